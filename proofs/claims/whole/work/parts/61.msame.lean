/-! 61: the model's same, on -/
def frO (h h' : HP) : Prop := ∀ (f : Nat) (k : Int32), ¬ (f = 10 ∧ (k = 54 ∨ k = 66 ∨ k = 67)) → ∀ j, h' f j k = h f j k
theorem frO_P {h h' : HP} (g : frO h h') : ag sP h h' := fun f j k z => g f k (fun q => by
  rcases q with ⟨rfl, rfl | rfl | rfl⟩ <;> exact absurd z (by decide)) j
theorem frO_tr {h h' h'' : HP} (a : frO h h') (b : frO h' h'') : frO h h'' := fun f k z j => (b f k z j).trans (a f k z j)
theorem s_plPrints (A : SY) (s p x1 x3 : Int32) (pre rest : List Int32) (w : WK) (h0 : HP) (Q : Option AV → HP → Prop) (hY : YW A) (hs : SRT A (sod A)) (e : sod A = pre ++ s :: rest) (hpa : pa A s = p) (hpr : w.2.2.2.2.2 = pr A s) (hM0 : MD 0 A h0) (hS0 : SET A (sod A) h0) (hz0 : ZM w h0) (hx1 : ina x1 3700) (h76 : h0 76 0 x1 = A.1 55 s)
    (K : ∀ h', frO h0 h' → h' 10 0 66 = 1 → h' 10 0 67 = nI (outL A (pre ++ [s])).length → Q none h') :
    ∀ (r N : List Int32) (h : HP), pr A s = N ++ r → frO h0 h → h 10 0 66 = 1 → h 10 0 67 = nI ((outL A pre).length + N.length) → WPc 147 206 [(10, 0), (0, x1), (0, p), (0, x3), (0, nI N.length), (500, 0)] [] h Q := by
  have sb := sod_b hY hs
  have ol := outL_len A (sod A)
  have lpre : (outL A pre).length + (pr A s).length ≤ 3200 := by
    have : outL A (sod A) = outL A pre ++ (((pr A s).map fun x => (pa A s, A.1 55 s, x)) ++ outL A rest) := by
      rw [e, outL_app]; rfl
    have l := congrArg List.length this
    rw [List.length_append, List.length_append, List.length_map] at l
    omega
  have snocl : (outL A (pre ++ [s])).length = (outL A pre).length + (pr A s).length := by
    rw [outL_app, List.length_append]
    congr 1
    simp [outL]
  intro r
  induction r with
  | nil =>
    intro N h eN g h66 h67
    rw [List.append_nil] at eN
    have e43 : h 10 0 43 = nI N.length := by rw [g 10 43 (by decide), hz0.2.2.2.2.2.1, hpr, eN]
    refine b147_206 _ _ _ _ h Q ⟨fun _ => K h g h66 ?_, fun z => absurd (by rw [e43]; exact Int32.le_refl _) z⟩
    rw [h67, snocl, eN]
  | cons x r ih =>
    intro N h eN g h66 h67
    have p8 := (hY.2.1 s).1
    have gS := ag_PS (frO_P g)
    have M := MD_ag hM0 gS
    have hS := SET_P hS0 (frO_P g)
    have hN : N.length < (pr A s).length := by rw [eN]; simp
    have e43 : h 10 0 43 = nI (pr A s).length := by rw [g 10 43 (by decide), hz0.2.2.2.2.2.1, hpr]
    have e52 : h 10 0 52 = nI (outL A (sod A)).length := by rw [ol]; exact hS.2.2.1
    have lt : (outL A pre).length + N.length < (outL A (sod A)).length := by
      have : outL A (sod A) = outL A pre ++ (((pr A s).map fun x => (pa A s, A.1 55 s, x)) ++ outL A rest) := by
        rw [e, outL_app]; rfl
      have l := congrArg List.length this
      rw [List.length_append, List.length_append, List.length_map] at l
      omega
    have at' : (outL A (sod A))[(outL A pre).length + N.length] = (pa A s, A.1 55 s, x) := by
      have e1 : outL A (sod A) = outL A pre ++ (((pr A s).map fun x => (pa A s, A.1 55 s, x)) ++ outL A rest) := by
        rw [e, outL_app]; rfl
      simp only [e1]
      rw [List.getElem_append_right (by omega), List.getElem_append_left (by rw [List.length_map]; omega), List.getElem_map]
      simp only [eN]
      simp
    refine b147_206 _ _ _ _ h Q ⟨fun z => ?_, fun _ => ⟨fun z => ?_, fun _ => ?_⟩⟩
    · rw [e43, nJ_le (by omega) (by omega)] at z
      exfalso; omega
    · rw [e52, h67, nJ_le (by omega) (by omega)] at z
      exfalso; omega
    · rw [h67]
      refine s_outOf A _ h _ hY M hs hS lt fun e' j h2 he hj eo h54 fr => ?_
      rw [at'] at eo
      have q1 : pa A s = pa A e' := congrArg Prod.fst eo
      have q2 : A.1 55 s = A.1 55 e' := congrArg (fun t => t.2.1) eo
      have q3 : x = (pr A e')[j] := congrArg (fun t => t.2.2) eo
      have he4 := (sb.2.1 e' he).2
      have en : ¬ e' = -1 := fun z => by rw [z] at he4; exact absurd he4.1 (by decide)
      have g2 : frO h h2 := fun f k hk j => fr f k (fun q => hk ⟨q.1, Or.inl q.2⟩) j
      have M2 := MD_ag M (ag_PS (frO_P g2))
      have p8' := (hY.2.1 e').1
      have g02 := frO_tr g g2
      have v73 : h2 73 0 (nI N.length) = x := by
        rw [g02 73 _ (fun q => absurd q.1 (by decide))]
        have := hz0.2.2.2.2.2.2
        rw [hpr, eN] at this
        have := (LSq_app.mp this).2.1
        rwa [Int32.zero_add] at this
      have v76 : h2 76 0 x1 = A.1 55 s := by rw [g02 76 _ (fun q => absurd q.1 (by decide))]; exact h76
      have v66 : h2 10 0 66 = 1 := by rw [fr 10 66 (by decide)]; exact h66
      have v67 : h2 10 0 67 = nI ((outL A pre).length + N.length) := by rw [fr 10 67 (by decide)]; exact h67
      have v64 : h2 64 0 (8 * e' + nI j) = x := by rw [LSq_get (M2.2.2.1 e' he4).2 j hj]; exact q3.symm
      have i1 : ina (8 * e' + nI j) 3200 := i8 he4 (by omega)
      refine b147_234 _ _ _ _ _ h2 Q ?_
      rw [v66, h54, v64, v73, v76, v67, M2.1 54 e' rfl, M2.1 55 e' rfl]
      refine ⟨fun z => absurd z one0, fun _ => ⟨fun z => absurd z en, fun _ => ⟨he4, fun z => absurd (by rw [← hpa]; exact q1.symm) z, fun _ => ⟨he4, hx1, fun z => absurd q2.symm z, fun _ => ⟨i1, nI8 (by omega), fun z => absurd rfl z, fun _ => ⟨Or.inr rfl, ?_⟩⟩⟩⟩⟩⟩
      have := ih (N ++ [x]) (up (up h2 10 0 66 1) 10 0 67 (nI ((outL A pre).length + N.length) + 1)) (by rw [eN]; simp) (fun f k hk j' => ?_) ?_ ?_
      · rw [List.length_append] at this
        rw [← nJ_s]; exact this
      · rw [up_n (fun q => hk ⟨q.1, Or.inr (Or.inr q.2.2)⟩), up_n (fun q => hk ⟨q.1, Or.inr (Or.inl q.2.2)⟩)]
        exact g02 f k hk j'
      · rw [up_n (by decide), up_at]
      · rw [up_at, ← nJ_s, List.length_append]
        congr 1
def PMx (A : SY) (pre : List Int32) (h : HP) : Prop := h 10 0 55 = nI (PLn A pre).length ∧ PMk A (PLn A pre) pre h ∧ PMs A pre h ∧ h 10 0 66 = 1 ∧ h 10 0 67 = nI (outL A pre).length
theorem s_plainDoes (A : SY) (s : Int32) (pre rest : List Int32) (j : Nat) (h : HP) (Q : Option AV → HP → Prop) (hY : YW A) (hs : SRT A (sod A)) (e : sod A = pre ++ s :: rest) (hM : MD 0 A h) (hS : SET A (sod A) h) (hP : PMx A pre h) (hj : j < (PLn A pre).length) (hjs : (PLn A pre)[j] = s)
    (H : ∀ h', ag sP h h' → PMx A (pre ++ [s]) h' → h' 10 0 38 = A.1 62 s → Q none h') : WPm 147 [(10, 0), (0, nI j)] h Q := by
  obtain ⟨p55, pk, ps, p66, p67⟩ := hP
  have hS' := (hs.1 s).mp (by rw [e]; simp)
  have gg := ga hY.1 hS'.1
  have r1 := hY.1.1.1
  have pl := PL_len hY hs (pre := pre) (rest := s :: rest) e
  have pl2 := PL_len hY hs (pre := pre ++ [s]) (rest := rest) (by rw [e]; simp)
  have pn2 := PL_nd hY hs (pre := pre ++ [s]) (rest := rest) (by rw [e]; simp)
  have ePL : PLn A (pre ++ [s]) = PLn A pre ++ se A s := by unfold PLn; rw [List.flatMap_append]; simp
  have ij := i37 (k := j) (by omega)
  obtain ⟨k1, k2, k3, k4, k5, k6, k7⟩ := pk j hj
  rw [hjs] at k1 k2 k3 k4 k5 k6 k7
  have psP := ps (pa A s) gg.2.1
  have RS := pof_RES hY hs e
  refine b147_0 _ h Q ⟨ij, ?_⟩
  rw [k1]
  refine s_plLoad (pa A s) (nI j) (rp A.1 (pa A s) (pof A (pa A s) pre)) h Q gg.2.1 psP.1 (fun h1 g1 fr1 c1 => ?_) 4 0 h (by omega) ag_rf (fun _ _ => rfl) (fun i hi => by omega)
  refine b147_9 _ _ _ h1 Q ⟨fun _ => ?_, fun z => absurd (by decide) z⟩
  rw [fr1 83 (by decide), fr1 84 (by decide), fr1 76 (by decide), fr1 80 (by decide), psP.2.1, psP.2.2, k2, k6]
  refine ⟨gg.2.1, gg.2.1, ij, ij, ?_⟩
  have g2 : ag sP h (up (up h1 10 0 36 (rp A.1 (pa A s) (pof A (pa A s) pre)).2.1) 10 0 37 (rp A.1 (pa A s) (pof A (pa A s) pre)).2.2) := ag_up (ag_up g1 (by decide)) (by decide)
  have M2 := MD_ag hM (ag_PS g2)
  refine s_acts A.1 (pa A s) (A.1 55 s) (A.1 59 s) (rp A.1 (pa A s) (pof A (pa A s) pre)) _ _ r1 M2.1 gg.2.1 (nP0 gg.2.2) ⟨fun c hc => ?_, ?_, ?_⟩ (rp_d r1 gg.2.1 _) fun h3 g3 z3 => b147_78 _ _ _ h3 Q ?_
  · rw [upfam (by decide), upfam (by decide)]; exact c1 c hc
  · rw [up_n (by decide), up_at]
  · rw [up_at]
  have fb := actsF_b (m := A.1 55 s) (v := A.1 59 s) r1 gg.2.1 (rp_d r1 gg.2.1 (pof A (pa A s) pre))
  have z3 : ZM (wAt A.1 (pa A s) (pof A (pa A s) pre) s) h3 := z3
  have g03 : ag sP h h3 := ag_tr g2 (ag_AP g3)
  have fr3 : ∀ f, 74 ≤ f → f ≤ 84 → h3 f = h f := fun f f1 f2 => by
    have : h3 f = up (up h1 10 0 36 (rp A.1 (pa A s) (pof A (pa A s) pre)).2.1) 10 0 37 (rp A.1 (pa A s) (pof A (pa A s) pre)).2.2 f := by
      funext jj
      exact row_ag g3 f jj fun k => by
        have e1 : Nat.ble f 73 = false := by
          cases hb : Nat.ble f 73 with
          | false => rfl
          | true => have := Nat.le_of_ble_eq_true hb; omega
        have e2 : Nat.beq f 10 = false := by
          cases hb : Nat.beq f 10 with
          | false => rfl
          | true => have := Nat.eq_of_beq_eq_true hb; omega
        simp [sA, e1, e2]
    rw [this, upfam (by omega), upfam (by omega), fr1 f (by omega)]
  have k3s : ∀ k : Int32, 44 ≤ k → h3 10 0 k = h 10 0 k := fun k hk => by
    have : sA 10 k = false := by
      have : ¬ k ≤ 43 := by grind
      simp [sA, this]
    rw [g3 10 0 k this, up_n (fun q => by rw [q.2.2] at hk; exact absurd hk (by decide)), up_n (fun q => by rw [q.2.2] at hk; exact absurd hk (by decide)), fr1 10 (by decide)]
  refine s_plStore (pa A s) (nI j) _ (stF (wAt A.1 (pa A s) (pof A (pa A s) pre) s)) h3 Q gg.2.1 (fun c hc => z3.1 c hc) (fun h4 g4 fr4 c4 o4 => ?_) 4 0 h3 (by omega) ag_rf (fun _ _ => rfl) (fun i hi => by omega) (fun _ _ _ _ _ => rfl)
  refine b147_81 _ _ _ _ h4 Q ⟨fun _ => ⟨gg.2.1, gg.2.1, ij, Or.inr rfl, ?_⟩, fun z => absurd (by decide) z⟩
  generalize hH5 : up (up (up h4 83 0 (pa A s) (h4 10 0 36)) 84 0 (pa A s) (h4 10 0 37)) 81 0 (nI j) 1 = h5
  have g5 : ag sP h h5 := by
    rw [← hH5]
    exact ag_up (ag_up (ag_up (ag_tr g03 g4) rfl) rfl) rfl
  have fr5 : ∀ f, ¬ f = 81 → ¬ f = 82 → ¬ f = 83 → ¬ f = 84 → h5 f = h3 f := fun f f1 f2 f3 f4 => by
    rw [← hH5, upfam f1, upfam f4, upfam f3, fr4 f f2]
  have z5 : ZM (wAt A.1 (pa A s) (pof A (pa A s) pre) s) h5 := ZM_co z3 (fun f f1 f2 => fr5 f (by omega) (by omega) (by omega) (by omega)) (fun k _ _ => by rw [fr5 10 (by decide) (by decide) (by decide) (by decide)])
  have sPre : ∀ x, x ∈ pre → x ∈ PLn A pre := fun x hx => PL_pre hY hs (rest := s :: rest) e x hx
  have ndL := PL_nd hY hs (pre := pre) (rest := s :: rest) e
  have pk5 : PMk A (PLn A pre) (pre ++ [s]) h5 := by
    intro k hk
    obtain ⟨a1, a2, a3, a4, a5, a6, a7⟩ := pk k hk
    rw [fr5 75 (by decide) (by decide) (by decide) (by decide), fr5 76 (by decide) (by decide) (by decide) (by decide), fr5 77 (by decide) (by decide) (by decide) (by decide), fr5 78 (by decide) (by decide) (by decide) (by decide), fr5 79 (by decide) (by decide) (by decide) (by decide), fr5 80 (by decide) (by decide) (by decide) (by decide), fr3 75 (by decide) (by decide), fr3 76 (by decide) (by decide), fr3 77 (by decide) (by decide), fr3 78 (by decide) (by decide), fr3 79 (by decide) (by decide), fr3 80 (by decide) (by decide)]
    refine ⟨a1, a2, a3, a4, a5, a6, ?_⟩
    rw [← hH5, uprow, upfam (by decide), upfam (by decide), fr4 81 (by decide), fr3 81 (by decide) (by decide)]
    by_cases y : k = j
    · subst y
      rw [vpd_eq, if_pos (by rw [hjs]; simp)]
    · have ns : ¬ (PLn A pre)[k] = s := fun q => y ((List.getElem_inj ndL).mp (q.trans hjs.symm))
      rw [vpd_ne _ _ (fun q => y (nJ_inj (by omega) (by omega) q)), a7]
      by_cases w : (PLn A pre)[k] ∈ pre
      · rw [if_pos w, if_pos (by simp [w])]
      · rw [if_neg w, if_neg (by simp [w, ns])]
  have ps5 : PMs A (pre ++ [s]) h5 := by
    intro q hq
    rw [pof_snoc]
    by_cases y : q = pa A s
    · subst y
      rw [if_pos rfl, rp_snoc]
      refine ⟨fun c hc => ?_, ?_, ?_⟩
      · rw [← hH5, upfam (by decide), upfam (by decide), upfam (by decide)]; exact c4 c hc
      · rw [← hH5, upfam (by decide), upfam (by decide), up_at, fr4 10 (by decide)]; exact z3.2.1
      · rw [← hH5, upfam (by decide), up_at, fr4 10 (by decide)]; exact z3.2.2.1
    · rw [if_neg (fun z => y z.symm)]
      have a := ps q hq
      refine ⟨fun c hc => ?_, ?_, ?_⟩
      · rw [← hH5, upfam (by decide), upfam (by decide), upfam (by decide), o4 q hq y c hc, fr3 82 (by decide) (by decide)]; exact a.1 c hc
      · rw [← hH5, upfam (by decide), upfam (by decide), up_n (fun z => y z.2.2), fr4 83 (by decide), fr3 83 (by decide) (by decide)]; exact a.2.1
      · rw [← hH5, upfam (by decide), up_n (fun z => y z.2.2), upfam (by decide), fr4 84 (by decide), fr3 84 (by decide) (by decide)]; exact a.2.2
  have k5s : ∀ k : Int32, 44 ≤ k → h5 10 0 k = h 10 0 k := fun k hk => by rw [fr5 10 (by decide) (by decide) (by decide) (by decide)]; exact k3s k hk
  have ho8 : (wAt A.1 (pa A s) (pof A (pa A s) pre) s).2.2.2.2.1.length ≤ 8 := fb.1
  rw [ePL, List.length_append] at pl2
  have fresh : ∀ f, f ∈ se A s → ¬ f ∈ pre ++ [s] := fun f hf q => by
    rw [ePL] at pn2
    have dj := (List.nodup_append.mp pn2).2.2
    rcases List.mem_append.mp q with y | y
    · exact dj f (sPre f y) f hf rfl
    · rw [List.mem_singleton] at y
      exact dj f (by rw [y]; exact PL_next hY hs e) f hf rfl
  have v76 : h5 76 0 (nI j) = A.1 55 s := by rw [fr5 76 (by decide) (by decide) (by decide) (by decide), fr3 76 (by decide) (by decide)]; exact k2
  refine s_plOuts A (pa A s) (A.1 55 s) (nI j) (rp A.1 (pa A s) (pof A (pa A s) pre)).2.2 _ (PLn A pre) (pre ++ [s]) (se A s) h5 Q ij ho8 pl2 RS.2.2 fresh (fun h6 x4 g6 fr6 k6 h655 pk6 h39 => ?_) v76 ⟨j, hj, rfl⟩ z5 _ [] [] (se A s) h5 rfl rfl rfl (by rw [show (rp A.1 (pa A s) (pof A (pa A s) pre)).2.2 + nI ([] : List Int32).length = (rp A.1 (pa A s) (pof A (pa A s) pre)).2.2 from Int32.add_zero _]; exact RS.2.2) ag_rf (fun _ _ _ => rfl) (fun _ _ => rfl) (by rw [List.append_nil, k5s 55 (by decide)]; exact p55) (by rw [List.append_nil]; exact pk5) v76
  refine b147_141 _ _ _ _ h6 Q ⟨fun _ => ?_, fun z => absurd h39 z⟩
  have z6 : ZM (wAt A.1 (pa A s) (pof A (pa A s) pre) s) h6 := ZM_co z5 (fun f f1 f2 => fr6 f (by omega) (by omega)) (fun k k1 k2 => k6 k (fun q => by rw [q] at k2; exact absurd k2 (by decide)))
  have g06 : ag sP h h6 := ag_tr g5 g6
  have hPk : PMk A (PLn A (pre ++ [s])) (pre ++ [s]) h6 := by rw [ePL]; exact pk6
  have v76' : h6 76 0 (nI j) = A.1 55 s := by
    have := (pk6 j (by rw [List.length_append]; omega)).2.1
    rw [this, List.getElem_append_left hj, hjs]
  refine s_plPrints A s (pa A s) (nI j) _ pre rest _ h6 Q hY hs e rfl RS.2.1.symm (MD_ag hM (ag_PS g06)) (SET_P hS g06) z6 ij v76' (fun h7 g7 q66 q67 => H h7 (ag_tr g06 (frO_P g7)) ⟨?_, ?_, ?_, q66, q67⟩ ?_) (pr A s) [] h6 rfl (fun _ _ _ _ => rfl) ?_ ?_
  · rw [g7 10 55 (by decide), ePL]; exact h655
  · exact PMk_co hPk fun f f1 f2 => by funext k; exact g7 f k (fun q => by omega) 0
  · refine PMs_co ps5 fun f f1 f2 => ?_
    funext k
    rw [g7 f k (fun q => by omega) 0, fr6 f (by omega) (by omega)]
  · rw [g7 10 38 (by decide), z6.2.2.2.1]; exact RS.1.symm
  · rw [k6 66 (by decide), k5s 66 (by decide)]; exact p66
  · rw [k6 67 (by decide), k5s 67 (by decide), p67]; rfl
