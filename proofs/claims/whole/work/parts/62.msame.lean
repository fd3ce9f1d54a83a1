/-! 62: the model's same: it answers 1 -/
theorem PMx_P {A : SY} {pre : List Int32} {h h' : HP} (hp : PMx A pre h) (g : ag sA h h') : PMx A pre h' := by
  have fr : ∀ f, 74 ≤ f → f ≤ 84 → h' f 0 = h f 0 := fun f f1 f2 => row_ag g f 0 fun k => by
    have e1 : Nat.ble f 73 = false := by
      cases hb : Nat.ble f 73 with
      | false => rfl
      | true => have := Nat.le_of_ble_eq_true hb; omega
    have e2 : Nat.beq f 10 = false := by
      cases hb : Nat.beq f 10 with
      | false => rfl
      | true => have := Nat.eq_of_beq_eq_true hb; omega
    simp [sA, e1, e2]
  obtain ⟨a1, a2, a3, a4, a5⟩ := hp
  exact ⟨by rw [g 10 0 55 (by decide)]; exact a1, PMk_co a2 fun f f1 f2 => fr f (by omega) (by omega), PMs_co a3 fun f f1 f2 => fr f (by omega) (by omega), by rw [g 10 0 66 (by decide)]; exact a4, by rw [g 10 0 67 (by decide)]; exact a5⟩
/-- the last check: cells of all parts -/
theorem s_sameEnd (A : SY) (v x1 x2 x3 : Int32) (h0 : HP) (Q : Option AV → HP → Prop) (hY : YW A) (hs : SRT A (sod A)) (hv : isFl A v) (H : ∀ h', ag sP h0 h' → Q (some (0, 1)) h') (hM0 : MD 0 A h0) (hF0 : FH A.1 v h0) :
    ∀ (m p : Nat) (P : Nat) (h : HP), nP A = nI P → P ≤ 12 → p + m = P → ag sP h0 h → PMx A (sod A) h → WPc 148 242 [(10, 0), (0, x1), (0, x2), (0, x3), (0, nI p), (500, 0)] [] h Q := by
  intro m
  induction m with
  | zero =>
    intro p P h hP hP12 e g hp
    have ep : p = P := by omega
    subst ep
    have M := MD_ag hM0 (ag_PS g)
    have e0 : h 10 0 0 = nI p := (M.1 10 0 rfl).trans hP
    refine b148_242 _ _ _ _ h Q ⟨fun z => absurd (hp.2.2.2.1.symm.trans z) one0, fun _ => ⟨fun _ => ⟨fun z => absurd (hp.2.2.2.1.symm.trans z) one0, fun _ => H h g⟩, fun z => absurd (by rw [e0]; exact Int32.le_refl _) z⟩⟩
  | succ m ih =>
    intro p P h hP hP12 e g hp
    have M := MD_ag hM0 (ag_PS g)
    have e0 : h 10 0 0 = nI P := (M.1 10 0 rfl).trans hP
    have ip : ina (nI p) (nP A) := by rw [hP]; exact ⟨nJ_nn (by omega), (nJ_lt (by omega) (by omega)).mpr (by omega)⟩
    have ip12 : ina (nI p) 12 := ⟨ip.1, Int32.lt_of_lt_of_le ip.2 hY.1.1.1.1.2⟩
    refine b148_242 _ _ _ _ h Q ⟨fun z => absurd (hp.2.2.2.1.symm.trans z) one0, fun _ => ⟨fun z => ?_, fun _ => ?_⟩⟩
    · rw [e0, nJ_le (by omega) (by omega)] at z
      exfalso; omega
    · refine s_settledOf A v (nI p) h _ hY M ip12 hv (FH_P hF0 g) (b148_267 _ _ _ _ _ _ h Q ?_)
      refine s_stateP A (nI p) (sdn A (nI p)) _ h _ hY M ip (sdn_eq A _) fun h1 g1 z1 => b148_270 _ _ _ _ h1 Q ?_
      have hp1 := PMx_P hp g1
      have g01 := ag_tr g (ag_AP g1)
      have eqs : ∀ c, ina c 4 → h1 69 0 c = h1 82 0 (4 * nI p + c) := fun c hc => by
        rw [z1.1 c hc, (hp1.2.2.1 (nI p) ip12).1 c hc]
        show _ = (rp A.1 (nI p) ((sod A).filter fun d => decide (pa A d = nI p))).1 c
        rw [sod_dn hY hs]
      have loop : ∀ (k c : Nat) (h2 : HP), c + k = 4 → (h2 10 0 66 = 1 ∧ ∀ f j x, ¬ (f = 10 ∧ x = 66) → h2 f j x = h1 f j x) → WPc 148 273 [(10, 0), (0, x1), (0, x2), (0, x3), (0, nI p), (0, nI c)] [] h2 Q := by
        intro k
        induction k with
        | zero =>
          intro c h2 ec hh
          have ec : c = 4 := by omega
          subst ec
          refine b148_273 _ _ _ _ _ h2 Q ⟨fun _ => ?_, fun z => absurd (by decide) z⟩
          rw [← nJ_s]
          have g12 : ag sP h1 h2 := fun f j x z => hh.2 f j x fun q => by rw [q.1, q.2] at z; exact absurd z (by decide)
          refine ih (p + 1) P h2 hP hP12 (by omega) (ag_tr g01 g12) ⟨?_, ?_, ?_, hh.1, ?_⟩
          · rw [hh.2 10 0 55 (by decide)]; exact hp1.1
          · exact PMk_co hp1.2.1 fun f f1 f2 => by funext x; exact hh.2 f 0 x fun q => by omega
          · exact PMs_co hp1.2.2.1 fun f f1 f2 => by funext x; exact hh.2 f 0 x fun q => by omega
          · rw [hh.2 10 0 67 (by decide)]; exact hp1.2.2.2.2
        | succ k ihk =>
          intro c h2 ec hh
          have hc4 : c < 4 := by omega
          have ic : ina (nI c) 4 := ⟨nJ_nn (by omega), (nJ_lt (b := 4) (by omega) (by omega)).mpr hc4⟩
          refine b148_273 _ _ _ _ _ h2 Q ⟨fun z => ?_, fun _ => ⟨fun z => absurd (hh.1.symm.trans z) one0, fun _ => ⟨ic, i48 ip12 hc4, fun z => absurd ?_ z, fun _ => ⟨Or.inr rfl, ?_⟩⟩⟩⟩
          · exfalso
            have := ic.2
            grind
          · rw [hh.2 69 0 _ (fun q => absurd q.1 (by decide)), hh.2 82 0 _ (fun q => absurd q.1 (by decide))]
            exact eqs _ ic
          · rw [← nJ_s]
            exact ihk (c + 1) _ (by omega) ⟨up_at, fun f j x hx => by rw [up_n (fun q => hx ⟨q.1, q.2.2⟩)]; exact hh.2 f j x hx⟩
      exact loop 4 0 h1 (by omega) ⟨hp1.2.2.2.1, fun _ _ _ _ => rfl⟩
theorem s_sameRun (A : SY) (v : Int32) (h0 : HP) (Q : Option AV → HP → Prop) (hY : YW A) (hs : SRT A (sod A)) (hv : isFl A v) (H : ∀ h', ag sP h0 h' → Q (some (0, 1)) h') (hM0 : MD 0 A h0) (hF0 : FH A.1 v h0) (hS0 : SET A (sod A) h0) :
    ∀ (rest pre : List Int32) (h : HP), sod A = pre ++ rest → ag sP h0 h → PMx A pre h → ∀ Q' : Option AV → HP → Prop, (∀ x h', WPc 148 147 [(10, 0), (0, nI pre.length), (0, nI (pre.filter (fld A)).length), (0, x), (500, 0), (500, 0)] [] h' Q → Q' (some (0, x)) h') →
      WPm 146 [(10, 0)] h Q' := by
  intro rest
  induction rest with
  | nil =>
    intro pre h e g hp Q' K
    rw [List.append_nil] at e
    subst e
    have M := MD_ag hM0 (ag_PS g)
    have hF := FH_P hF0 g
    have hS := SET_P hS0 g
    have ol := outL_len A (sod A)
    have pl := PL_len hY hs (pre := sod A) (rest := []) (by simp)
    refine s_nextPlain A v (PLn A (sod A)) (sod A) h _ hv hF hp.1 pl hp.2.1 (fun _ => ?_) (fun j hj hc _ => ?_)
    · refine K _ h ?_
      obtain ⟨P, hP, hP12⟩ := nJ_exlt (N := 13) (i := nP A) (by decide) hY.1.1.1.1.1 (Int32.lt_of_le_of_lt hY.1.1.1.1.2 (by decide))
      refine b148_147 _ _ _ h Q ⟨fun _ => ⟨fun z => absurd (hp.2.2.2.1.symm.trans z) one0, fun _ => ⟨fun z => absurd rfl z, fun _ => ⟨fun z => absurd hS.1.symm z, fun _ => ⟨fun z => absurd hS.2.2.2.symm z, fun _ => ⟨fun z => absurd ?_ z, fun _ => ⟨Or.inr rfl, ?_⟩⟩⟩⟩⟩⟩, fun z => absurd rfl z⟩
      · rw [hp.2.2.2.2, hS.2.2.1, ol]
      · refine s_sameEnd A v _ _ _ h0 Q hY hs hv H hM0 hF0 P 0 P _ hP (by omega) (by omega) (ag_tr g (ag_up ag_rf (by decide))) ⟨?_, ?_, ?_, up_at, ?_⟩
        · rw [up_n (by decide)]; exact hp.1
        · exact PMk_co hp.2.1 fun f f1 f2 => by rw [upfam (by omega)]
        · exact PMs_co hp.2.2.1 fun f f1 f2 => by rw [upfam (by omega)]
        · rw [up_n (by decide)]; exact hp.2.2.2.2
    · exact absurd hc.2 (PL_end hY hs (List.getElem_mem hj) hc.1)
  | cons s rest ih =>
    intro pre h e g hp Q' K
    have M := MD_ag hM0 (ag_PS g)
    have hF := FH_P hF0 g
    have hS := SET_P hS0 g
    have pl := PL_len hY hs (pre := pre) (rest := s :: rest) e
    have sb := sod_b hY hs
    have lt : pre.length < (sod A).length := by rw [e]; simp
    have hS' := (hs.1 s).mp (by rw [e]; simp)
    have snp : ¬ s ∈ pre := fun q => by
      have pw := hs.2
      rw [e] at pw
      exact bel_irr ((List.pairwise_append.mp pw).2.2 s q s (by simp))
    refine s_nextPlain A v (PLn A pre) pre h _ hv hF hp.1 pl hp.2.1 (fun no => ?_) (fun j hj hc mn => ?_)
    · exact absurd ⟨snp, hS'.2.2⟩ (no s (PL_next hY hs e))
    · refine K _ h ?_
      have js : (PLn A pre)[j] = s := Classical.byContradiction fun ns => mn s (PL_next hY hs e) ⟨snp, hS'.2.2⟩ (PL_min hY hs e (List.getElem_mem hj) hc.1 hc.2 ns)
      have jn : ¬ nI j = -1 := fun z => by
        have := nJ_nn (n := j) (by omega)
        rw [z] at this; exact absurd this (by decide)
      refine b148_147 _ _ _ h Q ⟨fun z => absurd z jn, fun _ => ⟨fun z => ?_, fun _ => ?_⟩⟩
      · rw [hS.1, nJ_le (by omega) (by omega)] at z
        exfalso; omega
      · refine s_plainDoes A s pre rest j h _ hY hs e M hS hp hj js fun h1 g1 hp1 h38 => b148_165 _ _ _ h1 Q ?_
        have nx := ih (pre ++ [s]) h1 (by rw [e]; simp) (ag_tr g g1) hp1
        rw [List.length_append] at nx
        rw [h38]
        refine ⟨fun z => ?_, fun z => ?_⟩
        · have ef : (pre ++ [s]).filter (fld A) = pre.filter (fld A) := by
            rw [List.filter_append, List.filter_cons_of_neg (by simp [fld, z])]; simp
          rw [ef] at nx
          refine nx _ fun x h' hw => b148_187 _ _ _ _ h' Q ?_
          rw [← nJ_s, Int32.add_zero]; exact hw
        · have ef : ((pre ++ [s]).filter (fld A)).length = (pre.filter (fld A)).length + 1 := by
            rw [List.filter_append, List.filter_cons_of_pos (by simp [fld, z])]; simp
          rw [ef] at nx
          refine nx _ fun x h' hw => b148_187 _ _ _ _ h' Q ?_
          rw [← nJ_s, ← nJ_s]; exact hw
theorem PMs0 {A : SY} {h : HP} (z : ∀ q, ina q 12 → (∀ c, ina c 4 → h 82 0 (4 * q + c) = 0) ∧ h 83 0 q = 0 ∧ h 84 0 q = 0) : PMs A [] h := fun q hq => z q hq
theorem M_same (A : SY) (h : HP) (Q : Option AV → HP → Prop) (hY : YW A) (hM : MD 0 A h) (H : ∀ h', ag sS h h' → Q (some (0, 1)) h') : WPm 148 [(10, 0)] h Q := by
  obtain ⟨N, hN, hN4⟩ := nE_nat hY.1
  refine b148_0 h Q (s_settle A h _ hY hM fun v h1 g1 hv hF hs hS => b148_4 h1 Q ⟨Or.inr rfl, ?_⟩)
  generalize hH2 : up (up (up h1 10 0 66 1) 10 0 55 0) 10 0 67 0 = h2
  have g2 : ag sP h1 h2 := by
    rw [← hH2]
    exact ag_up (ag_up (ag_up ag_rf (by decide)) (by decide)) (by decide)
  have M2 : MD 0 A h2 := MD_ag (MD_ag hM (ag_TS g1)) (ag_PS g2)
  have F2 := FH_P hF g2
  have S2 := SET_P hS g2
  have v66 : h2 10 0 66 = 1 := by rw [← hH2, up_n (by decide), up_n (by decide), up_at]
  have v55 : h2 10 0 55 = 0 := by rw [← hH2, up_n (by decide), up_at]
  have v67 : h2 10 0 67 = 0 := by rw [← hH2, up_at]
  have H2 : ∀ h', ag sP h2 h' → Q (some (0, 1)) h' := fun h' g => H h' (ag_tr (ag_TS g1) (ag_PS (ag_tr g2 g)))
  -- the starts
  have loopS : ∀ (m k : Nat) (h' : HP), k + m = N → ag sP h2 h' → (∀ x, ¬ x = 55 → h' 10 0 x = h2 10 0 x) → PMs A [] h' → h' 10 0 55 = nI (((List.range k).map nI).filter fun e => decide (A.1 57 e = -1)).length → PMk A (((List.range k).map nI).filter fun e => decide (A.1 57 e = -1)) [] h' →
      WPc 148 73 [(10, 0), (0, nI k), (500, 0), (500, 0), (500, 0), (500, 0)] [] h' Q := by
    intro m
    induction m with
    | zero =>
      intro k h' e g kx ps e55 pk
      have ek : k = N := by omega
      subst ek
      have M := MD_ag M2 (ag_PS g)
      have e13 : h' 10 0 13 = nI k := (M.1 10 13 rfl).trans hN
      have es : (((List.range k).map nI).filter fun e => decide (A.1 57 e = -1)) = PLn A [] := by
        unfold PLn sts
        rw [hN, show (nI k).toNatClampNeg = k from Int32.toNatClampNeg_ofNat_of_lt (by omega)]
        simp
      rw [es] at e55 pk
      refine b148_73 _ h' Q ⟨fun _ => ?_, fun z => absurd (by rw [e13]; exact Int32.le_refl _) z⟩
      exact s_sameRun A v h2 Q hY hs hv H2 M2 F2 S2 (sod A) [] h' rfl g ⟨e55, pk, ps, by rw [kx 66 (by decide)]; exact v66, by rw [kx 67 (by decide)]; exact v67⟩ _ fun x h'' hw => b148_146 _ _ _ h'' Q hw
    | succ m ih =>
      intro k h' e g kx ps e55 pk
      have M := MD_ag M2 (ag_PS g)
      have e13 : h' 10 0 13 = nI N := (M.1 10 13 rfl).trans hN
      have ki : ina (nI k) (nE A) := by rw [hN]; exact (ina_nat hN4).mpr ⟨k, by omega, rfl⟩
      have gk := ga hY.1 ki
      have lk : (((List.range k).map nI).filter fun e => decide (A.1 57 e = -1)).length ≤ k := by
        have := List.length_filter_le (fun e => decide (A.1 57 e = -1)) ((List.range k).map nI)
        simpa using this
      have es : ((List.range (k + 1)).map nI).filter (fun e => decide (A.1 57 e = -1)) = (((List.range k).map nI).filter fun e => decide (A.1 57 e = -1)) ++ (if A.1 57 (nI k) = -1 then [nI k] else []) := by
        rw [List.range_succ, List.map_append, List.filter_append]
        congr 1
        by_cases y : A.1 57 (nI k) = -1
        · simp [y]
        · simp [y]
      generalize (((List.range k).map nI).filter fun e => decide (A.1 57 e = -1)) = L at e55 pk lk es
      refine b148_73 _ h' Q ⟨fun z => ?_, fun _ => ?_⟩
      · rw [e13, nJ_le (by omega) (by omega)] at z
        exfalso; omega
      · rw [M.1 57 (nI k) rfl, M.1 54 (nI k) rfl, M.1 55 (nI k) rfl, M.1 58 (nI k) rfl]
        refine ⟨gk.1, fun z => ?_, fun z => ⟨gk.1, gk.1, gk.1, ?_⟩⟩
        · rw [← nJ_s]
          refine ih (k + 1) h' (by omega) g kx ps ?_ ?_
          · rw [es, if_neg z, List.append_nil]; exact e55
          · rw [es, if_neg z, List.append_nil]; exact pk
        · have iL := i37 (k := L.length) (by omega)
          refine b144_0 _ _ _ _ _ h' _ ?_
          rw [e55]
          refine ⟨iL, iL, iL, iL, iL, iL, Or.inl rfl, b148_115 _ _ Q ⟨gk.1, ?_⟩⟩
          rw [up_at, show nI L.length + 1 - 1 = nI L.length by grind]
          refine ⟨iL, ?_⟩
          have v59 : (up (up (up (up (up (up (up h' 75 0 (nI L.length) (A.1 54 (nI k))) 76 0 (nI L.length) (A.1 55 (nI k))) 77 0 (nI L.length) (-1)) 78 0 (nI L.length) (-1)) 79 0 (nI L.length) (A.1 58 (nI k))) 81 0 (nI L.length) 0) 10 0 55 (nI L.length + 1)) 59 0 (nI k) = A.1 59 (nI k) := by
            rw [upfam (by decide), upfam (by decide), upfam (by decide), upfam (by decide), upfam (by decide), upfam (by decide), upfam (by decide)]; exact M.1 59 _ rfl
          rw [v59, ← nJ_s k]
          generalize hH : (up (up (up (up (up (up (up (up h' 75 0 (nI L.length) (A.1 54 (nI k))) 76 0 (nI L.length) (A.1 55 (nI k))) 77 0 (nI L.length) (-1)) 78 0 (nI L.length) (-1)) 79 0 (nI L.length) (A.1 58 (nI k))) 81 0 (nI L.length) 0) 10 0 55 (nI L.length + 1)) 80 0 (nI L.length) (A.1 59 (nI k))) = H3
          have be : A.1 56 (nI k) = -1 := by
            rcases hY.1.2.2.2.2.2.1 (nI k) ki with y | y
            · exact y.2.1
            · rw [z] at y; exact absurd y.1 (by decide)
          refine ih (k + 1) H3 (by omega) ?_ (fun x hx => ?_) ?_ ?_ ?_
          · rw [← hH]
            exact ag_up (ag_up (ag_up (ag_up (ag_up (ag_up (ag_up (ag_up g rfl) rfl) rfl) rfl) rfl) rfl) (by decide)) rfl
          · rw [← hH, upfam (by decide), up_n (fun q => hx q.2.2), upfam (by decide), upfam (by decide), upfam (by decide), upfam (by decide), upfam (by decide), upfam (by decide)]
            exact kx x hx
          · exact PMs_co ps fun f f1 f2 => by rw [← hH, upfam (by omega), upfam (by omega), upfam (by omega), upfam (by omega), upfam (by omega), upfam (by omega), upfam (by omega), upfam (by omega)]
          · rw [es, if_pos z, ← hH, upfam (by decide), up_at, List.length_append]
            exact (nJ_s _).symm
          · rw [es, if_pos z]
            refine PMk_snoc pk (by omega) H3 (fun g' f1 f2 k' hk' => ?_) ⟨?_, ?_, ?_, ?_, ?_, ?_, ?_⟩ (by simp)
            · have nk : ¬ nI k' = nI L.length := fun q => by have := nJ_inj (by omega) (by omega) q; omega
              rw [← hH, up_n (fun q => nk q.2.2), up_n (fun q => by omega), up_n (fun q => nk q.2.2), up_n (fun q => nk q.2.2), up_n (fun q => nk q.2.2), up_n (fun q => nk q.2.2), up_n (fun q => nk q.2.2), up_n (fun q => nk q.2.2)]
            · rw [← hH]; simp [up, pa]
            · rw [← hH]; simp [up]
            · rw [← hH]; simp [up]; exact be.symm
            · rw [← hH]; simp [up]; exact z.symm
            · rw [← hH]; simp [up]
            · rw [← hH]; simp [up]
            · rw [← hH]; simp [up]
  -- the zeros
  have loopC : ∀ (p : Nat) (hp : p < 12) (K : ∀ h', ag sP h2 h' → (∀ x, h' 10 0 x = h2 10 0 x) → (∀ q, q < p + 1 → (∀ c, c < 4 → h' 82 0 (4 * nI q + nI c) = 0) ∧ h' 83 0 (nI q) = 0 ∧ h' 84 0 (nI q) = 0) → WPc 148 21 [(10, 0), (0, nI p + 1), (500, 0), (500, 0), (500, 0), (500, 0)] [] h' Q) (m c : Nat) (h' : HP), c + m = 4 → ag sP h2 h' → (∀ x, h' 10 0 x = h2 10 0 x) → (∀ q, q < p → (∀ c, c < 4 → h' 82 0 (4 * nI q + nI c) = 0)) → (∀ q, q < p + 1 → h' 83 0 (nI q) = 0 ∧ h' 84 0 (nI q) = 0) → (∀ i, i < c → h' 82 0 (4 * nI p + nI i) = 0) → WPc 148 43 [(10, 0), (0, nI p), (0, nI c), (500, 0), (500, 0), (500, 0)] [] h' Q := by
    intro p hp K m
    have ip : ina (nI p) 12 := ⟨nJ_nn (by omega), (nJ_lt (b := 12) (by omega) (by omega)).mpr hp⟩
    induction m with
    | zero =>
      intro c h' e g kx z1 z2 z3
      have ec : c = 4 := by omega
      subst ec
      refine b148_43 _ _ h' Q ⟨fun _ => K h' g kx fun q hq => ⟨fun c hc => ?_, z2 q hq⟩, fun z => absurd (by decide) z⟩
      by_cases y : q = p
      · subst y; exact z3 c hc
      · exact z1 q (by omega) c hc
    | succ m ih =>
      intro c h' e g kx z1 z2 z3
      have hc4 : c < 4 := by omega
      refine b148_43 _ _ h' Q ⟨fun z => ?_, fun _ => ⟨i48 ip hc4, ?_⟩⟩
      · have : nI c < nI 4 := (nJ_lt (by omega) (by omega)).mpr hc4
        have : nI 4 = 4 := rfl
        exfalso; grind
      · rw [← nJ_s]
        refine ih (c + 1) _ (by omega) (ag_up g rfl) (fun x => by rw [upfam (by decide)]; exact kx x) (fun q hq c' hc' => ?_) (fun q hq => ?_) (fun i hi => ?_)
        · have iq : ina (nI q) 12 := ⟨nJ_nn (by omega), (nJ_lt (b := 12) (by omega) (by omega)).mpr (by omega)⟩
          rw [uprow, vpd_ne _ _ (fun y => by have := nJ_inj (by omega) (by omega) (ar_16 iq ip hc' hc4 y).1; omega)]
          exact z1 q hq c' hc'
        · rw [upfam (by decide), upfam (by decide)]; exact z2 q hq
        · rw [uprow]
          by_cases y : i = c
          · subst y; exact vpd_eq _ _ _
          · rw [vpd_ne _ _ (fun w => y (ar_16 ip ip (by omega) hc4 w).2)]
            exact z3 i (by omega)
  have loopP : ∀ (m p : Nat) (h' : HP), p + m = 12 → ag sP h2 h' → (∀ x, h' 10 0 x = h2 10 0 x) → (∀ q, q < p → (∀ c, c < 4 → h' 82 0 (4 * nI q + nI c) = 0) ∧ h' 83 0 (nI q) = 0 ∧ h' 84 0 (nI q) = 0) → WPc 148 21 [(10, 0), (0, nI p), (500, 0), (500, 0), (500, 0), (500, 0)] [] h' Q := by
    intro m
    induction m with
    | zero =>
      intro p h' e g kx z
      have ep : p = 12 := by omega
      subst ep
      refine b148_21 _ h' Q ⟨fun _ => ?_, fun y => absurd (by decide) y⟩
      refine loopS N 0 h' (by omega) g (fun x _ => kx x) (PMs0 fun q hq => ?_) (by rw [kx]; exact v55) (fun k hk => by simp at hk)
      obtain ⟨n, rfl, hn⟩ := nJ_exlt (N := 12) (by decide) hq.1 hq.2
      refine ⟨fun c hc => ?_, (z n hn).2⟩
      obtain ⟨c', rfl, hc'⟩ := ina4 hc
      exact (z n hn).1 c' hc'
    | succ m ih =>
      intro p h' e g kx z
      have hp : p < 12 := by omega
      have ip : ina (nI p) 12 := ⟨nJ_nn (by omega), (nJ_lt (b := 12) (by omega) (by omega)).mpr hp⟩
      refine b148_21 _ h' Q ⟨fun y => ?_, fun _ => ⟨ip, ip, ?_⟩⟩
      · have : nI p < nI 12 := (nJ_lt (by omega) (by omega)).mpr hp
        have : nI 12 = 12 := rfl
        exfalso; grind
      · refine loopC p hp (fun h3 g3 kx3 z3 => by rw [← nJ_s]; exact ih (p + 1) h3 (by omega) g3 kx3 z3) 4 0 _ (by omega) (ag_up (ag_up g rfl) rfl) (fun x => by rw [upfam (by decide), upfam (by decide)]; exact kx x) (fun q hq c hc => ?_) (fun q hq => ?_) (fun i hi => by omega)
        · rw [upfam (by decide), upfam (by decide)]; exact (z q hq).1 c hc
        · by_cases y : q = p
          · subst y
            exact ⟨by rw [upfam (by decide), up_at], up_at⟩
          · have nq : ¬ nI q = nI p := fun w => y (nJ_inj (by omega) (by omega) w)
            rw [upfam (by decide), up_n (fun w => nq w.2.2), up_n (fun w => nq w.2.2), upfam (by decide)]
            exact (z q (by omega)).2
  exact loopP 12 0 h2 (by omega) ag_rf (fun _ => rfl) (fun q hq => by omega)
