/-! 97: the class: what is out -/
def plX (f : Nat) (x : Int32) : Prop := f = 0 ∨ f = 1 ∨ f = 5 ∨ f = 7 ∨ (10 ≤ f ∧ f ≤ 24) ∨ (36 ≤ f ∧ f ≤ 38) ∨ f = 32 ∨ f = 33 ∨ 42 ≤ f ∨ ((f = 3 ∨ f = 26) ∧ ¬ x = 0) ∨ ((f = 8 ∨ f = 39) ∧ 12 ≤ x ∧ x < 100) ∨ ((f = 2 ∨ f = 25) ∧ 400 ≤ x)
theorem ar_26 {p e n : Int32} (hn : n ≤ 400) : (ina p 12 → ¬ 12 ≤ p) ∧ (ina e n → ¬ 100 + e < 100 ∧ ¬ 400 ≤ e) := by unfold ina; grind
/-- what leaves all that the class holds of the yard -/
theorem RC_fr {A : SY} {T : List Int32} {Z : Int32 → ZT} {od : List Int32} {h h' : HP} (hP : nP A ≤ 12) (R : RC A T Z od h) (fr : ∀ f x, ¬ plX f x → h' f x = h f x) (F : FR A h') : RC A T Z od h' := by
  obtain ⟨g1, g2, g3, g4, g5, ⟨g6, g6'⟩, g7⟩ := R
  have hn := CO_4 g5
  have fd : ∀ f x, ¬ f = 0 → ¬ f = 1 → ¬ f = 5 → ¬ f = 7 → ¬ (10 ≤ f ∧ f ≤ 24) → ¬ (36 ≤ f ∧ f ≤ 38) → ¬ f = 32 → ¬ f = 33 → ¬ 42 ≤ f → ¬ (f = 3 ∨ f = 26) → ¬ (f = 8 ∨ f = 39) → ¬ (f = 2 ∨ f = 25) → h' f x = h f x := fun f x a1 a2 a3 a4 a5 a6 a7 a8 a9 b1 b2 b3 => fr f x fun q => by unfold plX at q; omega
  have f12 : ∀ f p, (f = 8 ∨ f = 39) → ina p 12 → h' f p = h f p := fun f p hf hp => fr f p fun q => by
    have := (ar_26 (e := p) (n := 400) (by decide)).1 hp
    unfold plX at q
    rcases q with q | q | q | q | q | q | q | q | q | q | q | q
    all_goals first | omega | exact this q.2.1
  have f100 : ∀ f e, (f = 8 ∨ f = 39) → ina e (nE A) → h' f (100 + e) = h f (100 + e) := fun f e hf he => fr f _ fun q => by
    have := ((ar_26 (p := 0) hn).2 he).1
    unfold plX at q
    rcases q with q | q | q | q | q | q | q | q | q | q | q | q
    all_goals first | omega | exact this q.2.2
  have f400 : ∀ f e, (f = 2 ∨ f = 25) → ina e (nE A) → h' f e = h f e := fun f e hf he => fr f _ fun q => by
    have := ((ar_26 (p := 0) hn).2 he).2
    unfold plX at q
    rcases q with q | q | q | q | q | q | q | q | q | q | q | q
    all_goals first | omega | exact this q.2
  have f0 : ∀ f, (f = 3 ∨ f = 26) → h' f 0 = h f 0 := fun f hf => fr f 0 fun q => by
    unfold plX at q
    rcases q with q | q | q | q | q | q | q | q | q | q | q | q
    all_goals first | omega | exact q.2 rfl
  refine ⟨?_, fun p hp => ?_, fun p hp => ?_, fun y hy => ?_, ?_, ⟨CPs_co g6 fun f hf => fd f 0 (by omega) (by omega) (by omega) (by omega) (by omega) (by omega) (by omega) (by omega) (by omega) (by omega) (by omega) (by omega), CPs_co g6' fun f hf => fd f 1 (by omega) (by omega) (by omega) (by omega) (by omega) (by omega) (by omega) (by omega) (by omega) (by omega) (by omega) (by omega)⟩, F⟩
  · unfold CG; rw [fd 9 0 (by decide) (by decide) (by decide) (by decide) (by decide) (by decide) (by decide) (by decide) (by decide) (by decide) (by decide) (by decide)]; exact g1
  · have c := g2 p hp
    unfold CPp
    rw [fd 4 p (by decide) (by decide) (by decide) (by decide) (by decide) (by decide) (by decide) (by decide) (by decide) (by decide) (by decide) (by decide), fd 40 0 (by decide) (by decide) (by decide) (by decide) (by decide) (by decide) (by decide) (by decide) (by decide) (by decide) (by decide) (by decide)]
    exact ⟨c.1, c.2.1, PRp_co c.2.2.1 fun f hf => fd f p (by omega) (by omega) (by omega) (by omega) (by omega) (by omega) (by omega) (by omega) (by omega) (by omega) (by omega) (by omega), c.2.2.2⟩
  · have p12 : ina p 12 := ⟨hp.1, Int32.lt_of_lt_of_le hp.2 hP⟩
    exact CZ_co (g3 p hp) (f12 39 p (by decide) p12) (f12 8 p (by decide) p12)
  · exact EV_co (g4 y hy) (f400 2 y (by decide) hy) (f400 25 y (by decide) hy) (by rw [fd 41 0 (by decide) (by decide) (by decide) (by decide) (by decide) (by decide) (by decide) (by decide) (by decide) (by decide) (by decide) (by decide)]) (f100 8 y (by decide) hy) (f100 39 y (by decide) hy) (fun _ _ _ _ => rfl) rfl rfl rfl (fun _ => Iff.rfl) (fun _ pre post hp => ⟨post, hp⟩) (fun _ => rfl)
  · unfold CO; rw [f0 3 (by decide), f0 26 (by decide)]; exact g5
/-- a printout -/
def PO (o : Int32) (L : List (Int32 × Int32 × Int32)) (h : HP) : Prop := h 7 o 3 = nI L.length ∧ LSq (h 36 o) 0 (L.map fun q => q.1) ∧ LSq (h 37 o) 0 (L.map fun q => q.2.1) ∧ LSq (h 38 o) 0 (L.map fun q => q.2.2)
def wPr (o : Int32) (f : Nat) (x : Int32) : Prop := (f = 7 ∨ f = 36 ∨ f = 37 ∨ f = 38) ∧ x = o
theorem b30g_0 (g : Nat) (x0 x1 x2 x3 : Int32) (h : HP) (Q : Option AV → HP → Prop) (hg : g = 24 ∨ g = 25) (H : WPc 30 3 [(7, x0), (2, x1), (g, x2), (0, x3), (0, 0)] [] h Q) : WPc 30 0 [(7, x0), (2, x1), (g, x2), (0, x3), (500, 0)] [] h Q := by
  rcases hg with rfl | rfl
  · exact wpS_sound [3] 3 H
  · exact wpS_sound [3] 3 H
theorem b30g_3 (g : Nat) (x0 x1 x2 x3 x4 : Int32) (h : HP) (Q : Option AV → HP → Prop) (hg : g = 24 ∨ g = 25) (H : ((x3 ≤ x4 → Q none h) ∧ (¬ x3 ≤ x4 → (((3200 : Int32) ≤ (h 7 x0 3) → Q none h) ∧ (¬ (3200 : Int32) ≤ (h 7 x0 3) → (¬ x1 = -1 ∧ (ina (h 7 x0 3) 3200 ∧ (¬ x1 = -1 ∧ (ina (h 7 x0 3) 3200 ∧ (ina x4 8 ∧ (ina (h 7 x0 3) 3200 ∧ WPc 30 3 [(7, x0), (2, x1), (g, x2), (0, x3), (0, (x4 + 1))] [] (up (up (up (up h 36 x0 (h 7 x0 3) (h 2 x1 1)) 37 x0 (h 7 x0 3) (h 2 x1 2)) 38 x0 (h 7 x0 3) (h g x2 x4)) 7 x0 3 ((h 7 x0 3) + 1)) Q))))))))))) : WPc 30 3 [(7, x0), (2, x1), (g, x2), (0, x3), (0, x4)] [] h Q := by
  rcases hg with rfl | rfl
  · exact wpS_sound [3] 38 H
  · exact wpS_sound [3] 38 H
theorem s_prAdd (g : Nat) (o e x : Int32) (V : List Int32) (L : List (Int32 × Int32 × Int32)) (h0 : HP) (Q : Option AV → HP → Prop) (hg : g = 24 ∨ g = 25) (he : ¬ e = -1) (hV : V.length ≤ 8) (hL : L.length + V.length ≤ 3200) (row : LSq (h0 g x) 0 V) (P : PO o L h0) (H : ∀ h', agw (wPr o) h0 h' → PO o (L ++ V.map fun y => (h0 2 e 1, h0 2 e 2, y)) h' → Q none h') : WPm 30 [(7, o), (2, e), (g, x), (0, nI V.length)] h0 Q := by
  have loop : ∀ (rest pre : List Int32) (h : HP), V = pre ++ rest → agw (wPr o) h0 h → PO o (L ++ pre.map fun y => (h0 2 e 1, h0 2 e 2, y)) h → WPc 30 3 [(7, o), (2, e), (g, x), (0, nI V.length), (0, nI pre.length)] [] h Q := by
    intro rest
    induction rest with
    | nil =>
      intro pre h ev a p
      rw [List.append_nil] at ev
      refine b30g_3 g _ _ _ _ _ h Q hg ⟨fun _ => H h a (by rw [ev]; exact p), fun z => absurd (by rw [ev]; exact Int32.le_refl _) z⟩
    | cons y rest ih =>
      intro pre h ev a p
      have pl : pre.length < V.length := by rw [ev]; simp
      have r2 : h 2 e = h0 2 e := agw_row a fun q => by unfold wPr at q; omega
      have rg : h g x = h0 g x := agw_row a fun q => by unfold wPr at q; omega
      have val : h g x (nI pre.length) = y := by
        rw [rg]
        rw [ev] at row
        have := (LSq_app.mp row).2.1
        rwa [Int32.zero_add] at this
      have len : (L ++ pre.map fun y => (h0 2 e 1, h0 2 e 2, y)).length = L.length + pre.length := by rw [List.length_append, List.length_map]
      have N : h 7 o 3 = nI (L.length + pre.length) := by rw [p.1, len]
      have i32 : ina (nI (L.length + pre.length)) 3200 := ⟨nJ_nn (by omega), (nJ_lt (b := 3200) (by omega) (by omega)).mpr (by omega)⟩
      have i8' : ina (nI pre.length) 8 := ⟨nJ_nn (by omega), (nJ_lt (b := 8) (by omega) (by omega)).mpr (by omega)⟩
      have in1 := ina_n1 i32
      have eM : L ++ (pre ++ [y]).map (fun y => (h0 2 e 1, h0 2 e 2, y)) = (L ++ pre.map fun y => (h0 2 e 1, h0 2 e 2, y)) ++ [(h0 2 e 1, h0 2 e 2, y)] := by simp
      have sn : ∀ (r : Int32 → Int32) (M : List Int32) (v : Int32), M.length = L.length + pre.length → LSq r 0 M → LSq (vpd r (nI (L.length + pre.length)) v) 0 (M ++ [v]) := fun r M v hm l => by
        have := LSq_snoc (v := v) (by omega) l
        rwa [Int32.zero_add, hm] at this
      refine b30g_3 g _ _ _ _ _ h Q hg ⟨fun z => ?_, fun _ => ?_⟩
      · rw [nJ_le (by omega) (by omega)] at z
        exfalso; omega
      · rw [N, val, r2]
        refine ⟨fun z => absurd i32.2 (by grind), fun _ => ⟨he, i32, he, i32, i8', i32, ?_⟩⟩
        have := ih (pre ++ [y]) (up (up (up (up h 36 o (nI (L.length + pre.length)) (h0 2 e 1)) 37 o (nI (L.length + pre.length)) (h0 2 e 2)) 38 o (nI (L.length + pre.length)) y) 7 o 3 (nI (L.length + pre.length) + 1)) (by rw [ev]; simp) (agw_up (agw_up (agw_up (agw_up a ⟨by omega, rfl⟩ in1) ⟨by omega, rfl⟩ in1) ⟨by omega, rfl⟩ in1) ⟨by omega, rfl⟩ (by decide)) ?_
        · rw [List.length_append] at this
          rw [← nJ_s]; exact this
        · rw [eM]
          refine ⟨?_, ?_, ?_, ?_⟩
          · rw [up_at, List.length_append, len, ← nJ_s]; rfl
          · rw [upfam (by decide), upfam (by decide), upfam (by decide), uprow, List.map_append]
            exact sn _ _ _ (by rw [List.length_map, len]) p.2.1
          · rw [upfam (by decide), upfam (by decide), uprow, upfam (by decide), List.map_append]
            exact sn _ _ _ (by rw [List.length_map, len]) p.2.2.1
          · rw [upfam (by decide), uprow, upfam (by decide), upfam (by decide), List.map_append]
            exact sn _ _ _ (by rw [List.length_map, len]) p.2.2.2
  exact b30g_0 g _ _ _ _ h0 Q hg (loop V [] h0 rfl agw_rf (by rw [List.map_nil, List.append_nil]; exact P))
theorem wPrC {o : Int32} {h h' : HP} (g : agw (wPr o) h h') : ag sC h h' := fun f y k z => g f y k (Or.inr fun q => by
  rcases q.1 with w | w | w | w <;> (subst w; exact absurd z (by simp [sC])))
theorem RC_pr {A : SY} {T : List Int32} {Z : Int32 → ZT} {od : List Int32} {h h' : HP} {o : Int32} (hI : YV A) (R : RC A T Z od h) (g : agw (wPr o) h h') : RC A T Z od h' := by
  have fr : ∀ f x, ¬ (f = 7 ∨ f = 36 ∨ f = 37 ∨ f = 38) → h' f x = h f x := fun f x q => agw_row g fun w => q w.1
  exact RC_fr hI.1.1.1.2 R (fun f x q => fr f x fun w => q (by unfold plX; omega)) (FR_co R.2.2.2.2.2.2 (fun f x => g f x (-1) (Or.inl rfl)) (fun e _ => by rw [fr 2 e (by decide)]) (fr 33 0 (by decide)) (fr 32 0 (by decide)) (fr 0 0 (by decide)) (CO_4 R.2.2.2.2.1) rfl rfl)
theorem s_gatherOut (A : SY) (od : List Int32) (h : HP) (Q : Option AV → HP → Prop) (hY : YW A) (R : RC A [] (Zst A) od h) (H : ∀ h', agw (wPr 0) h h' → PO 0 (outL A (sod A)) h' → Q none h') : WPm 90 [(9, 0)] h Q := by
  have so := sod_od R.2.2.2.2.1
  have sb := sod_b hY so.2
  rw [so.1] at H sb
  refine b90_0 h Q (s_leastOpen A od [] (Zst A) h _ hY.1 R fun v hv => b90_5 _ h Q (s_settledEnd A v od [] (Zst A) h _ R hv (b90_8 _ h Q ?_)))
  have loop : ∀ (rest pre : List Int32) (h' : HP), eoL A od = pre ++ rest → agw (wPr 0) h h' → PO 0 (outL A (pre.filter fun e => decide (hw A e = 1))) h' → WPc 90 19 [(9, 0), (0, nI (eoL A od).length), (0, nI pre.length), (500, 0)] [] h' Q := by
    intro rest
    induction rest with
    | nil =>
      intro pre h' e a p
      rw [List.append_nil] at e
      exact b90_19 _ _ h' Q ⟨fun _ => H h' a (by rw [e]; exact p), fun z => absurd (by rw [e]; exact Int32.le_refl _) z⟩
    | cons x rest ih =>
      intro pre h' e a p
      have R' := RC_pr hY.1 R a
      obtain ⟨i4, val, ix, ne⟩ := eo_go R'.2.2.2.2.1 e
      have xn := ina_n1 ix
      have ev := R'.2.2.2.1 x ix
      have nx := ih (pre ++ [x])
      rw [List.filter_append, List.length_append] at nx
      refine b90_19 _ _ h' Q ⟨fun z => absurd z ne, fun _ => ⟨i4, ?_⟩⟩
      rw [val, ev.2.1.1]
      refine ⟨xn, fun z => b90_58 _ _ _ h' Q ?_, fun z => ⟨xn, xn, ?_⟩⟩
      · rw [List.filter_cons_of_neg (by simp [z]), List.filter_nil, List.append_nil] at nx
        rw [← nJ_s]
        exact nx h' (by rw [e]; simp) a p
      · rw [List.filter_cons_of_pos (by simp [z]), List.filter_nil] at nx
        have pe : prE A x = pr A x := if_pos z
        have e11 := ev.2.2.1.1.2.1
        have row := ev.2.2.1.1.2.2
        rw [pe] at e11 row
        rw [e11]
        have hl : (outL A (pre.filter fun e => decide (hw A e = 1))).length + (pr A x).length ≤ 3200 := by
          have := sb.2.2
          rw [e, List.filter_append, List.filter_cons_of_pos (by simp [z]), List.flatMap_append, List.flatMap_cons, List.length_append, List.length_append] at this
          rw [outL_len]; omega
        refine s_prAdd 25 0 x x (pr A x) _ h' _ (Or.inr rfl) xn (hY.2.1 x).1 hl row p fun h2 a2 p2 => b90_58 _ _ _ h2 Q ?_
        rw [← nJ_s]
        refine nx h2 (by rw [e]; simp) (agw_tr a a2) ?_
        have eo : outL A ((pre.filter fun e => decide (hw A e = 1)) ++ [x]) = outL A (pre.filter fun e => decide (hw A e = 1)) ++ (pr A x).map fun y => (pa A x, A.1 55 x, y) := by
          unfold outL
          rw [List.flatMap_append, List.flatMap_cons, List.flatMap_nil, List.append_nil]
        rw [eo]
        rw [ev.1.2.2.1, ev.1.2.2.2.1.1] at p2
        exact p2
  exact loop (eoL A od) [] _ rfl (agw_up agw_rf ⟨Or.inl rfl, rfl⟩ (by decide)) ⟨up_at, trivial, trivial, trivial⟩
theorem C_count (A : SY) (w : Int32) (od : List Int32) (h : HP) (Q : Option AV → HP → Prop) (hY : YW A) (R : RC A [] (Zst A) od h) (H : ∀ h', ag sC h h' → RC A [] (Zst A) od h' → Q (some (0, opCount A w)) h') : WPm 55 [(9, 0), (0, w)] h Q := by
  unfold opCount at H
  have H0 := H h ag_rf R
  have c := R.2.2.2.2.1
  have so := sod_od c
  have q1 : nI (wy A).length = h 6 0 2 := R.2.2.2.2.2.1.1.1.symm
  have f0 : ((eoL A od).filter fun e => decide (hw A e = 1) && (decide ((0 : Int32) = 0) || fld A e)) = sod A := by
    rw [so.1]
    refine List.filter_congr fun d _ => ?_
    simp
  have f1 : ((eoL A od).filter fun e => decide (hw A e = 1) && (decide ((1 : Int32) = 0) || fld A e)) = (sod A).filter (fld A) := by
    rw [so.1, List.filter_filter]
    refine List.filter_congr fun d _ => ?_
    rw [show decide ((1 : Int32) = 0) = false from rfl, Bool.false_or, Bool.and_comm]
  refine b55_0 _ h Q ?_
  rw [R.1.1, c.1, ← q1, R.1.2.2.1, R.1.2.2.2.1, R.1.2.1]
  refine ⟨fun y0 => ?_, fun y0 => ⟨fun y1 => ?_, fun y1 => ⟨fun y2 => ?_, fun y2 => ⟨fun y3 => ?_, fun y3 => ⟨fun y4 => ?_, fun y4 => ⟨fun y5 => ?_, fun y5 => ⟨fun y6 => ?_, fun y6 => ⟨fun y7 => ?_, fun y7 => ⟨fun y8 => ?_, fun y8 => ?_⟩⟩⟩⟩⟩⟩⟩⟩⟩
  · rw [if_pos y0] at H0; exact H0
  · rw [if_neg y0, if_pos y1] at H0; exact H0
  · rw [if_neg y0, if_neg y1, if_pos y2] at H0; exact H0
  · rw [if_neg y0, if_neg y1, if_neg y2, if_pos y3] at H0; exact H0
  · rw [if_neg y0, if_neg y1, if_neg y2, if_neg y3, if_pos y4] at H0; exact H0
  · refine s_gatherOut A od h _ hY R fun h' a p => b55_87 _ h' Q ?_
    have H := H h' (wPrC a) (RC_pr hY.1 R a)
    rw [if_neg y0, if_neg y1, if_neg y2, if_neg y3, if_neg y4, if_pos y5] at H
    rw [p.1]; exact H
  · refine s_leastOpen A od [] (Zst A) h _ hY.1 R fun v hv => b55_101 _ _ h Q (s_settledEnd A v od [] (Zst A) h _ R hv (b55_104 _ _ h Q (s_settledEv A 0 od h _ R (b55_108 _ _ h Q ?_))))
    rw [if_neg y0, if_neg y1, if_neg y2, if_neg y3, if_neg y4, if_neg y5, if_pos y6] at H0
    rw [f0]; exact H0
  · refine s_leastOpen A od [] (Zst A) h _ hY.1 R fun v hv => b55_115 _ _ h Q (s_settledEnd A v od [] (Zst A) h _ R hv (b55_118 _ _ h Q (s_settledEv A 1 od h _ R (b55_122 _ _ h Q ?_))))
    rw [if_neg y0, if_neg y1, if_neg y2, if_neg y3, if_neg y4, if_neg y5, if_neg y6, if_pos y7] at H0
    rw [f1]; exact H0
  · rw [if_neg y0, if_neg y1, if_neg y2, if_neg y3, if_neg y4, if_neg y5, if_neg y6, if_neg y7, if_pos y8] at H0; exact H0
  · rw [if_neg y0, if_neg y1, if_neg y2, if_neg y3, if_neg y4, if_neg y5, if_neg y6, if_neg y7, if_neg y8] at H0; exact H0
theorem C_out (A : SY) (i w : Int32) (od : List Int32) (h : HP) (Q : Option AV → HP → Prop) (hY : YW A) (R : RC A [] (Zst A) od h) (H : ∀ h', ag sC h h' → RC A [] (Zst A) od h' → Q (some (0, opOut A i w)) h') : WPm 56 [(9, 0), (0, i), (0, w)] h Q := by
  unfold opOut at H
  have so := sod_od R.2.2.2.2.1
  have sb := sod_b hY so.2
  have ol := outL_len A (sod A)
  refine b56_0 _ _ h Q (c_in _ _ _ h _ (fun z => b56_6 _ _ _ h Q ⟨fun _ => ?_, fun y => absurd y (by decide)⟩) (fun z => b56_6 _ _ _ h Q ⟨fun y => absurd rfl y, fun _ => ?_⟩))
  · refine s_gatherOut A od h _ hY R fun h' a p => b56_16 _ _ h' Q ?_
    have H := H h' (wPrC a) (RC_pr hY.1 R a)
    rw [if_pos z] at H
    rw [p.1]
    refine c_in _ _ _ h' _ (fun z2 => b56_30 _ _ _ h' Q ⟨fun _ => ?_, fun y => absurd y (by decide)⟩) (fun z2 => b56_30 _ _ _ h' Q ⟨fun y => absurd rfl y, fun _ => ?_⟩)
    · obtain ⟨k, rfl, k2, k3⟩ := ix_nat (by omega) z2
      rw [if_pos z2, k3, show (outL A (sod A)).getD k (0, 0, 0) = (outL A (sod A))[k] by simp [k2]] at H
      have i32 : ina (nI k) 3200 := ⟨z2.1, (nJ_lt (b := 3200) (by omega) (by omega)).mpr (by omega)⟩
      have v1 := LSq_get p.2.1 k (by rw [List.length_map]; exact k2)
      have v2 := LSq_get p.2.2.1 k (by rw [List.length_map]; exact k2)
      rw [Int32.zero_add, List.getElem_map] at v1 v2
      rw [v1, v2]
      refine ⟨fun y => ⟨i32, ?_⟩, fun y => ⟨i32, ?_⟩⟩
      · rw [if_neg y] at H; exact H
      · rw [if_pos y] at H; exact H
    · rw [if_neg z2] at H; exact H
  · have H := H h ag_rf R
    rw [if_neg z] at H; exact H
theorem C_printed (A : SY) (i : Int32) (od : List Int32) (h : HP) (Q : Option AV → HP → Prop) (hY : YW A) (R : RC A [] (Zst A) od h) (H : ∀ h', ag sC h h' → RC A [] (Zst A) od h' → Q (some (0, opPrinted A i)) h') : WPm 57 [(9, 0), (0, i)] h Q := by
  unfold opPrinted at H
  have so := sod_od R.2.2.2.2.1
  have sb := sod_b hY so.2
  have ol := outL_len A (sod A)
  refine b57_0 _ h Q (s_gatherOut A od h _ hY R fun h' a p => b57_4 _ h' Q ?_)
  have H := H h' (wPrC a) (RC_pr hY.1 R a)
  rw [p.1]
  refine c_in _ _ _ h' _ (fun z2 => b57_18 _ _ h' Q ⟨fun y => absurd y (by decide), fun _ => ?_⟩) (fun z2 => b57_18 _ _ h' Q ⟨fun _ => ?_, fun y => absurd rfl y⟩)
  · obtain ⟨k, rfl, k2, k3⟩ := ix_nat (by omega) z2
    rw [if_pos z2, k3, show (outL A (sod A)).getD k (0, 0, 0) = (outL A (sod A))[k] by simp [k2]] at H
    have i32 : ina (nI k) 3200 := ⟨z2.1, (nJ_lt (b := 3200) (by omega) (by omega)).mpr (by omega)⟩
    have v1 := LSq_get p.2.2.2 k (by rw [List.length_map]; exact k2)
    rw [Int32.zero_add, List.getElem_map] at v1
    rw [v1]
    exact ⟨i32, H⟩
  · rw [if_neg z2] at H; exact H
