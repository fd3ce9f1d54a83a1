/-! 55: the model's reading calls -/
def blw (A : SY) (e : Int32) : Prop := ∀ f, ina f (nE A) → opn A f → klt A.1 e f
def stl (A : SY) (e : Int32) : Prop := hw A e = 1 ∧ blw A e
theorem blw_fl {A : SY} {v e : Int32} (h : isFl A v) : blw A e ↔ (v = -1 ∨ klt A.1 e v) := by
  rcases h with ⟨h1, h2⟩ | ⟨h1, h2, h3⟩
  · exact ⟨fun _ => Or.inl h1, fun _ f f1 f2 => absurd ⟨f1, f2⟩ (h2 f)⟩
  · constructor
    · intro z; exact Or.inr (z v h2.1 h2.2)
    · rintro (z | z)
      · exact absurd z h1
      · intro f f1 f2
        have := h3 f ⟨f1, f2⟩
        rcases klt_tot (a := A.1) (e := v) (f := f) with q | q | q
        · exact klt_tr z q
        · exact klt_keq z q
        · exact absurd q this
noncomputable def stlB (A : SY) (e : Int32) : Bool := @decide (stl A e) (Classical.propDecidable _)
theorem stlB_t {A : SY} {e : Int32} : stlB A e = true ↔ stl A e := by unfold stlB; exact @decide_eq_true_iff _ (Classical.propDecidable _)
theorem stlB_f {A : SY} {e : Int32} : stlB A e = false ↔ ¬ stl A e := by rw [← stlB_t]; cases stlB A e <;> simp
theorem s_isSettled (A : SY) (v e : Int32) (h : HP) (Q : Option AV → HP → Prop) (hM : MA A.1 h) (hv : isFl A v) (hF : FH A.1 v h) (he : ina e 400) (H1 : stl A e → Q (some (0, 1)) h) (H0 : ¬ stl A e → Q (some (0, 0)) h) : WPm 116 [(10, 0), (0, e)] h Q := by
  have e60 : h 60 0 e = hw A e := hM 60 e rfl
  refine b116_0 e h Q ?_
  rw [e60]
  refine ⟨he, fun z => ⟨Or.inl rfl, H0 fun q => z q.1⟩, fun z => ?_⟩
  rcases hF with ⟨f1, f2⟩ | ⟨f1, f2, f3, f4, f5, f6⟩
  · exact ⟨fun _ => ⟨Or.inr rfl, H1 ⟨z, (blw_fl hv).mpr (Or.inl f1)⟩⟩, fun y => absurd f2 y⟩
  · refine ⟨fun y => by rw [f2] at y; exact absurd y one0, fun _ => ?_⟩
    rw [f3, f4, f5, f6]
    refine s_compare _ _ _ _ _ h _ he (b116_38 _ _ h Q ⟨fun y => ⟨Or.inl rfl, H0 fun q => ?_⟩, fun y => ⟨Or.inr rfl, H1 ⟨z, (blw_fl hv).mpr (Or.inr ((cmpK_lt hM).mp (by grind)))⟩⟩⟩)
    rcases (blw_fl hv).mp q.2 with w | w
    · exact f1 w
    · exact absurd ((cmpK_lt hM).mpr w) (by grind)
noncomputable def opFloor (A : SY) (w : Int32) : Int32 := @ite _ (isIn w 0 3) (Classical.propDecidable _) (if flo A = -1 then -9 else if w = 0 then A.1 55 (flo A) else if w = 1 then A.1 56 (flo A) else if w = 2 then A.1 57 (flo A) else A.1 58 (flo A)) (-2)
theorem M_floor (A : SY) (w : Int32) (h : HP) (Q : Option AV → HP → Prop) (hY : YW A) (hM : MD 0 A h) (H : ∀ h', ag sS h h' → Q (some (0, opFloor A w)) h') : WPm 128 [(10, 0), (0, w)] h Q := by
  unfold opFloor at H
  refine b128_0 _ h Q (s_in2 _ _ _ _ _ (fun z => b128_6 _ _ h Q ⟨fun _ => ?_, fun y => absurd y one0⟩) (fun z => b128_6 _ _ h Q ⟨fun y => absurd rfl y, fun _ => ?_⟩))
  · rw [if_pos z] at H
    refine s_findFloor A h _ hY hM fun v h1 g1 hv hF => b128_16 _ h1 Q ?_
    have H := H h1 (ag_FS g1)
    have uq := fl_uq hv (flo_ok hv)
    rcases hF with ⟨f1, f2⟩ | ⟨f1, f2, f3, f4, f5, f6⟩
    · rw [if_pos (uq.1.mp f1)] at H
      exact ⟨fun y => absurd f2 y, fun _ => H⟩
    · have k := uq.2 f1
      rw [if_neg (fun q => f1 (uq.1.mpr q)), ← k.1, ← k.2.1, ← k.2.2.1, ← k.2.2.2] at H
      rw [f3, f4, f5, f6]
      refine ⟨fun _ => ⟨fun y => ⟨fun y2 => ⟨fun y3 => ?_, fun y3 => ?_⟩, fun y2 => ?_⟩, fun y => ?_⟩, fun y => by rw [f2] at y; exact absurd y one0⟩
      · rw [if_neg y, if_neg y2, if_neg y3] at H; exact H
      · rw [if_neg y, if_neg y2, if_pos y3] at H; exact H
      · rw [if_neg y, if_pos y2] at H; exact H
      · rw [if_pos y] at H; exact H
  · rw [if_neg z] at H
    exact H h ag_rf
noncomputable def opCell (A : SY) (p c : Int32) : Int32 := @ite _ (isP A p ∧ isIn c 0 3) (Classical.propDecidable _) ((rp A.1 p (dn A p)).1 c) 0
theorem in03 {c : Int32} (h : isIn c 0 3) : ina c 4 := ⟨h.1, by have := h.2; grind⟩
theorem nP0 {A : SY} {p : Int32} (h : ina p (nP A)) : ¬ A.1 10 0 = 0 := fun z => by
  rw [show nP A = 0 from z] at h
  exact absurd (Int32.lt_of_le_of_lt h.1 h.2) (by decide)
theorem s_stateP (A : SY) (p : Int32) (l : List Int32) (m : List Int32) (h : HP) (Q : Option AV → HP → Prop) (hY : YW A) (hM : MD 0 A h) (hp : ina p (nP A)) (e : dn A p = l ++ m) (H : ∀ h', ag sA h h' → ZS (rp A.1 p l) h' → Q none h') : WPm 105 [(10, 0), (0, p), (0, nI l.length)] h Q := by
  have hp12 : ina p 12 := ⟨hp.1, Int32.lt_of_lt_of_le hp.2 hY.1.1.1.1.2⟩
  have row := (hM.2.1 p hp12).2
  rw [e] at row
  have dl := dn_len hY.1 p
  rw [e, List.length_append] at dl
  exact s_state A.1 p l h Q hY.1.1.1 hM.1 hp12 (nP0 hp) (LSq_take row) (by omega) (fun d hd => (ga hY.1 (hY.1.2.1.1 p d (by rw [e]; exact List.mem_append.mpr (Or.inl hd))).1).1) H
theorem M_cell (A : SY) (p c : Int32) (h : HP) (Q : Option AV → HP → Prop) (hY : YW A) (hM : MD 0 A h) (H : ∀ h', ag sS h h' → Q (some (0, opCell A p c)) h') : WPm 129 [(10, 0), (0, p), (0, c)] h Q := by
  unfold opCell at H
  have bad : ¬ (isP A p ∧ isIn c 0 3) → Q (some (0, 0)) h := fun z => by
    have H := H h ag_rf
    rw [if_neg z] at H; exact H
  refine b129_0 _ _ h Q (s_isP A 0 p h _ hM (fun z1 => b129_5 _ _ _ h Q ⟨fun y => absurd y one0, fun _ => ?_⟩) (fun z => b129_5 _ _ _ h Q ⟨fun _ => bad fun q => z q.1, fun y => absurd rfl y⟩))
  refine s_in2 _ _ _ _ _ (fun z2 => b129_14 _ _ _ h Q ⟨fun _ => ?_, fun y => absurd y one0⟩) (fun z => b129_14 _ _ _ h Q ⟨fun y => absurd rfl y, fun _ => bad fun q => z q.2⟩)
  have ip := isP_ina hY z1
  rw [(hM.2.1 p ip.2).1]
  refine ⟨ip.2, s_stateP A p (dn A p) [] h _ hY hM ip.1 (by simp) fun h1 g1 z3 => b129_30 _ _ h1 Q ⟨in03 z2, ?_⟩⟩
  have H := H h1 (ag_AS g1)
  rw [if_pos ⟨z1, z2⟩] at H
  rw [z3.1 c (in03 z2)]; exact H
noncomputable def sdn (A : SY) (p : Int32) : List Int32 := (dn A p).takeWhile (stlB A)
theorem sdn_eq (A : SY) (p : Int32) : dn A p = sdn A p ++ (dn A p).dropWhile (stlB A) := List.takeWhile_append_dropWhile.symm
theorem s_settledOf (A : SY) (v p : Int32) (h : HP) (Q : Option AV → HP → Prop) (hY : YW A) (hM : MD 0 A h) (hp : ina p 12) (hv : isFl A v) (hF : FH A.1 v h) (H : Q (some (0, nI (sdn A p).length)) h) : WPm 130 [(10, 0), (0, p)] h Q := by
  have mp := hM.2.1 p hp
  have dl := dn_len hY.1 p
  have loop : ∀ (rest pre : List Int32), dn A p = pre ++ rest → (dn A p).takeWhile (stlB A) = pre ++ rest.takeWhile (stlB A) → WPc 130 2 [(10, 0), (0, p), (0, nI pre.length)] [] h Q := by
    intro rest
    induction rest with
    | nil =>
      intro pre e et
      rw [List.takeWhile_nil, List.append_nil] at et
      rw [List.append_nil] at e
      refine b130_2 _ _ h Q ⟨hp, fun _ => ?_, fun z => absurd (by rw [mp.1, e]; exact Int32.le_refl _) z⟩
      rw [← et]; exact H
    | cons x rest ih =>
      intro pre e et
      have pl : pre.length < 400 := by rw [e] at dl; simp at dl; omega
      have val : h 53 0 (400 * p + nI pre.length) = x := by
        have := mp.2
        rw [e] at this
        exact (LSq_app.mp this).2.1
      have hx := (ga hY.1 (hY.1.2.1.1 p x (by rw [e]; simp)).1).1
      refine b130_2 _ _ h Q ⟨hp, fun z => ?_, fun _ => ⟨i400 hp pl, ?_⟩⟩
      · rw [mp.1, e, nJ_le (by rw [e] at dl; omega) (by omega)] at z
        simp at z
        exfalso; omega
      · rw [val]
        refine s_isSettled A v x h _ hM.1 hv hF hx (fun s => b130_28 _ _ _ h Q ⟨fun y => absurd y one0, fun _ => ?_⟩) (fun s => b130_28 _ _ _ h Q ⟨fun _ => ?_, fun y => absurd rfl y⟩)
        · have := ih (pre ++ [x]) (by rw [e]; simp) (by rw [et, List.takeWhile_cons_of_pos (stlB_t.mpr s)]; simp)
          rw [List.length_append] at this
          rw [← nJ_s]; exact this
        · rw [List.takeWhile_cons_of_neg (by rw [stlB_f.mpr s]; decide), List.append_nil] at et
          rw [← et]; exact H
  exact b130_0 _ h Q (loop (dn A p) [] rfl rfl)
noncomputable def opSettled (A : SY) (p c : Int32) : Int32 := @ite _ (isP A p ∧ isIn c 0 3) (Classical.propDecidable _) ((rp A.1 p (sdn A p)).1 c) 0
theorem M_settled (A : SY) (p c : Int32) (h : HP) (Q : Option AV → HP → Prop) (hY : YW A) (hM : MD 0 A h) (H : ∀ h', ag sS h h' → Q (some (0, opSettled A p c)) h') : WPm 131 [(10, 0), (0, p), (0, c)] h Q := by
  unfold opSettled at H
  have bad : ¬ (isP A p ∧ isIn c 0 3) → Q (some (0, 0)) h := fun z => by
    have H := H h ag_rf
    rw [if_neg z] at H; exact H
  refine b131_0 _ _ h Q (s_isP A 0 p h _ hM (fun z1 => b131_5 _ _ _ h Q ⟨fun y => absurd y one0, fun _ => ?_⟩) (fun z => b131_5 _ _ _ h Q ⟨fun _ => bad fun q => z q.1, fun y => absurd rfl y⟩))
  refine s_in2 _ _ _ _ _ (fun z2 => b131_14 _ _ _ h Q ⟨fun _ => ?_, fun y => absurd y one0⟩) (fun z => b131_14 _ _ _ h Q ⟨fun y => absurd rfl y, fun _ => bad fun q => z q.2⟩)
  have ip := isP_ina hY z1
  refine s_findFloor A h _ hY hM fun v h1 g1 hv hF => b131_23 _ _ h1 Q ?_
  have M1 := MD_ag hM (ag_FS g1)
  refine s_settledOf A v p h1 _ hY M1 ip.2 hv hF (b131_30 _ _ _ _ h1 Q ?_)
  refine s_stateP A p (sdn A p) _ h1 _ hY M1 ip.1 (sdn_eq A p) fun h2 g2 z3 => b131_33 _ _ h2 Q ⟨in03 z2, ?_⟩
  have H := H h2 (ag_tr (ag_FS g1) (ag_AS g2))
  rw [if_pos ⟨z1, z2⟩] at H
  rw [z3.1 c (in03 z2)]; exact H
/-- how many events have P -/
noncomputable def cntP (A : SY) (P : Int32 → Prop) : Int32 := nI (((List.range (nE A).toNatClampNeg).map nI).filter fun e => @decide (P e) (Classical.propDecidable _)).length
theorem cntP_loop {A : SY} {N : Nat} (hN : nE A = nI N) (hN4 : N ≤ 400) (P : Int32 → Prop) : ∃ c : Nat → Int32, c 0 = 0 ∧ c N = cntP A P ∧ ∀ k, (P (nI k) → c (k + 1) = c k + 1) ∧ (¬ P (nI k) → c (k + 1) = c k) := by
  refine ⟨fun k => nI (((List.range k).map nI).filter fun e => @decide (P e) (Classical.propDecidable _)).length, rfl, ?_, fun k => ⟨fun h => ?_, fun h => ?_⟩⟩
  · unfold cntP
    rw [hN, show (nI N).toNatClampNeg = N from Int32.toNatClampNeg_ofNat_of_lt (by omega)]
  · show nI _ = nI _ + 1
    rw [← nJ_s]
    congr 1
    rw [List.range_succ, List.map_append, List.filter_append, List.length_append]
    simp [h]
  · show nI _ = nI _
    congr 1
    rw [List.range_succ, List.map_append, List.filter_append, List.length_append]
    simp [h]
theorem s_waiting (A : SY) (p : Int32) (h : HP) (Q : Option AV → HP → Prop) (hY : YW A) (hM : MD 0 A h) (H : Q (some (0, cntP A fun e => pa A e = p ∧ A.1 61 e = 1)) h) : WPm 132 [(10, 0), (0, p)] h Q := by
  obtain ⟨N, hN, hN4⟩ := nE_nat hY.1
  obtain ⟨c, c0, cN, cs⟩ := cntP_loop hN hN4 (fun e => pa A e = p ∧ A.1 61 e = 1)
  have e13 : h 10 0 13 = nI N := (hM.1 10 13 rfl).trans hN
  have loop : ∀ (m k : Nat), k + m = N → WPc 132 4 [(10, 0), (0, p), (0, c k), (0, nI k)] [] h Q := by
    intro m
    induction m with
    | zero =>
      intro k e
      have ek : k = N := by omega
      subst ek
      refine b132_4 _ _ _ h Q ⟨fun _ => ?_, fun z => absurd (by rw [e13]; exact Int32.le_refl _) z⟩
      rw [cN]; exact H
    | succ m ih =>
      intro k e
      have ki : ina (nI k) (nE A) := by rw [hN]; exact (ina_nat hN4).mpr ⟨k, by omega, rfl⟩
      have gk := ga hY.1 ki
      have e54 : h 54 0 (nI k) = pa A (nI k) := hM.1 54 _ rfl
      have e61 : h 61 0 (nI k) = A.1 61 (nI k) := hM.1 61 _ rfl
      have v61 := (hY.1.1.2.2.1 (nI k) ki).2.2.2
      have nx := ih (k + 1) (by omega)
      rw [nJ_s] at nx
      refine b132_4 _ _ _ h Q ⟨fun z => ?_, fun _ => ?_⟩
      · rw [e13, nJ_le (by omega) (by omega)] at z
        exfalso; omega
      · rw [e54, e61]
        refine ⟨gk.1, fun z => ?_, fun z => ⟨gk.1, fun z2 => ?_, fun z2 => ?_⟩⟩
        · rw [(cs k).2 (fun q => z q.1)] at nx
          rw [Int32.add_zero]; exact nx
        · rw [(cs k).2 (fun q => by rw [z2] at q; exact absurd q.2 (by decide))] at nx
          rw [Int32.add_zero]; exact nx
        · rw [(cs k).1 ⟨z, v61.resolve_left z2⟩] at nx
          exact nx
  have := loop N 0 (by omega)
  rw [c0] at this
  exact b132_0 _ h Q this
theorem s_thereOf (A : SY) (p : Int32) (h : HP) (Q : Option AV → HP → Prop) (hY : YW A) (hM : MD 0 A h) (H : Q (some (0, cntP A fun e => pa A e = p ∧ hw A e = 0)) h) : WPm 133 [(10, 0), (0, p)] h Q := by
  obtain ⟨N, hN, hN4⟩ := nE_nat hY.1
  obtain ⟨c, c0, cN, cs⟩ := cntP_loop hN hN4 (fun e => pa A e = p ∧ hw A e = 0)
  have e13 : h 10 0 13 = nI N := (hM.1 10 13 rfl).trans hN
  have loop : ∀ (m k : Nat), k + m = N → WPc 133 4 [(10, 0), (0, p), (0, c k), (0, nI k)] [] h Q := by
    intro m
    induction m with
    | zero =>
      intro k e
      have ek : k = N := by omega
      subst ek
      refine b133_4 _ _ _ h Q ⟨fun _ => ?_, fun z => absurd (by rw [e13]; exact Int32.le_refl _) z⟩
      rw [cN]; exact H
    | succ m ih =>
      intro k e
      have ki : ina (nI k) (nE A) := by rw [hN]; exact (ina_nat hN4).mpr ⟨k, by omega, rfl⟩
      have gk := ga hY.1 ki
      have e54 : h 54 0 (nI k) = pa A (nI k) := hM.1 54 _ rfl
      have e60 : h 60 0 (nI k) = hw A (nI k) := hM.1 60 _ rfl
      have nx := ih (k + 1) (by omega)
      rw [nJ_s] at nx
      refine b133_4 _ _ _ h Q ⟨fun z => ?_, fun _ => ?_⟩
      · rw [e13, nJ_le (by omega) (by omega)] at z
        exfalso; omega
      · rw [e54, e60]
        refine ⟨gk.1, fun z => ?_, fun z => ⟨gk.1, fun z2 => ?_, fun z2 => ?_⟩⟩
        · rw [(cs k).2 (fun q => z q.1)] at nx
          rw [Int32.add_zero]; exact nx
        · rw [(cs k).2 (fun q => z2 q.2)] at nx
          rw [Int32.add_zero]; exact nx
        · rw [(cs k).1 ⟨z, z2⟩] at nx
          exact nx
  have := loop N 0 (by omega)
  rw [c0] at this
  exact b133_0 _ h Q this
