/-! 96: the class: what is settled -/
noncomputable def blB (A : SY) (e : Int32) : Bool := @decide (blw A e) (Classical.propDecidable _)
theorem blB_t {A : SY} {e : Int32} : blB A e = true ↔ blw A e := by unfold blB; exact @decide_eq_true_iff _ (Classical.propDecidable _)
theorem blB_f {A : SY} {e : Int32} (h : ¬ blw A e) : ¬ blB A e = true := fun q => h (blB_t.mp q)
/-- the settled stretch of the order -/
noncomputable def eoL (A : SY) (od : List Int32) : List Int32 := od.takeWhile (blB A)
theorem blw_dn {A : SY} {e f : Int32} (h : bel A.1 e f) (b : blw A f) : blw A e := fun g g1 g2 => bel_klt h (b g g1 g2)
theorem tw_mem {a : AT} {P : Int32 → Bool} (hP : ∀ e f, bel a e f → P f = true → P e = true) : ∀ {l : List Int32}, l.Pairwise (bel a) → ∀ e, e ∈ l.takeWhile P ↔ e ∈ l ∧ P e = true
  | [], _, e => by simp
  | x :: l, hl, e => by
    have hl' := List.pairwise_cons.mp hl
    have ih := tw_mem hP hl'.2 e
    cases px : P x with
    | true =>
      rw [List.takeWhile_cons_of_pos px, List.mem_cons, ih, List.mem_cons]
      constructor
      · rintro (q | q)
        · exact ⟨Or.inl q, by rw [q]; exact px⟩
        · exact ⟨Or.inr q.1, q.2⟩
      · rintro ⟨q | q, w⟩
        · exact Or.inl q
        · exact Or.inr ⟨q, w⟩
    | false =>
      rw [List.takeWhile_cons_of_neg (by rw [px]; decide)]
      constructor
      · intro q; cases q
      · rintro ⟨q, w⟩
        rcases List.mem_cons.mp q with q | q
        · rw [q, px] at w; cases w
        · have := hP x e (hl'.1 e q) w
          rw [px] at this; cases this
theorem sod_od {A : SY} {od : List Int32} {h : HP} (c : CO A od h) : sod A = (eoL A od).filter (fun e => decide (hw A e = 1)) ∧ SRT A (sod A) := by
  have s : SRT A ((eoL A od).filter (fun e => decide (hw A e = 1))) := by
    refine ⟨fun e => ?_, ?_⟩
    · rw [List.mem_filter, eoL, tw_mem (a := A.1) (fun e f b q => blB_t.mpr (blw_dn b (blB_t.mp q))) c.2.2.2.1, c.2.2.1, blB_t, decide_eq_true_iff]
      exact ⟨fun q => ⟨q.1.1, q.2, q.1.2⟩, fun q => ⟨⟨q.1, q.2.2⟩, q.2.1⟩⟩
    · exact (c.2.2.2.1.sublist (List.takeWhile_sublist _)).sublist List.filter_sublist
  have e := sod_ok s
  exact ⟨e, by rw [e]; exact s⟩
theorem eo_app {A : SY} {od : List Int32} : od = eoL A od ++ od.dropWhile (blB A) := List.takeWhile_append_dropWhile.symm
theorem s_settledEnd (A : SY) (v : Int32) (od : List Int32) (T : List Int32) (Z : Int32 → ZT) (h : HP) (Q : Option AV → HP → Prop) (R : RC A T Z od h) (hv : isFl A v) (H : Q (some (0, nI (eoL A od).length)) h) : WPm 83 [(9, 0), (2, v)] h Q := by
  have loop : ∀ (rest pre : List Int32), od = pre ++ rest → eoL A od = pre ++ rest.takeWhile (blB A) → WPc 83 2 [(9, 0), (2, v), (0, nI pre.length)] [] h Q := by
    intro rest
    induction rest with
    | nil =>
      intro pre e et
      rw [List.takeWhile_nil, List.append_nil] at et
      rw [List.append_nil] at e
      refine b83_2 _ _ h Q ⟨fun _ => ?_, fun z => absurd (by rw [← e]; exact od_fin R.2.2.2.2.1) z⟩
      rw [← et]; exact H
    | cons x rest ih =>
      intro pre e et
      obtain ⟨i4, val, ix, ne⟩ := od_go R.2.2.2.2.1 e
      have xn := ina_n1 ix
      refine b83_2 _ _ h Q ⟨fun z => absurd z ne, fun _ => ⟨i4, by rw [val]; exact xn, ?_⟩⟩
      rw [val]
      refine s_isBelowC A.1 x v x v h _ xn (R.2.2.2.1 x ix).1.2.2.2.1 (fun nv => ?_) (fun s => b83_26 _ _ _ h Q ⟨fun y => absurd y one0, fun _ => ?_⟩) (fun s => b83_26 _ _ _ h Q ⟨fun _ => ?_, fun y => absurd rfl y⟩)
      · rcases hv with ⟨h1, _⟩ | ⟨h1, h2, h3⟩
        · exact absurd h1 nv
        · exact (R.2.2.2.1 v h2.1).1.2.2.2.1
      · have bx := blB_t.mpr ((blw_fl hv).mpr s)
        have := ih (pre ++ [x]) (by rw [e]; simp) (by rw [et, List.takeWhile_cons_of_pos bx]; simp)
        rw [List.length_append] at this
        rw [← nJ_s]; exact this
      · rw [List.takeWhile_cons_of_neg (blB_f fun q => s ((blw_fl hv).mp q)), List.append_nil] at et
        rw [← et]; exact H
  exact b83_0 _ h Q (loop od [] rfl rfl)
theorem eo_go {A : SY} {od : List Int32} {h : HP} (c : CO A od h) {pre r : List Int32} {x : Int32} (e : eoL A od = pre ++ x :: r) : ina (nI pre.length) 400 ∧ h 26 0 (nI pre.length) = x ∧ ina x (nE A) ∧ ¬ nI (eoL A od).length ≤ nI pre.length := by
  have eo : od = pre ++ x :: (r ++ od.dropWhile (blB A)) := by
    have := eo_app (A := A) (od := od)
    rw [e] at this
    simpa using this
  have g := od_go c eo
  refine ⟨g.1, g.2.1, g.2.2.1, fun z => ?_⟩
  have l : od.length ≤ 400 := c.2.2.2.2.2
  have l2 : (eoL A od).length ≤ od.length := List.Sublist.length_le (List.takeWhile_sublist _)
  rw [nJ_le (by omega) (by rw [e] at l2; simp at l2; omega), e] at z
  simp at z; omega
theorem s_settledEv (A : SY) (b : Int32) (od : List Int32) (h : HP) (Q : Option AV → HP → Prop) (R : RC A [] (Zst A) od h) (H : Q (some (0, nI ((eoL A od).filter fun e => decide (hw A e = 1) && (decide (b = 0) || fld A e)).length)) h) : WPm 85 [(9, 0), (0, nI (eoL A od).length), (0, b)] h Q := by
  have loop : ∀ (rest pre : List Int32), eoL A od = pre ++ rest → WPc 85 5 [(9, 0), (0, nI (eoL A od).length), (0, b), (0, nI (pre.filter fun e => decide (hw A e = 1) && (decide (b = 0) || fld A e)).length), (0, nI pre.length), (500, 0)] [] h Q := by
    intro rest
    induction rest with
    | nil =>
      intro pre e
      rw [List.append_nil] at e
      refine b85_5 _ _ _ _ h Q ⟨fun _ => ?_, fun z => absurd (by rw [e]; exact Int32.le_refl _) z⟩
      rw [← e]; exact H
    | cons x rest ih =>
      intro pre e
      obtain ⟨i4, val, ix, ne⟩ := eo_go R.2.2.2.2.1 e
      have xn := ina_n1 ix
      have ev := R.2.2.2.1 x ix
      have nx := ih (pre ++ [x]) (by rw [e]; simp)
      rw [List.filter_append, List.length_append, List.length_append] at nx
      have go0 : (decide (hw A x = 1) && (decide (b = 0) || fld A x)) = false → WPc 85 5 [(9, 0), (0, nI (eoL A od).length), (0, b), (0, nI (pre.filter fun e => decide (hw A e = 1) && (decide (b = 0) || fld A e)).length), (0, nI pre.length + 1), (500, 0)] [] h Q := fun q => by
        rw [List.filter_cons_of_neg (by rw [q]; decide), List.filter_nil] at nx
        rw [← nJ_s]; exact nx
      have go1 : (decide (hw A x = 1) && (decide (b = 0) || fld A x)) = true → WPc 85 5 [(9, 0), (0, nI (eoL A od).length), (0, b), (0, nI (pre.filter fun e => decide (hw A e = 1) && (decide (b = 0) || fld A e)).length + 1), (0, nI pre.length + 1), (500, 0)] [] h Q := fun q => by
        rw [List.filter_cons_of_pos (by exact q), List.filter_nil] at nx
        rw [← nJ_s, ← nJ_s]; exact nx
      refine b85_5 _ _ _ _ h Q ⟨fun z => absurd z ne, fun _ => ⟨i4, ?_⟩⟩
      rw [val, ev.2.1.1]
      refine ⟨xn, fun z => go0 (by simp [z]), fun z => ⟨fun z2 => go1 (by simp [z, z2]), fun z2 => ⟨xn, ?_⟩⟩⟩
      rw [ev.2.2.1.1.1, if_pos z]
      exact ⟨fun z3 => go0 (by simp [z2, z3, fld]), fun z3 => go1 (by simp [z, z2, z3, fld])⟩
  exact b85_0 _ _ h Q (loop (eoL A od) [] rfl)
theorem s_firstFailed (A : SY) (od : List Int32) (h : HP) (Q : Option AV → HP → Prop) (hI : YV A) (R : RC A [] (Zst A) od h) (H : Q (some (2, ((sod A).filter (fld A)).headD (-1))) h) : WPm 86 [(9, 0)] h Q := by
  rw [(sod_od R.2.2.2.2.1).1] at H
  refine b86_0 h Q (s_leastOpen A od [] (Zst A) h _ hI R fun v hv => b86_5 _ h Q (s_settledEnd A v od [] (Zst A) h _ R hv (b86_8 _ h Q ?_)))
  have loop : ∀ (rest pre : List Int32), eoL A od = pre ++ rest → (((eoL A od).filter (fun e => decide (hw A e = 1))).filter (fld A)) = ((rest.filter (fun e => decide (hw A e = 1))).filter (fld A)) → WPc 86 11 [(9, 0), (0, nI (eoL A od).length), (0, nI pre.length), (500, 0)] [] h Q := by
    intro rest
    induction rest with
    | nil =>
      intro pre e ef
      rw [List.append_nil] at e
      rw [ef] at H
      exact b86_11 _ _ h Q ⟨fun _ => H, fun z => absurd (by rw [e]; exact Int32.le_refl _) z⟩
    | cons x rest ih =>
      intro pre e ef
      obtain ⟨i4, val, ix, ne⟩ := eo_go R.2.2.2.2.1 e
      have xn := ina_n1 ix
      have ev := R.2.2.2.1 x ix
      have go : (((eoL A od).filter (fun e => decide (hw A e = 1))).filter (fld A)) = ((rest.filter (fun e => decide (hw A e = 1))).filter (fld A)) → WPc 86 11 [(9, 0), (0, nI (eoL A od).length), (0, nI pre.length + 1), (500, 0)] [] h Q := fun q => by
        have nx := ih (pre ++ [x]) (by rw [e]; simp) q
        rw [List.length_append] at nx
        rw [← nJ_s]; exact nx
      refine b86_11 _ _ h Q ⟨fun z => absurd z ne, fun _ => ⟨i4, ?_⟩⟩
      rw [val, ev.2.1.1]
      refine ⟨xn, fun z => go (by rw [ef, List.filter_cons_of_neg (by simp [z])]), fun z => ⟨xn, ?_⟩⟩
      rw [ev.2.2.1.1.1, if_pos z]
      rw [List.filter_cons_of_pos (by simp [z])] at ef
      refine ⟨fun z3 => go (by rw [ef, List.filter_cons_of_neg (by simp [z3, fld])]), fun z3 => ?_⟩
      rw [ef, List.filter_cons_of_pos (by simp [z3, fld])] at H
      exact H
  exact loop (eoL A od) [] rfl rfl
theorem fl_24 {A : SY} {h h' : HP} {od : List Int32} {T : List Int32} {Z : Int32 → ZT} (hI : YV A) (R : RC A T Z od h) (g : agw (wD 0 24) h h') : RC A T Z od h' :=
  RC_wD R g ⟨by decide, by decide⟩ (CO_4 R.2.2.2.2.1) (fun _ _ _ => rfl) fun z => absurd (Int32.lt_of_lt_of_le z.2 hI.1.1.1.2) (by decide)
theorem s_settledState (A : SY) (p : Int32) (od : List Int32) (h : HP) (Q : Option AV → HP → Prop) (hY : YW A) (R : RC A [] (Zst A) od h) (hp : ina p (nP A)) (H : ∀ s h', agw (wD 0 24) h h' → CZ (rp A.1 p (sdn A p)) s h' → (s = p ∨ s = 24) → Q (some (8, s)) h') : WPm 84 [(9, 0), (0, p), (0, nI (eoL A od).length)] h Q := by
  have hI := hY.1
  have c := R.2.2.2.2.1
  have RV' := RC_RV R
  have hp12 : ina p 12 := ⟨hp.1, Int32.lt_of_lt_of_le hp.2 hI.1.1.1.2⟩
  have so := sod_od c
  have e1 : (eoL A od).filter (dq A p) = sdn A p := by
    rw [← sod_dn hY so.2 p, so.1, List.filter_filter]
    refine List.filter_congr fun d _ => ?_
    unfold dq
    by_cases z1 : hw A d = 1 <;> by_cases z2 : pa A d = p <;> simp [z1, z2]
  refine b84_0 _ _ h Q (s_firstDoneM A od (eoL A od) (od.dropWhile (blB A)) p h _ RV' eo_app fun u r eu hu hr => b84_6 _ _ _ h Q ?_)
  have eo : od = (eoL A od ++ u) ++ r := by
    rw [List.append_assoc, ← eu]; exact eo_app
  have e2 : (eoL A od ++ u).filter (dq A p) = sdn A p := by
    rw [List.filter_append, e1, List.filter_eq_nil_iff.mpr (fun d hd => by rw [hu d hd]; decide), List.append_nil]
  have len : nI ((eoL A od).length + u.length) = nI (eoL A od ++ u).length := by rw [List.length_append]
  rw [len]
  rcases hr with hr | ⟨d, r', hr, dd⟩
  · rw [hr, List.append_nil] at eo
    have zp : Zst A p = rp A.1 p (sdn A p) := by
      unfold Zst
      rw [odn hI c p]
      conv => lhs; rw [eo]
      rw [e2]
    rw [c.1, ← eo, c.2.2.2.2.1]
    refine ⟨fun z => absurd z (by grind), fun _ => ⟨hp12, ?_⟩⟩
    rw [(R.2.1 p hp).1]
    exact ⟨ina_n1 hp, H p h agw_rf (by rw [← zp]; exact R.2.2.1 p hp) (Or.inl rfl)⟩
  · rw [hr] at eo
    refine ⟨fun _ => ?_, fun z => absurd ?_ z⟩
    · refine s_stateAhead A p 24 od (eoL A od ++ u) r' d h _ hI.1.1 (CO_4 c) (fun q => odn hI c q) RV' (fun e he => (R.2.2.2.1 e he).2.2.2) hp ⟨by decide, by decide⟩ eo fun h' g z => b84_38 _ _ _ h' Q ?_
      rw [e2] at z
      exact H 24 h' g z (Or.inr rfl)
    · have g := (od_go c eo).2.2.2
      grind
theorem C_settled (A : SY) (p w : Int32) (od : List Int32) (h : HP) (Q : Option AV → HP → Prop) (hY : YW A) (R : RC A [] (Zst A) od h) (H : ∀ h', ag sC h h' → RC A [] (Zst A) od h' → Q (some (0, opSettled A p w)) h') : WPm 50 [(9, 0), (0, p), (0, w)] h Q := by
  unfold opSettled at H
  have bad : ¬ (isP A p ∧ isIn w 0 3) → Q (some (0, 0)) h := fun z => by
    have H := H h ag_rf R
    rw [if_neg z] at H; exact H
  refine b50_0 _ _ h Q (c_part p h _ R (fun z1 => b50_5 _ _ _ h Q ⟨fun y => absurd y (by decide), fun _ => ?_⟩) (fun z => b50_5 _ _ _ h Q ⟨fun _ => bad fun q => z q.1, fun y => absurd rfl y⟩))
  refine c_in _ _ _ h _ (fun z2 => b50_14 _ _ _ h Q ⟨fun _ => ?_, fun y => absurd y (by decide)⟩) (fun z => b50_14 _ _ _ h Q ⟨fun y => absurd rfl y, fun _ => bad fun q => z q.2⟩)
  have ip := isP_ina hY z1
  refine s_leastOpen A od [] (Zst A) h _ hY.1 R fun v hv => b50_26 _ _ _ _ h Q (s_settledEnd A v od [] (Zst A) h _ R hv (b50_29 _ _ _ _ h Q ?_))
  refine s_settledState A p od h _ hY R ip.1 fun s h' g z hs => b50_32 _ _ _ h' Q ⟨?_, in03 z2, ?_⟩
  · rcases hs with hs | hs
    · rw [hs]; exact ina_n1 ip.1
    · rw [hs]; decide
  · have H := H h' (wDC g) (fl_24 hY.1 R g)
    rw [if_pos ⟨z1, z2⟩] at H
    rw [z.1 w (in03 z2)]; exact H
theorem C_failed (A : SY) (w : Int32) (od : List Int32) (h : HP) (Q : Option AV → HP → Prop) (hY : YW A) (R : RC A [] (Zst A) od h) (H : Q (some (0, opFailed A w)) h) : WPm 58 [(9, 0), (0, w)] h Q := by
  unfold opFailed at H
  refine b58_0 _ h Q (c_in _ _ _ h _ (fun z => b58_6 _ _ h Q ⟨fun _ => ?_, fun y => absurd y (by decide)⟩) (fun z => b58_6 _ _ h Q ⟨fun y => absurd rfl y, fun _ => ?_⟩))
  · rw [if_pos z] at H
    refine s_firstFailed A od h _ hY.1 R (b58_16 _ _ h Q ?_)
    have so := (sod_od R.2.2.2.2.1).2
    cases e : (sod A).filter (fld A) with
    | nil =>
      rw [e] at H
      exact ⟨fun y => absurd rfl y, fun _ => H⟩
    | cons x l =>
      rw [e] at H
      have hx : x ∈ sod A := (List.mem_filter.mp (by rw [e]; simp)).1
      have sx := (so.1 x).mp hx
      have ev := R.2.2.2.1 x sx.1
      have xn := ina_n1 sx.1
      show (¬ x = -1 → _) ∧ _
      rw [show ((x :: l).headD (-1)) = x from rfl, ev.1.2.1, ev.1.2.2.1, ev.2.2.1.1.1, if_pos sx.2.1]
      refine ⟨fun _ => ⟨fun y => ⟨xn, ?_⟩, fun y => ⟨fun y1 => ⟨xn, ?_⟩, fun y1 => ⟨xn, ?_⟩⟩⟩, fun y => absurd y xn⟩
      · simp only [y, if_true] at H; exact H
      · simp only [y, y1, if_false, if_true] at H
        rw [if_neg (by decide)] at H; exact H
      · simp only [y, y1, if_false] at H; exact H
  · rw [if_neg z] at H; exact H
