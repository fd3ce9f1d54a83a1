/-! 85: the class: the next event, the floor -/
theorem od_go {A : SY} {od : List Int32} {h : HP} (c : CO A od h) {pre r : List Int32} {x : Int32} (eo : od = pre ++ x :: r) : ina (nI pre.length) 400 ∧ h 26 0 (nI pre.length) = x ∧ ina x (nE A) ∧ ¬ h 3 0 1 ≤ nI pre.length := by
  have hl := c.2.2.2.2.2
  have lt : pre.length < od.length := by rw [eo]; simp
  refine ⟨⟨nJ_nn (by omega), (nJ_lt (b := 400) (by omega) (by omega)).mpr (by omega)⟩, ?_, (c.2.2.1 x).mp (by rw [eo]; simp), fun z => ?_⟩
  · have := c.2.1
    rw [eo] at this
    have := (LSq_app.mp this).2.1
    rw [Int32.zero_add] at this
    exact this
  · rw [c.1, ← c.2.2.2.2.1, nJ_le (by omega) (by omega)] at z
    omega
theorem od_fin {A : SY} {od : List Int32} {h : HP} (c : CO A od h) : h 3 0 1 ≤ nI od.length := by rw [c.1, c.2.2.2.2.1]; exact Int32.le_refl _
theorem s_leastThere (A : SY) (od : List Int32) (l : Int32) (T : List Int32) (Z : Int32 → ZT) (h : HP) (Q : Option AV → HP → Prop) (hI : YV A) (R : RC A T Z od h) (H : ∀ v, nxt A l v → Q (some (2, v)) h) : WPm 65 [(9, 0), (0, l)] h Q := by
  have c := R.2.2.2.2.1
  have loop : ∀ (r pre : List Int32), od = pre ++ r → (∀ f, f ∈ pre → ¬ (hw A f = 0 ∧ A.1 42 (pa A f) = l)) → WPc 65 2 [(9, 0), (0, l), (0, nI pre.length), (500, 0)] [] h Q := by
    intro r
    induction r with
    | nil =>
      intro pre eo np
      rw [List.append_nil] at eo
      subst eo
      exact b65_2 _ _ h Q ⟨fun _ => H _ (Or.inl ⟨rfl, fun f f1 f2 f3 => np f ((c.2.2.1 f).mpr f1) ⟨f2, f3⟩⟩), fun z => absurd (od_fin c) z⟩
    | cons x r ih =>
      intro pre eo np
      obtain ⟨o1, o2, o3, o4⟩ := od_go c eo
      have gx := ga hI o3
      have ev := R.2.2.2.1 x o3
      have pp := R.2.1 (pa A x) gx.2.2
      have nx : (¬ (hw A x = 0 ∧ A.1 42 (pa A x) = l)) → WPc 65 2 [(9, 0), (0, l), (0, nI pre.length + 1), (500, 0)] [] h Q := fun q => by
        have := ih (pre ++ [x]) (by rw [eo]; simp) fun f hf => by
          rcases List.mem_append.mp hf with w | w
          · exact np f w
          · rw [List.mem_singleton.mp w]; exact q
        rw [List.length_append, List.length_singleton, nJ_s] at this
        exact this
      refine b65_2 _ _ h Q ⟨fun z => absurd z o4, fun _ => ?_⟩
      rw [o2, ev.2.1.1, ev.1.2.2.1, pp.1, pp.2.1]
      refine ⟨o1, ina_n1 o3, fun q => nx fun w => q w.1, fun q => ⟨ina_n1 o3, gx.2.1, ina_n1 gx.2.1, fun w => nx fun v => w v.2, fun w => H x (Or.inr ⟨ina_n1 o3, ⟨o3, q, w⟩, fun f f1 f2 f3 fb => ?_⟩)⟩⟩
      have mf := (c.2.2.1 f).mpr f1
      have ps := c.2.2.2.1
      rw [eo] at mf ps
      rcases List.mem_append.mp mf with v | v
      · exact np f v ⟨f2, f3⟩
      · rcases List.mem_cons.mp v with v | v
        · rw [v] at fb; exact bel_irr fb
        · have := (List.pairwise_cons.mp (List.pairwise_append.mp ps).2.1).1 f v
          exact bel_irr (bel_tr this fb)
  exact b65_0 _ h Q (loop od [] rfl (fun f hf => by cases hf))
theorem s_isOpen (A : SY) (od : List Int32) (e : Int32) (T : List Int32) (Z : Int32 → ZT) (h : HP) (Q : Option AV → HP → Prop) (hI : YV A) (R : RC A T Z od h) (he : ina e (nE A)) (H1 : opn A e → Q (some (0, 1)) h) (H0 : ¬ opn A e → Q (some (0, 0)) h) : WPm 12 [(2, e)] h Q := by
  have ev := R.2.2.2.1 e he
  have en := ina_n1 he
  refine b12_0 _ h Q ?_
  rw [ev.2.1.1, ev.2.1.2]
  refine ⟨en, fun q => ⟨Or.inr rfl, H1 (Or.inl q)⟩, fun q => ⟨en, fun w => ⟨Or.inr rfl, H1 (Or.inr (Or.inl w))⟩, fun w => ⟨en, fun v => ⟨Or.inl rfl, H0 fun o => ?_⟩, fun v => ⟨Or.inr rfl, H1 (Or.inr (Or.inr ?_))⟩⟩⟩⟩
  · rcases o with o | o | o
    · exact q o
    · exact w o
    · have := (hI.2.2.1.2.2.1 e (List.mem_append.mpr (Or.inl o))).2.1
      refine v ?_
      unfold shd
      rw [this, if_neg (by decide), if_pos (Or.inl o)]
  · unfold shd at v
    split at v
    · cases v
    · split at v
      · rename_i n1 o
        rcases o with o | o
        · exact o
        · rcases (hI.1.2.2.1 e he).2.2.2 with z | z <;> (rw [z] at o; exact absurd o (by decide))
      · cases v
theorem s_leastOpen (A : SY) (od : List Int32) (T : List Int32) (Z : Int32 → ZT) (h : HP) (Q : Option AV → HP → Prop) (hI : YV A) (R : RC A T Z od h) (H : ∀ v, isFl A v → Q (some (2, v)) h) : WPm 81 [(9, 0)] h Q := by
  have c := R.2.2.2.2.1
  have loop : ∀ (r pre : List Int32), od = pre ++ r → (∀ f, f ∈ pre → ¬ opn A f) → WPc 81 2 [(9, 0), (0, nI pre.length)] [] h Q := by
    intro r
    induction r with
    | nil =>
      intro pre eo np
      rw [List.append_nil] at eo
      subst eo
      exact b81_2 _ h Q ⟨fun _ => H _ (Or.inl ⟨rfl, fun f q => np f ((c.2.2.1 f).mpr q.1) q.2⟩), fun z => absurd (od_fin c) z⟩
    | cons x r ih =>
      intro pre eo np
      obtain ⟨o1, o2, o3, o4⟩ := od_go c eo
      refine b81_2 _ h Q ⟨fun z => absurd z o4, fun _ => ?_⟩
      rw [o2]
      refine ⟨o1, ina_n1 o3, s_isOpen A od x T Z h _ hI R o3 (fun q => b81_25 _ _ h Q ⟨fun z => absurd z (by decide), fun _ => ⟨o1, ?_⟩⟩) (fun q => b81_25 _ _ h Q ⟨fun _ => ?_, fun z => absurd rfl z⟩)⟩
      · rw [o2]
        refine H x (Or.inr ⟨ina_n1 o3, ⟨o3, q⟩, fun f fq fb => ?_⟩)
        have mf := (c.2.2.1 f).mpr fq.1
        have ps := c.2.2.2.1
        rw [eo] at mf ps
        rcases List.mem_append.mp mf with v | v
        · exact np f v fq.2
        · rcases List.mem_cons.mp v with v | v
          · rw [v] at fb; exact klt_irr fb
          · have := (List.pairwise_cons.mp (List.pairwise_append.mp ps).2.1).1 f v
            exact bel_nk this fb
      · have := ih (pre ++ [x]) (by rw [eo]; simp) fun f hf => by
          rcases List.mem_append.mp hf with w | w
          · exact np f w
          · rw [List.mem_singleton.mp w]; exact q
        rw [List.length_append, List.length_singleton, nJ_s] at this
        exact this
  exact b81_0 h Q (loop od [] rfl (fun f hf => by cases hf))
theorem s_isBeyond (A : SY) (od : List Int32) (e : Int32) (T : List Int32) (Z : Int32 → ZT) (h : HP) (Q : Option AV → HP → Prop) (hI : YV A) (R : RC A T Z od h) (he : ina e (nE A)) (h0 : hw A e = 0) (H1 : (¬ A.1 10 32 = -1 ∧ ¬ A.1 55 e - A.1 55 (flo A) ≤ A.1 10 32) → Q (some (0, 1)) h) (H0 : ¬ (¬ A.1 10 32 = -1 ∧ ¬ A.1 55 e - A.1 55 (flo A) ≤ A.1 10 32) → Q (some (0, 0)) h) : WPm 66 [(9, 0), (2, e)] h Q := by
  have e13 : h 9 0 13 = A.1 10 32 := R.1.2.2.2.2.1
  have en := ina_n1 he
  refine b66_0 _ h Q ?_
  rw [e13]
  refine ⟨fun q => s_leastOpen A od T Z h _ hI R fun v hv => b66_14 _ _ h Q ⟨fun z => ?_, fun z => ?_⟩, fun q => ⟨Or.inl rfl, H0 fun w => w.1 q⟩⟩
  · rcases hv with w | w
    · exact absurd ⟨he, Or.inl h0⟩ (w.2 e)
    · exact absurd z w.1
  · have k := (fl_uq hv (flo_ok hv)).2 z
    have k55 : A.1 55 v = A.1 55 (flo A) := k.1
    have iv : ina v (nE A) := by
      rcases hv with w | w
      · exact absurd w.1 z
      · exact w.2.1.1
    rw [(R.2.2.2.1 e he).1.2.2.2.1.1, (R.2.2.2.1 v iv).1.2.2.2.1.1, e13, k55]
    exact ⟨en, z, fun w => ⟨Or.inl rfl, H0 fun u => u.2 w⟩, fun w => ⟨Or.inr rfl, H1 ⟨q, w⟩⟩⟩
/-- doNext: a step without the work that follows -/
noncomputable def dnx (A : SY) (l : Int32) : Int32 × SY :=
  if nxF A l = -1 then (-1, A)
  else if ¬ A.1 10 32 = -1 ∧ ¬ A.1 55 (nxF A l) - A.1 55 (flo A) ≤ A.1 10 32 then (-3, A)
  else if ¬ nE A ≤ 392 then (-4, A)
  else (nxF A l, dsF A (nxF A l))
theorem wrk_nil {A : SY} (h : cm A = []) : wrk 800 A = A := by
  unfold wrk
  rw [h]
theorem stp_dnx {A : SY} {l : Int32} (h : cm A = []) : stpF A l = ((dnx A l).1, wrk 800 (dnx A l).2) := by
  unfold stpF dnx
  split
  · rw [wrk_nil h]
  · split
    · rw [wrk_nil h]
    · split
      · rw [wrk_nil h]
      · rfl
theorem YV_dnx {A : SY} {l : Int32} (hI : YV A) : YV (dnx A l).2 := by
  obtain ⟨v, hx⟩ := nxt_ex hI l
  have e := nx_ok hx
  unfold dnx
  split
  · exact hI
  · split
    · exact hI
    · split
      · exact hI
      · rename_i h1 h2 h3
        rw [e] at h1 ⊢
        have mn := nxt_min hx h1
        exact YV_dsF hI mn.1 mn.2.1 (Classical.not_not.mp h3) mn.2.2
theorem s_doNext (A : SY) (od : List Int32) (l : Int32) (h : HP) (Q : Option AV → HP → Prop) (hI : YV A) (R : RC A [] (Zst A) od h) (H : ∀ od' h', ag sC h h' → RC (dnx A l).2 [] (Zst (dnx A l).2) od' h' → Q (some (0, (dnx A l).1)) h') : WPm 64 [(9, 0), (0, l)] h Q := by
  refine b64_0 _ h Q (s_leastThere A od l [] (Zst A) h _ hI R fun v hv => b64_5 _ _ h Q ⟨fun z => ?_, fun z => ?_⟩)
  · have mn := nxt_min hv z
    have e := nx_ok hv
    refine s_isBeyond A od v [] (Zst A) h _ hI R mn.1 mn.2.1 (fun q => b64_17 _ _ _ h Q ⟨fun w => absurd w (by decide), fun _ => ?_⟩) (fun q => b64_17 _ _ _ h Q ⟨fun _ => ?_, fun w => absurd rfl w⟩)
    · have d : dnx A l = (-3, A) := by unfold dnx; rw [e, if_neg z, if_pos q]
      have := H od h ag_rf (by rw [d]; exact R)
      rw [d] at this; exact this
    · rw [R.2.2.2.2.1.1]
      refine ⟨fun n3 => ?_, fun n3 => ?_⟩
      · have d : dnx A l = (v, dsF A v) := by unfold dnx; rw [e, if_neg z, if_neg q, if_neg (fun w => w n3)]
        refine s_doEvent A od v h _ hI R mn.1 mn.2.1 n3 mn.2.2 fun od' h' g' R' => b64_44 _ _ h' Q ⟨z, ?_⟩
        have hI' := YV_dsF hI mn.1 mn.2.1 n3 mn.2.2
        have iv : ina v (nE (dsF A v)) := by
          have gg := ga hI mn.1
          have fb := actsF_b (m := A.1 55 v) (v := A.1 59 v) hI.1.1 gg.2.1 (rp_d hI.1.1 gg.2.1 (dn A (pa A v)))
          have ho8 : (wOf A v).2.2.2.2.1.length ≤ 8 := fb.1
          have ed : dn (dsF A v) = dn (dsB A v) := by rw [dsF_B, sndF_eq ho8]; rfl
          refine (hI'.2.1.1 (pa A v) v ?_).1
          rw [ed]
          show v ∈ ul (dn A) (pa A v) (dn A (pa A v) ++ [v]) (pa A v)
          rw [ul_eq]; simp
        rw [(R'.2.2.2.1 v iv).1.2.1]
        have := H od' h' g' (by rw [d]; exact R')
        rw [d] at this; exact this
      · have d : dnx A l = (-4, A) := by unfold dnx; rw [e, if_neg z, if_neg q, if_pos n3]
        have := H od h ag_rf (by rw [d]; exact R)
        rw [d] at this; exact this
  · have e := nx_ok hv
    have d : dnx A l = (-1, A) := by unfold dnx; rw [e, if_pos z]
    have := H od h ag_rf (by rw [d]; exact R)
    rw [d] at this; exact this
