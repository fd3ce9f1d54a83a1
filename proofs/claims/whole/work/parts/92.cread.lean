/-! 92: the class: floor, cell, number, way -/
theorem c_event {A : SY} {T : List Int32} {Z : Int32 → ZT} {od : List Int32} (x : Int32) (h : HP) (Q : Option AV → HP → Prop) (R : RC A T Z od h) (H1 : isE A x → Q (some (0, 1)) h) (H0 : ¬ isE A x → Q (some (0, 0)) h) : WPm 63 [(9, 0), (0, x)] h Q := by
  refine b63_0 _ h Q ?_
  rw [R.2.2.2.2.1.1]
  exact c_in _ _ _ h _ (fun z => b63_14 _ _ h Q ⟨Or.inr rfl, H1 z⟩) (fun z => b63_14 _ _ h Q ⟨Or.inl rfl, H0 z⟩)
theorem C_floor (A : SY) (w : Int32) (od : List Int32) (h : HP) (Q : Option AV → HP → Prop) (hY : YW A) (R : RC A [] (Zst A) od h) (H : Q (some (0, opFloor A w)) h) : WPm 48 [(9, 0), (0, w)] h Q := by
  unfold opFloor at H
  refine b48_0 _ h Q (c_in _ _ _ h _ (fun z => b48_6 _ _ h Q ⟨fun _ => ?_, fun y => absurd y (by decide)⟩) (fun z => b48_6 _ _ h Q ⟨fun y => absurd rfl y, fun _ => ?_⟩))
  · rw [if_pos z] at H
    refine s_leastOpen A od [] (Zst A) h _ hY.1 R fun v hv => b48_16 _ _ h Q ⟨fun y => ⟨y, ?_⟩, fun y => b48_31 _ _ _ h Q ?_⟩
    · have uq := fl_uq hv (flo_ok hv)
      have iv : ina v (nE A) := by
        rcases hv with u | u
        · exact absurd u.1 y
        · exact u.2.1.1
      rw [if_neg (fun q => y (uq.1.mpr q))] at H
      have k := uq.2 y
      rw [← k.1, ← k.2.1, ← k.2.2.1, ← k.2.2.2] at H
      have ky := (R.2.2.2.1 v iv).1.2.2.2.1
      refine b13_0 _ _ h _ ?_
      rw [ky.1, ky.2.1, ky.2.2.1, ky.2.2.2]
      refine ⟨fun w0 => ⟨y, b48_31 _ _ _ h Q ?_⟩, fun w0 => ⟨fun w1 => ⟨y, b48_31 _ _ _ h Q ?_⟩, fun w1 => ⟨fun w2 => ⟨y, b48_31 _ _ _ h Q ?_⟩, fun w2 => ⟨y, b48_31 _ _ _ h Q ?_⟩⟩⟩⟩
      · rw [if_pos w0] at H; exact H
      · rw [if_neg w0, if_pos w1] at H; exact H
      · rw [if_neg w0, if_neg w1, if_pos w2] at H; exact H
      · rw [if_neg w0, if_neg w1, if_neg w2] at H; exact H
    · have uq := fl_uq hv (flo_ok hv)
      rw [if_pos (uq.1.mp y)] at H
      exact H
  · rw [if_neg z] at H
    exact H
theorem C_cell (A : SY) (p c : Int32) (od : List Int32) (h : HP) (Q : Option AV → HP → Prop) (hY : YW A) (R : RC A [] (Zst A) od h) (H : Q (some (0, opCell A p c)) h) : WPm 49 [(9, 0), (0, p), (0, c)] h Q := by
  unfold opCell at H
  have bad : ¬ (isP A p ∧ isIn c 0 3) → Q (some (0, 0)) h := fun z => by
    rw [if_neg z] at H
    exact H
  refine b49_0 _ _ h Q (c_part p h _ R (fun z1 => b49_5 _ _ _ h Q ⟨fun y => absurd y (by decide), fun _ => ?_⟩) (fun z => b49_5 _ _ _ h Q ⟨fun _ => bad fun q => z q.1, fun y => absurd rfl y⟩))
  refine c_in _ _ _ h _ (fun z2 => b49_14 _ _ _ h Q ⟨fun _ => ?_, fun y => absurd y (by decide)⟩) (fun z => b49_14 _ _ _ h Q ⟨fun y => absurd rfl y, fun _ => bad fun q => z q.2⟩)
  rw [if_pos ⟨z1, z2⟩] at H
  have ip := isP_ina hY z1
  have i4 : ina c 4 := ⟨z2.1, by have := z2.2; grind⟩
  rw [(R.2.1 p ip.1).1, (R.2.2.1 p ip.1).1 c i4]
  exact ⟨ip.2, ina_n1 ip.2, ina_n1 ip.2, i4, H⟩
theorem C_number (A : SY) (e : Int32) (od : List Int32) (h : HP) (Q : Option AV → HP → Prop) (hY : YW A) (R : RC A [] (Zst A) od h) (H : Q (some (0, opNumber A e)) h) : WPm 53 [(9, 0), (0, e)] h Q := by
  unfold opNumber at H
  refine b53_0 _ h Q (c_event e h _ R (fun z => b53_5 _ _ h Q ⟨fun y => absurd y (by decide), fun _ => ?_⟩) (fun z => b53_5 _ _ h Q ⟨fun _ => ?_, fun y => absurd rfl y⟩))
  · rw [if_pos z] at H
    have ie := isE_ina hY.1 z
    have ev := R.2.2.2.1 e ie
    rw [ev.1.1, ev.1.2.2.2.2]
    exact ⟨(ga hY.1 ie).1, ina_n1 ie, H⟩
  · rw [if_neg z] at H
    exact H
theorem C_way (A : SY) (i w : Int32) (od : List Int32) (h : HP) (Q : Option AV → HP → Prop) (hY : YW A) (R : RC A [] (Zst A) od h) (H : Q (some (0, opWay A i w)) h) : WPm 54 [(9, 0), (0, i), (0, w)] h Q := by
  unfold opWay isW at H
  have wl := (wl800 hY.1).1
  have c0 := R.2.2.2.2.2.1.1
  have e6 : h 6 0 2 = nI (wy A).length := c0.1
  refine b54_0 _ _ h Q (c_in _ _ _ h _ (fun z => b54_6 _ _ _ h Q ⟨fun _ => ?_, fun y => absurd y (by decide)⟩) (fun z => b54_6 _ _ _ h Q ⟨fun y => absurd rfl y, fun _ => ?_⟩))
  · rw [if_pos z] at H
    rw [e6]
    refine c_in _ _ _ h _ (fun z2 => b54_26 _ _ _ h Q ⟨fun _ => ?_, fun y => absurd y (by decide)⟩) (fun z2 => b54_26 _ _ _ h Q ⟨fun y => absurd rfl y, fun _ => ?_⟩)
    · rw [if_pos z2] at H
      obtain ⟨k, rfl, hk⟩ := nJ_ex z2.1
      have hk2 : k < (wy A).length := by
        have h1 : nI k < nI (wy A).length := by
          have := z2.2
          have := nJ_nn (n := (wy A).length) (by omega)
          have h3 : nI (wy A).length ≤ nI 800 := (nJ_le (by omega) (by omega)).mpr wl
          have h4 : nI 800 = 800 := rfl
          grind
        exact (nJ_lt hk (by omega)).mp h1
      have ek : (nI k).toNatClampNeg = k := Int32.toNatClampNeg_ofNat_of_lt (by omega)
      have eg : (wy A).getD k (0, false) = (wy A)[k] := by simp [hk2]
      rw [ek, eg] at H
      have i8 : ina (nI k) 800 := ⟨nJ_nn (by omega), (nJ_lt (b := 800) (by omega) (by omega)).mpr (by omega)⟩
      have v34 : h 34 0 (nI k) = (wy A)[k].1 := by
        have := LSq_get c0.2.1 k (by rw [List.length_map]; exact hk2)
        rw [Int32.zero_add] at this
        rw [this, List.getElem_map]
      have v35 : h 35 0 (nI k) = bN (wy A)[k].2 := by
        have := LSq_get c0.2.2 k (by rw [List.length_map]; exact hk2)
        rw [Int32.zero_add] at this
        rw [this, List.getElem_map]
      have qin := (NC_in hY.1 (q := (wy A)[k]) (List.mem_append.mpr (Or.inl (List.getElem_mem hk2)))).1
      rw [v34, v35]
      refine ⟨fun w0 => ⟨i8, ?_⟩, fun w0 => ⟨i8, ina_n1 qin, ?_⟩⟩
      · rw [if_neg w0] at H
        generalize (wy A)[k].2 = b at H
        cases b with
        | false => exact ⟨fun _ => H, fun y => absurd rfl y⟩
        | true => exact ⟨fun y => absurd y (by decide), fun _ => H⟩
      · rw [if_pos w0] at H
        rw [(R.2.2.2.1 _ qin).1.2.1]
        exact H
    · rw [if_neg z2] at H
      exact H
  · rw [if_neg z] at H
    exact H
