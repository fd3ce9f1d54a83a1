/-! fields and arrays -/
theorem clq {f : Nat} (h : (famT f).1 = 1 ∨ (famT f).1 = 2) : vwCl[(famT f).2.1]? = some (ownS (famT f).2.1, clT (famT f).2.1, (famT f).2.2) ∧ (famT f).2.1 ≤ 9 := by
  have ok := fOK_at (f := f) (by omega)
  simp only [fOK, Bool.and_eq_true, Bool.or_eq_true, Bool.not_eq_true', Nat.beq_eq] at ok
  obtain ⟨⟨⟨-, o⟩, -⟩, -⟩ := ok
  rcases o with o | ⟨o1, o2⟩
  · simp only [Bool.or_eq_false_iff] at o
    rcases h with h | h
    · rw [h] at o
      exact absurd o.1 (by decide)
    · rw [h] at o
      exact absurd o.2 (by decide)
  · have o1 := of_decide_eq_true o1
    refine ⟨?_, Nat.le_of_ble_eq_true o2⟩
    rcases hq : vwCl[(famT f).2.1]? with _ | q
    · rw [hq] at o1
      cases o1
    · rw [hq] at o1
      simp only [Option.map_some, Option.some.injEq, Prod.mk.injEq] at o1
      have e : clT (famT f).2.1 = q.2.1 := by
        funext k
        unfold clT
        rw [List.getD_eq_getElem?_getD, hq]
        rfl
      rw [e, ← o1.1, ← o1.2]
theorem clIn : ∀ (c : Nat) (q : vw_C), vwCl[c]? = some q → ∀ w ∈ u_ws q.1 q.2.1 q.2.2, w ∈ gtbl := by
  intro c q hq w hw
  have hg : goodWord w = true := List.all_eq_true.mp good_ty w (List.mem_flatMap.mpr ⟨q, List.mem_of_getElem? hq, hw⟩)
  refine in_g ?_ hg
  match c, hq with
  | 0, hq => cases hq; exact inX0 w hw
  | 1, hq => cases hq; exact inX1 w hw
  | 2, hq => cases hq; exact inX2 w hw
  | 3, hq => cases hq; exact inX3 w hw
  | 4, hq => cases hq; exact inX4 w hw
  | 5, hq => cases hq; exact inX5 w hw
  | 6, hq => cases hq; exact inX6 w hw
  | 7, hq => cases hq; exact inX7 w hw
  | 8, hq => cases hq; exact inX8 w hw
  | 9, hq => cases hq; exact inX9 w hw
  | n + 10, hq => simp [vwCl] at hq
theorem clTy : ∀ (c : Nat) (q : vw_C), vwCl[c]? = some q → ∃ ty : Nat → FieldType, (∀ k, k < q.2.2 → parseFieldDescriptor (q.2.1 k).2.2.1 = some (ty k)) ∧ ∀ a, a < q.2.2 → ∀ b, b < q.2.2 → a ≠ b → (q.2.1 a).2.1 ≠ (q.2.1 b).2.1 := by
  intro c q hq
  match c, hq with
  | 0, hq => cases hq; exact ⟨tyX0, tyX0_ok, nmX0⟩
  | 1, hq => cases hq; exact ⟨tyX1, tyX1_ok, nmX1⟩
  | 2, hq => cases hq; exact ⟨tyX2, tyX2_ok, nmX2⟩
  | 3, hq => cases hq; exact ⟨tyX3, tyX3_ok, nmX3⟩
  | 4, hq => cases hq; exact ⟨tyX4, tyX4_ok, nmX4⟩
  | 5, hq => cases hq; exact ⟨tyX5, tyX5_ok, nmX5⟩
  | 6, hq => cases hq; exact ⟨tyX6, tyX6_ok, nmX6⟩
  | 7, hq => cases hq; exact ⟨tyX7, tyX7_ok, nmX7⟩
  | 8, hq => cases hq; exact ⟨tyX8, tyX8_ok, nmX8⟩
  | 9, hq => cases hq; exact ⟨tyX9, tyX9_ok, nmX9⟩
  | n + 10, hq => simp [vwCl] at hq
theorem okF_spec {f c : Nat} (h : okF f c = true) : (famT f).1 = 1 ∧ (famT f).2.1 = c := by
  simp only [okF, Bool.and_eq_true, Nat.beq_eq] at h
  exact h
theorem okR_spec {f c : Nat} (h : okR f c = true) : (famT f).1 = 2 ∧ (famT f).2.1 = c := by
  simp only [okR, Bool.and_eq_true, Nat.beq_eq] at h
  exact h
theorem nn_spec {f : Nat} {j : Int32} {A : Prop} (H : nn f j A) : (nulT f = true → ¬ j = -1) ∧ A := by
  unfold nn at H
  cases hb : nulT f with
  | true => rw [hb] at H; exact ⟨fun _ => H.1, H.2⟩
  | false => rw [hb] at H; exact ⟨fun z => Bool.noConfusion z, H⟩
theorem fl_of {h : HP} {v : AV} (q : vd h v) (h1 : 1 ≤ (famT v.1).1) (h3 : (famT v.1).1 ≤ 3) (hn : nulT v.1 = true → ¬ v.2 = -1) : fl h v.1 v.2 := by
  rcases q with q | q | q | q
  · rw [q, fam0] at h1
    exact absurd h1 (by decide)
  · exact q
  · exact absurd q.2 (hn q.1)
  · rw [q] at h3
    exact absurd h3 (by decide +kernel)
theorem raw_of1 {f : Nat} (h : (famT f).1 ≠ 2) : rawTag f = false := by
  unfold rawTag
  cases hb : Nat.beq (famT f).1 2 with
  | false => rfl
  | true => exact absurd (Nat.eq_of_beq_eq_true hb) h
section SND
variable {P : PM} {l : Launch} {mi : Nat} {p : Program} {e : Env} {R : Room} {s : State} {m : MethodId} {args : Array Value} {below : List Frame} {meth : Method} {c : Code} {h0 : HP} {ad0 : AD} {Qf : State → Prop} {pc nx : Nat} {ls st : List AV} {h : HP}
/-- what stands in a slot, as an abstract value -/
theorem gv_spec {f k : Nat} {j : Int32} {K : AV → Prop} {ad : AD} {H : Heap} (r : Rel P ad h H) (q : fl h f j) (hk : k < (famT f).2.2) (g : gv f k j h K) : ∃ w, K w ∧ sv ad h f j k = cv ad w ∧ vd h w ∧ rawTag w.1 = false := by
  obtain ⟨-, -, -, g4, g5⟩ := r.2.2.2.2.2.2.1 f j q
  have hv := g5 k hk
  obtain ⟨ok, -⟩ := sOK_at q.2.1 q.2.2 hk
  unfold gv at g
  unfold slotV at hv
  unfold sv
  rcases hs : styT f k with ⟨t, f', o⟩
  rw [hs] at g hv
  have hnr : 2 ≤ t → rawTag f' = false := fun z => raw_of1 (by have := (sOK_ref ok hs z).2.1; omega)
  match t, g, hv, hnr with
  | 0, g, hv, _ => exact ⟨_, g, rfl, Or.inl rfl, raw0⟩
  | 1, g, hv, _ => exact ⟨_, g, rfl, Or.inl rfl, raw0⟩
  | 2, g, hv, hnr => exact ⟨_, g, (cv_ref r hv).symm, Or.inr (Or.inl hv), hnr (by omega)⟩
  | 3, g, hv, hnr => exact ⟨_, g, rfl, hv, hnr (by omega)⟩
  | 5, g, hv, hnr => exact ⟨_, g, (cv_ref r hv).symm, Or.inr (Or.inl hv), hnr (by omega)⟩
  | 4, g, _, _ => exact g.elim
  | 6, g, _, _ => exact g.elim
  | n + 7, g, _, _ => exact g.elim
theorem fw_k {o i n : Nat} (h : fwB o i n = true) : True := trivial
theorem fslot : (fwords.all fun q => Nat.blt (q % 100) (famT (q % 10000 / 100 + 1)).2.2) = true := by decide +kernel
theorem fslot_of {o i n f : Nat} (h : fwB o i n = true) (hf : (famT f).1 = 1 ∨ (famT f).1 = 2) (hc : (famT f).2.1 = n / 100) : n % 100 < (famT f).2.2 := by
  simp only [fwB, Bool.and_eq_true] at h
  obtain ⟨⟨h1, h2⟩, h3⟩ := h
  have h2 : n < 10000 := Nat.le_of_ble_eq_true h2
  have hm : o * 10000000 + i * 10000 + n ∈ fwords := by simpa using h3
  have z := List.all_eq_true.mp fslot _ hm
  have z := Nat.le_of_ble_eq_true z
  have e1 : (o * 10000000 + i * 10000 + n) % 100 = n % 100 := by omega
  have e2 : (o * 10000000 + i * 10000 + n) % 10000 / 100 = n / 100 := by omega
  rw [e1, e2] at z
  obtain ⟨q1, hle⟩ := clq hf
  have q2 := clq (f := n / 100 + 1) (by
    have : ∀ c, c ≤ 9 → (famT (c + 1)).1 = 1 := by decide +kernel
    exact Or.inl (this _ (by omega)))
  have e3 : (famT (n / 100 + 1)).2.1 = n / 100 := by
    have : ∀ c, c ≤ 9 → (famT (c + 1)).2.1 = c := by decide +kernel
    exact this _ (by omega)
  rw [e3, ← hc, q1] at q2
  have := q2.1
  simp only [Option.some.injEq, Prod.mk.injEq] at this
  rw [← hc] at z
  omega
theorem g_getfield {n : Nat} {v : AV} {K : AV → Prop} (cx : CX P mi p R s m args meth c) (di : DI mi pc nx (.getfield n)) (hf : okF v.1 (n / 100) = true) (H : nn v.1 v.2 (gv v.1 (n % 100) v.2 h K)) (k : ∀ w, K w → WG P l mi p e R s m args below meth c h0 ad0 Qf nx ls (w :: st) h) : WG P l mi p e R s m args below meth c h0 ad0 Qf pc ls (v :: st) h := by
  obtain ⟨hx, hb, hml, hown, hts, hr, hlk, hin, hK, -⟩ := cx
  obtain ⟨w, len, hd, hnx, hl, hm⟩ := di
  subst hnx
  obtain ⟨f1, f2⟩ := okF_spec hf
  obtain ⟨hnn, hg⟩ := nn_spec H
  simp only [mtc] at hm
  split at hm
  · obtain rfl : len = 3 := hl.resolve_left Bool.false_ne_true
    intro ad H locs lsC iv
    obtain ⟨r, xt, hlo, hlv, hnl, hs, hls⟩ := iv
    have q := fl_of hs.hd.1 (by omega) (by omega) hnn
    have hk := fslot_of hm (Or.inl f1) f2
    obtain ⟨hcl, -⟩ := clq (Or.inl f1)
    obtain ⟨w, hw, hsv, hvd, hnr⟩ := gv_spec r q hk hg
    obtain ⟨⟨gc, -⟩, -⟩ := r.2.2.2.2.2.2.1 _ _ q
    obtain ⟨cell, q1, q2, q3, q4⟩ := gc (by omega)
    obtain ⟨hS, hfc, kC, hkC, hkind⟩ := hK.1.1 _ _ hcl
    obtain ⟨cf, kf, fi, fd, hi, hsl⟩ := hS _ hk
    have hlink := hts _ (fw_g hm)
    rw [List.map_cons, show cv ad v = .ref (ad v.1 v.2) from cv_ref r q]
    unfold fwX at hlink
    rw [← f2] at hlink
    refine W.getf hx hb hown hlink hi (u_facts hfc hkC (u_lays hts (clIn _ _ hcl) hk) hi).1 q1 (by rw [q3]; exact fun z => by cases z) (v := cv ad w) ?_ rfl rfl hd ?_
    · rw [hsl, ← hsv]
      exact q4 _ hk
    · exact k w hw ad H locs lsC ⟨r, xt, hlo, hlv, hnl, hs.tl.nr hvd hnr, hls⟩
  · cases hm
end SND
