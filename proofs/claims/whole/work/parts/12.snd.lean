/-! stores -/
theorem setSlot_size (cell : Cell) (i : Nat) (v : Value) : (cell.setSlot i v).slots.size = cell.slots.size := by
  simp [Cell.setSlot]
theorem ss_set {n a : Nat} {H H' : Heap} {cell : Cell} {i : Nat} {v : Value} (hc : H[a]? = some cell) (h1 : H'[a]? = some (cell.setSlot i v)) (hz : H'.size = H.size) (ho : ∀ q : Nat, q ≠ a → H'[q]? = H[q]?) : ss n H' = ss n H := by
  refine ss_eq hz fun q c hq => ?_
  by_cases e : q = a
  · subst e
    rw [hc] at hq
    cases hq
    exact ⟨_, h1, setSlot_size _ _ _⟩
  · exact ⟨c, by rw [ho q e]; exact hq, rfl⟩
theorem six_all : ((List.range 21).all fun f => (List.range (famT f).2.2).all fun k => !Nat.beq (styT f k).1 6 || decide (¬ (styT f k).2.2 = -1)) = true := by decide +kernel
theorem six_ok (f : Nat) (hf : f < 86) (k : Nat) (hk : k < (famT f).2.2) (h6 : (styT f k).1 = 6) : ¬ (styT f k).2.2 = -1 := by
  have h1 : 1 ≤ (famT f).1 ∧ (famT f).1 ≤ 3 := by
    have : ∀ f, f < 86 → 0 < (famT f).2.2 → 1 ≤ (famT f).1 ∧ (famT f).1 ≤ 3 := by decide +kernel
    exact this f hf (by omega)
  have h2 := (sOK_ref (sOK_at h1.1 h1.2 hk).1 (f := f) (k := k) (t := 6) (f' := (styT f k).2.1) (o := (styT f k).2.2) (by rw [← h6]) (by omega)).2.2.2.2.2 (Or.inr rfl)
  have h3 : f < 21 := by
    have : ∀ f, f < 86 → (famT f).1 = 2 → f < 21 := by decide +kernel
    exact this f hf h2.1
  have z := List.all_eq_true.mp (List.all_eq_true.mp six_all f (List.mem_range.mpr h3)) k (List.mem_range.mpr hk)
  rw [h6] at z
  simp only [show Nat.beq 6 6 = true from rfl, Bool.not_true, Bool.false_or] at z
  exact of_decide_eq_true z
/-- what a put of w into a slot must be -/
theorem pv_spec {h : HP} {f k : Nat} {j : Int32} {v : AV} {K : HP → Prop} (g : pv f k j v h K) : ∃ x, K (up h f j (nI k) x) ∧ (
    ((styT f k).1 = 0 ∧ v = (0, x)) ∨ ((styT f k).1 = 1 ∧ v = (0, x) ∧ (x = 0 ∨ x = 1)) ∨ ((styT f k).1 = 3 ∧ v = ((styT f k).2.1, x)) ∨ ((styT f k).1 = 4 ∧ v = ((styT f k).2.1, j) ∧ x = 1) ∨ ((styT f k).1 = 6 ∧ v = ((styT f k).2.1, (styT f k).2.2) ∧ x = 1)) := by
  unfold pv at g
  rcases hs : styT f k with ⟨t, f', o⟩
  rw [hs] at g
  match t, g with
  | 0, g =>
    obtain ⟨g1, g2⟩ := cT g
    exact ⟨v.2, g2, Or.inl ⟨rfl, beq0 g1⟩⟩
  | 1, g =>
    obtain ⟨g1, g2, g3⟩ := cT g
    exact ⟨v.2, g3, Or.inr (Or.inl ⟨rfl, beq0 g1, g2⟩)⟩
  | 3, g =>
    obtain ⟨g1, g2⟩ := cT g
    exact ⟨v.2, g2, Or.inr (Or.inr (Or.inl ⟨rfl, Prod.ext (Nat.eq_of_beq_eq_true g1) rfl⟩))⟩
  | 4, g =>
    obtain ⟨g1, g2, g3⟩ := cT g
    exact ⟨1, g3, Or.inr (Or.inr (Or.inr (Or.inl ⟨rfl, Prod.ext (Nat.eq_of_beq_eq_true g1) g2, rfl⟩)))⟩
  | 6, g =>
    obtain ⟨g1, g2, g3⟩ := cT g
    exact ⟨1, g3, Or.inr (Or.inr (Or.inr (Or.inr ⟨rfl, Prod.ext (Nat.eq_of_beq_eq_true g1) g2, rfl⟩)))⟩
  | 2, g => exact g.elim
  | 5, g => exact g.elim
  | n + 7, g => exact g.elim
section SND
variable {P : PM} {l : Launch} {mi : Nat} {p : Program} {e : Env} {R : Room} {s : State} {m : MethodId} {args : Array Value} {below : List Frame} {meth : Method} {c : Code} {h0 : HP} {ad0 : AD} {Qf : State → Prop} {pc nx : Nat} {ls st : List AV} {h : HP}
/-- behind a store of an abstract value into slot k of a cell -/
theorem put_rel {ad : AD} {H H' : Heap} (r : Rel P ad h H) {f : Nat} {j x : Int32} {k : Nat} {v : AV} (q : fl h f j) (hk : k < (famT f).2.2) (hvd : vd h v)
    (hst : ((styT f k).1 = 0 ∧ v = (0, x)) ∨ ((styT f k).1 = 1 ∧ v = (0, x) ∧ (x = 0 ∨ x = 1)) ∨ ((styT f k).1 = 3 ∧ v = ((styT f k).2.1, x)) ∨ ((styT f k).1 = 4 ∧ v = ((styT f k).2.1, j) ∧ x = 1) ∨ ((styT f k).1 = 6 ∧ v = ((styT f k).2.1, (styT f k).2.2) ∧ x = 1))
    (hz : H'.size = H.size) (ho : ∀ q : Nat, q ≠ ad f j → H'[q]? = H[q]?) (hss : ss (pB P) H' = ss (pB P) H)
    (hc1 : (famT f).1 ≤ 2 → t_OB (ad f j) (pC P (famT f).2.1) (famT f).2.2 (pI P (famT f).2.1) H' (updV (sv ad h f j) k (cv ad v)))
    (hc2 : (famT f).1 = 3 → H'[ad f j]? = some (arrV (pT P (famT f).2.1) (famT f).2.2 (updV (sv ad h f j) k (cv ad v)))) : Rel P ad (up h f j (nI k) x) H' := by
  have hn := n_small q.2.1
  obtain ⟨ok, -⟩ := sOK_at q.2.1 q.2.2 hk
  have hkk : k < 2 ^ 31 := by omega
  have hfl : ∀ f' j', fl h f' j' → fl (up h f j (nI k) x) f' j' := fun f' j' z => ⟨by rw [up_slot fun e => nI_ne_neg hkk e.symm]; exact z.1, z.2⟩
  have e1 : sv ad (up h f j (nI k) x) f j k = cv ad v ∧ slotV (up h f j (nI k) x) f j k := by
    unfold sv slotV
    rw [up_same]
    rcases hs : styT f k with ⟨t, f', o⟩
    rw [hs] at hst
    rcases hst with ⟨a, b⟩ | ⟨a, b, -⟩ | ⟨a, b⟩ | ⟨a, b, d⟩ | ⟨a, b, d⟩
    · simp only at a
      subst a b
      exact ⟨rfl, trivial⟩
    · simp only at a
      subst a b
      exact ⟨rfl, trivial⟩
    · simp only at a b
      subst a b
      exact ⟨rfl, vd_up hkk hvd⟩
    · simp only at a b
      subst a b d
      have hf' : fl h f' j := by
        have hne := (sOK_ref ok hs (by omega)).2
        refine fl_of hvd (by show 1 ≤ (famT f').1; omega) (by show (famT f').1 ≤ 3; omega) fun _ => (r.2.2.2.2.2.2.1 f j q).2.2.2.1
      exact ⟨(cv_ref r hf').symm, fun _ => hfl _ _ hf'⟩
    · simp only at a b
      subst a b d
      have hno : ¬ o = -1 := by
        have : ∀ f, f < 86 → ∀ k, k < (famT f).2.2 → (styT f k).1 = 6 → ¬ (styT f k).2.2 = -1 := by
          intro f hf k hk h6
          have := six_ok f hf k hk h6
          exact this
        have := this f (fam_lt q.2.1) k hk (by rw [hs])
        rw [hs] at this
        exact this
      have hf' : fl h f' o := by
        have hne := (sOK_ref ok hs (by omega)).2
        exact fl_of hvd (by show 1 ≤ (famT f').1; omega) (by show (famT f').1 ≤ 3; omega) fun _ => hno
      exact ⟨(cv_ref r hf').symm, fun _ => hfl _ _ hf'⟩
  have e2 : ∀ k', k' < (famT f).2.2 → updV (sv ad h f j) k (cv ad v) k' = sv ad (up h f j (nI k) x) f j k' := by
    intro k' hk'
    unfold updV
    by_cases ek : k' = k
    · subst ek
      rw [if_pos rfl, e1.1]
    · rw [if_neg ek]
      exact (sv_congr (up_slot fun z => ek ((nI_eq (by omega) (by omega)).mp z))).symm
  refine Rel_up r q hk hz ho hss ⟨fun z => (hc1 z).to e2, fun z => ?_⟩ e1.2
  rw [hc2 z]
  congr 1
  unfold arrV
  congr 2
  funext i
  exact e2 i.val i.isLt
end SND
