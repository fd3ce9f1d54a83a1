/-! 41: numbers and rows -/
theorem nJ_0 : nI 0 = 0 := rfl
theorem nJ_1 : nI 1 = 1 := rfl
theorem nJ_add (a b : Nat) : nI (a + b) = nI a + nI b := by unfold nI; exact Int32.ofNat_add a b
theorem nJ_s (n : Nat) : nI (n + 1) = nI n + 1 := nJ_add n 1
theorem nJ_toInt {n : Nat} (h : n < 2147483648) : (nI n).toInt = n := Int32.toInt_ofNat_of_lt h
theorem nJ_le {a b : Nat} (ha : a < 2147483648) (hb : b < 2147483648) : nI a ≤ nI b ↔ a ≤ b := by
  rw [Int32.le_iff_toInt_le, nJ_toInt ha, nJ_toInt hb]; omega
theorem nJ_lt {a b : Nat} (ha : a < 2147483648) (hb : b < 2147483648) : nI a < nI b ↔ a < b := by
  rw [Int32.lt_iff_toInt_lt, nJ_toInt ha, nJ_toInt hb]; omega
theorem nJ_inj {a b : Nat} (ha : a < 2147483648) (hb : b < 2147483648) (h : nI a = nI b) : a = b := by
  have := congrArg Int32.toInt h
  rw [nJ_toInt ha, nJ_toInt hb] at this; omega
theorem nJ_nn {n : Nat} (h : n < 2147483648) : 0 ≤ nI n := (nJ_le (a := 0) (by decide) h).mpr (by omega)
theorem nJ_back (i : Int32) (h : 0 ≤ i) : nI i.toNatClampNeg = i := Int32.ofNat_toNatClampNeg i h
theorem nJ_ex {i : Int32} (h : 0 ≤ i) : ∃ n : Nat, i = nI n ∧ n < 2147483648 := ⟨i.toNatClampNeg, (nJ_back i h).symm, i.toNatClampNeg_lt⟩
theorem nJ_exlt {i : Int32} {N : Nat} (hN : N < 2147483648) (h : 0 ≤ i) (h2 : i < nI N) : ∃ n : Nat, i = nI n ∧ n < N := by
  obtain ⟨n, rfl, hn⟩ := nJ_ex h
  exact ⟨n, rfl, (nJ_lt hn hN).mp h2⟩
/-- a row of ints that lies from place o on -/
def LSq (g : Int32 → Int32) (o : Int32) : List Int32 → Prop
  | [] => True
  | x :: l => g o = x ∧ LSq g (o + 1) l
theorem LSq_app {g : Int32 → Int32} : ∀ {l m : List Int32} {o : Int32}, LSq g o (l ++ m) ↔ LSq g o l ∧ LSq g (o + nI l.length) m
  | [], m, o => by simp [LSq, nJ_0]
  | x :: l, m, o => by
    have e : o + 1 + nI l.length = o + nI (l.length + 1) := by rw [nJ_s]; grind
    simp only [List.cons_append, LSq, LSq_app (l := l), List.length_cons, e, and_assoc]
theorem LSq_congr {g g' : Int32 → Int32} : ∀ {l : List Int32} {o : Int32}, (∀ k : Nat, k < l.length → g' (o + nI k) = g (o + nI k)) → LSq g o l → LSq g' o l
  | [], _, _, _ => trivial
  | x :: l, o, h, H => by
    refine ⟨?_, LSq_congr (l := l) (fun k hk => ?_) H.2⟩
    · have := h 0 (by simp)
      rw [nJ_0, Int32.add_zero] at this
      rw [this]; exact H.1
    · have := h (k + 1) (by simp; omega)
      rw [nJ_s] at this
      rw [show o + 1 + nI k = o + (nI k + 1) by grind]
      exact this
theorem LSq_get {g : Int32 → Int32} : ∀ {l : List Int32} {o : Int32}, LSq g o l → ∀ (k : Nat) (hk : k < l.length), g (o + nI k) = l[k]
  | x :: l, o, H, 0, _ => by rw [nJ_0, Int32.add_zero]; exact H.1
  | x :: l, o, H, k + 1, hk => by
    have := LSq_get H.2 k (by simpa using hk)
    rw [nJ_s, show o + (nI k + 1) = o + 1 + nI k by grind]
    simpa using this
theorem LSq_of {g : Int32 → Int32} : ∀ {l : List Int32} {o : Int32}, (∀ (k : Nat) (hk : k < l.length), g (o + nI k) = l[k]) → LSq g o l
  | [], _, _ => trivial
  | x :: l, o, H => by
    refine ⟨?_, LSq_of fun k hk => ?_⟩
    · have := H 0 (by simp)
      rw [nJ_0, Int32.add_zero] at this
      simpa using this
    · have := H (k + 1) (by simp; omega)
      rw [nJ_s] at this
      rw [show o + 1 + nI k = o + (nI k + 1) by grind]
      simpa using this
def vpd (c : Int32 → Int32) (i v : Int32) : Int32 → Int32 := fun j => if j = i then v else c j
theorem vpd_eq (c : Int32 → Int32) (i v : Int32) : vpd c i v i = v := if_pos rfl
theorem vpd_ne (c : Int32 → Int32) {i j : Int32} (v : Int32) (h : ¬ j = i) : vpd c i v j = c j := if_neg h
theorem o_ne {o : Int32} {k n : Nat} (h : k < n) (hn : n < 2147483648) : ¬ o + nI k = o + nI n := fun e => by
  have : nI k = nI n := by grind
  have := nJ_inj (by omega) hn this
  omega
/-- one more at the row's end -/
theorem LSq_snoc {g : Int32 → Int32} {l : List Int32} {o v : Int32} (hl : l.length < 2147483648) (H : LSq g o l) : LSq (vpd g (o + nI l.length) v) o (l ++ [v]) :=
  LSq_app.mpr ⟨LSq_congr (fun k hk => vpd_ne _ _ (o_ne hk hl)) H, vpd_eq _ _ _, trivial⟩
theorem LSq_take {g : Int32 → Int32} {l m : List Int32} {o : Int32} (H : LSq g o (l ++ m)) : LSq g o l := (LSq_app.mp H).1
/-- what agrees outside a set of places -/
def ag (s : Nat → Int32 → Bool) (h h' : HP) : Prop := ∀ f j k, s f k = false → h' f j k = h f j k
theorem ag_rf {s : Nat → Int32 → Bool} {h : HP} : ag s h h := fun _ _ _ _ => rfl
theorem ag_tr {s : Nat → Int32 → Bool} {h h' h'' : HP} (a : ag s h h') (b : ag s h' h'') : ag s h h'' := fun f j k z => (b f j k z).trans (a f j k z)
theorem ag_up {s : Nat → Int32 → Bool} {h h' : HP} {f : Nat} {j k v : Int32} (a : ag s h h') (z : s f k = true) : ag s h (up h' f j k v) := fun f' j' k' y => by
  unfold up
  rw [if_neg (fun q => by rw [q.1, q.2.2, z] at y; cases y)]
  exact a f' j' k' y
theorem ag_mono {s t : Nat → Int32 → Bool} {h h' : HP} (a : ag s h h') (z : ∀ f k, t f k = false → s f k = false) : ag t h h' := fun f j k y => a f j k (z f k y)
/-- scratch of the acts; of the floor; all of the model's; the model; the class -/
def sA (f : Nat) (k : Int32) : Bool := (Nat.ble 69 f && Nat.ble f 73) || (Nat.beq f 10 && (decide (36 ≤ k) && decide (k ≤ 43)))
def sF (f : Nat) (k : Int32) : Bool := Nat.beq f 10 && (decide (45 ≤ k) && decide (k ≤ 49))
def sS (f : Nat) (k : Int32) : Bool := (Nat.ble 69 f && Nat.ble f 84) || (Nat.beq f 10 && decide (36 ≤ k))
def sM (f : Nat) (_k : Int32) : Bool := (Nat.ble 42 f && Nat.ble f 84) || Nat.beq f 10
def sC (f : Nat) (_k : Int32) : Bool := Nat.ble f 9 || (Nat.ble 11 f && Nat.ble f 41)
theorem sA_S {f : Nat} {k : Int32} (h : sS f k = false) : sA f k = false := by
  simp only [sS, sA, Bool.or_eq_false_iff, Bool.and_eq_false_iff, decide_eq_false_iff_not] at h ⊢
  refine ⟨?_, ?_⟩
  · rcases h.1 with q | q
    · exact Or.inl q
    · right
      cases hb : Nat.ble f 73 with
      | false => rfl
      | true =>
        have := Nat.le_of_ble_eq_true hb
        have := Nat.ble_eq_true_of_le (show f ≤ 84 by omega)
        rw [q] at this; cases this
  · rcases h.2 with q | q
    · exact Or.inl q
    · exact Or.inr (Or.inl q)
theorem sF_S {f : Nat} {k : Int32} (h : sS f k = false) : sF f k = false := by
  simp only [sS, sF, Bool.or_eq_false_iff, Bool.and_eq_false_iff, decide_eq_false_iff_not] at h ⊢
  grind
theorem sS_M {f : Nat} {k : Int32} (h : sM f k = false) : sS f k = false := by
  simp only [sS, sM, Bool.or_eq_false_iff, Bool.and_eq_false_iff, decide_eq_false_iff_not] at h ⊢
  refine ⟨?_, Or.inl h.2⟩
  rcases h.1 with q | q
  · left
    cases hb : Nat.ble 69 f with
    | false => rfl
    | true =>
      have := Nat.le_of_ble_eq_true hb
      have := Nat.ble_eq_true_of_le (show 42 ≤ f by omega)
      rw [q] at this; cases this
  · exact Or.inr q
