theorem ok_of {a n : Nat} (h : ((List.range' a n).all fun m => (List.range (szT m)).all (okB m)) = true) {m pc : Nat} (h1 : a ≤ m) (h2 : m < a + n) (h3 : pc < szT m) : okB m pc = true :=
  List.all_eq_true.mp (List.all_eq_true.mp h m (List.mem_range'_1.mpr ⟨h1, h2⟩)) pc (List.mem_range.mpr h3)
theorem ok_all (m pc : Nat) (h : cX m pc ≠ none) : okB m pc = true ∧ m < 156 := by
  unfold cX at h
  cases hb : (Nat.blt m 156 && Nat.blt pc (szT m)) with
  | false => rw [hb] at h; exact absurd rfl h
  | true =>
    rw [Bool.and_eq_true] at hb
    have h1 : m < 156 := Nat.le_of_ble_eq_true hb.1
    have h2 : pc < szT m := Nat.le_of_ble_eq_true hb.2
    refine ⟨?_, h1⟩
    by_cases q0 : m < 0
    · omega
    by_cases q1 : m < 10
    · exact ok_of ok_0 (by omega) (by omega) h2
    by_cases q2 : m < 20
    · exact ok_of ok_1 (by omega) (by omega) h2
    by_cases q3 : m < 30
    · exact ok_of ok_2 (by omega) (by omega) h2
    by_cases q4 : m < 40
    · exact ok_of ok_3 (by omega) (by omega) h2
    by_cases q5 : m < 50
    · exact ok_of ok_4 (by omega) (by omega) h2
    by_cases q6 : m < 60
    · exact ok_of ok_5 (by omega) (by omega) h2
    by_cases q7 : m < 70
    · exact ok_of ok_6 (by omega) (by omega) h2
    by_cases q8 : m < 80
    · exact ok_of ok_7 (by omega) (by omega) h2
    by_cases q9 : m < 90
    · exact ok_of ok_8 (by omega) (by omega) h2
    by_cases q10 : m < 100
    · exact ok_of ok_9 (by omega) (by omega) h2
    by_cases q11 : m < 110
    · exact ok_of ok_10 (by omega) (by omega) h2
    by_cases q12 : m < 120
    · exact ok_of ok_11 (by omega) (by omega) h2
    by_cases q13 : m < 130
    · exact ok_of ok_12 (by omega) (by omega) h2
    by_cases q14 : m < 140
    · exact ok_of ok_13 (by omega) (by omega) h2
    by_cases q15 : m < 150
    · exact ok_of ok_14 (by omega) (by omega) h2
    by_cases q16 : m < 155
    · exact ok_of ok_15 (by omega) (by omega) h2
    have e : m = 155 := by omega
    subst e
    have h3 : pc < 807 := by
      have : szT 155 = 807 := by decide +kernel
      rw [this] at h2; exact h2
    by_cases w1 : pc < 250
    · exact List.all_eq_true.mp ok_la pc (List.mem_range'_1.mpr ⟨by omega, by omega⟩)
    by_cases w2 : pc < 400
    · exact List.all_eq_true.mp ok_lb pc (List.mem_range'_1.mpr ⟨by omega, by omega⟩)
    by_cases w3 : pc < 500
    · exact List.all_eq_true.mp ok_lc pc (List.mem_range'_1.mpr ⟨by omega, by omega⟩)
    by_cases w4 : pc < 600
    · exact List.all_eq_true.mp ok_ld pc (List.mem_range'_1.mpr ⟨by omega, by omega⟩)
    by_cases w5 : pc < 700
    · exact List.all_eq_true.mp ok_le pc (List.mem_range'_1.mpr ⟨by omega, by omega⟩)
    · exact List.all_eq_true.mp ok_lf pc (List.mem_range'_1.mpr ⟨by omega, by omega⟩)
