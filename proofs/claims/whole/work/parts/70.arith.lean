/-! 70: remainders and masks -/
theorem rem4 {x : Int32} (h : 0 ≤ x ∧ x ≤ 15) : x - x / 4 * 4 = x &&& 3 := by
  have key : ∀ n : Fin 16, nI n.val - nI n.val / 4 * 4 = nI n.val &&& 3 := by decide +kernel
  obtain ⟨n, rfl, hn⟩ := nJ_exlt (N := 16) (by decide) h.1 (Int32.lt_of_le_of_lt h.2 (by decide))
  exact key ⟨n, hn⟩
theorem tm_e (n k : Int) (hk : 0 < k) : (0 ≤ n → n.tmod k = n % k) ∧ (¬ 0 ≤ n → n % k = 0 → n.tmod k = 0) ∧ (¬ 0 ≤ n → ¬ n % k = 0 → n.tmod k = n % k - k) := by
  have e := Int.tmod_eq_emod (a := n) (b := k)
  refine ⟨fun h => ?_, fun h h2 => ?_, fun h h2 => ?_⟩
  · exact Int.tmod_eq_emod_of_nonneg h
  · rw [e, if_pos (Or.inr (Int.dvd_of_emod_eq_zero h2)), h2]; rfl
  · rw [e, if_neg (fun q => q.elim h (fun d => h2 (Int.emod_eq_zero_of_dvd d)))]
    omega
theorem remI (x k : Int32) (hk : 2 ≤ k.toInt) (hk2 : k.toInt ≤ 16) : (x - x / k * k).toInt = x.toInt.tmod k.toInt := by
  have b1 := x.le_toInt
  have b2 := x.toInt_lt
  have d : (x / k).toInt = x.toInt.tdiv k.toInt := Int32.toInt_div_of_ne_right x k (by intro q; rw [q] at hk; exact absurd hk (by decide))
  have e := Int.mul_tdiv_add_tmod x.toInt k.toInt
  have m1 : -(16 : Int) < x.toInt.tmod k.toInt := by
    have := Int.lt_tmod_of_pos x.toInt (b := k.toInt) (by omega)
    omega
  have m2 : x.toInt.tmod k.toInt < 16 := by
    have := Int.tmod_lt_of_pos x.toInt (b := k.toInt) (by omega)
    omega
  have e2 : x.toInt.tdiv k.toInt * k.toInt = x.toInt - x.toInt.tmod k.toInt := by rw [Int.mul_comm]; omega
  rw [Int32.toInt_sub, Int32.toInt_mul, d, e2]
  have z1 : (x.toInt - (x.toInt - x.toInt.tmod k.toInt).bmod (2 ^ 32)).bmod (2 ^ 32) = (x.toInt.tmod k.toInt).bmod (2 ^ 32) := by
    rw [Int.sub_bmod_bmod]
    congr 1
    omega
  rw [z1]
  exact Int.bmod_eq_of_le (by omega) (by omega)
theorem and_toInt (x : Int32) (m : Nat) (hm : m < 16) : (x &&& nI m).toInt = ((x.toBitVec.toNat &&& m : Nat) : Int) := by
  have hb : x.toBitVec.toNat &&& m ≤ m := Nat.and_le_right
  have e : (x &&& nI m).toBitVec.toNat = x.toBitVec.toNat &&& m := by
    rw [Int32.toBitVec_and, BitVec.toNat_and]
    congr 1
    show (Int32.ofNat m).toBitVec.toNat = m
    simp
    omega
  rw [← Int32.toInt_toBitVec, BitVec.toInt_eq_toNat_of_lt, e]
  rw [e]; omega
theorem toInt_nat (x : Int32) : x.toInt % 16 = ((x.toBitVec.toNat % 16 : Nat) : Int) ∧ x.toInt % 2 = ((x.toBitVec.toNat % 2 : Nat) : Int) := by
  have := BitVec.toInt_eq_toNat_cond x.toBitVec
  rw [Int32.toInt_toBitVec] at this
  rw [this]
  split <;> omega
theorem even_and (x : Int32) : x - x / 2 * 2 = 0 ↔ (x &&& 1) = 0 := by
  rw [← Int32.toInt_inj, ← Int32.toInt_inj, remI x 2 (by decide) (by decide), show (1 : Int32) = nI 1 from rfl, and_toInt x 1 (by decide), Nat.and_one_is_mod]
  have h := (toInt_nat x).2
  show x.toInt.tmod 2 = 0 ↔ ((x.toBitVec.toNat % 2 : Nat) : Int) = 0
  rw [← h]
  have t := tm_e x.toInt 2 (by decide)
  constructor
  · intro z
    by_cases q : 0 ≤ x.toInt
    · rw [t.1 q] at z; exact z
    · by_cases q2 : x.toInt % 2 = 0
      · exact q2
      · rw [t.2.2 q q2] at z; omega
  · intro z
    by_cases q : 0 ≤ x.toInt
    · rw [t.1 q]; exact z
    · exact t.2.1 q z
theorem fmd_and (x : Int32) : fmd x 16 = x &&& 15 := by
  have h := (toInt_nat x).1
  have e15 : (x &&& 15).toInt = x.toInt % 16 := by
    rw [show (15 : Int32) = nI 15 from rfl, and_toInt x 15 (by decide), h]
    congr 1
    exact Nat.and_two_pow_sub_one_eq_mod x.toBitVec.toNat 4
  have t := tm_e x.toInt 16 (by decide)
  have r := remI x 16 (by decide) (by decide)
  have r : (x - x / 16 * 16).toInt = x.toInt.tmod 16 := r
  have sgn : 0 ≤ x ^^^ 16 ↔ 0 ≤ x := by
    rw [Int32.le_iff_toInt_le, Int32.le_iff_toInt_le]
    show 0 ≤ (x ^^^ 16).toInt ↔ 0 ≤ x.toInt
    have m1 : (x ^^^ 16).toBitVec.msb = x.toBitVec.msb := by
      rw [Int32.toBitVec_xor, BitVec.msb_xor, show (16 : Int32).toBitVec.msb = false by decide]
      simp
    rw [BitVec.msb_eq_toInt, BitVec.msb_eq_toInt, Int32.toInt_toBitVec, Int32.toInt_toBitVec] at m1
    have := decide_eq_decide.mp m1
    omega
  refine Int32.toInt_inj.mp ?_
  rw [e15]
  unfold fmd
  split
  · rename_i z
    have z := (Int32.le_iff_toInt_le.mp (sgn.mp z))
    have z : 0 ≤ x.toInt := z
    rw [r]; exact t.1 z
  · rename_i z
    have z : ¬ 0 ≤ x.toInt := fun q => z (sgn.mpr (Int32.le_iff_toInt_le.mpr q))
    split
    · rename_i z2
      rw [← Int32.toInt_inj, r] at z2
      have z2 : x.toInt.tmod 16 = 0 := z2
      rw [r, z2]
      by_cases q : x.toInt % 16 = 0
      · exact q.symm
      · rw [t.2.2 z q] at z2; omega
    · rename_i z2
      rw [← Int32.toInt_inj, r] at z2
      have z2 : ¬ x.toInt.tmod 16 = 0 := z2
      rw [Int32.toInt_add, r]
      show (x.toInt.tmod 16 + 16).bmod (2 ^ 32) = _
      have q : ¬ x.toInt % 16 = 0 := fun q => z2 (t.2.1 z q)
      rw [t.2.2 z q, show x.toInt % 16 - 16 + 16 = x.toInt % 16 by omega]
      exact Int.bmod_eq_of_le (by omega) (by omega)
