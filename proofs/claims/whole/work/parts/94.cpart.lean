/-! 94: the class: part -/
def xPt (p l : Int32) (h : HP) : HP := up (up (zap (up (zap (up (zap (up (zap (up (zap (up (nS p (zap h 14 p 12)) 14 p 1 1) 27 p 8) 14 p 2 1) 28 p 8) 14 p 4 1) 29 p 8) 14 p 5 1) 30 p 8) 14 p 6 1) 31 p 8) 14 p 7 1) 14 p 0 l
def nPt (p l : Int32) (h : HP) : HP := slz (xPt p l h) 14 p
theorem xPt_n {p l : Int32} {h : HP} {f : Nat} {y k : Int32} (e14 : ¬ (f = 14 ∧ y = p)) (e8 : ¬ (f = 8 ∧ y = p)) (e18 : ¬ (f = 18 ∧ y = p)) (e39 : ¬ (f = 39 ∧ y = p)) (e27 : ¬ (27 ≤ f ∧ f ≤ 31 ∧ y = p)) (e0 : ¬ (f = 0 ∧ y = 0)) : xPt p l h f y k = h f y k := by
  unfold xPt
  have u : ¬ (f = 14 ∧ y = p ∧ True) := fun q => e14 ⟨q.1, q.2.1⟩
  rw [up_n (fun q => e14 ⟨q.1, q.2.1⟩), up_n (fun q => e14 ⟨q.1, q.2.1⟩), zap_n (fun q => e27 ⟨by omega, by omega, q.2⟩) e0, up_n (fun q => e14 ⟨q.1, q.2.1⟩), zap_n (fun q => e27 ⟨by omega, by omega, q.2⟩) e0, up_n (fun q => e14 ⟨q.1, q.2.1⟩), zap_n (fun q => e27 ⟨by omega, by omega, q.2⟩) e0, up_n (fun q => e14 ⟨q.1, q.2.1⟩), zap_n (fun q => e27 ⟨by omega, by omega, q.2⟩) e0, up_n (fun q => e14 ⟨q.1, q.2.1⟩), zap_n (fun q => e27 ⟨by omega, by omega, q.2⟩) e0, up_n (fun q => e14 ⟨q.1, q.2.1⟩), nS_n e8 e18 e39 e0, zap_n e14 e0]
theorem nPt_n {p l : Int32} {h : HP} {f : Nat} {y k : Int32} (e4 : ¬ (f = 4 ∧ y = p)) (e14 : ¬ (f = 14 ∧ y = p)) (e8 : ¬ (f = 8 ∧ y = p)) (e18 : ¬ (f = 18 ∧ y = p)) (e39 : ¬ (f = 39 ∧ y = p)) (e27 : ¬ (27 ≤ f ∧ f ≤ 31 ∧ y = p)) (e0 : ¬ (f = 0 ∧ y = 0)) : nPt p l h f y k = h f y k := by
  unfold nPt
  rw [slz_n (fun q => e4 ⟨by omega, q.2⟩) e14, xPt_n e14 e8 e18 e39 e27 e0]
theorem nPt_4 {p l : Int32} {h : HP} : nPt p l h 4 p 0 = l ∧ nPt p l h 4 p 3 = 0 ∧ nPt p l h 4 p 8 = 0 ∧ nPt p l h 4 p 9 = 0 ∧ nPt p l h 4 p 10 = 0 ∧ nPt p l h 4 p 11 = 0 := by
  have base : ∀ k, ¬ k = 0 → ¬ k = 7 → ¬ k = 6 → ¬ k = 5 → ¬ k = 4 → ¬ k = 2 → ¬ k = 1 → ¬ k = -1 → nPt p l h 4 p k = dfl 14 k := fun k k0 k7 k6 k5 k4 k2 k1 km => by
    unfold nPt xPt
    rw [slz_fin (by decide), up_n (fun q => k0 q.2.2), up_n (fun q => k7 q.2.2), zap_n (by simp) (by simp), up_n (fun q => k6 q.2.2), zap_n (by simp) (by simp), up_n (fun q => k5 q.2.2), zap_n (by simp) (by simp), up_n (fun q => k4 q.2.2), zap_n (by simp) (by simp), up_n (fun q => k2 q.2.2), zap_n (by simp) (by simp), up_n (fun q => k1 q.2.2), nS_n (by simp) (by simp) (by simp) (by simp), zap_row, if_neg km]
  refine ⟨?_, ?_, ?_, ?_, ?_, ?_⟩
  · unfold nPt xPt; rw [slz_fin (by decide), up_at]
  · rw [base 3 (by decide) (by decide) (by decide) (by decide) (by decide) (by decide) (by decide) (by decide)]; rfl
  · rw [base 8 (by decide) (by decide) (by decide) (by decide) (by decide) (by decide) (by decide) (by decide)]; rfl
  · rw [base 9 (by decide) (by decide) (by decide) (by decide) (by decide) (by decide) (by decide) (by decide)]; rfl
  · rw [base 10 (by decide) (by decide) (by decide) (by decide) (by decide) (by decide) (by decide) (by decide)]; rfl
  · rw [base 11 (by decide) (by decide) (by decide) (by decide) (by decide) (by decide) (by decide) (by decide)]; rfl
theorem nPt_s {p l : Int32} {h : HP} {f : Nat} {k : Int32} (hf : f = 39 ∨ f = 8) : nPt p l h f p k = nS p (zap h 14 p 12) f p k := by
  unfold nPt xPt
  rw [slz_n (by omega) (by omega), up_n (by omega), up_n (by omega), zap_n (by omega) (by omega), up_n (by omega), zap_n (by omega) (by omega), up_n (by omega), zap_n (by omega) (by omega), up_n (by omega), zap_n (by omega) (by omega), up_n (by omega), zap_n (by omega) (by omega), up_n (by omega)]
theorem nPt_CZ {p l : Int32} {h : HP} : CZ z0 p (nPt p l h) := by
  have c := nS_CZ (s := p) (h := zap h 14 p 12)
  exact ⟨fun i hi => by rw [nPt_s (Or.inl rfl)]; exact c.1 i hi, by rw [nPt_s (Or.inr rfl)]; exact c.2.1, by rw [nPt_s (Or.inr rfl)]; exact c.2.2⟩
theorem nPt_0 {p l : Int32} {h : HP} : nPt p l h 0 0 0 = h 0 0 0 + 1 + 1 + 1 + 1 + 1 + 1 + 1 + 1 ∧ nPt p l h 0 0 1 = h 0 0 1 + 12 + 3 + 4 + 8 + 8 + 8 + 8 + 8 := by
  unfold nPt xPt
  constructor
  · rw [slz_n (by omega) (by omega), upfam (by decide), upfam (by decide), (zap_00 (by decide)).1, upfam (by decide), (zap_00 (by decide)).1, upfam (by decide), (zap_00 (by decide)).1, upfam (by decide), (zap_00 (by decide)).1, upfam (by decide), (zap_00 (by decide)).1, upfam (by decide), nS_0.1, (zap_00 (by decide)).1]
  · rw [slz_n (by omega) (by omega), upfam (by decide), upfam (by decide), (zap_00 (by decide)).2, upfam (by decide), (zap_00 (by decide)).2, upfam (by decide), (zap_00 (by decide)).2, upfam (by decide), (zap_00 (by decide)).2, upfam (by decide), (zap_00 (by decide)).2, upfam (by decide), nS_0.2, (zap_00 (by decide)).2]
/-- parts that are not yet made hold nothing -/
def PZ (A : SY) : Prop := ∀ q, ina q 12 → nP A ≤ q → A.1 43 q = 0 ∧ A.1 45 q = 0 ∧ A.1 50 q = 0 ∧ A.1 51 q = 0
