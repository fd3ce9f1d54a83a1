/-! 98g: parts that are not made stay empty -/
def PF (A A' : SY) : Prop := nP A' = nP A ∧ ∀ f, f = 43 ∨ f = 45 ∨ f = 50 ∨ f = 51 → ∀ q, nP A ≤ q → A'.1 f q = A.1 f q
theorem PF_rf {A : SY} : PF A A := ⟨rfl, fun _ _ _ _ => rfl⟩
theorem PF_tr {A B C : SY} (h : PF A B) (g : PF B C) : PF A C := ⟨g.1.trans h.1, fun f hf q hq => (g.2 f hf q (by rw [h.1]; exact hq)).trans (h.2 f hf q hq)⟩
theorem PZ_PF {A A' : SY} (z : PZ A) (p : PF A A') : PZ A' := fun q hq hn => by
  rw [p.1] at hn
  rw [p.2 43 (by decide) q hn, p.2 45 (by decide) q hn, p.2 50 (by decide) q hn, p.2 51 (by decide) q hn]
  exact z q hq hn
theorem PF_cmQ {A : SY} {q : PT} (hp : pa A q.1 < nP A) : PF A (cmQ A q) := by
  have ne : ∀ y, nP A ≤ y → ¬ y = pa A q.1 := fun y hy z => by rw [z] at hy; exact absurd hp (by grind)
  unfold cmQ cmS cmE
  split
  · split
    · refine ⟨?_, fun f hf y hy => ?_⟩
      · simp [nP, sa]
      · rcases hf with rfl | rfl | rfl | rfl <;> simp [sa]
    · refine ⟨?_, fun f hf y hy => ?_⟩
      · simp [nP, shF, psA, mtF, tkB, sa]
      · rcases hf with rfl | rfl | rfl | rfl <;> simp [shF, psA, mtF, tkB, sa, ne y hy]
  · split
    · refine ⟨?_, fun f hf y hy => ?_⟩
      · simp [nP, shF, psA, mtF, tkB, sa]
      · rcases hf with rfl | rfl | rfl | rfl <;> simp [shF, psA, mtF, tkB, sa, ne y hy]
    · refine ⟨?_, fun f hf y hy => ?_⟩
      · simp [nP, mtF, sa]
      · rcases hf with rfl | rfl | rfl | rfl <;> simp [mtF, sa]
theorem PF_wrk : ∀ (n : Nat) {A : SY}, YV A → PF A (wrk n A)
  | 0, _, _ => PF_rf
  | n + 1, A, hI => by
    unfold wrk
    split
    · exact PF_rf
    · rename_i q r hc
      have iq := (NC_in hI (q := q) (by unfold pnd; rw [hc]; simp)).1
      have h1 : PF (scm A r) (cmQ (scm A r) q) := PF_cmQ (ga hI iq).2.2.2
      have h0 : PF A (scm A r) := ⟨rfl, fun _ _ _ _ => rfl⟩
      exact PF_tr (PF_tr h0 h1) (PF_wrk n (YV_cmQ hI hc))
theorem PF_sndF : ∀ (os : List (Int32 × Int32 × Int32)) (A : SY) (l p m c : Int32), PF A (sndF A l p m c os)
  | [], _, _, _, _, _ => PF_rf
  | o :: os, A, l, p, m, c => by
    refine PF_tr (B := psA (mkF A o.1 o.2.1 m p c o.2.2) l [(nE A, false)]) ⟨?_, fun f hf y hy => ?_⟩ (PF_sndF os _ l p m (c + 1))
    · simp [nP, psA, mkF, sa]
    · rcases hf with rfl | rfl | rfl | rfl <;> simp [psA, mkF, sa]
theorem PF_dsF {A : SY} {e : Int32} (hp : pa A e < nP A) : PF A (dsF A e) := by
  have ne : ∀ y, nP A ≤ y → ¬ y = pa A e := fun y hy z => by rw [z] at hy; exact absurd hp (by grind)
  unfold dsF
  refine PF_tr ⟨?_, fun f hf y hy => ?_⟩ (PF_sndF _ _ _ _ _ _)
  · simp [nP, sa]
  · rcases hf with rfl | rfl | rfl | rfl <;> simp [sa, ne y hy]
theorem PF_stp {A : SY} {l : Int32} (hI : YV A) : PF A (stpF A l).2 := by
  obtain ⟨v, hx⟩ := nxt_ex hI l
  have e := nx_ok hx
  unfold stpF
  split
  · exact PF_rf
  · split
    · exact PF_rf
    · split
      · exact PF_rf
      · rename_i h1 h2 h3
        rw [e] at h1 ⊢
        have mn := nxt_min hx h1
        exact PF_tr (PF_dsF (ga hI mn.1).2.2.2) (PF_wrk 800 (YV_dsF hI mn.1 mn.2.1 (Classical.not_not.mp h3) mn.2.2))
theorem PF_run {l : Int32} : ∀ (n : Nat) (k : Int32) {A : SY}, YW A → PF A (runF l n k A).2
  | 0, _, _, _ => PF_rf
  | n + 1, k, A, hY => by
    unfold runF
    split
    · exact PF_rf
    · obtain ⟨v, hx⟩ := nxt_ex hY.1 l
      exact PF_tr (PF_stp hY.1) (PF_run n (k + 1) (YW_stp hY hx))
theorem PF_ho {A : SY} {i : Nat} {q : PT} (hI : YV A) (hi : i < (wy A).length) (hq : (wy A)[i] = q) : PF A (wrk 800 (hoA A i q)) :=
  PF_tr (B := hoA A i q) ⟨rfl, fun _ _ _ _ => rfl⟩ (PF_wrk 800 (YV_hoA hI hi hq))
theorem PF_dal : ∀ (n : Nat) (k : Int32) {A : SY}, YW A → PF A (dal n k A).2
  | 0, _, _, _ => PF_rf
  | n + 1, k, A, hY => by
    unfold dal
    split
    · exact PF_rf
    · rename_i q r hc
      have hi : 0 < (wy A).length := by rw [hc]; simp
      have hq : (wy A)[0] = q := by simp [hc]
      exact PF_tr (PF_ho hY.1 hi hq) (PF_dal n (k + 1) (YW_wrk (YV_hoA hY.1 hi hq) hY.2.1))
theorem PZ_step {A : SY} {l : Int32} (hY : YW A) (z : PZ A) : PZ (opStep A l).2 := by
  unfold opStep
  by_cases c : isIn l 0 3
  · rw [if_pos c]; exact PZ_PF z (PF_stp hY.1)
  · rw [if_neg c]; exact z
theorem PZ_run {A : SY} {l n : Int32} (hY : YW A) (z : PZ A) : PZ (opRun A l n).2 := by
  unfold opRun
  by_cases c : isIn l 0 3 ∧ isIn n 0 200
  · rw [if_pos c]; exact PZ_PF z (PF_run _ _ hY)
  · rw [if_neg c]; exact z
theorem PZ_dlv {A : SY} {i : Int32} (hY : YW A) (z : PZ A) : PZ (opDlv A i).2 := by
  unfold opDlv
  by_cases c : isIn i 0 (nI (wy A).length - 1)
  · rw [if_pos c]
    have wl := (show (wy A).length ≤ 3200 by
      have := (wl800 hY.1).1
      omega)
    obtain ⟨k, e1, e2, e3⟩ := ix_nat wl c
    refine PZ_PF z ?_
    show PF A (wrk 800 (hoA A i.toNatClampNeg ((wy A).getD i.toNatClampNeg (0, false))))
    rw [e3, show (wy A).getD k (0, false) = (wy A)[k] by simp [e2]]
    exact PF_ho hY.1 e2 rfl
  · rw [if_neg c]; exact z
theorem PZ_all {A : SY} (hY : YW A) (z : PZ A) : PZ (opAll A).2 := PZ_PF z (PF_dal _ _ hY)
theorem PZ_start {A : SY} {p m x : Int32} (hY : YW A) (z : PZ A) : PZ (opStart A p m x).2 := by
  unfold opStart
  by_cases c : isP A p ∧ isIn m 0 100000
  · rw [if_pos c]
    by_cases c2 : lowP A m
    · rw [if_pos c2]; exact z
    · rw [if_neg c2]
      split
      · exact z
      · rename_i c3
        have ip := isP_ina hY c.1
        refine PZ_PF z (PF_tr (B := stA A p m x) ⟨?_, fun f hf y hy => ?_⟩ (PF_wrk 800 (YV_stA hY.1 ip.1 c.2 (by have := hY.1.1.2.1.2; grind))))
        · simp [nP, stA, mk1, sa]
        · rcases hf with rfl | rfl | rfl | rfl <;> simp [stA, mk1, sa]
  · rw [if_neg c]; exact z
theorem PZ_move {A : SY} {p l : Int32} (z : PZ A) : PZ (opMove A p l).2 := by
  unfold opMove
  by_cases c : isP A p ∧ isIn l 0 3
  · rw [if_pos c]
    refine PZ_PF z ⟨?_, fun f hf y hy => ?_⟩
    · simp [nP, sa]
    · rcases hf with rfl | rfl | rfl | rfl <;> simp [sa]
  · rw [if_neg c]; exact z
theorem PZ_limit {A : SY} {n : Int32} (z : PZ A) : PZ (opLimit A n).2 := by
  unfold opLimit
  by_cases c : isIn n (-1) 1000
  · rw [if_pos c]
    refine PZ_PF z ⟨?_, fun f hf y hy => ?_⟩
    · simp [nP, sa]
    · rcases hf with rfl | rfl | rfl | rfl <;> simp [sa]
  · rw [if_neg c]; exact z
theorem PZ_tear {A : SY} {p n : Int32} (hY : YW A) (z : PZ A) : PZ (opTear A p n).2 := by
  unfold opTear
  by_cases c : isP A p
  · rw [if_pos c]
    have ne : ∀ y, nP A ≤ y → ¬ y = p := fun y hy q => by
      rw [q] at hy
      exact absurd (isP_ina hY c).1.2 (by grind)
    split
    · exact z
    · split
      · exact z
      · refine PZ_PF z ⟨?_, fun f hf y hy => ?_⟩
        · simp [nP, sa]
        · rcases hf with rfl | rfl | rfl | rfl <;> simp [sa, ne y hy]
  · rw [if_neg c]; exact z
theorem PZ_rule {A : SY} {p t a b c : Int32} (hY : YW A) (z : PZ A) : PZ (opRule A p t a b c).2 := by
  unfold opRule
  by_cases c' : isP A p ∧ isIn t 0 7 ∧ isIn a 0 15 ∧ isIn b 0 15 ∧ isIn c (-3) 20
  · rw [if_pos c']
    have ne : ∀ y, nP A ≤ y → ¬ y = p := fun y hy q => by
      rw [q] at hy
      exact absurd (isP_ina hY c'.1).1.2 (by grind)
    split
    · exact z
    · split
      · exact z
      · refine PZ_PF z ⟨?_, fun f hf y hy => ?_⟩
        · simp [nP, sa]
        · rcases hf with rfl | rfl | rfl | rfl <;> simp [sa, ne y hy]
  · rw [if_neg c']; exact z
theorem PZ_part {A : SY} {l : Int32} (hY : YW A) (z : PZ A) : PZ (opPart A l).2 := by
  unfold opPart
  by_cases c : isIn l 0 3
  · rw [if_pos c]
    split
    · exact z
    · split
      · exact z
      · intro q hq hn
        have e1 : nP (sa (sa A.1 42 (nP A) l) 10 0 (nP A + 1), A.2) = nP A + 1 := by simp [nP, sa]
        have hn : nP A + 1 ≤ q := by rw [← e1]; exact hn
        have b := hY.1.1.1.1
        have hn' : nP A ≤ q := by
          have e : nP A = A.1 10 0 := rfl
          rw [e] at hn ⊢
          have := hq.2
          grind
        have := z q hq hn'
        simpa [sa] using this
  · rw [if_neg c]; exact z
