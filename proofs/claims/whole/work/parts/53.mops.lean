/-! 53: the model's calls that change the yard -/
theorem bI_ok (P : Prop) [Decidable P] : (bI P = 0 ↔ ¬ P) ∧ (¬ bI P = 0 ↔ P) := by
  unfold bI
  by_cases h : P
  · rw [if_pos h]; exact ⟨⟨fun z => absurd z (by decide), fun z => absurd h z⟩, ⟨fun _ => h, fun _ => by decide⟩⟩
  · rw [if_neg h]; exact ⟨⟨fun _ => h, fun _ => rfl⟩, ⟨fun z => absurd rfl z, fun z => absurd z h⟩⟩
def isIn (v a b : Int32) : Prop := a ≤ v ∧ v ≤ b
def isP (A : SY) (p : Int32) : Prop := 0 ≤ p ∧ p ≤ nP A - 1
theorem isP_ina {A : SY} (hY : YW A) {p : Int32} (h : isP A p) : ina p (nP A) ∧ ina p 12 := by
  have := hY.1.1.1.1
  unfold isP at h
  have e : nP A = A.1 10 0 := rfl
  unfold ina
  rw [e] at h ⊢
  grind
theorem s_isP (A : SY) (n : Nat) (p : Int32) (h : HP) (Q : Option AV → HP → Prop) (hM : MD n A h) (H1 : isP A p → Q (some (0, 1)) h) (H0 : ¬ isP A p → Q (some (0, 0)) h) : WPm 93 [(10, 0), (0, p)] h Q := by
  refine s_isPart p h Q ?_
  rw [hM.1 10 0 rfl]
  unfold bI
  split
  · rename_i z; exact H1 z
  · rename_i z; exact H0 z
theorem s_in2 (v a b : Int32) (h : HP) (Q : Option AV → HP → Prop) (H1 : isIn v a b → Q (some (0, 1)) h) (H0 : ¬ isIn v a b → Q (some (0, 0)) h) : WPm 92 [(0, v), (0, a), (0, b)] h Q := by
  refine s_in v a b h Q ?_
  unfold bI
  split
  · rename_i z; exact H1 z
  · rename_i z; exact H0 z
theorem one0 : ¬ (1 : Int32) = 0 := by decide
theorem YV_nil {A : SY} {a : AT} (hI : YV A) (h0 : nE A = 0) (hR : RU a) (h13 : a 10 13 = 0) (h61 : a 61 = A.1 61) (h14 : a 10 14 = A.1 10 14) : YV (a, A.2) := by
  have no : ∀ e, ¬ ina e 0 := fun e h => by unfold ina at h; grind
  have no' : ∀ e, ¬ ina e (a 10 13) := fun e => by rw [h13]; exact no e
  have dnil : ∀ p, dn A p = [] := fun p => by
    cases hd : dn A p with
    | nil => rfl
    | cons d l => exact absurd (by rw [← h0]; exact (hI.2.1.1 p d (by rw [hd]; simp)).1) (no d)
  have pnil : pnd A = [] := by
    cases hp : pnd A with
    | nil => rfl
    | cons q l =>
      have := (NC_in hI (q := q) (by rw [hp]; simp)).1
      rw [h0] at this
      exact absurd this (no _)
  have pnil' : pnd (a, A.2) = [] := pnil
  have dnil' : ∀ p, dn (a, A.2) p = [] := dnil
  refine ⟨⟨hR, ?_, fun e he => absurd he (no' e), fun e he _ => ?_⟩, ⟨fun p d h => ?_, fun e he => absurd he (no' e), fun p => ?_, fun e he => absurd he (no' e)⟩, ⟨?_, fun e => ?_, fun e h => ?_, fun e he => absurd he (no' e)⟩, ⟨fun e he => absurd he (no' e), fun e he => absurd he (no' e)⟩, fun p pre d post h => ?_, ⟨fun e he => absurd he (no' e), fun e f he => absurd he (no' e), ?_⟩⟩
  · show 0 ≤ a 10 13 ∧ a 10 13 ≤ 400
    rw [h13]; decide
  · show a 61 e = 0
    rw [h61]
    refine hI.1.2.2.2 e he ?_
    rw [h0]; exact he.1
  · rw [dnil'] at h; cases h
  · rw [dnil']; exact List.Pairwise.nil
  · rw [pnil']; exact List.nodup_nil
  · rw [pnil']
    constructor
    · intro z; cases z
    · intro z; exact absurd z.1 (no' e)
  · rw [pnil'] at h; cases h
  · rw [dnil'] at h
    simp at h
  · show 0 ≤ a 10 14 ∧ a 10 14 ≤ a 10 13
    rw [h14, h13]
    have t := hI.2.2.2.2.2.2.2
    rw [h0] at t
    exact t
noncomputable def opPart (A : SY) (l : Int32) : Int32 × SY := @ite _ (isIn l 0 3) (Classical.propDecidable _) (if 0 < nE A then (-3, A) else if nP A = 12 then (-4, A) else (nP A, (sa (sa A.1 42 (nP A) l) 10 0 (nP A + 1), A.2))) (-2, A)
theorem nE_z {A : SY} (hI : YV A) (h : ¬ 0 < nE A) : nE A = 0 := by have := hI.1.2.1.1; grind
theorem YW_opPart {A : SY} {l : Int32} (hY : YW A) : YW (opPart A l).2 := by
  unfold opPart
  split
  · split
    · exact hY
    · split
      · exact hY
      · rename_i h1 h2 h3
        have z := nE_z hY.1 h2
        refine ⟨YV_nil hY.1 z ?_ ?_ ?_ ?_, hY.2.1, hY.2.2⟩
        · obtain ⟨r1, r2, r3⟩ := hY.1.1.1
          have e10 : sa (sa A.1 42 (nP A) l) 10 0 (nP A + 1) 10 0 = nP A + 1 := sa_eq
          have ef : ∀ f, ¬ f = 42 → ¬ f = 10 → sa (sa A.1 42 (nP A) l) 10 0 (nP A + 1) f = A.1 f := fun f f1 f2 => by rw [sa_fam f2, sa_fam f1]
          unfold RU
          rw [e10, ef 43 (by decide) (by decide), ef 45 (by decide) (by decide), ef 46 (by decide) (by decide), ef 47 (by decide) (by decide), ef 48 (by decide) (by decide), ef 49 (by decide) (by decide)]
          refine ⟨?_, r2, r3⟩
          have e : nP A = A.1 10 0 := rfl
          rw [e] at h3 ⊢
          grind
        · simpa [sa] using z
        · rw [sa_fam (by decide), sa_fam (by decide)]
        · simp [sa]
  · exact hY
theorem M_part (A : SY) (l : Int32) (h : HP) (Q : Option AV → HP → Prop) (hY : YW A) (hM : MD 0 A h) (H : ∀ h', ag sM h h' → MD 0 (opPart A l).2 h' → Q (some (0, (opPart A l).1)) h') : WPm 94 [(10, 0), (0, l)] h Q := by
  have e13 : h 10 0 13 = nE A := hM.1 10 13 rfl
  have e0 : h 10 0 0 = nP A := hM.1 10 0 rfl
  have rr := hY.1.1.1.1
  unfold opPart at H
  refine b94_0 l h Q (s_in2 _ _ _ _ _ (fun z => b94_6 _ _ h Q ?_) (fun z => b94_6 _ _ h Q ⟨fun y => absurd rfl y, fun _ => ?_⟩))
  · rw [if_pos z] at H
    rw [e13, e0]
    refine ⟨fun _ => ⟨fun y => ?_, fun y => ⟨fun w => ?_, fun w => ?_⟩⟩, fun y => absurd y one0⟩
    · rw [if_pos y] at H
      exact ⟨fun w => absurd y (by grind), fun _ => H h ag_rf hM⟩
    · rw [if_neg y, if_neg w] at H
      refine ⟨?_, ?_⟩
      · have e : nP A = A.1 10 0 := rfl
        unfold ina
        rw [e] at w ⊢
        grind
      · rw [show nP A + 1 - 1 = nP A by grind]
        exact H _ (ag_up (ag_up ag_rf rfl) rfl) (MD_at (MD_at hM 42 _ _ (by first | decide | simp)) 10 0 _ (by first | decide | simp))
    · rw [if_neg y, if_pos w] at H
      exact ⟨fun _ => H h ag_rf hM, fun u => absurd (by grind) u⟩
  · rw [if_neg z] at H
    exact H h ag_rf hM
noncomputable def opTear (A : SY) (p n : Int32) : Int32 × SY := @ite _ (isP A p) (Classical.propDecidable _) (if 0 < nE A then (-3, A) else if A.1 43 p = 8 then (-4, A) else (A.1 43 p + 1, (sa (sa A.1 44 (8 * p + A.1 43 p) n) 43 p (A.1 43 p + 1), A.2))) (-2, A)
theorem YW_opTear {A : SY} {p n : Int32} (hY : YW A) : YW (opTear A p n).2 := by
  unfold opTear
  split
  · split
    · exact hY
    · split
      · exact hY
      · rename_i h1 h2 h3
        have z := nE_z hY.1 h2
        have ip := isP_ina hY h1
        refine ⟨YV_nil hY.1 z ?_ ?_ ?_ ?_, hY.2.1, hY.2.2⟩
        · obtain ⟨r1, r2, r3⟩ := hY.1.1.1
          have ef : ∀ f, ¬ f = 44 → ¬ f = 43 → sa (sa A.1 44 (8 * p + A.1 43 p) n) 43 p (A.1 43 p + 1) f = A.1 f := fun f f1 f2 => by rw [sa_fam f2, sa_fam f1]
          have e43 : ∀ q, sa (sa A.1 44 (8 * p + A.1 43 p) n) 43 p (A.1 43 p + 1) 43 q = if q = p then A.1 43 p + 1 else A.1 43 q := fun q => by simp [sa]
          unfold RU
          rw [ef 10 (by decide) (by decide), ef 45 (by decide) (by decide), ef 46 (by decide) (by decide), ef 47 (by decide) (by decide), ef 48 (by decide) (by decide), ef 49 (by decide) (by decide)]
          refine ⟨r1, fun q hq => ⟨?_, (r2 q hq).2⟩, r3⟩
          rw [e43]
          have := (r2 p ip.2).1
          have := (r2 q hq).1
          split
          · grind
          · assumption
        · simpa [sa] using z
        · rw [sa_fam (by decide), sa_fam (by decide)]
        · simp [sa]
  · exact hY
theorem i96 {p k : Int32} (hp : ina p 12) (h1 : 0 ≤ k) (h2 : k < 8) : ina (8 * p + k) 96 := by unfold ina at *; grind
theorem M_tear (A : SY) (p n : Int32) (h : HP) (Q : Option AV → HP → Prop) (hY : YW A) (hM : MD 0 A h) (H : ∀ h', ag sM h h' → MD 0 (opTear A p n).2 h' → Q (some (0, (opTear A p n).1)) h') : WPm 95 [(10, 0), (0, p), (0, n)] h Q := by
  have e13 : h 10 0 13 = nE A := hM.1 10 13 rfl
  have e43 : h 43 0 p = A.1 43 p := hM.1 43 p rfl
  unfold opTear at H
  refine b95_0 p n h Q (s_isP A 0 p h _ hM (fun z => b95_5 _ _ _ h Q ?_) (fun z => b95_5 _ _ _ h Q ⟨fun y => absurd rfl y, fun _ => ?_⟩))
  · rw [if_pos z] at H
    have ip := isP_ina hY z
    have r2 := (hY.1.1.1.2.1 p ip.2).1
    rw [e13, e43]
    refine ⟨fun _ => ⟨fun y => ?_, fun y => ⟨ip.2, fun w => ?_, fun w => ?_⟩⟩, fun y => absurd y one0⟩
    · rw [if_pos y] at H
      exact ⟨fun w => absurd y (by grind), fun _ => H h ag_rf hM⟩
    · rw [if_neg y, if_neg w] at H
      refine ⟨ip.2, i96 ip.2 r2.1 (by grind), ip.2, ip.2, ip.2, ?_⟩
      rw [up_at]
      exact H _ (ag_up (ag_up ag_rf rfl) rfl) (MD_at (MD_at hM 44 _ _ (by first | decide | simp)) 43 _ _ (by first | decide | simp))
    · rw [if_neg y, if_pos w] at H
      exact ⟨fun _ => H h ag_rf hM, fun u => absurd (by grind) u⟩
  · rw [if_neg z] at H
    exact H h ag_rf hM
noncomputable def opRule (A : SY) (p t a b c : Int32) : Int32 × SY := @ite _ (isP A p ∧ isIn t 0 7 ∧ isIn a 0 15 ∧ isIn b 0 15 ∧ isIn c (-3) 20) (Classical.propDecidable _)
  (if 0 < nE A then (-3, A) else if A.1 45 p = 8 then (-4, A) else (A.1 45 p + 1, (sa (sa (sa (sa (sa A.1 46 (8 * p + A.1 45 p) t) 47 (8 * p + A.1 45 p) a) 48 (8 * p + A.1 45 p) b) 49 (8 * p + A.1 45 p) c) 45 p (A.1 45 p + 1), A.2))) (-2, A)
theorem ar_15 {q p k n : Int32} (hq : ina q 12) (hp : ina p 12) (h1 : 0 ≤ k) (h2 : k < 8) (h3 : 0 ≤ n) (h4 : n < 8) (z : 8 * q + k = 8 * p + n) : q = p ∧ k = n := by
  have hq' : ina q 400 := ⟨hq.1, Int32.lt_of_lt_of_le hq.2 (by decide)⟩
  have hp' : ina p 400 := ⟨hp.1, Int32.lt_of_lt_of_le hp.2 (by decide)⟩
  have := ar_10 hq' hp' h1 h2 h3 h4 z
  subst this
  exact ⟨rfl, by grind⟩
theorem YW_opRule {A : SY} {p t a b c : Int32} (hY : YW A) : YW (opRule A p t a b c).2 := by
  unfold opRule
  split
  · split
    · exact hY
    · split
      · exact hY
      · rename_i h1 h2 h3
        have z := nE_z hY.1 h2
        have ip := isP_ina hY h1.1
        refine ⟨YV_nil hY.1 z ?_ ?_ ?_ ?_, hY.2.1, hY.2.2⟩
        · obtain ⟨r1, r2, r3⟩ := hY.1.1.1
          have b8 := (r2 p ip.2).2
          have lt8 : A.1 45 p < 8 := by grind
          generalize hX : sa (sa (sa (sa (sa A.1 46 (8 * p + A.1 45 p) t) 47 (8 * p + A.1 45 p) a) 48 (8 * p + A.1 45 p) b) 49 (8 * p + A.1 45 p) c) 45 p (A.1 45 p + 1) = X
          have x10 : X 10 0 = A.1 10 0 := by rw [← hX]; simp [sa]
          have x43 : X 43 = A.1 43 := by rw [← hX, sa_fam (by decide), sa_fam (by decide), sa_fam (by decide), sa_fam (by decide), sa_fam (by decide)]
          have x45 : ∀ q, X 45 q = if q = p then A.1 45 p + 1 else A.1 45 q := fun q => by rw [← hX]; simp [sa]
          have x46 : ∀ j, X 46 j = if j = 8 * p + A.1 45 p then t else A.1 46 j := fun j => by rw [← hX]; simp [sa]
          have x47 : ∀ j, X 47 j = if j = 8 * p + A.1 45 p then a else A.1 47 j := fun j => by rw [← hX]; simp [sa]
          have x48 : ∀ j, X 48 j = if j = 8 * p + A.1 45 p then b else A.1 48 j := fun j => by rw [← hX]; simp [sa]
          have x49 : ∀ j, X 49 j = if j = 8 * p + A.1 45 p then c else A.1 49 j := fun j => by rw [← hX]; simp [sa]
          unfold RU
          rw [x10, x43]
          refine ⟨r1, fun q hq => ⟨(r2 q hq).1, ?_⟩, fun q k hq k1 k2 => ?_⟩
          · rw [x45]
            have := (r2 q hq).2
            split
            · grind
            · assumption
          · rw [x45] at k2
            rw [x46, x47, x48, x49]
            have bq := (r2 q hq).2
            by_cases y : q = p ∧ k = A.1 45 p
            · rw [y.1, y.2, if_pos rfl, if_pos rfl, if_pos rfl, if_pos rfl]
              exact h1.2
            · have hk : k < A.1 45 q := by
                by_cases w : q = p
                · rw [if_pos w] at k2
                  have : ¬ k = A.1 45 p := fun v => y ⟨w, v⟩
                  rw [w]; grind
                · rw [if_neg w] at k2; exact k2
              have ne : ¬ 8 * q + k = 8 * p + A.1 45 p := fun v => y (ar_15 hq ip.2 k1 (by grind) b8.1 lt8 v)
              rw [if_neg ne, if_neg ne, if_neg ne, if_neg ne]
              exact r3 q k hq k1 hk
        · simpa [sa] using z
        · rw [sa_fam (by decide), sa_fam (by decide), sa_fam (by decide), sa_fam (by decide), sa_fam (by decide)]
        · simp [sa]
  · exact hY
theorem M_rule (A : SY) (p t a b c : Int32) (h : HP) (Q : Option AV → HP → Prop) (hY : YW A) (hM : MD 0 A h) (H : ∀ h', ag sM h h' → MD 0 (opRule A p t a b c).2 h' → Q (some (0, (opRule A p t a b c).1)) h') : WPm 96 [(10, 0), (0, p), (0, t), (0, a), (0, b), (0, c)] h Q := by
  have e13 : h 10 0 13 = nE A := hM.1 10 13 rfl
  have e45 : h 45 0 p = A.1 45 p := hM.1 45 p rfl
  unfold opRule at H
  have bad : ¬ (isP A p ∧ isIn t 0 7 ∧ isIn a 0 15 ∧ isIn b 0 15 ∧ isIn c (-3) 20) → Q (some (0, -2)) h := fun z => by
    rw [if_neg z] at H
    exact H h ag_rf hM
  refine b96_0 _ _ _ _ _ h Q (s_isP A 0 p h _ hM (fun z1 => b96_5 _ _ _ _ _ _ h Q ⟨fun y => absurd y one0, fun _ => ?_⟩) (fun z => b96_5 _ _ _ _ _ _ h Q ⟨fun _ => bad fun q => z q.1, fun y => absurd rfl y⟩))
  refine s_in2 _ _ _ _ _ (fun z2 => b96_15 _ _ _ _ _ _ h Q ⟨fun y => absurd y one0, fun _ => ?_⟩) (fun z => b96_15 _ _ _ _ _ _ h Q ⟨fun _ => bad fun q => z q.2.1, fun y => absurd rfl y⟩)
  refine s_in2 _ _ _ _ _ (fun z3 => b96_25 _ _ _ _ _ _ h Q ⟨fun y => absurd y one0, fun _ => ?_⟩) (fun z => b96_25 _ _ _ _ _ _ h Q ⟨fun _ => bad fun q => z q.2.2.1, fun y => absurd rfl y⟩)
  refine s_in2 _ _ _ _ _ (fun z4 => b96_36 _ _ _ _ _ _ h Q ⟨fun y => absurd y one0, fun _ => ?_⟩) (fun z => b96_36 _ _ _ _ _ _ h Q ⟨fun _ => bad fun q => z q.2.2.2.1, fun y => absurd rfl y⟩)
  refine s_in2 _ _ _ _ _ (fun z5 => b96_48 _ _ _ _ _ _ h Q ⟨fun _ => ?_, fun y => absurd y one0⟩) (fun z => b96_48 _ _ _ _ _ _ h Q ⟨fun y => absurd rfl y, fun _ => bad fun q => z q.2.2.2.2⟩)
  rw [if_pos ⟨z1, z2, z3, z4, z5⟩] at H
  have ip := isP_ina hY z1
  have r2 := (hY.1.1.1.2.1 p ip.2).2
  rw [e13, e45]
  refine ⟨fun y => ?_, fun y => ⟨ip.2, fun w => ?_, fun w => ?_⟩⟩
  · rw [if_pos y] at H
    exact ⟨fun w => absurd y (by grind), fun _ => H h ag_rf hM⟩
  · rw [if_neg y, if_neg w] at H
    have i9 := i96 ip.2 r2.1 (by grind)
    refine ⟨ip.2, i9, i9, i9, i9, ip.2, ip.2, ip.2, ?_⟩
    rw [up_at]
    exact H _ (ag_up (ag_up (ag_up (ag_up (ag_up ag_rf rfl) rfl) rfl) rfl) rfl) (MD_at (MD_at (MD_at (MD_at (MD_at hM 46 _ _ (by first | decide | simp)) 47 _ _ (by first | decide | simp)) 48 _ _ (by first | decide | simp)) 49 _ _ (by first | decide | simp)) 45 _ _ (by first | decide | simp))
  · rw [if_neg y, if_pos w] at H
    exact ⟨fun _ => H h ag_rf hM, fun u => absurd (by grind) u⟩
