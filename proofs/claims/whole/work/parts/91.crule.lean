/-! 91: the class: rule -/
theorem C_rule (A : SY) (p t a b c : Int32) (od : List Int32) (h : HP) (Q : Option AV → HP → Prop) (hY : YW A) (R : RC A [] (Zst A) od h) (H : ∀ od' h', ag sC h h' → RC (opRule A p t a b c).2 [] (Zst (opRule A p t a b c).2) od' h' → Q (some (0, (opRule A p t a b c).1)) h') : WPm 39 [(9, 0), (0, p), (0, t), (0, a), (0, b), (0, c)] h Q := by
  unfold opRule at H
  have bad : ¬ (isP A p ∧ isIn t 0 7 ∧ isIn a 0 15 ∧ isIn b 0 15 ∧ isIn c (-3) 20) → Q (some (0, -2)) h := fun z => by
    rw [if_neg z] at H
    exact H od h ag_rf R
  refine b39_0 _ _ _ _ _ h Q (c_part p h _ R (fun z1 => b39_5 _ _ _ _ _ _ h Q ⟨fun y => absurd y (by decide), fun _ => ?_⟩) (fun z => b39_5 _ _ _ _ _ _ h Q ⟨fun _ => bad fun q => z q.1, fun y => absurd rfl y⟩))
  refine c_in _ _ _ h _ (fun z2 => b39_15 _ _ _ _ _ _ h Q ⟨fun _ => ?_, fun y => absurd y (by decide)⟩) (fun z => b39_15 _ _ _ _ _ _ h Q ⟨fun y => absurd rfl y, fun _ => bad fun q => z q.2.1⟩)
  refine c_in _ _ _ h _ (fun z3 => b39_28 _ _ _ _ _ _ h Q ⟨fun y => absurd y (by decide), fun _ => ?_⟩) (fun z => b39_28 _ _ _ _ _ _ h Q ⟨fun _ => bad fun q => z q.2.2.1, fun y => absurd rfl y⟩)
  refine c_in _ _ _ h _ (fun z4 => b39_39 _ _ _ _ _ _ h Q ⟨fun y => absurd y (by decide), fun _ => ?_⟩) (fun z => b39_39 _ _ _ _ _ _ h Q ⟨fun _ => bad fun q => z q.2.2.2.1, fun y => absurd rfl y⟩)
  refine c_in _ _ _ h _ (fun z5 => b39_51 _ _ _ _ _ _ h Q ⟨fun _ => ?_, fun y => absurd y (by decide)⟩) (fun z => b39_51 _ _ _ _ _ _ h Q ⟨fun y => absurd rfl y, fun _ => bad fun q => z q.2.2.2.2⟩)
  rw [if_pos ⟨z1, z2, z3, z4, z5⟩] at H
  have ip := isP_ina hY z1
  have pp := R.2.1 p ip.1
  have r45 := (hY.1.1.1.2.1 p ip.2).2
  rw [R.2.2.2.2.1.1, pp.1]
  refine ⟨fun e0 => ⟨ip.2, ina_n1 ip.2, b21_0 _ _ _ _ _ h _ ?_⟩, fun e0 => ?_⟩
  · rw [if_neg (ar_22.1 e0)] at H
    have z : nE A = 0 := nE_z hY.1 (ar_22.1 e0)
    rw [pp.2.2.1.2.2.1]
    refine ⟨ina_n1 ip.2, fun l8 => ?_, fun l8 => b39_85 _ _ _ _ _ _ h Q ?_⟩
    · rw [if_neg (fun q => by rw [q] at l8; exact absurd l8 (by decide))] at H
      have i8 : ina (A.1 45 p) 8 := ⟨r45.1, l8⟩
      have pn := ina_n1 ip.2
      refine ⟨pn, pn, i8, pn, pn, i8, pn, pn, i8, pn, pn, i8, pn, pn, pn, b39_85 _ _ _ _ _ _ _ Q ?_⟩
      rw [up_at]
      refine H od _ (ag_up (ag_up (ag_up (ag_up (ag_up ag_rf rfl) rfl) rfl) rfl) rfl) (RC_zero hY.1 z R (by simp [sa]) (by simp [sa]) (fun f x f1 f2 => by rw [upfam f1, upfam (by omega), upfam (by omega), upfam (by omega), upfam (by omega)]) (fun f x => by rw [up_n (fun q => absurd q.2.2 (by decide)), up_n (fun q => ina_n1 i8 q.2.2.symm), up_n (fun q => ina_n1 i8 q.2.2.symm), up_n (fun q => ina_n1 i8 q.2.2.symm), up_n (fun q => ina_n1 i8 q.2.2.symm)]) ?_ fun q hq => ?_)
      · have g1 := R.1
        unfold CG
        rw [upfam (by decide), upfam (by decide), upfam (by decide), upfam (by decide), upfam (by decide)]
        simpa [CG, nP, sa] using g1
      · have cc := R.2.1 q hq
        have q12 : ina q 12 := ⟨hq.1, Int32.lt_of_lt_of_le hq.2 hY.1.1.1.1.2⟩
        have rq := (hY.1.1.1.2.1 q q12).2
        have s : ∀ f, ¬ f = 45 → ¬ (46 ≤ f ∧ f ≤ 49) → (sa (sa (sa (sa (sa A.1 46 (8 * p + A.1 45 p) t) 47 (8 * p + A.1 45 p) a) 48 (8 * p + A.1 45 p) b) 49 (8 * p + A.1 45 p) c) 45 p (A.1 45 p + 1), A.2).1 f = A.1 f := fun f a1 a2 => by
          show sa (sa (sa (sa (sa A.1 46 (8 * p + A.1 45 p) t) 47 (8 * p + A.1 45 p) a) 48 (8 * p + A.1 45 p) b) 49 (8 * p + A.1 45 p) c) 45 p (A.1 45 p + 1) f = _
          rw [sa_fam a1, sa_fam (by omega), sa_fam (by omega), sa_fam (by omega), sa_fam (by omega)]
        have s45 : (sa (sa (sa (sa (sa A.1 46 (8 * p + A.1 45 p) t) 47 (8 * p + A.1 45 p) a) 48 (8 * p + A.1 45 p) b) 49 (8 * p + A.1 45 p) c) 45 p (A.1 45 p + 1), A.2).1 45 q = if q = p then A.1 45 p + 1 else A.1 45 q := by simp [sa]
        have s46 : ∀ j, (sa (sa (sa (sa (sa A.1 46 (8 * p + A.1 45 p) t) 47 (8 * p + A.1 45 p) a) 48 (8 * p + A.1 45 p) b) 49 (8 * p + A.1 45 p) c) 45 p (A.1 45 p + 1), A.2).1 46 j = if j = 8 * p + A.1 45 p then t else A.1 46 j := fun j => by simp [sa]
        have s47 : ∀ j, (sa (sa (sa (sa (sa A.1 46 (8 * p + A.1 45 p) t) 47 (8 * p + A.1 45 p) a) 48 (8 * p + A.1 45 p) b) 49 (8 * p + A.1 45 p) c) 45 p (A.1 45 p + 1), A.2).1 47 j = if j = 8 * p + A.1 45 p then a else A.1 47 j := fun j => by simp [sa]
        have s48 : ∀ j, (sa (sa (sa (sa (sa A.1 46 (8 * p + A.1 45 p) t) 47 (8 * p + A.1 45 p) a) 48 (8 * p + A.1 45 p) b) 49 (8 * p + A.1 45 p) c) 45 p (A.1 45 p + 1), A.2).1 48 j = if j = 8 * p + A.1 45 p then b else A.1 48 j := fun j => by simp [sa]
        have s49 : ∀ j, (sa (sa (sa (sa (sa A.1 46 (8 * p + A.1 45 p) t) 47 (8 * p + A.1 45 p) a) 48 (8 * p + A.1 45 p) b) 49 (8 * p + A.1 45 p) c) 45 p (A.1 45 p + 1), A.2).1 49 j = if j = 8 * p + A.1 45 p then c else A.1 49 j := fun j => by simp [sa]
        generalize (sa (sa (sa (sa (sa A.1 46 (8 * p + A.1 45 p) t) 47 (8 * p + A.1 45 p) a) 48 (8 * p + A.1 45 p) b) 49 (8 * p + A.1 45 p) c) 45 p (A.1 45 p + 1)) = a' at s s45 s46 s47 s48 s49
        have k4 : ∀ k, ¬ k = 8 → (up (up (up (up (up h 28 p (A.1 45 p) t) 29 p (A.1 45 p) a) 30 p (A.1 45 p) b) 31 p (A.1 45 p) c) 4 p 8 (A.1 45 p + 1)) 4 q k = h 4 q k := fun k hk => by rw [up_n (fun w => hk w.2.2), upfam (by decide), upfam (by decide), upfam (by decide), upfam (by decide)]
        have k48 : (up (up (up (up (up h 28 p (A.1 45 p) t) 29 p (A.1 45 p) a) 30 p (A.1 45 p) b) 31 p (A.1 45 p) c) 4 p 8 (A.1 45 p + 1)) 4 q 8 = if q = p then A.1 45 p + 1 else h 4 q 8 := by
          by_cases w : q = p
          · subst w; rw [up_at, if_pos rfl]
          · rw [if_neg w, up_n (fun v => w v.2.1), upfam (by decide), upfam (by decide), upfam (by decide), upfam (by decide)]
        have r28 : ∀ k, (up (up (up (up (up h 28 p (A.1 45 p) t) 29 p (A.1 45 p) a) 30 p (A.1 45 p) b) 31 p (A.1 45 p) c) 4 p 8 (A.1 45 p + 1)) 28 q k = if q = p ∧ k = A.1 45 p then t else h 28 q k := fun k => by
          rw [upfam (by decide), upfam (by decide), upfam (by decide), upfam (by decide)]; unfold up; simp
        have r29 : ∀ k, (up (up (up (up (up h 28 p (A.1 45 p) t) 29 p (A.1 45 p) a) 30 p (A.1 45 p) b) 31 p (A.1 45 p) c) 4 p 8 (A.1 45 p + 1)) 29 q k = if q = p ∧ k = A.1 45 p then a else h 29 q k := fun k => by
          rw [upfam (by decide), upfam (by decide), upfam (by decide)]; unfold up; simp
        have r30 : ∀ k, (up (up (up (up (up h 28 p (A.1 45 p) t) 29 p (A.1 45 p) a) 30 p (A.1 45 p) b) 31 p (A.1 45 p) c) 4 p 8 (A.1 45 p + 1)) 30 q k = if q = p ∧ k = A.1 45 p then b else h 30 q k := fun k => by
          rw [upfam (by decide), upfam (by decide)]; unfold up; simp
        have r31 : ∀ k, (up (up (up (up (up h 28 p (A.1 45 p) t) 29 p (A.1 45 p) a) 30 p (A.1 45 p) b) 31 p (A.1 45 p) c) 4 p 8 (A.1 45 p + 1)) 31 q k = if q = p ∧ k = A.1 45 p then c else h 31 q k := fun k => by
          rw [upfam (by decide)]; unfold up; simp
        have r27 : (up (up (up (up (up h 28 p (A.1 45 p) t) 29 p (A.1 45 p) a) 30 p (A.1 45 p) b) 31 p (A.1 45 p) c) 4 p 8 (A.1 45 p + 1)) 27 q = h 27 q := by
          rw [upfam (by decide), upfam (by decide), upfam (by decide), upfam (by decide), upfam (by decide)]
        have r40 : (up (up (up (up (up h 28 p (A.1 45 p) t) 29 p (A.1 45 p) a) 30 p (A.1 45 p) b) 31 p (A.1 45 p) c) 4 p 8 (A.1 45 p + 1)) 40 0 = h 40 0 := by
          rw [upfam (by decide), upfam (by decide), upfam (by decide), upfam (by decide), upfam (by decide)]
        generalize (up (up (up (up (up h 28 p (A.1 45 p) t) 29 p (A.1 45 p) a) 30 p (A.1 45 p) b) 31 p (A.1 45 p) c) 4 p 8 (A.1 45 p + 1)) = h' at k4 k48 r28 r29 r30 r31 r27 r40
        refine ⟨?_, ?_, ⟨?_, ?_, ?_, fun k k0 k1 => ?_⟩, ?_, ?_, ?_⟩
        · rw [r40]; exact cc.1
        · rw [k4 0 (by decide), s 42 (by decide) (by decide)]; exact cc.2.1
        · rw [k4 3 (by decide), s 43 (by decide) (by decide)]; exact cc.2.2.1.1
        · rw [r27, s 43 (by decide) (by decide), s 44 (by decide) (by decide)]; exact cc.2.2.1.2.1
        · rw [k48, s45]
          by_cases w : q = p
          · rw [if_pos w, if_pos w]
          · rw [if_neg w, if_neg w]; exact cc.2.2.1.2.2.1
        · rw [s45] at k1
          rw [r28, r29, r30, r31, s46, s47, s48, s49]
          by_cases w : q = p
          · subst w
            rw [if_pos rfl] at k1
            by_cases y : k = A.1 45 q
            · rw [y, if_pos ⟨rfl, rfl⟩, if_pos rfl, if_pos ⟨rfl, rfl⟩, if_pos rfl, if_pos ⟨rfl, rfl⟩, if_pos rfl, if_pos ⟨rfl, rfl⟩, if_pos rfl]
              exact ⟨rfl, rfl, rfl, rfl⟩
            · have n1 : ¬ (q = q ∧ k = A.1 45 q) := fun v => y v.2
              have n2 : ¬ 8 * q + k = 8 * q + A.1 45 q := fun v => y (ar_23 v)
              rw [if_neg n1, if_neg n2, if_neg n1, if_neg n2, if_neg n1, if_neg n2, if_neg n1, if_neg n2]
              exact cc.2.2.1.2.2.2 k k0 (by have := r45; grind)
          · rw [if_neg w] at k1
            have n1 : ¬ (q = p ∧ k = A.1 45 p) := fun v => w v.1
            have n2 : ¬ 8 * q + k = 8 * p + A.1 45 p := fun v => w (ar_15 q12 ip.2 k0 (Int32.lt_of_lt_of_le k1 rq.2) i8.1 i8.2 v).1
            rw [if_neg n1, if_neg n2, if_neg n1, if_neg n2, if_neg n1, if_neg n2, if_neg n1, if_neg n2]
            exact cc.2.2.1.2.2.2 k k0 k1
        · rw [k4 9 (by decide), s 50 (by decide) (by decide)]; exact cc.2.2.2.1
        · rw [k4 10 (by decide)]; exact cc.2.2.2.2.1
        · rw [k4 11 (by decide), s 51 (by decide) (by decide)]; exact cc.2.2.2.2.2
    · have e8 : A.1 45 p = 8 := by have := r45.2; grind
      rw [if_pos e8] at H
      exact H od h ag_rf R
  · rw [if_pos (ar_22.2 e0)] at H
    exact H od h ag_rf R
