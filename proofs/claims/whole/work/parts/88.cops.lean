/-! 88: the class: move, limit, keep -/
theorem c_part {A : SY} {T : List Int32} {Z : Int32 → ZT} {od : List Int32} (x : Int32) (h : HP) (Q : Option AV → HP → Prop) (R : RC A T Z od h) (H1 : isP A x → Q (some (0, 1)) h) (H0 : ¬ isP A x → Q (some (0, 0)) h) : WPm 62 [(9, 0), (0, x)] h Q := by
  refine b62_0 _ h Q ?_
  rw [R.1.1]
  exact c_in _ _ _ h _ (fun z => b62_11 _ _ h Q ⟨Or.inr rfl, H1 z⟩) (fun z => b62_11 _ _ h Q ⟨Or.inl rfl, H0 z⟩)
theorem RC_att {A : SY} {a : AT} {od : List Int32} {h h' : HP} (R : RC A [] (Zst A) od h) (ef : ∀ f, 43 ≤ f → a f = A.1 f) (e0 : a 10 0 = A.1 10 0) (e13 : a 10 13 = A.1 10 13) (fr : ∀ f x, ¬ f = 4 → ¬ f = 9 → h' f x = h f x) (em : ∀ f x, h' f x (-1) = h f x (-1)) (cg : CG (a, A.2) h') (cp : ∀ p, ina p (nP A) → CPp (a, A.2) p h') : RC (a, A.2) [] (Zst (a, A.2)) od h' := by
  obtain ⟨g1, g2, g3, g4, g5, ⟨g6, g6'⟩, g7⟩ := R
  have nP' : nP (a, A.2) = nP A := e0
  have nE' : nE (a, A.2) = nE A := e13
  have rpE : ∀ p l, rp a p l = rp A.1 p l := fun p l => rp_sr ⟨e0, fun f f1 f2 => ef f (by omega)⟩ p l fun d _ => by rw [ef 55 (by decide), ef 59 (by decide)]; exact ⟨rfl, rfl⟩
  have zE : Zst (a, A.2) = Zst A := funext fun p => rpE p _
  refine ⟨cg, fun p hp => cp p (by rw [← nP']; exact hp), fun p hp => ?_, fun y hy => ?_, ?_, ⟨CPs_co g6 fun f hf => fr f 0 (by omega) (by omega), CPs_co g6' fun f hf => fr f 1 (by omega) (by omega)⟩, ?_⟩
  · rw [nP'] at hp
    rw [zE]
    exact CZ_co (g3 p hp) (fr 39 p (by decide) (by decide)) (fr 8 p (by decide) (by decide))
  · rw [nE'] at hy
    refine EV_co (g4 y hy) (fr 2 y (by decide) (by decide)) (fr 25 y (by decide) (by decide)) (by rw [fr 41 0 (by decide) (by decide)]) (fr 8 _ (by decide) (by decide)) (fr 39 _ (by decide) (by decide)) (fun f f1 f2 f3 => by show a f y = _; rw [ef f (by omega)]) ?_ rfl rfl (fun _ => Iff.rfl) (fun _ pre post hp => ⟨post, hp⟩) (fun pre => rpE _ _)
    unfold shd
    show (if a 61 y = 1 then (2 : Int32) else if (y, true) ∈ wy A ∨ a 61 y = 5 then 1 else 0) = _
    rw [ef 61 (by decide)]
  · unfold CO
    rw [fr 3 0 (by decide) (by decide), fr 26 0 (by decide) (by decide), nE', bel_co (a := A.1) (b := (a, A.2).1) fun f f1 f2 => ef f (by omega)]
    exact g5
  · exact FR_co g7 em (fun y hy => by rw [fr 2 y (by decide) (by decide)]) (fr 33 0 (by decide) (by decide)) (fr 32 0 (by decide) (by decide)) (fr 0 0 (by decide) (by decide)) (CO_4 g5) nE' nP'
theorem C_move (A : SY) (p l : Int32) (od : List Int32) (h : HP) (Q : Option AV → HP → Prop) (hY : YW A) (R : RC A [] (Zst A) od h) (H : ∀ od' h', ag sC h h' → RC (opMove A p l).2 [] (Zst (opMove A p l).2) od' h' → Q (some (0, (opMove A p l).1)) h') : WPm 45 [(9, 0), (0, p), (0, l)] h Q := by
  unfold opMove at H
  have bad : ¬ (isP A p ∧ isIn l 0 3) → Q (some (0, -2)) h := fun z => by
    rw [if_neg z] at H
    exact H od h ag_rf R
  refine b45_0 _ _ h Q (c_part p h _ R (fun z1 => b45_5 _ _ _ h Q ⟨fun y => absurd y (by decide), fun _ => ?_⟩) (fun z => b45_5 _ _ _ h Q ⟨fun _ => bad fun q => z q.1, fun y => absurd rfl y⟩))
  refine c_line _ h _ (fun z2 => b45_12 _ _ _ h Q ⟨fun _ => ?_, fun y => absurd y (by decide)⟩) (fun z => b45_12 _ _ _ h Q ⟨fun y => absurd rfl y, fun _ => bad fun q => z q.2⟩)
  rw [if_pos ⟨z1, z2⟩] at H
  have ip := isP_ina hY z1
  have pp := R.2.1 p ip.1
  rw [pp.1, pp.2.1]
  refine ⟨ip.2, ina_n1 ip.2, ip.2, ina_n1 ip.2, H od _ (ag_up ag_rf rfl) ?_⟩
  refine RC_att R (fun f hf => sa_fam (by omega)) (by simp [sa]) (by simp [sa]) (fun f x f1 f2 => by rw [upfam f1]) (fun f x => up_n fun q => absurd q.2.2 (by decide)) ?_ fun q hq => ?_
  · have g1 := R.1
    unfold CG
    rw [upfam (by decide)]
    simpa [CG, nP, sa] using g1
  · have c := R.2.1 q hq
    have k4 : ∀ k, ¬ k = 0 → (up h 4 p 0 l) 4 q k = h 4 q k := fun k hk => up_n fun w => hk w.2.2
    have s : ∀ f, ¬ f = 42 → (sa A.1 42 p l, A.2).1 f = A.1 f := fun f hf => sa_fam hf
    refine ⟨?_, ?_, ?_, ?_, ?_, ?_⟩
    · rw [upfam (by decide)]; exact c.1
    · by_cases z : q = p
      · subst z
        rw [up_at]; exact sa_eq.symm
      · rw [up_n (fun w => z w.2.1), c.2.1]
        exact (sa_ne fun w => z w.2).symm
    · have c3 := c.2.2.1
      unfold PRp
      rw [k4 3 (by decide), k4 8 (by decide), upfam (by decide), upfam (by decide), upfam (by decide), upfam (by decide), upfam (by decide), s 43 (by decide), s 44 (by decide), s 45 (by decide), s 46 (by decide), s 47 (by decide), s 48 (by decide), s 49 (by decide)]
      exact c3
    · rw [k4 9 (by decide), s 50 (by decide)]; exact c.2.2.2.1
    · rw [k4 10 (by decide)]; exact c.2.2.2.2.1
    · rw [k4 11 (by decide), s 51 (by decide)]; exact c.2.2.2.2.2
theorem C_limit (A : SY) (n : Int32) (od : List Int32) (h : HP) (Q : Option AV → HP → Prop) (R : RC A [] (Zst A) od h) (H : ∀ od' h', ag sC h h' → RC (opLimit A n).2 [] (Zst (opLimit A n).2) od' h' → Q (some (0, (opLimit A n).1)) h') : WPm 46 [(9, 0), (0, n)] h Q := by
  unfold opLimit at H
  have e13 : h 9 0 13 = A.1 10 32 := R.1.2.2.2.2.1
  have good : isIn n (-1) 1000 → Q (some (0, A.1 10 32)) (up h 9 0 13 n) := fun z => by
    rw [if_pos z] at H
    refine H od _ (ag_up ag_rf rfl) ?_
    refine RC_att R (fun f hf => sa_fam (by omega)) (by simp [sa]) (by simp [sa]) (fun f x f1 f2 => by rw [upfam f2]) (fun f x => up_n fun q => absurd q.2.2 (by decide)) ?_ fun q hq => ?_
    · have g1 := R.1
      unfold CG
      rw [up_at, up_n (by simp), up_n (by simp), up_n (by simp), up_n (by simp), up_n (by simp)]
      have g := g1
      refine ⟨g.1.trans (by simp [nP, sa]), g.2.1.trans (by simp [sa]), g.2.2.1.trans (by simp [sa]), g.2.2.2.1.trans (by simp [sa]), (by simp [sa]), g.2.2.2.2.2⟩
    · have c := R.2.1 q hq
      have s : ∀ f, ¬ f = 10 → (sa A.1 10 32 n, A.2).1 f = A.1 f := fun f hf => sa_fam hf
      unfold CPp PRp
      rw [upfam (by decide), upfam (by decide), upfam (by decide), upfam (by decide), upfam (by decide), upfam (by decide), upfam (by decide), s 42 (by decide), s 43 (by decide), s 44 (by decide), s 45 (by decide), s 46 (by decide), s 47 (by decide), s 48 (by decide), s 49 (by decide), s 50 (by decide), s 51 (by decide)]
      exact c
  refine b46_0 _ h Q ?_
  rw [e13]
  refine ⟨fun z => good (by rw [z]; exact ⟨by decide, by decide⟩), fun z => c_in _ _ _ h _ (fun y => b46_13 _ _ h Q ⟨fun _ => ?_, fun w => absurd w (by decide)⟩) (fun y => b46_13 _ _ h Q ⟨fun w => absurd rfl w, fun _ => ?_⟩)⟩
  · rw [e13]
    exact good ⟨Int32.le_trans (by decide) y.1, y.2⟩
  · rw [if_neg (fun q => y ⟨by have := q.1; grind, q.2⟩)] at H
    exact H od h ag_rf R
theorem C_keep (A : SY) (n : Int32) (od : List Int32) (h : HP) (Q : Option AV → HP → Prop) (R : RC A [] (Zst A) od h) (H : ∀ od' h', ag sC h h' → RC A [] (Zst A) od' h' → Q (some (0, opKeep n)) h') : WPm 47 [(9, 0), (0, n)] h Q := by
  unfold opKeep at H
  refine b47_0 _ h Q (c_in _ _ _ h _ (fun z => b47_7 _ _ h Q ⟨fun _ => ?_, fun y => absurd y (by decide)⟩) (fun z => b47_7 _ _ h Q ⟨fun y => absurd rfl y, fun _ => ?_⟩))
  · rw [if_pos z] at H
    refine H od _ (ag_up ag_rf rfl) ?_
    refine RC_att (a := A.1) R (fun _ _ => rfl) rfl rfl (fun f x f1 f2 => by rw [upfam f2]) (fun f x => up_n fun q => absurd q.2.2 (by decide)) ?_ fun q hq => ?_
    · unfold CG
      rw [up_at, up_n (by simp), up_n (by simp), up_n (by simp), up_n (by simp), up_n (by simp)]
      exact ⟨R.1.1, R.1.2.1, R.1.2.2.1, R.1.2.2.2.1, R.1.2.2.2.2.1, z⟩
    · have c := R.2.1 q hq
      unfold CPp PRp
      rw [upfam (by decide), upfam (by decide), upfam (by decide), upfam (by decide), upfam (by decide), upfam (by decide), upfam (by decide)]
      exact c
  · rw [if_neg z] at H
    exact H od h ag_rf R
