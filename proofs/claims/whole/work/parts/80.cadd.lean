/-! 80: the class: addEvent -/
theorem EV_co2 {A A' : SY} {T T' : List Int32} {e : Int32} {h h' : HP} (E : EV A T e h) (r2 : h' 2 e = h 2 e) (r25 : h' 25 e = h 25 e) (r41 : h' 41 0 e = h 41 0 e) (r8 : h' 8 (100 + e) = h 8 (100 + e)) (r39 : h' 39 (100 + e) = h 39 (100 + e))
    (a : ∀ f, 54 ≤ f → f ≤ 62 → ¬ f = 61 → A'.1 f e = A.1 f e) (s : shd A' e = shd A e) (p : pr A' e = pr A e) (q : se A' e = se A e) (t : ¬ hw A e = 1 → (e ∈ T' ↔ e ∈ T))
    (d : hw A e = 1 → ∀ pre post, dn A' (pa A e) = pre ++ e :: post → ∃ post', dn A (pa A e) = pre ++ e :: post' ∧ rp A'.1 (pa A e) pre = rp A.1 (pa A e) pre) : EV A' T' e h' := by
  have a54 : pa A' e = pa A e := a 54 (by decide) (by decide) (by decide)
  have a55 := a 55 (by decide) (by decide) (by decide)
  have a56 := a 56 (by decide) (by decide) (by decide)
  have a57 := a 57 (by decide) (by decide) (by decide)
  have a58 := a 58 (by decide) (by decide) (by decide)
  have a59 := a 59 (by decide) (by decide) (by decide)
  have a60 : hw A' e = hw A e := a 60 (by decide) (by decide) (by decide)
  have a62 := a 62 (by decide) (by decide) (by decide)
  have se' : seE A' T' e = seE A T e := by
    unfold seE
    rw [a60, q]
    by_cases z : hw A e = 1
    · rw [if_pos (Or.inl z), if_pos (Or.inl z)]
    · by_cases y : e ∈ T
      · rw [if_pos (Or.inr ((t z).mpr y)), if_pos (Or.inr y)]
      · rw [if_neg (fun w => w.elim z fun w => y ((t z).mp w)), if_neg (fun w => w.elim z y)]
  have pr' : prE A' e = prE A e := by unfold prE; rw [a60, p]
  obtain ⟨e1, e2, e3, e4⟩ := E
  refine ⟨?_, ?_, ?_, ?_⟩
  · unfold EVa KY; rw [r41, r2, a54, a55, a56, a57, a58, a59]; exact e1
  · unfold EVb; rw [r2, a60, s]; exact e2
  · unfold EVc; rw [r2, r25, a60, a62, pr', se']; exact e3
  · unfold EVd; rw [r2, a60, a54]
    refine ⟨e4.1, fun z => ⟨(e4.2.1 z).1, (e4.2.1 z).2.1, fun pre post hp => ?_⟩, e4.2.2⟩
    obtain ⟨post', hp', hr⟩ := d (e4.2.1 z).1 pre post hp
    rw [hr]
    exact CZ_co ((e4.2.1 z).2.2 pre post' hp') r39 r8
theorem ar_19 {y n : Int32} (hy : ina y n) (hn : n < 400) : ¬ 100 + y = n ∨ True := Or.inr trivial
theorem s_addEvent (A : SY) (T : List Int32) (Z : Int32 → ZT) (od : List Int32) (p m b s c x : Int32) (h : HP) (Q : Option AV → HP → Prop) (R : RC A T Z od h) (hP12 : 0 ≤ nP A ∧ nP A ≤ 12) (hn : 0 ≤ nE A ∧ nE A < 400) (h61 : A.1 61 (nE A) = 0) (nw : ¬ (nE A, true) ∈ wy A) (nT : ¬ nE A ∈ T) (hdn : ∀ q d, d ∈ dn A q → ina d (nE A))
    (H : ∀ od' h', ag sC h h' → (∀ f y, ¬ f = 0 → ¬ f = 2 → ¬ f = 12 → ¬ f = 25 → ¬ f = 3 → ¬ f = 26 → ¬ f = 41 → h' f y = h f y) → RC (mkF A p m b s c x) T Z od' h' → Q (some (2, nE A)) h') : WPm 68 [(9, 0), (0, p), (0, m), (0, b), (0, s), (0, c), (0, x)] h Q := by
  obtain ⟨g1, g2, g3, g4, g5, ⟨g6, g6'⟩, g7⟩ := id R
  have n4 : ina (nE A) 400 := hn
  have nn := ina_n1 n4
  have fe := g7.1 (nE A) n4 (Int32.le_refl _)
  have rl := RM_RL g7.2.2.2.2.2 ⟨hn.1, Int32.le_of_lt hn.2⟩ hP12
  have e3 : h 3 0 1 = nE A := g5.1
  refine b68_0 _ _ _ _ _ _ h Q ?_
  rw [e3]
  refine s_newEvent (nE A) (nE A) h (fun h' => WPc 68 14 [(9, 0), (0, p), (0, m), (0, b), (0, s), (0, c), (0, x), (500, 0)] [(2, nE A)] h' Q) nn fe.1 rl ?_
  refine b68_14 _ _ _ _ _ _ _ _ Q ⟨nn, b8_0 _ _ _ _ _ _ _ _ _ ⟨nn, nn, nn, nn, nn, nn, b68_30 _ _ _ _ _ _ _ _ Q ⟨nn, ?_⟩⟩⟩
  have v0 : (up (up (up (up (up (up (nV (nE A) (nE A) h) 2 (nE A) 1 p) 2 (nE A) 2 m) 2 (nE A) 3 b) 2 (nE A) 4 s) 2 (nE A) 5 c) 2 (nE A) 6 x) 2 (nE A) 0 = nE A := by
    rw [up_n (by simp), up_n (by simp), up_n (by simp), up_n (by simp), up_n (by simp), up_n (by simp)]; exact nV_2.1
  rw [v0]
  refine ⟨fun z => ?_, fun _ => ⟨nn, n4, nn, ?_⟩⟩
  · have := hn.2
    exfalso; grind
  -- the heap before the insertion
  have k2 : ∀ k, ¬ k = 1 → ¬ k = 2 → ¬ k = 3 → ¬ k = 4 → ¬ k = 5 → ¬ k = 6 → (up (up (up (up (up (up (up (nV (nE A) (nE A) h) 2 (nE A) 1 p) 2 (nE A) 2 m) 2 (nE A) 3 b) 2 (nE A) 4 s) 2 (nE A) 5 c) 2 (nE A) 6 x) 41 0 (nE A) (nE A)) 2 (nE A) k = nV (nE A) (nE A) h 2 (nE A) k := fun k k1 k2 k3 k4 k5 k6 => by
    rw [upfam (by decide), up_n (fun q => k6 q.2.2), up_n (fun q => k5 q.2.2), up_n (fun q => k4 q.2.2), up_n (fun q => k3 q.2.2), up_n (fun q => k2 q.2.2), up_n (fun q => k1 q.2.2)]
  have w1 : (up (up (up (up (up (up (up (nV (nE A) (nE A) h) 2 (nE A) 1 p) 2 (nE A) 2 m) 2 (nE A) 3 b) 2 (nE A) 4 s) 2 (nE A) 5 c) 2 (nE A) 6 x) 41 0 (nE A) (nE A)) 2 (nE A) 1 = p := by rw [upfam (by decide), up_n (by simp), up_n (by simp), up_n (by simp), up_n (by simp), up_n (by simp), up_at]
  have w2 : (up (up (up (up (up (up (up (nV (nE A) (nE A) h) 2 (nE A) 1 p) 2 (nE A) 2 m) 2 (nE A) 3 b) 2 (nE A) 4 s) 2 (nE A) 5 c) 2 (nE A) 6 x) 41 0 (nE A) (nE A)) 2 (nE A) 2 = m := by rw [upfam (by decide), up_n (by simp), up_n (by simp), up_n (by simp), up_n (by simp), up_at]
  have w3 : (up (up (up (up (up (up (up (nV (nE A) (nE A) h) 2 (nE A) 1 p) 2 (nE A) 2 m) 2 (nE A) 3 b) 2 (nE A) 4 s) 2 (nE A) 5 c) 2 (nE A) 6 x) 41 0 (nE A) (nE A)) 2 (nE A) 3 = b := by rw [upfam (by decide), up_n (by simp), up_n (by simp), up_n (by simp), up_at]
  have w4 : (up (up (up (up (up (up (up (nV (nE A) (nE A) h) 2 (nE A) 1 p) 2 (nE A) 2 m) 2 (nE A) 3 b) 2 (nE A) 4 s) 2 (nE A) 5 c) 2 (nE A) 6 x) 41 0 (nE A) (nE A)) 2 (nE A) 4 = s := by rw [upfam (by decide), up_n (by simp), up_n (by simp), up_at]
  have w5 : (up (up (up (up (up (up (up (nV (nE A) (nE A) h) 2 (nE A) 1 p) 2 (nE A) 2 m) 2 (nE A) 3 b) 2 (nE A) 4 s) 2 (nE A) 5 c) 2 (nE A) 6 x) 41 0 (nE A) (nE A)) 2 (nE A) 5 = c := by rw [upfam (by decide), up_n (by simp), up_at]
  have w6 : (up (up (up (up (up (up (up (nV (nE A) (nE A) h) 2 (nE A) 1 p) 2 (nE A) 2 m) 2 (nE A) 3 b) 2 (nE A) 4 s) 2 (nE A) 5 c) 2 (nE A) 6 x) 41 0 (nE A) (nE A)) 2 (nE A) 6 = x := by rw [upfam (by decide), up_at]
  have w41 : (up (up (up (up (up (up (up (nV (nE A) (nE A) h) 2 (nE A) 1 p) 2 (nE A) 2 m) 2 (nE A) 3 b) 2 (nE A) 4 s) 2 (nE A) 5 c) 2 (nE A) 6 x) 41 0 (nE A) (nE A)) 41 0 (nE A) = nE A := up_at
  have fr : ∀ f y k, ¬ (f = 2 ∧ y = nE A) → ¬ (f = 12 ∧ y = nE A) → ¬ (f = 25 ∧ y = nE A) → ¬ (f = 0 ∧ y = 0) → ¬ (f = 41 ∧ y = 0 ∧ k = nE A) → (up (up (up (up (up (up (up (nV (nE A) (nE A) h) 2 (nE A) 1 p) 2 (nE A) 2 m) 2 (nE A) 3 b) 2 (nE A) 4 s) 2 (nE A) 5 c) 2 (nE A) 6 x) 41 0 (nE A) (nE A)) f y k = h f y k := fun f y k f1 f2 f3 f4 f5 => by
    rw [up_n f5, up_n (fun q => f1 ⟨q.1, q.2.1⟩), up_n (fun q => f1 ⟨q.1, q.2.1⟩), up_n (fun q => f1 ⟨q.1, q.2.1⟩), up_n (fun q => f1 ⟨q.1, q.2.1⟩), up_n (fun q => f1 ⟨q.1, q.2.1⟩), up_n (fun q => f1 ⟨q.1, q.2.1⟩), nV_n f1 f2 f3 f4]
  have w0 : ∀ k, (up (up (up (up (up (up (up (nV (nE A) (nE A) h) 2 (nE A) 1 p) 2 (nE A) 2 m) 2 (nE A) 3 b) 2 (nE A) 4 s) 2 (nE A) 5 c) 2 (nE A) 6 x) 41 0 (nE A) (nE A)) 0 0 k = nV (nE A) (nE A) h 0 0 k := fun k => by
    rw [upfam (by decide), upfam (by decide), upfam (by decide), upfam (by decide), upfam (by decide), upfam (by decide), upfam (by decide)]
  have w12 : (up (up (up (up (up (up (up (nV (nE A) (nE A) h) 2 (nE A) 1 p) 2 (nE A) 2 m) 2 (nE A) 3 b) 2 (nE A) 4 s) 2 (nE A) 5 c) 2 (nE A) 6 x) 41 0 (nE A) (nE A)) 12 (nE A) (-1) = 0 := by
    rw [upfam (by decide), upfam (by decide), upfam (by decide), upfam (by decide), upfam (by decide), upfam (by decide), upfam (by decide)]; exact nV_fl
  generalize hH : (up (up (up (up (up (up (up (nV (nE A) (nE A) h) 2 (nE A) 1 p) 2 (nE A) 2 m) 2 (nE A) 3 b) 2 (nE A) 4 s) 2 (nE A) 5 c) 2 (nE A) 6 x) 41 0 (nE A) (nE A)) = h1 at k2 w1 w2 w3 w4 w5 w6 w41 fr w0 w12
  have gC1 : ag sC h h1 := fun f y k z => by
    refine fr f y k ?_ ?_ ?_ ?_ ?_ <;> (rintro ⟨rfl, _⟩; exact absurd z (by simp [sC]))
  have nv := nV_2 (e := nE A) (y := nE A) (h := h)
  have od26 : h1 26 0 = h 26 0 := by funext k; exact fr 26 0 k (by simp) (by simp) (by simp) (by simp) (by simp)
  have od3 : h1 3 0 = h 3 0 := by funext k; exact fr 3 0 k (by simp) (by simp) (by simp) (by simp) (by simp)
  have ne : ∀ y, ina y (nE A) → ¬ y = nE A := fun y hy z => by rw [z] at hy; exact absurd hy.2 (by grind)
  have o2 : ∀ y, ¬ y = nE A → h1 2 y = h 2 y := fun y hy => by funext k; exact fr 2 y k (fun q => hy q.2) (by simp) (by simp) (by simp) (by simp)
  have mO : ∀ f y, ¬ f = 10 → ina y (nE A) → (mkF A p m b s c x).1 f y = A.1 f y := fun f y hf hy => mk1_old hf (ne y hy)
  have mN := mk1_new (a := A.1) (n := nE A) (p := p) (m := m) (b := b) (s := s) (c := c) (x := x)
  have nE' : nE (mkF A p m b s c x) = nE A + 1 := by
    show mk1 A.1 (nE A) p m b s c x 10 13 = _
    rw [mk1_10, if_pos rfl]
  have nP' : nP (mkF A p m b s c x) = nP A := by
    show mk1 A.1 (nE A) p m b s c x 10 0 = _
    rw [mk1_10, if_neg (by decide)]
  have spl : ∀ y, ina y (nE A + 1) → ina y (nE A) ∨ y = nE A := fun y hy => by
    by_cases q : y < nE A
    · exact Or.inl ⟨hy.1, q⟩
    · right
      have h1 := hy.2
      have h2 := hn
      have h3 := hy.1
      grind
  have up1 : ∀ y, ina y (nE A) → ina y (nE A + 1) := fun y hy => by
    have h1 := hy.1
    have h2 := hy.2
    have h3 := hn
    unfold ina
    grind
  have up2 : ina (nE A) (nE A + 1) := by
    have h3 := hn
    unfold ina
    grind
  have belO : ∀ y z, ina y (nE A) → ina z (nE A) → bel (mkF A p m b s c x).1 y z = bel A.1 y z := fun y z hy hz => bel_pt fun g h1 h2 => ⟨mO g y (by omega) hy, mO g z (by omega) hz⟩
  have kO : ∀ y, ina y (nE A) → KY (mkF A p m b s c x).1 y y h1 := fun y hy => by
    unfold KY
    rw [o2 y (ne y hy), mO 55 y (by decide) hy, mO 56 y (by decide) hy, mO 57 y (by decide) hy, mO 58 y (by decide) hy]
    exact (g4 y hy).1.2.2.2.1
  have kN : KY (mkF A p m b s c x).1 (nE A) (nE A) h1 := ⟨w2.trans mN.2.1.symm, w3.trans mN.2.2.1.symm, w4.trans mN.2.2.2.1.symm, w5.trans mN.2.2.2.2.1.symm⟩
  have odin : ∀ y, y ∈ od → ina y (nE A) := fun y hy => (g5.2.2.1 y).mp hy
  have odl : od.length < 400 := by
    have q := hn.2
    rw [← g5.2.2.2.2.1] at q
    exact (nJ_lt (b := 400) (by have := g5.2.2.2.2.2; omega) (by omega)).mp q
  refine s_insert (mkF A p m b s c x).1 0 (nE A) (nE A) od id h1 _ odl (by rw [od3, g5.1, g5.2.2.2.2.1]) (by rw [od26]; exact g5.2.1) nn (fun y hy => ⟨ina_n1 (odin y hy), kO y (odin y hy)⟩) kN (List.Pairwise.imp_of_mem (fun {u v} hu hv q => by
      have := bel_nk q
      rw [show klt (mkF A p m b s c x).1 (id v) (id u) = klt A.1 v u from klt_pt fun g h1 h2 => ⟨mO g v (by omega) (odin v hv), mO g u (by omega) (odin u hu)⟩]
      exact this) g5.2.2.2.1) fun L1 L2 h2 eL hL1 hL2 gg e31 row => b68_62 _ _ _ _ _ _ _ h2 Q ?_
  have rr : ∀ f y, ¬ (f = 26 ∧ y = 0) → ¬ (f = 3 ∧ y = 0) → h2 f y = h1 f y := fun f y q1 q2 => agw_row gg fun q => by
    rcases q.1 with z | z
    · exact q1 ⟨z, q.2⟩
    · exact q2 ⟨z, q.2⟩
  have frT : ∀ f y, ¬ f = 0 → ¬ f = 2 → ¬ f = 12 → ¬ f = 25 → ¬ f = 3 → ¬ f = 26 → ¬ f = 41 → h2 f y = h f y := fun f y f0 f2 f12 f25 f3 f26 f41 => by
    rw [rr f y (fun q => f26 q.1) (fun q => f3 q.1)]
    funext k
    exact fr f y k (fun q => f2 q.1) (fun q => f12 q.1) (fun q => f25 q.1) (fun q => f0 q.1) (fun q => f41 q.1)
  refine H (L1 ++ nE A :: L2) h2 (ag_tr gC1 fun f y k z => gg f y k (Or.inr fun q => by rcases q.1 with w | w <;> (subst w; exact absurd z (by simp [sC])))) frT ⟨?_, fun q hq => ?_, fun q hq => ?_, fun y hy => ?_, ?_, ⟨?_, ?_⟩, ?_⟩
  · unfold CG
    rw [frT 9 0 (by decide) (by decide) (by decide) (by decide) (by decide) (by decide) (by decide), nP']
    have e14 : ∀ k, ¬ k = 13 → (mkF A p m b s c x).1 10 k = A.1 10 k := fun k hk => by
      show mk1 A.1 (nE A) p m b s c x 10 k = _
      rw [mk1_10, if_neg hk]
    rw [e14 14 (by decide), e14 33 (by decide), e14 34 (by decide), e14 32 (by decide)]
    exact g1
  · rw [nP'] at hq
    have cp := g2 q hq
    have fam : ∀ f, f < 54 → ¬ f = 10 → (mkF A p m b s c x).1 f = A.1 f := fun f f1 f2 => mk1_fam f2 (Or.inl f1)
    unfold CPp PRp
    rw [frT 4 q (by decide) (by decide) (by decide) (by decide) (by decide) (by decide) (by decide), frT 40 0 (by decide) (by decide) (by decide) (by decide) (by decide) (by decide) (by decide), frT 27 q (by decide) (by decide) (by decide) (by decide) (by decide) (by decide) (by decide), frT 28 q (by decide) (by decide) (by decide) (by decide) (by decide) (by decide) (by decide), frT 29 q (by decide) (by decide) (by decide) (by decide) (by decide) (by decide) (by decide), frT 30 q (by decide) (by decide) (by decide) (by decide) (by decide) (by decide) (by decide), frT 31 q (by decide) (by decide) (by decide) (by decide) (by decide) (by decide) (by decide)]
    rw [fam 42 (by decide) (by decide), fam 43 (by decide) (by decide), fam 44 (by decide) (by decide), fam 45 (by decide) (by decide), fam 46 (by decide) (by decide), fam 47 (by decide) (by decide), fam 48 (by decide) (by decide), fam 49 (by decide) (by decide), fam 50 (by decide) (by decide), fam 51 (by decide) (by decide)]
    exact cp
  · rw [nP'] at hq
    exact CZ_co (g3 q hq) (frT 39 q (by decide) (by decide) (by decide) (by decide) (by decide) (by decide) (by decide)) (frT 8 q (by decide) (by decide) (by decide) (by decide) (by decide) (by decide) (by decide))
  · rw [nE'] at hy
    have r2 : h2 2 y = h1 2 y := rr 2 y (by simp) (by simp)
    rcases spl y hy with ho | rfl
    · have yn := ne y ho
      refine EV_co2 (g4 y ho) (by rw [r2, o2 y yn]) (by rw [rr 25 y (by simp) (by simp)]; funext k; exact fr 25 y k (by simp) (by simp) (fun q => yn q.2) (by simp) (by simp)) (by rw [rr 41 0 (by simp) (by simp)]; exact fr 41 0 y (by simp) (by simp) (by simp) (by simp) (fun q => yn q.2.2)) (frT 8 _ (by decide) (by decide) (by decide) (by decide) (by decide) (by decide) (by decide)) (frT 39 _ (by decide) (by decide) (by decide) (by decide) (by decide) (by decide) (by decide)) (fun f f1 f2 f3 => mO f y (by omega) ho) ?_ rfl rfl (fun _ => Iff.rfl) (fun _ pre post hp => ⟨post, hp, ?_⟩)
      · unfold shd
        rw [mO 61 y (by decide) ho]
        rfl
      · refine rp_sr ⟨nP', fun f f1 f2 => mk1_fam (by omega) (by omega)⟩ _ _ fun d hd => ?_
        have : ina d (nE A) := hdn (pa A y) d (by rw [show dn A (pa A y) = pre ++ y :: post from hp]; simp [hd])
        exact ⟨mO 55 d (by decide) this, mO 59 d (by decide) this⟩
    · have hw3 : hw (mkF A p m b s c x) (nE A) = 3 := mN.2.2.2.2.2.2
      refine ⟨⟨?_, ?_, ?_, ?_, ?_⟩, ⟨?_, ?_⟩, ⟨⟨?_, ?_, ?_⟩, ?_, ?_⟩, ?_, ?_, ?_⟩
      · rw [rr 41 0 (by simp) (by simp)]; exact w41
      · rw [r2, k2 0 (by decide) (by decide) (by decide) (by decide) (by decide) (by decide)]; exact nv.1
      · rw [r2, w1]; exact mN.1.symm
      · unfold KY; rw [r2]; exact kN
      · rw [r2, w6]; exact mN.2.2.2.2.2.1.symm
      · rw [r2, k2 7 (by decide) (by decide) (by decide) (by decide) (by decide) (by decide), hw3]; exact nv.2.1
      · rw [r2, k2 8 (by decide) (by decide) (by decide) (by decide) (by decide) (by decide), nv.2.2.1]
        unfold shd
        have e61 : (mkF A p m b s c x).1 61 (nE A) = 0 := by
          show mk1 A.1 (nE A) p m b s c x 61 (nE A) = 0
          rw [mk1_fam (by decide) (by decide)]; exact h61
        rw [e61, if_neg (by decide), if_neg (fun q => q.elim nw (by decide))]
      · rw [r2, k2 9 (by decide) (by decide) (by decide) (by decide) (by decide) (by decide), nv.2.2.2.1, hw3, if_neg (by decide)]
      · unfold prE
        rw [r2, k2 11 (by decide) (by decide) (by decide) (by decide) (by decide) (by decide), nv.2.2.2.2.1, hw3, if_neg (by decide)]; rfl
      · unfold prE
        rw [hw3, if_neg (by decide)]; trivial
      · unfold seE
        rw [r2, k2 13 (by decide) (by decide) (by decide) (by decide) (by decide) (by decide), nv.2.2.2.2.2.1, hw3, if_neg (fun q => q.elim (by decide) nT)]; rfl
      · unfold seE
        rw [hw3, if_neg (fun q => q.elim (by decide) nT)]; trivial
      · rw [r2, k2 15 (by decide) (by decide) (by decide) (by decide) (by decide) (by decide), nv.2.2.2.2.2.2.2.1]; exact Or.inl rfl
      · intro z
        rw [r2, k2 15 (by decide) (by decide) (by decide) (by decide) (by decide) (by decide), nv.2.2.2.2.2.2.2.1] at z
        exact absurd z (by decide)
      · rw [r2, k2 14 (by decide) (by decide) (by decide) (by decide) (by decide) (by decide), nv.2.2.2.2.2.2.1]; exact Or.inl rfl
  · have memL : ∀ y, y ∈ L1 ++ nE A :: L2 ↔ y ∈ od ∨ y = nE A := fun y => by
      rw [eL]; simp [or_assoc, or_comm, or_left_comm]
    refine ⟨?_, row, fun y => ?_, ?_, ?_, ?_⟩
    · rw [e31, nJ_s, g5.2.2.2.2.1, nE']
    · rw [memL, nE']
      constructor
      · rintro (q | q)
        · exact up1 y (odin y q)
        · rw [q]; exact up2
      · intro q
        rcases spl y q with w | w
        · exact Or.inl ((g5.2.2.1 y).mpr w)
        · exact Or.inr w
    · have base : od.Pairwise (bel (mkF A p m b s c x).1) := List.Pairwise.imp_of_mem (fun {u v} hu hv q => by rw [belO u v (odin u hu) (odin v hv)]; exact q) g5.2.2.2.1
      rw [eL] at base
      have pb := List.pairwise_append.mp base
      have i1 : ∀ y, y ∈ L1 → ina y (nE A) := fun y hy => odin y (by rw [eL]; simp [hy])
      have i2 : ∀ y, y ∈ L2 → ina y (nE A) := fun y hy => odin y (by rw [eL]; simp [hy])
      refine List.pairwise_append.mpr ⟨pb.1, List.pairwise_cons.mpr ⟨fun y hy => Or.inl (hL2 y hy), pb.2.1⟩, fun u hu v hv => ?_⟩
      rcases List.mem_cons.mp hv with rfl | hv
      · have q := hL1 u hu
        rcases klt_tot (a := (mkF A p m b s c x).1) (e := u) (f := nE A) with w | w | w
        · exact Or.inl w
        · exact Or.inr ⟨w, (i1 u hu).2⟩
        · exact absurd w q
      · exact pb.2.2 u hu v hv
    · rw [nE', ← g5.2.2.2.2.1, ← nJ_s, eL]
      congr 1
      simp; omega
    · rw [eL] at odl
      simp at odl ⊢; omega
  · exact CPs_co g6 fun f hf => frT f 0 (by omega) (by omega) (by omega) (by omega) (by omega) (by omega) (by omega)
  · exact CPs_co g6' fun f hf => frT f 1 (by omega) (by omega) (by omega) (by omega) (by omega) (by omega) (by omega)
  · obtain ⟨a1, a2, a3, a4, a5, a6⟩ := g7
    have fl : ∀ f y, ¬ (f = 2 ∧ y = nE A) → ¬ (f = 12 ∧ y = nE A) → ¬ (f = 25 ∧ y = nE A) → ¬ (f = 0 ∧ y = 0) → h2 f y (-1) = h f y (-1) := fun f y f1 f2 f3 f4 => by
      rw [gg f y (-1) (Or.inl rfl), fr f y (-1) f1 f2 f3 f4 (fun q => nn q.2.2.symm)]
    have t3 : ∀ s, f3 s h → f3 s h2 := fun s q => by
      unfold f3
      rw [fl 18 s (by simp) (by simp) (by simp) (by simp), fl 8 s (by simp) (by simp) (by simp) (by simp), fl 39 s (by simp) (by simp) (by simp) (by simp)]; exact q
    have tE : ∀ e, ¬ e = nE A → fE e h → fE e h2 := fun e he q => by
      unfold fE
      rw [fl 12 e (by simp) (fun w => he w.2) (by simp) (by simp), fl 2 e (fun w => he w.2) (by simp) (by simp) (by simp), fl 25 e (by simp) (by simp) (fun w => he w.2) (by simp)]; exact q
    have r14 : h2 2 (nE A) 14 = -1 := by
      rw [rr 2 (nE A) (by simp) (by simp), k2 14 (by decide) (by decide) (by decide) (by decide) (by decide) (by decide)]; exact nv.2.2.2.2.2.2.1
    refine ⟨fun e he hle => ?_, fun e he q => ?_, fun q hq hle => ?_, fun n hn' => ?_, fun i hi => ?_, ?_⟩
    · rw [nE'] at hle
      have h3 := hn
      have q := a1 e he (by grind)
      exact ⟨tE e (by grind) q.1, t3 _ q.2⟩
    · rw [nE'] at he
      rcases spl e he with w | w
      · rw [rr 2 e (by simp) (by simp), o2 e (ne e w)] at q
        exact t3 _ (a2 e w q)
      · rw [w]; exact t3 _ fe.2
    · rw [nP'] at hle
      have q := a3 q hq hle
      unfold fP
      rw [fl 14 _ (by simp) (by simp) (by simp) (by simp), fl 4 _ (by simp) (by simp) (by simp) (by simp), fl 27 _ (by simp) (by simp) (by simp) (by simp), fl 28 _ (by simp) (by simp) (by simp) (by simp), fl 29 _ (by simp) (by simp) (by simp) (by simp), fl 30 _ (by simp) (by simp) (by simp) (by simp), fl 31 _ (by simp) (by simp) (by simp) (by simp)]
      exact ⟨q.1, q.2.1, t3 _ q.2.2.1, q.2.2.2⟩
    · rw [frT 33 0 (by decide) (by decide) (by decide) (by decide) (by decide) (by decide) (by decide)]
      rcases a4 n hn' with q | q
      · refine Or.inl ⟨q.1, tE _ ?_ q.2⟩
        have h3 := hn
        unfold ina at hn'
        grind
      · exact Or.inr q
    · rw [frT 32 0 (by decide) (by decide) (by decide) (by decide) (by decide) (by decide) (by decide)]
      rcases a5 i hi with q | q
      · exact Or.inl ⟨q.1, t3 _ q.2⟩
      · exact Or.inr q
    · obtain ⟨N, eN, hN⟩ := nJ_exlt (N := 400) (by decide) hn.1 hn.2
      have ah : ahN (mkF A p m b s c x) h2 = ahN A h := by
        unfold ahN
        rw [nE', eN, ← nJ_s, show (nI (N + 1)).toNatClampNeg = N + 1 from Int32.toNatClampNeg_ofNat_of_lt (by omega), show (nI N).toNatClampNeg = N from Int32.toNatClampNeg_ofNat_of_lt (by omega), List.range_succ, List.filter_append]
        rw [eN] at r14
        have z1 : [N].filter (fun n => !decide (h2 2 (nI n) 14 = -1)) = [] := by simp [r14]
        rw [z1, List.append_nil]
        congr 1
        refine List.filter_congr fun n hn' => ?_
        have hn' := List.mem_range.mp hn'
        have hne : ¬ nI n = nE A := fun q => by rw [eN] at q; have := nJ_inj (by omega) (by omega) q; omega
        rw [rr 2 _ (by simp) (by simp), o2 _ hne]
      have po : poN h2 = poN h := by unfold poN; rw [frT 33 0 (by decide) (by decide) (by decide) (by decide) (by decide) (by decide) (by decide)]
      have so : soN h2 = soN h := by unfold soN; rw [frT 32 0 (by decide) (by decide) (by decide) (by decide) (by decide) (by decide) (by decide)]
      have c0 : h2 0 0 0 = h 0 0 0 + 1 + 1 := by rw [rr 0 0 (by simp) (by simp), w0, nV_0.1]
      have c1 : h2 0 0 1 = h 0 0 1 + 16 + 8 := by rw [rr 0 0 (by simp) (by simp), w0, nV_0.2]
      unfold RM at a6 ⊢
      rw [ah, po, so, c0, c1, nE', nP']
      obtain ⟨r1, r2, r3, r4⟩ := rl
      have nEi : (nE A + 1).toInt = (nE A).toInt + 1 := by
        rw [eN, ← nJ_s, nJ_toInt (by omega), nJ_toInt (by omega)]; omega
      have t0 : (h 0 0 0 + 1 + 1).toInt = (h 0 0 0).toInt + 2 := by
        rw [Int32.toInt_add, Int32.toInt_add, show (1 : Int32).toInt = 1 from rfl, Int.bmod_eq_of_le (n := (h 0 0 0).toInt + 1) (by omega) (by omega), Int.bmod_eq_of_le (by omega) (by omega)]; omega
      have t1 : (h 0 0 1 + 16 + 8).toInt = (h 0 0 1).toInt + 24 := by
        rw [Int32.toInt_add, Int32.toInt_add, show (16 : Int32).toInt = 16 from rfl, show (8 : Int32).toInt = 8 from rfl, Int.bmod_eq_of_le (n := (h 0 0 1).toInt + 16) (by omega) (by omega), Int.bmod_eq_of_le (by omega) (by omega)]; omega
      rw [t0, t1, nEi]
      omega
