/-! 83: the class: doEvent -/
def dsB (A : SY) (e : Int32) : SY := (sa (sa (sa A.1 60 e 1) 50 (pa A e) (A.1 50 (pa A e) + 1)) 62 e (wOf A e).2.2.2.1, ul (dn A) (pa A e) (dn A (pa A e) ++ [e]), ul (pr A) e (wOf A e).2.2.2.2.2, ul (se A) e (nums (nE A) (wOf A e).2.2.2.2.1.length), A.2.2.2.2)
theorem dsB_fam {A : SY} {e : Int32} {f : Nat} (h1 : ¬ f = 60) (h2 : ¬ f = 50) (h3 : ¬ f = 62) : (dsB A e).1 f = A.1 f := by
  unfold dsB
  show sa _ 62 e _ f = _
  rw [sa_fam h3, sa_fam h2, sa_fam h1]
theorem dsB_o {A : SY} {e y : Int32} {f : Nat} (hf : 54 ≤ f) (h : ¬ y = e) : (dsB A e).1 f y = A.1 f y := by
  unfold dsB
  show sa _ 62 e _ f y = _
  rw [sa_ne (fun q => h q.2), sa_ne (fun q => by omega), sa_ne (fun q => h q.2)]
theorem dsB_1 (A : SY) (e : Int32) : (dsB A e).1 = sa (sa (sa A.1 60 e 1) 50 (pa A e) (A.1 50 (pa A e) + 1)) 62 e (wOf A e).2.2.2.1 := rfl
theorem RC_dsB {A : SY} {e x : Int32} {od : List Int32} {h h' : HP} (hI : YV A) (R : RC A [] (Zst A) od h) (ine : ina e (nE A)) (h0 : hw A e = 0)
    (fr : ∀ f y, ¬ f = 0 → ¬ f = 1 → ¬ f = 2 → ¬ f = 4 → ¬ f = 8 → ¬ f = 18 → ¬ (21 ≤ f ∧ f ≤ 25) → ¬ f = 39 → h' f y = h f y) (fr2 : ∀ y, ¬ y = e → h' 2 y = h 2 y ∧ h' 25 y = h 25 y) (fr4 : ∀ y, ¬ y = pa A e → h' 4 y = h 4 y)
    (e2 : ∀ k, ¬ k = 7 → ¬ k = 9 → ¬ k = 11 → ¬ k = 12 → ¬ k = 13 → ¬ k = 14 → ¬ k = 15 → h' 2 e k = h 2 e k) (e4 : ∀ k, ¬ k = 9 → ¬ k = 10 → h' 4 (pa A e) k = h 4 (pa A e) k) (e9 : h' 4 (pa A e) 9 = h 4 (pa A e) 9 + 1) (e10 : h' 4 (pa A e) 10 = h 4 (pa A e) 10 + 1)
    (s39 : ∀ y, ¬ y = pa A e → ¬ y = 100 + e → h' 39 y = h 39 y ∧ h' 8 y = h 8 y) (cz : CZ (stF (wOf A e)) (pa A e) h') (k7 : h' 2 e 7 = 1) (k9 : h' 2 e 9 = (wOf A e).2.2.2.1) (k11 : h' 2 e 11 = nI (wOf A e).2.2.2.2.2.length) (k25 : LSq (h' 25 e) 0 (wOf A e).2.2.2.2.2)
    (k12 : h' 2 e 12 = nE A) (k13 : h' 2 e 13 = nI (wOf A e).2.2.2.2.1.length) (k15 : h' 2 e 15 = x) (hx : x = 0 ∨ x = 1) (kx : x = 1 → h' 2 e 14 = 100 + e ∧ CZ (zOf A e) (100 + e) h') (k14 : h' 2 e 14 = -1 ∨ h' 2 e 14 = 100 + e) (F : FR A h') : RC (dsB A e) [] (Zst (dsB A e)) od h' := by
  obtain ⟨g1, g2, g3, g4, g5, ⟨g6, g6'⟩, g7⟩ := id R
  have n4 := CO_4 g5
  have gg := ga hI ine
  have nP' : nP (dsB A e) = nP A := congrFun (dsB_fam (A := A) (e := e) (f := 10) (by decide) (by decide) (by decide)) 0
  have nE' : nE (dsB A e) = nE A := congrFun (dsB_fam (A := A) (e := e) (f := 10) (by decide) (by decide) (by decide)) 13
  have r10 : (dsB A e).1 10 = A.1 10 := dsB_fam (by decide) (by decide) (by decide)
  have sr : SR A.1 (dsB A e).1 := ⟨congrFun r10 0, fun f f1 f2 => dsB_fam (by omega) (by omega) (by omega)⟩
  have rpS : ∀ p l, rp (dsB A e).1 p l = rp A.1 p l := fun p l => rp_sr sr p l fun d _ => by rw [dsB_fam (f := 55) (by decide) (by decide) (by decide), dsB_fam (f := 59) (by decide) (by decide) (by decide)]; exact ⟨rfl, rfl⟩
  have dnP : dn (dsB A e) (pa A e) = dn A (pa A e) ++ [e] := ul_eq
  have dnO : ∀ q, ¬ q = pa A e → dn (dsB A e) q = dn A q := fun q hq => ul_ne hq
  have p100 : ina (pa A e) 100 := ⟨gg.2.1.1, Int32.lt_of_lt_of_le gg.2.1.2 (by decide)⟩
  refine ⟨?_, fun q hq => ?_, fun q hq => ?_, fun y hy => ?_, ?_, ⟨?_, ?_⟩, ?_⟩
  · unfold CG
    rw [fr 9 0 (by decide) (by decide) (by decide) (by decide) (by decide) (by decide) (by decide) (by decide), nP', r10]
    exact g1
  · rw [nP'] at hq
    obtain ⟨c1, c2, c3, c4, c5, c6⟩ := g2 q hq
    have rows : ∀ f, 27 ≤ f ∧ f ≤ 31 → h' f q = h f q := fun f hf => fr f q (by omega) (by omega) (by omega) (by omega) (by omega) (by omega) (by omega) (by omega)
    have k4 : ∀ k, ¬ k = 9 → ¬ k = 10 → h' 4 q k = h 4 q k := fun k q1 q2 => by
      by_cases z : q = pa A e
      · rw [z]; exact e4 k q1 q2
      · rw [fr4 q z]
    refine ⟨?_, ?_, ?_, ?_, ?_, ?_⟩
    · rw [fr 40 0 (by decide) (by decide) (by decide) (by decide) (by decide) (by decide) (by decide) (by decide)]; exact c1
    · rw [k4 0 (by decide) (by decide), dsB_fam (by decide) (by decide) (by decide)]; exact c2
    · unfold PRp
      rw [k4 3 (by decide) (by decide), k4 8 (by decide) (by decide), rows 27 (by decide), rows 28 (by decide), rows 29 (by decide), rows 30 (by decide), rows 31 (by decide)]
      rw [dsB_fam (f := 43) (by decide) (by decide) (by decide), dsB_fam (f := 44) (by decide) (by decide) (by decide), dsB_fam (f := 45) (by decide) (by decide) (by decide), dsB_fam (f := 46) (by decide) (by decide) (by decide), dsB_fam (f := 47) (by decide) (by decide) (by decide), dsB_fam (f := 48) (by decide) (by decide) (by decide), dsB_fam (f := 49) (by decide) (by decide) (by decide)]
      exact c3
    · by_cases z : q = pa A e
      · subst z
        rw [e9, c4]
        rw [dsB_1, sa_fam (by decide), sa_eq]
      · rw [fr4 q z, c4]
        rw [dsB_1, sa_fam (by decide), sa_ne (fun w => z w.2), sa_fam (by decide)]
    · by_cases z : q = pa A e
      · subst z
        rw [e10, c5, dnP, List.length_append, List.length_singleton, nJ_s]
      · rw [fr4 q z, c5, dnO q z]
    · rw [k4 11 (by decide) (by decide), dsB_fam (by decide) (by decide) (by decide)]; exact c6
  · rw [nP'] at hq
    have q12 : ina q 12 := ⟨hq.1, Int32.lt_of_lt_of_le hq.2 hI.1.1.1.2⟩
    by_cases z : q = pa A e
    · have : Zst (dsB A e) q = stF (wOf A e) := by
        unfold Zst
        rw [rpS, z, dnP, rp_snoc]
        rfl
      rw [this, z]; exact cz
    · have : Zst (dsB A e) q = Zst A q := by
        unfold Zst
        rw [rpS, dnO q z]
      rw [this]
      have s := s39 q z ((ar_20 (q := q) ine n4).1 q12).1
      exact CZ_co (g3 q hq) s.1 s.2
  · rw [nE'] at hy
    by_cases ye : y = e
    · subst ye
      obtain ⟨⟨v1, v2, v3, v4, v5⟩, v6, v7, v8⟩ := g4 y hy
      have hw1 : hw (dsB A y) y = 1 := by
        show (dsB A y).1 60 y = 1
        rw [dsB_1, sa_fam (by decide), sa_fam (by decide), sa_eq]
      have pa' : pa (dsB A y) y = pa A y := congrFun (dsB_fam (A := A) (e := y) (f := 54) (by decide) (by decide) (by decide)) y
      have pr' : pr (dsB A y) y = (wOf A y).2.2.2.2.2 := ul_eq
      have se' : se (dsB A y) y = nums (nE A) (wOf A y).2.2.2.2.1.length := ul_eq
      refine ⟨⟨?_, ?_, ?_, ?_, ?_⟩, ⟨?_, ?_⟩, ⟨⟨?_, ?_, ?_⟩, ?_, ?_⟩, ?_, ?_, k14⟩
      · rw [fr 41 0 (by decide) (by decide) (by decide) (by decide) (by decide) (by decide) (by decide) (by decide)]; exact v1
      · rw [e2 0 (by decide) (by decide) (by decide) (by decide) (by decide) (by decide) (by decide)]; exact v2
      · rw [e2 1 (by decide) (by decide) (by decide) (by decide) (by decide) (by decide) (by decide), pa']; exact v3
      · unfold KY
        rw [e2 2 (by decide) (by decide) (by decide) (by decide) (by decide) (by decide) (by decide), e2 3 (by decide) (by decide) (by decide) (by decide) (by decide) (by decide) (by decide), e2 4 (by decide) (by decide) (by decide) (by decide) (by decide) (by decide) (by decide), e2 5 (by decide) (by decide) (by decide) (by decide) (by decide) (by decide) (by decide)]
        rw [dsB_fam (f := 55) (by decide) (by decide) (by decide), dsB_fam (f := 56) (by decide) (by decide) (by decide), dsB_fam (f := 57) (by decide) (by decide) (by decide), dsB_fam (f := 58) (by decide) (by decide) (by decide)]
        exact v4
      · rw [e2 6 (by decide) (by decide) (by decide) (by decide) (by decide) (by decide) (by decide), dsB_fam (f := 59) (by decide) (by decide) (by decide)]; exact v5
      · rw [k7, hw1]
      · rw [e2 8 (by decide) (by decide) (by decide) (by decide) (by decide) (by decide) (by decide), v6.2]
        unfold shd
        rw [dsB_fam (f := 61) (by decide) (by decide) (by decide)]
        rfl
      · rw [k9, hw1, if_pos rfl]
        rw [dsB_1, sa_eq]
      · unfold prE; rw [hw1, if_pos rfl, pr']; exact k11
      · unfold prE; rw [hw1, if_pos rfl, pr']; exact k25
      · unfold seE; rw [hw1, if_pos (Or.inl rfl), se', nums_len]; exact k13
      · unfold seE; rw [hw1, if_pos (Or.inl rfl), se', k12]; exact FS_nums _ _
      · rw [k15]; exact hx
      · intro z
        rw [k15] at z
        refine ⟨hw1, (kx z).1, fun pre post hp => ?_⟩
        rw [pa'] at hp ⊢
        rw [dnP] at hp
        rw [rpS]
        rcases snoc_split hp with ⟨_, _, q⟩ | ⟨post', _, q⟩
        · rw [q]; exact (kx z).2
        · have := (hI.2.1.1 (pa A y) y (by rw [q]; simp)).2.1
          rw [h0] at this; exact absurd this (by decide)
    · have r := fr2 y ye
      have ny := (ar_20 (q := y) ine n4).2.1 ye
      have np := (ar_18 hy n4 p100).2
      have s := s39 (100 + y) np ny
      refine EV_co2 (g4 y hy) r.1 r.2 (by rw [fr 41 0 (by decide) (by decide) (by decide) (by decide) (by decide) (by decide) (by decide) (by decide)]) s.2 s.1 (fun f f1 _ _ => dsB_o f1 ye) ?_ (ul_ne ye) (ul_ne ye) (fun _ => Iff.rfl) (fun hw1 pre post hp => ?_)
      · unfold shd
        rw [dsB_fam (f := 61) (by decide) (by decide) (by decide)]
        rfl
      · rw [rpS]
        by_cases z : pa A y = pa A e
        · rw [z] at hp ⊢
          rw [dnP] at hp
          rcases snoc_split hp with ⟨_, q, _⟩ | ⟨post', _, q⟩
          · exact absurd q ye
          · exact ⟨post', q, rfl⟩
        · rw [dnO _ z] at hp
          exact ⟨post, hp, rfl⟩
  · unfold CO
    rw [fr 3 0 (by decide) (by decide) (by decide) (by decide) (by decide) (by decide) (by decide) (by decide), fr 26 0 (by decide) (by decide) (by decide) (by decide) (by decide) (by decide) (by decide) (by decide), nE', bel_co (a := A.1) (b := (dsB A e).1) fun f f1 f2 => dsB_fam (by omega) (by omega) (by omega)]
    exact g5
  · exact CPs_co g6 fun f hf => fr f 0 (by omega) (by omega) (by omega) (by omega) (by omega) (by omega) (by omega) (by omega)
  · exact CPs_co g6' fun f hf => fr f 1 (by omega) (by omega) (by omega) (by omega) (by omega) (by omega) (by omega) (by omega)
  · exact FR_co F (fun _ _ => rfl) (fun _ _ => rfl) rfl rfl rfl n4 nE' nP'
