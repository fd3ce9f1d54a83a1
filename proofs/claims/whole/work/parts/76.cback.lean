/-! 76: the class: meet, goBack -/
theorem RC_one {A A' : SY} {T T' : List Int32} {Z : Int32 → ZT} {od : List Int32} {h h' : HP} {e : Int32} (R : RC A T Z od h) (s : SA A A') (x : A'.2 = A.2) (a51 : A'.1 51 = A.1 51) (a33 : A'.1 10 33 = A.1 10 33)
    (oth : ∀ y, ¬ y = e → A'.1 60 y = A.1 60 y ∧ A'.1 61 y = A.1 61 y) (t : ∀ y, ¬ y = e → (y ∈ T' ↔ y ∈ T)) (fr : ∀ f x, ¬ f = 2 → ¬ f = 9 → h' f x = h f x) (fr2 : ∀ x, ¬ x = e → h' 2 x = h 2 x) (e14 : h' 2 e 14 = h 2 e 14) (em : ∀ f x, h' f x (-1) = h f x (-1))
    (k9 : ∀ k, ¬ k = 12 → h' 9 0 k = h 9 0 k) (m12 : h' 9 0 12 = A'.1 10 34) (ev : ina e (nE A) → EV A' T' e h') : RC A' T' Z od h' := by
  obtain ⟨g1, g2, g3, g4, g5, ⟨g6, g6'⟩, g7⟩ := id R
  have edn : dn A' = dn A := by show A'.2.1 = _; rw [x]
  have epr : pr A' = pr A := by show A'.2.2.1 = _; rw [x]
  have ese : se A' = se A := by show A'.2.2.2.1 = _; rw [x]
  have ewy : wy A' = wy A := by show A'.2.2.2.2.1 = _; rw [x]
  have ecm : cm A' = cm A := by show A'.2.2.2.2.2 = _; rw [x]
  refine ⟨?_, fun p hp => ?_, fun p hp => ?_, fun y hy => ?_, CO_SA g5 s (fr 3 0 (by decide) (by decide)) (fr 26 0 (by decide) (by decide)), ⟨?_, ?_⟩, ?_⟩
  · unfold CG
    rw [k9 1 (by decide), k9 10 (by decide), k9 11 (by decide), m12, k9 13 (by decide), k9 14 (by decide), s.2.1, s.2.2.2.1, s.2.2.2.2, a33]
    exact ⟨g1.1, g1.2.1, g1.2.2.1, rfl, g1.2.2.2.2⟩
  · rw [s.2.1] at hp
    have c := g2 p hp
    have e4 : h' 4 p = h 4 p := fr 4 p (by decide) (by decide)
    exact CPp_SA c s (by rw [fr 40 0 (by decide) (by decide)]) (fun k _ _ _ => by rw [e4]) (fun f f1 f2 => fr f p (by omega) (by omega)) (by rw [e4, s.1 50 (by decide) (by decide) (by decide) (by decide)]; exact c.2.2.2.1) (by rw [e4, edn]; exact c.2.2.2.2.1) (by rw [e4, a51]; exact c.2.2.2.2.2)
  · rw [s.2.1] at hp
    exact CZ_co (g3 p hp) (fr 39 p (by decide) (by decide)) (fr 8 p (by decide) (by decide))
  · rw [s.2.2.1] at hy
    by_cases ye : y = e
    · subst ye; exact ev hy
    · refine EV_co (g4 y hy) (fr2 y ye) (fr 25 y (by decide) (by decide)) (by rw [fr 41 0 (by decide) (by decide)]) (fr 8 _ (by decide) (by decide)) (fr 39 _ (by decide) (by decide)) (fun f f1 f2 f3 => ?_) ?_ (by rw [epr]) (by rw [ese]) (fun _ => t y ye) (fun _ pre post hp => ⟨post, by rw [← edn]; exact hp⟩) (fun pre => SA_rp s _ _)
      · by_cases z : f = 60
        · subst z; exact (oth y ye).1
        · rw [s.1 f (by omega) (by omega) z f3]
      · unfold shd; rw [(oth y ye).2, ewy]
  · rw [ewy]; exact CPs_co g6 fun f hf => fr f 0 (by omega) (by omega)
  · rw [ecm]; exact CPs_co g6' fun f hf => fr f 1 (by omega) (by omega)
  · refine FR_co g7 em (fun y hy => ?_) (fr 33 0 (by decide) (by decide)) (fr 32 0 (by decide) (by decide)) (fr 0 0 (by decide) (by decide)) (CO_4 g5) s.2.2.1 s.2.1
    by_cases ye : y = e
    · subst ye; exact e14
    · rw [fr2 y ye]
theorem EV_not1 {A A' : SY} {T : List Int32} {e w v : Int32} {h h' : HP} (E : EV A T e h) (s : SA A A') (x : A'.2 = A.2) (h1 : ¬ hw A e = 1) (w1 : ¬ w = 1) (ew : hw A' e = w) (ev : shd A' e = v)
    (r2 : ∀ k, ¬ k = 7 → ¬ k = 8 → h' 2 e k = h 2 e k) (r7 : h' 2 e 7 = w) (r8 : h' 2 e 8 = v) (r25 : h' 25 e = h 25 e) (r41 : h' 41 0 e = h 41 0 e) : EV A' T e h' := by
  obtain ⟨e1, -, e3, e4⟩ := E
  have epr : pr A' = pr A := by show A'.2.2.1 = _; rw [x]
  have ese : se A' = se A := by show A'.2.2.2.1 = _; rw [x]
  refine ⟨?_, ⟨by rw [r7, ew], by rw [r8, ev]⟩, ?_, ?_⟩
  · unfold EVa KY
    rw [r41, r2 0 (by decide) (by decide), r2 1 (by decide) (by decide), r2 2 (by decide) (by decide), r2 3 (by decide) (by decide), r2 4 (by decide) (by decide), r2 5 (by decide) (by decide), r2 6 (by decide) (by decide)]
    rw [pa, s.1 54 (by decide) (by decide) (by decide) (by decide), s.1 55 (by decide) (by decide) (by decide) (by decide), s.1 56 (by decide) (by decide) (by decide) (by decide), s.1 57 (by decide) (by decide) (by decide) (by decide), s.1 58 (by decide) (by decide) (by decide) (by decide), s.1 59 (by decide) (by decide) (by decide) (by decide)]
    exact e1
  · unfold EVc prE seE at *
    rw [r2 9 (by decide) (by decide), r2 11 (by decide) (by decide), r2 12 (by decide) (by decide), r2 13 (by decide) (by decide), r25, ew, ese]
    simp only [w1, h1, if_false, false_or] at e3 ⊢
    exact e3
  · unfold EVd
    rw [r2 14 (by decide) (by decide), r2 15 (by decide) (by decide)]
    exact ⟨e4.1, fun z => absurd (e4.2.1 z).1 h1, e4.2.2⟩
theorem SA_60 (A : SY) (e v : Int32) : SA A (sa A.1 60 e v, A.2) := ⟨fun f h1 h2 h3 h4 => sa_fam h3, by simp [nP, sa], by simp [nE, sa], by simp [sa], by simp [sa]⟩
theorem RC_h0 {A : SY} {T : List Int32} {Z : Int32 → ZT} {od : List Int32} {h : HP} {e : Int32} (R : RC A T Z od h) (h1 : ¬ hw A e = 1) : RC (sa A.1 60 e 0, A.2) T Z od (up h 2 e 7 0) := by
  have s := SA_60 A e 0
  refine RC_one (e := e) R s rfl (by show sa A.1 60 e 0 51 = _; exact sa_fam (by decide)) (by simp [sa]) (fun y ye => ⟨by show sa A.1 60 e 0 60 y = _; exact sa_ne fun q => ye q.2, by show sa A.1 60 e 0 61 y = _; exact sa_ne (by simp)⟩) (fun _ _ => Iff.rfl) (fun f x f1 f2 => by rw [upfam f1]) (fun x hx => by funext k; exact up_n fun q => hx q.2.1) (up_n (by simp)) (fun f x => up_n fun q => absurd q.2.2 (by decide)) (fun k _ => by rw [upfam (by decide)]) ?_ fun he => ?_
  · rw [upfam (by decide), R.1.2.2.2.1]; simp [sa]
  · have E := RC_e R he
    refine EV_not1 (w := 0) (v := shd A e) E s rfl h1 (by decide) sa_eq ?_ (fun k k7 k8 => up_n fun q => k7 q.2.2) up_at ?_ (by rw [upfam (by decide)]) (by rw [upfam (by decide)])
    · unfold shd; simp [sa]
    · rw [up_n (by simp)]; exact E.2.1.2
theorem SA_mt (A : SY) (e : Int32) : SA A (mtF A e) := by
  refine ⟨fun f h1 h2 h3 h4 => ?_, by simp [nP, mtF, sa], by simp [nE, mtF, sa], by simp [mtF, sa], by simp [mtF, sa]⟩
  show sa (sa (sa A.1 60 e 4) 61 e 0) 10 34 (A.1 10 34 + 1) f = _
  rw [sa_fam h1, sa_fam h4, sa_fam h3]
theorem s_meetC (A : SY) (T : List Int32) (Z : Int32 → ZT) (od : List Int32) (e : Int32) (h : HP) (Q : Option AV → HP → Prop) (R : RC A T Z od h) (he : ina e (nE A)) (h1 : ¬ hw A e = 1) (nw : ¬ (e, true) ∈ wy A) (H : ∀ h', ag sC h h' → RC (mtF A e) T Z od h' → Q none h') : WPm 74 [(9, 0), (2, e)] h Q := by
  have en := ina_n1 he
  have E := RC_e R he
  have s := SA_mt A e
  refine b74_0 _ h Q ⟨en, en, H _ (ag_up (ag_up (ag_up ag_rf rfl) rfl) rfl) ?_⟩
  refine RC_one (e := e) R s rfl (by show sa (sa (sa A.1 60 e 4) 61 e 0) 10 34 (A.1 10 34 + 1) 51 = _; rw [sa_fam (by decide), sa_fam (by decide), sa_fam (by decide)]) (by simp [mtF, sa]) (fun y ye => ⟨by simp [mtF, sa, ye], by simp [mtF, sa, ye]⟩) (fun _ _ => Iff.rfl) (fun f x f1 f2 => by rw [upfam f2, upfam f1, upfam f1]) (fun x hx => ?_) ?_ (fun f x => ?_) (fun k hk => ?_) ?_ fun _ => ?_
  · funext k
    rw [upfam (by decide), up_n (fun q => hx q.2.1), up_n (fun q => hx q.2.1)]
  · rw [upfam (by decide), up_n (by simp), up_n (by simp)]
  · rw [up_n (fun q => absurd q.2.2 (by decide)), up_n (fun q => absurd q.2.2 (by decide)), up_n (fun q => absurd q.2.2 (by decide))]
  · rw [up_n (fun q => hk q.2.2), upfam (by decide), upfam (by decide)]
  · rw [up_at, R.1.2.2.2.1]
    simp [mtF, sa]
  · refine EV_not1 (w := 4) (v := 0) E s rfl h1 (by decide) (by simp [hw, mtF, sa]) ?_ (fun k k7 k8 => ?_) ?_ ?_ ?_ ?_
    · unfold shd
      rw [show (mtF A e).1 61 e = 0 by simp [mtF, sa], if_neg (by decide), if_neg (fun q => q.elim nw (by decide))]
    · rw [upfam (by decide), up_n (fun q => k8 q.2.2), up_n (fun q => k7 q.2.2)]
    · rw [upfam (by decide), up_n (by simp), up_at]
    · rw [upfam (by decide), up_at]
    · rw [upfam (by decide), upfam (by decide), upfam (by decide)]
    · rw [upfam (by decide), upfam (by decide), upfam (by decide)]
theorem SA_tk (A : SY) (p : Int32) (k t : List Int32) : SA A (tkB A p k t) := by
  refine ⟨fun f h1 h2 h3 h4 => ?_, by simp [nP, tkB], by simp [nE, tkB], by simp [tkB], by simp [tkB]⟩
  funext j
  simp [tkB, h2, h3]
/-- one event is taken back in the class's heap -/
theorem RC_undo {A : SY} {T : List Int32} {Z : Int32 → ZT} {od : List Int32} {h : HP} {x p : Int32} {l : List Int32} (R : RC A T Z od h) (hx : ina x (nE A)) (hp : ina p (nP A)) (x1 : hw A x = 1) (xp : pa A x = p) (hd : dn A p = l ++ [x]) (nl : ¬ x ∈ l) :
    RC (tkB A p l [x]) (x :: T) Z od (up (up (up (up (up (up h 2 x 7 0) 2 x 9 0) 2 x 11 0) 2 x 15 0) 4 p 10 (h 4 p 10 - 1)) 4 p 11 (h 4 p 11 + 1)) := by
  obtain ⟨g1, g2, g3, g4, g5, ⟨g6, g6'⟩, g7⟩ := id R
  have s := SA_tk A p l [x]
  have fr : ∀ f y, ¬ f = 2 → ¬ f = 4 → (up (up (up (up (up (up h 2 x 7 0) 2 x 9 0) 2 x 11 0) 2 x 15 0) 4 p 10 (h 4 p 10 - 1)) 4 p 11 (h 4 p 11 + 1)) f y = h f y := fun f y f2 f4 => by
    rw [upfam f4, upfam f4, upfam f2, upfam f2, upfam f2, upfam f2]
  have fr2 : ∀ y k, ¬ (y = x ∧ (k = 7 ∨ k = 9 ∨ k = 11 ∨ k = 15)) → (up (up (up (up (up (up h 2 x 7 0) 2 x 9 0) 2 x 11 0) 2 x 15 0) 4 p 10 (h 4 p 10 - 1)) 4 p 11 (h 4 p 11 + 1)) 2 y k = h 2 y k := fun y k n => by
    rw [upfam (by decide), upfam (by decide), up_n (fun q => n ⟨q.2.1, Or.inr (Or.inr (Or.inr q.2.2))⟩), up_n (fun q => n ⟨q.2.1, Or.inr (Or.inr (Or.inl q.2.2))⟩), up_n (fun q => n ⟨q.2.1, Or.inr (Or.inl q.2.2)⟩), up_n (fun q => n ⟨q.2.1, Or.inl q.2.2⟩)]
  have fr4 : ∀ q k, ¬ (q = p ∧ (k = 10 ∨ k = 11)) → (up (up (up (up (up (up h 2 x 7 0) 2 x 9 0) 2 x 11 0) 2 x 15 0) 4 p 10 (h 4 p 10 - 1)) 4 p 11 (h 4 p 11 + 1)) 4 q k = h 4 q k := fun q k n => by
    rw [up_n (fun z => n ⟨z.2.1, Or.inr z.2.2⟩), up_n (fun z => n ⟨z.2.1, Or.inl z.2.2⟩), upfam (by decide), upfam (by decide), upfam (by decide), upfam (by decide)]
  have w7 : (up (up (up (up (up (up h 2 x 7 0) 2 x 9 0) 2 x 11 0) 2 x 15 0) 4 p 10 (h 4 p 10 - 1)) 4 p 11 (h 4 p 11 + 1)) 2 x 7 = 0 := by
    rw [upfam (by decide), upfam (by decide), up_n (by simp), up_n (by simp), up_n (by simp), up_at]
  have w9 : (up (up (up (up (up (up h 2 x 7 0) 2 x 9 0) 2 x 11 0) 2 x 15 0) 4 p 10 (h 4 p 10 - 1)) 4 p 11 (h 4 p 11 + 1)) 2 x 9 = 0 := by
    rw [upfam (by decide), upfam (by decide), up_n (by simp), up_n (by simp), up_at]
  have w11 : (up (up (up (up (up (up h 2 x 7 0) 2 x 9 0) 2 x 11 0) 2 x 15 0) 4 p 10 (h 4 p 10 - 1)) 4 p 11 (h 4 p 11 + 1)) 2 x 11 = 0 := by
    rw [upfam (by decide), upfam (by decide), up_n (by simp), up_at]
  have w15 : (up (up (up (up (up (up h 2 x 7 0) 2 x 9 0) 2 x 11 0) 2 x 15 0) 4 p 10 (h 4 p 10 - 1)) 4 p 11 (h 4 p 11 + 1)) 2 x 15 = 0 := by
    rw [upfam (by decide), upfam (by decide), up_at]
  have p10 : (up (up (up (up (up (up h 2 x 7 0) 2 x 9 0) 2 x 11 0) 2 x 15 0) 4 p 10 (h 4 p 10 - 1)) 4 p 11 (h 4 p 11 + 1)) 4 p 10 = h 4 p 10 - 1 := by
    rw [up_n (by simp), up_at]
  have p11 : (up (up (up (up (up (up h 2 x 7 0) 2 x 9 0) 2 x 11 0) 2 x 15 0) 4 p 10 (h 4 p 10 - 1)) 4 p 11 (h 4 p 11 + 1)) 4 p 11 = h 4 p 11 + 1 := up_at
  generalize (up (up (up (up (up (up h 2 x 7 0) 2 x 9 0) 2 x 11 0) 2 x 15 0) 4 p 10 (h 4 p 10 - 1)) 4 p 11 (h 4 p 11 + 1)) = h' at fr fr2 fr4 w7 w9 w11 w15 p10 p11
  have em : ∀ f y, h' f y (-1) = h f y (-1) := fun f y => by
    by_cases f2 : f = 2
    · subst f2; exact fr2 y (-1) (fun q => by rcases q.2 with z | z | z | z <;> exact absurd z (by decide))
    · by_cases f4 : f = 4
      · subst f4; exact fr4 y (-1) (fun q => by rcases q.2 with z | z <;> exact absurd z (by decide))
      · rw [fr f y f2 f4]
  rw [tkB1]
  rw [tkB1] at s
  refine ⟨?_, fun q hq => ?_, fun q hq => ?_, fun y hy => ?_, CO_SA g5 s (fr 3 0 (by decide) (by decide)) (fr 26 0 (by decide) (by decide)), ⟨CPs_co g6 fun f hf => fr f 0 (by omega) (by omega), CPs_co g6' fun f hf => fr f 1 (by omega) (by omega)⟩, ?_⟩
  · unfold CG
    rw [fr 9 0 (by decide) (by decide)]
    unfold CG at g1
    simpa [nP, sa] using g1
  · rw [s.2.1] at hq
    have c := g2 q hq
    refine CPp_SA c s (by rw [fr 40 0 (by decide) (by decide)]) (fun k k1 k2 k3 => fr4 q k fun z => z.2.elim k2 k3) (fun f f1 f2 => fr f q (by omega) (by omega)) (by rw [fr4 q 9 (by simp), s.1 50 (by decide) (by decide) (by decide) (by decide)]; exact c.2.2.2.1) ?_ ?_
    · by_cases z : q = p
      · subst z
        show _ = nI (ul (dn A) q l q).length
        rw [p10, c.2.2.2.2.1, hd, ul_eq, List.length_append]
        exact nIm1 _
      · show _ = nI (ul (dn A) p l q).length
        rw [fr4 q 10 (fun y => z y.1), ul_ne z]; exact c.2.2.2.2.1
    · by_cases z : q = p
      · subst z
        rw [p11, c.2.2.2.2.2]
        show _ = sa (sa A.1 60 x 0) 51 q (A.1 51 q + 1) 51 q
        rw [sa_eq]
      · rw [fr4 q 11 (fun y => z y.1), c.2.2.2.2.2]
        show _ = sa (sa A.1 60 x 0) 51 p (A.1 51 p + 1) 51 q
        rw [sa_ne (fun y => z y.2), sa_ne (by simp)]
  · rw [s.2.1] at hq
    exact CZ_co (g3 q hq) (fr 39 q (by decide) (by decide)) (fr 8 q (by decide) (by decide))
  · rw [s.2.2.1] at hy
    have dnq : ∀ q, dn (sa (sa A.1 60 x 0) 51 p (A.1 51 p + 1), ul (dn A) p l, A.2.2) q = ul (dn A) p l q := fun q => rfl
    by_cases yx : y = x
    · subst yx
      obtain ⟨e1, e2, e3, e4⟩ := g4 y hy
      refine ⟨?_, ⟨?_, ?_⟩, ?_, ?_⟩
      · unfold EVa KY
        rw [fr 41 0 (by decide) (by decide), fr2 y 0 (by simp), fr2 y 1 (by simp), fr2 y 2 (by simp), fr2 y 3 (by simp), fr2 y 4 (by simp), fr2 y 5 (by simp), fr2 y 6 (by simp)]
        rw [pa, s.1 54 (by decide) (by decide) (by decide) (by decide), s.1 55 (by decide) (by decide) (by decide) (by decide), s.1 56 (by decide) (by decide) (by decide) (by decide), s.1 57 (by decide) (by decide) (by decide) (by decide), s.1 58 (by decide) (by decide) (by decide) (by decide), s.1 59 (by decide) (by decide) (by decide) (by decide)]
        exact e1
      · rw [w7]; simp [hw, sa]
      · rw [fr2 y 8 (by simp), e2.2]
        unfold shd
        simp [sa, wy]
      · have hw0 : hw (sa (sa A.1 60 y 0) 51 p (A.1 51 p + 1), ul (dn A) p l, A.2.2) y = 0 := by simp [hw, sa]
        unfold EVc prE seE at *
        rw [w9, w11, fr2 y 12 (by simp), fr2 y 13 (by simp), fr 25 y (by decide) (by decide), hw0]
        simp only [x1, true_or, if_true] at e3
        rw [if_neg (by decide), if_neg (by decide), if_pos (Or.inr (by simp))]
        exact ⟨⟨rfl, rfl, trivial⟩, e3.2⟩
      · unfold EVd
        rw [w15, fr2 y 14 (by simp)]
        exact ⟨Or.inl rfl, fun z => absurd z (by decide), e4.2.2⟩
    · refine EV_co (g4 y hy) (by funext k; exact fr2 y k fun q => yx q.1) (fr 25 y (by decide) (by decide)) (by rw [fr 41 0 (by decide) (by decide)]) (fr 8 _ (by decide) (by decide)) (fr 39 _ (by decide) (by decide)) (fun f f1 f2 f3 => ?_) ?_ rfl rfl (fun _ => ?_) (fun _ pre post hp' => ?_) (fun pre => SA_rp s _ _)
      · show sa (sa A.1 60 x 0) 51 p (A.1 51 p + 1) f y = _
        rw [sa_ne (fun q => by omega), sa_ne (fun q => yx q.2)]
      · unfold shd; simp [sa, wy]
      · simp [yx]
      · rw [dnq] at hp'
        by_cases z : pa A y = p
        · rw [z, ul_eq] at hp'
          rw [z, hd, hp']
          exact ⟨post ++ [x], by simp⟩
        · rw [ul_ne z] at hp'
          exact ⟨post, hp'⟩
  · exact FR_co g7 em (fun y hy => fr2 y 14 (by simp)) (fr 33 0 (by decide) (by decide)) (fr 32 0 (by decide) (by decide)) (fr 0 0 (by decide) (by decide)) (CO_4 g5) s.2.2.1 s.2.1
theorem tk_dq {A : SY} {p : Int32} {k t : List Int32} {q x : Int32} (nx : ¬ x ∈ t) : dq (tkB A p k t) q x = dq A q x := by
  unfold dq
  congr 1
  simp [hw, pa, tkB, nx]
theorem od_nd {A : SY} {od : List Int32} {h : HP} (c : CO A od h) : od.Nodup := pw_nd c.2.2.2.1
theorem wDC {s : Int32} {h h' : HP} (g : agw (wD 0 s) h h') : ag sC h h' := fun f x k z => g f x k (Or.inr fun q => by
  rcases q with q | q | q
  · rw [q.1] at z; exact absurd z (by simp [sC])
  · have h1 := q.1
    have h2 := q.2.1
    have : sC f k = true := by
      simp only [sC, Bool.or_eq_true, Bool.and_eq_true]
      exact Or.inr ⟨Nat.ble_eq_true_of_le (by omega), Nat.ble_eq_true_of_le (by omega)⟩
    rw [z] at this; cases this
  · rcases q.1 with q | q <;> (rw [q] at z; exact absurd z (by simp [sC])))
/-- a frame that leaves all but the scratch and one state -/
theorem RC_wD {A : SY} {T : List Int32} {Z Z' : Int32 → ZT} {od : List Int32} {h h' : HP} {s : Int32} (R : RC A T Z od h) (g : agw (wD 0 s) h h') (hs : ina s 100) (hn : nE A ≤ 400) (hz : ∀ p, ina p (nP A) → ¬ p = s → Z' p = Z p) (hzs : ina s (nP A) → CZ (Z' s) s h') : RC A T Z' od h' := by
  obtain ⟨g1, g2, g3, g4, g5, ⟨g6, g6'⟩, g7⟩ := R
  have fr : ∀ f x, ¬ f = 1 → ¬ (21 ≤ f ∧ f ≤ 24) → ¬ f = 39 → ¬ f = 8 → h' f x = h f x := fun f x f1 f2 f3 f4 => agw_row g fun q => by unfold wD at q; omega
  have frs : ∀ f x, ¬ f = 1 → ¬ (21 ≤ f ∧ f ≤ 24) → ¬ x = s → h' f x = h f x := fun f x f1 f2 f3 => agw_row g fun q => by
    rcases q with q | q | q
    · exact f1 q.1
    · exact f2 ⟨q.1, q.2.1⟩
    · exact f3 q.2
  refine ⟨?_, fun p hp => ?_, fun p hp => ?_, fun y hy => ?_, ?_, ⟨CPs_co g6 fun f hf => fr f 0 (by omega) (by omega) (by omega) (by omega), CPs_co g6' fun f hf => fr f 1 (by omega) (by omega) (by omega) (by omega)⟩, ?_⟩
  · unfold CG; rw [fr 9 0 (by decide) (by decide) (by decide) (by decide)]; exact g1
  · have c := g2 p hp
    have e4 : h' 4 p = h 4 p := fr 4 p (by decide) (by decide) (by decide) (by decide)
    unfold CPp
    rw [e4, fr 40 0 (by decide) (by decide) (by decide) (by decide)]
    exact ⟨c.1, c.2.1, PRp_co c.2.2.1 fun f hf => fr f p (by omega) (by omega) (by omega) (by omega), c.2.2.2⟩
  · by_cases z : p = s
    · subst z; exact hzs hp
    · rw [hz p hp z]
      exact CZ_co (g3 p hp) (frs 39 p (by decide) (by decide) z) (frs 8 p (by decide) (by decide) z)
  · have n := ar_18 hy hn hs
    exact EV_co (g4 y hy) (fr 2 y (by decide) (by decide) (by decide) (by decide)) (fr 25 y (by decide) (by decide) (by decide) (by decide)) (by rw [fr 41 0 (by decide) (by decide) (by decide) (by decide)]) (frs 8 _ (by decide) (by decide) n.2) (frs 39 _ (by decide) (by decide) n.2) (fun _ _ _ _ => rfl) rfl rfl rfl (fun _ => Iff.rfl) (fun _ pre post hp => ⟨post, hp⟩) (fun _ => rfl)
  · unfold CO; rw [fr 3 0 (by decide) (by decide) (by decide) (by decide), fr 26 0 (by decide) (by decide) (by decide) (by decide)]; exact g5
  · exact FR_co g7 (fun f x => g f x (-1) (Or.inl rfl)) (fun y hy => by rw [fr 2 y (by decide) (by decide) (by decide) (by decide)]) (fr 33 0 (by decide) (by decide) (by decide) (by decide)) (fr 32 0 (by decide) (by decide) (by decide) (by decide)) (fr 0 0 (by decide) (by decide) (by decide) (by decide)) (CO_4 g5) rfl rfl
def Zp (Z : Int32 → ZT) (p : Int32) (z : ZT) : Int32 → ZT := fun q => if q = p then z else Z q
theorem s_goBack (A : SY) (Z : Int32 → ZT) (od o1 o2 : List Int32) (e p : Int32) (h0 : HP) (Q : Option AV → HP → Prop) (R : RC A [] Z od h0) (hR : RU A.1) (hn4 : nE A ≤ 400) (hD : ∀ p, dn A p = od.filter (dq A p)) (hp : ina p (nP A)) (ep : pa A e = p) (eo : od = o1 ++ e :: o2) (hZ : Z p = rp A.1 p (dn A p))
    (H : ∀ o1' r h', od = o1' ++ r → (e :: o2).filter (dq A p) = r.filter (dq A p) → ag sC h0 h' → RC (tkB A p (o1.filter (dq A p)) ((e :: o2).filter (dq A p))) ((e :: o2).filter (dq A p)) (Zp Z p (rp A.1 p (o1.filter (dq A p)))) od h' → Q (some (0, nI o1'.length)) h') : WPm 75 [(9, 0), (2, e)] h0 Q := by
  have RV0 := RC_RV R
  obtain ⟨-, -, he, en, -⟩ := od_at RV0.1 eo
  have nd := od_nd RV0.1
  have E := RC_e R he
  have c := RV0.1
  have hp12 : ina p 12 := ⟨hp.1, Int32.lt_of_lt_of_le hp.2 hR.1.2⟩
  have hs : ina p 100 := ⟨hp.1, Int32.lt_of_lt_of_le hp12.2 (by decide)⟩
  have e1 : h0 2 e 1 = p := E.1.2.2.1.trans ep
  refine b75_0 _ h0 Q ⟨en, ?_⟩
  rw [e1]
  rw [eo] at nd
  have ndc := List.nodup_cons.mp (List.nodup_append.mp nd).2.1
  refine s_placeOf 0 e o1 o2 h0 _ (by rw [← eo]; exact c.2.2.2.2.2) (by rw [← eo, c.1, c.2.2.2.2.1]) (by rw [← eo]; exact c.2.1) (fun y hy z => ndc.1 (by rw [← z]; exact hy)) (b75_13 _ _ _ h0 Q ?_)
  refine s_firstDoneM A od o1 (e :: o2) p h0 _ RV0 eo fun u r eu hu hr => b75_16 _ _ h0 Q ?_
  have e3 : h0 3 0 1 = nI od.length := c.1.trans c.2.2.2.2.1.symm
  have ol := c.2.2.2.2.2
  have eor : od = (o1 ++ u) ++ r := by rw [eo, eu]; simp
  have fu : u.filter (dq A p) = [] := List.filter_eq_nil_iff.mpr fun x hx => by rw [hu x hx]; decide
  have fr : (e :: o2).filter (dq A p) = r.filter (dq A p) := by rw [eu, List.filter_append, fu, List.nil_append]
  have fo : (o1 ++ u).filter (dq A p) = o1.filter (dq A p) := by rw [List.filter_append, fu, List.append_nil]
  have hd := hD p
  rw [eor, List.filter_append, fo] at hd
  rw [e1, e3]
  have lenou : o1.length + u.length = (o1 ++ u).length := by rw [List.length_append]
  rcases hr with hr | ⟨d, r', hr, hdq⟩
  · -- nothing to take back
    subst hr
    refine ⟨fun z => ?_, fun _ => ?_⟩
    · rw [eor, List.append_nil, lenou] at z
      exact (Int32.lt_irrefl z).elim
    · rw [lenou]
      rw [List.filter_nil, List.append_nil] at hd
      refine H (o1 ++ u) [] h0 eor fr ag_rf ?_
      rw [fr, List.filter_nil, tkB_nil hd]
      have zz : Zp Z p (rp A.1 p (o1.filter (dq A p))) = Z := by
        funext q; unfold Zp; split
        · rename_i y; rw [y, hZ, hd]
        · rfl
      rw [zz]; exact R
  · have lr : (o1 ++ u).length < od.length := by rw [eor, hr]; simp
    refine ⟨fun _ => ⟨en, hp12, en, ?_, ?_⟩, fun z => ?_⟩
    · rw [(RV0.2.2.1 p hp).1]; exact ina_n1 hp
    · rw [(RV0.2.2.1 p hp).1, lenou]
      refine s_stateAhead A p p od (o1 ++ u) r' d h0 _ hR hn4 hD RV0 (fun x hx => (RC_e R hx).2.2.2) hp hs (by rw [eor, hr]) fun h1 g1 z1 => b75_53 _ _ _ h1 Q ?_
      rw [fo] at z1
      have R1 : RC A [] (Zp Z p (rp A.1 p (o1.filter (dq A p)))) od h1 := RC_wD R g1 hs hn4 (fun q _ hq => if_neg hq) fun _ => by
        show CZ (if p = p then _ else _) p h1
        rw [if_pos rfl]; exact z1
      have e31 : h1 3 0 1 = nI od.length := (RC_RV R1).1.1.trans (RC_RV R1).1.2.2.2.2.1.symm
      have loop : ∀ (m : Nat) (r1 r2 : List Int32) (h : HP), r1.length = m → r = r1 ++ r2 → ag sC h0 h → RC (tkB A p (o1.filter (dq A p) ++ r1.filter (dq A p)) (r2.filter (dq A p))) (r2.filter (dq A p)) (Zp Z p (rp A.1 p (o1.filter (dq A p)))) od h →
          WPc 75 64 [(9, 0), (2, e), (0, nI (o1 ++ u).length), (4, p), (0, nI ((o1 ++ u).length + m) - 1)] [] h Q := by
        intro m
        induction m with
        | zero =>
          intro r1 r2 h hm er g Rh
          have : r1 = [] := List.eq_nil_of_length_eq_zero hm
          subst this
          rw [List.nil_append] at er
          refine b75_64 _ _ _ _ h Q ⟨fun _ => H (o1 ++ u) r h eor fr g ?_, fun z => absurd ?_ z⟩
          · rw [List.filter_nil, List.append_nil, ← er] at Rh
            rw [fr]; exact Rh
          · have h1 := nJ_nn (n := (o1 ++ u).length) (by omega)
            have h2 : nI (o1 ++ u).length ≤ nI 400 := (nJ_le (by omega) (by omega)).mpr (by omega)
            have h3 : nI 400 = 400 := rfl
            rw [Nat.add_zero]; grind
        | succ m ih =>
          intro r1 r2 h hm er g Rh
          obtain ⟨w, x, rfl⟩ : ∃ w x, r1 = w ++ [x] := by
            rcases snocC r1 with q | ⟨w, f, q⟩
            · rw [q] at hm; simp at hm
            · exact ⟨w, f, q⟩
          have hw' : w.length = m := by simpa using hm
          have eox : od = ((o1 ++ u) ++ w) ++ x :: r2 := by rw [eor, er]; simp
          have lw : ((o1 ++ u) ++ w).length = (o1 ++ u).length + m := by rw [List.length_append, hw']
          have RVh := RC_RV Rh
          obtain ⟨v26, i4, ix, nx, -⟩ := od_at RVh.1 eox
          have ndx : ¬ x ∈ r2 := by
            have n := od_nd RVh.1
            rw [eox] at n
            exact (List.nodup_cons.mp (List.nodup_append.mp n).2.1).1
          have nxt : ¬ x ∈ r2.filter (dq A p) := fun q => ndx (List.mem_filter.mp q).1
          have ol2 : (o1 ++ u).length + m < 400 := by rw [← lw]; have := ol; rw [eox] at this; simp at this ⊢; omega
          have hpa : h 2 e 1 = p := by
            have := (RVh.2.1 e (by rw [show nE (tkB A p _ _) = nE A by simp [nE, tkB]]; exact he)).1.2.2.1
            rw [this]; simp [pa, tkB]; exact ep
          rw [← Nat.add_assoc, nIm1]
          refine b75_64 _ _ _ _ h Q ⟨fun z => ?_, fun _ => ⟨en, ?_⟩⟩
          · rw [nJ_lt (by omega) (by omega)] at z
            exfalso; omega
          · rw [hpa, ← lw]
            have next : nI ((o1 ++ u) ++ w).length + (-1) = nI ((o1 ++ u).length + m) - 1 := by rw [lw]; grind
            refine s_isDoneAt _ od _ r2 x p h _ RVh eox (fun dx => b75_80 _ _ _ _ _ h Q ⟨fun y => absurd y one0, fun _ => ⟨i4, by rw [v26]; exact nx, ?_⟩⟩) (fun dx => b75_80 _ _ _ _ _ h Q ⟨fun _ => ?_, fun y => absurd rfl y⟩)
            · rw [v26]
              have dxx := dq_t.mp dx
              have dA : dq A p x = true := by rw [← tk_dq (p := p) (k := o1.filter (dq A p) ++ (w ++ [x]).filter (dq A p)) (t := r2.filter (dq A p)) nxt]; exact dx
              have fw : (w ++ [x]).filter (dq A p) = w.filter (dq A p) ++ [x] := by rw [List.filter_append, List.filter_cons_of_pos dA, List.filter_nil]
              have dnl : dn (tkB A p (o1.filter (dq A p) ++ (w ++ [x]).filter (dq A p)) (r2.filter (dq A p))) p = (o1.filter (dq A p) ++ w.filter (dq A p)) ++ [x] := by
                show ul _ p _ p = _
                rw [ul_eq, fw, List.append_assoc]
              have nl : ¬ x ∈ o1.filter (dq A p) ++ w.filter (dq A p) := fun q => by
                have n := od_nd RVh.1
                rw [eox] at n
                have dj := (List.nodup_append.mp n).2.2
                rcases List.mem_append.mp q with q | q
                · exact dj x (by simp [(List.mem_filter.mp q).1]) x (by simp) rfl
                · exact dj x (by simp [(List.mem_filter.mp q).1]) x (by simp) rfl
              refine b11_0 _ h _ ⟨nx, nx, nx, nx, Or.inl rfl, b75_96 _ _ _ _ _ Q ⟨ina_n1 hp, ina_n1 hp, ina_n1 hp, ina_n1 hp, ?_⟩⟩
              have U := RC_undo Rh ix (by rw [show nP (tkB A p _ _) = nP A by simp [nP, tkB]]; exact hp) dxx.1 dxx.2 dnl nl
              rw [tkB_step] at U
              have eh : (up (up (up (up h 2 x 7 0) 2 x 9 0) 2 x 11 0) 2 x 15 0) 4 p 10 = h 4 p 10 := by rw [upfam (by decide), upfam (by decide), upfam (by decide), upfam (by decide)]
              have eh2 : (up (up (up (up (up h 2 x 7 0) 2 x 9 0) 2 x 11 0) 2 x 15 0) 4 p 10 (h 4 p 10 - 1)) 4 p 11 = h 4 p 11 := by rw [up_n (by simp), upfam (by decide), upfam (by decide), upfam (by decide), upfam (by decide)]
              rw [eh, eh2, next]
              refine ih w (x :: r2) _ hw' (by rw [er]; simp) (ag_tr g (ag_up (ag_up (ag_up (ag_up (ag_up (ag_up ag_rf rfl) rfl) rfl) rfl) rfl) rfl)) ?_
              rw [List.filter_cons_of_pos dA]; exact U
            · have dA : ¬ dq A p x = true := by rw [← tk_dq (p := p) (k := o1.filter (dq A p) ++ (w ++ [x]).filter (dq A p)) (t := r2.filter (dq A p)) nxt, dx]; decide
              rw [next]
              refine ih w (x :: r2) h hw' (by rw [er]; simp) g ?_
              rw [List.filter_cons_of_neg dA]
              have fw : (w ++ [x]).filter (dq A p) = w.filter (dq A p) := by rw [List.filter_append, List.filter_cons_of_neg dA, List.filter_nil, List.append_nil]
              rw [fw] at Rh; exact Rh
      have := loop r.length r [] h1 rfl (by simp) (wDC g1) (by
        rw [List.filter_nil, tkB_nil hd]; exact R1)
      rw [e31, eor, List.length_append (as := o1 ++ u)]; exact this
    · rw [lenou] at z
      exact absurd ((nJ_lt (by omega) (by omega)).mpr lr) z
