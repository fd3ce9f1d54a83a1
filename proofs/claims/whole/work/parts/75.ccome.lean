/-! 75: the class: what is posted, met, taken back -/
theorem EV_co {A A' : SY} {T T' : List Int32} {e : Int32} {h h' : HP} (E : EV A T e h) (r2 : h' 2 e = h 2 e) (r25 : h' 25 e = h 25 e) (r41 : h' 41 0 e = h 41 0 e) (r8 : h' 8 (100 + e) = h 8 (100 + e)) (r39 : h' 39 (100 + e) = h 39 (100 + e))
    (a : ∀ f, 54 ≤ f → f ≤ 62 → ¬ f = 61 → A'.1 f e = A.1 f e) (s : shd A' e = shd A e) (p : pr A' e = pr A e) (q : se A' e = se A e) (t : ¬ hw A e = 1 → (e ∈ T' ↔ e ∈ T))
    (d : hw A e = 1 → ∀ pre post, dn A' (pa A e) = pre ++ e :: post → ∃ post', dn A (pa A e) = pre ++ e :: post') (r : ∀ pre, rp A'.1 (pa A e) pre = rp A.1 (pa A e) pre) : EV A' T' e h' := by
  have a54 : pa A' e = pa A e := a 54 (by decide) (by decide) (by decide)
  have a55 := a 55 (by decide) (by decide) (by decide)
  have a56 := a 56 (by decide) (by decide) (by decide)
  have a57 := a 57 (by decide) (by decide) (by decide)
  have a58 := a 58 (by decide) (by decide) (by decide)
  have a59 := a 59 (by decide) (by decide) (by decide)
  have a60 : hw A' e = hw A e := a 60 (by decide) (by decide) (by decide)
  have a62 := a 62 (by decide) (by decide) (by decide)
  have se' : seE A' T' e = seE A T e := by
    unfold seE
    rw [a60, q]
    by_cases z : hw A e = 1
    · rw [if_pos (Or.inl z), if_pos (Or.inl z)]
    · by_cases y : e ∈ T
      · rw [if_pos (Or.inr ((t z).mpr y)), if_pos (Or.inr y)]
      · rw [if_neg (fun w => w.elim z fun w => y ((t z).mp w)), if_neg (fun w => w.elim z y)]
  have pr' : prE A' e = prE A e := by unfold prE; rw [a60, p]
  obtain ⟨e1, e2, e3, e4⟩ := E
  refine ⟨?_, ?_, ?_, ?_⟩
  · unfold EVa KY; rw [r41, r2, a54, a55, a56, a57, a58, a59]; exact e1
  · unfold EVb; rw [r2, a60, s]; exact e2
  · unfold EVc; rw [r2, r25, a60, a62, pr', se']; exact e3
  · unfold EVd; rw [r2, a60, a54]
    refine ⟨e4.1, fun z => ⟨(e4.2.1 z).1, (e4.2.1 z).2.1, fun pre post hp => ?_⟩, e4.2.2⟩
    obtain ⟨post', hp'⟩ := d (e4.2.1 z).1 pre post hp
    rw [r]
    exact CZ_co ((e4.2.1 z).2.2 pre post' hp') r39 r8
theorem RC_e {A : SY} {T : List Int32} {Z : Int32 → ZT} {od : List Int32} {h : HP} (R : RC A T Z od h) {e : Int32} (he : ina e (nE A)) : EV A T e h := R.2.2.2.1 e he
/-- the attributes that no post, no coming touches -/
def SA (A A' : SY) : Prop := (∀ f, ¬ f = 10 → ¬ f = 51 → ¬ f = 60 → ¬ f = 61 → A'.1 f = A.1 f) ∧ nP A' = nP A ∧ nE A' = nE A ∧ A'.1 10 14 = A.1 10 14 ∧ A'.1 10 32 = A.1 10 32
theorem SA_sr {A A' : SY} (s : SA A A') : SR A.1 A'.1 := ⟨s.2.1, fun f h1 h2 => s.1 f (by omega) (by omega) (by omega) (by omega)⟩
theorem SA_rp {A A' : SY} (s : SA A A') (p : Int32) (l : List Int32) : rp A'.1 p l = rp A.1 p l := rp_sr (SA_sr s) p l fun e _ => by rw [s.1 55 (by decide) (by decide) (by decide) (by decide), s.1 59 (by decide) (by decide) (by decide) (by decide)]; exact ⟨rfl, rfl⟩
theorem SA_bel {A A' : SY} (s : SA A A') : bel A'.1 = bel A.1 := bel_co fun f h1 h2 => s.1 f (by omega) (by omega) (by omega) (by omega)
theorem CO_SA {A A' : SY} {od : List Int32} {h h' : HP} (c : CO A od h) (s : SA A A') (e3 : h' 3 0 = h 3 0) (e26 : h' 26 0 = h 26 0) : CO A' od h' := by
  unfold CO
  rw [e3, e26, s.2.2.1, SA_bel s]; exact c
theorem CPp_SA {A A' : SY} {p : Int32} {h h' : HP} (c : CPp A p h) (s : SA A A') (e40 : h' 40 0 p = h 40 0 p) (e4 : ∀ k, ¬ k = 9 → ¬ k = 10 → ¬ k = 11 → h' 4 p k = h 4 p k) (er : ∀ f, 27 ≤ f → f ≤ 31 → h' f p = h f p) (e9 : h' 4 p 9 = A'.1 50 p) (e10 : h' 4 p 10 = nI (dn A' p).length) (e11 : h' 4 p 11 = A'.1 51 p) : CPp A' p h' := by
  obtain ⟨c1, c2, c3, -⟩ := c
  refine ⟨by rw [e40]; exact c1, by rw [e4 0 (by decide) (by decide) (by decide), s.1 42 (by decide) (by decide) (by decide) (by decide)]; exact c2, ?_, e9, e10, e11⟩
  unfold PRp
  rw [e4 3 (by decide) (by decide) (by decide), e4 8 (by decide) (by decide) (by decide), er 27 (by decide) (by decide), er 28 (by decide) (by decide), er 29 (by decide) (by decide), er 30 (by decide) (by decide), er 31 (by decide) (by decide)]
  rw [s.1 43 (by decide) (by decide) (by decide) (by decide), s.1 44 (by decide) (by decide) (by decide) (by decide), s.1 45 (by decide) (by decide) (by decide) (by decide), s.1 46 (by decide) (by decide) (by decide) (by decide), s.1 47 (by decide) (by decide) (by decide) (by decide), s.1 48 (by decide) (by decide) (by decide) (by decide), s.1 49 (by decide) (by decide) (by decide) (by decide)]
  exact c3
theorem SA_psA (A : SY) (l : Int32) (S : List PT) : SA A (psA A l S) := ⟨fun _ _ _ _ _ => rfl, rfl, rfl, rfl, rfl⟩
/-- a post -/
theorem s_post (A : SY) (T : List Int32) (Z : Int32 → ZT) (od : List Int32) (e l : Int32) (b : Bool) (h : HP) (Q : Option AV → HP → Prop) (R : RC A T Z od h) (he : ina e (nE A)) (hpa : ina (pa A e) (nP A) ∧ ina (pa A e) 12) (hb : b = true → A.1 61 e = 0) (hw8 : (wy A).length < 800) (hc8 : (cm A).length < 800)
    (H : ∀ h', ag sC h h' → (∀ f x, ¬ f = 2 → ¬ f = 6 → ¬ f = 34 → ¬ f = 35 → h' f x = h f x) → (∀ x k, ¬ k = 8 → h' 2 x k = h 2 x k) → RC (psA A l [(e, b)]) T Z od h' → Q none h') : WPm 69 [(9, 0), (2, e), (0, bN b), (0, l)] h Q := by
  obtain ⟨g1, g2, g3, g4, g5, ⟨g6, g6'⟩, g7⟩ := id R
  have en := ina_n1 he
  have ev := g4 e he
  have pp := g2 (pa A e) hpa.1
  refine b69_0 _ _ _ h Q ?_
  rw [ev.1.2.2.1, pp.1, pp.2.1]
  have wPC : ∀ {o : Int32} {h h' : HP}, agw (wPo o) h h' → ag sC h h' := fun {o h h'} g f x k z => g f x k (Or.inr fun q => by
    rcases q.1 with q | q | q <;> (subst q; exact absurd z (by simp [sC])))
  -- the same but for one post list
  have base : ∀ (o : Int32) (h' : HP), agw (wPo o) h h' → (o = 0 ∨ o = 1) → (∀ x, ina x (nE A) → h' 2 x = h 2 x) ∧ (∀ f x, ¬ f = 6 → ¬ f = 34 → ¬ f = 35 → h' f x = h f x) := fun o h' g _ =>
    ⟨fun x _ => agw_row g fun q => by rcases q.1 with q | q | q <;> exact absurd q (by decide), fun f x f1 f2 f3 => agw_row g fun q => by rcases q.1 with q | q | q; exact f1 q; exact f2 q; exact f3 q⟩
  refine ⟨en, hpa.2, ina_n1 hpa.2, fun z => ?_, fun z => ?_⟩
  · have ep : psA A l [(e, b)] = (A.1, dn A, pr A, se A, wy A ++ [(e, b)], cm A) := by rw [psA_1, if_neg z, if_neg z, List.append_nil]
    refine s_pAdd 0 e b (wy A) h _ g6 hw8 en fun h1 gg c => ?_
    have bs := base 0 h1 gg (Or.inl rfl)
    have fr : ∀ f x, ¬ f = 6 → ¬ f = 34 → ¬ f = 35 → h1 f x = h f x := bs.2
    have c1 : CPs 1 (cm A) h1 := CPs_co g6' fun f hf => agw_row gg fun q => absurd q.2 (by decide)
    -- events but for the shadow of e
    have evs : ∀ x, ina x (nE A) → (¬ x = e ∨ b = false) → EV (psA A l [(e, b)]) T x h1 := fun x hx hxe => by
      refine EV_co (g4 x hx) (fr 2 x (by decide) (by decide) (by decide)) (fr 25 x (by decide) (by decide) (by decide)) (by rw [fr 41 0 (by decide) (by decide) (by decide)]) (fr 8 _ (by decide) (by decide) (by decide)) (fr 39 _ (by decide) (by decide) (by decide)) (fun _ _ _ _ => rfl) ?_ rfl rfl (fun _ => Iff.rfl) (fun _ pre post hp => ⟨post, hp⟩) (fun _ => rfl)
      unfold shd
      rw [ep]
      show (if A.1 61 x = 1 then (2 : Int32) else if (x, true) ∈ wy A ++ [(e, b)] ∨ A.1 61 x = 5 then 1 else 0) = _
      have : (x, true) ∈ wy A ++ [(e, b)] ↔ (x, true) ∈ wy A := by
        rw [List.mem_append, List.mem_singleton]
        constructor
        · rintro (q | q)
          · exact q
          · rcases hxe with y | y
            · exact absurd (congrArg Prod.fst q) y
            · rw [y] at q; cases q
        · exact Or.inl
      simp only [this]
    have rest : ∀ h', (∀ f x, ¬ f = 2 → h' f x = h1 f x) → (∀ x, h' 2 x 14 = h1 2 x 14) → (∀ f x, h' f x (-1) = h1 f x (-1)) → (∀ x, ina x (nE A) → EV (psA A l [(e, b)]) T x h') → RC (psA A l [(e, b)]) T Z od h' := fun h' q1 q2 q3 q4 => by
      refine ⟨?_, fun p hp => ?_, fun p hp => ?_, q4, ?_, ⟨?_, ?_⟩, ?_⟩
      · unfold CG; rw [q1 9 0 (by decide), fr 9 0 (by decide) (by decide) (by decide)]; exact g1
      · have c := g2 p hp
        have e4 : h' 4 p = h 4 p := by rw [q1 4 p (by decide), fr 4 p (by decide) (by decide) (by decide)]
        exact CPp_SA c (SA_psA A l _) (by rw [q1 40 0 (by decide), fr 40 0 (by decide) (by decide) (by decide)]) (fun k _ _ _ => by rw [e4]) (fun f f1 f2 => by rw [q1 f p (by omega), fr f p (by omega) (by omega) (by omega)]) (by rw [e4]; exact c.2.2.2.1) (by rw [e4]; exact c.2.2.2.2.1) (by rw [e4]; exact c.2.2.2.2.2)
      · exact CZ_co (g3 p hp) (by rw [q1 39 p (by decide), fr 39 p (by decide) (by decide) (by decide)]) (by rw [q1 8 p (by decide), fr 8 p (by decide) (by decide) (by decide)])
      · exact CO_SA g5 (SA_psA A l _) (by rw [q1 3 0 (by decide), fr 3 0 (by decide) (by decide) (by decide)]) (by rw [q1 26 0 (by decide), fr 26 0 (by decide) (by decide) (by decide)])
      · rw [ep]
        exact CPs_co c fun f hf => q1 f 0 (by omega)
      · rw [ep]
        exact CPs_co c1 fun f hf => q1 f 1 (by omega)
      · exact FR_co g7 (fun f x => by rw [q3, gg f x (-1) (Or.inl rfl)]) (fun x hx => by rw [q2, bs.1 x hx]) (by rw [q1 33 0 (by decide), fr 33 0 (by decide) (by decide) (by decide)]) (by rw [q1 32 0 (by decide), fr 32 0 (by decide) (by decide) (by decide)]) (by rw [q1 0 0 (by decide), fr 0 0 (by decide) (by decide) (by decide)]) (CO_4 g5) rfl rfl
    cases b with
    | false =>
      refine b69_35 _ _ _ h1 Q ⟨fun _ => H h1 (wPC gg) (fun f x f0 f1 f2 f3 => fr f x f1 f2 f3) (fun x k _ => by rw [fr 2 x (by decide) (by decide) (by decide)]) (rest h1 (fun _ _ _ => rfl) (fun _ => rfl) (fun _ _ => rfl) fun x hx => evs x hx (Or.inr rfl)), fun q => absurd rfl q⟩
    | true =>
      refine b69_35 _ _ _ h1 Q ⟨fun q => absurd q (by decide), fun _ => ⟨en, H _ (ag_tr (wPC gg) (ag_up ag_rf (by rfl))) (fun f x f0 f1 f2 f3 => by rw [upfam f0, fr f x f1 f2 f3]) (fun x k hk => by rw [up_n (fun q => hk q.2.2), fr 2 x (by decide) (by decide) (by decide)]) (rest _ (fun f x hf => by rw [upfam hf]) (fun x => up_n fun q => absurd q.2.2 (by decide)) (fun f x => up_n fun q => absurd q.2.2 (by decide)) fun x hx => ?_)⟩⟩
      by_cases y : x = e
      · subst y
        have r : EV A T x h := g4 x hx
        obtain ⟨e1, e2, e3, e4⟩ := r
        have h2 : ∀ k, ¬ k = 8 → up h1 2 x 8 1 2 x k = h 2 x k := fun k hk => by rw [up_n (fun q => hk q.2.2), fr 2 x (by decide) (by decide) (by decide)]
        have o : ∀ f y, ¬ f = 2 → ¬ f = 6 → ¬ f = 34 → ¬ f = 35 → up h1 2 x 8 1 f y = h f y := fun f y f0 f1 f2 f3 => by rw [upfam f0, fr f y f1 f2 f3]
        refine ⟨?_, ?_, ?_, ?_⟩
        · unfold EVa KY
          rw [h2 0 (by decide), h2 1 (by decide), h2 2 (by decide), h2 3 (by decide), h2 4 (by decide), h2 5 (by decide), h2 6 (by decide), o 41 0 (by decide) (by decide) (by decide) (by decide)]; exact e1
        · refine ⟨by rw [h2 7 (by decide)]; exact e2.1, ?_⟩
          rw [up_at]
          unfold shd
          rw [ep]
          show (1 : Int32) = if A.1 61 x = 1 then (2 : Int32) else if (x, true) ∈ wy A ++ [(x, true)] ∨ A.1 61 x = 5 then 1 else 0
          rw [if_neg (by rw [hb rfl]; decide), if_pos (by simp)]
        · unfold EVc
          rw [h2 9 (by decide), h2 11 (by decide), h2 12 (by decide), h2 13 (by decide), o 25 x (by decide) (by decide) (by decide) (by decide)]; exact e3
        · unfold EVd
          rw [h2 14 (by decide), h2 15 (by decide)]
          exact ⟨e4.1, fun z => ⟨(e4.2.1 z).1, (e4.2.1 z).2.1, fun pre post hp => CZ_co ((e4.2.1 z).2.2 pre post hp) (o 39 _ (by decide) (by decide) (by decide) (by decide)) (o 8 _ (by decide) (by decide) (by decide) (by decide))⟩, e4.2.2⟩
      · have := evs x hx (Or.inl y)
        have h2 : up h1 2 e 8 1 2 x = h1 2 x := by funext k; exact up_n fun q => y q.2.1
        exact EV_co this h2 (by rw [upfam (by decide)]) (by rw [upfam (by decide)]) (by rw [upfam (by decide)]) (by rw [upfam (by decide)]) (fun _ _ _ _ => rfl) rfl rfl rfl (fun _ => Iff.rfl) (fun _ pre post hp => ⟨post, hp⟩) (fun _ => rfl)
  · have ep : psA A l [(e, b)] = (A.1, dn A, pr A, se A, wy A, cm A ++ [(e, b)]) := by rw [psA_1, if_pos z, if_pos z, List.append_nil]
    refine s_pAdd 1 e b (cm A) h _ g6' hc8 en fun h1 gg c => b69_25 _ _ _ h1 Q ?_
    have fr : ∀ f x, ¬ f = 6 → ¬ f = 34 → ¬ f = 35 → h1 f x = h f x := (base 1 h1 gg (Or.inr rfl)).2
    refine H h1 (wPC gg) (fun f x f0 f1 f2 f3 => fr f x f1 f2 f3) (fun x k _ => by rw [fr 2 x (by decide) (by decide) (by decide)]) ⟨?_, fun p hp => ?_, fun p hp => ?_, fun x hx => ?_, ?_, ⟨?_, ?_⟩, ?_⟩
    · unfold CG; rw [fr 9 0 (by decide) (by decide) (by decide)]; exact g1
    · have c := g2 p hp
      have e4 : h1 4 p = h 4 p := fr 4 p (by decide) (by decide) (by decide)
      exact CPp_SA c (SA_psA A l _) (by rw [fr 40 0 (by decide) (by decide) (by decide)]) (fun k _ _ _ => by rw [e4]) (fun f f1 f2 => fr f p (by omega) (by omega) (by omega)) (by rw [e4]; exact c.2.2.2.1) (by rw [e4]; exact c.2.2.2.2.1) (by rw [e4]; exact c.2.2.2.2.2)
    · exact CZ_co (g3 p hp) (fr 39 p (by decide) (by decide) (by decide)) (fr 8 p (by decide) (by decide) (by decide))
    · refine EV_co (g4 x hx) (fr 2 x (by decide) (by decide) (by decide)) (fr 25 x (by decide) (by decide) (by decide)) (by rw [fr 41 0 (by decide) (by decide) (by decide)]) (fr 8 _ (by decide) (by decide) (by decide)) (fr 39 _ (by decide) (by decide) (by decide)) (fun _ _ _ _ => rfl) ?_ rfl rfl (fun _ => Iff.rfl) (fun _ pre post hp => ⟨post, hp⟩) (fun _ => rfl)
      unfold shd
      rw [ep]
    · exact CO_SA g5 (SA_psA A l _) (fr 3 0 (by decide) (by decide) (by decide)) (fr 26 0 (by decide) (by decide) (by decide))
    · rw [ep]
      exact CPs_co g6 fun f hf => agw_row gg fun q => absurd q.2 (by decide)
    · rw [ep]; exact c
    · exact FR_co g7 (fun f x => gg f x (-1) (Or.inl rfl)) (fun x hx => by rw [fr 2 x (by decide) (by decide) (by decide)]) (fr 33 0 (by decide) (by decide) (by decide)) (fr 32 0 (by decide) (by decide) (by decide)) (fr 0 0 (by decide) (by decide) (by decide)) (CO_4 g5) rfl rfl
