/-! 77: the class: sendShadows, what comes -/
theorem SA_33 (A : SY) (v : Int32) : SA A (sa A.1 10 33 v, A.2) := ⟨fun f h1 h2 h3 h4 => sa_fam h1, by simp [nP, sa], by simp [nE, sa], by simp [sa], by simp [sa]⟩
theorem RC_33 {A : SY} {T : List Int32} {Z : Int32 → ZT} {od : List Int32} {h : HP} (R : RC A T Z od h) : RC (sa A.1 10 33 (A.1 10 33 + 1), A.2) T Z od (up h 9 0 11 (h 9 0 11 + 1)) := by
  obtain ⟨g1, g2, g3, g4, g5, ⟨g6, g6'⟩, g7⟩ := R
  have s := SA_33 A (A.1 10 33 + 1)
  have fr : ∀ f x, ¬ f = 9 → up h 9 0 11 (h 9 0 11 + 1) f x = h f x := fun f x hf => by rw [upfam hf]
  refine ⟨?_, fun p hp => ?_, fun p hp => CZ_co (g3 p hp) (fr 39 p (by decide)) (fr 8 p (by decide)), fun y hy => ?_, CO_SA g5 s (fr 3 0 (by decide)) (fr 26 0 (by decide)), ⟨CPs_co g6 fun f hf => fr f 0 (by omega), CPs_co g6' fun f hf => fr f 1 (by omega)⟩, ?_⟩
  · unfold CG at *
    rw [up_n (by simp), up_n (by simp), up_at, up_n (by simp), up_n (by simp), up_n (by simp), g1.2.2.1]
    simpa [nP, sa] using ⟨g1.1, g1.2.1, g1.2.2.2⟩
  · rw [s.2.1] at hp
    have c := g2 p hp
    exact CPp_SA c s (by rw [fr 40 0 (by decide)]) (fun k _ _ _ => by rw [fr 4 p (by decide)]) (fun f f1 f2 => fr f p (by omega)) (by rw [fr 4 p (by decide)]; simpa [sa] using c.2.2.2.1) (by rw [fr 4 p (by decide)]; exact c.2.2.2.2.1) (by rw [fr 4 p (by decide)]; simpa [sa] using c.2.2.2.2.2)
  · rw [s.2.2.1] at hy
    refine EV_co (g4 y hy) (fr 2 y (by decide)) (fr 25 y (by decide)) (by rw [fr 41 0 (by decide)]) (fr 8 _ (by decide)) (fr 39 _ (by decide)) (fun f f1 f2 f3 => by show sa A.1 10 33 _ f y = _; rw [sa_fam (by omega)]) ?_ rfl rfl (fun _ => Iff.rfl) (fun _ pre post hp => ⟨post, hp⟩) (fun pre => SA_rp s _ _)
    unfold shd; simp [sa]
  · exact FR_co g7 (fun f x => up_n fun q => absurd q.2.2 (by decide)) (fun y hy => by rw [fr 2 y (by decide)]) (fr 33 0 (by decide)) (fr 32 0 (by decide)) (fr 0 0 (by decide)) (CO_4 g5) s.2.2.1 s.2.1
theorem sh_fix {A : SY} {l : Int32} {S : List Int32} : (shF A l S).1 = sa A.1 10 33 (A.1 10 33 + nI S.length) ∧ dn (shF A l S) = dn A ∧ pr (shF A l S) = pr A ∧ se (shF A l S) = se A := ⟨rfl, rfl, rfl, rfl⟩
theorem sh_at {A : SY} {l : Int32} {S : List Int32} {f : Nat} (hf : ¬ f = 10) : (shF A l S).1 f = A.1 f := by rw [sh_fix.1, sa_fam hf]
theorem sh_nE {A : SY} {l : Int32} {S : List Int32} : nE (shF A l S) = nE A ∧ nP (shF A l S) = nP A := by
  unfold nE nP
  rw [sh_fix.1]
  exact ⟨sa_ne (by decide), sa_ne (by decide)⟩
theorem s_sendShadows (A : SY) (Z : Int32 → ZT) (od o1 r : List Int32) (p : Int32) (tq : Int32 → Bool) (h0 : HP) (Q : Option AV → HP → Prop) (R0 : RC A (r.filter tq) Z od h0) (hn4 : nE A ≤ 400) (hp : ina p (nP A)) (hp12 : ina p 12) (eo : od = o1 ++ r) (ht : ∀ x, x ∈ r → tq x = true → pa A x = p ∧ ¬ hw A x = 1)
    (hf : ∀ x, x ∈ r → tq x = true → (se A x).length ≤ 8 ∧ ∀ f, f ∈ se A x → ina f (nE A) ∧ A.1 61 f = 0 ∧ ina (pa A f) (nP A) ∧ ina (pa A f) 12)
    (HB : ∀ S1 S2, snts A (r.filter tq) = S1 ++ S2 → ¬ S2 = [] → (wy (shF A (A.1 42 p) S1)).length < 800 ∧ (cm (shF A (A.1 42 p) S1)).length < 800)
    (H : ∀ h', ag sC h0 h' → RC (shF A (A.1 42 p) (snts A (r.filter tq))) [] Z od h' → Q none h') : WPm 76 [(9, 0), (0, p), (0, nI o1.length)] h0 Q := by
  have c0 := (RC_RV R0).1
  have ol := c0.2.2.2.2.2
  have inner : ∀ (x : Int32) (w r2 S : List Int32) (x2 x3 : Int32) (T1 : List Int32), r = w ++ x :: r2 → S = (if tq x then se A x else []) → (∀ h, ag sC h0 h → RC (shF A (A.1 42 p) (snts A (r2.filter tq) ++ S.reverse)) T1 Z od h → WPc 76 10 [(9, 0), (0, p), (0, x2), (0, x3 + (-1)), (500, 0), (500, 0)] [] (up h 2 x 13 0) Q) →
      ina x (nE A) → ∀ (j : Nat) (u1 u2 : List Int32) (h : HP), u1.length = j → S = u1 ++ u2 → ag sC h0 h → RC (shF A (A.1 42 p) (snts A (r2.filter tq) ++ u2.reverse)) T1 Z od h → (FS (h 2 x 12) S) → WPc 76 56 [(9, 0), (0, p), (0, x2), (0, x3), (2, x), (0, nI j - 1)] [] h Q := by
    intro x w r2 S x2 x3 T1 er eS K ix j
    have nx := ina_n1 ix
    have S8 : S.length ≤ 8 := by
      rw [eS]
      by_cases z : tq x = true
      · rw [if_pos z]; exact (hf x (by rw [er]; simp) z).1
      · rw [if_neg z]; simp
    induction j with
    | zero =>
      intro u1 u2 h hl e g Rh fs
      have : u1 = [] := List.eq_nil_of_length_eq_zero hl
      subst this
      rw [List.nil_append] at e
      refine b76_56 _ _ _ _ _ h Q ⟨fun _ => ⟨nx, K h g (by rw [e]; exact Rh)⟩, fun z => absurd (by rw [nJ_0]; decide) z⟩
    | succ j ih =>
      intro u1 u2 h hl e g Rh fs
      obtain ⟨u, f, rfl⟩ : ∃ u f, u1 = u ++ [f] := by
        rcases snocC u1 with q | ⟨u, f, q⟩
        · rw [q] at hl; simp at hl
        · exact ⟨u, f, q⟩
      have hu : u.length = j := by simpa using hl
      have tx : tq x = true := by
        by_cases z : tq x = true
        · exact z
        · rw [if_neg z] at eS
          rw [eS] at e
          simp at e
      have eSx : S = se A x := by rw [eS, if_pos tx]
      have ff := (hf x (by rw [er]; simp) tx).2 f (by rw [← eSx, e]; simp)
      have fat : h 2 x 12 + nI j = f := by
        have := FS_get fs j (by rw [e]; simp; omega)
        rw [← this]
        simp only [e]
        rw [List.getElem_append_left (by simp; omega), List.getElem_append_right (by omega)]
        simp [hu]
      have RVh := RC_RV Rh
      have ff400 : ina f 400 := ⟨ff.1.1, Int32.lt_of_lt_of_le ff.1.2 hn4⟩
      have h41 : h 41 0 f = f := (RVh.2.1 f (by rw [sh_nE.1]; exact ff.1)).1.1
      have pp := Rh.2.1 p (by rw [sh_nE.2]; exact hp)
      have h40 : h 40 0 p = p := pp.1
      have h4 : h 4 p 0 = A.1 42 p := by rw [pp.2.1, sh_at (by decide)]
      have esn : snts A (r.filter tq) = (snts A (r2.filter tq) ++ u2.reverse) ++ (f :: (u.reverse ++ snts A (w.filter tq))) := by
        rw [er, List.filter_append, List.filter_cons_of_pos tx, snts_app, snts_cons, ← eSx, e]
        simp
      have bd := HB _ _ esn (by simp)
      rw [nIm1]
      refine b76_56 _ _ _ _ _ h Q ⟨fun z => absurd z (by have := nJ_nn (n := j) (by rw [e] at S8; simp at S8; omega); grind), fun _ => ⟨nx, by rw [fat]; exact ff400, hp12, by rw [h40]; exact ina_n1 hp, ?_⟩⟩
      rw [fat, h41, h40, h4]
      have R1 := RC_33 Rh
      have l1 : (sa (shF A (A.1 42 p) (snts A (r2.filter tq) ++ u2.reverse)).1 10 33 ((shF A (A.1 42 p) (snts A (r2.filter tq) ++ u2.reverse)).1 10 33 + 1)) 61 f = 0 := by rw [sa_fam (by decide), sh_at (by decide)]; exact ff.2.1
      refine s_post _ T1 Z od f (A.1 42 p) true _ _ R1 ?_ ?_ (fun _ => l1) bd.1 bd.2 fun h' g2 fr fr2 R2 => b76_98 _ _ _ _ _ h' Q ?_
      · rw [(SA_33 _ _).2.2.1, sh_nE.1]; exact ff.1
      · have e54 : pa (sa (shF A (A.1 42 p) (snts A (r2.filter tq) ++ u2.reverse)).1 10 33 ((shF A (A.1 42 p) (snts A (r2.filter tq) ++ u2.reverse)).1 10 33 + 1), (shF A (A.1 42 p) (snts A (r2.filter tq) ++ u2.reverse)).2) f = pa A f := by
          rw [pa, (SA_33 _ _).1 54 (by decide) (by decide) (by decide) (by decide), sh_at (by decide)]
        rw [e54]
        exact ⟨by rw [(SA_33 _ _).2.1, sh_nE.2]; exact ff.2.2.1, ff.2.2.2⟩
      · rw [show nI j + (-1) = nI j - 1 by grind]
        refine ih u (f :: u2) h' hu (by rw [e]; simp) (ag_tr (ag_tr g (ag_up ag_rf rfl)) g2) ?_ ?_
        · rw [List.reverse_cons, ← List.append_assoc, shF_snoc]
          exact R2
        · rw [fr2 x 12 (by decide), upfam (by decide)]; exact fs
  have outer : ∀ (m : Nat) (r1 r2 : List Int32) (h : HP), r1.length = m → r = r1 ++ r2 → ag sC h0 h → RC (shF A (A.1 42 p) (snts A (r2.filter tq))) (r1.filter tq) Z od h → WPc 76 10 [(9, 0), (0, p), (0, nI o1.length), (0, nI (o1.length + m) - 1), (500, 0), (500, 0)] [] h Q := by
    intro m
    induction m with
    | zero =>
      intro r1 r2 h hm er g Rh
      have : r1 = [] := List.eq_nil_of_length_eq_zero hm
      subst this
      rw [List.nil_append] at er
      refine b76_10 _ _ _ h Q ⟨fun _ => H h g (by rw [er]; exact Rh), fun z => absurd ?_ z⟩
      have h1 := nJ_nn (n := o1.length) (by rw [eo] at ol; simp at ol; omega)
      have h2 : nI o1.length ≤ nI 400 := (nJ_le (by rw [eo] at ol; simp at ol; omega) (by omega)).mpr (by rw [eo] at ol; simp at ol; omega)
      have h3 : nI 400 = 400 := rfl
      rw [Nat.add_zero]; grind
    | succ m ih =>
      intro r1 r2 h hm er g Rh
      obtain ⟨w, x, rfl⟩ : ∃ w x, r1 = w ++ [x] := by
        rcases snocC r1 with q | ⟨w, f, q⟩
        · rw [q] at hm; simp at hm
        · exact ⟨w, f, q⟩
      have hw' : w.length = m := by simpa using hm
      have eox : od = (o1 ++ w) ++ x :: r2 := by rw [eo, er]; simp
      have lw : (o1 ++ w).length = o1.length + m := by rw [List.length_append, hw']
      have RVh := RC_RV Rh
      obtain ⟨v26, i4, ix', nx, -⟩ := od_at RVh.1 eox
      have ix : ina x (nE A) := by rw [sh_nE.1] at ix'; exact ix'
      have ev := RVh.2.1 x ix'
      have e1 : h 2 x 1 = pa A x := by rw [ev.1.2.2.1]; show (shF _ _ _).1 54 x = _; rw [sh_at (by decide)]
      have e7 : h 2 x 7 = hw A x := by rw [ev.2.1]; show (shF _ _ _).1 60 x = _; rw [sh_at (by decide)]
      have ol2 : o1.length + m < 400 := by rw [← lw]; have := ol; rw [eox] at this; simp at this ⊢; omega
      have next : nI (o1.length + m) + (-1) = nI (o1.length + m) - 1 := by grind
      have xr : x ∈ r := by rw [er]; simp
      have err : r = w ++ (x :: r2) := by rw [er]; simp
      have ndw : ¬ x ∈ w := fun q => by
        have n := od_nd RVh.1
        rw [eox] at n
        exact (List.nodup_append.mp n).2.2 x (by simp [q]) x (by simp) rfl
      rw [← Nat.add_assoc, nIm1]
      have skip : ¬ tq x = true → WPc 76 10 [(9, 0), (0, p), (0, nI o1.length), (0, nI (o1.length + m) + (-1)), (500, 0), (500, 0)] [] h Q := fun z => by
        rw [next]
        refine ih w (x :: r2) h hw' err g ?_
        rw [List.filter_cons_of_neg z]
        have fw : (w ++ [x]).filter tq = w.filter tq := by rw [List.filter_append, List.filter_cons_of_neg z, List.filter_nil, List.append_nil]
        rw [fw] at Rh; exact Rh
      refine b76_10 _ _ _ h Q ⟨fun z => ?_, fun _ => ?_⟩
      · rw [nJ_lt (by omega) (by omega)] at z
        exfalso; omega
      · rw [← lw, v26, e1, e7, lw]
        refine ⟨by rw [← lw]; exact i4, nx, fun z => skip fun q => z (ht x xr q).1, fun z => ⟨nx, fun z2 => ⟨nx, ?_⟩, fun z2 => skip fun q => (ht x xr q).2 z2⟩⟩
        have E := RC_e Rh ix'
        have hwx : ¬ hw (shF A (A.1 42 p) (snts A (r2.filter tq))) x = 1 := by show ¬ (shF _ _ _).1 60 x = 1; rw [sh_at (by decide)]; exact z2
        have seS : seE (shF A (A.1 42 p) (snts A (r2.filter tq))) ((w ++ [x]).filter tq) x = if tq x then se A x else [] := by
          unfold seE
          by_cases q : tq x = true
          · rw [if_pos (Or.inr (List.mem_filter.mpr ⟨by simp, q⟩)), if_pos q]
            rfl
          · rw [if_neg (fun y => y.elim hwx fun y => q (List.mem_filter.mp y).2), if_neg q]
        have ec := E.2.2.1.2
        rw [seS] at ec
        rw [ec.1]
        refine inner x w r2 (if tq x then se A x else []) (nI o1.length) (nI (o1.length + m)) ((w ++ [x]).filter tq) err rfl (fun h' g' R' => ?_) ix _ _ [] h rfl (by simp) g (by simpa using Rh) ec.2
        rw [next]
        refine ih w (x :: r2) _ hw' err (ag_tr g' (ag_up ag_rf rfl)) ?_
        have esn : snts A ((x :: r2).filter tq) = snts A (r2.filter tq) ++ (if tq x then se A x else []).reverse := by
          by_cases q : tq x = true
          · rw [List.filter_cons_of_pos q, snts_cons, if_pos q]
          · rw [List.filter_cons_of_neg q, if_neg q]; simp
        rw [esn]
        have ix2 : ina x (nE (shF A (A.1 42 p) (snts A (r2.filter tq) ++ (if tq x then se A x else []).reverse))) := by rw [sh_nE.1]; exact ix
        have E' := RC_e R' ix2
        have hwx' : ¬ hw (shF A (A.1 42 p) (snts A (r2.filter tq) ++ (if tq x then se A x else []).reverse)) x = 1 := by show ¬ (shF _ _ _).1 60 x = 1; rw [sh_at (by decide)]; exact z2
        refine RC_one (e := x) R' ⟨fun _ _ _ _ _ => rfl, rfl, rfl, rfl, rfl⟩ rfl rfl rfl (fun _ _ => ⟨rfl, rfl⟩) (fun y yx => ?_) (fun f y f1 _ => by rw [upfam f1]) (fun y yx => by funext k; exact up_n fun q => yx q.2.1) (up_n (by simp)) (fun f y => up_n fun q => absurd q.2.2 (by decide)) (fun k _ => by rw [upfam (by decide)]) (by rw [upfam (by decide)]; exact R'.1.2.2.2.1) fun _ => ?_
        · simp [List.filter_append, yx]
        · obtain ⟨f1, f2, f3, f4⟩ := E'
          have h2 : ∀ k, ¬ k = 13 → up h' 2 x 13 0 2 x k = h' 2 x k := fun k hk => up_n fun q => hk q.2.2
          refine ⟨?_, ?_, ⟨?_, ?_, ?_⟩, ?_⟩
          · unfold EVa KY
            rw [h2 0 (by decide), h2 1 (by decide), h2 2 (by decide), h2 3 (by decide), h2 4 (by decide), h2 5 (by decide), h2 6 (by decide), upfam (by decide)]; exact f1
          · unfold EVb; rw [h2 7 (by decide), h2 8 (by decide)]; exact f2
          · rw [h2 9 (by decide), h2 11 (by decide), upfam (by decide)]; exact f3.1
          · unfold seE
            rw [if_neg (fun y => y.elim hwx' fun y => ndw (List.mem_filter.mp y).1), up_at]; rfl
          · unfold seE
            rw [if_neg (fun y => y.elim hwx' fun y => ndw (List.mem_filter.mp y).1)]; trivial
          · unfold EVd
            rw [h2 14 (by decide), h2 15 (by decide)]
            exact ⟨f4.1, fun z => absurd (f4.2.1 z).1 hwx', f4.2.2⟩
  refine b76_0 _ _ h0 Q ?_
  have := outer r.length r [] h0 rfl (by simp) ag_rf (by show RC (shF A (A.1 42 p) []) _ Z od h0; rw [shF_nil]; exact R0)
  rw [c0.1, ← c0.2.2.2.2.1, eo, List.length_append]; exact this
