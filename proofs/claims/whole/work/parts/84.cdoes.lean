/-! 84: the class: doEvent -/
theorem RC_Z {A : SY} {T : List Int32} {Z Z' : Int32 → ZT} {od : List Int32} {h : HP} (R : RC A T Z od h) (e : ∀ p, ina p (nP A) → Z' p = Z p) : RC A T Z' od h :=
  ⟨R.1, R.2.1, fun p hp => by rw [e p hp]; exact R.2.2.1 p hp, R.2.2.2⟩
theorem dsB_dn {A : SY} {e : Int32} (hI : YV A) (ine : ina e (nE A)) : ∀ q d, d ∈ dn (dsB A e) q → ina d (nE A) := fun q d hd => by
  have hd : d ∈ ul (dn A) (pa A e) (dn A (pa A e) ++ [e]) q := hd
  unfold ul at hd
  split at hd
  · rcases List.mem_append.mp hd with z | z
    · exact (hI.2.1.1 _ d z).1
    · rw [List.mem_singleton.mp z]; exact ine
  · exact (hI.2.1.1 _ d hd).1
theorem dsB_nE {A : SY} {e : Int32} : nE (dsB A e) = nE A := congrFun (dsB_fam (A := A) (e := e) (f := 10) (by decide) (by decide) (by decide)) 13
theorem dsB_nP {A : SY} {e : Int32} : nP (dsB A e) = nP A := congrFun (dsB_fam (A := A) (e := e) (f := 10) (by decide) (by decide) (by decide)) 0
theorem dsF_B (A : SY) (e : Int32) : dsF A e = sndF (dsB A e) (A.1 42 (pa A e)) (pa A e) (A.1 55 e) (zOf A e).2.2 (wOf A e).2.2.2.2.1 := rfl
theorem dsF_Z {A : SY} {e : Int32} (hI : YV A) (ine : ina e (nE A)) (hn : nE A ≤ 392) (hl : (wOf A e).2.2.2.2.1.length ≤ 8) (q : Int32) : Zst (dsF A e) q = Zst (dsB A e) q := by
  rw [dsF_B, sndF_eq hl, dsB_nE]
  generalize (wOf A e).2.2.2.2.1 = os at hl
  show rp (mkL (pa A e) (A.1 55 e) (dsB A e).1 (nE A) (zOf A e).2.2 os) q (dn (dsB A e) q) = rp (dsB A e).1 q (dn (dsB A e) q)
  have s10 := mkL_10 (p := pa A e) (m := A.1 55 e) (os := os) (c := (zOf A e).2.2) (a := (dsB A e).1) (n := nE A) dsB_nE
  refine rp_sr ⟨s10.2 0 (by decide), fun f f1 f2 => mkL_fam (by omega) (by omega)⟩ _ _ fun d hd => ?_
  have id' := dsB_dn hI ine q d hd
  have hlI : nI os.length ≤ 8 := (nJ_le (b := 8) (by omega) (by omega)).mpr hl
  have nm : ¬ d ∈ nums (nE A) os.length := fun hj => by
    obtain ⟨i, h1, h2⟩ := nums_mem.mp hj
    have x1 : 0 ≤ nI i := nJ_nn (by omega)
    have x2 : nI i < nI os.length := (nJ_lt (by omega) (by omega)).mpr h1
    rw [h2] at id'
    exact ar_2 id' (ar_1 hI.1.2.1.1 hn x1 x2 hlI).1
  exact ⟨mkL_old (by decide) nm, mkL_old (by decide) nm⟩
theorem s_doEvent (A : SY) (od : List Int32) (e : Int32) (h : HP) (Q : Option AV → HP → Prop) (hI : YV A) (R : RC A [] (Zst A) od h) (ine : ina e (nE A)) (h0 : hw A e = 0) (hn : nE A ≤ 392)
    (hmin : ∀ f, ina f (nE A) → hw A f = 0 → pa A f = pa A e → ¬ f = e → bel A.1 e f) (H : ∀ od' h', ag sC h h' → RC (dsF A e) [] (Zst (dsF A e)) od' h' → Q none h') : WPm 67 [(9, 0), (2, e)] h Q := by
  obtain ⟨g1, g2, g3, g4, g5, ⟨g6, g6'⟩, g7⟩ := id R
  have gg := ga hI ine
  have ev := g4 e ine
  have pp := g2 (pa A e) gg.2.2
  have en := ina_n1 ine
  have pn := ina_n1 gg.2.1
  have n4 := CO_4 g5
  have r1 := hI.1.1
  have hP12 : 0 ≤ nP A ∧ nP A ≤ 12 := r1.1
  have hE0 := hI.1.2.1.1
  have ne0 : ¬ h 9 0 14 = 0 := fun z => by
    have := g1.2.2.2.2.2
    rw [z] at this
    exact absurd this (by unfold isIn; decide)
  have cz : CZ (zOf A e) (pa A e) h := g3 (pa A e) gg.2.2
  have fb := actsF_b (m := A.1 55 e) (v := A.1 59 e) r1 gg.2.1 (rp_d r1 gg.2.1 (dn A (pa A e)))
  have fo := actsF_o (v := A.1 59 e) (z := rp A.1 (pa A e) (dn A (pa A e))) r1 gg.2.2 (hI.1.2.2.1 e ine).2.1
  have ho8 : (wOf A e).2.2.2.2.1.length ≤ 8 := fb.1
  have hp8 : (wOf A e).2.2.2.2.2.length ≤ 8 := fb.2.1
  have np := ((ar_20 (q := pa A e) ine n4).1 gg.2.1).1
  have after : ∀ x h1, (x = 0 ∨ x = 1) → ag sC h h1 → (∀ f y k, ¬ (f = 2 ∧ y = e ∧ (k = 14 ∨ k = 15)) → ¬ ((f = 39 ∨ f = 8 ∨ f = 18) ∧ y = 100 + e) → ¬ (f = 0 ∧ y = 0) → h1 f y k = h f y k) → h1 2 e 15 = x → (x = 1 → h1 2 e 14 = 100 + e ∧ CZ (zOf A e) (100 + e) h1) → (h1 2 e 14 = -1 ∨ h1 2 e 14 = 100 + e) → FR A h1 → WPc 67 35 [(9, 0), (2, e), (4, pa A e), (500, 0), (500, 0)] [] h1 Q := by
    intro x h1 hx gC f1 k15 kx k14 F
    have row1 : ∀ f y, ¬ f = 2 → ¬ f = 39 → ¬ f = 8 → ¬ f = 18 → ¬ f = 0 → h1 f y = h f y := fun f y a1 a2 a3 a4 a5 => by
      funext k; exact f1 f y k (fun q => a1 q.1) (fun q => by rcases q.1 with w | w | w; exact a2 w; exact a3 w; exact a4 w) (fun q => a5 q.1)
    refine b67_35 _ _ h1 Q ⟨pn, ?_⟩
    rw [row1 9 0 (by decide) (by decide) (by decide) (by decide) (by decide), g1.1]
    refine s_perform A.1 0 (pa A e) (pa A e) e (A.1 55 e) (A.1 59 e) (nP A) (zOf A e) h1 _ r1 gg.2.1 gg.2.2 rfl pn en (PRp_co pp.2.2.1 fun f hf => row1 f _ (by omega) (by omega) (by omega) (by omega) (by omega)) (by rw [f1 2 e 2 (by simp) (by simp) (by simp)]; exact ev.1.2.2.2.1.1) (by rw [f1 2 e 6 (by simp) (by simp) (by simp)]; exact ev.1.2.2.2.2) (CZ_co cz (by funext k; exact f1 39 _ k (by simp) (fun q => np q.2) (by simp)) (by funext k; exact f1 8 _ k (by simp) (fun q => np q.2) (by simp))) (rp_d r1 gg.2.1 _) fun h2 ga2 z2 e4 => ?_
    have z2 : ZC (wOf A e) 0 (pa A e) h2 := z2
    obtain ⟨zc1, zc2, zc3, zc4, ⟨zc5, zc5a, zc5b, zc5c⟩, zc6, zc7⟩ := z2
    refine b67_52 _ _ h2 Q ⟨en, en, s_takeResults e (wOf A e).2.2.2.1 (wOf A e).2.2.2.2.2 (up h2 2 e 7 1) _ en (by rw [upfam (by decide)]; exact zc4) (by rw [upfam (by decide)]; exact zc6) (by rw [upfam (by decide)]; exact zc7) hp8 fun h3 fa q9 q11 q25 => b67_65 _ _ h3 Q ⟨pn, pn, pn, pn, en, en, ?_⟩⟩
    -- h3 by h1
    have F3 : ∀ f y k, ¬ (f = 2 ∧ y = e ∧ (k = 7 ∨ k = 9 ∨ k = 11)) → ¬ (f = 25 ∧ y = e ∧ ¬ k = -1) → (k = -1 ∨ ¬ wD 0 (pa A e) f y) → h3 f y k = h1 f y k := fun f y k a1 a2 a3 => by
      rw [fa f y k (fun q => a1 ⟨q.1, q.2.1, Or.inr q.2.2⟩) a2, up_n (fun q => a1 ⟨q.1, q.2.1, Or.inl q.2.2⟩), ga2 f y k a3]
    have row32 : ∀ f y, ¬ f = 2 → ¬ f = 25 → h3 f y = h2 f y := fun f y a1 a2 => by
      funext k
      rw [fa f y k (fun q => a1 q.1) (fun q => a2 q.1), up_n (fun q => a1 q.1)]
    have nw : ∀ f y, ¬ f = 1 → ¬ (21 ≤ f ∧ f ≤ 24) → ¬ ((f = 39 ∨ f = 8) ∧ y = pa A e) → ¬ wD 0 (pa A e) f y := fun f y a1 a2 a3 q => by
      rcases q with q | q | q
      · exact a1 q.1
      · exact a2 ⟨q.1, q.2.1⟩
      · exact a3 q
    have k7 : h3 2 e 7 = 1 := by rw [fa 2 e 7 (by simp) (by simp)]; exact up_at
    have v301 : h3 3 0 1 = nE A := by
      rw [F3 3 0 1 (by simp) (by simp) (Or.inr (nw 3 0 (by decide) (by decide) (by simp))), row1 3 0 (by decide) (by decide) (by decide) (by decide) (by decide)]; exact g5.1
    have v103 : h3 1 0 3 = nI (wOf A e).2.2.2.2.1.length := by rw [row32 1 0 (by decide) (by decide)]; exact zc5
    have row4 : ∀ y, h3 4 y = h 4 y := fun y => by
      funext k
      rw [F3 4 y k (by simp) (by simp) (Or.inr (nw 4 y (by decide) (by decide) (by simp))), row1 4 y (by decide) (by decide) (by decide) (by decide) (by decide)]
    rw [v301, v103, row4, up_n (by simp), row4]
    have G1 : ∀ f y k, ¬ (f = 2 ∧ y = e ∧ (k = 12 ∨ k = 13)) → ¬ (f = 4 ∧ y = pa A e ∧ (k = 9 ∨ k = 10)) → (up (up (up (up h3 4 (pa A e) 9 (h 4 (pa A e) 9 + 1)) 4 (pa A e) 10 (h 4 (pa A e) 10 + 1)) 2 e 12 (nE A)) 2 e 13 (nI (wOf A e).2.2.2.2.1.length)) f y k = h3 f y k := fun f y k a1 a2 => by
      rw [up_n (fun q => a1 ⟨q.1, q.2.1, Or.inr q.2.2⟩), up_n (fun q => a1 ⟨q.1, q.2.1, Or.inl q.2.2⟩), up_n (fun q => a2 ⟨q.1, q.2.1, Or.inr q.2.2⟩), up_n (fun q => a2 ⟨q.1, q.2.1, Or.inl q.2.2⟩)]
    have c9 : (up (up (up (up h3 4 (pa A e) 9 (h 4 (pa A e) 9 + 1)) 4 (pa A e) 10 (h 4 (pa A e) 10 + 1)) 2 e 12 (nE A)) 2 e 13 (nI (wOf A e).2.2.2.2.1.length)) 4 (pa A e) 9 = h 4 (pa A e) 9 + 1 := by rw [up_n (by simp), up_n (by simp), up_n (by simp), up_at]
    have c10 : (up (up (up (up h3 4 (pa A e) 9 (h 4 (pa A e) 9 + 1)) 4 (pa A e) 10 (h 4 (pa A e) 10 + 1)) 2 e 12 (nE A)) 2 e 13 (nI (wOf A e).2.2.2.2.1.length)) 4 (pa A e) 10 = h 4 (pa A e) 10 + 1 := by rw [up_n (by simp), up_n (by simp), up_at]
    have c12 : (up (up (up (up h3 4 (pa A e) 9 (h 4 (pa A e) 9 + 1)) 4 (pa A e) 10 (h 4 (pa A e) 10 + 1)) 2 e 12 (nE A)) 2 e 13 (nI (wOf A e).2.2.2.2.1.length)) 2 e 12 = nE A := by rw [up_n (by simp), up_at]
    have c13 : (up (up (up (up h3 4 (pa A e) 9 (h 4 (pa A e) 9 + 1)) 4 (pa A e) 10 (h 4 (pa A e) 10 + 1)) 2 e 12 (nE A)) 2 e 13 (nI (wOf A e).2.2.2.2.1.length)) 2 e 13 = nI (wOf A e).2.2.2.2.1.length := up_at
    generalize (up (up (up (up h3 4 (pa A e) 9 (h 4 (pa A e) 9 + 1)) 4 (pa A e) 10 (h 4 (pa A e) 10 + 1)) 2 e 12 (nE A)) 2 e 13 (nI (wOf A e).2.2.2.2.1.length)) = h4 at G1 c9 c10 c12 c13
    have G2 : ∀ f y k, ¬ (f = 2 ∧ y = e ∧ (k = 7 ∨ k = 9 ∨ k = 11 ∨ k = 12 ∨ k = 13)) → ¬ (f = 4 ∧ y = pa A e ∧ (k = 9 ∨ k = 10)) → ¬ (f = 25 ∧ y = e ∧ ¬ k = -1) → (k = -1 ∨ ¬ wD 0 (pa A e) f y) → h4 f y k = h1 f y k := fun f y k a1 a2 a3 a4 => by
      rw [G1 f y k (fun q => a1 ⟨q.1, q.2.1, q.2.2.elim (fun w => by simp [w]) (fun w => by simp [w])⟩) a2, F3 f y k (fun q => a1 ⟨q.1, q.2.1, by rcases q.2.2 with w | w | w <;> simp [w]⟩) a3 a4]
    have G3 : ∀ f y, ¬ f = 0 → ¬ f = 1 → ¬ f = 2 → ¬ f = 4 → ¬ f = 8 → ¬ f = 18 → ¬ (21 ≤ f ∧ f ≤ 25) → ¬ f = 39 → h4 f y = h f y := fun f y a0 a1 a2 a4 a8 a18 a21 a39 => by
      funext k
      rw [G2 f y k (fun q => a2 q.1) (fun q => a4 q.1) (fun q => a21 ⟨by omega, by omega⟩) (Or.inr (nw f y a1 (fun q => a21 ⟨q.1, by omega⟩) (fun q => q.1.elim a39 a8))), row1 f y a2 a39 a8 a18 a0]
    have gD : ag sC h h4 := fun f y k z => by
      have hf : ¬ (f ≤ 9) ∧ ¬ (11 ≤ f ∧ f ≤ 41) := by
        unfold sC at z
        rw [Bool.or_eq_false_iff, Bool.and_eq_false_iff] at z
        have z1 := z.1
        have z2 := z.2
        refine ⟨fun q => ?_, fun q => ?_⟩
        · rw [Nat.ble_eq_true_of_le q] at z1; cases z1
        · rcases z2 with z2 | z2
          · rw [Nat.ble_eq_true_of_le q.1] at z2; cases z2
          · rw [Nat.ble_eq_true_of_le q.2] at z2; cases z2
      rw [G3 f y (by omega) (by omega) (by omega) (by omega) (by omega) (by omega) (by omega) (by omega)]
    have rB : RC (dsB A e) [] (Zst (dsB A e)) od h4 := by
      refine RC_dsB (x := x) hI R ine h0 G3 (fun y hy => ⟨?_, ?_⟩) (fun y hy => ?_) (fun k a7 a9 a11 a12 a13 a14 a15 => ?_) (fun k a9 a10 => ?_) c9 c10 (fun y y1 y2 => ⟨?_, ?_⟩) ?_ ?_ ?_ ?_ ?_ c12 c13 ?_ hx ?_ ?_ ?_
      · funext k
        rw [G2 2 y k (fun q => hy q.2.1) (by simp) (by simp) (Or.inr (nw 2 y (by decide) (by decide) (by simp))), f1 2 y k (fun q => hy q.2.1) (by simp) (by simp)]
      · funext k
        rw [G2 25 y k (by simp) (by simp) (fun q => hy q.2.1) (Or.inr (nw 25 y (by decide) (by decide) (by simp))), f1 25 y k (by simp) (by simp) (by simp)]
      · funext k
        rw [G1 4 y k (by simp) (fun q => hy q.2.1), row4]
      · rw [G2 2 e k (fun q => by rcases q.2.2 with w | w | w | w | w; exact a7 w; exact a9 w; exact a11 w; exact a12 w; exact a13 w) (by simp) (by simp) (Or.inr (nw 2 e (by decide) (by decide) (by simp))), f1 2 e k (fun q => q.2.2.elim a14 a15) (by simp) (by simp)]
      · rw [G1 4 (pa A e) k (by simp) (fun q => q.2.2.elim a9 a10), row4]
      · funext k
        rw [G2 39 y k (by simp) (by simp) (by simp) (Or.inr (nw 39 y (by decide) (by decide) (fun q => y1 q.2))), f1 39 y k (by simp) (fun q => y2 q.2) (by simp)]
      · funext k
        rw [G2 8 y k (by simp) (by simp) (by simp) (Or.inr (nw 8 y (by decide) (by decide) (fun q => y1 q.2))), f1 8 y k (by simp) (fun q => y2 q.2) (by simp)]
      · have i39 : ∀ k, h4 39 (pa A e) k = h2 39 (pa A e) k := fun k => by rw [G1 39 _ k (by simp) (by simp), row32 39 _ (by decide) (by decide)]
        have i8 : ∀ k, h4 8 (pa A e) k = h2 8 (pa A e) k := fun k => by rw [G1 8 _ k (by simp) (by simp), row32 8 _ (by decide) (by decide)]
        exact ⟨fun i hi => by rw [i39]; exact zc1 i hi, by rw [i8]; exact zc2, by rw [i8]; exact zc3⟩
      · rw [G1 2 e 7 (by simp) (by simp)]; exact k7
      · rw [G1 2 e 9 (by simp) (by simp)]; exact q9
      · rw [G1 2 e 11 (by simp) (by simp)]; exact q11
      · rw [show h4 25 e = h3 25 e from funext fun k => G1 25 e k (by simp) (by simp)]; exact q25
      · rw [G2 2 e 15 (by simp) (by simp) (by simp) (Or.inr (nw 2 e (by decide) (by decide) (by simp)))]; exact k15
      · intro z
        have ne : ¬ 100 + e = pa A e := fun w => np w.symm
        refine ⟨by rw [G2 2 e 14 (by simp) (by simp) (by simp) (Or.inr (nw 2 e (by decide) (by decide) (by simp)))]; exact (kx z).1, CZ_co (kx z).2 ?_ ?_⟩
        · funext k; exact G2 39 _ k (by simp) (by simp) (by simp) (Or.inr (nw 39 _ (by decide) (by decide) (fun q => ne q.2)))
        · funext k; exact G2 8 _ k (by simp) (by simp) (by simp) (Or.inr (nw 8 _ (by decide) (by decide) (fun q => ne q.2)))
      · rw [G2 2 e 14 (by simp) (by simp) (by simp) (Or.inr (nw 2 e (by decide) (by decide) (by simp)))]; exact k14
      · exact FR_co F (fun f y => G2 f y (-1) (by simp) (by simp) (by simp) (Or.inl rfl)) (fun y _ => G2 2 y 14 (by simp) (by simp) (by simp) (Or.inr (nw 2 y (by decide) (by decide) (by simp)))) (by funext k; exact G2 33 0 k (by simp) (by simp) (by simp) (Or.inr (nw 33 0 (by decide) (by decide) (by simp)))) (by funext k; exact G2 32 0 k (by simp) (by simp) (by simp) (Or.inr (nw 32 0 (by decide) (by decide) (by simp)))) (by funext k; exact G2 0 0 k (by simp) (by simp) (by simp) (Or.inr (nw 0 0 (by decide) (by decide) (by simp)))) n4 rfl rfl
    have rD : ∀ f, f = 1 ∨ f = 21 ∨ f = 22 ∨ f = 23 → h4 f 0 = h2 f 0 := fun f hf => by
      funext k
      rw [G1 f 0 k (by omega) (by omega), row32 f 0 (by omega) (by omega)]
    have hI' := YV_dsF hI ine h0 hn hmin
    have pc := pnd_cnt hI'
    have cl := cnt_le (dsF A e)
    have sum : (wy (dsF A e)).length + (cm (dsF A e)).length ≤ 800 := by
      unfold pnd at pc
      rw [List.length_append] at pc
      omega
    have hlI : nI (wOf A e).2.2.2.2.1.length ≤ 8 := (nJ_le (b := 8) (by omega) (by omega)).mpr ho8
    have hl0 : 0 ≤ nI (wOf A e).2.2.2.2.1.length := nJ_nn (by omega)
    have c00 : (zOf A e).2.2 + nI 0 = (zOf A e).2.2 := by rw [nJ_0, Int32.add_zero]
    have go := s_dSend e (pa A e) (A.1 42 (pa A e)) (A.1 55 e) (zOf A e).2.2 (Zst (dsB A e)) Q h en pn (wOf A e).2.2.2.2.1 0 (dsB A e) od h4 (by omega) rB gD (by rw [rD 1 (by simp), zc5, Nat.zero_add]) (by rw [rD 1 (by simp)]; exact e4) (by rw [rD 21 (by simp), nJ_0]; exact zc5a) (by rw [rD 22 (by simp), nJ_0]; exact zc5b) (by rw [rD 23 (by simp), nJ_0]; exact zc5c)
      (congrFun (dsB_fam (A := A) (e := e) (f := 55) (by decide) (by decide) (by decide)) e) (congrFun (dsB_fam (A := A) (e := e) (f := 54) (by decide) (by decide) (by decide)) e) (by rw [G1 4 _ 0 (by simp) (by simp), row4]; exact pp.2.1) (by rw [dsB_nE]; exact ine) (by rw [dsB_nP]; exact hP12) (by rw [dsB_nE]; exact ⟨hE0, (ar_6 hE0 hn hl0 hlI).2⟩)
      (fun j j1 j2 => by rw [dsB_nE] at j2; rw [dsB_fam (by decide) (by decide) (by decide)]; exact hI.1.2.2.2 j j1 j2) (fun j hj => by rw [dsB_nE]; exact (hI.2.2.1.2.2.1 j (List.mem_append.mpr (Or.inl hj))).1) (fun q d hd => by rw [dsB_nE]; exact dsB_dn hI ine q d hd) (fun o ho => by rw [dsB_nP]; exact (fo.1 o ho).1) (by rw [c00]; exact sum) (fun od' h' g' R' => H od' h' g' (RC_Z (by rw [c00] at R'; exact R') fun q _ => dsF_Z hI ine hn ho8 q))
    exact go
  refine b67_0 _ h Q ?_
  rw [ev.1.2.2.1, pp.1]
  exact ⟨en, gg.2.1, pn, pn, ne0, fun _ => ⟨en, s_keepAhead A [] (Zst A) od e (pa A e) 0 (zOf A e) h _ R hP12 hE0 ine gg.2.1 cz (Or.inl rfl) fun h1 a1 a2 a3 a4 a5 a6 => after 0 h1 (Or.inl rfl) a1 a2 a3 a4 a5 a6⟩, fun _ => ⟨en, s_keepAhead A [] (Zst A) od e (pa A e) 1 (zOf A e) h _ R hP12 hE0 ine gg.2.1 cz (Or.inr rfl) fun h1 a1 a2 a3 a4 a5 a6 => after 1 h1 (Or.inr rfl) a1 a2 a3 a4 a5 a6⟩⟩
