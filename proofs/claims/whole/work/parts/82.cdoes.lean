/-! 82: the class: what an event sends -/
theorem mkF_nE {A : SY} {p m b s c x : Int32} : nE (mkF A p m b s c x) = nE A + 1 := by
  show mk1 A.1 (nE A) p m b s c x 10 13 = _
  rw [mk1_10, if_pos rfl]
theorem mkF_nP {A : SY} {p m b s c x : Int32} : nP (mkF A p m b s c x) = nP A := by
  show mk1 A.1 (nE A) p m b s c x 10 0 = _
  rw [mk1_10, if_neg (by decide)]
theorem ar_21 {n : Int32} {k : Nat} (h0 : 0 ≤ n) (h1 : n + nI (k + 1) ≤ 400) (h4 : n ≤ 400) (hk : k < 8) : n < 400 ∧ ina n (n + 1) ∧ 0 ≤ n + 1 ∧ n + 1 + nI k ≤ 400 ∧ n + 1 ≤ 400 ∧ (∀ j, ina j n → ina j (n + 1)) ∧ ∀ j, n + 1 ≤ j → n ≤ j := by
  rw [nJ_s] at h1
  have b0 : 0 ≤ nI k := nJ_nn (by omega)
  have b1 : nI k < 8 := (nJ_lt (b := 8) (by omega) (by omega)).mpr hk
  unfold ina
  refine ⟨?_, ?_, ?_, ?_, ?_, fun j hj => ?_, fun j hj => ?_⟩ <;> grind
theorem s_dSend (e p l m c0 : Int32) (Z : Int32 → ZT) (Q : Option AV → HP → Prop) (h0 : HP) (he : ¬ e = -1) (hp : ¬ p = -1) : ∀ (os : List (Int32 × Int32 × Int32)) (k : Nat) (B : SY) (od : List Int32) (h : HP), k + os.length ≤ 8 → RC B [] Z od h → ag sC h0 h → h 1 0 3 = nI (k + os.length) → h 1 0 4 = c0 →
    LSq (h 21 0) (nI k) (os.map fun q => q.1) → LSq (h 22 0) (nI k) (os.map fun q => q.2.1) → LSq (h 23 0) (nI k) (os.map fun q => q.2.2) → B.1 55 e = m → pa B e = p → h 4 p 0 = l → ina e (nE B) →
    (0 ≤ nP B ∧ nP B ≤ 12) → (0 ≤ nE B ∧ nE B + nI os.length ≤ 400) → (∀ j, ina j 400 → nE B ≤ j → B.1 61 j = 0) → (∀ j, (j, true) ∈ wy B → ina j (nE B)) → (∀ q d, d ∈ dn B q → ina d (nE B)) → (∀ o, o ∈ os → ina o.1 (nP B)) → (wy (sndF B l p m (c0 + nI k) os)).length + (cm (sndF B l p m (c0 + nI k) os)).length ≤ 800 →
    (∀ od' h', ag sC h0 h' → RC (sndF B l p m (c0 + nI k) os) [] Z od' h' → Q none h') → WPc 67 109 [(9, 0), (2, e), (4, p), (0, nI k), (500, 0)] [] h Q := by
  intro os
  induction os with
  | nil =>
    intro k B od h hk R g e3 e4 l1 l2 l3 em ep el ie iP iE z61 wyB dnB op w8 H
    refine b67_109 _ _ _ h Q ⟨fun _ => H od h g R, fun z => absurd ?_ z⟩
    rw [e3]; exact Int32.le_refl _
  | cons o os ih =>
    intro k B od h hk R g e3 e4 l1 l2 l3 em ep el ie iP iE z61 wyB dnB op w8 H
    have hk' : k + os.length < 8 := by simp at hk; omega
    have i8 : ina (nI k) 8 := ⟨nJ_nn (by omega), (nJ_lt (b := 8) (by omega) (by omega)).mpr (by omega)⟩
    have n4 := CO_4 R.2.2.2.2.1
    have ar := ar_21 iE.1 iE.2 n4 (by omega)
    have nin : ¬ ina (nE B) (nE B) := fun z => absurd z.2 (by grind)
    have pO : ina o.1 (nP B) := op o (by simp)
    have pO12 : ina o.1 12 := ⟨pO.1, Int32.lt_of_lt_of_le pO.2 iP.2⟩
    refine b67_109 _ _ _ h Q ⟨fun z => ?_, fun _ => ⟨i8, i8, he, he, i8, ?_⟩⟩
    · rw [e3, nJ_le (by omega) (by omega)] at z
      exfalso; simp at z; omega
    · rw [show h 21 0 (nI k) = o.1 from l1.1, show h 22 0 (nI k) = o.2.1 from l2.1, show h 23 0 (nI k) = o.2.2 from l3.1, (R.2.2.2.1 e ie).1.2.2.2.1.1, (R.2.2.2.1 e ie).1.2.2.1, em, ep, e4]
      refine s_addEvent B [] Z od o.1 o.2.1 m p (c0 + nI k) o.2.2 h _ R iP ⟨iE.1, ar.1⟩ (z61 _ ⟨iE.1, ar.1⟩ (Int32.le_refl _)) (fun z => nin (wyB _ z)) (by simp) dnB fun od1 h1 g1 f1 R1 => ?_
      have e41 : h1 4 p = h 4 p := f1 4 p (by decide) (by decide) (by decide) (by decide) (by decide) (by decide) (by decide)
      refine b67_168 _ _ _ _ h1 Q ⟨hp, ?_⟩
      rw [e41, el]
      have mono := sndF_mono os (psA (mkF B o.1 o.2.1 m p (c0 + nI k) o.2.2) l [(nE B, false)]) l p m (c0 + nI k + 1)
      have mN := mk1_new (a := B.1) (n := nE B) (p := o.1) (m := o.2.1) (b := m) (s := p) (c := c0 + nI k) (x := o.2.2)
      have pN : pa (mkF B o.1 o.2.1 m p (c0 + nI k) o.2.2) (nE B) = o.1 := mN.1
      have nEm := mkF_nE (A := B) (p := o.1) (m := o.2.1) (b := m) (s := p) (c := c0 + nI k) (x := o.2.2)
      have nPm := mkF_nP (A := B) (p := o.1) (m := o.2.1) (b := m) (s := p) (c := c0 + nI k) (x := o.2.2)
      have en : ¬ e = nE B := fun z => by rw [z] at ie; exact nin ie
      have w8' : (wy (psA (mkF B o.1 o.2.1 m p (c0 + nI k) o.2.2) l [(nE B, false)])).length + (cm (psA (mkF B o.1 o.2.1 m p (c0 + nI k) o.2.2) l [(nE B, false)])).length ≤ 800 := by
        have a1 := mono.1
        have a2 := mono.2
        have a3 : (wy (sndF (psA (mkF B o.1 o.2.1 m p (c0 + nI k) o.2.2) l [(nE B, false)]) l p m (c0 + nI k + 1) os)).length + (cm (sndF (psA (mkF B o.1 o.2.1 m p (c0 + nI k) o.2.2) l [(nE B, false)]) l p m (c0 + nI k + 1) os)).length ≤ 800 := w8
        omega
      have wl : (wy B).length < 800 ∧ (cm B).length < 800 := by
        rw [psA_1] at w8'
        by_cases q : (mkF B o.1 o.2.1 m p (c0 + nI k) o.2.2).1 42 ((mkF B o.1 o.2.1 m p (c0 + nI k) o.2.2).1 54 (nE B, false).1) = l
        · rw [if_pos q, if_pos q] at w8'
          have : (wy B ++ []).length + (cm B ++ [(nE B, false)]).length ≤ 800 := w8'
          simp at this; omega
        · rw [if_neg q, if_neg q] at w8'
          have : (wy B ++ [(nE B, false)]).length + (cm B ++ []).length ≤ 800 := w8'
          simp at this; omega
      refine s_post (mkF B o.1 o.2.1 m p (c0 + nI k) o.2.2) [] Z od1 (nE B) l false h1 _ R1 (by rw [nEm]; exact ar.2.1) (by rw [pN, nPm]; exact ⟨pO, pO12⟩) (fun z => by cases z) wl.1 wl.2 fun h2 g2 f2 f2' R2 => b67_181 _ _ _ _ h2 Q ?_
      have rr : ∀ f y, ¬ f = 0 → ¬ f = 2 → ¬ f = 12 → ¬ f = 25 → ¬ f = 3 → ¬ f = 26 → ¬ f = 41 → ¬ f = 6 → ¬ f = 34 → ¬ f = 35 → h2 f y = h f y := fun f y a0 a2 a12 a25 a3 a26 a41 a6 a34 a35 => by
        rw [f2 f y a2 a6 a34 a35, f1 f y a0 a2 a12 a25 a3 a26 a41]
      have r1 : ∀ f, f = 1 ∨ f = 21 ∨ f = 22 ∨ f = 23 ∨ f = 4 → ∀ y, h2 f y = h f y := fun f hf y => rr f y (by omega) (by omega) (by omega) (by omega) (by omega) (by omega) (by omega) (by omega) (by omega) (by omega)
      have nEp : nE (psA (mkF B o.1 o.2.1 m p (c0 + nI k) o.2.2) l [(nE B, false)]) = nE B + 1 := nEm
      have nPp : nP (psA (mkF B o.1 o.2.1 m p (c0 + nI k) o.2.2) l [(nE B, false)]) = nP B := nPm
      have old : ∀ f, ¬ f = 10 → (psA (mkF B o.1 o.2.1 m p (c0 + nI k) o.2.2) l [(nE B, false)]).1 f e = B.1 f e := fun f hf => mk1_old (a := B.1) (n := nE B) (p := o.1) (m := o.2.1) (b := m) (s := p) (c := c0 + nI k) (x := o.2.2) hf en
      have hck : c0 + nI k + 1 = c0 + nI (k + 1) := by rw [nJ_s]; grind
      have go := ih (k + 1) (psA (mkF B o.1 o.2.1 m p (c0 + nI k) o.2.2) l [(nE B, false)]) od1 h2 (by omega) R2 (ag_tr g (ag_tr g1 g2)) (by rw [r1 1 (by simp), e3]; congr 1; simp; omega) (by rw [r1 1 (by simp)]; exact e4) (by rw [r1 21 (by simp), nJ_s]; exact l1.2) (by rw [r1 22 (by simp), nJ_s]; exact l2.2) (by rw [r1 23 (by simp), nJ_s]; exact l3.2)
        ((old 55 (by decide)).trans em) ((old 54 (by decide)).trans ep) (by rw [r1 4 (by simp)]; exact el) (by rw [nEp]; exact ar.2.2.2.2.2.1 e ie) (by rw [nPp]; exact iP) (by rw [nEp]; exact ⟨ar.2.2.1, ar.2.2.2.1⟩) (fun j h1 h2 => by
          rw [nEp] at h2
          show mk1 B.1 (nE B) o.1 o.2.1 m p (c0 + nI k) o.2.2 61 j = 0
          rw [mk1_fam (by decide) (by decide)]
          exact z61 j h1 (ar.2.2.2.2.2.2 j h2)) (fun j hj => by
          rw [nEp]
          refine ar.2.2.2.2.2.1 j (wyB j ?_)
          rw [psA_1] at hj
          have hj : (j, true) ∈ wy B ++ (if (mkF B o.1 o.2.1 m p (c0 + nI k) o.2.2).1 42 ((mkF B o.1 o.2.1 m p (c0 + nI k) o.2.2).1 54 (nE B, false).1) = l then [] else [(nE B, false)]) := hj
          rcases List.mem_append.mp hj with q | q
          · exact q
          · split at q
            · cases q
            · simp at q) (fun q d hd => by rw [nEp]; exact ar.2.2.2.2.2.1 d (dnB q d hd)) (fun o' ho => by rw [nPp]; exact op o' (by simp [ho])) (by rw [← hck]; exact w8) (fun od' h' g' R' => H od' h' g' (by rw [← hck] at R'; exact R'))
      rw [nJ_s] at go
      exact go
