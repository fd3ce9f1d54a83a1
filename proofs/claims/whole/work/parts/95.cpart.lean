/-! 95: the class: part -/
theorem le6 {a : Int32} (h0 : 0 ≤ a.toInt) (h1 : a.toInt ≤ 500000) : a + 1 ≤ 600000 ∧ (a + 1).toInt = a.toInt + 1 := by
  have t : (a + 1).toInt = a.toInt + 1 := by
    rw [Int32.toInt_add, show (1 : Int32).toInt = 1 from rfl, Int.bmod_eq_of_le (by omega) (by omega)]
  refine ⟨?_, t⟩
  rw [Int32.le_iff_toInt_le, t, show (600000 : Int32).toInt = 600000 from rfl]; omega
theorem le7 {b c : Int32} {m : Int} (hc : c.toInt = m) (hm : 0 ≤ m ∧ m ≤ 20) (h0 : 0 ≤ b.toInt) (h1 : b.toInt ≤ 1000000) : b + c ≤ 7302250 ∧ (b + c).toInt = b.toInt + m := by
  have t : (b + c).toInt = b.toInt + m := by
    rw [Int32.toInt_add, hc, Int.bmod_eq_of_le (by omega) (by omega)]
  refine ⟨?_, t⟩
  rw [Int32.le_iff_toInt_le, t, show (7302250 : Int32).toInt = 7302250 from rfl]; omega
theorem RM_sm {A : SY} {h : HP} (r : RM A h) (h1 : 0 ≤ nE A ∧ nE A ≤ 400) (h2 : 0 ≤ nP A ∧ nP A ≤ 12) : (0 ≤ (h 0 0 0).toInt ∧ (h 0 0 0).toInt ≤ 3000) ∧ (0 ≤ (h 0 0 1).toInt ∧ (h 0 0 1).toInt ≤ 230000) := by
  have a1 : (ahN A h : Int) ≤ 400 := by
    have := rng_flt (nE A).toNatClampNeg fun n => !decide (h 2 (nI n) 14 = -1)
    obtain ⟨N, e, hN⟩ := nJ_exlt (N := 401) (by decide) h1.1 (Int32.lt_of_le_of_lt h1.2 (by decide))
    have e2 : (nE A).toNatClampNeg = N := by rw [e]; exact Int32.toNatClampNeg_ofNat_of_lt (by omega)
    unfold ahN
    omega
  have a2 : (poN h : Int) ≤ 400 := by
    have := rng_flt 400 fun n => !decide (h 33 0 (nI n) = -1)
    unfold poN; omega
  have a3 : (soN h : Int) ≤ 12 := by
    have := rng_flt 12 fun n => !decide (h 32 0 (nI n) = -1)
    unfold soN; omega
  have b1 := Int32.le_iff_toInt_le.mp h1.2
  have b2 := Int32.le_iff_toInt_le.mp h2.2
  have e4 : (400 : Int32).toInt = 400 := rfl
  have e12 : (12 : Int32).toInt = 12 := rfl
  unfold RM at r
  omega
theorem s_newPart (p l : Int32) (h : HP) (K : HP → Prop) (hp : ina p 12) (f : fP p h) (r : (0 ≤ (h 0 0 0).toInt ∧ (h 0 0 0).toInt ≤ 3000) ∧ (0 ≤ (h 0 0 1).toInt ∧ (h 0 0 1).toInt ≤ 230000)) (H : K (nPt p l h)) :
    ¬ p = -1 ∧ (¬ (h 14 p (-1)) = 1 ∧ ((h 0 0 0) + 1 ≤ 600000 ∧ ((h 0 0 1) + 12 ≤ 7302250 ∧ (p = p ∧ WPm 19 [(14, p), (0, l)] (zap h 14 p 12) (fun w h' => w = none ∧ slzOK h' 14 p (K (slz h' 14 p))))))) := by
  have pn := ina_n1 hp
  obtain ⟨⟨r1, r2⟩, r3, r4⟩ := r
  have a0 := le6 r1 (by omega)
  have s0 := le7 (c := 12) (m := 12) rfl (by omega) r3 (by omega)
  refine ⟨pn, f.1, a0.1, s0.1, rfl, b19_0 _ _ _ _ (s_newState p (zap h 14 p 12) (fun h' => WPc 19 12 [(14, p), (0, l)] [(8, p), (14, p)] h' _) pn ?_ ?_ ?_)⟩
  · unfold f3
    rw [zap_n (by simp) (by simp), zap_n (by simp) (by simp), zap_n (by simp) (by simp)]; exact f.2.2.1
  · unfold RoL
    rw [(zap_00 (by decide)).1, (zap_00 (by decide)).2]
    omega
  · have z0' : nS p (zap h 14 p 12) 0 0 0 = h 0 0 0 + 1 + 1 + 1 ∧ nS p (zap h 14 p 12) 0 0 1 = h 0 0 1 + 12 + 3 + 4 := by rw [nS_0.1, nS_0.2, (zap_00 (by decide)).1, (zap_00 (by decide)).2]; exact ⟨rfl, rfl⟩
    have a1 := le6 (a := h 0 0 0 + 1) (by omega) (by omega)
    have a2 := le6 (a := h 0 0 0 + 1 + 1) (by omega) (by omega)
    have a3 := le6 (a := h 0 0 0 + 1 + 1 + 1) (by omega) (by omega)
    have a4 := le6 (a := h 0 0 0 + 1 + 1 + 1 + 1) (by omega) (by omega)
    have a5 := le6 (a := h 0 0 0 + 1 + 1 + 1 + 1 + 1) (by omega) (by omega)
    have a6 := le6 (a := h 0 0 0 + 1 + 1 + 1 + 1 + 1 + 1) (by omega) (by omega)
    have a7 := le6 (a := h 0 0 0 + 1 + 1 + 1 + 1 + 1 + 1 + 1) (by omega) (by omega)
    have s1 := le7 (b := h 0 0 1 + 12) (c := 3) (m := 3) rfl (by omega) (by omega) (by omega)
    have s2 := le7 (b := h 0 0 1 + 12 + 3) (c := 4) (m := 4) rfl (by omega) (by omega) (by omega)
    have s3 := le7 (b := h 0 0 1 + 12 + 3 + 4) (c := 8) (m := 8) rfl (by omega) (by omega) (by omega)
    have s4 := le7 (b := h 0 0 1 + 12 + 3 + 4 + 8) (c := 8) (m := 8) rfl (by omega) (by omega) (by omega)
    have s5 := le7 (b := h 0 0 1 + 12 + 3 + 4 + 8 + 8) (c := 8) (m := 8) rfl (by omega) (by omega) (by omega)
    have s6 := le7 (b := h 0 0 1 + 12 + 3 + 4 + 8 + 8 + 8) (c := 8) (m := 8) rfl (by omega) (by omega) (by omega)
    have s7 := le7 (b := h 0 0 1 + 12 + 3 + 4 + 8 + 8 + 8 + 8) (c := 8) (m := 8) rfl (by omega) (by omega) (by omega)
    have fl : ∀ g, 27 ≤ g ∧ g ≤ 31 → nS p (zap h 14 p 12) g p (-1) = h g p (-1) := fun g hg => by
      rw [nS_n (by omega) (by omega) (by omega) (by omega), zap_n (by omega) (by omega)]
    refine b19_12 _ _ _ _ _ _ ⟨rfl, rfl, pn, ?_, ?_, ?_, rfl, rfl, pn, ?_, ?_, ?_, rfl, rfl, pn, ?_, ?_, ?_, rfl, rfl, pn, ?_, ?_, ?_, rfl, rfl, pn, ?_, ?_, ?_, rfl, ?_⟩
    · rw [fl 27 (by decide)]; exact f.2.2.2.1
    · rw [z0'.1]; exact a3.1
    · rw [z0'.2]; exact s3.1
    · rw [fl 28 (by decide)]; exact f.2.2.2.2.1
    · rw [(zap_00 (by decide)).1, upfam (by decide), z0'.1]; exact a4.1
    · rw [(zap_00 (by decide)).2, upfam (by decide), z0'.2]; exact s4.1
    · rw [fl 29 (by decide)]; exact f.2.2.2.2.2.1
    · rw [(zap_00 (by decide)).1, upfam (by decide), (zap_00 (by decide)).1, upfam (by decide), z0'.1]; exact a5.1
    · rw [(zap_00 (by decide)).2, upfam (by decide), (zap_00 (by decide)).2, upfam (by decide), z0'.2]; exact s5.1
    · rw [fl 30 (by decide)]; exact f.2.2.2.2.2.2.1
    · rw [(zap_00 (by decide)).1, upfam (by decide), (zap_00 (by decide)).1, upfam (by decide), (zap_00 (by decide)).1, upfam (by decide), z0'.1]; exact a6.1
    · rw [(zap_00 (by decide)).2, upfam (by decide), (zap_00 (by decide)).2, upfam (by decide), (zap_00 (by decide)).2, upfam (by decide), z0'.2]; exact s6.1
    · rw [fl 31 (by decide)]; exact f.2.2.2.2.2.2.2
    · rw [(zap_00 (by decide)).1, upfam (by decide), (zap_00 (by decide)).1, upfam (by decide), (zap_00 (by decide)).1, upfam (by decide), (zap_00 (by decide)).1, upfam (by decide), z0'.1]; exact a7.1
    · rw [(zap_00 (by decide)).2, upfam (by decide), (zap_00 (by decide)).2, upfam (by decide), (zap_00 (by decide)).2, upfam (by decide), (zap_00 (by decide)).2, upfam (by decide), z0'.2]; exact s7.1
    · refine ⟨rfl, ?_⟩
      show slzOK (xPt p l h) 14 p (K (nPt p l h))
      refine ⟨?_, ?_, ?_, ?_, ?_, ?_, ?_, H⟩
      · show ¬ xPt p l h 4 p (-1) = 1
        rw [xPt_n (by simp) (by simp) (by simp) (by simp) (by omega) (by simp)]; exact f.2.1
      · show xPt p l h 14 p 1 = 1
        unfold xPt
        rw [up_n (by simp), up_n (by simp), zap_n (by simp) (by simp), up_n (by simp), zap_n (by simp) (by simp), up_n (by simp), zap_n (by simp) (by simp), up_n (by simp), zap_n (by simp) (by simp), up_n (by simp), zap_n (by simp) (by simp), up_at]
      · show xPt p l h 14 p 2 = 1
        unfold xPt
        rw [up_n (by simp), up_n (by simp), zap_n (by simp) (by simp), up_n (by simp), zap_n (by simp) (by simp), up_n (by simp), zap_n (by simp) (by simp), up_n (by simp), zap_n (by simp) (by simp), up_at]
      · show xPt p l h 14 p 4 = 1
        unfold xPt
        rw [up_n (by simp), up_n (by simp), zap_n (by simp) (by simp), up_n (by simp), zap_n (by simp) (by simp), up_n (by simp), zap_n (by simp) (by simp), up_at]
      · show xPt p l h 14 p 5 = 1
        unfold xPt
        rw [up_n (by simp), up_n (by simp), zap_n (by simp) (by simp), up_n (by simp), zap_n (by simp) (by simp), up_at]
      · show xPt p l h 14 p 6 = 1
        unfold xPt
        rw [up_n (by simp), up_n (by simp), zap_n (by simp) (by simp), up_at]
      · show xPt p l h 14 p 7 = 1
        unfold xPt
        rw [up_n (by simp), up_at]
theorem C_part (A : SY) (l : Int32) (od : List Int32) (h : HP) (Q : Option AV → HP → Prop) (hY : YW A) (pz : PZ A) (R : RC A [] (Zst A) od h) (H : ∀ od' h', ag sC h h' → RC (opPart A l).2 [] (Zst (opPart A l).2) od' h' → Q (some (0, (opPart A l).1)) h') : WPm 37 [(9, 0), (0, l)] h Q := by
  unfold opPart at H
  have hI := hY.1
  obtain ⟨g1, g2, g3, g4, g5, ⟨g6, g6'⟩, g7⟩ := id R
  have n4 := CO_4 g5
  refine b37_0 _ h Q (c_line _ h _ (fun z => b37_4 _ _ h Q ⟨fun _ => ?_, fun y => absurd y (by decide)⟩) (fun z => b37_4 _ _ h Q ⟨fun y => absurd rfl y, fun _ => ?_⟩))
  · rw [if_pos z] at H
    rw [g5.1, g1.1]
    refine ⟨fun e0 => ⟨fun p12 => ?_, fun p12 => ?_⟩, fun e0 => ?_⟩
    · rw [if_neg (ar_22.1 e0), if_neg (fun q => by rw [q] at p12; exact absurd p12 (by decide))] at H
      have zE : nE A = 0 := nE_z hI (ar_22.1 e0)
      have ip : ina (nP A) 12 := ⟨hI.1.1.1.1, p12⟩
      have pn := ina_n1 ip
      have fp := g7.2.2.1 (nP A) ip (Int32.le_refl _)
      have sm := RM_sm g7.2.2.2.2.2 ⟨hI.1.2.1.1, n4⟩ hI.1.1.1
      have p0 := pz (nP A) ip (Int32.le_refl _)
      have dn0 := nil_of hI zE
      refine s_newPart (nP A) l h (fun h' => WPc 37 51 [(9, 0), (0, l)] [(4, nP A), (0, nP A), (40, 0)] h' Q) ip fp sm (b37_51 _ _ _ _ Q ⟨ip, pn, ?_⟩)
      have e91 : nPt (nP A) l h 9 0 1 = nP A := by rw [nPt_n (by simp) (by simp) (by simp) (by simp) (by simp) (by omega) (by simp)]; exact g1.1
      rw [e91, show nP A + 1 - 1 = nP A by grind]
      have n4' := nPt_4 (p := nP A) (l := l) (h := h)
      have nF : ∀ f y k, ¬ (f = 4 ∧ y = nP A) → ¬ (f = 14 ∧ y = nP A) → ¬ (f = 8 ∧ y = nP A) → ¬ (f = 18 ∧ y = nP A) → ¬ (f = 39 ∧ y = nP A) → ¬ (27 ≤ f ∧ f ≤ 31 ∧ y = nP A) → ¬ (f = 0 ∧ y = 0) → ¬ (f = 40 ∧ y = 0 ∧ k = nP A) → ¬ (f = 9 ∧ y = 0 ∧ k = 1) → (up (up (nPt (nP A) l h) 40 0 (nP A) (nP A)) 9 0 1 (nP A + 1)) f y k = h f y k := fun f y k a1 a2 a3 a4 a5 a6 a7 a8 a9 => by
        rw [up_n a9, up_n a8, nPt_n a1 a2 a3 a4 a5 a6 a7]
      have u4 : ∀ k, (up (up (nPt (nP A) l h) 40 0 (nP A) (nP A)) 9 0 1 (nP A + 1)) 4 (nP A) k = nPt (nP A) l h 4 (nP A) k := fun k => by rw [upfam (by decide), upfam (by decide)]
      have u40 : (up (up (nPt (nP A) l h) 40 0 (nP A) (nP A)) 9 0 1 (nP A + 1)) 40 0 (nP A) = nP A := by rw [upfam (by decide), up_at]
      have u91 : (up (up (nPt (nP A) l h) 40 0 (nP A) (nP A)) 9 0 1 (nP A + 1)) 9 0 1 = nP A + 1 := up_at
      have uz : CZ z0 (nP A) (nPt (nP A) l h) → CZ z0 (nP A) (up (up (nPt (nP A) l h) 40 0 (nP A) (nP A)) 9 0 1 (nP A + 1)) := fun c => CZ_co c (by rw [upfam (by decide), upfam (by decide)]) (by rw [upfam (by decide), upfam (by decide)])
      have c00 : (up (up (nPt (nP A) l h) 40 0 (nP A) (nP A)) 9 0 1 (nP A + 1)) 0 0 0 = h 0 0 0 + 1 + 1 + 1 + 1 + 1 + 1 + 1 + 1 := by rw [upfam (by decide), upfam (by decide)]; exact nPt_0.1
      have c01 : (up (up (nPt (nP A) l h) 40 0 (nP A) (nP A)) 9 0 1 (nP A + 1)) 0 0 1 = h 0 0 1 + 12 + 3 + 4 + 8 + 8 + 8 + 8 + 8 := by rw [upfam (by decide), upfam (by decide)]; exact nPt_0.2
      have uz := uz nPt_CZ
      generalize (up (up (nPt (nP A) l h) 40 0 (nP A) (nP A)) 9 0 1 (nP A + 1)) = h' at nF u4 u40 u91 uz c00 c01
      have aF : ∀ f, ¬ f = 42 → ¬ f = 10 → (sa (sa A.1 42 (nP A) l) 10 0 (nP A + 1), A.2).1 f = A.1 f := fun f f1 f2 => by
        show sa (sa A.1 42 (nP A) l) 10 0 (nP A + 1) f = _
        rw [sa_fam f2, sa_fam f1]
      have a42 : ∀ q, (sa (sa A.1 42 (nP A) l) 10 0 (nP A + 1), A.2).1 42 q = if q = nP A then l else A.1 42 q := fun q => by simp [sa]
      have a10 : ∀ k, ¬ k = 0 → (sa (sa A.1 42 (nP A) l) 10 0 (nP A + 1), A.2).1 10 k = A.1 10 k := fun k hk => by simp [sa, hk]
      have nP' : nP (sa (sa A.1 42 (nP A) l) 10 0 (nP A + 1), A.2) = nP A + 1 := by simp [nP, sa]
      have nE' : nE (sa (sa A.1 42 (nP A) l) 10 0 (nP A + 1), A.2) = nE A := a10 13 (by decide)
      have dn' : ∀ q, dn (sa (sa A.1 42 (nP A) l) 10 0 (nP A + 1), A.2) q = [] := dn0
      have zz : ∀ q, Zst (sa (sa A.1 42 (nP A) l) 10 0 (nP A + 1), A.2) q = z0 := fun q => by
        unfold Zst
        rw [dn']; simp only [rp, rpF, List.foldl_nil]
      have zA : ∀ q, Zst A q = z0 := fun q => by
        unfold Zst
        rw [dn0]; simp only [rp, rpF, List.foldl_nil]
      refine H od h' (fun f y k w => ?_) ?_
      · have hf : ¬ (f ≤ 9) ∧ ¬ (11 ≤ f ∧ f ≤ 41) := by
          unfold sC at w
          rw [Bool.or_eq_false_iff, Bool.and_eq_false_iff] at w
          have w1 := w.1
          have w2 := w.2
          refine ⟨fun q => ?_, fun q => ?_⟩
          · rw [Nat.ble_eq_true_of_le q] at w1; cases w1
          · rcases w2 with w2 | w2
            · rw [Nat.ble_eq_true_of_le q.1] at w2; cases w2
            · rw [Nat.ble_eq_true_of_le q.2] at w2; cases w2
        exact nF f y k (by omega) (by omega) (by omega) (by omega) (by omega) (by omega) (by omega) (by omega) (by omega)
      have wy' : wy (sa (sa A.1 42 (nP A) l) 10 0 (nP A + 1), A.2) = wy A := rfl
      have cm' : cm (sa (sa A.1 42 (nP A) l) 10 0 (nP A + 1), A.2) = cm A := rfl
      clear H
      generalize (sa (sa A.1 42 (nP A) l) 10 0 (nP A + 1), A.2) = A' at *
      have no : ∀ y, ¬ ina y (nE A) := fun y q => by
        rw [zE] at q
        exact absurd (Int32.lt_of_le_of_lt q.1 q.2) (by decide)
      have cases : ∀ q, ina q (nP A + 1) → q = nP A ∨ (ina q (nP A) ∧ ¬ q = nP A) := fun q hq => by
        by_cases w : q = nP A
        · exact Or.inl w
        · refine Or.inr ⟨⟨hq.1, ?_⟩, w⟩
          have := hq.2
          have := ip
          unfold ina at this
          grind
      have k9 : ∀ k, ¬ k = 1 → h' 9 0 k = h 9 0 k := fun k hk => nF 9 0 k (by simp) (by simp) (by simp) (by simp) (by simp) (by omega) (by simp) (by simp) (by simp [hk])
      have rowF : ∀ f y, ¬ f = 4 → ¬ f = 14 → ¬ f = 8 → ¬ f = 18 → ¬ f = 39 → ¬ (27 ≤ f ∧ f ≤ 31) → ¬ f = 0 → ¬ f = 40 → ¬ f = 9 → h' f y = h f y := fun f y a1 a2 a3 a4 a5 a6 a7 a8 a9 => funext fun k => nF f y k (fun w => a1 w.1) (fun w => a2 w.1) (fun w => a3 w.1) (fun w => a4 w.1) (fun w => a5 w.1) (fun w => a6 ⟨w.1, w.2.1⟩) (fun w => a7 w.1) (fun w => a8 w.1) (fun w => a9 w.1)
      have rowq : ∀ f y, ¬ y = nP A → ¬ f = 0 → ¬ f = 40 → ¬ f = 9 → h' f y = h f y := fun f y a1 a7 a8 a9 => funext fun k => nF f y k (fun w => a1 w.2) (fun w => a1 w.2) (fun w => a1 w.2) (fun w => a1 w.2) (fun w => a1 w.2) (fun w => a1 w.2.2) (fun w => a7 w.1) (fun w => a8 w.1) (fun w => a9 w.1)
      have f3q : ∀ s, ¬ s = nP A → (f3 s h' ↔ f3 s h) := fun s hs => by
        unfold f3
        rw [rowq 18 s hs (by decide) (by decide) (by decide), rowq 8 s hs (by decide) (by decide) (by decide), rowq 39 s hs (by decide) (by decide) (by decide)]
      have fEq : ∀ s, (fE s h' ↔ fE s h) := fun s => by
        unfold fE
        rw [rowF 12 s (by decide) (by decide) (by decide) (by decide) (by decide) (by decide) (by decide) (by decide) (by decide), rowF 2 s (by decide) (by decide) (by decide) (by decide) (by decide) (by decide) (by decide) (by decide) (by decide), rowF 25 s (by decide) (by decide) (by decide) (by decide) (by decide) (by decide) (by decide) (by decide) (by decide)]
      have r33 := rowF 33 0 (by decide) (by decide) (by decide) (by decide) (by decide) (by decide) (by decide) (by decide) (by decide)
      have r32 := rowF 32 0 (by decide) (by decide) (by decide) (by decide) (by decide) (by decide) (by decide) (by decide) (by decide)
      refine ⟨⟨u91.trans nP'.symm, ?_, ?_, ?_, ?_, ?_⟩, fun q hq => ?_, fun q hq => ?_, fun e he => ?_, ?_, ⟨?_, ?_⟩, ?_, ?_, ?_, ?_, ?_, ?_⟩
      · rw [k9 10 (by decide), a10 14 (by decide)]; exact g1.2.1
      · rw [k9 11 (by decide), a10 33 (by decide)]; exact g1.2.2.1
      · rw [k9 12 (by decide), a10 34 (by decide)]; exact g1.2.2.2.1
      · rw [k9 13 (by decide), a10 32 (by decide)]; exact g1.2.2.2.2.1
      · rw [k9 14 (by decide)]; exact g1.2.2.2.2.2
      · rw [nP'] at hq
        unfold CPp PRp
        rw [aF 43 (by decide) (by decide), aF 44 (by decide) (by decide), aF 45 (by decide) (by decide), aF 46 (by decide) (by decide), aF 47 (by decide) (by decide), aF 48 (by decide) (by decide), aF 49 (by decide) (by decide), aF 50 (by decide) (by decide), aF 51 (by decide) (by decide), a42, dn']
        rcases cases q hq with w | ⟨w, w'⟩
        · subst w
          rw [u40, if_pos rfl, u4, u4, u4, u4, u4, u4, n4'.1, n4'.2.1, n4'.2.2.1, n4'.2.2.2.1, n4'.2.2.2.2.1, n4'.2.2.2.2.2, p0.1, p0.2.1, p0.2.2.1, p0.2.2.2]
          have nok : ∀ k : Int32, 0 ≤ k → ¬ k < 0 := fun k a b => absurd (Int32.lt_of_le_of_lt a b) (by decide)
          exact ⟨rfl, rfl, ⟨rfl, fun k a b => absurd b (nok k a), rfl, fun k a b => absurd b (nok k a)⟩, rfl, rfl, rfl⟩
        · have c := g2 q w
          unfold CPp PRp at c
          rw [dn0] at c
          rw [if_neg w', nF 40 0 q (by simp) (by simp) (by simp) (by simp) (by simp) (by omega) (by simp) (by simp [w']) (by simp), rowq 4 q w' (by decide) (by decide) (by decide), rowq 27 q w' (by decide) (by decide) (by decide), rowq 28 q w' (by decide) (by decide) (by decide), rowq 29 q w' (by decide) (by decide) (by decide), rowq 30 q w' (by decide) (by decide) (by decide), rowq 31 q w' (by decide) (by decide) (by decide)]
          exact c
      · rw [nP'] at hq
        rw [zz]
        rcases cases q hq with w | ⟨w, w'⟩
        · rw [w]; exact uz
        · have c := g3 q w
          rw [zA] at c
          exact CZ_co c (rowq 39 q w' (by decide) (by decide) (by decide)) (rowq 8 q w' (by decide) (by decide) (by decide))
      · rw [nE'] at he
        exact absurd he (no e)
      · unfold CO
        rw [rowF 3 0 (by decide) (by decide) (by decide) (by decide) (by decide) (by decide) (by decide) (by decide) (by decide), rowF 26 0 (by decide) (by decide) (by decide) (by decide) (by decide) (by decide) (by decide) (by decide) (by decide), nE', bel_co (a := A.1) (b := A'.1) fun f f1 f2 => aF f (by omega) (by omega)]
        exact g5
      · rw [wy']
        exact CPs_co g6 fun f hf => rowF f 0 (by omega) (by omega) (by omega) (by omega) (by omega) (by omega) (by omega) (by omega) (by omega)
      · rw [cm']
        exact CPs_co g6' fun f hf => rowF f 1 (by omega) (by omega) (by omega) (by omega) (by omega) (by omega) (by omega) (by omega) (by omega)
      · intro e he hn
        rw [nE'] at hn
        have o := g7.1 e he hn
        exact ⟨(fEq e).mpr o.1, (f3q _ (fun w => ((ar_20 he (Int32.le_refl _)).1 ip).1 w.symm)).mpr o.2⟩
      · intro e he
        rw [nE'] at he
        exact absurd he (no e)
      · intro q hq hn
        rw [nP'] at hn
        have lt : nP A ≤ q ∧ ¬ q = nP A := by
          have := hq; have i2 := ip; unfold ina at this i2; grind
        have o := g7.2.2.1 q hq lt.1
        have w' := lt.2
        unfold fP at o ⊢
        rw [rowq 14 q w' (by decide) (by decide) (by decide), rowq 4 q w' (by decide) (by decide) (by decide), f3q q w', rowq 27 q w' (by decide) (by decide) (by decide), rowq 28 q w' (by decide) (by decide) (by decide), rowq 29 q w' (by decide) (by decide) (by decide), rowq 30 q w' (by decide) (by decide) (by decide), rowq 31 q w' (by decide) (by decide) (by decide)]
        exact o
      · intro n hn
        rw [r33, fEq]; exact g7.2.2.2.1 n hn
      · intro i hi
        rw [r32, f3q (12 + i) (by have := hi; have i2 := ip; unfold ina at this i2; grind)]; exact g7.2.2.2.2.1 i hi
      · have rm := g7.2.2.2.2.2
        have hah : ahN A' h' = ahN A h := ahN_co (fun e he => absurd he (no e)) nE' n4
        have hpo : poN h' = poN h := by unfold poN; rw [r33]
        have hso : soN h' = soN h := by unfold soN; rw [r32]
        obtain ⟨⟨s1, s2⟩, s3, s4⟩ := sm
        have a0 := (le6 s1 (by omega)).2
        have a1 := (le6 (a := h 0 0 0 + 1) (by omega) (by omega)).2
        have a2 := (le6 (a := h 0 0 0 + 1 + 1) (by omega) (by omega)).2
        have a3 := (le6 (a := h 0 0 0 + 1 + 1 + 1) (by omega) (by omega)).2
        have a4 := (le6 (a := h 0 0 0 + 1 + 1 + 1 + 1) (by omega) (by omega)).2
        have a5 := (le6 (a := h 0 0 0 + 1 + 1 + 1 + 1 + 1) (by omega) (by omega)).2
        have a6 := (le6 (a := h 0 0 0 + 1 + 1 + 1 + 1 + 1 + 1) (by omega) (by omega)).2
        have a7 := (le6 (a := h 0 0 0 + 1 + 1 + 1 + 1 + 1 + 1 + 1) (by omega) (by omega)).2
        have b0 := (le7 (b := h 0 0 1) (c := 12) (m := 12) rfl (by omega) (by omega) (by omega)).2
        have b1 := (le7 (b := h 0 0 1 + 12) (c := 3) (m := 3) rfl (by omega) (by omega) (by omega)).2
        have b2 := (le7 (b := h 0 0 1 + 12 + 3) (c := 4) (m := 4) rfl (by omega) (by omega) (by omega)).2
        have b3 := (le7 (b := h 0 0 1 + 12 + 3 + 4) (c := 8) (m := 8) rfl (by omega) (by omega) (by omega)).2
        have b4 := (le7 (b := h 0 0 1 + 12 + 3 + 4 + 8) (c := 8) (m := 8) rfl (by omega) (by omega) (by omega)).2
        have b5 := (le7 (b := h 0 0 1 + 12 + 3 + 4 + 8 + 8) (c := 8) (m := 8) rfl (by omega) (by omega) (by omega)).2
        have b6 := (le7 (b := h 0 0 1 + 12 + 3 + 4 + 8 + 8 + 8) (c := 8) (m := 8) rfl (by omega) (by omega) (by omega)).2
        have b7 := (le7 (b := h 0 0 1 + 12 + 3 + 4 + 8 + 8 + 8 + 8) (c := 8) (m := 8) rfl (by omega) (by omega) (by omega)).2
        have pp := (le6 (a := nP A) (by have := Int32.le_iff_toInt_le.mp ip.1; have e0 : (0 : Int32).toInt = 0 := rfl; omega) (by have := Int32.lt_iff_toInt_lt.mp ip.2; have e0 : (12 : Int32).toInt = 12 := rfl; omega)).2
        unfold RM at rm ⊢
        rw [hah, hpo, hso, nE', nP', c00, c01]
        omega
    · have e12 : nP A = 12 := by have := hI.1.1.1.2; have e : nP A = A.1 10 0 := rfl; rw [e] at p12 ⊢; grind
      rw [if_neg (ar_22.1 e0), if_pos e12] at H
      exact H od h ag_rf R
    · rw [if_pos (ar_22.2 e0)] at H
      exact H od h ag_rf R
  · rw [if_neg z] at H
    exact H od h ag_rf R
