/-! 98h: the start of the law -/
theorem sC_f {f : Nat} {k : Int32} (hf : f = 10 ∨ 42 ≤ f) : sC f k = false := by
  cases e : sC f k with
  | false => rfl
  | true =>
    simp only [sC, Bool.or_eq_true, Bool.and_eq_true] at e
    rcases e with e | e
    · have := Nat.le_of_ble_eq_true e; omega
    · have := Nat.le_of_ble_eq_true e.1
      have := Nat.le_of_ble_eq_true e.2
      omega
theorem sM_f {f : Nat} {k : Int32} (hf : (f ≤ 41 ∧ ¬ f = 10) ∨ f = 85) : sM f k = false := by
  cases e : sM f k with
  | false => rfl
  | true =>
    simp only [sM, Bool.or_eq_true, Bool.and_eq_true] at e
    rcases e with e | e
    · have := Nat.le_of_ble_eq_true e.1
      have := Nat.le_of_ble_eq_true e.2
      omega
    · have := Nat.eq_of_beq_eq_true e; omega
theorem atF_C {f : Nat} {k : Int32} (h : atF f k = true) : sC f k = false := by
  refine sC_f ?_
  simp only [atF, Bool.or_eq_true, Bool.and_eq_true] at h
  rcases h with (h | h) | h
  · exact Or.inr (Nat.le_of_ble_eq_true h.1)
  · have := Nat.le_of_ble_eq_true h.1
    exact Or.inr (by omega)
  · exact Or.inl (Nat.eq_of_beq_eq_true h.1)
theorem MD_C {n : Nat} {A : SY} {h h' : HP} (hM : MD n A h) (g : ag sC h h') : MD n A h' := by
  obtain ⟨m1, m2, m3, m4, m5, m6⟩ := hM
  have r : ∀ f, 42 ≤ f → h' f 0 = h f 0 := fun f h1 => row_ag g f 0 fun k => sC_f (Or.inr h1)
  have r10 : h' 10 0 = h 10 0 := row_ag g 10 0 fun k => sC_f (Or.inl rfl)
  refine ⟨fun f k z => (g f 0 k (atF_C z)).trans (m1 f k z), ?_, ?_, ?_, ?_, ?_⟩
  · unfold MDp; rw [r 52 (by decide), r 53 (by decide)]; exact m2
  · unfold MDr; rw [r 63 (by decide), r 64 (by decide)]; exact m3
  · unfold MDr; rw [r 65 (by decide), r 66 (by decide)]; exact m4
  · unfold MDw; rw [r 67 (by decide), r10]; exact m5
  · unfold MDc; rw [r 68 (by decide), r10]; exact m6
theorem RC_M {A : SY} {T : List Int32} {Z : Int32 → ZT} {od : List Int32} {h h' : HP} (hP : nP A ≤ 12) (R : RC A T Z od h) (g : ag sM h h') : RC A T Z od h' := by
  have r : ∀ f, f ≤ 41 → ¬ f = 10 → h' f = h f := fun f h1 h2 => funext fun x => row_ag g f x fun k => sM_f (Or.inl ⟨h1, h2⟩)
  refine RC_fr hP R (fun f x q => by rw [r f (by unfold plX at q; omega) (by unfold plX at q; omega)]) ?_
  have F := R.2.2.2.2.2.2
  unfold FR fE f3 fP f3 RM ahN poN soN at F ⊢
  rw [r 0 (by decide) (by decide), r 2 (by decide) (by decide), r 4 (by decide) (by decide), r 8 (by decide) (by decide), r 12 (by decide) (by decide), r 14 (by decide) (by decide), r 18 (by decide) (by decide), r 25 (by decide) (by decide), r 27 (by decide) (by decide), r 28 (by decide) (by decide), r 29 (by decide) (by decide), r 30 (by decide) (by decide), r 31 (by decide) (by decide), r 32 (by decide) (by decide), r 33 (by decide) (by decide), r 39 (by decide) (by decide)]
  exact F
theorem slz_ok {h : HP} {f : Nat} {j : Int32} {P : Prop} (h1 : ¬ h (f - 10) j (-1) = 1) (h2 : ∀ k, k ∈ fixL f → h f j (nI k) = 1) (hp : P) : slzOK h f j P := by
  refine ⟨h1, ?_⟩
  have key : ∀ l : List Nat, (∀ k, k ∈ l → h f j (nI k) = 1) → l.foldr (fun k P => h f j (nI k) = 1 ∧ P) P := by
    intro l
    induction l with
    | nil => intro _; exact hp
    | cons k l ih => intro q; exact ⟨q k (by simp), ih fun k' hk => q k' (by simp [hk])⟩
  exact key _ h2
/-- the empty yard -/
def A0 (h : HP) : SY := (fun f k => h f 0 k, fun _ => [], fun _ => [], fun _ => [], [], [])
theorem no0 {y n : Int32} (hn : n = 0) : ¬ ina y n := fun q => by
  rw [hn] at q
  exact absurd (Int32.lt_of_le_of_lt q.1 q.2) (by decide)
theorem YW_A0 {h : HP} (e0 : h 10 0 0 = 0) (e13 : h 10 0 13 = 0) (e14 : h 10 0 14 = 0) (r : ∀ f, f = 43 ∨ f = 45 ∨ f = 61 → ∀ k, ¬ k = -1 → h f 0 k = 0) : YW (A0 h) := by
  have n : nE (A0 h) = 0 := e13
  have no : ∀ y, ¬ ina y (nE (A0 h)) := fun y => no0 n
  refine ⟨⟨⟨⟨?_, fun p hp => ?_, fun p k hp k0 k1 => ?_⟩, ?_, fun e he => absurd he (no e), fun e he _ => ?_⟩, ⟨fun p d hd => (by cases hd), fun e he => absurd he (no e), fun p => List.Pairwise.nil, fun e he => absurd he (no e)⟩, ⟨List.Pairwise.nil, fun e => ⟨fun q => (by cases q), fun q => absurd q.1 (no e)⟩, fun e he => (by cases he), fun e he => absurd he (no e)⟩, ⟨fun e he => absurd he (no e), fun e he => absurd he (no e)⟩, fun p pre d post q => ?_, fun e he => absurd he (no e), fun e f he => absurd he (no e), ?_⟩, fun e => ⟨Nat.zero_le _, Nat.zero_le _⟩, rfl⟩
  · show 0 ≤ h 10 0 0 ∧ h 10 0 0 ≤ 12
    rw [e0]; decide
  · show (0 ≤ h 43 0 p ∧ h 43 0 p ≤ 8) ∧ (0 ≤ h 45 0 p ∧ h 45 0 p ≤ 8)
    rw [r 43 (by decide) p (ina_n1 hp), r 45 (by decide) p (ina_n1 hp)]; decide
  · have k1 : k < h 45 0 p := k1
    rw [r 45 (by decide) p (ina_n1 hp)] at k1
    exact absurd (Int32.lt_of_le_of_lt k0 k1) (by decide)
  · rw [n]; decide
  · exact r 61 (by decide) e (ina_n1 he)
  · have q : ([] : List Int32) = pre ++ d :: post := q
    cases pre <;> cases q
  · rw [n]
    show 0 ≤ h 10 0 14 ∧ h 10 0 14 ≤ 0
    rw [e14]; decide
theorem law_new (L : Nat) (xs : Nat → Int32) (Q : Option AV → HP → Prop) (H : ∀ hF A, YW A → PZ A → MD 0 A hF → RC A [] (Zst A) [] hF → hF 85 = hinit L xs 85 → WPc 155 18 [(85, 0), (9, 0), (10, 0), (0, 0)] [] hF Q) : WPm 155 [(85, 0)] (hinit L xs) Q := by
  have G0 : GI [] [] [] 0 0 (hinit L xs 85) (hinit L xs) := ⟨rfl, fun f x k h1 _ _ => if_neg fun q => h1 q.1, fun q hq => (by cases hq), fun f hf => (by cases hf), if_neg (by decide), if_neg (by decide)⟩
  have G1 := GI_zap G0 19 0 15 15 (by omega) (by decide) (by decide) (by decide)
  refine b155_0 _ Q ⟨by decide, GI_fl G0 (f := 19) (by decide) (by decide) (by decide), (by rw [G0.2.2.2.2.1]; decide), (by rw [G0.2.2.2.2.2]; decide), rfl, g_yard _ _ _ (GI_sub G1 (fun q h => h) (fun q h => h) (fun q h => h) (by decide) (by decide)) fun h2 G2 => ⟨rfl, slz_ok (GI_fl G2 (f := 9) (by decide) (by decide) (by decide)) (fun k hk => ?_) ?_⟩⟩
  · have key : ∀ k, k ∈ fixL 19 → (19, 0, nI k, 1) ∈ VYc := by decide +kernel
    exact (G2.2.2.1 _ (key k hk)).2
  clear G0 G1
  have G3 := GI_slz G2 19 9 0 rfl (by decide) (by decide) (by decide)
  generalize slz h2 19 0 = h3 at G3 ⊢
  clear G2
  have G4 := GI_zap G3 20 0 68 68 (by omega) (by decide) (by decide) (by decide)
  refine b155_7 _ Q ⟨by decide, GI_fl G3 (f := 20) (by decide) (by decide) (by decide), (by rw [G3.2.2.2.2.1]; decide), (by rw [G3.2.2.2.2.2]; decide), rfl, g_model _ _ _ (GI_sub G4 (fun q h => h) (fun q h => h) (fun q h => h) (by decide) (by decide)) fun h5 n1 n2 G5 => ⟨rfl, slz_ok n1 n2 (b155_15 _ Q ?_)⟩⟩
  clear G3 G4
  have G6 := GI_slz G5 20 10 0 rfl (by decide) (by decide) (by decide)
  generalize slz h5 20 0 = h6 at G6 ⊢
  clear G5 n1 n2
  obtain ⟨g1, g2, g3, g4, g5, g6⟩ := G6
  have v : ∀ f x k w, (f, x, k, w) ∈ vSlz 20 0 VMc → h6 f x k = w := fun f x k w hq => (g3 _ hq).2
  have e0 : h6 10 0 0 = 0 := v _ _ _ _ (by decide +kernel)
  have e13 : h6 10 0 13 = 0 := v _ _ _ _ (by decide +kernel)
  have e14 : h6 10 0 14 = 0 := v _ _ _ _ (by decide +kernel)
  have e28 : h6 10 0 28 = 0 := v _ _ _ _ (by decide +kernel)
  have e30 : h6 10 0 30 = 0 := v _ _ _ _ (by decide +kernel)
  have e32 : h6 10 0 32 = -1 := v _ _ _ _ (by decide +kernel)
  have e33 : h6 10 0 33 = 0 := v _ _ _ _ (by decide +kernel)
  have e34 : h6 10 0 34 = 0 := v _ _ _ _ (by decide +kernel)
  have c1 : h6 9 0 1 = 0 := v _ _ _ _ (by decide +kernel)
  have c10 : h6 9 0 10 = 0 := v _ _ _ _ (by decide +kernel)
  have c11 : h6 9 0 11 = 0 := v _ _ _ _ (by decide +kernel)
  have c12 : h6 9 0 12 = 0 := v _ _ _ _ (by decide +kernel)
  have c13 : h6 9 0 13 = -1 := v _ _ _ _ (by decide +kernel)
  have c14 : h6 9 0 14 = 1 := v _ _ _ _ (by decide +kernel)
  have c31 : h6 3 0 1 = 0 := v _ _ _ _ (by decide +kernel)
  have c60 : h6 6 0 2 = 0 := v _ _ _ _ (by decide +kernel)
  have c61 : h6 6 1 2 = 0 := v _ _ _ _ (by decide +kernel)
  have row : ∀ f, f = 43 ∨ f = 45 ∨ f = 50 ∨ f = 51 ∨ f = 52 ∨ f = 61 ∨ f = 63 ∨ f = 65 → ∀ k, ¬ k = -1 → h6 f 0 k = 0 := fun f hf k hk => by
    rcases hf with rfl | rfl | rfl | rfl | rfl | rfl | rfl | rfl
    · exact ((g4 43 (by decide)).2 k hk).trans rfl
    · exact ((g4 45 (by decide)).2 k hk).trans rfl
    · exact ((g4 50 (by decide)).2 k hk).trans rfl
    · exact ((g4 51 (by decide)).2 k hk).trans rfl
    · exact ((g4 52 (by decide)).2 k hk).trans rfl
    · exact ((g4 61 (by decide)).2 k hk).trans rfl
    · exact ((g4 63 (by decide)).2 k hk).trans rfl
    · exact ((g4 65 (by decide)).2 k hk).trans rfl
  have r32 : ∀ k, ¬ k = -1 → h6 32 0 k = -1 := fun k hk => ((g4 32 (by decide)).2 k hk).trans rfl
  have r33 : ∀ k, ¬ k = -1 → h6 33 0 k = -1 := fun k hk => ((g4 33 (by decide)).2 k hk).trans rfl
  have sF : ∀ f, ¬ f = 85 → ¬ f = 0 → (∀ q, q ∈ ((10, 0) :: SMc : List (Nat × Int32)) → ¬ q.1 = f) → ∀ x, ¬ h6 f x (-1) = 1 := fun f f1 f2 hs x => by
    rw [g2 f x (-1) f1 (fun w => hs _ w rfl) (fun w => f2 w.1)]; decide
  have s24 : ∀ f, f = 18 ∨ f = 8 ∨ f = 39 → ∀ x, ¬ x = 24 → ¬ h6 f x (-1) = 1 := fun f hf x hx => by
    have key : ∀ q, q ∈ ((10, 0) :: SMc : List (Nat × Int32)) → (q.1 = 18 ∨ q.1 = 8 ∨ q.1 = 39) → q.2 = 24 := by decide +kernel
    rw [g2 f x (-1) (by omega) (fun w => hx (key _ w hf)) (by omega)]; decide
  have f3q : ∀ x, ¬ x = 24 → f3 x h6 := fun x hx => ⟨s24 18 (by decide) x hx, s24 8 (by decide) x hx, s24 39 (by decide) x hx⟩
  have fEq : ∀ x, fE x h6 := fun x => ⟨sF 12 (by decide) (by decide) (by decide +kernel) x, sF 2 (by decide) (by decide) (by decide +kernel) x, sF 25 (by decide) (by decide) (by decide +kernel) x⟩
  have n : nE (A0 h6) = 0 := e13
  have np : nP (A0 h6) = 0 := e0
  have no : ∀ y, ¬ ina y (nE (A0 h6)) := fun y => no0 n
  have nop : ∀ y, ¬ ina y (nP (A0 h6)) := fun y => no0 np
  refine H h6 (A0 h6) (YW_A0 e0 e13 e14 fun f hf k hk => row f (by omega) k hk) (fun q hq _ => ⟨row 43 (by decide) q (ina_n1 hq), row 45 (by decide) q (ina_n1 hq), row 50 (by decide) q (ina_n1 hq), row 51 (by decide) q (ina_n1 hq)⟩) ⟨fun _ _ _ => rfl, fun p hp => ⟨row 52 (by decide) p (ina_n1 hp), trivial⟩, fun e he => ⟨row 63 (by decide) e (ina_n1 he), trivial⟩, fun e he => ⟨row 65 (by decide) e (ina_n1 he), trivial⟩, ⟨e28, trivial⟩, ⟨e30, trivial⟩⟩ ⟨⟨?_, ?_, ?_, ?_, ?_, ?_⟩, fun p hp => absurd hp (nop p), fun p hp => absurd hp (nop p), fun e he => absurd he (no e), ⟨?_, trivial, fun e => ⟨fun q => (by cases q), fun q => absurd q (no e)⟩, List.Pairwise.nil, ?_, by decide⟩, ⟨⟨c60, trivial, trivial⟩, ⟨c61, trivial, trivial⟩⟩, ⟨fun e he _ => ⟨fEq e, f3q _ ?_⟩, fun e he => absurd he (no e), fun p hp _ => ⟨sF 14 (by decide) (by decide) (by decide +kernel) p, sF 4 (by decide) (by decide) (by decide +kernel) p, f3q p ?_, sF 27 (by decide) (by decide) (by decide +kernel) p, sF 28 (by decide) (by decide) (by decide +kernel) p, sF 29 (by decide) (by decide) (by decide +kernel) p, sF 30 (by decide) (by decide) (by decide +kernel) p, sF 31 (by decide) (by decide) (by decide +kernel) p⟩, fun m hm => Or.inl ⟨r33 m (ina_n1 hm), fEq _⟩, fun i hi => Or.inl ⟨r32 i (ina_n1 hi), f3q _ ?_⟩, ?_⟩⟩ g1
  · rw [c1, np]
  · show h6 9 0 10 = h6 10 0 14; rw [c10, e14]
  · show h6 9 0 11 = h6 10 0 33; rw [c11, e33]
  · show h6 9 0 12 = h6 10 0 34; rw [c12, e34]
  · show h6 9 0 13 = h6 10 0 32; rw [c13, e32]
  · rw [c14]; exact ⟨by decide, by decide⟩
  · rw [c31, n]
  · rw [n]; rfl
  · unfold ina at he; grind
  · unfold ina at hp; grind
  · unfold ina at hi; grind
  · have t0 : (h6 0 0 0).toInt = 74 := by rw [g5]; rfl
    have t1 : (h6 0 0 1).toInt = 49384 := by rw [g6]; rfl
    have tp : (nP (A0 h6)).toInt = 0 := by rw [np]; rfl
    have te : (nE (A0 h6)).toInt = 0 := by rw [n]; rfl
    unfold RM
    rw [t0, t1, tp, te]
    omega
