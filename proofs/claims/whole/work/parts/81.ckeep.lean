/-! 81: the class: keepAhead, takeResults -/
theorem flt_one {p p' : Nat → Bool} {m : Nat} (ho : ∀ n, ¬ n = m → p' n = p n) (h0 : p m = false) (h1 : p' m = true) : ∀ N, ((List.range N).filter p').length = ((List.range N).filter p).length + if m < N then 1 else 0
  | 0 => by simp
  | N + 1 => by
    have ih := flt_one ho h0 h1 N
    rw [List.range_succ, List.filter_append, List.filter_append, List.length_append, List.length_append, ih]
    by_cases z : N = m
    · subst z
      simp [h0, h1]
    · have e : [N].filter p' = [N].filter p := by simp [List.filter, ho N z]
      rw [e]
      by_cases y : m < N
      · rw [if_pos y, if_pos (by omega)]; omega
      · rw [if_neg y, if_neg (by omega)]; omega
theorem ar_20 {e n q : Int32} (he : ina e n) (hn : n ≤ 400) : (ina q 12 → ¬ q = 100 + e ∧ ¬ 12 + q = 100 + e) ∧ (¬ q = e → ¬ 100 + q = 100 + e) ∧ ¬ 100 + e = -1 ∧ ina e 400 := by
  unfold ina at *; grind
theorem wSC {s : Int32} {h h' : HP} (g : agw (wS s) h h') : ag sC h h' := fun f y k z => g f y k (Or.inr fun q => by
  rcases q.1 with w | w <;> (subst w; exact absurd z (by simp [sC])))
theorem s_keepAhead (A : SY) (T : List Int32) (Z : Int32 → ZT) (od : List Int32) (e p x : Int32) (z : ZT) (h : HP) (Q : Option AV → HP → Prop) (R : RC A T Z od h) (hP12 : 0 ≤ nP A ∧ nP A ≤ 12) (hE0 : 0 ≤ nE A) (he : ina e (nE A)) (hp : ina p 12) (hz : CZ z p h) (hx : x = 0 ∨ x = 1)
    (H : ∀ h', ag sC h h' → (∀ f y k, ¬ (f = 2 ∧ y = e ∧ (k = 14 ∨ k = 15)) → ¬ ((f = 39 ∨ f = 8 ∨ f = 18) ∧ y = 100 + e) → ¬ (f = 0 ∧ y = 0) → h' f y k = h f y k) → h' 2 e 15 = x → (x = 1 → h' 2 e 14 = 100 + e ∧ CZ z (100 + e) h') → (h' 2 e 14 = -1 ∨ h' 2 e 14 = 100 + e) → FR A h' → Q none h') : WPm 9 [(2, e), (8, p), (0, x)] h Q := by
  obtain ⟨g1, g2, g3, g4, g5, ⟨g6, g6'⟩, g7⟩ := id R
  have en := ina_n1 he
  have n4 := CO_4 g5
  have ar := ar_20 (q := p) he n4
  have pn := (ar.1 hp).1
  have ev := (g4 e he).2.2.2.2.2
  have u14 : (up h 2 e 15 x) 2 e 14 = h 2 e 14 := up_n (by simp)
  have g0 : ag sC h (up h 2 e 15 x) := ag_up ag_rf rfl
  have hz1 : CZ z p (up h 2 e 15 x) := CZ_co hz (by rw [upfam (by decide)]) (by rw [upfam (by decide)])
  refine b9_0 _ _ _ h Q ⟨en, hx, fun x1 => ⟨en, ?_⟩, fun x0 => H _ g0 (fun f y k q1 _ _ => up_n fun q => q1 ⟨q.1, q.2.1, Or.inr q.2.2⟩) up_at (fun q => by rw [x0] at q; exact absurd q (by decide)) (by rw [u14]; exact ev) (FR_co g7 (fun f y => up_n (by simp)) (fun y _ => up_n (by simp)) (by rw [upfam (by decide)]) (by rw [upfam (by decide)]) (by rw [upfam (by decide)]) n4 rfl rfl)⟩
  have hx1 : x = 1 := hx.elim (fun q => absurd q x1) id
  rw [u14]
  refine ⟨fun q => ?_, fun q => ?_⟩
  · have e14 : h 2 e 14 = 100 + e := ev.elim (fun w => absurd w q) id
    refine ⟨en, q, ?_⟩
    rw [e14]
    refine s_copy (100 + e) p z _ _ ar.2.2.1 (ina_n1 hp) pn hz1 fun h' g c => b9_36 _ _ _ h' Q ?_
    have fr : ∀ f y k, ¬ (f = 2 ∧ y = e ∧ (k = 14 ∨ k = 15)) → ¬ ((f = 39 ∨ f = 8 ∨ f = 18) ∧ y = 100 + e) → ¬ (f = 0 ∧ y = 0) → h' f y k = h f y k := fun f y k q1 q2 _ => by
      rw [g f y k (Or.inr fun w => q2 ⟨by rcases w.1 with w | w <;> simp [w], w.2⟩)]
      exact up_n fun q => q1 ⟨q.1, q.2.1, Or.inr q.2.2⟩
    have row : ∀ f y, ¬ f = 39 → ¬ f = 8 → h' f y = (up h 2 e 15 x) f y := fun f y f1 f2 => agw_row g fun w => w.1.elim f1 f2
    refine H h' (ag_tr g0 (wSC g)) fr (by rw [row 2 e (by decide) (by decide)]; exact up_at) (fun _ => ⟨by rw [row 2 e (by decide) (by decide), u14]; exact e14, c⟩) (by rw [row 2 e (by decide) (by decide), u14]; exact ev) ?_
    exact FR_co g7 (fun f y => by rw [g f y (-1) (Or.inl rfl)]; exact up_n (by simp)) (fun y _ => by rw [row 2 y (by decide) (by decide)]; exact up_n (by simp)) (by rw [row 33 0 (by decide) (by decide), upfam (by decide)]) (by rw [row 32 0 (by decide) (by decide), upfam (by decide)]) (by rw [row 0 0 (by decide) (by decide), upfam (by decide)]) n4 rfl rfl
  · have rl := RM_RL g7.2.2.2.2.2 ⟨hE0, n4⟩ hP12
    have w00 : ∀ k, (up h 2 e 15 x) 0 0 k = h 0 0 k := fun k => up_n (by simp)
    have rl1 : RoL (up h 2 e 15 x) := by unfold RoL; rw [w00, w00]; exact rl
    have f3e := g7.2.1 e he q
    have f3u : f3 (100 + e) (up h 2 e 15 x) := by
      unfold f3; rw [upfam (by decide), upfam (by decide), upfam (by decide)]; exact f3e
    have base := s_newState (100 + e) (up h 2 e 15 x) (fun h' => WPc 9 25 [(2, e), (8, p), (0, x)] [(8, (100 + e)), (2, e)] h' Q) ar.2.2.1 f3u rl1 ?_
    · rw [show (up h 2 e 15 x) 18 = h 18 from upfam (by decide), show (up h 2 e 15 x) 0 = h 0 from upfam (by decide)] at base
      exact base
    have k14 : (up (nS (100 + e) (up h 2 e 15 x)) 2 e 14 (100 + e)) 2 e 14 = 100 + e := up_at
    refine b9_25 _ _ _ _ _ _ Q ⟨en, en, ?_⟩
    rw [k14]
    have nSn : ∀ f y k, ¬ (f = 2 ∧ y = e ∧ k = 14) → ¬ ((f = 39 ∨ f = 8 ∨ f = 18) ∧ y = 100 + e) → ¬ (f = 0 ∧ y = 0) → (up (nS (100 + e) (up h 2 e 15 x)) 2 e 14 (100 + e)) f y k = (up h 2 e 15 x) f y k := fun f y k q1 q2 q3 => by
      rw [up_n q1, nS_n (fun w => q2 ⟨by simp [w.1], w.2⟩) (fun w => q2 ⟨by simp [w.1], w.2⟩) (fun w => q2 ⟨by simp [w.1], w.2⟩) q3]
    have nfl : ∀ k, (up (nS (100 + e) (up h 2 e 15 x)) 2 e 14 (100 + e)) 0 0 k = nS (100 + e) (up h 2 e 15 x) 0 0 k := fun k => by rw [upfam (by decide)]
    have gN : ag sC h (up (nS (100 + e) (up h 2 e 15 x)) 2 e 14 (100 + e)) := fun f y k w => by
      rw [nSn f y k (fun q => by rw [q.1] at w; exact absurd w (by simp [sC])) (fun q => by rcases q.1 with v | v | v <;> (subst v; exact absurd w (by simp [sC]))) (fun q => by rw [q.1] at w; exact absurd w (by simp [sC]))]
      exact g0 f y k w
    generalize hH : (up (nS (100 + e) (up h 2 e 15 x)) 2 e 14 (100 + e)) = h2 at k14 nSn nfl gN
    have hz2 : CZ z p h2 := CZ_co hz1 (by funext k; exact nSn 39 p k (by simp) (fun w => pn w.2) (by simp)) (by funext k; exact nSn 8 p k (by simp) (fun w => pn w.2) (by simp))
    refine ⟨ar.2.2.1, s_copy (100 + e) p z _ _ ar.2.2.1 (ina_n1 hp) pn hz2 fun h' g c => b9_36 _ _ _ h' Q ?_⟩
    have row : ∀ f y, ¬ f = 39 → ¬ f = 8 → h' f y = h2 f y := fun f y f1 f2 => agw_row g fun w => w.1.elim f1 f2
    have fr : ∀ f y k, ¬ (f = 2 ∧ y = e ∧ (k = 14 ∨ k = 15)) → ¬ ((f = 39 ∨ f = 8 ∨ f = 18) ∧ y = 100 + e) → ¬ (f = 0 ∧ y = 0) → h' f y k = h f y k := fun f y k q1 q2 q3 => by
      rw [g f y k (Or.inr fun w => q2 ⟨by rcases w.1 with w | w <;> simp [w], w.2⟩), nSn f y k (fun w => q1 ⟨w.1, w.2.1, Or.inl w.2.2⟩) q2 q3]
      exact up_n fun q => q1 ⟨q.1, q.2.1, Or.inr q.2.2⟩
    have h14 : h' 2 e 14 = 100 + e := by rw [row 2 e (by decide) (by decide)]; exact k14
    refine H h' (ag_tr gN (wSC g)) fr (by rw [row 2 e (by decide) (by decide), nSn 2 e 15 (by simp) (by simp) (by simp)]; exact up_at) (fun _ => ⟨h14, c⟩) (Or.inr h14) ?_
    obtain ⟨a1, a2, a3, a4, a5, a6⟩ := g7
    have fl : ∀ f y, ¬ ((f = 39 ∨ f = 8 ∨ f = 18) ∧ y = 100 + e) → ¬ (f = 0 ∧ y = 0) → h' f y (-1) = h f y (-1) := fun f y q1 q2 => fr f y (-1) (by simp) q1 q2
    have t3 : ∀ s, ¬ s = 100 + e → f3 s h → f3 s h' := fun s hs q => by
      unfold f3
      rw [fl 18 s (fun w => hs w.2) (by simp), fl 8 s (fun w => hs w.2) (by simp), fl 39 s (fun w => hs w.2) (by simp)]; exact q
    have tE : ∀ y, fE y h → fE y h' := fun y q => by
      unfold fE
      rw [fl 12 y (by simp) (by simp), fl 2 y (by simp) (by simp), fl 25 y (by simp) (by simp)]; exact q
    have r33 : h' 33 0 = h 33 0 := by funext k; exact fr 33 0 k (by simp) (by simp) (by simp)
    have r32 : h' 32 0 = h 32 0 := by funext k; exact fr 32 0 k (by simp) (by simp) (by simp)
    refine ⟨fun y hy hle => ?_, fun y hy w => ?_, fun y hy hle => ?_, fun n hn' => ?_, fun i hi => ?_, ?_⟩
    · have q := a1 y hy hle
      refine ⟨tE y q.1, t3 _ ((ar_20 (q := y) he n4).2.1 fun w => ?_) q.2⟩
      rw [w] at hle
      have := he.2
      exact absurd (Int32.lt_of_lt_of_le this hle) (by grind)
    · have ye : ¬ y = e := fun v => by rw [v, h14] at w; exact ar.2.2.1 w
      rw [fr 2 y 14 (fun v => ye v.2.1) (by simp) (by simp)] at w
      exact t3 _ ((ar_20 (q := y) he n4).2.1 ye) (a2 y hy w)
    · have q := a3 y hy hle
      unfold fP
      rw [fl 14 _ (by simp) (by simp), fl 4 _ (by simp) (by simp), fl 27 _ (by simp) (by simp), fl 28 _ (by simp) (by simp), fl 29 _ (by simp) (by simp), fl 30 _ (by simp) (by simp), fl 31 _ (by simp) (by simp)]
      exact ⟨q.1, q.2.1, t3 _ ((ar_20 (q := y) he n4).1 hy).1 q.2.2.1, q.2.2.2⟩
    · rw [r33]
      exact (a4 n hn').imp (fun q => ⟨q.1, tE _ q.2⟩) id
    · rw [r32]
      exact (a5 i hi).imp (fun q => ⟨q.1, t3 _ ((ar_20 (q := i) he n4).1 hi).2 q.2⟩) id
    · obtain ⟨N, eN, hN⟩ := nJ_exlt (N := 401) (by decide) hE0 (Int32.lt_of_le_of_lt n4 (by decide))
      obtain ⟨m, em, hm⟩ := nJ_exlt (N := N) (by omega) he.1 (by rw [← eN]; exact he.2)
      have ah : ahN A h' = ahN A h + 1 := by
        unfold ahN
        rw [eN, show (nI N).toNatClampNeg = N from Int32.toNatClampNeg_ofNat_of_lt (by omega)]
        have f1 := flt_one (p := fun n => !decide (n < N ∧ h 2 (nI n) 14 = -1)) (p' := fun n => !decide (n < N ∧ h' 2 (nI n) 14 = -1)) (m := m) (fun n hn => by
          by_cases y : n < N
          · have : h' 2 (nI n) 14 = h 2 (nI n) 14 := fr 2 (nI n) 14 (fun w => by
              rw [em] at w
              exact hn (nJ_inj (by omega) (by omega) w.2.1)) (by simp) (by simp)
            simp [this]
          · simp [y]) (by rw [em] at q; simp [hm, q]) (by rw [em] at h14 ar; simp [hm, h14, ar.2.2.1]) N
        rw [if_pos hm] at f1
        have c1 : ∀ g : HP, (List.range N).filter (fun n => !decide (n < N ∧ g 2 (nI n) 14 = -1)) = (List.range N).filter (fun n => !decide (g 2 (nI n) 14 = -1)) := fun g => List.filter_congr fun n hn => by simp [List.mem_range.mp hn]
        rw [c1 h, c1 h'] at f1
        exact f1
      have po : poN h' = poN h := by unfold poN; rw [r33]
      have so : soN h' = soN h := by unfold soN; rw [r32]
      have nS0 := nS_0 (s := 100 + e) (h := up h 2 e 15 x)
      rw [w00, w00] at nS0
      have c0 : h' 0 0 0 = h 0 0 0 + 1 + 1 := by rw [row 0 0 (by decide) (by decide), nfl, nS0.1]
      have c1 : h' 0 0 1 = h 0 0 1 + 3 + 4 := by rw [row 0 0 (by decide) (by decide), nfl, nS0.2]
      unfold RM at a6 ⊢
      rw [ah, po, so, c0, c1]
      obtain ⟨r1, r2, r3, r4⟩ := rl
      have t0 : (h 0 0 0 + 1 + 1).toInt = (h 0 0 0).toInt + 2 := by
        rw [Int32.toInt_add, Int32.toInt_add, show (1 : Int32).toInt = 1 from rfl, Int.bmod_eq_of_le (n := (h 0 0 0).toInt + 1) (by omega) (by omega), Int.bmod_eq_of_le (by omega) (by omega)]; omega
      have t1 : (h 0 0 1 + 3 + 4).toInt = (h 0 0 1).toInt + 7 := by
        rw [Int32.toInt_add, Int32.toInt_add, show (3 : Int32).toInt = 3 from rfl, show (4 : Int32).toInt = 4 from rfl, Int.bmod_eq_of_le (n := (h 0 0 1).toInt + 3) (by omega) (by omega), Int.bmod_eq_of_le (by omega) (by omega)]; omega
      rw [t0, t1]
      omega
theorem s_takeResults (e v : Int32) (L : List Int32) (h0 : HP) (Q : Option AV → HP → Prop) (he : ¬ e = -1) (e7 : h0 1 0 7 = v) (e6 : h0 1 0 6 = nI L.length) (row : LSq (h0 24 0) 0 L) (hL : L.length ≤ 8)
    (H : ∀ h', (∀ f y k, ¬ (f = 2 ∧ y = e ∧ (k = 9 ∨ k = 11)) → ¬ (f = 25 ∧ y = e ∧ ¬ k = -1) → h' f y k = h0 f y k) → h' 2 e 9 = v → h' 2 e 11 = nI L.length → LSq (h' 25 e) 0 L → Q none h') : WPm 10 [(2, e), (1, 0)] h0 Q := by
  have loop : ∀ (r pre : List Int32) (h : HP), L = pre ++ r → (∀ f y k, ¬ (f = 2 ∧ y = e ∧ (k = 9 ∨ k = 11)) → ¬ (f = 25 ∧ y = e ∧ ¬ k = -1) → h f y k = h0 f y k) → h 2 e 9 = v → h 2 e 11 = nI L.length → LSq (h 25 e) 0 pre → WPc 10 18 [(2, e), (1, 0), (0, nI pre.length)] [] h Q := by
    intro r
    induction r with
    | nil =>
      intro pre h eL fr q9 q11 rw1
      rw [List.append_nil] at eL
      subst eL
      refine b10_18 _ _ _ h Q ⟨he, fun _ => H h fr q9 q11 rw1, fun z => absurd ?_ z⟩
      rw [q11]; exact Int32.le_refl _
    | cons x r ih =>
      intro pre h eL fr q9 q11 rw1
      have hlt : pre.length < L.length := by rw [eL]; simp
      have i8 : ina (nI pre.length) 8 := ⟨nJ_nn (by omega), (nJ_lt (b := 8) (by omega) (by omega)).mpr (by omega)⟩
      have vx : h 24 0 (nI pre.length) = x := by
        rw [fr 24 0 _ (by simp) (by simp)]
        have := row
        rw [eL] at this
        have := (LSq_app.mp this).2.1
        rw [Int32.zero_add] at this
        exact this
      refine b10_18 _ _ _ h Q ⟨he, fun z => ?_, fun _ => ⟨he, i8, i8, ?_⟩⟩
      · rw [q11, nJ_le (by omega) (by omega)] at z
        exfalso; omega
      · rw [vx]
        have := ih (pre ++ [x]) (up h 25 e (nI pre.length) x) (by rw [eL]; simp) (fun f y k q1 q2 => by
          rw [up_n (fun w => q2 ⟨w.1, w.2.1, by rw [w.2.2]; exact ina_n1 i8⟩)]; exact fr f y k q1 q2) (by rw [upfam (by decide)]; exact q9) (by rw [upfam (by decide)]; exact q11) (by
          rw [uprow]
          have := LSq_snoc (v := x) (by omega) rw1
          rwa [Int32.zero_add] at this)
        rw [List.length_append, List.length_singleton, nJ_s] at this
        exact this
  refine b10_0 _ _ h0 Q ⟨he, he, ?_⟩
  rw [e7, e6]
  exact loop L [] _ rfl (fun f y k q1 q2 => by
    rw [up_n (fun w => q1 ⟨w.1, w.2.1, Or.inr w.2.2⟩), up_n (fun w => q1 ⟨w.1, w.2.1, Or.inl w.2.2⟩)]) (by rw [up_n (by simp), up_at]) up_at trivial
