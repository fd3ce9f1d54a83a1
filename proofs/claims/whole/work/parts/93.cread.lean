/-! 93: the class: told, event -/
theorem shd_2 {A : SY} {e : Int32} : shd A e = 2 ↔ A.1 61 e = 1 := by
  unfold shd
  by_cases z : A.1 61 e = 1
  · rw [if_pos z]; exact ⟨fun _ => z, fun _ => rfl⟩
  · rw [if_neg z]
    refine ⟨fun q => ?_, fun q => absurd q z⟩
    split at q <;> exact absurd q (by decide)
theorem ev_go {A : SY} {od : List Int32} {h : HP} (hI : YV A) (R : RC A [] (Zst A) od h) {N k : Nat} (hN : nE A = nI N) (hN4 : N ≤ 400) (hk : k < N) : ina (nI k) 400 ∧ ina (nI k) (nE A) ∧ h 41 0 (nI k) = nI k ∧ ¬ h 3 0 1 ≤ nI k := by
  have i1 : ina (nI k) (nE A) := by rw [hN]; exact ⟨nJ_nn (by omega), (nJ_lt (by omega) (by omega)).mpr hk⟩
  refine ⟨(ga hI i1).1, i1, (R.2.2.2.1 _ i1).1.1, fun z => ?_⟩
  rw [R.2.2.2.2.1.1, hN, nJ_le (by omega) (by omega)] at z
  omega
theorem s_thereAt (A : SY) (p : Int32) (od : List Int32) (h : HP) (Q : Option AV → HP → Prop) (hI : YV A) (R : RC A [] (Zst A) od h) (H : Q (some (0, cntP A fun e => pa A e = p ∧ hw A e = 0)) h) : WPm 88 [(9, 0), (0, p)] h Q := by
  obtain ⟨N, hN, hN4⟩ := nE_nat hI
  obtain ⟨c, c0, cN, cs⟩ := cntP_loop hN hN4 fun e => pa A e = p ∧ hw A e = 0
  have loop : ∀ (j k : Nat), k + j = N → WPc 88 4 [(9, 0), (0, p), (0, c k), (0, nI k)] [] h Q := by
    intro j
    induction j with
    | zero =>
      intro k e
      have ek : k = N := by omega
      subst ek
      exact b88_4 _ _ _ h Q ⟨fun _ => by rw [cN]; exact H, fun z => absurd (by rw [R.2.2.2.2.1.1, hN]; exact Int32.le_refl _) z⟩
    | succ j ih =>
      intro k e
      obtain ⟨i1, i2, i3, i4⟩ := ev_go hI R hN hN4 (k := k) (by omega)
      have ev := R.2.2.2.1 _ i2
      have nx := ih (k + 1) (by omega)
      rw [nJ_s] at nx
      refine b88_4 _ _ _ h Q ⟨fun z => absurd z i4, fun _ => ?_⟩
      rw [i3, ev.1.2.2.1, ev.2.1.1]
      refine ⟨i1, ina_n1 i1, fun z => ?_, fun z => ⟨i1, ina_n1 i1, fun w => ?_, fun w => ?_⟩⟩
      · rw [(cs k).2 (fun q => z q.1)] at nx; exact nx
      · rw [(cs k).2 (fun q => w q.2)] at nx; exact nx
      · rw [(cs k).1 ⟨z, w⟩] at nx; exact nx
  have := loop N 0 (by omega)
  rw [c0] at this
  exact b88_0 _ h Q this
theorem s_waitingAt (A : SY) (p : Int32) (od : List Int32) (h : HP) (Q : Option AV → HP → Prop) (hI : YV A) (R : RC A [] (Zst A) od h) (H : Q (some (0, cntP A fun e => pa A e = p ∧ A.1 61 e = 1)) h) : WPm 89 [(9, 0), (0, p)] h Q := by
  obtain ⟨N, hN, hN4⟩ := nE_nat hI
  obtain ⟨c, c0, cN, cs⟩ := cntP_loop hN hN4 fun e => pa A e = p ∧ A.1 61 e = 1
  have loop : ∀ (j k : Nat), k + j = N → WPc 89 4 [(9, 0), (0, p), (0, c k), (0, nI k)] [] h Q := by
    intro j
    induction j with
    | zero =>
      intro k e
      have ek : k = N := by omega
      subst ek
      exact b89_4 _ _ _ h Q ⟨fun _ => by rw [cN]; exact H, fun z => absurd (by rw [R.2.2.2.2.1.1, hN]; exact Int32.le_refl _) z⟩
    | succ j ih =>
      intro k e
      obtain ⟨i1, i2, i3, i4⟩ := ev_go hI R hN hN4 (k := k) (by omega)
      have ev := R.2.2.2.1 _ i2
      have nx := ih (k + 1) (by omega)
      rw [nJ_s] at nx
      refine b89_4 _ _ _ h Q ⟨fun z => absurd z i4, fun _ => ?_⟩
      rw [i3, ev.1.2.2.1, ev.2.1.2]
      refine ⟨i1, ina_n1 i1, fun z => ?_, fun z => ⟨i1, ina_n1 i1, fun w => ?_, fun w => ?_⟩⟩
      · rw [(cs k).2 (fun q => z q.1)] at nx; exact nx
      · rw [(cs k).2 (fun q => w (shd_2.mpr q.2))] at nx; exact nx
      · rw [(cs k).1 ⟨z, shd_2.mp w⟩] at nx; exact nx
  have := loop N 0 (by omega)
  rw [c0] at this
  exact b89_0 _ h Q this
theorem ar_24 {w : Int32} (h : isIn w 0 7) (h0 : ¬ w = 0) (h1 : ¬ w = 1) (h2 : ¬ w = 2) (h3 : ¬ w = 3) (h4 : ¬ w = 4) (h5 : ¬ w = 5) (h6 : ¬ w = 6) : w = 7 := by
  have a := h.1
  have b := h.2
  grind
theorem C_told (A : SY) (p w : Int32) (od : List Int32) (h : HP) (Q : Option AV → HP → Prop) (hY : YW A) (R : RC A [] (Zst A) od h) (H : Q (some (0, opTold A p w)) h) : WPm 51 [(9, 0), (0, p), (0, w)] h Q := by
  unfold opTold at H
  have bad : ¬ (isP A p ∧ isIn w 0 7) → Q (some (0, -2)) h := fun z => by
    rw [if_neg z] at H
    exact H
  refine b51_0 _ _ h Q (c_part p h _ R (fun z1 => b51_5 _ _ _ h Q ⟨fun _ => ?_, fun y => absurd y (by decide)⟩) (fun z => b51_5 _ _ _ h Q ⟨fun y => absurd rfl y, fun _ => bad fun q => z q.1⟩))
  have ip := isP_ina hY z1
  have pn := ina_n1 ip.2
  have pp := R.2.1 p ip.1
  have zz := R.2.2.1 p ip.1
  rw [pp.1, pp.2.1, pp.2.2.2.1, pp.2.2.2.2.1, pp.2.2.2.2.2, zz.2.1, zz.2.2]
  by_cases z2 : isIn w 0 7
  · rw [if_pos ⟨z1, z2⟩] at H
    refine ⟨ip.2, fun w0 => ⟨pn, ?_⟩, fun w0 => ⟨fun w1 => ⟨pn, ?_⟩, fun w1 => ⟨fun w2 => ⟨pn, ?_⟩, fun w2 => ⟨fun w3 => ⟨pn, ?_⟩, fun w3 => ⟨fun w4 => ?_, fun w4 => ⟨fun w5 => ⟨pn, pn, ?_⟩, fun w5 => ⟨fun w6 => ⟨pn, pn, ?_⟩, fun w6 => ⟨fun w7 => ?_, fun w7 => absurd (ar_24 z2 w0 w1 w2 w3 w4 w5 w6) w7⟩⟩⟩⟩⟩⟩⟩⟩
    · rw [if_pos w0] at H; exact H
    · rw [if_neg w0, if_pos w1] at H; exact H
    · rw [if_neg w0, if_neg w1, if_pos w2] at H; exact H
    · rw [if_neg w0, if_neg w1, if_neg w2, if_pos w3] at H; exact H
    · rw [if_neg w0, if_neg w1, if_neg w2, if_neg w3, if_pos w4] at H
      exact s_thereAt A p od h _ hY.1 R (b51_89 _ _ _ _ h Q H)
    · rw [if_neg w0, if_neg w1, if_neg w2, if_neg w3, if_neg w4, if_pos w5] at H; exact H
    · rw [if_neg w0, if_neg w1, if_neg w2, if_neg w3, if_neg w4, if_neg w5, if_pos w6] at H; exact H
    · rw [if_neg w0, if_neg w1, if_neg w2, if_neg w3, if_neg w4, if_neg w5, if_neg w6] at H
      exact s_waitingAt A p od h _ hY.1 R (b51_111 _ _ _ _ h Q H)
  · have b := bad fun q => z2 q.2
    have nw : ∀ k : Int32, isIn k 0 7 → ¬ w = k := fun k hk q => z2 (by rw [q]; exact hk)
    refine ⟨ip.2, fun w0 => absurd w0 (nw 0 ⟨by decide, by decide⟩), fun w0 => ⟨fun w1 => absurd w1 (nw 1 ⟨by decide, by decide⟩), fun w1 => ⟨fun w2 => absurd w2 (nw 2 ⟨by decide, by decide⟩), fun w2 => ⟨fun w3 => absurd w3 (nw 3 ⟨by decide, by decide⟩), fun w3 => ⟨fun w4 => absurd w4 (nw 4 ⟨by decide, by decide⟩), fun w4 => ⟨fun w5 => absurd w5 (nw 5 ⟨by decide, by decide⟩), fun w5 => ⟨fun w6 => absurd w6 (nw 6 ⟨by decide, by decide⟩), fun w6 => ⟨fun w7 => absurd w7 (nw 7 ⟨by decide, by decide⟩), fun w7 => b⟩⟩⟩⟩⟩⟩⟩⟩
theorem s_isSettledC (A : SY) (v e : Int32) (od : List Int32) (h : HP) (Q : Option AV → HP → Prop) (R : RC A [] (Zst A) od h) (hv : isFl A v) (he : ina e (nE A)) (H1 : stl A e → Q (some (0, 1)) h) (H0 : ¬ stl A e → Q (some (0, 0)) h) : WPm 82 [(2, e), (2, v)] h Q := by
  have ev := R.2.2.2.1 e he
  have en := ina_n1 he
  have kv : ¬ v = -1 → KY A.1 v v h := fun z => by
    have iv : ina v (nE A) := by
      rcases hv with u | u
      · exact absurd u.1 z
      · exact u.2.1.1
    exact (R.2.2.2.1 v iv).1.2.2.2.1
  refine b82_0 _ _ h Q ?_
  rw [ev.2.1.1]
  exact ⟨en, fun z => ⟨Or.inl rfl, H0 fun q => z q.1⟩, fun z => ⟨en, s_isBelowC A.1 e v e v h _ en ev.1.2.2.2.1 kv (fun q => b82_13 _ _ _ h Q ⟨fun w => absurd w (by decide), fun _ => ⟨Or.inr rfl, H1 ⟨z, (blw_fl hv).mpr q⟩⟩⟩) (fun q => b82_13 _ _ _ h Q ⟨fun _ => ⟨Or.inl rfl, H0 fun s => q ((blw_fl hv).mp s.2)⟩, fun w => absurd rfl w⟩)⟩⟩
theorem ar_25 {w : Int32} (h : isIn w 0 6) (h0 : ¬ w = 0) (h1 : ¬ w = 1) (h2 : ¬ w = 2) (h3 : ¬ w = 3) (h4 : ¬ w = 4) (h5 : ¬ w = 5) : w = 6 := by
  have a := h.1
  have b := h.2
  grind
theorem C_event (A : SY) (e w : Int32) (od : List Int32) (h : HP) (Q : Option AV → HP → Prop) (hY : YW A) (R : RC A [] (Zst A) od h) (H : Q (some (0, opEvent A e w)) h) : WPm 52 [(9, 0), (0, e), (0, w)] h Q := by
  unfold opEvent at H
  have bad : ¬ (isE A e ∧ isIn w 0 6) → Q (some (0, -2)) h := fun z => by
    rw [if_neg z] at H
    exact H
  refine b52_0 _ _ h Q (c_event e h _ R (fun z1 => b52_5 _ _ _ h Q ⟨fun _ => ?_, fun y => absurd y (by decide)⟩) (fun z => b52_5 _ _ _ h Q ⟨fun y => absurd rfl y, fun _ => bad fun q => z q.1⟩))
  have ie := isE_ina hY.1 z1
  have en := ina_n1 ie
  have ev := R.2.2.2.1 e ie
  have ky := ev.1.2.2.2.1
  rw [ev.1.1, ev.1.2.2.1, ev.2.2.1.1.1]
  by_cases z2 : isIn w 0 6
  · rw [if_pos ⟨z1, z2⟩] at H
    have key : ∀ k, k = w - 1 → (¬ w = 0) → (w = 1 ∨ w = 2 ∨ w = 3 ∨ w = 4) → WPm 13 [(2, e), (0, k)] h (fun u h' => WPc 52 72 [(9, 0), (0, e), (0, w), (2, e)] (u.toList ++ []) h' Q) := fun k hk w0 hw => by
      refine b13_0 _ _ h _ ?_
      rw [ky.1, ky.2.1, ky.2.2.1, ky.2.2.2]
      rw [if_neg w0] at H
      refine ⟨fun k0 => ⟨en, b52_72 _ _ _ _ h Q ?_⟩, fun k0 => ⟨fun k1 => ⟨en, b52_72 _ _ _ _ h Q ?_⟩, fun k1 => ⟨fun k2 => ⟨en, b52_72 _ _ _ _ h Q ?_⟩, fun k2 => ⟨en, b52_72 _ _ _ _ h Q ?_⟩⟩⟩⟩
      · rw [if_pos (by grind)] at H; exact H
      · rw [if_neg (by grind), if_pos (by grind)] at H; exact H
      · rw [if_neg (by grind), if_neg (by grind), if_pos (by grind)] at H; exact H
      · rw [if_neg (by grind), if_neg (by grind), if_neg (by grind), if_pos (by grind)] at H; exact H
    refine ⟨(ga hY.1 ie).1, fun w0 => ⟨en, ?_⟩, fun w0 => ⟨fun w1 => ⟨en, key _ rfl w0 (Or.inl w1)⟩, fun w1 => ⟨fun w2 => ⟨en, key _ rfl w0 (Or.inr (Or.inl w2))⟩, fun w2 => ⟨fun w3 => ⟨en, key _ rfl w0 (Or.inr (Or.inr (Or.inl w3)))⟩, fun w3 => ⟨fun w4 => ⟨en, key _ rfl w0 (Or.inr (Or.inr (Or.inr w4)))⟩, fun w4 => ⟨fun w5 => ?_, fun w5 => ⟨fun w6 => ⟨en, ?_⟩, fun w6 => absurd (ar_25 z2 w0 w1 w2 w3 w4 w5) w6⟩⟩⟩⟩⟩⟩⟩
    · rw [if_pos w0] at H; exact H
    · rw [if_neg w0, if_neg w1, if_neg w2, if_neg w3, if_neg w4, if_pos w5] at H
      refine s_leastOpen A od [] (Zst A) h _ hY.1 R fun v hv => b52_78 _ _ _ _ _ h Q (s_isSettledC A v e od h _ R hv ie (fun s => b52_81 _ _ _ _ h Q ⟨fun y => absurd y (by decide), fun _ => ?_⟩) (fun s => b52_81 _ _ _ _ h Q ⟨fun _ => ⟨en, ?_⟩, fun y => absurd rfl y⟩))
      · rw [if_pos s] at H; exact H
      · rw [if_neg s] at H
        rw [ev.2.1.1]; exact H
    · rw [if_neg w0, if_neg w1, if_neg w2, if_neg w3, if_neg w4, if_neg w5] at H; exact H
  · have b := bad fun q => z2 q.2
    have nw : ∀ k : Int32, isIn k 0 6 → ¬ w = k := fun k hk q => z2 (by rw [q]; exact hk)
    refine ⟨(ga hY.1 ie).1, fun w0 => absurd w0 (nw 0 ⟨by decide, by decide⟩), fun w0 => ⟨fun w1 => absurd w1 (nw 1 ⟨by decide, by decide⟩), fun w1 => ⟨fun w2 => absurd w2 (nw 2 ⟨by decide, by decide⟩), fun w2 => ⟨fun w3 => absurd w3 (nw 3 ⟨by decide, by decide⟩), fun w3 => ⟨fun w4 => absurd w4 (nw 4 ⟨by decide, by decide⟩), fun w4 => ⟨fun w5 => absurd w5 (nw 5 ⟨by decide, by decide⟩), fun w5 => ⟨fun w6 => absurd w6 (nw 6 ⟨by decide, by decide⟩), fun w6 => b⟩⟩⟩⟩⟩⟩⟩
