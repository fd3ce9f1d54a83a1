/-! 57: settle, count, out, printed, failed -/
theorem s_settle (A : SY) (h : HP) (Q : Option AV → HP → Prop) (hY : YW A) (hM : MD 0 A h) (H : ∀ v h', ag sT h h' → isFl A v → FH A.1 v h' → SRT A (sod A) → SET A (sod A) h' → Q none h') : WPm 138 [(10, 0)] h Q := by
  obtain ⟨N, hN, hN4⟩ := nE_nat hY.1
  refine b138_0 h Q (s_findFloor A h _ hY hM fun v h1 g1 hv hF => b138_4 h1 Q ?_)
  have loop : ∀ (m k : Nat) (L : List Int32) (h' : HP), k + m = N → ag sT h h' → FH A.1 v h' → SET A L h' → (∀ e, e ∈ L ↔ (∃ i, i < k ∧ e = nI i) ∧ stl A e) → L.Pairwise (bel A.1) → WPc 138 21 [(10, 0), (0, nI k), (500, 0)] [] h' Q := by
    intro m
    induction m with
    | zero =>
      intro k L h' e g hF' hS mem pw
      have ek : k = N := by omega
      subst ek
      have M := MD_ag hM (ag_TS g)
      have e13 : h' 10 0 13 = nI k := (M.1 10 13 rfl).trans hN
      have srt : SRT A L := ⟨fun e => by rw [mem e, hN, ina_nat hN4], pw⟩
      have es := sod_ok srt
      refine b138_21 _ h' Q ⟨fun _ => H v h' g hv hF' ?_ ?_, fun z => absurd (by rw [e13]; exact Int32.le_refl _) z⟩
      · rw [es]; exact srt
      · rw [es]; exact hS
    | succ m ih =>
      intro k L h' e g hF' hS mem pw
      have M := MD_ag hM (ag_TS g)
      have e13 : h' 10 0 13 = nI N := (M.1 10 13 rfl).trans hN
      have ki : ina (nI k) (nE A) := by rw [hN]; exact (ina_nat hN4).mpr ⟨k, by omega, rfl⟩
      have gk := ga hY.1 ki
      refine b138_21 _ h' Q ⟨fun z => ?_, fun _ => ?_⟩
      · rw [e13, nJ_le (by omega) (by omega)] at z
        exfalso; omega
      · refine s_isSettled A v (nI k) h' _ M.1 hv hF' gk.1 (fun s => b138_34 _ _ h' Q ⟨fun y => absurd y one0, fun _ => ?_⟩) (fun s => b138_34 _ _ h' Q ⟨fun _ => ?_, fun y => absurd rfl y⟩)
        · have notin : ∀ d, d ∈ L → ¬ d = nI k := fun d hd z => by
            obtain ⟨⟨i, i1, i2⟩, -⟩ := (mem d).mp hd
            rw [i2] at z
            have := nJ_inj (by omega) (by omega) z
            omega
          have lin : ∀ d, d ∈ L → ina d (nE A) := fun d hd => by
            obtain ⟨⟨i, i1, i2⟩, -⟩ := (mem d).mp hd
            rw [hN, i2]; exact (ina_nat hN4).mpr ⟨i, by omega, rfl⟩
          have hl : L.length < 400 := by
            have nd : (nI k :: L).Nodup := List.nodup_cons.mpr ⟨fun z => notin _ z rfl, pw_nd pw⟩
            have := rng_len hY.1.1.2.1.2 (fun d hd => by
              rcases List.mem_cons.mp hd with rfl | hd
              · exact ki
              · exact lin d hd) nd
            rw [List.length_cons] at this; omega
          rw [hS.1]
          refine s_settleIn A (nI k) L h' Q hY gk.1 (fun d hd => ⟨(ga hY.1 (lin d hd)).1, notin d hd⟩) pw hl hS.1 hS.2.2.1 hS.2.2.2 M (fun h2 L' g2 mem2 pw2 hS2 k49 => ?_) L.length L [] (h' 74 0 (nI L.length)) h' rfl (by simp) (fun d hd => by cases hd) (LSq_app.mpr ⟨hS.2.1, by rw [Int32.zero_add], trivial⟩) ag_rf (fun _ => rfl)
          rw [← nJ_s]
          refine ih (k + 1) L' h2 (by omega) (ag_tr g g2) ?_ hS2 (fun x => ?_) pw2
          · unfold FH
            rw [k49 45 (by decide), k49 46 (by decide), k49 47 (by decide), k49 48 (by decide), k49 49 (by decide)]
            exact hF'
          · rw [mem2, mem]
            constructor
            · rintro (⟨⟨i, i1, i2⟩, z⟩ | z)
              · exact ⟨⟨i, by omega, i2⟩, z⟩
              · exact ⟨⟨k, by omega, z⟩, by rw [z]; exact s⟩
            · rintro ⟨⟨i, i1, i2⟩, z⟩
              by_cases y : i = k
              · right; rw [i2, y]
              · exact Or.inl ⟨⟨i, by omega, i2⟩, z⟩
        · rw [← nJ_s]
          refine ih (k + 1) L h' (by omega) g hF' hS (fun x => ?_) pw
          rw [mem]
          constructor
          · rintro ⟨⟨i, i1, i2⟩, z⟩
            exact ⟨⟨i, by omega, i2⟩, z⟩
          · rintro ⟨⟨i, i1, i2⟩, z⟩
            by_cases y : i = k
            · rw [i2, y] at z; exact absurd z s
            · exact ⟨⟨i, by omega, i2⟩, z⟩
  refine loop N 0 [] _ (by omega) (ag_tr (ag_FT g1) (ag_up (ag_up (ag_up ag_rf (by decide)) (by decide)) (by decide))) ?_ ⟨?_, trivial, ?_, ?_⟩ (fun x => ?_) List.Pairwise.nil
  · unfold FH
    rw [up_n (by decide), up_n (by decide), up_n (by decide), up_n (by decide), up_n (by decide), up_n (by decide), up_n (by decide), up_n (by decide), up_n (by decide), up_n (by decide), up_n (by decide), up_n (by decide), up_n (by decide), up_n (by decide), up_n (by decide)]
    exact hF
  · rw [up_n (by decide), up_n (by decide), up_at]; rfl
  · rw [up_n (by decide), up_at]; rfl
  · rw [up_at]; rfl
  · constructor
    · intro z; cases z
    · rintro ⟨⟨i, i1, -⟩, -⟩; omega
/-- what is out -/
def outL (A : SY) (L : List Int32) : List (Int32 × Int32 × Int32) := L.flatMap fun e => (pr A e).map fun x => (pa A e, A.1 55 e, x)
theorem outL_len (A : SY) : ∀ L : List Int32, (outL A L).length = (L.flatMap (pr A)).length
  | [] => rfl
  | e :: L => by
    unfold outL
    rw [List.flatMap_cons, List.flatMap_cons, List.length_append, List.length_append, List.length_map]
    have := outL_len A L
    unfold outL at this
    rw [this]
noncomputable def opCount (A : SY) (w : Int32) : Int32 :=
  if w = 0 then nP A else if w = 1 then nE A else if w = 2 then nI (wy A).length else if w = 3 then A.1 10 33 else if w = 4 then A.1 10 34 else if w = 5 then nI (outL A (sod A)).length else if w = 6 then nI (sod A).length else if w = 7 then nI ((sod A).filter (fld A)).length else if w = 8 then A.1 10 14 else -2
theorem M_count (A : SY) (w : Int32) (h : HP) (Q : Option AV → HP → Prop) (hY : YW A) (hM : MD 0 A h) (H : ∀ h', ag sS h h' → Q (some (0, opCount A w)) h') : WPm 139 [(10, 0), (0, w)] h Q := by
  unfold opCount at H
  refine b139_0 _ h Q (s_settle A h _ hY hM fun v h1 g1 hv hF hs hS => b139_4 _ h1 Q ?_)
  have H := H h1 (ag_TS g1)
  have M1 := MD_ag hM (ag_TS g1)
  rw [outL_len] at H
  rw [show h1 10 0 0 = nP A from M1.1 10 0 rfl, show h1 10 0 13 = nE A from M1.1 10 13 rfl, show h1 10 0 28 = nI (wy A).length from M1.2.2.2.2.1.1, M1.1 10 33 rfl, M1.1 10 34 rfl, M1.1 10 14 rfl, hS.1, hS.2.2.1, hS.2.2.2]
  refine ⟨fun y0 => ?_, fun y0 => ⟨fun y1 => ?_, fun y1 => ⟨fun y2 => ?_, fun y2 => ⟨fun y3 => ?_, fun y3 => ⟨fun y4 => ?_, fun y4 => ⟨fun y5 => ?_, fun y5 => ⟨fun y6 => ?_, fun y6 => ⟨fun y7 => ?_, fun y7 => ⟨fun y8 => ?_, fun y8 => ?_⟩⟩⟩⟩⟩⟩⟩⟩⟩
  · rw [if_pos y0] at H; exact H
  · rw [if_neg y0, if_pos y1] at H; exact H
  · rw [if_neg y0, if_neg y1, if_pos y2] at H; exact H
  · rw [if_neg y0, if_neg y1, if_neg y2, if_pos y3] at H; exact H
  · rw [if_neg y0, if_neg y1, if_neg y2, if_neg y3, if_pos y4] at H; exact H
  · rw [if_neg y0, if_neg y1, if_neg y2, if_neg y3, if_neg y4, if_pos y5] at H; exact H
  · rw [if_neg y0, if_neg y1, if_neg y2, if_neg y3, if_neg y4, if_neg y5, if_pos y6] at H; exact H
  · rw [if_neg y0, if_neg y1, if_neg y2, if_neg y3, if_neg y4, if_neg y5, if_neg y6, if_pos y7] at H; exact H
  · rw [if_neg y0, if_neg y1, if_neg y2, if_neg y3, if_neg y4, if_neg y5, if_neg y6, if_neg y7, if_pos y8] at H; exact H
  · rw [if_neg y0, if_neg y1, if_neg y2, if_neg y3, if_neg y4, if_neg y5, if_neg y6, if_neg y7, if_neg y8] at H; exact H
theorem sod_b {A : SY} (hY : YW A) (hs : SRT A (sod A)) : (sod A).length ≤ 400 ∧ (∀ e, e ∈ sod A → ina e (nE A) ∧ ina e 400) ∧ ((sod A).flatMap (pr A)).length ≤ 3200 := by
  have l := rng_len hY.1.1.2.1.2 (fun d hd => ((hs.1 d).mp hd).1) (pw_nd hs.2)
  refine ⟨l, fun e he => ⟨((hs.1 e).mp he).1, (ga hY.1 ((hs.1 e).mp he).1).1⟩, ?_⟩
  have key : ∀ L : List Int32, (L.flatMap (pr A)).length ≤ 8 * L.length := by
    intro L
    induction L with
    | nil => simp
    | cons x L ih =>
      rw [List.flatMap_cons, List.length_append, List.length_cons]
      have := (hY.2.1 x).1
      omega
  have := key (sod A)
  omega
/-- the event of the i-th that is out -/
theorem s_outOf (A : SY) (i : Nat) (h : HP) (Q : Option AV → HP → Prop) (hY : YW A) (hM : MD 0 A h) (hs : SRT A (sod A)) (hS : SET A (sod A) h) (hi : i < (outL A (sod A)).length)
    (H : ∀ e j h', e ∈ sod A → (hj : j < (pr A e).length) → (outL A (sod A))[i] = (pa A e, A.1 55 e, (pr A e)[j]) → h' 10 0 54 = nI j → (∀ f k, ¬ (f = 10 ∧ k = 54) → ∀ j', h' f j' k = h f j' k) → Q (some (0, e)) h') : WPm 140 [(10, 0), (0, nI i)] h Q := by
  have sb := sod_b hY hs
  have ol := outL_len A (sod A)
  have loop : ∀ (rest pre : List Int32) (j : Nat) (h' : HP), sod A = pre ++ rest → (pre.flatMap (pr A)).length + j = i → h' 10 0 54 = nI j → (∀ f k, ¬ (f = 10 ∧ k = 54) → ∀ j', h' f j' k = h f j' k) → WPc 140 7 [(10, 0), (0, nI i), (0, nI pre.length), (500, 0)] [] h' Q := by
    intro rest
    induction rest with
    | nil =>
      intro pre j h' e ej h54 fr
      exfalso
      rw [List.append_nil] at e
      rw [ol, e] at hi
      omega
    | cons x rest ih =>
      intro pre j h' e ej h54 fr
      have hx := sb.2.1 x (by rw [e]; simp)
      have pl : pre.length < (sod A).length := by rw [e]; simp
      have i4 : ina (nI pre.length) 400 := ⟨nJ_nn (by omega), (nJ_lt (b := 400) (by omega) (by omega)).mpr (by omega)⟩
      have e50 : h' 10 0 50 = nI (sod A).length := by rw [fr 10 50 (by decide)]; exact hS.1
      have val : h' 74 0 (nI pre.length) = x := by
        rw [fr 74 _ (fun z => absurd z.1 (by decide))]
        have := hS.2.1
        rw [e] at this
        have := (LSq_app.mp this).2.1
        rwa [Int32.zero_add] at this
      have e63 : h' 63 0 x = nI (pr A x).length := by
        rw [fr 63 _ (fun z => absurd z.1 (by decide))]; exact (hM.2.2.1 x hx.2).1
      have p8 := (hY.2.1 x).1
      have j3 : j ≤ 3200 := by rw [ol] at hi; omega
      refine b140_7 _ _ h' Q ⟨fun z => ?_, fun _ => ?_⟩
      · rw [e50, nJ_le (by omega) (by omega)] at z
        exfalso; omega
      · rw [val, e63, h54]
        refine ⟨i4, hx.2, fun z => ⟨hx.2, ?_⟩, fun z => ?_⟩
        · rw [nJ_le (by omega) (by omega)] at z
          have := ih (pre ++ [x]) (j - (pr A x).length) (up h' 10 0 54 (nI j - nI (pr A x).length)) (by rw [e]; simp) (by rw [List.flatMap_append, List.length_append, show [x].flatMap (pr A) = pr A x by simp]; omega) ?_ (fun f k hk j' => ?_)
          · rw [List.length_append] at this
            rw [← nJ_s]; exact this
          · rw [up_at]
            have e2 := nJ_add (j - (pr A x).length) (pr A x).length
            rw [show j - (pr A x).length + (pr A x).length = j by omega] at e2
            rw [e2]; grind
          · rw [up_n (fun y => hk ⟨y.1, y.2.2⟩)]; exact fr f k hk j'
        · rw [nJ_le (by omega) (by omega)] at z
          have hj : j < (pr A x).length := by omega
          refine H x j h' (by rw [e]; simp) hj ?_ h54 fr
          have e1 : outL A (sod A) = outL A pre ++ ((pr A x).map (fun y => (pa A x, A.1 55 x, y)) ++ outL A rest) := by
            rw [e]; unfold outL; rw [List.flatMap_append, List.flatMap_cons]
          have l1 := outL_len A pre
          simp only [e1]
          rw [List.getElem_append_right (by omega), List.getElem_append_left (by rw [List.length_map]; omega), List.getElem_map]
          congr 3
          omega
  refine b140_0 _ h Q ?_
  have := loop (sod A) [] i (up h 10 0 54 (nI i)) rfl (by simp) up_at (fun f k hk j' => up_n fun y => hk ⟨y.1, y.2.2⟩)
  exact this
noncomputable def opOut (A : SY) (i w : Int32) : Int32 := @ite _ (isIn w 0 1) (Classical.propDecidable _)
  (@ite _ (isIn i 0 (nI (outL A (sod A)).length - 1)) (Classical.propDecidable _) (if w = 0 then ((outL A (sod A)).getD i.toNatClampNeg (0, 0, 0)).1 else ((outL A (sod A)).getD i.toNatClampNeg (0, 0, 0)).2.1) (-1)) (-2)
noncomputable def opPrinted (A : SY) (i : Int32) : Int32 := @ite _ (isIn i 0 (nI (outL A (sod A)).length - 1)) (Classical.propDecidable _) ((outL A (sod A)).getD i.toNatClampNeg (0, 0, 0)).2.2 0
theorem ix_nat {i : Int32} {n : Nat} (hn : n ≤ 3200) (h : isIn i 0 (nI n - 1)) : ∃ k, i = nI k ∧ k < n ∧ i.toNatClampNeg = k := by
  obtain ⟨k, rfl, hk⟩ := nJ_ex h.1
  have h1 : nI k < nI n := by
    have := h.2
    have := nJ_nn (n := n) (by omega)
    have h3 : nI n ≤ nI 3200 := (nJ_le (by omega) (by omega)).mpr hn
    have h4 : nI 3200 = 3200 := rfl
    grind
  exact ⟨k, rfl, (nJ_lt hk (by omega)).mp h1, Int32.toNatClampNeg_ofNat_of_lt hk⟩
theorem sS54 {h h' : HP} (fr : ∀ f k, ¬ (f = 10 ∧ k = 54) → ∀ j', h' f j' k = h f j' k) : ag sS h h' := fun f j k z => fr f k (fun q => by rw [q.1, q.2] at z; exact absurd z (by decide)) j
theorem M_out (A : SY) (i w : Int32) (h : HP) (Q : Option AV → HP → Prop) (hY : YW A) (hM : MD 0 A h) (H : ∀ h', ag sS h h' → Q (some (0, opOut A i w)) h') : WPm 141 [(10, 0), (0, i), (0, w)] h Q := by
  unfold opOut at H
  refine b141_0 _ _ h Q (s_in2 _ _ _ _ _ (fun z => b141_6 _ _ _ h Q ⟨fun _ => ?_, fun y => absurd y one0⟩) (fun z => b141_6 _ _ _ h Q ⟨fun y => absurd rfl y, fun _ => ?_⟩))
  · refine s_settle A h _ hY hM fun v h1 g1 hv hF hs hS => b141_16 _ _ h1 Q ?_
    have sb := sod_b hY hs
    have ol := outL_len A (sod A)
    have M1 := MD_ag hM (ag_TS g1)
    rw [hS.2.2.1, ← ol]
    refine s_in2 _ _ _ _ _ (fun z2 => b141_27 _ _ _ h1 Q ⟨fun _ => ?_, fun y => absurd y one0⟩) (fun z2 => b141_27 _ _ _ h1 Q ⟨fun y => absurd rfl y, fun _ => ?_⟩)
    · obtain ⟨k, rfl, k2, k3⟩ := ix_nat (by omega) z2
      refine s_outOf A k h1 _ hY M1 hs hS k2 fun e j h2 he hj eo h54 fr => b141_37 _ _ _ h2 Q ?_
      have H := H h2 (ag_tr (ag_TS g1) (sS54 fr))
      rw [if_pos z, if_pos z2, k3, show (outL A (sod A)).getD k (0, 0, 0) = (outL A (sod A))[k] by simp [k2], eo] at H
      have he4 := (sb.2.1 e he).2
      have M2 := MD_ag M1 (sS54 fr)
      rw [M2.1 55 e rfl, M2.1 54 e rfl]
      refine ⟨fun y => ⟨he4, ?_⟩, fun y => ⟨he4, ?_⟩⟩
      · rw [if_neg y] at H; exact H
      · rw [if_pos y] at H; exact H
    · have H := H h1 (ag_TS g1)
      rw [if_pos z, if_neg z2] at H; exact H
  · have H := H h ag_rf
    rw [if_neg z] at H; exact H
theorem M_printed (A : SY) (i : Int32) (h : HP) (Q : Option AV → HP → Prop) (hY : YW A) (hM : MD 0 A h) (H : ∀ h', ag sS h h' → Q (some (0, opPrinted A i)) h') : WPm 142 [(10, 0), (0, i)] h Q := by
  unfold opPrinted at H
  refine b142_0 _ h Q (s_settle A h _ hY hM fun v h1 g1 hv hF hs hS => b142_4 _ h1 Q ?_)
  have sb := sod_b hY hs
  have ol := outL_len A (sod A)
  have M1 := MD_ag hM (ag_TS g1)
  rw [hS.2.2.1, ← ol]
  refine s_in2 _ _ _ _ _ (fun z2 => b142_15 _ _ h1 Q ⟨fun _ => ?_, fun y => absurd y one0⟩) (fun z2 => b142_15 _ _ h1 Q ⟨fun y => absurd rfl y, fun _ => ?_⟩)
  · obtain ⟨k, rfl, k2, k3⟩ := ix_nat (by omega) z2
    refine s_outOf A k h1 _ hY M1 hs hS k2 fun e j h2 he hj eo h54 fr => b142_25 _ _ h2 Q ?_
    have H := H h2 (ag_tr (ag_TS g1) (sS54 fr))
    rw [if_pos z2, k3, show (outL A (sod A)).getD k (0, 0, 0) = (outL A (sod A))[k] by simp [k2], eo] at H
    have he4 := (sb.2.1 e he).2
    have M2 := MD_ag M1 (sS54 fr)
    have p8 := (hY.2.1 e).1
    rw [h54, LSq_get (M2.2.2.1 e he4).2 j hj]
    exact ⟨i8 he4 (by omega), H⟩
  · have H := H h1 (ag_TS g1)
    rw [if_neg z2] at H; exact H
noncomputable def opFailed (A : SY) (w : Int32) : Int32 := @ite _ (isIn w 0 2) (Classical.propDecidable _)
  (match (sod A).filter (fld A) with
    | [] => -1
    | e :: _ => if w = 0 then e else if w = 1 then A.1 62 e else pa A e) (-2)
theorem M_failed (A : SY) (w : Int32) (h : HP) (Q : Option AV → HP → Prop) (hY : YW A) (hM : MD 0 A h) (H : ∀ h', ag sS h h' → Q (some (0, opFailed A w)) h') : WPm 143 [(10, 0), (0, w)] h Q := by
  unfold opFailed at H
  refine b143_0 _ h Q (s_in2 _ _ _ _ _ (fun z => b143_6 _ _ h Q ⟨fun _ => ?_, fun y => absurd y one0⟩) (fun z => b143_6 _ _ h Q ⟨fun y => absurd rfl y, fun _ => ?_⟩))
  · refine s_settle A h _ hY hM fun v h1 g1 hv hF hs hS => b143_16 _ h1 Q ?_
    have H := H h1 (ag_TS g1)
    rw [if_pos z] at H
    have sb := sod_b hY hs
    have M1 := MD_ag hM (ag_TS g1)
    have loop : ∀ (rest pre : List Int32), sod A = pre ++ rest → (sod A).filter (fld A) = rest.filter (fld A) → WPc 143 18 [(10, 0), (0, w), (0, nI pre.length), (500, 0)] [] h1 Q := by
      intro rest
      induction rest with
      | nil =>
        intro pre e ef
        rw [List.append_nil] at e
        rw [ef, List.filter_nil] at H
        exact b143_18 _ _ h1 Q ⟨fun _ => H, fun y => absurd (by rw [hS.1, e]; exact Int32.le_refl _) y⟩
      | cons x rest ih =>
        intro pre e ef
        have hx := sb.2.1 x (by rw [e]; simp)
        have pl : pre.length < (sod A).length := by rw [e]; simp
        have i4 : ina (nI pre.length) 400 := ⟨nJ_nn (by omega), (nJ_lt (b := 400) (by omega) (by omega)).mpr (by omega)⟩
        have val : h1 74 0 (nI pre.length) = x := by
          have := hS.2.1
          rw [e] at this
          have := (LSq_app.mp this).2.1
          rwa [Int32.zero_add] at this
        refine b143_18 _ _ h1 Q ⟨fun y => ?_, fun _ => ?_⟩
        · rw [hS.1, nJ_le (by omega) (by omega)] at y
          exfalso; omega
        · rw [val, M1.1 62 x rfl, M1.1 54 x rfl]
          refine ⟨i4, hx.2, fun y => ?_, fun y => ?_⟩
          · have := ih (pre ++ [x]) (by rw [e]; simp) (by rw [ef, List.filter_cons_of_neg (by simp [fld, y])])
            rw [List.length_append] at this
            rw [← nJ_s]; exact this
          · rw [ef, List.filter_cons_of_pos (by simp [fld, y])] at H
            refine ⟨fun y0 => ⟨fun y1 => ⟨hx.2, ?_⟩, fun y1 => ⟨hx.2, ?_⟩⟩, fun y0 => ?_⟩
            · simp only [y0, y1, if_false] at H; exact H
            · simp only [y0, y1, if_false, if_true] at H
              rw [if_neg (by decide)] at H; exact H
            · simp only [y0, if_true] at H; exact H
    exact loop (sod A) [] rfl rfl
  · have H := H h ag_rf
    rw [if_neg z] at H; exact H
