/-! 54: the model's step, run, deliver, start, move, limit, keep -/
noncomputable def opStep (A : SY) (l : Int32) : Int32 × SY := @ite _ (isIn l 0 3) (Classical.propDecidable _) (stpF A l) (-2, A)
theorem s_stepI (A : SY) (l : Int32) (h : HP) (Q : Option AV → HP → Prop) (hY : YW A) (hM : MD 0 A h) (hl : isIn l 0 3) (H : ∀ h', ag sM h h' → MD 0 (stpF A l).2 h' → YW (stpF A l).2 → Q (some (0, (stpF A l).1)) h') : WPm 119 [(10, 0), (0, l)] h Q := by
  refine b119_0 l h Q (s_in2 _ _ _ _ _ (fun _ => b119_6 _ _ h Q ⟨fun _ => ?_, fun y => absurd y one0⟩) (fun z => absurd hl z))
  refine s_nextOf A l h _ hY hM fun v hv => b119_17 _ _ h Q ⟨fun vn => ?_, fun vn => ?_⟩
  · have ev := nx_ok hv
    have mn := nxt_min hv vn
    have gg := ga hY.1 mn.1
    have hYs := YW_stp hY hv
    unfold stpF at H hYs
    rw [ev, if_neg vn] at H hYs
    refine s_findFloor A h _ hY hM fun w h1 g1 hw1 hF => b119_29 _ _ h1 Q ?_
    have M1 := MD_ag hM (ag_FS g1)
    have g1M : ag sM h h1 := ag_SM (ag_FS g1)
    have hw2 := flo_ok hw1
    have uq := fl_uq hw1 hw2
    have wn : ¬ w = -1 := fun z => by
      rcases hw1 with ⟨q1, q2⟩ | ⟨q1, -⟩
      · exact q2 v ⟨mn.1, Or.inl mn.2.1⟩
      · exact q1 z
    have e45 : h1 10 0 45 = A.1 55 (flo A) := by
      rcases hF with ⟨q, -⟩ | ⟨-, -, q, -⟩
      · exact absurd q wn
      · rw [q]; exact (uq.2 wn).1
    have e32 : h1 10 0 32 = A.1 10 32 := M1.1 10 32 rfl
    have e13 : h1 10 0 13 = nE A := M1.1 10 13 rfl
    have e55 : h1 55 0 v = A.1 55 v := M1.1 55 v rfl
    have go : ¬ (¬ A.1 10 32 = -1 ∧ ¬ A.1 55 v - A.1 55 (flo A) ≤ A.1 10 32) → ((nE A ≤ 392 → WPm 120 [(10, 0), (0, v)] h1 (fun w h' => WPc 119 76 [(10, 0), (0, l), (0, v)] (w.toList ++ []) h' Q)) ∧ (¬ nE A ≤ 392 → Q (some (0, (-4))) h1)) := fun z => by
      rw [if_neg z] at H hYs
      refine ⟨fun n => ?_, fun n => ?_⟩
      · rw [if_neg (fun q => q n)] at H hYs
        exact s_does A v h1 _ hY.1 hY.2.1 hY.2.2 mn.1 mn.2.1 n mn.2.2 M1 fun h2 g2 M2 => b119_76 _ _ h2 Q (H h2 (ag_tr g1M g2) M2 hYs)
      · rw [if_pos n] at H hYs
        exact H h1 g1M M1 hYs
    rw [e32, e13, e45, e55]
    refine ⟨fun z => go fun q => q.1 z, fun z => ⟨gg.1, fun z2 => go fun q => q.2 z2, fun z2 => ?_⟩⟩
    rw [if_pos ⟨z, z2⟩] at H hYs
    exact H h1 g1M M1 hYs
  · have ev := nx_ok hv
    unfold stpF at H
    rw [ev, if_pos vn] at H
    exact H h ag_rf hM hY
theorem M_step (A : SY) (l : Int32) (h : HP) (Q : Option AV → HP → Prop) (hY : YW A) (hM : MD 0 A h) (H : ∀ h', ag sM h h' → MD 0 (opStep A l).2 h' → YW (opStep A l).2 → Q (some (0, (opStep A l).1)) h') : WPm 119 [(10, 0), (0, l)] h Q := by
  unfold opStep at H
  by_cases z : isIn l 0 3
  · rw [if_pos z] at H
    exact s_stepI A l h Q hY hM z H
  · rw [if_neg z] at H
    exact b119_0 l h Q (s_in2 _ _ _ _ _ (fun y => absurd y z) (fun _ => b119_6 _ _ h Q ⟨fun y => absurd rfl y, fun _ => H h ag_rf hM hY⟩))
theorem runF_s (l : Int32) (n : Nat) (k : Int32) (A : SY) : runF l (n + 1) k A = if (stpF A l).1 < 0 then (k, A) else runF l n (k + 1) (stpF A l).2 := rfl
noncomputable def opRun (A : SY) (l n : Int32) : Int32 × SY := @ite _ (isIn l 0 3 ∧ isIn n 0 200) (Classical.propDecidable _) (runF l n.toNatClampNeg 0 A) (-2, A)
theorem M_run (A : SY) (l n : Int32) (h : HP) (Q : Option AV → HP → Prop) (hY : YW A) (hM : MD 0 A h) (H : ∀ h', ag sM h h' → MD 0 (opRun A l n).2 h' → YW (opRun A l n).2 → Q (some (0, (opRun A l n).1)) h') : WPm 121 [(10, 0), (0, l), (0, n)] h Q := by
  unfold opRun at H
  have bad : ¬ (isIn l 0 3 ∧ isIn n 0 200) → Q (some (0, -2)) h := fun z => by
    rw [if_neg z] at H
    exact H h ag_rf hM hY
  refine b121_0 _ _ h Q (s_in2 _ _ _ _ _ (fun z1 => b121_6 _ _ _ h Q ⟨fun y => absurd y one0, fun _ => ?_⟩) (fun z => b121_6 _ _ _ h Q ⟨fun _ => bad fun q => z q.1, fun y => absurd rfl y⟩))
  refine s_in2 _ _ _ _ _ (fun z2 => b121_17 _ _ _ h Q ⟨fun _ => ?_, fun y => absurd y one0⟩) (fun z => b121_17 _ _ _ h Q ⟨fun y => absurd rfl y, fun _ => bad fun q => z q.2⟩)
  rw [if_pos ⟨z1, z2⟩] at H
  obtain ⟨N, rfl, hN⟩ := nJ_exlt (N := 201) (i := n) (by decide) z2.1 (Int32.lt_of_le_of_lt z2.2 (by decide))
  have eN : (nI N).toNatClampNeg = N := Int32.toNatClampNeg_ofNat_of_lt (by omega)
  rw [eN] at H
  have loop : ∀ (m k : Nat) (B : SY) (h' : HP), k + m = N → YW B → ag sM h h' → MD 0 B h' → runF l N 0 A = runF l m (nI k) B → WPc 121 25 [(10, 0), (0, l), (0, nI N), (0, nI k)] [] h' Q := by
    intro m
    induction m with
    | zero =>
      intro k B h' e hB g M er
      have ek : k = N := by omega
      subst ek
      rw [er] at H
      exact b121_25 _ _ _ h' Q ⟨fun _ => H h' g M hB, fun z => absurd (Int32.le_refl _) z⟩
    | succ m ih =>
      intro k B h' e hB g M er
      refine b121_25 _ _ _ h' Q ⟨fun z => ?_, fun _ => ?_⟩
      · rw [nJ_le (by omega) (by omega)] at z
        exfalso; omega
      · refine s_stepI B l h' _ hB M z1 fun h2 g2 M2 hY2 => b121_35 _ _ _ _ h2 Q ⟨fun z => ?_, fun z => ?_⟩
        · rw [runF_s, if_pos z] at er
          have e2 : (stpF B l).2 = B := by
            unfold stpF at z ⊢
            split
            · rfl
            · split
              · rfl
              · split
                · rfl
                · exfalso
                  rename_i n1 n2 n3
                  rw [if_neg n1, if_neg n2, if_neg n3] at z
                  have nx : ∃ v, nxt B l v := nxt_ex hB.1 l
                  obtain ⟨v, hv⟩ := nx
                  rw [nx_ok hv] at z n1
                  have := (nxt_min hv n1).1.1
                  have z : v < 0 := z
                  grind
          rw [e2] at M2
          rw [er] at H
          exact H h2 (ag_tr g g2) M2 hB
        · rw [runF_s, if_neg z] at er
          rw [← nJ_s]
          exact ih (k + 1) _ h2 (by omega) hY2 (ag_tr g g2) M2 (by rw [er, nJ_s])
  exact loop N 0 A h (by omega) hY ag_rf hM rfl
theorem shift_ok (n : Nat) (A : SY) (i x2 : Int32) (pre rest : List PT) (q : PT) (h0 : HP) (Q : Option AV → HP → Prop) (ew : wy A = pre ++ q :: rest) (hwl : (wy A).length ≤ 800)
    (K : ∀ h' x3, ag sM h0 h' → MD n (A.1, dn A, pr A, se A, pre ++ rest, cm A) h' → (¬ (2 : Int32) = 0 ∧ ((¬ (x2 - x2 / 2 * 2) = 0 → (¬ (2 : Int32) = 0 ∧ WPm 111 [(10, 0), (0, (x2 / 2))] h' (fun w h' => WPc 122 70 [(10, 0), (0, i), (0, x2), (0, x3)] (w.toList ++ []) h' Q))) ∧ ((x2 - x2 / 2 * 2) = 0 → (¬ (2 : Int32) = 0 ∧ WPm 110 [(10, 0), (0, (x2 / 2))] h' (fun w h' => WPc 122 60 [(10, 0), (0, i), (0, x2), (0, x3)] (w.toList ++ []) h' Q)))))) :
    ∀ (r2 r1 : List PT) (d : Int32) (h : HP), rest = r1 ++ r2 → ag sM h0 h → h 10 0 28 = nI (pre ++ rest).length → LSq (h 67 0) 0 (((pre ++ r1).map cd) ++ d :: r2.map cd) → (MA A.1 h ∧ MDp A h ∧ MDr (pr A) 63 64 h ∧ MDr (se A) 65 66 h ∧ MDc n A h) →
      WPc 122 19 [(10, 0), (0, i), (0, x2), (0, nI (pre ++ r1).length)] [] h Q := by
  intro r2
  induction r2 with
  | nil =>
    intro r1 d h e g e28 row M
    rw [List.append_nil] at e
    subst e
    refine b122_19 _ _ _ h Q ⟨fun _ => K h _ g ?_, fun z => absurd (by rw [e28]; exact Int32.le_refl _) z⟩
    exact ⟨M.1, M.2.1, M.2.2.1, M.2.2.2.1, ⟨e28, LSq_take row⟩, M.2.2.2.2⟩
  | cons x r2 ih =>
    intro r1 d h e g e28 row M
    have hl : (pre ++ r1).length + 1 < 801 := by
      rw [ew, e] at hwl; simp at hwl ⊢; omega
    have ro := (LSq_app.mp row).2
    rw [Int32.zero_add, List.length_map] at ro
    have val : h 67 0 (nI (pre ++ r1).length + 1) = cd x := ro.2.1
    refine b122_19 _ _ _ h Q ⟨fun z => ?_, fun _ => ⟨?_, i900 (by omega), ?_⟩⟩
    · rw [e28, nJ_le (by rw [ew] at hwl; simp at hwl ⊢; omega) (by omega), e] at z
      simp at z
      exfalso; omega
    · rw [← nJ_s]; exact i900 (by omega)
    · rw [val]
      have := ih (r1 ++ [x]) (cd x) (up h 67 0 (nI (pre ++ r1).length) (cd x)) (by rw [e]; simp) (ag_tr g (ag_up ag_rf rfl)) (by rw [upfam (by decide)]; exact e28) ?_ ⟨MA_sk M.1 _ _ _ _ rfl, MDp_sk M.2.1 _ _ _ _ (by decide), MDr_sk M.2.2.1 _ _ _ _ (by decide), MDr_sk M.2.2.2.1 _ _ _ _ (by decide), MDc_sk M.2.2.2.2 _ _ _ _ (by first | decide | simp)⟩
      · rw [← List.append_assoc, List.length_append] at this
        rw [← nJ_s]; exact this
      · rw [uprow, ← List.append_assoc, List.map_append, List.append_assoc]
        refine LSq_app.mpr ⟨LSq_congr (fun k hk => ?_) (LSq_app.mp row).1, ?_⟩
        · rw [List.length_map] at hk
          rw [Int32.zero_add]
          refine vpd_ne _ _ fun z => ?_
          have := nJ_inj (by omega) (by omega) z
          omega
        · rw [Int32.zero_add, List.length_map]
          refine ⟨vpd_eq _ _ _, ?_, LSq_congr (fun k hk => ?_) ro.2.2⟩
          · refine (vpd_ne _ _ fun z => ?_).trans val
            have : nI ((pre ++ r1).length + 1) = nI (pre ++ r1).length := by rw [nJ_s]; exact z
            have := nJ_inj (by omega) (by omega) this
            omega
          · rw [List.length_map] at hk
            have hk2 : (pre ++ r1).length + (2 + k) < 900 := by rw [ew, e] at hwl; simp at hwl ⊢; omega
            refine vpd_ne _ _ fun z => ?_
            have e2 : nI ((pre ++ r1).length + (2 + k)) = nI (pre ++ r1).length := by
              rw [nJ_add, nJ_add]
              show nI (pre ++ r1).length + (2 + nI k) = _
              have z' : nI (pre ++ r1).length + 1 + 1 + nI k = nI (pre ++ r1).length := z
              rw [← z']
              grind
            have := nJ_inj (by omega) (by omega) e2
            omega
theorem comes_end (A : SY) (q : PT) (i x2 x3 : Int32) (h : HP) (Q : Option AV → HP → Prop) (hI : YV A) (hc : cm A = [q]) (hx : x2 = cd q) (hM : MD 0 (scm A []) h)
    (H : ∀ h', ag sM h h' → MD 0 (wrk 800 A) h' → Q (some (0, 1 + (if q.2 then 1 else 0))) h') :
    (¬ (2 : Int32) = 0 ∧ ((¬ (x2 - x2 / 2 * 2) = 0 → (¬ (2 : Int32) = 0 ∧ WPm 111 [(10, 0), (0, (x2 / 2))] h (fun w h' => WPc 122 70 [(10, 0), (0, i), (0, x2), (0, x3)] (w.toList ++ []) h' Q))) ∧ ((x2 - x2 / 2 * 2) = 0 → (¬ (2 : Int32) = 0 ∧ WPm 110 [(10, 0), (0, (x2 / 2))] h (fun w h' => WPc 122 60 [(10, 0), (0, i), (0, x2), (0, x3)] (w.toList ++ []) h' Q))))) := by
  have ip := NC_in hI ((scm_pnd hc).mem_iff.mpr (by simp) : q ∈ pnd A)
  have gg := ga hI ip.1
  obtain ⟨e, s⟩ := q
  have co : cd (e, s) / 2 = e ∧ cd (e, s) - cd (e, s) / 2 * 2 = (if s then 1 else 0) := cd_ok gg.1 s
  have hI' := YV_cmQ hI hc
  have cl := cnt_le (cmQ (scm A []) (e, s))
  have c := cnt_cmQ hI hc
  have cA := cnt_le A
  have ew : wrk 800 A = wrk 799 (cmQ (scm A []) (e, s)) := by
    show wrk (799 + 1) A = _
    rw [wrk, hc]
  rw [ew] at H
  have fin : ∀ h1, ag sM h h1 → MD 0 (cmQ (scm A []) (e, s)) h1 → WPc 122 70 [(10, 0), (0, i), (0, x2), (0, x3)] [] h1 Q := fun h1 g1 M1 => by
    refine b122_70 _ _ _ h1 Q (b108_0 h1 _ (s_come _ 799 0 _ h1 hI' (by omega) (by omega) M1 fun h2 g2 M2 => b122_74 _ _ _ h2 Q ⟨by decide, ?_⟩))
    rw [hx, co.2]
    exact H h2 (ag_tr g1 g2) M2
  rw [hx, co.2, co.1]
  refine ⟨by decide, fun z => ⟨by decide, ?_⟩, fun z => ⟨by decide, ?_⟩⟩
  · cases s with
    | false => exact absurd rfl z
    | true =>
      rw [← hx]
      exact s_shadowComes 0 A e [] h _ hI hc (by show 0 + cnt (cmQ (scm A []) (e, true)) ≤ 800; omega) hM fun h1 g1 M1 => fin h1 g1 M1
  · cases s with
    | true => exact absurd z (by decide)
    | false =>
      rw [← hx]
      exact s_eventComes 0 A e [] h _ hI hc (by show 0 + cnt (cmQ (scm A []) (e, false)) ≤ 800; omega) hM fun h1 g1 M1 => b122_60 _ _ _ h1 Q (fin h1 g1 M1)
theorem wl800 {A : SY} (hI : YV A) : (wy A).length ≤ 800 ∧ (cm A).length ≤ 800 := by
  have h1 := pnd_cnt hI
  have h2 := cnt_le A
  unfold pnd at h1
  rw [List.length_append] at h1
  omega
theorem s_comes (A : SY) (k : Nat) (q : PT) (h : HP) (Q : Option AV → HP → Prop) (hY : YW A) (hk : k < (wy A).length) (hq : (wy A)[k] = q) (hM : MD 0 A h)
    (H : ∀ h', ag sM h h' → MD 0 (wrk 800 (hoA A k q)) h' → YW (wrk 800 (hoA A k q)) → Q (some (0, 1 + (if q.2 then 1 else 0))) h') : WPm 122 [(10, 0), (0, nI k)] h Q := by
  have hI := YV_hoA hY.1 hk hq
  have hYW : YW (wrk 800 (hoA A k q)) := YW_wrk hI hY.2.1
  have wl := (wl800 hY.1).1
  have ew : wy A = (wy A).take k ++ q :: (wy A).drop (k + 1) := by
    rw [← hq, List.getElem_cons_drop, List.take_append_drop]
  have el : ((wy A).take k).length = k := by rw [List.length_take]; omega
  have er : (wy A).eraseIdx k = (wy A).take k ++ (wy A).drop (k + 1) := List.eraseIdx_eq_take_drop_succ _ _
  have val : h 67 0 (nI k) = cd q := by
    have := LSq_get hM.2.2.2.2.1.2 k (by rw [List.length_map]; exact hk)
    rw [Int32.zero_add] at this
    rw [this, List.getElem_map, hq]
  have hc : cm (hoA A k q) = [q] := by show cm A ++ [q] = _; rw [hY.2.2]; rfl
  obtain ⟨m1, m2, m3, m4, m5, m6⟩ := id hM
  refine b122_0 _ h Q ⟨i900 (by omega), ?_⟩
  rw [val]
  have := shift_ok 0 A (nI k) (cd q) ((wy A).take k) ((wy A).drop (k + 1)) q (up h 10 0 28 (h 10 0 28 - 1)) Q ew wl (fun h' x3 g M => ?_) ((wy A).drop (k + 1)) [] (cd q) (up h 10 0 28 (h 10 0 28 - 1)) rfl ag_rf ?_ ?_ ⟨MA_sk m1 _ _ _ _ (by decide), MDp_sk m2 _ _ _ _ (by decide), MDr_sk m3 _ _ _ _ (by decide), MDr_sk m4 _ _ _ _ (by decide), MDc_sk m6 _ _ _ _ (by decide)⟩
  · rw [List.append_nil, el] at this
    exact this
  · refine comes_end (hoA A k q) q (nI k) (cd q) x3 h' Q hI hc rfl ?_ fun h'' g2 M2 => H h'' (ag_tr (ag_tr (ag_up ag_rf rfl) g) g2) M2 hYW
    have e : scm (hoA A k q) [] = (A.1, dn A, pr A, se A, (wy A).take k ++ (wy A).drop (k + 1), cm A) := by
      unfold scm hoA
      show (A.1, dn A, pr A, se A, (wy A).eraseIdx k, []) = _
      rw [er, hY.2.2]
    rw [e]; exact M
  · have ll : (wy A).length = ((wy A).take k ++ (wy A).drop (k + 1)).length + 1 := by
      rw [List.length_append, List.length_take, List.length_drop]; omega
    rw [up_at, m5.1, ll, nJ_s]
    grind
  · rw [upfam (by decide)]
    have := m5.2
    rw [ew] at this
    simpa using this
noncomputable def opDlv (A : SY) (i : Int32) : Int32 × SY := @ite _ (isIn i 0 (nI (wy A).length - 1)) (Classical.propDecidable _)
  (1 + (if ((wy A).getD i.toNatClampNeg (0, false)).2 then 1 else 0), wrk 800 (hoA A i.toNatClampNeg ((wy A).getD i.toNatClampNeg (0, false)))) (-2, A)
theorem M_deliver (A : SY) (i : Int32) (h : HP) (Q : Option AV → HP → Prop) (hY : YW A) (hM : MD 0 A h) (H : ∀ h', ag sM h h' → MD 0 (opDlv A i).2 h' → YW (opDlv A i).2 → Q (some (0, (opDlv A i).1)) h') : WPm 123 [(10, 0), (0, i)] h Q := by
  have wl := (wl800 hY.1).1
  have e28 : h 10 0 28 = nI (wy A).length := hM.2.2.2.2.1.1
  unfold opDlv at H
  refine b123_0 _ h Q ?_
  rw [e28]
  refine s_in2 _ _ _ _ _ (fun z => b123_11 _ _ h Q ⟨fun y => absurd y one0, fun _ => ?_⟩) (fun z => b123_11 _ _ h Q ⟨fun _ => ?_, fun y => absurd rfl y⟩)
  · rw [if_pos z] at H
    obtain ⟨k, rfl, hk⟩ := nJ_ex z.1
    have hk2 : k < (wy A).length := by
      have h1 : nI k < nI (wy A).length := by
        have := z.2
        have := nJ_nn (n := (wy A).length) (by omega)
        have h3 : nI (wy A).length ≤ nI 800 := (nJ_le (by omega) (by omega)).mpr wl
        have h4 : nI 800 = 800 := rfl
        grind
      exact (nJ_lt hk (by omega)).mp h1
    have ek : (nI k).toNatClampNeg = k := Int32.toNatClampNeg_ofNat_of_lt (by omega)
    have eg : (wy A).getD k (0, false) = (wy A)[k] := by simp [hk2]
    rw [ek, eg] at H
    exact s_comes A k _ h _ hY hk2 rfl hM fun h' g M hY' => b123_19 _ _ h' Q (H h' g M hY')
  · rw [if_neg z] at H
    exact H h ag_rf hM hY
noncomputable def opAll (A : SY) : Int32 × SY := dal 800 0 A
theorem M_all (A : SY) (h : HP) (Q : Option AV → HP → Prop) (hY : YW A) (hM : MD 0 A h) (H : ∀ h', ag sM h h' → MD 0 (opAll A).2 h' → YW (opAll A).2 → Q (some (0, (opAll A).1)) h') : WPm 124 [(10, 0)] h Q := by
  have loop : ∀ (n : Nat) (k : Int32) (B : SY) (h' : HP), cnt B ≤ n → YW B → ag sM h h' → MD 0 B h' → opAll A = dal n k B → WPc 124 2 [(10, 0), (0, k)] [] h' Q := by
    have fin : ∀ (n : Nat) (k : Int32) (B : SY) (h' : HP), wy B = [] → YW B → ag sM h h' → MD 0 B h' → opAll A = dal n k B → WPc 124 2 [(10, 0), (0, k)] [] h' Q := by
      intro n k B h' hw hB g M e
      have ed : dal n k B = (k, B) := by
        cases n with
        | zero => rfl
        | succ n => unfold dal; rw [hw]
      rw [e, ed] at H
      refine b124_2 _ h' Q ⟨fun _ => H h' g M hB, fun z => absurd ?_ z⟩
      rw [M.2.2.2.2.1.1, hw]; exact Int32.le_refl _
    intro n
    induction n with
    | zero =>
      intro k B h' hc hB g M e
      have := pnd_cnt hB.1
      have : (pnd B).length = 0 := by omega
      have : pnd B = [] := List.eq_nil_of_length_eq_zero this
      unfold pnd at this
      exact fin 0 k B h' (List.append_eq_nil_iff.mp this).1 hB g M e
    | succ n ih =>
      intro k B h' hc hB g M e
      cases hw : wy B with
      | nil => exact fin (n + 1) k B h' hw hB g M e
      | cons q r =>
        have hk : 0 < (wy B).length := by rw [hw]; simp
        have hq : (wy B)[0] = q := by simp [hw]
        have ed : dal (n + 1) k B = dal n (k + 1) (wrk 800 (hoA B 0 q)) := by rw [dal, hw]
        have cd := cnt_dlv hB hk hq
        have wl := (wl800 hB.1).1
        rw [ed] at e
        refine b124_2 _ h' Q ⟨fun z => ?_, fun _ => ?_⟩
        · rw [M.2.2.2.2.1.1, hw] at z
          have : nI 0 < nI (q :: r).length := (nJ_lt (by omega) (by rw [hw] at wl; omega)).mpr (by simp)
          rw [nJ_0] at this
          exfalso; grind
        · exact s_comes B 0 q h' _ hB hk hq M fun h'' g2 M2 hY2 => b124_14 _ _ h'' Q (ih (k + 1) _ h'' (by omega) hY2 (ag_tr g g2) M2 e)
  exact b124_0 h Q (loop 800 0 A h (cnt_le A) hY ag_rf hM rfl)
noncomputable def opStart (A : SY) (p m x : Int32) : Int32 × SY := @ite _ (isP A p ∧ isIn m 0 100000) (Classical.propDecidable _)
  (@ite _ (lowP A m) (Classical.propDecidable _) (-3, A) (if nE A = 400 then (-4, A) else (nE A, wrk 800 (stA A p m x)))) (-2, A)
theorem L8_stA {A : SY} {p m x : Int32} (h : L8 A) : L8 (stA A p m x) := h
theorem M_start (A : SY) (p m x : Int32) (h : HP) (Q : Option AV → HP → Prop) (hY : YW A) (hM : MD 0 A h) (H : ∀ h', ag sM h h' → MD 0 (opStart A p m x).2 h' → YW (opStart A p m x).2 → Q (some (0, (opStart A p m x).1)) h') : WPm 117 [(10, 0), (0, p), (0, m), (0, x)] h Q := by
  unfold opStart at H
  have bad : ¬ (isP A p ∧ isIn m 0 100000) → Q (some (0, -2)) h := fun z => by
    rw [if_neg z] at H
    exact H h ag_rf hM hY
  refine b117_0 _ _ _ h Q (s_isP A 0 p h _ hM (fun z1 => b117_5 _ _ _ _ h Q ⟨fun y => absurd y one0, fun _ => ?_⟩) (fun z => b117_5 _ _ _ _ h Q ⟨fun _ => bad fun q => z q.1, fun y => absurd rfl y⟩))
  refine s_in2 _ _ _ _ _ (fun z2 => b117_15 _ _ _ _ h Q ⟨fun _ => ?_, fun y => absurd y one0⟩) (fun z => b117_15 _ _ _ _ h Q ⟨fun y => absurd rfl y, fun _ => bad fun q => z q.2⟩)
  rw [if_pos ⟨z1, z2⟩] at H
  have ip := isP_ina hY z1
  refine s_findFloor A h _ hY hM fun w h1 g1 hw1 hF => b117_25 _ _ _ h1 Q ?_
  have M1 := MD_ag hM (ag_FS g1)
  have g1M : ag sM h h1 := ag_SM (ag_FS g1)
  have uq := fl_uq hw1 (flo_ok hw1)
  obtain ⟨N, hN, hN4⟩ := nE_nat hY.1
  have e13 : h1 10 0 13 = nE A := M1.1 10 13 rfl
  have e14 : h1 10 0 14 = A.1 10 14 := M1.1 10 14 rfl
  have fin : ∀ x4 x5, (x4 = 0 ∨ x4 = 1) → (x4 = 1 ↔ lowP A m) → ((x4 = 0 → ((¬ nE A = 400 → WPm 106 [(10, 0), (0, p), (0, m), (0, (-1)), (0, (-1)), (0, A.1 10 14)] h1 (fun w h' => WPc 117 139 [(10, 0), (0, p), (0, m), (0, x), (0, x4), (0, x5)] (w.toList ++ []) h' Q)) ∧ (nE A = 400 → Q (some (0, (-4))) h1))) ∧ (¬ x4 = 0 → Q (some (0, (-3))) h1)) := fun x4 x5 h01 hl => by
    refine ⟨fun z => ⟨fun n4 => ?_, fun n4 => ?_⟩, fun z => ?_⟩
    · rw [if_neg (fun q => by rw [hl.mpr q] at z; exact one0 z), if_neg n4] at H
      have n4' : nE A < 400 := by have := hY.1.1.2.1.2; grind
      have ni : ina (nE A) 400 := ⟨hY.1.1.2.1.1, n4'⟩
      refine b106_0 _ _ _ _ _ h1 _ ?_
      rw [e13]
      refine ⟨ni, ni, ni, ni, ni, ni, b117_139 _ _ _ _ _ _ _ Q ⟨ni, ?_⟩⟩
      have M2 := MD_at (MD_mk M1 p m (-1) (-1) (A.1 10 14) x) 10 14 (A.1 10 14 + 1) (by decide)
      have e14' : (up (up (up (up (up (up (up h1 10 0 13 (nE A + 1)) 54 0 (nE A) p) 55 0 (nE A) m) 56 0 (nE A) (-1)) 57 0 (nE A) (-1)) 58 0 (nE A) (A.1 10 14)) 60 0 (nE A) 3) 10 0 14 = A.1 10 14 := by
        rw [upfam (by decide), upfam (by decide), upfam (by decide), upfam (by decide), upfam (by decide), upfam (by decide), up_n (by decide)]; exact e14
      rw [e14']
      have hI := YV_stA (x := x) hY.1 ip.1 z2 n4'
      have hc : cm (stA A p m x) = [(nE A, false)] := by show cm A ++ [(nE A, false)] = _; rw [hY.2.2]; rfl
      have hYW : YW (wrk 800 (stA A p m x)) := YW_wrk hI (L8_stA hY.2.1)
      have eS : scm (stA A p m x) [] = (sa (mk1 A.1 (nE A) p m (-1) (-1) (A.1 10 14) x) 10 14 (A.1 10 14 + 1), A.2) := by
        unfold scm stA
        show (_, dn A, pr A, se A, wy A, ([] : List PT)) = (_, A.2)
        rw [← hY.2.2]
      have M3 : MD 0 (scm (stA A p m x) []) (up (up (up (up (up (up (up (up (up h1 10 0 13 (nE A + 1)) 54 0 (nE A) p) 55 0 (nE A) m) 56 0 (nE A) (-1)) 57 0 (nE A) (-1)) 58 0 (nE A) (A.1 10 14)) 60 0 (nE A) 3) 59 0 (nE A) x) 10 0 14 (A.1 10 14 + 1)) := by
        rw [eS]; exact M2
      have hI' := YV_cmQ hI hc
      have cl := cnt_le (cmQ (scm (stA A p m x) []) (nE A, false))
      have cA := cnt_le (stA A p m x)
      have cc := cnt_cmQ hI hc
      have ew : wrk 800 (stA A p m x) = wrk 799 (cmQ (scm (stA A p m x) []) (nE A, false)) := by
        show wrk (799 + 1) (stA A p m x) = _
        rw [wrk, hc]
      refine s_eventComes 0 (stA A p m x) (nE A) [] _ _ hI hc (by show 0 + cnt (cmQ (scm (stA A p m x) []) (nE A, false)) ≤ 800; omega) M3 fun h2 g2 M4 => b117_165 _ _ _ _ _ h2 Q (b108_0 h2 _ (s_come _ 799 0 _ h2 hI' (by omega) (by omega) M4 fun h3 g3 M5 => b117_169 _ _ _ _ _ h3 Q ?_))
      rw [← ew] at M5
      exact H h3 (ag_tr (ag_tr (ag_tr g1M (ag_up (ag_up (ag_up (ag_up (ag_up (ag_up (ag_up (ag_up (ag_up ag_rf rfl) rfl) rfl) rfl) rfl) rfl) rfl) rfl) rfl)) g2) g3) M5 hYW
    · rw [if_neg (fun q => by rw [hl.mpr q] at z; exact one0 z), if_pos n4] at H
      exact H h1 g1M M1 hY
    · rw [if_pos (hl.mp (h01.resolve_left z))] at H
      exact H h1 g1M M1 hY
  have loop : ∀ (j k : Nat) (x4 : Int32), k + j = N → (x4 = 0 ∨ x4 = 1) → (x4 = 1 ↔ ((¬ w = -1 ∧ m ≤ A.1 55 w) ∨ (w = -1 ∧ ∃ i, i < k ∧ hw A (nI i) = 1 ∧ m ≤ A.1 55 (nI i)))) → WPc 117 50 [(10, 0), (0, p), (0, m), (0, x), (0, x4), (0, nI k)] [] h1 Q := by
    intro j
    induction j with
    | zero =>
      intro k x4 e h01 hx
      have ek : k = N := by omega
      subst ek
      refine b117_50 _ _ _ _ _ h1 Q ⟨fun _ => ?_, fun z => absurd (by rw [e13, hN]; exact Int32.le_refl _) z⟩
      rw [e13, e14]
      refine fin x4 _ h01 (hx.trans ?_)
      unfold lowP
      constructor
      · rintro (⟨a1, a2⟩ | ⟨a1, i, a2, a3, a4⟩)
        · exact Or.inl ⟨fun q => a1 (uq.1.mpr q), by rw [← (uq.2 a1).1]; exact a2⟩
        · exact Or.inr ⟨uq.1.mp a1, nI i, by rw [hN]; exact (ina_nat hN4).mpr ⟨i, a2, rfl⟩, a3, a4⟩
      · rintro (⟨a1, a2⟩ | ⟨a1, f, a2, a3, a4⟩)
        · have wn : ¬ w = -1 := fun q => a1 (uq.1.mp q)
          exact Or.inl ⟨wn, by rw [(uq.2 wn).1]; exact a2⟩
        · rw [hN] at a2
          obtain ⟨i, i1, rfl⟩ := (ina_nat hN4).mp a2
          exact Or.inr ⟨uq.1.mpr a1, i, i1, a3, a4⟩
    | succ j ih =>
      intro k x4 e h01 hx
      have ki : ina (nI k) (nE A) := by rw [hN]; exact (ina_nat hN4).mpr ⟨k, by omega, rfl⟩
      have gk := ga hY.1 ki
      have e60 : h1 60 0 (nI k) = hw A (nI k) := M1.1 60 _ rfl
      have e55 : h1 55 0 (nI k) = A.1 55 (nI k) := M1.1 55 _ rfl
      have mono : ((¬ w = -1 ∧ m ≤ A.1 55 w) ∨ (w = -1 ∧ ∃ i, i < k ∧ hw A (nI i) = 1 ∧ m ≤ A.1 55 (nI i))) → ((¬ w = -1 ∧ m ≤ A.1 55 w) ∨ (w = -1 ∧ ∃ i, i < k + 1 ∧ hw A (nI i) = 1 ∧ m ≤ A.1 55 (nI i))) := by
        rintro (a | ⟨a1, i, a2, a3⟩)
        · exact Or.inl a
        · exact Or.inr ⟨a1, i, by omega, a3⟩
      have stay : x4 = 0 → (¬ (w = -1 ∧ hw A (nI k) = 1 ∧ m ≤ A.1 55 (nI k))) → WPc 117 50 [(10, 0), (0, p), (0, m), (0, x), (0, 0), (0, nI k + 1)] [] h1 Q := fun x0 nk => by
        rw [← nJ_s]
        refine ih (k + 1) 0 (by omega) (Or.inl rfl) ⟨fun z => absurd z (by decide), fun z => ?_⟩
        rw [← x0]
        refine hx.mpr ?_
        rcases z with a | ⟨a1, i, a2, a3, a4⟩
        · exact Or.inl a
        · by_cases y : i = k
          · rw [y] at a3 a4; exact absurd ⟨a1, a3, a4⟩ nk
          · exact Or.inr ⟨a1, i, by omega, a3, a4⟩
      refine b117_50 _ _ _ _ _ h1 Q ⟨fun z => ?_, fun _ => ?_⟩
      · rw [e13, hN, nJ_le (by omega) (by omega)] at z
        exfalso; omega
      · rw [e60, e55]
        refine ⟨fun z => ?_, fun z => ⟨fun z2 => ?_, fun z2 => ⟨gk.1, fun z3 => ?_, fun z3 => ⟨gk.1, fun z4 => ?_, fun z4 => ?_⟩⟩⟩⟩
        · rw [← nJ_s]
          exact ih (k + 1) 1 (by omega) (Or.inr rfl) ⟨fun _ => mono (hx.mp (h01.resolve_left z)), fun _ => rfl⟩
        · refine stay z fun q => ?_
          rcases hF with ⟨a1, a2⟩ | ⟨a1, -⟩
          · exact z2 a2
          · exact a1 q.1
        · exact stay z fun q => z3 q.2.1
        · exact stay z fun q => absurd q.2.2 (by grind)
        · rw [← nJ_s]
          refine ih (k + 1) 1 (by omega) (Or.inr rfl) ⟨fun _ => Or.inr ⟨?_, k, by omega, z3, by grind⟩, fun _ => rfl⟩
          rcases hF with ⟨a1, a2⟩ | ⟨a1, a2, -⟩
          · exact a1
          · rw [a2] at z2; exact absurd z2 one0
  have st0 : ∀ x4, (x4 = 0 ∨ x4 = 1) → (x4 = 1 ↔ (¬ w = -1 ∧ m ≤ A.1 55 w)) → WPc 117 50 [(10, 0), (0, p), (0, m), (0, x), (0, x4), (0, 0)] [] h1 Q := fun x4 h01 hx => by
    refine loop N 0 x4 (by omega) h01 (hx.trans ⟨Or.inl, fun z => ?_⟩)
    rcases z with a | ⟨a1, i, a2, a3⟩
    · exact a
    · omega
  rcases hF with ⟨a1, a2⟩ | ⟨a1, a2, a3, -⟩
  · exact ⟨fun _ => st0 0 (Or.inl rfl) ⟨fun z => absurd z (by decide), fun z => absurd a1 z.1⟩, fun z => absurd a2 z⟩
  · refine ⟨fun z => by rw [a2] at z; exact absurd z one0, fun _ => ⟨fun z => ?_, fun z => ?_⟩⟩
    · rw [a3] at z
      exact st0 0 (Or.inl rfl) ⟨fun y => absurd y (by decide), fun y => absurd y.2 (by grind)⟩
    · rw [a3] at z
      exact st0 1 (Or.inr rfl) ⟨fun _ => ⟨a1, by grind⟩, fun _ => rfl⟩
theorem YV_line {A : SY} {p l : Int32} (hI : YV A) : YV (sa A.1 42 p l, A.2) := by
  have ef : ∀ f, ¬ f = 42 → sa A.1 42 p l f = A.1 f := fun f h => sa_fam h
  obtain ⟨⟨r1, r2, r3, r4⟩, ⟨d1, d2, d3, d4⟩, ⟨q1, q2, q3, q4⟩, ⟨l1, l2⟩, c1, ⟨t1, t2, t3⟩⟩ := hI
  have sr : SR A.1 (sa A.1 42 p l) := ⟨by rw [ef 10 (by decide)], fun f h1 h2 => ef f (by omega)⟩
  have hb : bel (sa A.1 42 p l) = bel A.1 := bel_co fun f h1 h2 => ef f (by omega)
  have e10 := ef 10 (by decide)
  have e54 := ef 54 (by decide)
  have e55 := ef 55 (by decide)
  have e56 := ef 56 (by decide)
  have e57 := ef 57 (by decide)
  have e58 := ef 58 (by decide)
  have e60 := ef 60 (by decide)
  have e61 := ef 61 (by decide)
  refine ⟨⟨RU_sr sr r1, ?_, ?_, ?_⟩, ⟨?_, ?_, ?_, ?_⟩, ⟨q1, ?_, ?_, ?_⟩, ⟨?_, ?_⟩, fun q pre d post h => ?_, ⟨?_, ?_, ?_⟩⟩
  · simp only [nE, e10]; exact r2
  · simp only [nE, nP, pa, hw, e10, e54, e55, e60, e61]; exact r3
  · simp only [nE, e10, e61]; exact r4
  · simp only [nE, hw, pa, e10, e54, e60]; exact d1
  · simp only [nE, hw, pa, e10, e54, e60]; exact d2
  · simp only [hb]; exact d3
  · simp only [nE, hw, pa, e10, e54, e60, hb]; exact d4
  · simp only [nE, hw, e10, e60]; exact q2
  · simp only [nE, hw, e10, e60, e61, e57]; exact q3
  · simp only [nE, hw, e10, e60, e61, e57]; exact q4
  · simp only [lv, nE, hw, e10, e60, e61, e57]; exact l1
  · simp only [lv, nE, hw, e10, e60, e61]; exact l2
  · exact RES_co (A := A) sr (fun f h1 h2 => ef f (by omega)) (ef 62 (by decide)) rfl rfl (c1 q pre d post h)
  · simp only [nE, hw, e10, e60, e57, e56, e58]; exact t1
  · simp only [nE, e10, e57, e58]; exact t2
  · simp only [nE, e10]; exact t3
noncomputable def opMove (A : SY) (p l : Int32) : Int32 × SY := @ite _ (isP A p ∧ isIn l 0 3) (Classical.propDecidable _) (A.1 42 p, (sa A.1 42 p l, A.2)) (-2, A)
theorem M_move (A : SY) (p l : Int32) (h : HP) (Q : Option AV → HP → Prop) (hY : YW A) (hM : MD 0 A h) (H : ∀ h', ag sM h h' → MD 0 (opMove A p l).2 h' → YW (opMove A p l).2 → Q (some (0, (opMove A p l).1)) h') : WPm 125 [(10, 0), (0, p), (0, l)] h Q := by
  unfold opMove at H
  have bad : ¬ (isP A p ∧ isIn l 0 3) → Q (some (0, -2)) h := fun z => by
    rw [if_neg z] at H
    exact H h ag_rf hM hY
  refine b125_0 _ _ h Q (s_isP A 0 p h _ hM (fun z1 => b125_5 _ _ _ h Q ⟨fun y => absurd y one0, fun _ => ?_⟩) (fun z => b125_5 _ _ _ h Q ⟨fun _ => bad fun q => z q.1, fun y => absurd rfl y⟩))
  refine s_in2 _ _ _ _ _ (fun z2 => b125_14 _ _ _ h Q ⟨fun _ => ?_, fun y => absurd y one0⟩) (fun z => b125_14 _ _ _ h Q ⟨fun y => absurd rfl y, fun _ => bad fun q => z q.2⟩)
  rw [if_pos ⟨z1, z2⟩] at H
  have ip := isP_ina hY z1
  rw [hM.1 42 p rfl]
  exact ⟨ip.2, ip.2, H _ (ag_up ag_rf rfl) (MD_at hM 42 p l (by first | decide | simp)) ⟨YV_line hY.1, hY.2⟩⟩
noncomputable def opLimit (A : SY) (n : Int32) : Int32 × SY := @ite _ (isIn n (-1) 1000) (Classical.propDecidable _) (A.1 10 32, (sa A.1 10 32 n, A.2)) (-2, A)
theorem YV_irr {A : SY} {a : AT} (hI : YV A) (ef : ∀ f, ¬ f = 10 → a f = A.1 f) (h0 : a 10 0 = A.1 10 0) (h13 : a 10 13 = A.1 10 13) (h14 : a 10 14 = A.1 10 14) : YV (a, A.2) := by
  obtain ⟨⟨r1, r2, r3, r4⟩, ⟨d1, d2, d3, d4⟩, ⟨q1, q2, q3, q4⟩, ⟨l1, l2⟩, c1, ⟨t1, t2, t3⟩⟩ := hI
  have sr : SR A.1 a := ⟨h0, fun f h1 h2 => ef f (by omega)⟩
  have hb : bel a = bel A.1 := bel_co fun f h1 h2 => ef f (by omega)
  have e54 := ef 54 (by decide)
  have e55 := ef 55 (by decide)
  have e56 := ef 56 (by decide)
  have e57 := ef 57 (by decide)
  have e58 := ef 58 (by decide)
  have e60 := ef 60 (by decide)
  have e61 := ef 61 (by decide)
  refine ⟨⟨RU_sr sr r1, ?_, ?_, ?_⟩, ⟨?_, ?_, ?_, ?_⟩, ⟨q1, ?_, ?_, ?_⟩, ⟨?_, ?_⟩, fun q pre d post h => ?_, ⟨?_, ?_, ?_⟩⟩
  · simp only [nE, h13]; exact r2
  · simp only [nE, nP, pa, hw, h13, h0, e54, e55, e60, e61]; exact r3
  · simp only [nE, h13, e61]; exact r4
  · simp only [nE, hw, pa, h13, e54, e60]; exact d1
  · simp only [nE, hw, pa, h13, e54, e60]; exact d2
  · simp only [hb]; exact d3
  · simp only [nE, hw, pa, h13, e54, e60, hb]; exact d4
  · simp only [nE, hw, h13, e60]; exact q2
  · simp only [nE, hw, h13, e60, e61, e57]; exact q3
  · simp only [nE, hw, h13, e60, e61, e57]; exact q4
  · simp only [lv, nE, hw, h13, e60, e61, e57]; exact l1
  · simp only [lv, nE, hw, h13, e60, e61]; exact l2
  · exact RES_co (A := A) sr (fun f h1 h2 => ef f (by omega)) (ef 62 (by decide)) rfl rfl (c1 q pre d post h)
  · simp only [nE, hw, h13, h14, e60, e57, e56, e58]; exact t1
  · simp only [nE, h13, e57, e58]; exact t2
  · simp only [nE, h13, h14]; exact t3
theorem M_limit (A : SY) (n : Int32) (h : HP) (Q : Option AV → HP → Prop) (hY : YW A) (hM : MD 0 A h) (H : ∀ h', ag sM h h' → MD 0 (opLimit A n).2 h' → YW (opLimit A n).2 → Q (some (0, (opLimit A n).1)) h') : WPm 126 [(10, 0), (0, n)] h Q := by
  unfold opLimit at H
  refine b126_0 _ h Q (s_in2 _ _ _ _ _ (fun z => b126_8 _ _ h Q ⟨fun _ => ?_, fun y => absurd y one0⟩) (fun z => b126_8 _ _ h Q ⟨fun y => absurd rfl y, fun _ => ?_⟩))
  · rw [if_pos z] at H
    rw [hM.1 10 32 rfl]
    exact H _ (ag_up ag_rf rfl) (MD_at hM 10 32 n (by decide)) ⟨YV_irr hY.1 (fun f hf => sa_fam hf) (sa_ne (by decide)) (sa_ne (by decide)) (sa_ne (by decide)), hY.2⟩
  · rw [if_neg z] at H
    exact H h ag_rf hM hY
noncomputable def opKeep (k : Int32) : Int32 := @ite _ (isIn k 1 9) (Classical.propDecidable _) 1 (-2)
theorem M_keep (k : Int32) (h : HP) (Q : Option AV → HP → Prop) (H : Q (some (0, opKeep k)) h) : WPm 127 [(10, 0), (0, k)] h Q := by
  unfold opKeep at H
  refine b127_0 _ h Q (s_in2 _ _ _ _ _ (fun z => b127_7 _ _ h Q ⟨fun y => absurd y one0, fun _ => ?_⟩) (fun z => b127_7 _ _ h Q ⟨fun _ => ?_, fun y => absurd rfl y⟩))
  · rw [if_pos z] at H; exact H
  · rw [if_neg z] at H; exact H
