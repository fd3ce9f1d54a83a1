/-! 87: the class: step, run, deliver, deliverAll, move, limit, keep -/
theorem c_in (x a b : Int32) (h : HP) (Q : Option AV → HP → Prop) (H1 : isIn x a b → Q (some (0, 1)) h) (H0 : ¬ isIn x a b → Q (some (0, 0)) h) : WPm 60 [(0, x), (0, a), (0, b)] h Q :=
  b60_0 _ _ _ h Q ⟨fun z => ⟨Or.inl rfl, H0 fun q => by have := q.1; grind⟩, fun z => ⟨fun w => ⟨Or.inl rfl, H0 fun q => by have := q.2; grind⟩, fun w => ⟨Or.inr rfl, H1 ⟨by grind, by grind⟩⟩⟩⟩
theorem c_line (x : Int32) (h : HP) (Q : Option AV → HP → Prop) (H1 : isIn x 0 3 → Q (some (0, 1)) h) (H0 : ¬ isIn x 0 3 → Q (some (0, 0)) h) : WPm 61 [(0, x)] h Q :=
  b61_0 _ h Q (c_in _ _ _ h _ (fun z => b61_6 _ _ h Q ⟨Or.inr rfl, H1 z⟩) (fun z => b61_6 _ _ h Q ⟨Or.inl rfl, H0 z⟩))
theorem C_step (A : SY) (l : Int32) (od : List Int32) (h : HP) (Q : Option AV → HP → Prop) (hY : YW A) (R : RC A [] (Zst A) od h) (H : ∀ od' h', ag sC h h' → RC (opStep A l).2 [] (Zst (opStep A l).2) od' h' → Q (some (0, (opStep A l).1)) h') : WPm 41 [(9, 0), (0, l)] h Q := by
  unfold opStep at H
  refine b41_0 _ h Q (c_line _ h _ (fun z => b41_4 _ _ h Q ⟨fun _ => ?_, fun y => absurd y (by decide)⟩) (fun z => b41_4 _ _ h Q ⟨fun y => absurd rfl y, fun _ => ?_⟩))
  · rw [if_pos z, stp_dnx hY.2.2] at H
    exact s_doNext A od l h _ hY.1 R fun od1 h1 g1 R1 => b41_15 _ _ h1 Q (s_workOffM _ od1 h1 _ (YV_dnx hY.1) R1 fun h2 g2 R2 => b41_20 _ _ h2 Q (H od1 h2 (ag_tr g1 g2) R2))
  · rw [if_neg z] at H
    exact H od h ag_rf R
theorem C_run (A : SY) (l n : Int32) (od : List Int32) (h : HP) (Q : Option AV → HP → Prop) (hY : YW A) (R : RC A [] (Zst A) od h) (H : ∀ od' h', ag sC h h' → RC (opRun A l n).2 [] (Zst (opRun A l n).2) od' h' → Q (some (0, (opRun A l n).1)) h') : WPm 42 [(9, 0), (0, l), (0, n)] h Q := by
  unfold opRun at H
  have bad : ¬ (isIn l 0 3 ∧ isIn n 0 200) → Q (some (0, -2)) h := fun z => by
    rw [if_neg z] at H
    exact H od h ag_rf R
  refine b42_0 _ _ h Q (c_line _ h _ (fun z1 => b42_4 _ _ _ h Q ⟨fun y => absurd y (by decide), fun _ => ?_⟩) (fun z => b42_4 _ _ _ h Q ⟨fun _ => bad fun q => z q.1, fun y => absurd rfl y⟩))
  refine c_in _ _ _ h _ (fun z2 => b42_15 _ _ _ h Q ⟨fun _ => ?_, fun y => absurd y (by decide)⟩) (fun z => b42_15 _ _ _ h Q ⟨fun y => absurd rfl y, fun _ => bad fun q => z q.2⟩)
  rw [if_pos ⟨z1, z2⟩] at H
  obtain ⟨N, rfl, hN⟩ := nJ_exlt (N := 201) (i := n) (by decide) z2.1 (Int32.lt_of_le_of_lt z2.2 (by decide))
  have eN : (nI N).toNatClampNeg = N := Int32.toNatClampNeg_ofNat_of_lt (by omega)
  rw [eN] at H
  have loop : ∀ (m k : Nat) (B : SY) (od1 : List Int32) (h' : HP), k + m = N → YW B → ag sC h h' → RC B [] (Zst B) od1 h' → runF l N 0 A = runF l m (nI k) B → WPc 42 23 [(9, 0), (0, l), (0, nI N), (0, nI k)] [] h' Q := by
    intro m
    induction m with
    | zero =>
      intro k B od1 h' e hB g M er
      have ek : k = N := by omega
      subst ek
      rw [er] at H
      exact b42_23 _ _ _ h' Q ⟨fun _ => H od1 h' g M, fun z => absurd (Int32.le_refl _) z⟩
    | succ m ih =>
      intro k B od1 h' e hB g M er
      obtain ⟨v, hv⟩ := nxt_ex hB.1 l
      have hYs := YW_stp hB hv
      refine b42_23 _ _ _ h' Q ⟨fun z => ?_, fun _ => ?_⟩
      · rw [nJ_le (by omega) (by omega)] at z
        exfalso; omega
      · refine s_doNext B od1 l h' _ hB.1 M fun od2 h2 g2 M2 => b42_33 _ _ _ _ h2 Q ⟨fun z => ?_, fun z => ?_⟩
        · refine s_workOffM _ od2 h2 _ (YV_dnx hB.1) M2 fun h3 g3 M3 => b42_42 _ _ _ h3 Q ?_
          rw [runF_s, if_neg (by rw [stp_dnx hB.2.2]; show ¬ (dnx B l).1 < 0; grind)] at er
          rw [stp_dnx hB.2.2] at er hYs
          rw [← nJ_s]
          exact ih (k + 1) _ od2 h3 (by omega) hYs (ag_tr g (ag_tr g2 g3)) M3 (by rw [er, nJ_s])
        · have z' : (stpF B l).1 < 0 := by rw [stp_dnx hB.2.2]; show (dnx B l).1 < 0; grind
          rw [runF_s, if_pos z'] at er
          have e2 : (dnx B l).2 = B := by
            unfold dnx at z ⊢
            split
            · rfl
            · split
              · rfl
              · split
                · rfl
                · exfalso
                  rename_i n1 n2 n3
                  rw [if_neg n1, if_neg n2, if_neg n3] at z
                  rw [nx_ok hv] at z n1
                  exact z (nxt_min hv n1).1.1
          rw [e2] at M2
          rw [er] at H
          exact H od2 h2 (ag_tr g g2) M2
  exact loop N 0 A od h (by omega) hY ag_rf R rfl
theorem C_deliver (A : SY) (i : Int32) (od : List Int32) (h : HP) (Q : Option AV → HP → Prop) (hY : YW A) (R : RC A [] (Zst A) od h) (H : ∀ od' h', ag sC h h' → RC (opDlv A i).2 [] (Zst (opDlv A i).2) od' h' → Q (some (0, (opDlv A i).1)) h') : WPm 43 [(9, 0), (0, i)] h Q := by
  have wl := (wl800 hY.1).1
  have c0 := R.2.2.2.2.2.1.1
  have e6 : h 6 0 2 = nI (wy A).length := c0.1
  unfold opDlv at H
  refine b43_0 _ h Q ?_
  rw [e6]
  refine c_in _ _ _ h _ (fun z => b43_14 _ _ h Q ⟨fun _ => ?_, fun y => absurd y (by decide)⟩) (fun z => b43_14 _ _ h Q ⟨fun y => absurd rfl y, fun _ => ?_⟩)
  · rw [if_pos z] at H
    obtain ⟨k, rfl, hk⟩ := nJ_ex z.1
    have hk2 : k < (wy A).length := by
      have h1 : nI k < nI (wy A).length := by
        have := z.2
        have := nJ_nn (n := (wy A).length) (by omega)
        have h3 : nI (wy A).length ≤ nI 800 := (nJ_le (by omega) (by omega)).mpr wl
        have h4 : nI 800 = 800 := rfl
        grind
      exact (nJ_lt hk (by omega)).mp h1
    have ek : (nI k).toNatClampNeg = k := Int32.toNatClampNeg_ofNat_of_lt (by omega)
    have eg : (wy A).getD k (0, false) = (wy A)[k] := by simp [hk2]
    rw [ek, eg] at H
    have i8 : ina (nI k) 800 := ⟨nJ_nn (by omega), (nJ_lt (b := 800) (by omega) (by omega)).mpr (by omega)⟩
    have v35 : h 35 0 (nI k) = bN (wy A)[k].2 := by
      have := LSq_get c0.2.2 k (by rw [List.length_map]; exact hk2)
      rw [Int32.zero_add] at this
      rw [this, List.getElem_map]
    refine ⟨i8, ?_⟩
    rw [v35]
    refine s_hand A od k _ h _ hY R hk2 rfl fun h1 g1 W => b43_35 _ _ h1 Q (W _ fun h2 g2 R2 => b43_39 _ _ h2 Q ?_)
    have HH := H od h2 (ag_tr g1 g2) R2
    generalize (wy A)[k].2 = b at HH
    cases b with
    | false => exact ⟨fun _ => HH, fun y => absurd rfl y⟩
    | true => exact ⟨fun y => absurd y (by decide), fun _ => HH⟩
  · rw [if_neg z] at H
    exact H od h ag_rf R
theorem C_all (A : SY) (od : List Int32) (h : HP) (Q : Option AV → HP → Prop) (hY : YW A) (R : RC A [] (Zst A) od h) (H : ∀ od' h', ag sC h h' → RC (opAll A).2 [] (Zst (opAll A).2) od' h' → Q (some (0, (opAll A).1)) h') : WPm 44 [(9, 0)] h Q := by
  have loop : ∀ (n k : Nat) (B : SY) (h' : HP), n + k = 800 → cnt B ≤ n → YW B → ag sC h h' → RC B [] (Zst B) od h' → opAll A = dal n (nI k) B → WPc 44 2 [(9, 0), (0, nI k)] [] h' Q := by
    have fin : ∀ (n k : Nat) (B : SY) (h' : HP), wy B = [] → ag sC h h' → RC B [] (Zst B) od h' → opAll A = dal n (nI k) B → WPc 44 2 [(9, 0), (0, nI k)] [] h' Q := by
      intro n k B h' hw g M e
      have ed : dal n (nI k) B = (nI k, B) := by
        cases n with
        | zero => rfl
        | succ n => unfold dal; rw [hw]
      rw [e, ed] at H
      refine b44_2 _ h' Q ⟨fun _ => H od h' g M, fun _ => ⟨fun _ => H od h' g M, fun z => absurd ?_ z⟩⟩
      rw [M.2.2.2.2.2.1.1.1, hw]; exact Int32.le_refl _
    intro n
    induction n with
    | zero =>
      intro k B h' hn hc hB g M e
      have := pnd_cnt hB.1
      have : (pnd B).length = 0 := by omega
      have : pnd B = [] := List.eq_nil_of_length_eq_zero this
      unfold pnd at this
      exact fin 0 k B h' (List.append_eq_nil_iff.mp this).1 g M e
    | succ n ih =>
      intro k B h' hn hc hB g M e
      cases hw : wy B with
      | nil => exact fin (n + 1) k B h' hw g M e
      | cons q r =>
        have hk : 0 < (wy B).length := by rw [hw]; simp
        have hq : (wy B)[0] = q := by simp [hw]
        have ed : dal (n + 1) (nI k) B = dal n (nI k + 1) (wrk 800 (hoA B 0 q)) := by rw [dal, hw]
        have cd := cnt_dlv hB hk hq
        have wl := (wl800 hB.1).1
        rw [ed] at e
        refine b44_2 _ h' Q ⟨fun z => ?_, fun _ => ⟨fun z => ?_, fun _ => ?_⟩⟩
        · have z : nI 800 ≤ nI k := z
          rw [nJ_le (by omega) (by omega)] at z
          exfalso; omega
        · rw [M.2.2.2.2.2.1.1.1, hw] at z
          have : nI 0 < nI (q :: r).length := (nJ_lt (by omega) (by rw [hw] at wl; omega)).mpr (by simp)
          rw [nJ_0] at this
          exfalso; grind
        · refine s_hand B od 0 q h' _ hB M hk hq fun h1 g1 W => b44_24 _ h1 Q (W _ fun h2 g2 R2 => b44_28 _ h2 Q ?_)
          rw [← nJ_s]
          exact ih (k + 1) _ h2 (by omega) (by omega) (YW_wrk (YV_hoA hB.1 hk hq) hB.2.1) (ag_tr g (ag_tr g1 g2)) R2 (by rw [nJ_s]; exact e)
  exact b44_0 h Q (loop 800 0 A h (by omega) (cnt_le A) hY ag_rf R rfl)
