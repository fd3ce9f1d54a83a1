/-! 98: the class: Plain.begin -/
theorem flt_1 {p p' : Nat → Bool} {m N : Nat} (hm : m < N) (ho : ∀ n, n < N → ¬ n = m → p' n = p n) (h0 : p m = false) (h1 : p' m = true) : ((List.range N).filter p').length = ((List.range N).filter p).length + 1 := by
  have f := flt_one (p := fun n => decide (n < N) && p n) (p' := fun n => decide (n < N) && p' n) (m := m) (fun n hn => by
    by_cases z : n < N
    · rw [ho n z hn]
    · simp [z]) (by simp [h0]) (by simp [h1, hm]) N
  rw [if_pos hm] at f
  have e1 : (List.range N).filter p' = (List.range N).filter fun n => decide (n < N) && p' n := List.filter_congr fun n hn => by simp [List.mem_range.mp hn]
  have e2 : (List.range N).filter p = (List.range N).filter fun n => decide (n < N) && p n := List.filter_congr fun n hn => by simp [List.mem_range.mp hn]
  rw [e1, e2]; exact f
theorem plX_2 {f : Nat} {e n : Int32} (hf : f = 2 ∨ f = 25) (hn : n ≤ 400) (he : ina e n) : ¬ plX f e := fun q => by
  have := ((ar_26 (p := 0) hn).2 he).2
  unfold plX at q
  rcases q with q | q | q | q | q | q | q | q | q | q | q | q
  all_goals first | omega | exact this q.2
theorem RC_pw {A : SY} {T : List Int32} {Z : Int32 → ZT} {od : List Int32} {h h' : HP} {w : Nat → Int32 → Prop} (hI : YV A) (R : RC A T Z od h) (g : agw w h h') (hw : ∀ f x, w f x → plX f x ∧ ¬ f = 0 ∧ ¬ f = 32 ∧ ¬ f = 33) : RC A T Z od h' :=
  RC_fr hI.1.1.1.2 R (fun f x q => agw_row g fun y => q (hw f x y).1) (FR_co R.2.2.2.2.2.2 (fun f x => g f x (-1) (Or.inl rfl)) (fun e he => by rw [agw_row g fun y => plX_2 (Or.inl rfl) (CO_4 R.2.2.2.2.1) he (hw 2 e y).1]) (agw_row g fun y => (hw 33 0 y).2.2.2 rfl) (agw_row g fun y => (hw 32 0 y).2.2.1 rfl) (agw_row g fun y => (hw 0 0 y).2.1 rfl) (CO_4 R.2.2.2.2.1) rfl rfl)
theorem s_clearC (s : Int32) (h0 : HP) (Q : Option AV → HP → Prop) (hs : ¬ s = -1) (H : ∀ h', agw (wS s) h0 h' → CZ z0 s h' → Q none h') : WPm 33 [(8, s)] h0 Q := by
  have loop : ∀ (m c : Nat) (h : HP), c + m = 4 → agw (wS s) h0 h → (∀ i : Nat, i < c → h 39 s (nI i) = 0) → WPc 33 2 [(8, s), (0, nI c)] [] h Q := by
    intro m
    induction m with
    | zero =>
      intro c h e g r
      have ec : c = 4 := by omega
      subst ec
      refine b33_2 _ _ h Q ⟨fun _ => ⟨hs, hs, H _ (agw_up (agw_up g ⟨Or.inr rfl, rfl⟩ (by decide)) ⟨Or.inr rfl, rfl⟩ (by decide)) ⟨fun i hi => ?_, ?_, ?_⟩⟩, fun z => absurd (show (4 : Int32) ≤ nI 4 by decide) z⟩
      · obtain ⟨n, rfl, hn⟩ := ina4 hi
        rw [upfam (by decide), upfam (by decide), r n hn]; rfl
      · rw [up_n (by simp), up_at]; rfl
      · rw [up_at]; rfl
    | succ m ih =>
      intro c h e g r
      have i4 : ina (nI c) 4 := ⟨nJ_nn (by omega), (nJ_lt (b := 4) (by omega) (by omega)).mpr (by omega)⟩
      refine b33_2 _ _ h Q ⟨fun z => ?_, fun _ => ⟨hs, i4, ?_⟩⟩
      · exact absurd i4.2 (by grind)
      · rw [← nJ_s]
        refine ih (c + 1) _ (by omega) (agw_up g ⟨Or.inl rfl, rfl⟩ (ina_n1 i4)) fun i hi => ?_
        by_cases y : i = c
        · rw [y, up_at]
        · rw [up_n (fun q => y (nJ_inj (by omega) (by omega) q.2.2))]; exact r i (by omega)
  exact b33_0 _ h0 Q (loop 4 0 h0 rfl agw_rf (fun i hi => by omega))
theorem ar_27 {i j e n p : Int32} (hi : ina i 12) (hn : n ≤ 400) : ¬ 12 + i = -1 ∧ (12 ≤ 12 + i ∧ 12 + i < 100) ∧ (ina e n → ¬ 100 + e = 12 + i) ∧ (ina p 12 → ¬ p = 12 + i) ∧ (¬ j = i → ¬ 12 + j = 12 + i) := by unfold ina at *; grind
theorem RC_newS {A : SY} {T : List Int32} {Z : Int32 → ZT} {od : List Int32} {h : HP} {i : Int32} (hI : YV A) (R : RC A T Z od h) (hi : ina i 12) (z : h 32 0 i = -1) : RC A T Z od (up (nS (12 + i) h) 32 0 i (12 + i)) := by
  have fr : ∀ f x k, ¬ (f = 8 ∧ x = 12 + i) → ¬ (f = 18 ∧ x = 12 + i) → ¬ (f = 39 ∧ x = 12 + i) → ¬ (f = 0 ∧ x = 0) → ¬ f = 32 → (up (nS (12 + i) h) 32 0 i (12 + i)) f x k = h f x k := fun f x k a1 a2 a3 a4 a5 => by
    rw [upfam a5, nS_n a1 a2 a3 a4]
  have e32 : ∀ j, (up (nS (12 + i) h) 32 0 i (12 + i)) 32 0 j = if j = i then 12 + i else h 32 0 j := fun j => by
    by_cases y : j = i
    · rw [y, up_at, if_pos rfl]
    · rw [up_n (fun q => y q.2.2), if_neg y, nS_n (by simp) (by simp) (by simp) (by simp)]
  have e00 : (up (nS (12 + i) h) 32 0 i (12 + i)) 0 0 0 = h 0 0 0 + 1 + 1 ∧ (up (nS (12 + i) h) 32 0 i (12 + i)) 0 0 1 = h 0 0 1 + 3 + 4 := by rw [upfam (by decide)]; exact nS_0
  have A0 := ar_27 (j := 0) (e := 0) (n := 400) (p := 0) hi (by decide)
  have g7 := R.2.2.2.2.2.2
  have n4 := CO_4 R.2.2.2.2.1
  have sm := RM_sm g7.2.2.2.2.2 ⟨hI.1.2.1.1, n4⟩ hI.1.1.1
  generalize (up (nS (12 + i) h) 32 0 i (12 + i)) = h' at fr e32 e00 ⊢
  have f3q : ∀ s, ¬ s = 12 + i → f3 s h → f3 s h' := fun s hs o => by
    unfold f3 at o ⊢
    rw [fr 18 s _ (by simp) (by simp [hs]) (by simp) (by simp) (by simp), fr 8 s _ (by simp [hs]) (by simp) (by simp) (by simp) (by simp), fr 39 s _ (by simp) (by simp) (by simp [hs]) (by simp) (by simp)]
    exact o
  have fEq : ∀ s, fE s h → fE s h' := fun s o => by
    unfold fE at o ⊢
    rw [fr 12 s _ (by simp) (by simp) (by simp) (by simp) (by simp), fr 2 s _ (by simp) (by simp) (by simp) (by simp) (by simp), fr 25 s _ (by simp) (by simp) (by simp) (by simp) (by simp)]
    exact o
  have e2 : ∀ e, h' 2 e 14 = h 2 e 14 := fun e => fr 2 e 14 (by simp) (by simp) (by simp) (by simp) (by simp)
  refine RC_fr hI.1.1.1.2 R (fun f x q => funext fun k => fr f x k (fun y => q ?_) (fun y => q ?_) (fun y => q ?_) (fun y => q ?_) (fun y => q ?_)) ⟨?_, ?_, ?_, ?_, ?_, ?_⟩
  · rw [y.1, y.2]; unfold plX; simp only [A0.2.1]; simp
  · rw [y.1, y.2]; unfold plX; simp
  · rw [y.1, y.2]; unfold plX; simp only [A0.2.1]; simp
  · rw [y.1, y.2]; unfold plX; simp
  · rw [y]; unfold plX; simp
  · intro e he hn
    have o := g7.1 e he hn
    exact ⟨fEq e o.1, f3q _ ((ar_27 (j := 0) (e := e) (n := 400) (p := 0) hi (by decide)).2.2.1 he) o.2⟩
  · intro e he q
    rw [e2] at q
    exact f3q _ ((ar_27 (j := 0) (e := e) (n := nE A) (p := 0) hi n4).2.2.1 he) (g7.2.1 e he q)
  · intro p hp hn
    have o := g7.2.2.1 p hp hn
    have np := (ar_27 (j := 0) (e := 0) (n := 400) (p := p) hi (by decide)).2.2.2.1 hp
    unfold fP at o ⊢
    rw [fr 14 p _ (by simp) (by simp) (by simp) (by simp) (by simp), fr 4 p _ (by simp) (by simp) (by simp) (by simp) (by simp), fr 27 p _ (by simp) (by simp) (by simp) (by simp) (by simp), fr 28 p _ (by simp) (by simp) (by simp) (by simp) (by simp), fr 29 p _ (by simp) (by simp) (by simp) (by simp) (by simp), fr 30 p _ (by simp) (by simp) (by simp) (by simp) (by simp), fr 31 p _ (by simp) (by simp) (by simp) (by simp) (by simp)]
    exact ⟨o.1, o.2.1, f3q p np o.2.2.1, o.2.2.2⟩
  · intro n hn
    rw [fr 33 0 n (by simp) (by simp) (by simp) (by simp) (by simp)]
    exact (g7.2.2.2.1 n hn).imp (fun q => ⟨q.1, fEq _ q.2⟩) id
  · intro j hj
    rw [e32]
    by_cases y : j = i
    · right; rw [if_pos y, y]
    · rw [if_neg y]
      exact (g7.2.2.2.2.1 j hj).imp (fun q => ⟨q.1, f3q _ ((ar_27 (j := j) (e := 0) (n := 400) (p := 0) hi (by decide)).2.2.2.2 y) q.2⟩) id
  · have rm := g7.2.2.2.2.2
    have hah : ahN A h' = ahN A h := ahN_co (fun e _ => e2 e) rfl n4
    have hpo : poN h' = poN h := by
      unfold poN
      congr 1
      exact List.filter_congr fun n _ => by rw [fr 33 0 _ (by simp) (by simp) (by simp) (by simp) (by simp)]
    have hso : soN h' = soN h + 1 := by
      obtain ⟨m, hm, hm2⟩ := nJ_exlt (N := 12) (by decide) hi.1 hi.2
      unfold soN
      refine flt_1 hm2 (fun n hn y => ?_) ?_ ?_
      · rw [e32, if_neg (fun q => y (nJ_inj (by omega) (by omega) (by rw [q, hm])))]
      · rw [← hm, z]; rfl
      · rw [← hm, e32, if_pos rfl]; simp [A0.1]
    obtain ⟨⟨s1, s2⟩, s3, s4⟩ := sm
    have a0 := (le6 s1 (by omega)).2
    have a1 := (le6 (a := h 0 0 0 + 1) (by omega) (by omega)).2
    have b1 := (le7 (b := h 0 0 1) (c := 3) (m := 3) rfl (by omega) (by omega) (by omega)).2
    have b2 := (le7 (b := h 0 0 1 + 3) (c := 4) (m := 4) rfl (by omega) (by omega) (by omega)).2
    unfold RM at rm ⊢
    rw [hah, hpo, hso, e00.1, e00.2]
    omega
theorem nSC {s : Int32} {h : HP} : ag sC h (nS s h) := fun f x k z => nS_n (fun q => by rw [q.1] at z; exact absurd z (by simp [sC])) (fun q => by rw [q.1] at z; exact absurd z (by simp [sC])) (fun q => by rw [q.1] at z; exact absurd z (by simp [sC])) (fun q => by rw [q.1] at z; exact absurd z (by simp [sC]))
/-- Plain's states, when those of pre are done -/
def SPs (A : SY) (n : Int32) (pre : List Int32) (h : HP) : Prop := ∀ p, ina p n → h 32 0 p = 12 + p ∧ CZ (rp A.1 p (pof A p pre)) (12 + p) h
theorem s_begin (A : SY) (od : List Int32) (h0 : HP) (Q : Option AV → HP → Prop) (hI : YV A) (R : RC A [] (Zst A) od h0) (H : ∀ h', ag sC h0 h' → RC A [] (Zst A) od h' → SPs A (nP A) [] h' → h' 3 1 1 = 0 → h' 5 0 4 = 0 → h' 5 0 5 = 0 → h' 5 0 6 = 0 → Q none h') : WPm 23 [(5, 0), (0, nP A)] h0 Q := by
  obtain ⟨N, hN, hN2⟩ := nJ_exlt (N := 13) (by decide) hI.1.1.1.1 (Int32.lt_of_le_of_lt hI.1.1.1.2 (by decide))
  have hN : nP A = nI N := hN
  have loop : ∀ (m k : Nat) (h : HP), k + m = N → ag sC h0 h → RC A [] (Zst A) od h → SPs A (nI k) [] h → WPc 23 2 [(5, 0), (0, nP A), (0, nI k)] [] h Q := by
    intro m
    induction m with
    | zero =>
      intro k h e g R S
      have ek : k = N := by omega
      subst ek
      refine b23_2 _ _ h Q ⟨fun _ => ⟨Or.inl rfl, ?_⟩, fun z => absurd (by rw [hN]; exact Int32.le_refl _) z⟩
      have w : agw (fun f x => (f = 3 ∧ x = 1) ∨ f = 5) h (up (up (up (up h 3 1 1 0) 5 0 4 0) 5 0 5 0) 5 0 6 0) := agw_up (agw_up (agw_up (agw_up agw_rf (Or.inl ⟨rfl, rfl⟩) (by decide)) (Or.inr rfl) (by decide)) (Or.inr rfl) (by decide)) (Or.inr rfl) (by decide)
      refine H _ (ag_up (ag_up (ag_up (ag_up g rfl) rfl) rfl) rfl) (RC_pw hI R w fun f x q => ?_) (fun p hp => ?_) ?_ ?_ ?_ ?_
      · rcases q with q | q
        · rw [q.1, q.2]; unfold plX; simp
        · rw [q]; unfold plX; simp
      · rw [hN] at hp
        have := S p hp
        have nw : ∀ f, f = 32 ∨ f = 39 ∨ f = 8 → ∀ x, (up (up (up (up h 3 1 1 0) 5 0 4 0) 5 0 5 0) 5 0 6 0) f x = h f x := fun f hf x => agw_row w (by omega)
        exact ⟨by rw [nw 32 (by decide)]; exact this.1, CZ_co this.2 (nw 39 (by decide) _) (nw 8 (by decide) _)⟩
      · rw [up_n (by simp), up_n (by simp), up_n (by simp), up_at]
      · rw [up_n (by simp), up_n (by simp), up_at]
      · rw [up_n (by simp), up_at]
      · rw [up_at]
    | succ m ih =>
      intro k h e g R S
      have i12 : ina (nI k) 12 := ⟨nJ_nn (by omega), (nJ_lt (b := 12) (by omega) (by omega)).mpr (by omega)⟩
      have a12 := ar_27 (j := 0) (e := 0) (n := 400) (p := 0) i12 (by decide)
      have next : ∀ h1, ag sC h0 h1 → RC A [] (Zst A) od h1 → h1 32 0 (nI k) = 12 + nI k → SPs A (nI k) [] h1 → WPm 33 [(8, 12 + nI k)] h1 (fun w h' => WPc 23 38 [(5, 0), (0, nP A), (0, nI k)] (w.toList ++ []) h' Q) := fun h1 g1 R1 e1 S1 => by
        refine s_clearC _ h1 _ a12.1 fun h2 w2 c2 => b23_38 _ _ h2 Q ?_
        rw [← nJ_s]
        have r32 : h2 32 0 = h1 32 0 := agw_row w2 (fun q => by unfold wS at q; omega)
        refine ih (k + 1) h2 (by omega) (ag_tr g1 (wSC w2)) (RC_pw hI R1 w2 fun f x q => ?_) fun p hp => ?_
        · unfold wS at q
          rw [q.2]
          rcases q.1 with q | q
          · rw [q]; unfold plX; simp only [a12.2.1]; simp
          · rw [q]; unfold plX; simp only [a12.2.1]; simp
        · by_cases y : p = nI k
          · rw [y, r32]
            refine ⟨e1, ?_⟩
            rw [show rp A.1 (nI k) (pof A (nI k) []) = z0 by simp only [pof, List.filter_nil, rp, rpF, List.foldl_nil]]
            exact c2
          · have hp' : ina p (nI k) := by
              refine ⟨hp.1, ?_⟩
              have := hp.2
              rw [nJ_s] at this
              have := i12
              unfold ina at this
              grind
            have := S1 p hp'
            have ne : ¬ 12 + p = 12 + nI k := fun q => y (by grind)
            have nw : ∀ f, h2 f (12 + p) = h1 f (12 + p) := fun f => agw_row w2 fun q => ne q.2
            exact ⟨by rw [r32]; exact this.1, CZ_co this.2 (nw 39) (nw 8)⟩
      refine b23_2 _ _ h Q ⟨fun z => ?_, fun _ => ⟨i12, fun z => ⟨i12, z, ?_⟩, fun z => ?_⟩⟩
      · rw [hN, nJ_le (by omega) (by omega)] at z
        exfalso; omega
      · have e1 := (R.2.2.2.2.2.2.2.2.2.2.1 (nI k) i12).resolve_left fun q => z q.1
        rw [e1]
        exact next h g R e1 S
      · have f := (((R.2.2.2.2.2.2.2.2.2.2.1 (nI k) i12).resolve_right fun q => by rw [z] at q; exact a12.1 q.symm)).2
        have rl := RM_RL R.2.2.2.2.2.2.2.2.2.2.2 ⟨hI.1.2.1.1, CO_4 R.2.2.2.2.1⟩ hI.1.1.1
        refine s_newState (12 + nI k) h (fun h' => WPc 23 28 [(5, 0), (0, nP A), (0, nI k)] [(8, (12 + nI k)), (0, nI k), (32, 0)] h' Q) a12.1 f rl (b23_28 _ _ _ _ _ Q ⟨i12, a12.1, i12, ?_⟩)
        rw [up_at]
        refine ⟨a12.1, next _ (ag_up (ag_tr g nSC) rfl) (RC_newS hI R i12 z) up_at fun p hp => ?_⟩
        have pk : ¬ p = nI k := fun q => by rw [q] at hp; exact absurd hp.2 (by grind)
        have := S p hp
        have ne : ¬ 12 + p = 12 + nI k := fun q => pk (by grind)
        refine ⟨?_, CZ_co this.2 ?_ ?_⟩
        · rw [up_n (fun q => pk q.2.2), nS_n (by simp) (by simp) (by simp) (by simp)]; exact this.1
        · rw [upfam (by decide)]; exact funext fun j => nS_n (by simp) (by simp) (by simp [ne]) (by simp)
        · rw [upfam (by decide)]; exact funext fun j => nS_n (by simp [ne]) (by simp) (by simp) (by simp)
  exact b23_0 _ h0 Q (loop N 0 h0 (by omega) ag_rf R fun p hp => absurd (Int32.lt_of_le_of_lt hp.1 hp.2) (by decide))
