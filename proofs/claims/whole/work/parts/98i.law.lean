/-! 98i: the law -/
theorem ar_29 {L i : Nat} (hL : L ≤ 3072) (hi : i ≤ L + 6) : nI L - 6 < nI i ↔ L < i + 6 := by
  have t2 : (nI L - 6).toInt = (L : Int) - 6 := by
    rw [Int32.toInt_sub, nJ_toInt (by omega), show (6 : Int32).toInt = 6 from rfl, Int.bmod_eq_of_le (by omega) (by omega)]
  rw [Int32.lt_iff_toInt_lt, t2, nJ_toInt (by omega)]; omega
theorem ar_30 {L i : Nat} (hL : L ≤ 3072) (z : i + 6 ≤ L) (j : Nat) (hj : j < 6) : ina (nI i + nI j) (nI L) := by
  rw [← nJ_add]
  exact ⟨nJ_nn (by omega), (nJ_lt (by omega) (by omega)).mpr (by omega)⟩
theorem law_loop (L : Nat) (xs : Nat → Int32) (hL : L ≤ 3072) (Q : Option AV → HP → Prop) (HQ : ∀ h, Q (some (0, 1)) h) : ∀ (m i : Nat) (A : SY) (od : List Int32) (h : HP), L + 6 ≤ i + m → i ≤ L + 6 → YW A → PZ A → MD 0 A h → RC A [] (Zst A) od h → h 85 = hinit L xs 85 → WPc 155 18 [(85, 0), (9, 0), (10, 0), (0, nI i)] [] h Q := by
  intro m
  induction m with
  | zero =>
    intro i A od h hi hi2 hY pz hM R e85
    have e2 : h 85 0 (-2) = nI L := by
      rw [e85]; unfold hinit; rw [if_pos ⟨rfl, rfl⟩, if_pos rfl]
    refine b155_18 _ h Q ⟨fun _ => ⟨Or.inr rfl, HQ h⟩, fun z => absurd ?_ z⟩
    rw [e2]
    exact (ar_29 hL hi2).mpr (by omega)
  | succ m ih =>
    intro i A od h hi hi2 hY pz hM R e85
    have e2 : h 85 0 (-2) = nI L := by
      rw [e85]; unfold hinit; rw [if_pos ⟨rfl, rfl⟩, if_pos rfl]
    refine b155_18 _ h Q ⟨fun _ => ⟨Or.inr rfl, HQ h⟩, fun z => ?_⟩
    rw [e2] at z
    rw [ar_29 hL hi2] at z
    have zi : i + 6 ≤ L := by omega
    have j0 : ina (nI i) (nI L) := ⟨nJ_nn (by omega), (nJ_lt (by omega) (by omega)).mpr (by omega)⟩
    have j1 : ina (nI i + 1) (nI L) := ar_30 hL zi 1 (by omega)
    have j2 : ina (nI i + 2) (nI L) := ar_30 hL zi 2 (by omega)
    have j3 : ina (nI i + 3) (nI L) := ar_30 hL zi 3 (by omega)
    have j4 : ina (nI i + 4) (nI L) := ar_30 hL zi 4 (by omega)
    have j5 : ina (nI i + 5) (nI L) := ar_30 hL zi 5 (by omega)
    have next : ∀ (A' : SY) (od' : List Int32) (h' : HP), YW A' → PZ A' → MD 0 A' h' → RC A' [] (Zst A') od' h' → h' 85 = h 85 → WPc 155 18 [(85, 0), (9, 0), (10, 0), (0, nI i + 6)] [] h' Q := fun A' od' h' y1 y2 y3 y4 y5 => by
      have := ih (i + 6) A' od' h' (by omega) (by omega) y1 y2 y3 y4 (y5.trans e85)
      rwa [nJ_add i 6] at this
    have c85 : ∀ {h1 : HP}, ag sC h h1 → h1 85 = h 85 := fun g => funext fun x => row_ag g 85 x fun k => sC_f (by omega)
    have m85 : ∀ {h1 h2 : HP}, ag sM h1 h2 → h2 85 = h1 85 := fun g => funext fun x => row_ag g 85 x fun k => sM_f (Or.inr rfl)
    have op0 : WPm 37 [(9, 0), (0, (h 85 0 (nI i + 1)))] h (fun w h' => WPc 155 149 [(85, 0), (9, 0), (10, 0), (0, nI i)] (w.toList ++ []) h' Q) := by
      refine C_part A (h 85 0 (nI i + 1)) od h _ hY pz R fun od1 h1 g1 R1 => b155_149 _ _ h1 Q ?_
      rw [c85 g1, e2]
      refine ⟨j1, M_part A (h 85 0 (nI i + 1)) h1 _ hY (MD_C hM g1) fun h2 g2 M2 => b155_158 _ _ _ h2 Q ⟨fun _ => ?_, fun z => absurd rfl z⟩⟩
      have hY2 := YW_opPart (A := A) (l := h 85 0 (nI i + 1)) hY
      exact next _ od1 h2 hY2 (PZ_part hY pz) M2 (RC_M hY2.1.1.1.1.2 R1 g2) ((m85 g2).trans (c85 g1))
    have op1 : WPm 38 [(9, 0), (0, (h 85 0 (nI i + 1))), (0, (h 85 0 (nI i + 2)))] h (fun w h' => WPc 155 177 [(85, 0), (9, 0), (10, 0), (0, nI i)] (w.toList ++ []) h' Q) := by
      refine C_tear A (h 85 0 (nI i + 1)) (h 85 0 (nI i + 2)) od h _ hY R fun od1 h1 g1 R1 => b155_177 _ _ h1 Q ?_
      rw [c85 g1, e2]
      refine ⟨j1, j2, M_tear A (h 85 0 (nI i + 1)) (h 85 0 (nI i + 2)) h1 _ hY (MD_C hM g1) fun h2 g2 M2 => b155_191 _ _ _ h2 Q ⟨fun _ => ?_, fun z => absurd rfl z⟩⟩
      have hY2 := YW_opTear (A := A) (p := h 85 0 (nI i + 1)) (n := h 85 0 (nI i + 2)) hY
      exact next _ od1 h2 hY2 (PZ_tear hY pz) M2 (RC_M hY2.1.1.1.1.2 R1 g2) ((m85 g2).trans (c85 g1))
    have op2 : WPm 39 [(9, 0), (0, (h 85 0 (nI i + 1))), (0, (h 85 0 (nI i + 2))), (0, (h 85 0 (nI i + 3))), (0, (h 85 0 (nI i + 4))), (0, (h 85 0 (nI i + 5)))] h (fun w h' => WPc 155 225 [(85, 0), (9, 0), (10, 0), (0, nI i)] (w.toList ++ []) h' Q) := by
      refine C_rule A (h 85 0 (nI i + 1)) (h 85 0 (nI i + 2)) (h 85 0 (nI i + 3)) (h 85 0 (nI i + 4)) (h 85 0 (nI i + 5)) od h _ hY R fun od1 h1 g1 R1 => b155_225 _ _ h1 Q ?_
      rw [c85 g1, e2]
      refine ⟨j1, j2, j3, j4, j5, M_rule A (h 85 0 (nI i + 1)) (h 85 0 (nI i + 2)) (h 85 0 (nI i + 3)) (h 85 0 (nI i + 4)) (h 85 0 (nI i + 5)) h1 _ hY (MD_C hM g1) fun h2 g2 M2 => b155_254 _ _ _ h2 Q ⟨fun _ => ?_, fun z => absurd rfl z⟩⟩
      have hY2 := YW_opRule (A := A) (p := h 85 0 (nI i + 1)) (t := h 85 0 (nI i + 2)) (a := h 85 0 (nI i + 3)) (b := h 85 0 (nI i + 4)) (c := h 85 0 (nI i + 5)) hY
      exact next _ od1 h2 hY2 (PZ_rule hY pz) M2 (RC_M hY2.1.1.1.1.2 R1 g2) ((m85 g2).trans (c85 g1))
    have op3 : WPm 40 [(9, 0), (0, (h 85 0 (nI i + 1))), (0, (h 85 0 (nI i + 2))), (0, (h 85 0 (nI i + 3)))] h (fun w h' => WPc 155 278 [(85, 0), (9, 0), (10, 0), (0, nI i)] (w.toList ++ []) h' Q) := by
      refine C_start A (h 85 0 (nI i + 1)) (h 85 0 (nI i + 2)) (h 85 0 (nI i + 3)) od h _ hY R fun od1 h1 g1 R1 => b155_278 _ _ h1 Q ?_
      rw [c85 g1, e2]
      refine ⟨j1, j2, j3, M_start A (h 85 0 (nI i + 1)) (h 85 0 (nI i + 2)) (h 85 0 (nI i + 3)) h1 _ hY (MD_C hM g1) fun h2 g2 M2 hY2 => b155_297 _ _ _ h2 Q ⟨fun _ => ?_, fun z => absurd rfl z⟩⟩
      exact next _ od1 h2 hY2 (PZ_start hY pz) M2 (RC_M hY2.1.1.1.1.2 R1 g2) ((m85 g2).trans (c85 g1))
    have op4 : WPm 41 [(9, 0), (0, (h 85 0 (nI i + 1)))] h (fun w h' => WPc 155 311 [(85, 0), (9, 0), (10, 0), (0, nI i)] (w.toList ++ []) h' Q) := by
      refine C_step A (h 85 0 (nI i + 1)) od h _ hY R fun od1 h1 g1 R1 => b155_311 _ _ h1 Q ?_
      rw [c85 g1, e2]
      refine ⟨j1, M_step A (h 85 0 (nI i + 1)) h1 _ hY (MD_C hM g1) fun h2 g2 M2 hY2 => b155_320 _ _ _ h2 Q ⟨fun _ => ?_, fun z => absurd rfl z⟩⟩
      exact next _ od1 h2 hY2 (PZ_step hY pz) M2 (RC_M hY2.1.1.1.1.2 R1 g2) ((m85 g2).trans (c85 g1))
    have op5 : WPm 42 [(9, 0), (0, (h 85 0 (nI i + 1))), (0, (h 85 0 (nI i + 2)))] h (fun w h' => WPc 155 339 [(85, 0), (9, 0), (10, 0), (0, nI i)] (w.toList ++ []) h' Q) := by
      refine C_run A (h 85 0 (nI i + 1)) (h 85 0 (nI i + 2)) od h _ hY R fun od1 h1 g1 R1 => b155_339 _ _ h1 Q ?_
      rw [c85 g1, e2]
      refine ⟨j1, j2, M_run A (h 85 0 (nI i + 1)) (h 85 0 (nI i + 2)) h1 _ hY (MD_C hM g1) fun h2 g2 M2 hY2 => b155_353 _ _ _ h2 Q ⟨fun _ => ?_, fun z => absurd rfl z⟩⟩
      exact next _ od1 h2 hY2 (PZ_run hY pz) M2 (RC_M hY2.1.1.1.1.2 R1 g2) ((m85 g2).trans (c85 g1))
    have op6 : WPm 43 [(9, 0), (0, (h 85 0 (nI i + 1)))] h (fun w h' => WPc 155 367 [(85, 0), (9, 0), (10, 0), (0, nI i)] (w.toList ++ []) h' Q) := by
      refine C_deliver A (h 85 0 (nI i + 1)) od h _ hY R fun od1 h1 g1 R1 => b155_367 _ _ h1 Q ?_
      rw [c85 g1, e2]
      refine ⟨j1, M_deliver A (h 85 0 (nI i + 1)) h1 _ hY (MD_C hM g1) fun h2 g2 M2 hY2 => b155_376 _ _ _ h2 Q ⟨fun _ => ?_, fun z => absurd rfl z⟩⟩
      exact next _ od1 h2 hY2 (PZ_dlv hY pz) M2 (RC_M hY2.1.1.1.1.2 R1 g2) ((m85 g2).trans (c85 g1))
    have op7 : WPm 44 [(9, 0)] h (fun w h' => WPc 155 385 [(85, 0), (9, 0), (10, 0), (0, nI i)] (w.toList ++ []) h' Q) := by
      refine C_all A od h _ hY R fun od1 h1 g1 R1 => b155_385 _ _ h1 Q ?_
      refine M_all A h1 _ hY (MD_C hM g1) fun h2 g2 M2 hY2 => b155_389 _ _ _ h2 Q ⟨fun _ => ?_, fun z => absurd rfl z⟩
      exact next _ od1 h2 hY2 (PZ_all hY pz) M2 (RC_M hY2.1.1.1.1.2 R1 g2) ((m85 g2).trans (c85 g1))
    have op8 : WPm 45 [(9, 0), (0, (h 85 0 (nI i + 1))), (0, (h 85 0 (nI i + 2)))] h (fun w h' => WPc 155 408 [(85, 0), (9, 0), (10, 0), (0, nI i)] (w.toList ++ []) h' Q) := by
      refine C_move A (h 85 0 (nI i + 1)) (h 85 0 (nI i + 2)) od h _ hY R fun od1 h1 g1 R1 => b155_408 _ _ h1 Q ?_
      rw [c85 g1, e2]
      refine ⟨j1, j2, M_move A (h 85 0 (nI i + 1)) (h 85 0 (nI i + 2)) h1 _ hY (MD_C hM g1) fun h2 g2 M2 hY2 => b155_422 _ _ _ h2 Q ⟨fun _ => ?_, fun z => absurd rfl z⟩⟩
      exact next _ od1 h2 hY2 (PZ_move pz) M2 (RC_M hY2.1.1.1.1.2 R1 g2) ((m85 g2).trans (c85 g1))
    have op9 : WPm 46 [(9, 0), (0, (h 85 0 (nI i + 1)))] h (fun w h' => WPc 155 436 [(85, 0), (9, 0), (10, 0), (0, nI i)] (w.toList ++ []) h' Q) := by
      refine C_limit A (h 85 0 (nI i + 1)) od h _ R fun od1 h1 g1 R1 => b155_436 _ _ h1 Q ?_
      rw [c85 g1, e2]
      refine ⟨j1, M_limit A (h 85 0 (nI i + 1)) h1 _ hY (MD_C hM g1) fun h2 g2 M2 hY2 => b155_445 _ _ _ h2 Q ⟨fun _ => ?_, fun z => absurd rfl z⟩⟩
      exact next _ od1 h2 hY2 (PZ_limit pz) M2 (RC_M hY2.1.1.1.1.2 R1 g2) ((m85 g2).trans (c85 g1))
    have op10 : WPm 47 [(9, 0), (0, (h 85 0 (nI i + 1)))] h (fun w h' => WPc 155 459 [(85, 0), (9, 0), (10, 0), (0, nI i)] (w.toList ++ []) h' Q) := by
      refine C_keep A (h 85 0 (nI i + 1)) od h _ R fun od1 h1 g1 R1 => b155_459 _ _ h1 Q ?_
      rw [c85 g1, e2]
      refine ⟨j1, M_keep (h 85 0 (nI i + 1)) h1 _ (b155_468 _ _ _ h1 Q ⟨fun _ => ?_, fun z => absurd rfl z⟩)⟩
      exact next A od1 h1 hY pz (MD_C hM g1) R1 (c85 g1)
    have op11 : WPm 48 [(9, 0), (0, (h 85 0 (nI i + 1)))] h (fun w h' => WPc 155 482 [(85, 0), (9, 0), (10, 0), (0, nI i)] (w.toList ++ []) h' Q) := by
      refine C_floor A (h 85 0 (nI i + 1)) od h _ hY R (b155_482 _ _ h Q ?_)
      rw [e2]
      refine ⟨j1, M_floor A (h 85 0 (nI i + 1)) h _ hY hM fun h2 g2 => b155_491 _ _ _ h2 Q ⟨fun _ => ?_, fun z => absurd rfl z⟩⟩
      exact next A od h2 hY pz (MD_ag hM g2) (RC_M hY.1.1.1.1.2 R (ag_SM g2)) (m85 (ag_SM g2))
    have op12 : WPm 49 [(9, 0), (0, (h 85 0 (nI i + 1))), (0, (h 85 0 (nI i + 2)))] h (fun w h' => WPc 155 510 [(85, 0), (9, 0), (10, 0), (0, nI i)] (w.toList ++ []) h' Q) := by
      refine C_cell A (h 85 0 (nI i + 1)) (h 85 0 (nI i + 2)) od h _ hY R (b155_510 _ _ h Q ?_)
      rw [e2]
      refine ⟨j1, j2, M_cell A (h 85 0 (nI i + 1)) (h 85 0 (nI i + 2)) h _ hY hM fun h2 g2 => b155_524 _ _ _ h2 Q ⟨fun _ => ?_, fun z => absurd rfl z⟩⟩
      exact next A od h2 hY pz (MD_ag hM g2) (RC_M hY.1.1.1.1.2 R (ag_SM g2)) (m85 (ag_SM g2))
    have op13 : WPm 50 [(9, 0), (0, (h 85 0 (nI i + 1))), (0, (h 85 0 (nI i + 2)))] h (fun w h' => WPc 155 543 [(85, 0), (9, 0), (10, 0), (0, nI i)] (w.toList ++ []) h' Q) := by
      refine C_settled A (h 85 0 (nI i + 1)) (h 85 0 (nI i + 2)) od h _ hY R fun h1 g1 R1 => b155_543 _ _ h1 Q ?_
      rw [c85 g1, e2]
      refine ⟨j1, j2, M_settled A (h 85 0 (nI i + 1)) (h 85 0 (nI i + 2)) h1 _ hY (MD_C hM g1) fun h2 g2 => b155_557 _ _ _ h2 Q ⟨fun _ => ?_, fun z => absurd rfl z⟩⟩
      exact next A od h2 hY pz (MD_ag (MD_C hM g1) g2) (RC_M hY.1.1.1.1.2 R1 (ag_SM g2)) ((m85 (ag_SM g2)).trans (c85 g1))
    have op14 : WPm 51 [(9, 0), (0, (h 85 0 (nI i + 1))), (0, (h 85 0 (nI i + 2)))] h (fun w h' => WPc 155 576 [(85, 0), (9, 0), (10, 0), (0, nI i)] (w.toList ++ []) h' Q) := by
      refine C_told A (h 85 0 (nI i + 1)) (h 85 0 (nI i + 2)) od h _ hY R (b155_576 _ _ h Q ?_)
      rw [e2]
      refine ⟨j1, j2, M_told A (h 85 0 (nI i + 1)) (h 85 0 (nI i + 2)) h _ hY hM fun h2 g2 => b155_590 _ _ _ h2 Q ⟨fun _ => ?_, fun z => absurd rfl z⟩⟩
      exact next A od h2 hY pz (MD_ag hM g2) (RC_M hY.1.1.1.1.2 R (ag_SM g2)) (m85 (ag_SM g2))
    have op15 : WPm 52 [(9, 0), (0, (h 85 0 (nI i + 1))), (0, (h 85 0 (nI i + 2)))] h (fun w h' => WPc 155 609 [(85, 0), (9, 0), (10, 0), (0, nI i)] (w.toList ++ []) h' Q) := by
      refine C_event A (h 85 0 (nI i + 1)) (h 85 0 (nI i + 2)) od h _ hY R (b155_609 _ _ h Q ?_)
      rw [e2]
      refine ⟨j1, j2, M_event A (h 85 0 (nI i + 1)) (h 85 0 (nI i + 2)) h _ hY hM fun h2 g2 => b155_623 _ _ _ h2 Q ⟨fun _ => ?_, fun z => absurd rfl z⟩⟩
      exact next A od h2 hY pz (MD_ag hM g2) (RC_M hY.1.1.1.1.2 R (ag_SM g2)) (m85 (ag_SM g2))
    have op16 : WPm 53 [(9, 0), (0, (h 85 0 (nI i + 1)))] h (fun w h' => WPc 155 637 [(85, 0), (9, 0), (10, 0), (0, nI i)] (w.toList ++ []) h' Q) := by
      refine C_number A (h 85 0 (nI i + 1)) od h _ hY R (b155_637 _ _ h Q ?_)
      rw [e2]
      refine ⟨j1, M_number A (h 85 0 (nI i + 1)) h _ hY hM (b155_646 _ _ _ h Q ⟨fun _ => ?_, fun z => absurd rfl z⟩)⟩
      exact next A od h hY pz hM R rfl
    have op17 : WPm 54 [(9, 0), (0, (h 85 0 (nI i + 1))), (0, (h 85 0 (nI i + 2)))] h (fun w h' => WPc 155 665 [(85, 0), (9, 0), (10, 0), (0, nI i)] (w.toList ++ []) h' Q) := by
      refine C_way A (h 85 0 (nI i + 1)) (h 85 0 (nI i + 2)) od h _ hY R (b155_665 _ _ h Q ?_)
      rw [e2]
      refine ⟨j1, j2, M_way A (h 85 0 (nI i + 1)) (h 85 0 (nI i + 2)) h _ hY hM (b155_679 _ _ _ h Q ⟨fun _ => ?_, fun z => absurd rfl z⟩)⟩
      exact next A od h hY pz hM R rfl
    have op18 : WPm 55 [(9, 0), (0, (h 85 0 (nI i + 1)))] h (fun w h' => WPc 155 693 [(85, 0), (9, 0), (10, 0), (0, nI i)] (w.toList ++ []) h' Q) := by
      refine C_count A (h 85 0 (nI i + 1)) od h _ hY R fun h1 g1 R1 => b155_693 _ _ h1 Q ?_
      rw [c85 g1, e2]
      refine ⟨j1, M_count A (h 85 0 (nI i + 1)) h1 _ hY (MD_C hM g1) fun h2 g2 => b155_702 _ _ _ h2 Q ⟨fun _ => ?_, fun z => absurd rfl z⟩⟩
      exact next A od h2 hY pz (MD_ag (MD_C hM g1) g2) (RC_M hY.1.1.1.1.2 R1 (ag_SM g2)) ((m85 (ag_SM g2)).trans (c85 g1))
    have op19 : WPm 56 [(9, 0), (0, (h 85 0 (nI i + 1))), (0, (h 85 0 (nI i + 2)))] h (fun w h' => WPc 155 721 [(85, 0), (9, 0), (10, 0), (0, nI i)] (w.toList ++ []) h' Q) := by
      refine C_out A (h 85 0 (nI i + 1)) (h 85 0 (nI i + 2)) od h _ hY R fun h1 g1 R1 => b155_721 _ _ h1 Q ?_
      rw [c85 g1, e2]
      refine ⟨j1, j2, M_out A (h 85 0 (nI i + 1)) (h 85 0 (nI i + 2)) h1 _ hY (MD_C hM g1) fun h2 g2 => b155_735 _ _ _ h2 Q ⟨fun _ => ?_, fun z => absurd rfl z⟩⟩
      exact next A od h2 hY pz (MD_ag (MD_C hM g1) g2) (RC_M hY.1.1.1.1.2 R1 (ag_SM g2)) ((m85 (ag_SM g2)).trans (c85 g1))
    have op20 : WPm 57 [(9, 0), (0, (h 85 0 (nI i + 1)))] h (fun w h' => WPc 155 749 [(85, 0), (9, 0), (10, 0), (0, nI i)] (w.toList ++ []) h' Q) := by
      refine C_printed A (h 85 0 (nI i + 1)) od h _ hY R fun h1 g1 R1 => b155_749 _ _ h1 Q ?_
      rw [c85 g1, e2]
      refine ⟨j1, M_printed A (h 85 0 (nI i + 1)) h1 _ hY (MD_C hM g1) fun h2 g2 => b155_758 _ _ _ h2 Q ⟨fun _ => ?_, fun z => absurd rfl z⟩⟩
      exact next A od h2 hY pz (MD_ag (MD_C hM g1) g2) (RC_M hY.1.1.1.1.2 R1 (ag_SM g2)) ((m85 (ag_SM g2)).trans (c85 g1))
    have op21 : WPm 58 [(9, 0), (0, (h 85 0 (nI i + 1)))] h (fun w h' => WPc 155 772 [(85, 0), (9, 0), (10, 0), (0, nI i)] (w.toList ++ []) h' Q) := by
      refine C_failed A (h 85 0 (nI i + 1)) od h _ hY R (b155_772 _ _ h Q ?_)
      rw [e2]
      refine ⟨j1, M_failed A (h 85 0 (nI i + 1)) h _ hY hM fun h2 g2 => b155_781 _ _ _ h2 Q ⟨fun _ => ?_, fun z => absurd rfl z⟩⟩
      exact next A od h2 hY pz (MD_ag hM g2) (RC_M hY.1.1.1.1.2 R (ag_SM g2)) (m85 (ag_SM g2))
    have op22 : WPm 59 [(9, 0)] h (fun w h' => WPc 155 790 [(85, 0), (9, 0), (10, 0), (0, nI i)] (w.toList ++ []) h' Q) := by
      refine C_same A od h _ hY R fun h1 g1 R1 => b155_790 _ _ h1 Q ?_
      refine M_same A h1 _ hY (MD_C hM g1) fun h2 g2 => b155_794 _ _ _ h2 Q ⟨fun _ => ?_, fun z => absurd rfl z⟩
      exact next A od h2 hY pz (MD_ag (MD_C hM g1) g2) (RC_M hY.1.1.1.1.2 R1 (ag_SM g2)) ((m85 (ag_SM g2)).trans (c85 g1))
    rw [e2]
    exact ⟨j0, ⟨fun _ => ⟨j1, op0⟩, fun _ => ⟨fun _ => ⟨j1, j2, op1⟩, fun _ => ⟨fun _ => ⟨j1, j2, j3, j4, j5, op2⟩, fun _ => ⟨fun _ => ⟨j1, j2, j3, op3⟩, fun _ => ⟨fun _ => ⟨j1, op4⟩, fun _ => ⟨fun _ => ⟨j1, j2, op5⟩, fun _ => ⟨fun _ => ⟨j1, op6⟩, fun _ => ⟨fun _ => op7, fun _ => ⟨fun _ => ⟨j1, j2, op8⟩, fun _ => ⟨fun _ => ⟨j1, op9⟩, fun _ => ⟨fun _ => ⟨j1, op10⟩, fun _ => ⟨fun _ => ⟨j1, op11⟩, fun _ => ⟨fun _ => ⟨j1, j2, op12⟩, fun _ => ⟨fun _ => ⟨j1, j2, op13⟩, fun _ => ⟨fun _ => ⟨j1, j2, op14⟩, fun _ => ⟨fun _ => ⟨j1, j2, op15⟩, fun _ => ⟨fun _ => ⟨j1, op16⟩, fun _ => ⟨fun _ => ⟨j1, j2, op17⟩, fun _ => ⟨fun _ => ⟨j1, op18⟩, fun _ => ⟨fun _ => ⟨j1, j2, op19⟩, fun _ => ⟨fun _ => ⟨j1, op20⟩, fun _ => ⟨fun _ => ⟨j1, op21⟩, fun _ => ⟨fun _ => op22, fun _ => next A od h hY pz hM R rfl⟩⟩⟩⟩⟩⟩⟩⟩⟩⟩⟩⟩⟩⟩⟩⟩⟩⟩⟩⟩⟩⟩⟩⟩
theorem law_pure (L : Nat) (xs : Nat → Int32) (hL : L ≤ 3072) : WPm 155 [(85, 0)] (hinit L xs) (fun v _ => v = some (0, 1)) :=
  law_new L xs _ fun hF A hY pz hM R e85 => law_loop L xs hL _ (fun _ => rfl) (L + 6) 0 A [] hF (by omega) (by omega) hY pz hM R e85
