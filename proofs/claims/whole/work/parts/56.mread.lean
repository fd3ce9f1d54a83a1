/-! 56: the model's reading calls, on -/
noncomputable def opTold (A : SY) (p w : Int32) : Int32 := @ite _ (isP A p ∧ isIn w 0 7) (Classical.propDecidable _)
  (if w = 0 then A.1 42 p else if w = 1 then A.1 50 p else if w = 2 then A.1 51 p else if w = 3 then nI (dn A p).length else if w = 4 then cntP A (fun e => pa A e = p ∧ hw A e = 0) else if w = 5 then (rp A.1 p (dn A p)).2.1 else if w = 6 then (rp A.1 p (dn A p)).2.2 else cntP A (fun e => pa A e = p ∧ A.1 61 e = 1)) (-2)
theorem M_told (A : SY) (p w : Int32) (h : HP) (Q : Option AV → HP → Prop) (hY : YW A) (hM : MD 0 A h) (H : ∀ h', ag sS h h' → Q (some (0, opTold A p w)) h') : WPm 134 [(10, 0), (0, p), (0, w)] h Q := by
  unfold opTold at H
  have bad : ¬ (isP A p ∧ isIn w 0 7) → Q (some (0, -2)) h := fun z => by
    have H := H h ag_rf
    rw [if_neg z] at H; exact H
  refine b134_0 _ _ h Q (s_isP A 0 p h _ hM (fun z1 => b134_5 _ _ _ h Q ⟨fun y => absurd y one0, fun _ => ?_⟩) (fun z => b134_5 _ _ _ h Q ⟨fun _ => bad fun q => z q.1, fun y => absurd rfl y⟩))
  refine s_in2 _ _ _ _ _ (fun z2 => b134_15 _ _ _ h Q ⟨fun _ => ?_, fun y => absurd y one0⟩) (fun z => b134_15 _ _ _ h Q ⟨fun y => absurd rfl y, fun _ => bad fun q => z q.2⟩)
  have ip := isP_ina hY z1
  rw [(hM.2.1 p ip.2).1]
  refine ⟨ip.2, s_stateP A p (dn A p) [] h _ hY hM ip.1 (by simp) fun h1 g1 z3 => b134_32 _ _ h1 Q ?_⟩
  have H := H h1 (ag_AS g1)
  have M1 := MD_ag hM (ag_AS g1)
  rw [if_pos ⟨z1, z2⟩] at H
  rw [M1.1 42 p rfl, M1.1 50 p rfl, M1.1 51 p rfl, (M1.2.1 p ip.2).1, z3.2.1, z3.2.2]
  refine ⟨fun y0 => ⟨ip.2, ?_⟩, fun y0 => ⟨fun y1 => ⟨ip.2, ?_⟩, fun y1 => ⟨fun y2 => ⟨ip.2, ?_⟩, fun y2 => ⟨fun y3 => ⟨ip.2, ?_⟩, fun y3 => ⟨fun y4 => ?_, fun y4 => ⟨fun y5 => ?_, fun y5 => ⟨fun y6 => ?_, fun y6 => ?_⟩⟩⟩⟩⟩⟩⟩
  · rw [if_pos y0] at H; exact H
  · rw [if_neg y0, if_pos y1] at H; exact H
  · rw [if_neg y0, if_neg y1, if_pos y2] at H; exact H
  · rw [if_neg y0, if_neg y1, if_neg y2, if_pos y3] at H; exact H
  · rw [if_neg y0, if_neg y1, if_neg y2, if_neg y3, if_pos y4] at H
    exact s_thereOf A p h1 _ hY M1 (b134_109 _ _ _ h1 Q H)
  · rw [if_neg y0, if_neg y1, if_neg y2, if_neg y3, if_neg y4, if_pos y5] at H; exact H
  · rw [if_neg y0, if_neg y1, if_neg y2, if_neg y3, if_neg y4, if_neg y5, if_pos y6] at H; exact H
  · rw [if_neg y0, if_neg y1, if_neg y2, if_neg y3, if_neg y4, if_neg y5, if_neg y6] at H
    exact s_waiting A p h1 _ hY M1 (b134_125 _ _ _ h1 Q H)
def isE (A : SY) (e : Int32) : Prop := isIn e 0 (nE A - 1)
theorem isE_ina {A : SY} (hI : YV A) {e : Int32} (h : isE A e) : ina e (nE A) := by
  have := hI.1.2.1
  unfold isE isIn at h
  have e : nE A = A.1 10 13 := rfl
  unfold ina
  rw [e] at h this ⊢
  grind
noncomputable def opEvent (A : SY) (e w : Int32) : Int32 := @ite _ (isE A e ∧ isIn w 0 6) (Classical.propDecidable _)
  (if w = 0 then pa A e else if w = 1 then A.1 55 e else if w = 2 then A.1 56 e else if w = 3 then A.1 57 e else if w = 4 then A.1 58 e else if w = 5 then @ite _ (stl A e) (Classical.propDecidable _) 2 (hw A e) else if hw A e = 1 then A.1 62 e else 0) (-2)
theorem M_event (A : SY) (e w : Int32) (h : HP) (Q : Option AV → HP → Prop) (hY : YW A) (hM : MD 0 A h) (H : ∀ h', ag sS h h' → Q (some (0, opEvent A e w)) h') : WPm 135 [(10, 0), (0, e), (0, w)] h Q := by
  unfold opEvent at H
  have bad : ¬ (isE A e ∧ isIn w 0 6) → Q (some (0, -2)) h := fun z => by
    have H := H h ag_rf
    rw [if_neg z] at H; exact H
  refine b135_0 _ _ h Q ?_
  rw [show h 10 0 13 = nE A from hM.1 10 13 rfl]
  refine s_in2 _ _ _ _ _ (fun z1 => b135_11 _ _ _ h Q ⟨fun y => absurd y one0, fun _ => ?_⟩) (fun z => b135_11 _ _ _ h Q ⟨fun _ => bad fun q => z q.1, fun y => absurd rfl y⟩)
  refine s_in2 _ _ _ _ _ (fun z2 => b135_21 _ _ _ h Q ⟨fun _ => ?_, fun y => absurd y one0⟩) (fun z => b135_21 _ _ _ h Q ⟨fun y => absurd rfl y, fun _ => bad fun q => z q.2⟩)
  have gg := (ga hY.1 (isE_ina hY.1 z1)).1
  refine s_findFloor A h _ hY hM fun v h1 g1 hv hF => b135_31 _ _ h1 Q ?_
  have H := H h1 (ag_FS g1)
  have M1 := MD_ag hM (ag_FS g1)
  rw [if_pos ⟨z1, z2⟩] at H
  rw [M1.1 54 e rfl, M1.1 55 e rfl, M1.1 56 e rfl, M1.1 57 e rfl, M1.1 58 e rfl, M1.1 60 e rfl, M1.1 62 e rfl]
  refine ⟨fun y0 => ⟨gg, ?_⟩, fun y0 => ⟨fun y1 => ⟨gg, ?_⟩, fun y1 => ⟨fun y2 => ⟨gg, ?_⟩, fun y2 => ⟨fun y3 => ⟨gg, ?_⟩, fun y3 => ⟨fun y4 => ⟨gg, ?_⟩, fun y4 => ⟨fun y5 => ?_, fun y5 => ⟨gg, fun y6 => ?_, fun y6 => ⟨gg, ?_⟩⟩⟩⟩⟩⟩⟩⟩
  · rw [if_pos y0] at H; exact H
  · rw [if_neg y0, if_pos y1] at H; exact H
  · rw [if_neg y0, if_neg y1, if_pos y2] at H; exact H
  · rw [if_neg y0, if_neg y1, if_neg y2, if_pos y3] at H; exact H
  · rw [if_neg y0, if_neg y1, if_neg y2, if_neg y3, if_pos y4] at H; exact H
  · rw [if_neg y0, if_neg y1, if_neg y2, if_neg y3, if_neg y4, if_pos y5] at H
    refine s_isSettled A v e h1 _ M1.1 hv hF gg (fun s => b135_112 _ _ _ h1 Q ⟨fun y => absurd y one0, fun _ => ?_⟩) (fun s => b135_112 _ _ _ h1 Q ⟨fun _ => ⟨gg, ?_⟩, fun y => absurd rfl y⟩)
    · rw [if_pos s] at H; exact H
    · rw [if_neg s] at H
      rw [M1.1 60 e rfl]; exact H
  · rw [if_neg y0, if_neg y1, if_neg y2, if_neg y3, if_neg y4, if_neg y5, if_neg y6] at H; exact H
  · rw [if_neg y0, if_neg y1, if_neg y2, if_neg y3, if_neg y4, if_neg y5, if_pos y6] at H; exact H
noncomputable def opNumber (A : SY) (e : Int32) : Int32 := @ite _ (isE A e) (Classical.propDecidable _) (A.1 59 e) 0
theorem M_number (A : SY) (e : Int32) (h : HP) (Q : Option AV → HP → Prop) (hY : YW A) (hM : MD 0 A h) (H : Q (some (0, opNumber A e)) h) : WPm 136 [(10, 0), (0, e)] h Q := by
  unfold opNumber at H
  refine b136_0 _ h Q ?_
  rw [show h 10 0 13 = nE A from hM.1 10 13 rfl]
  refine s_in2 _ _ _ _ _ (fun z => b136_11 _ _ h Q ⟨fun y => absurd y one0, fun _ => ⟨(ga hY.1 (isE_ina hY.1 z)).1, ?_⟩⟩) (fun z => b136_11 _ _ h Q ⟨fun _ => ?_, fun y => absurd rfl y⟩)
  · rw [if_pos (show isE A e from z)] at H
    rw [hM.1 59 e rfl]; exact H
  · rw [if_neg (show ¬ isE A e from z)] at H; exact H
def isW (A : SY) (i : Int32) : Prop := isIn i 0 (nI (wy A).length - 1)
theorem isW_nat {A : SY} (hI : YV A) {i : Int32} (h : isW A i) : ∃ k, i = nI k ∧ k < (wy A).length ∧ i.toNatClampNeg = k := by
  have wl := (wl800 hI).1
  obtain ⟨k, rfl, hk⟩ := nJ_ex h.1
  have h1 : nI k < nI (wy A).length := by
    have := h.2
    have := nJ_nn (n := (wy A).length) (by omega)
    have h3 : nI (wy A).length ≤ nI 800 := (nJ_le (by omega) (by omega)).mpr wl
    have h4 : nI 800 = 800 := rfl
    grind
  exact ⟨k, rfl, (nJ_lt hk (by omega)).mp h1, Int32.toNatClampNeg_ofNat_of_lt hk⟩
noncomputable def opWay (A : SY) (i w : Int32) : Int32 := @ite _ (isIn w 0 1) (Classical.propDecidable _)
  (@ite _ (isW A i) (Classical.propDecidable _) (if w = 0 then ((wy A).getD i.toNatClampNeg (0, false)).1 else (if ((wy A).getD i.toNatClampNeg (0, false)).2 then 1 else 0)) (-1)) (-2)
theorem M_way (A : SY) (i w : Int32) (h : HP) (Q : Option AV → HP → Prop) (hY : YW A) (hM : MD 0 A h) (H : Q (some (0, opWay A i w)) h) : WPm 137 [(10, 0), (0, i), (0, w)] h Q := by
  unfold opWay at H
  refine b137_0 _ _ h Q (s_in2 _ _ _ _ _ (fun z => b137_6 _ _ _ h Q ⟨fun _ => ?_, fun y => absurd y one0⟩) (fun z => b137_6 _ _ _ h Q ⟨fun y => absurd rfl y, fun _ => ?_⟩))
  · rw [if_pos z] at H
    rw [show h 10 0 28 = nI (wy A).length from hM.2.2.2.2.1.1]
    refine s_in2 _ _ _ _ _ (fun z2 => b137_23 _ _ _ h Q ⟨fun _ => ?_, fun y => absurd y one0⟩) (fun z2 => b137_23 _ _ _ h Q ⟨fun y => absurd rfl y, fun _ => ?_⟩)
    · rw [if_pos (show isW A i from z2)] at H
      obtain ⟨k, e1, e2, e3⟩ := isW_nat hY.1 z2
      have wl := (wl800 hY.1).1
      have eg : (wy A).getD k (0, false) = (wy A)[k] := by simp [e2]
      have val : h 67 0 i = cd (wy A)[k] := by
        have := LSq_get hM.2.2.2.2.1.2 k (by rw [List.length_map]; exact e2)
        rw [Int32.zero_add] at this
        rw [e1, this, List.getElem_map]
      have ip := NC_in hY.1 (q := (wy A)[k]) (List.mem_append.mpr (Or.inl (List.getElem_mem _)))
      have co := cd_ok (ga hY.1 ip.1).1 (wy A)[k].2
      have co1 : cd (wy A)[k] / 2 = (wy A)[k].1 := co.1
      have co2 : cd (wy A)[k] - cd (wy A)[k] / 2 * 2 = if (wy A)[k].2 then 1 else 0 := co.2
      rw [e3, eg] at H
      have i9 : ina i 900 := by rw [e1]; exact i900 (by omega)
      rw [val, co2, co1]
      refine ⟨fun y => ⟨i9, by decide, ?_⟩, fun y => ⟨i9, by decide, ?_⟩⟩
      · rw [if_neg y] at H; exact H
      · rw [if_pos y] at H; exact H
    · rw [if_neg (show ¬ isW A i from z2)] at H; exact H
  · rw [if_neg z] at H; exact H
/-- the settled events, by keys -/
def SRT (A : SY) (L : List Int32) : Prop := (∀ e, e ∈ L ↔ ina e (nE A) ∧ stl A e) ∧ L.Pairwise (bel A.1)
theorem srt_uq {a : AT} : ∀ {L M : List Int32}, L.Pairwise (bel a) → M.Pairwise (bel a) → (∀ e, e ∈ L ↔ e ∈ M) → L = M
  | [], M, _, _, h => by
    cases M with
    | nil => rfl
    | cons y M => exact absurd ((h y).mpr (by simp)) (by simp)
  | x :: L, M, hL, hM, h => by
    cases M with
    | nil => exact absurd ((h x).mp (by simp)) (by simp)
    | cons y M =>
      have pL := List.pairwise_cons.mp hL
      have pM := List.pairwise_cons.mp hM
      have exy : x = y := by
        rcases List.mem_cons.mp ((h x).mp (by simp)) with q | q
        · exact q
        · rcases List.mem_cons.mp ((h y).mpr (by simp)) with q2 | q2
          · exact q2.symm
          · exact absurd (bel_tr (pM.1 x q) (pL.1 y q2)) bel_irr
      subst exy
      congr 1
      refine srt_uq pL.2 pM.2 fun e => ?_
      constructor
      · intro he
        rcases List.mem_cons.mp ((h e).mp (by simp [he])) with q | q
        · exact absurd (by rw [q] at he; exact pL.1 x he) bel_irr
        · exact q
      · intro he
        rcases List.mem_cons.mp ((h e).mpr (by simp [he])) with q | q
        · exact absurd (by rw [q] at he; exact pM.1 x he) bel_irr
        · exact q
noncomputable def sod (A : SY) : List Int32 := Classical.epsilon (SRT A)
theorem sod_ok {A : SY} {L : List Int32} (h : SRT A L) : sod A = L := by
  have s : SRT A (sod A) := Classical.epsilon_spec ⟨L, h⟩
  exact srt_uq s.2 h.2 fun e => (s.1 e).trans (h.1 e).symm
def fld (A : SY) (e : Int32) : Bool := !decide (A.1 62 e = 0)
/-- what settle leaves -/
def SET (A : SY) (L : List Int32) (h : HP) : Prop := h 10 0 50 = nI L.length ∧ LSq (h 74 0) 0 L ∧ h 10 0 52 = nI (L.flatMap (pr A)).length ∧ h 10 0 53 = nI (L.filter (fld A)).length
def sT (f : Nat) (k : Int32) : Bool := Nat.beq f 74 || (Nat.beq f 10 && (decide (45 ≤ k) && decide (k ≤ 53)))
theorem sT_S {f : Nat} {k : Int32} (h : sS f k = false) : sT f k = false := by
  simp only [sS, sT, Bool.or_eq_false_iff, Bool.and_eq_false_iff, decide_eq_false_iff_not] at h ⊢
  refine ⟨?_, ?_⟩
  · cases hb : Nat.beq f 74 with
    | false => rfl
    | true =>
      have := Nat.eq_of_beq_eq_true hb
      subst this
      rcases h.1 with q | q <;> exact absurd q (by decide)
  · rcases h.2 with q | q
    · exact Or.inl q
    · exact Or.inr (Or.inl (by grind))
theorem ag_TS {h h' : HP} (g : ag sT h h') : ag sS h h' := ag_mono g fun _ _ => sT_S
theorem ag_FT {h h' : HP} (g : ag sF h h') : ag sT h h' := ag_mono g fun f k z => by
  simp only [sF, sT, Bool.or_eq_false_iff, Bool.and_eq_false_iff, decide_eq_false_iff_not] at z ⊢
  rcases z.2 with q | q | q
  · exact Or.inl q
  · exact Or.inr (Or.inl q)
  · exact Or.inr (Or.inr (by grind))
theorem SET_co {A : SY} {L : List Int32} {h h' : HP} (s : SET A L h) (h1 : h' 74 0 = h 74 0) (h2 : h' 10 0 50 = h 10 0 50) (h3 : h' 10 0 52 = h 10 0 52) (h4 : h' 10 0 53 = h 10 0 53) : SET A L h' := by
  unfold SET
  rw [h1, h2, h3, h4]; exact s
theorem s_settleIn (A : SY) (e : Int32) (L : List Int32) (h0 : HP) (Q : Option AV → HP → Prop) (hY : YW A) (he : ina e 400) (hL : ∀ d, d ∈ L → ina d 400 ∧ ¬ d = e) (hp : L.Pairwise (bel A.1)) (hl : L.length < 400)
    (s50 : h0 10 0 50 = nI L.length) (s52 : h0 10 0 52 = nI (L.flatMap (pr A)).length) (s53 : h0 10 0 53 = nI (L.filter (fld A)).length) (hM0 : MD 0 A h0)
    (K : ∀ h' L', ag sT h0 h' → (∀ d, d ∈ L' ↔ d ∈ L ∨ d = e) → L'.Pairwise (bel A.1) → SET A L' h' → (∀ k : Int32, k ≤ 49 → h' 10 0 k = h0 10 0 k) → WPc 138 21 [(10, 0), (0, e + 1), (500, 0)] [] h' Q) :
    ∀ (m : Nat) (L1 L2 : List Int32) (g : Int32) (h : HP), L1.length = m → L = L1 ++ L2 → (∀ d, d ∈ L2 → bel A.1 e d) → LSq (h 74 0) 0 (L1 ++ g :: L2) → ag sT h0 h → (∀ k, h 10 0 k = h0 10 0 k) →
      WPc 138 42 [(10, 0), (0, e), (0, nI m)] [] h Q := by
  have fin : ∀ (L1 L2 : List Int32) (g : Int32) (h : HP), L = L1 ++ L2 → (∀ d, d ∈ L2 → bel A.1 e d) → (∀ d, d ∈ L1 → bel A.1 d e) → LSq (h 74 0) 0 (L1 ++ g :: L2) → ag sT h0 h → (∀ k, h 10 0 k = h0 10 0 k) →
      (ina (nI L1.length) 400 ∧ (ina e 400 ∧ (ina e 400 ∧ (((h 62 0 e) = 0 → WPc 138 21 [(10, 0), (0, (e + 1)), (500, 0)] [] (up (up (up (up h 74 0 (nI L1.length) e) 10 0 50 ((h 10 0 50) + 1)) 10 0 52 ((h 10 0 52) + (h 63 0 e))) 10 0 53 ((h 10 0 53) + 0)) Q) ∧ (¬ (h 62 0 e) = 0 → WPc 138 21 [(10, 0), (0, (e + 1)), (500, 0)] [] (up (up (up (up h 74 0 (nI L1.length) e) 10 0 50 ((h 10 0 50) + 1)) 10 0 52 ((h 10 0 52) + (h 63 0 e))) 10 0 53 ((h 10 0 53) + 1)) Q))))) := by
    intro L1 L2 g h eL h2 h1 row g0 k0
    have M := MD_ag hM0 (ag_TS g0)
    have l1 : L1.length < 400 := by rw [eL] at hl; simp at hl; omega
    have l2 : L1.length + L2.length < 400 := by rw [eL] at hl; simpa using hl
    have e62 : h 62 0 e = A.1 62 e := M.1 62 e rfl
    have e63 : h 63 0 e = nI (pr A e).length := (M.2.2.1 e he).1
    have row' : LSq (vpd (h 74 0) (nI L1.length) e) 0 (L1 ++ e :: L2) := by
      have r := LSq_app.mp row
      rw [Int32.zero_add] at r
      refine LSq_app.mpr ⟨LSq_congr (fun k hk => vpd_ne _ _ fun z => ?_) r.1, ?_, LSq_congr (fun k hk => vpd_ne _ _ fun z => ?_) ?_⟩
      · rw [Int32.zero_add] at z
        have := nJ_inj (by omega) (by omega) z
        omega
      · rw [Int32.zero_add]; exact vpd_eq _ _ _
      · rw [Int32.zero_add] at z
        have e2 : nI (L1.length + (1 + k)) = nI L1.length := by
          rw [nJ_add, nJ_add, nJ_1, ← z]; grind
        have := nJ_inj (by omega) (by omega) e2
        omega
      · rw [Int32.zero_add]; exact r.2.2
    have mem : ∀ d, d ∈ L1 ++ e :: L2 ↔ d ∈ L ∨ d = e := fun d => by
      rw [eL]; simp [or_assoc, or_comm, or_left_comm]
    have pw : (L1 ++ e :: L2).Pairwise (bel A.1) := by
      rw [eL] at hp
      have q := List.pairwise_append.mp hp
      refine List.pairwise_append.mpr ⟨q.1, List.pairwise_cons.mpr ⟨h2, q.2.1⟩, fun a ha b hb => ?_⟩
      rcases List.mem_cons.mp hb with rfl | hb
      · exact h1 a ha
      · exact q.2.2 a ha b hb
    have done : ∀ c : Int32, nI (L.filter (fld A)).length + c = nI ((L1 ++ e :: L2).filter (fld A)).length → WPc 138 21 [(10, 0), (0, (e + 1)), (500, 0)] [] (up (up (up (up h 74 0 (nI L1.length) e) 10 0 50 ((h 10 0 50) + 1)) 10 0 52 ((h 10 0 52) + (h 63 0 e))) 10 0 53 ((h 10 0 53) + c)) Q := fun c hc => by
      refine K _ (L1 ++ e :: L2) (ag_tr g0 (ag_up (ag_up (ag_up (ag_up ag_rf rfl) (by decide)) (by decide)) (by decide))) mem pw ⟨?_, ?_, ?_, ?_⟩ (fun k hk => ?_)
      · rw [up_n (by decide), up_n (by decide), up_at, k0, s50, ← nJ_s, eL]
        simp; congr 1
      · rw [upfam (by decide), upfam (by decide), upfam (by decide), uprow]; exact row'
      · rw [up_n (by decide), up_at, k0, s52, e63, ← nJ_add, eL]
        congr 1
        simp [List.flatMap_append, List.flatMap_cons]
        omega
      · rw [up_at, k0, s53]; exact hc
      · have n1 : ¬ k = 50 := fun z => by rw [z] at hk; exact absurd hk (by decide)
        have n2 : ¬ k = 52 := fun z => by rw [z] at hk; exact absurd hk (by decide)
        have n3 : ¬ k = 53 := fun z => by rw [z] at hk; exact absurd hk (by decide)
        rw [up_n (fun z => n3 z.2.2), up_n (fun z => n2 z.2.2), up_n (fun z => n1 z.2.2), upfam (by decide), k0]
    refine ⟨⟨nJ_nn (by omega), (nJ_lt (b := 400) (by omega) (by omega)).mpr l1⟩, he, he, fun z => done 0 ?_, fun z => done 1 ?_⟩
    · rw [e62] at z
      rw [Int32.add_zero, eL]
      congr 1
      simp [fld, z, List.filter_append, List.filter_cons]
    · rw [e62] at z
      rw [← nJ_s, eL]
      congr 1
      simp [fld, z, List.filter_append, List.filter_cons]
      omega
  intro m
  induction m with
  | zero =>
    intro L1 L2 g h hl1 eL h2 row g0 k0
    have : L1 = [] := List.eq_nil_of_length_eq_zero hl1
    subst this
    exact b138_42 _ _ h Q ⟨fun _ => fin [] L2 g h eL h2 (fun d hd => by cases hd) row g0 k0, fun z => absurd (by decide) z⟩
  | succ m ih =>
    intro L1 L2 g h hl1 eL h2 row g0 k0
    obtain ⟨u, d, rfl⟩ : ∃ u d, L1 = u ++ [d] := by
      rcases snocC L1 with q | ⟨u, f, q⟩
      · rw [q] at hl1; simp at hl1
      · exact ⟨u, f, q⟩
    have hu : u.length = m := by simpa using hl1
    have M := MD_ag hM0 (ag_TS g0)
    have hd := hL d (by rw [eL]; simp)
    have ml : m + 1 < 400 := by rw [eL] at hl; simp at hl; omega
    have r1 := LSq_app.mp row
    have r2 := LSq_app.mp r1.1
    rw [Int32.zero_add] at r2
    have val : h 74 0 (nI m) = d := by rw [← hu]; exact r2.2.1
    have im : ina (nI m) 400 := ⟨nJ_nn (by omega), (nJ_lt (b := 400) (by omega) (by omega)).mpr (by omega)⟩
    have im1 : ina (nI (m + 1)) 400 := ⟨nJ_nn (by omega), (nJ_lt (b := 400) (by omega) (by omega)).mpr (by omega)⟩
    refine b138_42 _ _ h Q ⟨fun z => ?_, fun _ => ?_⟩
    · have : nI 0 < nI (m + 1) := (nJ_lt (by omega) (by omega)).mpr (by omega)
      rw [nJ_0] at this
      exfalso; grind
    · rw [nIm1, val]
      refine ⟨im, s_bel A.1 e d h _ M.1 he hd.1 (fun b => b138_59 _ _ _ h Q ⟨fun y => absurd y one0, fun _ => ?_⟩) (fun b => b138_59 _ _ _ h Q ⟨fun _ => ?_, fun y => absurd rfl y⟩)⟩
      · rw [nIm1, val, show nI (m + 1) + (-1) = nI m by rw [nJ_s]; grind]
        refine ⟨im, im1, ih u (d :: L2) d _ hu (by rw [eL]; simp) (fun x hx => ?_) ?_ (ag_tr g0 (ag_up ag_rf rfl)) (fun k => by rw [upfam (by decide)]; exact k0 k)⟩
        · rcases List.mem_cons.mp hx with rfl | hx
          · exact b
          · exact h2 x hx
        · rw [uprow]
          rw [Int32.zero_add, hl1] at r1
          have l2 : m + 1 + L2.length < 400 := by rw [eL] at hl; simp at hl; omega
          refine LSq_app.mpr ⟨LSq_congr (fun k hk => vpd_ne _ _ fun z => ?_) r2.1, ?_, ?_, LSq_congr (fun k hk => vpd_ne _ _ fun z => ?_) ?_⟩
          · rw [Int32.zero_add] at z
            have := nJ_inj (by omega) (by omega) z
            omega
          · rw [Int32.zero_add, hu, vpd_ne _ _ (fun z => by have := nJ_inj (by omega) (by omega) z; omega)]; exact val
          · rw [Int32.zero_add, hu, ← nJ_s]; exact vpd_eq _ _ _
          · rw [Int32.zero_add, hu] at z
            have e2 : nI (m + 1 + (1 + k)) = nI (m + 1) := by
              rw [nJ_add (m + 1), nJ_add 1, nJ_1, nJ_s] at *
              grind
            have := nJ_inj (by omega) (by omega) e2
            omega
          · rw [Int32.zero_add, hu]
            have := r1.2.2
            rw [nJ_s] at this; exact this
      · have q := fin (u ++ [d]) L2 g h eL h2 (fun x hx => ?_) row g0 k0
        · rw [hl1] at q; exact q
        · have bd : bel A.1 d e := by
            rcases bel_tot (a := A.1) (e := d) (f := e) with w | w | w
            · exact w
            · exact absurd w hd.2
            · exact absurd w b
          rcases List.mem_append.mp hx with hx | hx
          · rw [eL] at hp
            have := (List.pairwise_append.mp (List.pairwise_append.mp hp).1).2.2 x hx d (by simp)
            exact bel_tr this bd
          · rw [List.mem_singleton] at hx
            rw [hx]; exact bd
