/-! 98c: the class: same -/
/-- what Plain's pool gives -/
def inP (A : SY) (L : List Int32) (x : Int32) : List (Int32 × Int32 × Int32) := (pr A (L.getD (x - 400).toNatClampNeg 0)).map fun y => (pa A (L.getD (x - 400).toNatClampNeg 0), A.1 55 (L.getD (x - 400).toNatClampNeg 0), y)
theorem inP_at {A : SY} {L : List Int32} (hl : L.length ≤ 400) {s : Int32} (hs : s ∈ L) : inP A L (ixP L s) = (pr A s).map fun y => (pa A s, A.1 55 s, y) := by
  have lt := ixN_lt hs
  have e : ixP L s - 400 = nI (ixN L s) := by unfold ixP; grind
  have k : L.getD (ixP L s - 400).toNatClampNeg 0 = s := by
    rw [e, show (nI (ixN L s)).toNatClampNeg = ixN L s from Int32.toNatClampNeg_ofNat_of_lt (by omega)]
    exact ixN_get 0 hs
  unfold inP
  rw [k]
theorem inP_out {A : SY} {L : List Int32} (hl : L.length ≤ 400) : ∀ l : List Int32, (∀ s, s ∈ l → s ∈ L) → (l.map (ixP L)).flatMap (inP A L) = outL A l
  | [], _ => rfl
  | s :: l, H => by
    rw [List.map_cons, List.flatMap_cons, inP_at hl (H s (by simp)), inP_out hl l fun t ht => H t (by simp [ht])]
    unfold outL
    rw [List.flatMap_cons]
theorem WO_plain {A : SY} {L N M : List Int32} {h : HP} (hY : YW A) (hl : L.length ≤ 400) (P : PN A L (N ++ M) h) (D : DN A L N h) : WO 1 (N.map (ixP L)) (inP A L) h := by
  have ln := P.2.2.2.2.2
  rw [List.length_append] at ln
  refine ⟨by rw [List.length_map]; omega, ?_, ?_, fun x hx => ?_⟩
  · rw [P.1, List.length_map]; exact (nJ_le (by omega) (by omega)).mpr (by omega)
  · have := P.2.2.1
    rw [List.map_append] at this
    exact LSq_take this
  · obtain ⟨s, hs, rfl⟩ := List.mem_map.mp hx
    have sL : s ∈ L := (P.2.2.2.2.1 s).mp (List.mem_append.mpr (Or.inl hs))
    have pe := P.2.1 s sL
    have d := D s hs
    rw [inP_at hl sL]
    refine ⟨(ixP_4 hl sL).2, Or.inr ⟨d.1, by rw [List.length_map]; exact (hY.2.1 s).1, by rw [List.length_map]; exact d.2.1, ?_, fun q hq => ?_⟩⟩
    · rw [List.map_map, show ((fun q : Int32 × Int32 × Int32 => q.2.2) ∘ fun y => (pa A s, A.1 55 s, y)) = id from rfl, List.map_id]
      exact d.2.2
    · obtain ⟨y, -, rfl⟩ := List.mem_map.mp hq
      exact ⟨pe.2.1.symm, pe.1.1.symm⟩
def w7 (f : Nat) (_ : Int32) : Prop := f = 7
theorem w7_of {o : Int32} {h h' : HP} (g : agw (wPr o) h h') : agw w7 h h' := agw_mono g fun _ _ q => q.1
theorem w7_WO {o : Int32} {E : List Int32} {I : Int32 → List (Int32 × Int32 × Int32)} {h h' : HP} (W : WO o E I h) (g : agw w7 h h') : WO o E I h' :=
  WO_co W (agw_row g fun q => absurd (show (3 : Nat) = 7 from q) (by decide)) (agw_row g fun q => absurd (show (26 : Nat) = 7 from q) (by decide)) (fun _ _ => agw_row g fun q => absurd (show (2 : Nat) = 7 from q) (by decide)) (fun _ _ => agw_row g fun q => absurd (show (25 : Nat) = 7 from q) (by decide))
theorem w7C {h h' : HP} (g : agw w7 h h') : ag sC h h' := fun f y k z => g f y k (Or.inr fun q => by
  rw [show f = 7 from q] at z; exact absurd z (by simp [sC]))
theorem s_isOut (E1 E2 : List Int32) (I1 I2 : Int32 → List (Int32 × Int32 × Int32)) (L : List (Int32 × Int32 × Int32)) (h : HP) (Q : Option AV → HP → Prop) (W1 : WO 0 E1 I1 h) (W2 : WO 1 E2 I2 h) (e1 : E1.flatMap I1 = L) (e2 : E2.flatMap I2 = L) (n : h 5 0 4 = nI E2.length) (H : ∀ h', agw w7 h h' → Q (some (0, 1)) h') : WPm 152 [(9, 0), (0, nI E1.length)] h Q := by
  have loop : ∀ (l : List (Int32 × Int32 × Int32)) (k : Int32) (h' : HP), agw w7 h h' → WR 0 E1 I1 l h' → WR 1 E2 I2 l h' → WPc 152 29 [(9, 0), (0, nI E1.length), (0, 1), (0, k)] [] h' Q := by
    intro l
    induction l with
    | nil =>
      intro k h' g P1 P2
      refine b152_29 _ _ _ h' Q ⟨fun _ => ⟨Or.inr rfl, H h' g⟩, fun _ => ⟨fun y => absurd y one0, fun _ => ?_⟩⟩
      refine s_goOn 0 E1 I1 [] h' _ (w7_WO W1 g) P1 (fun _ h2 g2 _ => b152_51 _ _ _ _ h2 Q ?_) (fun q r e => (by cases e))
      have a2 := agw_tr g (w7_of g2)
      refine s_goOn 1 E2 I2 [] h2 _ (w7_WO W2 a2) (WR_co P2 (agw_row g2 fun q => absurd q.2 (by decide))) (fun _ h3 g3 _ => b152_70 _ _ _ _ _ h3 Q ⟨fun y => absurd rfl y, fun _ => ⟨fun _ => ?_, fun y => absurd rfl y⟩⟩) (fun q r e => (by cases e))
      have a3 := agw_tr a2 (w7_of g3)
      exact b152_29 _ _ _ h3 Q ⟨fun _ => ⟨Or.inr rfl, H h3 a3⟩, fun _ => ⟨fun _ => ⟨Or.inr rfl, H h3 a3⟩, fun y => absurd rfl y⟩⟩
    | cons q r ih =>
      intro k h' g P1 P2
      refine b152_29 _ _ _ h' Q ⟨fun _ => ⟨Or.inr rfl, H h' g⟩, fun _ => ⟨fun y => absurd y one0, fun _ => ?_⟩⟩
      refine s_goOn 0 E1 I1 (q :: r) h' _ (w7_WO W1 g) P1 (fun e => (by cases e)) (fun q1 r1 ee h2 g2 P1' v0 v1 v2 => b152_51 _ _ _ _ h2 Q ?_)
      obtain ⟨rfl, rfl⟩ := List.cons.inj ee
      have a2 := agw_tr g (w7_of g2)
      refine s_goOn 1 E2 I2 (q :: r) h2 _ (w7_WO W2 a2) (WR_co P2 (agw_row g2 fun q => absurd q.2 (by decide))) (fun e => (by cases e)) (fun q2 r2 ee h3 g3 P2' u0 u1 u2 => b152_70 _ _ _ _ _ h3 Q ⟨fun y => absurd rfl y, fun _ => ⟨fun y => absurd y one0, fun _ => ?_⟩⟩)
      obtain ⟨rfl, rfl⟩ := List.cons.inj ee
      have a3 := agw_tr a2 (w7_of g3)
      have r0 : h3 7 0 = h2 7 0 := agw_row g3 fun q => absurd q.2 (by decide)
      refine b90_0 _ _ h3 _ ?_
      rw [r0, v0, v1, v2, u0, u1, u2]
      exact ⟨fun y => absurd rfl y, fun _ => ⟨fun y => absurd rfl y, fun _ => ⟨fun y => absurd rfl y, fun _ => ⟨Or.inr rfl, b152_91 _ _ _ _ h3 Q ⟨fun _ => ih _ h3 a3 (WR_co P1' r0) P2', fun y => absurd y one0⟩⟩⟩⟩⟩
  refine b152_0 _ h Q (s_wkB 0 E1 I1 h _ fun h1 g1 P1 => b152_8 _ h1 Q ?_)
  rw [show h1 5 0 4 = nI E2.length by rw [agw_row g1 fun q => absurd q.1 (by decide)]; exact n]
  refine s_wkB 1 E2 I2 h1 _ fun h2 g2 P2 => b152_25 _ h2 Q ?_
  rw [e1] at P1
  rw [e2] at P2
  exact loop L 0 h2 (agw_tr (w7_of g1) (w7_of g2)) (WR_co P1 (agw_row g2 fun q => absurd q.2 (by decide))) P2
theorem s_hasCells (x y : Int32) (z : ZT) (h : HP) (Q : Option AV → HP → Prop) (hx : ¬ x = -1) (hy : ¬ y = -1) (c1 : CZ z x h) (c2 : CZ z y h) (H : Q (some (0, 1)) h) : WPm 35 [(8, x), (8, y)] h Q := by
  have loop : ∀ (m k : Nat), k + m = 4 → WPc 35 2 [(8, x), (8, y), (0, nI k)] [] h Q := by
    intro m
    induction m with
    | zero =>
      intro k e
      have ek : k = 4 := by omega
      subst ek
      exact b35_2 _ _ _ h Q ⟨fun _ => ⟨Or.inr rfl, H⟩, fun z => absurd (show (4 : Int32) ≤ nI 4 by decide) z⟩
    | succ m ih =>
      intro k e
      have i4 : ina (nI k) 4 := ⟨nJ_nn (by omega), (nJ_lt (b := 4) (by omega) (by omega)).mpr (by omega)⟩
      refine b35_2 _ _ _ h Q ⟨fun z => absurd i4.2 (by grind), fun _ => ⟨hx, i4, hy, i4, fun _ => ?_, fun q => absurd ?_ q⟩⟩
      · rw [← nJ_s]; exact ih (k + 1) (by omega)
      · rw [c1.1 _ i4, c2.1 _ i4]
  exact b35_0 _ _ h Q (loop 4 0 rfl)
theorem eo_f0 {A : SY} {od : List Int32} {h : HP} (c : CO A od h) : ((eoL A od).filter fun e => decide (hw A e = 1) && (decide ((0 : Int32) = 0) || fld A e)) = sod A := by
  rw [(sod_od c).1]
  refine List.filter_congr fun d _ => ?_
  simp
theorem eo_f1 {A : SY} {od : List Int32} {h : HP} (c : CO A od h) : ((eoL A od).filter fun e => decide (hw A e = 1) && (decide ((1 : Int32) = 0) || fld A e)) = (sod A).filter (fld A) := by
  rw [(sod_od c).1, List.filter_filter]
  refine List.filter_congr fun d _ => ?_
  rw [show decide ((1 : Int32) = 0) = false from rfl, Bool.false_or, Bool.and_comm]
/-- the starts among the first k -/
def stk (A : SY) (k : Nat) : List Int32 := ((List.range k).map nI).filter fun e => decide (A.1 57 e = -1)
theorem stk_s (A : SY) (k : Nat) : stk A (k + 1) = if A.1 57 (nI k) = -1 then stk A k ++ [nI k] else stk A k := by
  unfold stk
  rw [List.range_succ, List.map_append, List.filter_append]
  by_cases z : A.1 57 (nI k) = -1
  · rw [if_pos z]; simp [z]
  · rw [if_neg z]; simp [z]
theorem stk_mem {A : SY} {k : Nat} {f : Int32} (h : f ∈ stk A k) : (∃ i, i < k ∧ f = nI i) ∧ A.1 57 f = -1 := by
  have := List.mem_filter.mp h
  obtain ⟨i, h1, h2⟩ := List.mem_map.mp this.1
  exact ⟨⟨i, List.mem_range.mp h1, h2.symm⟩, by simpa using this.2⟩
theorem stk_len (A : SY) (k : Nat) : (stk A k).length ≤ k := by
  unfold stk
  refine Nat.le_trans (List.length_filter_le _ _) ?_
  rw [List.length_map, List.length_range]; exact Nat.le_refl _
theorem C_same (A : SY) (od : List Int32) (h : HP) (Q : Option AV → HP → Prop) (hY : YW A) (R : RC A [] (Zst A) od h) (H : ∀ h', ag sC h h' → RC A [] (Zst A) od h' → Q (some (0, 1)) h') : WPm 59 [(9, 0)] h Q := by
  have hI := hY.1
  have hs := (sod_od R.2.2.2.2.1).2
  obtain ⟨N, hN, hN4⟩ := nE_nat hI
  refine b59_0 h Q (s_leastOpen A od [] (Zst A) h _ hI R fun v hv => b59_4 _ h Q (s_settledEnd A v od [] (Zst A) h _ R hv (b59_10 _ _ h Q ?_)))
  -- the parts at the end
  obtain ⟨NP, hNP, hNP2⟩ := nJ_exlt (N := 13) (by decide) hI.1.1.1.1 (Int32.lt_of_le_of_lt hI.1.1.1.2 (by decide))
  have hNP : nP A = nI NP := hNP
  have last : ∀ (m k : Nat) (h' : HP), k + m = NP → ag sC h h' → RC A [] (Zst A) od h' → SPs A (nP A) (sod A) h' → WPc 59 162 [(9, 0), (2, v), (0, nI (eoL A od).length), (0, 1), (0, nI k)] [] h' Q := by
    intro m
    induction m with
    | zero =>
      intro k h' e g R' S
      refine b59_162 _ _ _ _ h' Q ⟨fun _ => ⟨fun y => absurd y one0, fun _ => H h' g R'⟩, fun z => absurd ?_ z⟩
      rw [R'.1.1, hNP, show k = NP by omega]; exact Int32.le_refl _
    | succ m ih =>
      intro k h' e g R' S
      have i12 : ina (nI k) 12 := ⟨nJ_nn (by omega), (nJ_lt (b := 12) (by omega) (by omega)).mpr (by omega)⟩
      have ipn : ina (nI k) (nP A) := by rw [hNP]; exact ⟨nJ_nn (by omega), (nJ_lt (by omega) (by omega)).mpr (by omega)⟩
      have a12 := ar_27 (j := 0) (e := 0) (n := 400) (p := 0) i12 (by decide)
      have sp := S _ ipn
      refine b59_162 _ _ _ _ h' Q ⟨fun z => ?_, fun _ => ⟨fun y => absurd y one0, fun _ => ⟨i12, ?_⟩⟩⟩
      · rw [R'.1.1, hNP, nJ_le (by omega) (by omega)] at z
        exfalso; omega
      · rw [sp.1]
        refine s_settledState A (nI k) od h' _ hY R' ipn fun s h2 g2 z hs2 => b59_192 _ _ _ _ _ _ h2 Q ⟨a12.1, ?_⟩
        have nr : ∀ p f, ina p (nP A) → h2 f (12 + p) = h' f (12 + p) ∨ (f = 1 ∨ (21 ≤ f ∧ f ≤ 24)) := fun p f hp => by
          by_cases y : f = 1 ∨ (21 ≤ f ∧ f ≤ 24)
          · exact Or.inr y
          · refine Or.inl (agw_row g2 fun q => ?_)
            rcases q with q | q | q
            · exact y (Or.inl q.1)
            · exact y (Or.inr ⟨q.1, q.2.1⟩)
            · have p12 : ina p 12 := ⟨hp.1, Int32.lt_of_lt_of_le hp.2 hI.1.1.1.2⟩
              have := q.2
              unfold ina at p12
              grind
        have S2 : SPs A (nP A) (sod A) h2 := fun p hp => ⟨by rw [agw_row g2 (fun q => by unfold wD at q; omega)]; exact (S p hp).1, CZ_co (S p hp).2 ((nr p 39 hp).resolve_right (by omega)) ((nr p 8 hp).resolve_right (by omega))⟩
        have cz := (S2 _ ipn).2
        rw [show pof A (nI k) (sod A) = sdn A (nI k) from sod_dn hY hs (nI k)] at cz
        have sn : ¬ s = -1 := by
          rcases hs2 with q | q
          · rw [q]; exact ina_n1 ipn
          · rw [q]; decide
        refine s_hasCells _ _ _ h2 _ a12.1 sn cz z (b59_195 _ _ _ _ _ h2 Q ?_)
        rw [← nJ_s]
        exact ih (k + 1) h2 (by omega) (ag_tr g (wDC g2)) (fl_24 hI R' g2) S2
  -- the comparison
  have cmp : ∀ (x3 : Int32) (M : List Int32) (h' : HP), ag sC h h' → RC A [] (Zst A) od h' → SPs A (nP A) (sod A) h' → PN A (PLn A (sod A)) (sod A ++ M) h' → DN A (PLn A (sod A)) (sod A) h' → h' 5 0 4 = nI (sod A).length → h' 5 0 5 = nI ((sod A).filter (fld A)).length → h' 5 0 6 = 0 → WPc 59 103 [(9, 0), (2, v), (0, nI (eoL A od).length), (0, x3), (500, 0)] [] h' Q := fun x3 M h' g R' S P D e4 e5 e6 => by
    have hl : (PLn A (sod A)).length ≤ 400 := PL_len hY hs (rest := []) (by rw [List.append_nil])
    refine b59_103 _ _ _ h' Q ⟨fun q => absurd e6 q, fun _ => s_settledEv A 0 od h' _ R' (b59_126 _ _ _ _ _ h' Q ?_)⟩
    rw [eo_f0 R'.2.2.2.2.1, e4]
    refine ⟨fun q => absurd rfl q, fun _ => s_settledEv A 1 od h' _ R' (b59_142 _ _ _ _ _ h' Q ?_)⟩
    rw [eo_f1 R'.2.2.2.2.1, e5]
    refine ⟨fun q => absurd rfl q, fun _ => s_isOut (eoL A od) ((sod A).map (ixP (PLn A (sod A)))) (inA A) (inP A (PLn A (sod A))) (outL A (sod A)) h' _ (WO_main hY R') (WO_plain hY hl P D) (by rw [inA_out, ← (sod_od R'.2.2.2.2.1).1]) (inP_out hl _ fun s ss => (P.2.2.2.2.1 s).mp (List.mem_append.mpr (Or.inl ss))) (by rw [List.length_map]; exact e4) fun h2 g2 => b59_150 _ _ _ _ h2 Q ⟨fun y => absurd y one0, fun _ => ?_⟩⟩
    have r2 : ∀ f x, ¬ f = 7 → h2 f x = h' f x := fun f x q => agw_row g2 q
    have R2 : RC A [] (Zst A) od h2 := RC_pw hI R' g2 fun f x q => by rw [show f = 7 from q]; unfold plX; simp
    have S2 : SPs A (nP A) (sod A) h2 := fun p hp => ⟨by rw [r2 32 0 (by decide)]; exact (S p hp).1, CZ_co (S p hp).2 (r2 39 _ (by decide)) (r2 8 _ (by decide))⟩
    exact last NP 0 h2 (by omega) (ag_tr g (w7C g2)) R2 S2
  -- the starts
  have starts : ∀ (m k : Nat) (M : List Int32) (h' : HP), k + m = N → ag sC h h' → RC A [] (Zst A) od h' → PN A (stk A k) M h' → SPs A (nP A) [] h' → h' 5 0 4 = 0 → h' 5 0 5 = 0 → h' 5 0 6 = 0 → WPc 59 24 [(9, 0), (2, v), (0, nI (eoL A od).length), (0, nI k), (500, 0)] [] h' Q := by
    intro m
    induction m with
    | zero =>
      intro k M h' e g R' P S e4 e5 e6
      have ek : k = N := by omega
      subst ek
      have est : stk A k = PLn A [] := by
        unfold PLn sts stk
        rw [hN, show (nI k).toNatClampNeg = k from Int32.toNatClampNeg_ofNat_of_lt (by omega), List.flatMap_nil, List.append_nil]
      rw [est] at P
      refine b59_24 _ _ _ h' Q ⟨fun _ => ?_, fun z => absurd ?_ z⟩
      · rw [R'.1.1]
        exact b25_0 _ _ h' _ (s_goUpTo A od v h _ hY hs hv (fun M2 h2 g2 R2 S2 P2 D2 c4 c5 c6 => cmp _ M2 h2 g2 R2 S2 P2 D2 c4 c5 c6) (sod A) [] M h' rfl g R' P S (fun s ss => (by cases ss)) e4 e5 e6)
      · rw [R'.2.2.2.2.1.1, hN]; exact Int32.le_refl _
    | succ m ih =>
      intro k M h' e g R' P S e4 e5 e6
      obtain ⟨i4, ine, r41, nle⟩ := ev_go hI R' hN hN4 (k := k) (by omega)
      have kn := ina_n1 i4
      have ev := (R'.2.2.2.1 _ ine).1
      have nx := ih (k + 1)
      rw [stk_s, nJ_s] at nx
      refine b59_24 _ _ _ h' Q ⟨fun z => absurd z nle, fun _ => ⟨i4, ?_⟩⟩
      rw [r41, ev.2.2.2.1.2.2.1]
      refine ⟨kn, fun z => b59_81 _ _ _ _ h' Q ?_, fun z => ⟨kn, kn, kn, kn, ?_⟩⟩
      · rw [if_neg z] at nx
        exact nx M h' (by omega) g R' P S e4 e5 e6
      · rw [if_pos z] at nx
        have st : A.1 56 (nI k) = -1 := by
          rcases hI.2.2.2.2.2.1 (nI k) ine with q | q
          · exact q.2.1
          · rw [z] at q; exact absurd q.1 (by decide)
        have sl := stk_len A k
        have nf : ¬ nI k ∈ stk A k := fun q => by
          obtain ⟨⟨i, h1, h2⟩, -⟩ := stk_mem q
          have := nJ_inj (by omega) (by omega) h2
          omega
        have call := s_plAdd A od (stk A k) M (nI k) h' (fun w h2 => WPc 59 81 [(9, 0), (2, v), (0, nI (eoL A od).length), (0, nI k), (2, nI k)] (w.toList ++ []) h2 Q) hI R' (by omega) nf (fun y hy q => ?_) P fun N1 N2 h2 eN k1 k2 g2 R2 fr P2 _ => b59_81 _ _ _ _ h2 Q ?_
        · rw [st, z] at call
          rw [ev.2.2.1, ev.2.2.2.1.1, ev.2.2.2.1.2.2.2, ev.2.2.2.2]
          exact call
        · obtain ⟨⟨i, h1, h2⟩, h3⟩ := stk_mem hy
          have iy : ina y (nE A) := by rw [h2, hN]; exact (ina_nat hN4).mpr ⟨i, by omega, rfl⟩
          have := hI.2.2.2.2.2.2.1 (nI k) y ine iy z h3 q.2.2.2
          rw [← this] at hy
          exact nf hy
        · exact nx _ h2 (by omega) (ag_tr g g2) R2 P2 (fun p hp => ⟨by rw [fr 32 0 (by decide) (by decide) (by decide) (by decide) (by decide) (by decide) (by decide)]; exact (S p hp).1, CZ_co (S p hp).2 (fr 39 _ (by decide) (by decide) (by decide) (by decide) (by decide) (by decide) (by decide)) (fr 8 _ (by decide) (by decide) (by decide) (by decide) (by decide) (by decide) (by decide))⟩) (by rw [fr 5 0 (by decide) (by decide) (by decide) (by decide) (by decide) (by decide) (by decide)]; exact e4) (by rw [fr 5 0 (by decide) (by decide) (by decide) (by decide) (by decide) (by decide) (by decide)]; exact e5) (by rw [fr 5 0 (by decide) (by decide) (by decide) (by decide) (by decide) (by decide) (by decide)]; exact e6)
  rw [R.1.1]
  refine s_begin A od h _ hI R fun h1 g1 R1 S1 e3 e4 e5 e6 => b59_22 _ _ h1 Q ?_
  exact starts N 0 [] h1 (by omega) g1 R1 ⟨by rw [e3]; rfl, fun f hf => (by cases hf), trivial, List.Pairwise.nil, fun f => Iff.rfl, rfl⟩ S1 e4 e5 e6
