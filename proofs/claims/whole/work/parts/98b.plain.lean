/-! 98b: the class: Plain.goUpTo -/
theorem PN_go {A : SY} {L pre M : List Int32} {f : Int32} {h : HP} (hl : L.length ≤ 400) (P : PN A L (pre ++ f :: M) h) : ina (nI pre.length) 400 ∧ h 26 1 (nI pre.length) = ixP L f ∧ ¬ h 3 1 1 ≤ nI pre.length ∧ f ∈ L ∧ ¬ f ∈ pre ∧ ¬ ixP L f = -1 := by
  have ln := P.2.2.2.2.2
  rw [List.length_append, List.length_cons] at ln
  have fL : f ∈ L := (P.2.2.2.2.1 f).mp (by simp)
  have lt := ixN_lt fL
  refine ⟨⟨nJ_nn (by omega), (nJ_lt (b := 400) (by omega) (by omega)).mpr (by omega)⟩, ?_, ?_, fL, fun q => ?_, (ar_28 (k := 0) (e := 0) (m := 400) (n := nI (ixN L f)) ⟨nJ_nn (by omega), (nJ_lt (b := 400) (by omega) (by omega)).mpr (by omega)⟩ (by decide)).1⟩
  · have := P.2.2.1
    rw [List.map_append, List.map_cons] at this
    have := (LSq_app.mp this).2.1
    rwa [Int32.zero_add, List.length_map] at this
  · rw [P.1, nJ_le (by omega) (by omega)]; omega
  · exact klt_irr ((List.pairwise_append.mp P.2.2.2.1).2.2 f q f (by simp))
theorem PLn_snoc (A : SY) (pre : List Int32) (s : Int32) : PLn A (pre ++ [s]) = PLn A pre ++ se A s := by
  unfold PLn
  rw [List.flatMap_append, List.append_assoc]; simp
theorem ap_split {pre M N1 N2 : List Int32} {s : Int32} (e : pre ++ s :: M = N1 ++ N2) (n : ¬ s ∈ N2) : ∃ M1, N1 = pre ++ s :: M1 ∧ M = M1 ++ N2 := by
  rcases List.append_eq_append_iff.mp e with ⟨a, h1, h2⟩ | ⟨c, h1, h2⟩
  · cases a with
    | nil =>
      rw [List.nil_append] at h2
      exact absurd (by rw [← h2]; simp) n
    | cons y a =>
      rw [List.cons_append] at h2
      obtain ⟨e1, e2⟩ := List.cons.inj h2
      exact ⟨a, by rw [h1, e1], e2⟩
  · exact absurd (by rw [h2]; simp) n
theorem s_goUpTo (A : SY) (od : List Int32) (v : Int32) (h0 : HP) (Q : Option AV → HP → Prop) (hY : YW A) (hs : SRT A (sod A)) (hv : isFl A v)
    (H : ∀ h', ag sC h0 h' → RC A [] (Zst A) od h' → SPs A (nP A) (sod A) h' → PO 1 (outL A (sod A)) h' → h' 5 0 4 = nI (sod A).length → h' 5 0 5 = nI ((sod A).filter (fld A)).length → h' 5 0 6 = 0 → Q none h') :
    ∀ (rest pre M : List Int32) (h : HP), sod A = pre ++ rest → ag sC h0 h → RC A [] (Zst A) od h → PN A (PLn A pre) (pre ++ M) h → SPs A (nP A) pre h → PO 1 (outL A pre) h → h 5 0 4 = nI pre.length → h 5 0 5 = nI (pre.filter (fld A)).length → h 5 0 6 = 0 →
      WPc 25 3 [(5, 0), (2, v), (40, 0), (0, nP A), (0, nI pre.length), (500, 0), (500, 0)] [] h Q := by
  have hI := hY.1
  have kv : ∀ h, RC A [] (Zst A) od h → ¬ v = -1 → KY A.1 v v h := fun h R nv => by
    rcases hv with ⟨h1, _⟩ | ⟨h1, h2, h3⟩
    · exact absurd h1 nv
    · exact (R.2.2.2.1 v h2.1).1.2.2.2.1
  intro rest
  induction rest with
  | nil =>
    intro pre M h e g R P S O e4 e5 e6
    have hl := PL_len hY hs e
    rw [List.append_nil] at e
    have fin : Q none h := H h g R (by rw [e]; exact S) (by rw [e]; exact O) (by rw [e]; exact e4) (by rw [e]; exact e5) e6
    cases M with
    | nil =>
      refine b25_3 _ _ _ h Q ⟨fun _ => fin, fun _ => ⟨fun _ => fin, fun z => absurd ?_ z⟩⟩
      have ln := P.2.2.2.2.2
      rw [List.append_nil] at ln
      rw [P.1, ← ln]; exact Int32.le_refl _
    | cons f M =>
      obtain ⟨i4, val, ne, fL, nf, xn⟩ := PN_go hl P
      refine b25_3 _ _ _ h Q ⟨fun _ => fin, fun _ => ⟨fun z => absurd z ne, fun _ => ⟨i4, by rw [val]; exact xn, ?_⟩⟩⟩
      rw [val]
      refine s_isBelowC A.1 f v _ v h _ xn (P.2.1 f fL).1 (kv h R) (fun s => ?_) (fun s => b25_37 _ _ _ _ h Q ⟨fun _ => fin, fun y => absurd rfl y⟩)
      exact absurd ((blw_fl hv).mpr s) (PL_end hY hs (by rw [e]; exact fL) (by rw [e]; exact nf))
  | cons s rest ih =>
    intro pre M h e g R P S O e4 e5 e6
    have hl := PL_len hY hs e
    have sS := (hs.1 s).mp (by rw [e]; simp)
    have nspre : ¬ s ∈ pre := fun q => by
      have pw := hs.2
      rw [e] at pw
      exact bel_irr ((List.pairwise_append.mp pw).2.2 s q s (by simp))
    have sL := PL_next hY hs e
    have sM : s ∈ M := (List.mem_append.mp ((P.2.2.2.2.1 s).mpr sL)).resolve_left nspre
    obtain ⟨M, rfl⟩ : ∃ M', M = s :: M' := by
      cases M with
      | nil => cases sM
      | cons f M =>
        by_cases q : f = s
        · exact ⟨M, by rw [q]⟩
        · obtain ⟨-, -, -, fL, nf, -⟩ := PN_go hl P
          have fs : klt A.1 f s := (List.pairwise_cons.mp (List.pairwise_append.mp P.2.2.2.1).2.1).1 s ((List.mem_cons.mp sM).resolve_left fun y => q y.symm)
          have bf : blw A f := fun x x1 x2 => klt_tr fs (sS.2.2 x x1 x2)
          exact absurd (klt_tr fs (PL_min hY hs e fL nf bf q)) klt_irr
    obtain ⟨i4, val, ne, -, -, xn⟩ := PN_go hl P
    have gs := ga hI sS.1
    have ipn : ina (pa A s) (nP A) := (hI.1.2.2.1 s sS.1).1
    have ip12 : ina (pa A s) 12 := ⟨ipn.1, Int32.lt_of_lt_of_le ipn.2 hI.1.1.1.2⟩
    have a12 := ar_27 (j := 0) (e := 0) (n := 400) (p := 0) ip12 (by decide)
    have ps := P.2.1 s sL
    have res := pof_RES hY hs e
    have sp := S (pa A s) ipn
    refine b25_3 _ _ _ h Q ⟨fun z => absurd (Int32.lt_of_lt_of_le i4.2 z) (Int32.lt_irrefl), fun _ => ⟨fun z => absurd z ne, fun _ => ⟨i4, by rw [val]; exact xn, ?_⟩⟩⟩
    rw [val]
    refine s_isBelowC A.1 s v _ v h _ xn ps.1 (kv h R) (fun _ => b25_37 _ _ _ _ h Q ⟨fun y => absurd y one0, fun _ => ⟨i4, ?_⟩⟩) (fun q => absurd ((blw_fl hv).mp sS.2.2) q)
    rw [val, ps.2.1]
    refine ⟨xn, ip12, xn, ip12, ?_⟩
    rw [(R.2.1 (pa A s) ipn).1, sp.1]
    refine s_perform A.1 1 (pa A s) (12 + pa A s) (ixP (PLn A pre) s) (A.1 55 s) (A.1 59 s) (nP A) (rp A.1 (pa A s) (pof A (pa A s) pre)) h _ hI.1.1 ip12 ipn rfl a12.1 xn (R.2.1 _ ipn).2.2.1 ps.1.1 ps.2.2 sp.2 (rp_d hI.1.1 ip12 _) fun h1 g1 z1 q4 => ?_
    have z1 : ZC (wAt A.1 (pa A s) (pof A (pa A s) pre) s) 1 (12 + pa A s) h1 := z1
    obtain ⟨r1, r2, r3⟩ := res
    have R1 : RC A [] (Zst A) od h1 := RC_pw hI R g1 fun f x q => by
      rcases q with q | q | q
      · rw [q.1]; unfold plX; simp
      · unfold plX; omega
      · rw [q.2]
        rcases q.1 with q | q
        · rw [q]; unfold plX; simp only [a12.2.1]; simp
        · rw [q]; unfold plX; simp only [a12.2.1]; simp
    have ag1 : ag sC h h1 := fun f x k z => g1 f x k (Or.inr fun q => by
      have : sC f k = true := by
        simp only [sC, Bool.or_eq_true, Bool.and_eq_true]
        rcases q with q | q | q
        · exact Or.inl (Nat.ble_eq_true_of_le (by omega))
        · exact Or.inr ⟨Nat.ble_eq_true_of_le (by omega), Nat.ble_eq_true_of_le (by omega)⟩
        · rcases q.1 with q | q
          · exact Or.inr ⟨Nat.ble_eq_true_of_le (by omega), Nat.ble_eq_true_of_le (by omega)⟩
          · exact Or.inl (Nat.ble_eq_true_of_le (by omega))
      rw [z] at this; cases this)
    have f1 : ∀ f x, ¬ f = 1 → ¬ (21 ≤ f ∧ f ≤ 24) → ¬ (f = 39 ∨ f = 8) → h1 f x = h f x := fun f x a1 a2 a3 => agw_row g1 fun q => by
      rcases q with q | q | q
      · exact a1 q.1
      · exact a2 ⟨q.1, q.2.1⟩
      · exact a3 q.1
    have S1 : SPs A (nP A) (pre ++ [s]) h1 := fun p hp => by
      have o := S p hp
      refine ⟨by rw [f1 32 0 (by decide) (by decide) (by decide)]; exact o.1, ?_⟩
      rw [pof_snoc]
      by_cases y : pa A s = p
      · rw [if_pos y, ← y, rp_snoc]
        exact ZC_CZ z1
      · rw [if_neg y]
        have nr : ∀ f, f = 39 ∨ f = 8 → h1 f (12 + p) = h f (12 + p) := fun f hf => agw_row g1 fun q => by
          rcases q with q | q | q
          · omega
          · omega
          · exact y (by have := q.2; grind)
        exact CZ_co o.2 (nr 39 (Or.inl rfl)) (nr 8 (Or.inr rfl))
    have p1 : PN A (PLn A pre) (pre ++ s :: M) h1 := ⟨by rw [f1 3 1 (by decide) (by decide) (by decide)]; exact P.1, fun f hf => PE_co (P.2.1 f hf) (f1 2 _ (by decide) (by decide) (by decide)), by rw [f1 26 1 (by decide) (by decide) (by decide)]; exact P.2.2.1, P.2.2.2⟩
    have O1 : PO 1 (outL A pre) h1 := by
      unfold PO
      rw [f1 7 1 (by decide) (by decide) (by decide), f1 36 1 (by decide) (by decide) (by decide), f1 37 1 (by decide) (by decide) (by decide), f1 38 1 (by decide) (by decide) (by decide)]
      exact O
    have e4' : h1 5 0 4 = nI pre.length := by rw [f1 5 0 (by decide) (by decide) (by decide)]; exact e4
    have e5' : h1 5 0 5 = nI (pre.filter (fld A)).length := by rw [f1 5 0 (by decide) (by decide) (by decide)]; exact e5
    have e6' : h1 5 0 6 = 0 := by rw [f1 5 0 (by decide) (by decide) (by decide)]; exact e6
    have x7 : h1 1 1 7 = A.1 62 s := by rw [r1]; exact z1.2.2.2.1
    have x6 : h1 1 1 6 = nI (pr A s).length := by rw [r2]; exact z1.2.2.2.2.2.1
    have xr : LSq (h1 24 1) 0 (pr A s) := by rw [r2]; exact z1.2.2.2.2.2.2
    have cont : ∀ h2, agw (fun f _ => f = 5) h1 h2 → h2 5 0 4 = nI (pre ++ [s]).length → h2 5 0 5 = nI ((pre ++ [s]).filter (fld A)).length → h2 5 0 6 = 0 → WPm 30 [(7, 1), (2, ixP (PLn A pre) s), (24, 1), (0, nI (pr A s).length)] h2 (fun w h' => WPc 25 132 [(5, 0), (2, v), (40, 0), (0, nP A), (0, nI pre.length), (2, ixP (PLn A pre) s), (500, 0)] (w.toList ++ []) h' Q) := fun h2 g2 c4 c5 c6 => by
      have f2 : ∀ f x, ¬ f = 5 → h2 f x = h1 f x := fun f x hf => agw_row g2 hf
      have R2 : RC A [] (Zst A) od h2 := RC_pw hI R1 g2 fun f x q => by rw [q]; unfold plX; simp
      have ag2 : ag sC h1 h2 := fun f x k z => g2 f x k (Or.inr fun q => by rw [q] at z; exact absurd z (by simp [sC]))
      have hl3 : (outL A pre).length + (pr A s).length ≤ 3200 := by
        have := (sod_b hY hs).2.2
        rw [e, List.flatMap_append, List.flatMap_cons, List.length_append, List.length_append] at this
        rw [outL_len]; omega
      refine s_prAdd 24 1 _ 1 (pr A s) (outL A pre) h2 _ (Or.inl rfl) xn (hY.2.1 s).1 hl3 (by rw [f2 24 1 (by decide)]; exact xr) (by unfold PO; rw [f2 7 1 (by decide), f2 36 1 (by decide), f2 37 1 (by decide), f2 38 1 (by decide)]; exact O1) fun h3 g3 O3 => b25_132 _ _ _ _ h3 Q ?_
      have pe2 : PE A (ixP (PLn A pre) s) s h2 := PE_co (p1.2.1 s sL) (f2 2 _ (by decide))
      rw [pe2.2.1, pe2.1.1] at O3
      have O3 : PO 1 (outL A (pre ++ [s])) h3 := by
        rw [outL_app, show outL A [s] = (pr A s).map fun y => (pa A s, A.1 55 s, y) by unfold outL; rw [List.flatMap_cons, List.flatMap_nil, List.append_nil]]
        exact O3
      have R3 := RC_pr hI R2 g3
      have f3' : ∀ f x, ¬ (f = 7 ∨ f = 36 ∨ f = 37 ∨ f = 38) → h3 f x = h2 f x := fun f x q => agw_row g3 fun w => q w.1
      have fr3 : ∀ f x, ¬ f = 5 → ¬ (f = 7 ∨ f = 36 ∨ f = 37 ∨ f = 38) → h3 f x = h1 f x := fun f x a b => (f3' f x b).trans (f2 f x a)
      have ag3 : ag sC h0 h3 := ag_tr (ag_tr (ag_tr g ag1) ag2) (wPrC g3)
      have P3 : PN A (PLn A pre) (pre ++ s :: M) h3 := ⟨by rw [fr3 3 1 (by decide) (by decide)]; exact p1.1, fun f hf => PE_co (p1.2.1 f hf) (fr3 2 _ (by decide) (by decide)), by rw [fr3 26 1 (by decide) (by decide)]; exact p1.2.2.1, p1.2.2.2⟩
      have S3 : SPs A (nP A) (pre ++ [s]) h3 := fun p hp => ⟨by rw [fr3 32 0 (by decide) (by decide)]; exact (S1 p hp).1, CZ_co (S1 p hp).2 (fr3 39 _ (by decide) (by decide)) (fr3 8 _ (by decide) (by decide))⟩
      have e' : sod A = (pre ++ [s]) ++ rest := by rw [e]; simp
      have hl' := PL_len hY hs e'
      have nd' := PL_nd hY hs e'
      have mm' := fun f (hf : f ∈ PLn A (pre ++ [s])) => PL_mem hY hs e' hf
      rw [PLn_snoc] at hl' nd' mm'
      have d13 : h3 1 1 3 = nI (wAt A.1 (pa A s) (pof A (pa A s) pre) s).2.2.2.2.1.length := by rw [fr3 1 1 (by decide) (by decide)]; exact z1.2.2.2.2.1.1
      have d14 : h3 1 1 4 = (rp A.1 (pa A s) (pof A (pa A s) pre)).2.2 := by rw [fr3 1 1 (by decide) (by decide)]; exact q4
      have d21 : LSq (h3 21 1) 0 ((wAt A.1 (pa A s) (pof A (pa A s) pre) s).2.2.2.2.1.map fun q => q.1) := by rw [fr3 21 1 (by decide) (by decide)]; exact z1.2.2.2.2.1.2.1
      have d22 : LSq (h3 22 1) 0 ((wAt A.1 (pa A s) (pof A (pa A s) pre) s).2.2.2.2.1.map fun q => q.2.1) := by rw [fr3 22 1 (by decide) (by decide)]; exact z1.2.2.2.2.1.2.2.1
      have d23 : LSq (h3 23 1) 0 ((wAt A.1 (pa A s) (pof A (pa A s) pre) s).2.2.2.2.1.map fun q => q.2.2) := by rw [fr3 23 1 (by decide) (by decide)]; exact z1.2.2.2.2.1.2.2.2
      have sl := SNT_len r3
      have s8 := (hY.2.1 s).2
      generalize (wAt A.1 (pa A s) (pof A (pa A s) pre) s).2.2.2.2.1 = outs at d13 d21 d22 d23 sl r3
      have loop2 : ∀ (os o1 : List (Int32 × Int32 × Int32)) (Sr N2 M2 : List Int32) (h4 : HP), outs = o1 ++ os → se A s = N2 ++ Sr → N2.length = o1.length → SNT A.1 (pa A s) (A.1 55 s) ((rp A.1 (pa A s) (pof A (pa A s) pre)).2.2 + nI N2.length) Sr os → ag sC h0 h4 → RC A [] (Zst A) od h4 → (∀ f y, ¬ f = 0 → ¬ f = 2 → ¬ f = 12 → ¬ f = 25 → ¬ f = 3 → ¬ f = 26 → ¬ f = 33 → h4 f y = h3 f y) → PN A (PLn A pre ++ N2) (pre ++ s :: M2) h4 →
          WPc 25 135 [(5, 0), (2, v), (40, 0), (0, nP A), (0, nI pre.length), (2, ixP (PLn A pre) s), (0, nI N2.length)] [] h4 Q := by
        intro os
        induction os with
        | nil =>
          intro o1 Sr N2 M2 h4 eo es ln sn ag4 R4 fr4 P4
          cases Sr with
          | cons f Sr => exact absurd sn (by simp [SNT])
          | nil =>
            rw [List.append_nil] at eo es
            have a13 : h4 1 1 3 = nI N2.length := by rw [fr4 1 1 (by decide) (by decide) (by decide) (by decide) (by decide) (by decide) (by decide), d13, eo, ← ln]
            refine b25_135 _ _ _ _ _ h4 Q ⟨fun _ => ?_, fun z => absurd (by rw [a13]; exact Int32.le_refl _) z⟩
            have := ih (pre ++ [s]) M2 h4 e' ag4 R4 (by rw [PLn_snoc, es]; simpa using P4) (fun p hp => ⟨by rw [fr4 32 0 (by decide) (by decide) (by decide) (by decide) (by decide) (by decide) (by decide)]; exact (S3 p hp).1, CZ_co (S3 p hp).2 (fr4 39 _ (by decide) (by decide) (by decide) (by decide) (by decide) (by decide) (by decide)) (fr4 8 _ (by decide) (by decide) (by decide) (by decide) (by decide) (by decide) (by decide))⟩) (by unfold PO; rw [fr4 7 1 (by decide) (by decide) (by decide) (by decide) (by decide) (by decide) (by decide), fr4 36 1 (by decide) (by decide) (by decide) (by decide) (by decide) (by decide) (by decide), fr4 37 1 (by decide) (by decide) (by decide) (by decide) (by decide) (by decide) (by decide), fr4 38 1 (by decide) (by decide) (by decide) (by decide) (by decide) (by decide) (by decide)]; exact O3)
              (by rw [fr4 5 0 (by decide) (by decide) (by decide) (by decide) (by decide) (by decide) (by decide), f3' 5 0 (by decide)]; exact c4) (by rw [fr4 5 0 (by decide) (by decide) (by decide) (by decide) (by decide) (by decide) (by decide), f3' 5 0 (by decide)]; exact c5) (by rw [fr4 5 0 (by decide) (by decide) (by decide) (by decide) (by decide) (by decide) (by decide), f3' 5 0 (by decide)]; exact c6)
            rw [List.length_append] at this
            rw [← nJ_s]; exact this
        | cons o os ih2 =>
          intro o1 Sr N2 M2 h4 eo es ln sn ag4 R4 fr4 P4
          cases Sr with
          | nil => exact absurd sn (by simp [SNT])
          | cons f Sr =>
            obtain ⟨⟨b1, b2, b3, b4, b5, b6⟩, sn'⟩ := sn
            have fr := fun f y a1 a2 a3 a4 a5 a6 a7 => congrFun (fr4 f y a1 a2 a3 a4 a5 a6 a7)
            have n8 : N2.length < 8 := by rw [es] at s8; simp at s8; omega
            have i8' : ina (nI N2.length) 8 := ⟨nJ_nn (by omega), (nJ_lt (b := 8) (by omega) (by omega)).mpr n8⟩
            have v21 : h4 21 1 (nI N2.length) = o.1 := by
              rw [fr4 21 1 (by decide) (by decide) (by decide) (by decide) (by decide) (by decide) (by decide)]
              have := d21
              rw [eo, List.map_append] at this
              have := (LSq_app.mp this).2.1
              rwa [Int32.zero_add, List.length_map, ← ln] at this
            have v22 : h4 22 1 (nI N2.length) = o.2.1 := by
              rw [fr4 22 1 (by decide) (by decide) (by decide) (by decide) (by decide) (by decide) (by decide)]
              have := d22
              rw [eo, List.map_append] at this
              have := (LSq_app.mp this).2.1
              rwa [Int32.zero_add, List.length_map, ← ln] at this
            have v23 : h4 23 1 (nI N2.length) = o.2.2 := by
              rw [fr4 23 1 (by decide) (by decide) (by decide) (by decide) (by decide) (by decide) (by decide)]
              have := d23
              rw [eo, List.map_append] at this
              have := (LSq_app.mp this).2.1
              rwa [Int32.zero_add, List.length_map, ← ln] at this
            have a13 : h4 1 1 3 = nI (N2.length + (os.length + 1)) := by
              rw [fr4 1 1 (by decide) (by decide) (by decide) (by decide) (by decide) (by decide) (by decide), d13, eo, ln, List.length_append, List.length_cons]
            have a14 : h4 1 1 4 = (rp A.1 (pa A s) (pof A (pa A s) pre)).2.2 := by
              rw [fr4 1 1 (by decide) (by decide) (by decide) (by decide) (by decide) (by decide) (by decide), d14]
            have ixs : ixP (PLn A pre ++ N2) s = ixP (PLn A pre) s := by unfold ixP; rw [ixN_app _ sL]
            have pe4 := P4.2.1 s (List.mem_append.mpr (Or.inl sL))
            rw [ixs] at pe4
            have fin : f ∈ PLn A pre ++ se A s := by rw [es]; simp
            have nfL : ¬ f ∈ PLn A pre ++ N2 := fun q => by
              have nd := nd'
              rw [es, ← List.append_assoc] at nd
              exact (List.nodup_append.mp nd).2.2 f q f (by simp) rfl
            have hk : ∀ y, y ∈ PLn A pre ++ N2 → ¬ keq A.1 f y := fun y hy q => by
              have yin : y ∈ PLn A pre ++ se A s := by
                rcases List.mem_append.mp hy with w | w
                · exact List.mem_append.mpr (Or.inl w)
                · rw [es]; exact List.mem_append.mpr (Or.inr (List.mem_append.mpr (Or.inl w)))
              have := lv_uq hI (mm' f fin).1 (mm' y yin).1 (mm' f fin).2 (mm' y yin).2 q
              rw [← this] at hy
              exact nfL hy
            have hlt : (PLn A pre ++ N2).length < 400 := by
              rw [es] at hl'
              simp at hl' ⊢
              omega
            have ksf : klt A.1 s f := (J3 hI (hI.2.1.2.1 s sS.1 sS.2.1) (f := f) (by rw [es]; simp)).2.2.2
            refine b25_135 _ _ _ _ _ h4 Q ⟨fun z => ?_, fun _ => ⟨i8', i8', xn, xn, i8', ?_⟩⟩
            · rw [a13, nJ_le (by have := sl; rw [eo, es] at this; simp at this; rw [es] at s8; simp at s8; omega) (by omega)] at z
              exfalso; omega
            · rw [v21, v22, v23, pe4.1.1, pe4.2.1, a14, ← b1, ← b2, ← b6, ← b5]
              have b3' : A.1 55 s = A.1 56 f := b3.symm
              have b4' : pa A s = A.1 57 f := b4.symm
              have call := s_plAdd A od (PLn A pre ++ N2) (pre ++ s :: M2) f h4 (fun w h' => WPc 25 201 [(5, 0), (2, v), (40, 0), (0, nP A), (0, nI pre.length), (2, ixP (PLn A pre) s), (0, nI N2.length)] (w.toList ++ []) h' Q) hI R4 hlt nfL hk P4 fun N1 N3 h5 eN k1 k2 ag5 R5 fr5 P5 => b25_201 _ _ _ _ _ h5 Q ?_
              · rw [← b3', ← b4'] at call
                exact call
              · obtain ⟨M1, m1, m2⟩ := ap_split eN fun q => klt_irr (klt_tr ksf (k2 s q))
                have nx := ih2 (o1 ++ [o]) Sr (N2 ++ [f]) (M1 ++ f :: N3) h5 (by rw [eo]; simp) (by rw [es]; simp) (by rw [List.length_append, List.length_append, ln]; rfl) (by
                  rw [List.length_append, List.length_singleton, nJ_s]
                  rw [Int32.add_assoc] at sn'
                  exact sn') (ag_tr ag4 ag5) R5 (fun f y a1 a2 a3 a4 a5 a6 a7 => (fr5 f y a1 a2 a3 a4 a5 a6 a7).trans (fr4 f y a1 a2 a3 a4 a5 a6 a7)) (by
                  rw [m1] at P5
                  rw [← List.append_assoc]
                  simpa using P5)
                rw [List.length_append] at nx
                rw [← nJ_s]; exact nx
      have := loop2 outs [] (se A s) [] M h3 rfl rfl rfl (by rw [List.length_nil, nJ_0, Int32.add_zero]; exact r3) ag3 R3 (fun _ _ _ _ _ _ _ _ _ => rfl) (by rw [List.append_nil]; exact P3)
      exact this
    refine b25_79 _ _ _ _ h1 Q ?_
    rw [x7, x6, e4', e5']
    refine ⟨fun z => cont _ (agw_up agw_rf rfl (by decide)) ?_ ?_ ?_, fun z => cont _ (agw_up (agw_up agw_rf rfl (by decide)) rfl (by decide)) ?_ ?_ ?_⟩
    · rw [up_at, List.length_append]; exact (nJ_s _).symm
    · rw [up_n (by simp), e5', List.filter_append, List.filter_cons_of_neg (by simp [fld, z]), List.filter_nil, List.append_nil]
    · rw [up_n (by simp)]; exact e6'
    · rw [up_n (by simp), up_at, List.length_append]; exact (nJ_s _).symm
    · rw [up_at, List.filter_append, List.filter_cons_of_pos (by simp [fld, z]), List.filter_nil, List.length_append]; exact (nJ_s _).symm
    · rw [up_n (by simp), up_n (by simp)]; exact e6'
