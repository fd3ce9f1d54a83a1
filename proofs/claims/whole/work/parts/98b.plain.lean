/-! 98b: the class: Plain.goUpTo -/
theorem PN_go {A : SY} {L pre M : List Int32} {f : Int32} {h : HP} (hl : L.length ≤ 400) (P : PN A L (pre ++ f :: M) h) : ina (nI pre.length) 400 ∧ h 26 1 (nI pre.length) = ixP L f ∧ ¬ h 3 1 1 ≤ nI pre.length ∧ f ∈ L ∧ ¬ f ∈ pre ∧ ¬ ixP L f = -1 := by
  have ln := P.2.2.2.2.2
  rw [List.length_append, List.length_cons] at ln
  have fL : f ∈ L := (P.2.2.2.2.1 f).mp (by simp)
  have lt := ixN_lt fL
  refine ⟨⟨nJ_nn (by omega), (nJ_lt (b := 400) (by omega) (by omega)).mpr (by omega)⟩, ?_, ?_, fL, fun q => ?_, (ar_28 (k := 0) (e := 0) (m := 400) (n := nI (ixN L f)) ⟨nJ_nn (by omega), (nJ_lt (b := 400) (by omega) (by omega)).mpr (by omega)⟩ (by decide)).1⟩
  · have := P.2.2.1
    rw [List.map_append, List.map_cons] at this
    have := (LSq_app.mp this).2.1
    rwa [Int32.zero_add, List.length_map] at this
  · rw [P.1, nJ_le (by omega) (by omega)]; omega
  · exact klt_irr ((List.pairwise_append.mp P.2.2.2.1).2.2 f q f (by simp))
theorem PLn_snoc (A : SY) (pre : List Int32) (s : Int32) : PLn A (pre ++ [s]) = PLn A pre ++ se A s := by
  unfold PLn
  rw [List.flatMap_append, List.append_assoc]; simp
theorem ap_split {pre M N1 N2 : List Int32} {s : Int32} (e : pre ++ s :: M = N1 ++ N2) (n : ¬ s ∈ N2) : ∃ M1, N1 = pre ++ s :: M1 ∧ M = M1 ++ N2 := by
  rcases List.append_eq_append_iff.mp e with ⟨a, h1, h2⟩ | ⟨c, h1, h2⟩
  · cases a with
    | nil =>
      rw [List.nil_append] at h2
      exact absurd (by rw [← h2]; simp) n
    | cons y a =>
      rw [List.cons_append] at h2
      obtain ⟨e1, e2⟩ := List.cons.inj h2
      exact ⟨a, by rw [h1, e1], e2⟩
  · exact absurd (by rw [h2]; simp) n
theorem s_takeR (o e v : Int32) (L : List Int32) (h0 : HP) (Q : Option AV → HP → Prop) (he : ¬ e = -1) (e7 : h0 1 o 7 = v) (e6 : h0 1 o 6 = nI L.length) (row : LSq (h0 24 o) 0 L) (hL : L.length ≤ 8)
    (H : ∀ h', (∀ f y k, ¬ (f = 2 ∧ y = e ∧ (k = 9 ∨ k = 11)) → ¬ (f = 25 ∧ y = e ∧ ¬ k = -1) → h' f y k = h0 f y k) → h' 2 e 9 = v → h' 2 e 11 = nI L.length → LSq (h' 25 e) 0 L → Q none h') : WPm 10 [(2, e), (1, o)] h0 Q := by
  have loop : ∀ (r pre : List Int32) (h : HP), L = pre ++ r → (∀ f y k, ¬ (f = 2 ∧ y = e ∧ (k = 9 ∨ k = 11)) → ¬ (f = 25 ∧ y = e ∧ ¬ k = -1) → h f y k = h0 f y k) → h 2 e 9 = v → h 2 e 11 = nI L.length → LSq (h 25 e) 0 pre → WPc 10 18 [(2, e), (1, o), (0, nI pre.length)] [] h Q := by
    intro r
    induction r with
    | nil =>
      intro pre h eL fr q9 q11 rw1
      rw [List.append_nil] at eL
      subst eL
      refine b10_18 _ _ _ h Q ⟨he, fun _ => H h fr q9 q11 rw1, fun z => absurd ?_ z⟩
      rw [q11]; exact Int32.le_refl _
    | cons x r ih =>
      intro pre h eL fr q9 q11 rw1
      have hlt : pre.length < L.length := by rw [eL]; simp
      have i8 : ina (nI pre.length) 8 := ⟨nJ_nn (by omega), (nJ_lt (b := 8) (by omega) (by omega)).mpr (by omega)⟩
      have vx : h 24 o (nI pre.length) = x := by
        rw [fr 24 o _ (by simp) (by simp)]
        have := row
        rw [eL] at this
        have := (LSq_app.mp this).2.1
        rw [Int32.zero_add] at this
        exact this
      refine b10_18 _ _ _ h Q ⟨he, fun z => ?_, fun _ => ⟨he, i8, i8, ?_⟩⟩
      · rw [q11, nJ_le (by omega) (by omega)] at z
        exfalso; omega
      · rw [vx]
        have := ih (pre ++ [x]) (up h 25 e (nI pre.length) x) (by rw [eL]; simp) (fun f y k q1 q2 => by
          rw [up_n (fun w => q2 ⟨w.1, w.2.1, by rw [w.2.2]; exact ina_n1 i8⟩)]; exact fr f y k q1 q2) (by rw [upfam (by decide)]; exact q9) (by rw [upfam (by decide)]; exact q11) (by
          rw [uprow]
          have := LSq_snoc (v := x) (by omega) rw1
          rwa [Int32.zero_add] at this)
        rw [List.length_append, List.length_singleton, nJ_s] at this
        exact this
  refine b10_0 _ _ h0 Q ⟨he, he, ?_⟩
  rw [e7, e6]
  exact loop L [] _ rfl (fun f y k q1 q2 => by
    rw [up_n (fun w => q1 ⟨w.1, w.2.1, Or.inr w.2.2⟩), up_n (fun w => q1 ⟨w.1, w.2.1, Or.inl w.2.2⟩)]) (by rw [up_n (by simp), up_at]) up_at trivial
theorem PE_ck {A : SY} {x f : Int32} {h h' : HP} (P : PE A x f h) (e : ∀ k, ¬ k = 7 → ¬ k = 9 → ¬ k = 11 → h' 2 x k = h 2 x k) : PE A x f h' := by
  unfold PE KY
  rw [e 1 (by decide) (by decide) (by decide), e 2 (by decide) (by decide) (by decide), e 3 (by decide) (by decide) (by decide), e 4 (by decide) (by decide) (by decide), e 5 (by decide) (by decide) (by decide), e 6 (by decide) (by decide) (by decide)]
  exact P
theorem ixP_inj {L : List Int32} (hl : L.length ≤ 400) {t s : Int32} (ht : t ∈ L) (hs : s ∈ L) (e : ixP L t = ixP L s) : t = s := by
  have a := ixN_lt ht
  have b := ixN_lt hs
  have q : nI (ixN L t) = nI (ixN L s) := by unfold ixP at e; grind
  have := nJ_inj (by omega) (by omega) q
  exact (ixN_get 0 ht).symm.trans (by rw [this]; exact ixN_get 0 hs)
theorem ixP_4 {L : List Int32} (hl : L.length ≤ 400) {s : Int32} (hs : s ∈ L) : (400 : Int32) ≤ ixP L s ∧ ¬ ixP L s = -1 := by
  have lt := ixN_lt hs
  have := ar_28 (k := 0) (e := 0) (m := 400) (n := nI (ixN L s)) ⟨nJ_nn (by omega), (nJ_lt (b := 400) (by omega) (by omega)).mpr (by omega)⟩ (by decide)
  exact ⟨this.2.1, this.1⟩
/-- those of pre are done in Plain's pool -/
def DN (A : SY) (L pre : List Int32) (h : HP) : Prop := ∀ s, s ∈ pre → h 2 (ixP L s) 7 = 1 ∧ h 2 (ixP L s) 11 = nI (pr A s).length ∧ LSq (h 25 (ixP L s)) 0 (pr A s)
theorem s_goUpTo (A : SY) (od : List Int32) (v : Int32) (h0 : HP) (Q : Option AV → HP → Prop) (hY : YW A) (hs : SRT A (sod A)) (hv : isFl A v)
    (H : ∀ M h', ag sC h0 h' → RC A [] (Zst A) od h' → SPs A (nP A) (sod A) h' → PN A (PLn A (sod A)) (sod A ++ M) h' → DN A (PLn A (sod A)) (sod A) h' → h' 5 0 4 = nI (sod A).length → h' 5 0 5 = nI ((sod A).filter (fld A)).length → h' 5 0 6 = 0 → Q none h') :
    ∀ (rest pre M : List Int32) (h : HP), sod A = pre ++ rest → ag sC h0 h → RC A [] (Zst A) od h → PN A (PLn A pre) (pre ++ M) h → SPs A (nP A) pre h → DN A (PLn A pre) pre h → h 5 0 4 = nI pre.length → h 5 0 5 = nI (pre.filter (fld A)).length → h 5 0 6 = 0 →
      WPc 25 3 [(5, 0), (2, v), (40, 0), (0, nP A), (0, nI pre.length), (500, 0), (500, 0)] [] h Q := by
  have hI := hY.1
  have kv : ∀ h, RC A [] (Zst A) od h → ¬ v = -1 → KY A.1 v v h := fun h R nv => by
    rcases hv with ⟨h1, _⟩ | ⟨h1, h2, h3⟩
    · exact absurd h1 nv
    · exact (R.2.2.2.1 v h2.1).1.2.2.2.1
  intro rest
  induction rest with
  | nil =>
    intro pre M h e g R P S O e4 e5 e6
    have hl := PL_len hY hs e
    rw [List.append_nil] at e
    have fin : Q none h := H M h g R (by rw [e]; exact S) (by rw [e]; exact P) (by rw [e]; exact O) (by rw [e]; exact e4) (by rw [e]; exact e5) e6
    cases M with
    | nil =>
      refine b25_3 _ _ _ h Q ⟨fun _ => fin, fun _ => ⟨fun _ => fin, fun z => absurd ?_ z⟩⟩
      have ln := P.2.2.2.2.2
      rw [List.append_nil] at ln
      rw [P.1, ← ln]; exact Int32.le_refl _
    | cons f M =>
      obtain ⟨i4, val, ne, fL, nf, xn⟩ := PN_go hl P
      refine b25_3 _ _ _ h Q ⟨fun _ => fin, fun _ => ⟨fun z => absurd z ne, fun _ => ⟨i4, by rw [val]; exact xn, ?_⟩⟩⟩
      rw [val]
      refine s_isBelowC A.1 f v _ v h _ xn (P.2.1 f fL).1 (kv h R) (fun s => ?_) (fun s => b25_37 _ _ _ _ h Q ⟨fun _ => fin, fun y => absurd rfl y⟩)
      exact absurd ((blw_fl hv).mpr s) (PL_end hY hs (by rw [e]; exact fL) (by rw [e]; exact nf))
  | cons s rest ih =>
    intro pre M h e g R P S O e4 e5 e6
    have hl := PL_len hY hs e
    have sS := (hs.1 s).mp (by rw [e]; simp)
    have nspre : ¬ s ∈ pre := fun q => by
      have pw := hs.2
      rw [e] at pw
      exact bel_irr ((List.pairwise_append.mp pw).2.2 s q s (by simp))
    have sL := PL_next hY hs e
    have sM : s ∈ M := (List.mem_append.mp ((P.2.2.2.2.1 s).mpr sL)).resolve_left nspre
    obtain ⟨M, rfl⟩ : ∃ M', M = s :: M' := by
      cases M with
      | nil => cases sM
      | cons f M =>
        by_cases q : f = s
        · exact ⟨M, by rw [q]⟩
        · obtain ⟨-, -, -, fL, nf, -⟩ := PN_go hl P
          have fs : klt A.1 f s := (List.pairwise_cons.mp (List.pairwise_append.mp P.2.2.2.1).2.1).1 s ((List.mem_cons.mp sM).resolve_left fun y => q y.symm)
          have bf : blw A f := fun x x1 x2 => klt_tr fs (sS.2.2 x x1 x2)
          exact absurd (klt_tr fs (PL_min hY hs e fL nf bf q)) klt_irr
    obtain ⟨i4, val, ne, -, -, xn⟩ := PN_go hl P
    have gs := ga hI sS.1
    have ipn : ina (pa A s) (nP A) := (hI.1.2.2.1 s sS.1).1
    have ip12 : ina (pa A s) 12 := ⟨ipn.1, Int32.lt_of_lt_of_le ipn.2 hI.1.1.1.2⟩
    have a12 := ar_27 (j := 0) (e := 0) (n := 400) (p := 0) ip12 (by decide)
    have ps := P.2.1 s sL
    have res := pof_RES hY hs e
    have sp := S (pa A s) ipn
    refine b25_3 _ _ _ h Q ⟨fun z => absurd (Int32.lt_of_lt_of_le i4.2 z) (Int32.lt_irrefl), fun _ => ⟨fun z => absurd z ne, fun _ => ⟨i4, by rw [val]; exact xn, ?_⟩⟩⟩
    rw [val]
    refine s_isBelowC A.1 s v _ v h _ xn ps.1 (kv h R) (fun _ => b25_37 _ _ _ _ h Q ⟨fun y => absurd y one0, fun _ => ⟨i4, ?_⟩⟩) (fun q => absurd ((blw_fl hv).mp sS.2.2) q)
    rw [val, ps.2.1]
    refine ⟨xn, ip12, xn, ip12, ?_⟩
    rw [(R.2.1 (pa A s) ipn).1, sp.1]
    refine s_perform A.1 1 (pa A s) (12 + pa A s) (ixP (PLn A pre) s) (A.1 55 s) (A.1 59 s) (nP A) (rp A.1 (pa A s) (pof A (pa A s) pre)) h _ hI.1.1 ip12 ipn rfl a12.1 xn (R.2.1 _ ipn).2.2.1 ps.1.1 ps.2.2 sp.2 (rp_d hI.1.1 ip12 _) fun h1 g1 z1 q4 => ?_
    have z1 : ZC (wAt A.1 (pa A s) (pof A (pa A s) pre) s) 1 (12 + pa A s) h1 := z1
    obtain ⟨r1, r2, r3⟩ := res
    have R1 : RC A [] (Zst A) od h1 := RC_pw hI R g1 fun f x q => by
      rcases q with q | q | q
      · rw [q.1]; unfold plX; simp
      · unfold plX; omega
      · rw [q.2]
        rcases q.1 with q | q
        · rw [q]; unfold plX; simp only [a12.2.1]; simp
        · rw [q]; unfold plX; simp only [a12.2.1]; simp
    have ag1 : ag sC h h1 := fun f x k z => g1 f x k (Or.inr fun q => by
      have : sC f k = true := by
        simp only [sC, Bool.or_eq_true, Bool.and_eq_true]
        rcases q with q | q | q
        · exact Or.inl (Nat.ble_eq_true_of_le (by omega))
        · exact Or.inr ⟨Nat.ble_eq_true_of_le (by omega), Nat.ble_eq_true_of_le (by omega)⟩
        · rcases q.1 with q | q
          · exact Or.inr ⟨Nat.ble_eq_true_of_le (by omega), Nat.ble_eq_true_of_le (by omega)⟩
          · exact Or.inl (Nat.ble_eq_true_of_le (by omega))
      rw [z] at this; cases this)
    have f1 : ∀ f x, ¬ f = 1 → ¬ (21 ≤ f ∧ f ≤ 24) → ¬ (f = 39 ∨ f = 8) → h1 f x = h f x := fun f x a1 a2 a3 => agw_row g1 fun q => by
      rcases q with q | q | q
      · exact a1 q.1
      · exact a2 ⟨q.1, q.2.1⟩
      · exact a3 q.1
    have S1 : SPs A (nP A) (pre ++ [s]) h1 := fun p hp => by
      have o := S p hp
      refine ⟨by rw [f1 32 0 (by decide) (by decide) (by decide)]; exact o.1, ?_⟩
      rw [pof_snoc]
      by_cases y : pa A s = p
      · rw [if_pos y, ← y, rp_snoc]
        exact ZC_CZ z1
      · rw [if_neg y]
        have nr : ∀ f, f = 39 ∨ f = 8 → h1 f (12 + p) = h f (12 + p) := fun f hf => agw_row g1 fun q => by
          rcases q with q | q | q
          · omega
          · omega
          · exact y (by have := q.2; grind)
        exact CZ_co o.2 (nr 39 (Or.inl rfl)) (nr 8 (Or.inr rfl))
    have p1 : PN A (PLn A pre) (pre ++ s :: M) h1 := ⟨by rw [f1 3 1 (by decide) (by decide) (by decide)]; exact P.1, fun f hf => PE_co (P.2.1 f hf) (f1 2 _ (by decide) (by decide) (by decide)), by rw [f1 26 1 (by decide) (by decide) (by decide)]; exact P.2.2.1, P.2.2.2⟩
    have e4' : h1 5 0 4 = nI pre.length := by rw [f1 5 0 (by decide) (by decide) (by decide)]; exact e4
    have e5' : h1 5 0 5 = nI (pre.filter (fld A)).length := by rw [f1 5 0 (by decide) (by decide) (by decide)]; exact e5
    have e6' : h1 5 0 6 = 0 := by rw [f1 5 0 (by decide) (by decide) (by decide)]; exact e6
    have x7 : h1 1 1 7 = A.1 62 s := by rw [r1]; exact z1.2.2.2.1
    have x6 : h1 1 1 6 = nI (pr A s).length := by rw [r2]; exact z1.2.2.2.2.2.1
    have xr : LSq (h1 24 1) 0 (pr A s) := by rw [r2]; exact z1.2.2.2.2.2.2
    have x4 := ixP_4 hl sL
    have nix : ∀ t, t ∈ pre → ¬ ixP (PLn A pre) t = ixP (PLn A pre) s := fun t ht q => nspre (by
      have := ixP_inj hl ((P.2.2.2.2.1 t).mp (List.mem_append.mpr (Or.inl ht))) sL q
      rw [← this]; exact ht)
    have up7 : ∀ f x k, ¬ (f = 2 ∧ x = ixP (PLn A pre) s ∧ k = 7) → (up h1 2 (ixP (PLn A pre) s) 7 1) f x k = h1 f x k := fun f x k q => up_n q
    refine b25_79 _ _ _ _ h1 Q ⟨xn, xn, s_takeR 1 (ixP (PLn A pre) s) (A.1 62 s) (pr A s) (up h1 2 (ixP (PLn A pre) s) 7 1) _ xn (by rw [up7 1 1 7 (by simp)]; exact x7) (by rw [up7 1 1 6 (by simp)]; exact x6) (by rw [upfam (by decide)]; exact xr) (hY.2.1 s).1 fun h2 fr2 q9 q11 row2 => b25_94 _ _ _ _ h2 Q ⟨xn, ?_⟩⟩
    have g2 : agw (fun f y => (f = 2 ∨ f = 25) ∧ y = ixP (PLn A pre) s) h1 h2 := fun f y k z => by
      rw [fr2 f y k (fun q => by
        rcases z with z | z
        · rw [z] at q
          rcases q.2.2 with w | w
          · exact absurd w (by decide)
          · exact absurd w (by decide)
        · exact z ⟨Or.inl q.1, q.2.1⟩) (fun q => by
        rcases z with z | z
        · exact q.2.2 z
        · exact z ⟨Or.inr q.1, q.2.1⟩)]
      refine up7 f y k fun q => ?_
      rcases z with z | z
      · rw [z] at q; exact absurd q.2.2 (by decide)
      · exact z ⟨Or.inl q.1, q.2.1⟩
    have k2 : ∀ y k, ¬ k = 7 → ¬ k = 9 → ¬ k = 11 → h2 2 y k = h1 2 y k := fun y k k7 k9 k11 => by
      rw [fr2 2 y k (fun q => by
        rcases q.2.2 with w | w
        · exact k9 w
        · exact k11 w) (fun q => absurd q.1 (by decide))]
      exact up7 2 y k fun q => k7 q.2.2
    have q7 : h2 2 (ixP (PLn A pre) s) 7 = 1 := by
      rw [fr2 2 _ 7 (fun q => by
        rcases q.2.2 with w | w
        · exact absurd w (by decide)
        · exact absurd w (by decide)) (fun q => absurd q.1 (by decide)), up_at]
    have R2 : RC A [] (Zst A) od h2 := RC_pw hI R1 g2 fun f x q => by
      rw [q.2]
      rcases q.1 with q | q
      · rw [q]; unfold plX; simp only [x4.1]; simp
      · rw [q]; unfold plX; simp only [x4.1]; simp
    have ag2 : ag sC h1 h2 := fun f x k z => g2 f x k (Or.inr fun q => by
      rcases q.1 with w | w
      · rw [w] at z; exact absurd z (by simp [sC])
      · rw [w] at z; exact absurd z (by simp [sC]))
    have f2 : ∀ f x, ¬ ((f = 2 ∨ f = 25) ∧ x = ixP (PLn A pre) s) → h2 f x = h1 f x := fun f x q => agw_row g2 q
    have cont : ∀ h3, agw (fun f _ => f = 5) h2 h3 → h3 5 0 4 = nI (pre ++ [s]).length → h3 5 0 5 = nI ((pre ++ [s]).filter (fld A)).length → h3 5 0 6 = 0 → WPc 25 125 [(5, 0), (2, v), (40, 0), (0, nP A), (0, nI pre.length), (2, ixP (PLn A pre) s), (0, 0)] [] h3 Q := fun h3 g3 c4 c5 c6 => by
      have f3' : ∀ f x, ¬ f = 5 → h3 f x = h2 f x := fun f x hf => agw_row g3 hf
      have R3 : RC A [] (Zst A) od h3 := RC_pw hI R2 g3 fun f x q => by rw [q]; unfold plX; simp
      have fr3 : ∀ f x, ¬ f = 5 → ¬ (f = 2 ∨ f = 25) → h3 f x = h1 f x := fun f x a b => (f3' f x a).trans (f2 f x fun q => b q.1)
      have ag3 : ag sC h0 h3 := ag_tr (ag_tr (ag_tr g ag1) ag2) fun f x k z => g3 f x k (Or.inr fun q => by rw [q] at z; exact absurd z (by simp [sC]))
      have P3 : PN A (PLn A pre) (pre ++ s :: M) h3 := ⟨by rw [fr3 3 1 (by decide) (by decide)]; exact p1.1, fun f hf => PE_ck (p1.2.1 f hf) fun k k7 k9 k11 => by rw [f3' 2 _ (by decide)]; exact k2 _ k k7 k9 k11, by rw [fr3 26 1 (by decide) (by decide)]; exact p1.2.2.1, p1.2.2.2⟩
      have S3 : SPs A (nP A) (pre ++ [s]) h3 := fun p hp => ⟨by rw [fr3 32 0 (by decide) (by decide)]; exact (S1 p hp).1, CZ_co (S1 p hp).2 (fr3 39 _ (by decide) (by decide)) (fr3 8 _ (by decide) (by decide))⟩
      have tin : ∀ t, t ∈ pre ++ [s] → t ∈ PLn A pre := fun t ht => by
        rcases List.mem_append.mp ht with w | w
        · exact (P.2.2.2.2.1 t).mp (List.mem_append.mpr (Or.inl w))
        · rw [List.mem_singleton.mp w]; exact sL
      have D3 : DN A (PLn A pre) (pre ++ [s]) h3 := fun t ht => by
        rw [f3' 2 _ (by decide), f3' 25 _ (by decide)]
        rcases List.mem_append.mp ht with w | w
        · rw [f2 2 _ (fun q => nix t w q.2), f2 25 _ (fun q => nix t w q.2), f1 2 _ (by decide) (by decide) (by decide), f1 25 _ (by decide) (by decide) (by decide)]
          exact O t w
        · rw [List.mem_singleton.mp w]
          exact ⟨q7, q11, row2⟩
      have e' : sod A = (pre ++ [s]) ++ rest := by rw [e]; simp
      have hl' := PL_len hY hs e'
      have nd' := PL_nd hY hs e'
      have mm' := fun f (hf : f ∈ PLn A (pre ++ [s])) => PL_mem hY hs e' hf
      rw [PLn_snoc] at hl' nd' mm'
      have d13 : h3 1 1 3 = nI (wAt A.1 (pa A s) (pof A (pa A s) pre) s).2.2.2.2.1.length := by rw [fr3 1 1 (by decide) (by decide)]; exact z1.2.2.2.2.1.1
      have d14 : h3 1 1 4 = (rp A.1 (pa A s) (pof A (pa A s) pre)).2.2 := by rw [fr3 1 1 (by decide) (by decide)]; exact q4
      have d21 : LSq (h3 21 1) 0 ((wAt A.1 (pa A s) (pof A (pa A s) pre) s).2.2.2.2.1.map fun q => q.1) := by rw [fr3 21 1 (by decide) (by decide)]; exact z1.2.2.2.2.1.2.1
      have d22 : LSq (h3 22 1) 0 ((wAt A.1 (pa A s) (pof A (pa A s) pre) s).2.2.2.2.1.map fun q => q.2.1) := by rw [fr3 22 1 (by decide) (by decide)]; exact z1.2.2.2.2.1.2.2.1
      have d23 : LSq (h3 23 1) 0 ((wAt A.1 (pa A s) (pof A (pa A s) pre) s).2.2.2.2.1.map fun q => q.2.2) := by rw [fr3 23 1 (by decide) (by decide)]; exact z1.2.2.2.2.1.2.2.2
      have sl := SNT_len r3
      have s8 := (hY.2.1 s).2
      generalize (wAt A.1 (pa A s) (pof A (pa A s) pre) s).2.2.2.2.1 = outs at d13 d21 d22 d23 sl r3
      have loop2 : ∀ (os o1 : List (Int32 × Int32 × Int32)) (Sr N2 M2 : List Int32) (h4 : HP), outs = o1 ++ os → se A s = N2 ++ Sr → N2.length = o1.length → SNT A.1 (pa A s) (A.1 55 s) ((rp A.1 (pa A s) (pof A (pa A s) pre)).2.2 + nI N2.length) Sr os → ag sC h0 h4 → RC A [] (Zst A) od h4 → (∀ f y, ¬ f = 0 → ¬ f = 2 → ¬ f = 12 → ¬ f = 25 → ¬ f = 3 → ¬ f = 26 → ¬ f = 33 → h4 f y = h3 f y) → PN A (PLn A pre ++ N2) (pre ++ s :: M2) h4 → (∀ t, t ∈ PLn A pre → h4 2 (ixP (PLn A pre) t) = h3 2 (ixP (PLn A pre) t) ∧ h4 25 (ixP (PLn A pre) t) = h3 25 (ixP (PLn A pre) t)) →
          WPc 25 125 [(5, 0), (2, v), (40, 0), (0, nP A), (0, nI pre.length), (2, ixP (PLn A pre) s), (0, nI N2.length)] [] h4 Q := by
        intro os
        induction os with
        | nil =>
          intro o1 Sr N2 M2 h4 eo es ln sn ag4 R4 fr4 P4 D4
          cases Sr with
          | cons f Sr => exact absurd sn (by simp [SNT])
          | nil =>
            rw [List.append_nil] at eo es
            have a13 : h4 1 1 3 = nI N2.length := by rw [fr4 1 1 (by decide) (by decide) (by decide) (by decide) (by decide) (by decide) (by decide), d13, eo, ← ln]
            refine b25_125 _ _ _ _ _ h4 Q ⟨fun _ => ?_, fun z => absurd (by rw [a13]; exact Int32.le_refl _) z⟩
            have := ih (pre ++ [s]) M2 h4 e' ag4 R4 (by rw [PLn_snoc, es]; simpa using P4) (fun p hp => ⟨by rw [fr4 32 0 (by decide) (by decide) (by decide) (by decide) (by decide) (by decide) (by decide)]; exact (S3 p hp).1, CZ_co (S3 p hp).2 (fr4 39 _ (by decide) (by decide) (by decide) (by decide) (by decide) (by decide) (by decide)) (fr4 8 _ (by decide) (by decide) (by decide) (by decide) (by decide) (by decide) (by decide))⟩) (fun t ht => by
              have tl := tin t ht
              rw [PLn_snoc, show ixP (PLn A pre ++ se A s) t = ixP (PLn A pre) t by unfold ixP; rw [ixN_app _ tl], (D4 t tl).1, (D4 t tl).2]
              exact D3 t ht)
              (by rw [fr4 5 0 (by decide) (by decide) (by decide) (by decide) (by decide) (by decide) (by decide)]; exact c4) (by rw [fr4 5 0 (by decide) (by decide) (by decide) (by decide) (by decide) (by decide) (by decide)]; exact c5) (by rw [fr4 5 0 (by decide) (by decide) (by decide) (by decide) (by decide) (by decide) (by decide)]; exact c6)
            rw [List.length_append] at this
            rw [← nJ_s]; exact this
        | cons o os ih2 =>
          intro o1 Sr N2 M2 h4 eo es ln sn ag4 R4 fr4 P4 D4
          cases Sr with
          | nil => exact absurd sn (by simp [SNT])
          | cons f Sr =>
            obtain ⟨⟨b1, b2, b3, b4, b5, b6⟩, sn'⟩ := sn
            have fr := fun f y a1 a2 a3 a4 a5 a6 a7 => congrFun (fr4 f y a1 a2 a3 a4 a5 a6 a7)
            have n8 : N2.length < 8 := by rw [es] at s8; simp at s8; omega
            have i8' : ina (nI N2.length) 8 := ⟨nJ_nn (by omega), (nJ_lt (b := 8) (by omega) (by omega)).mpr n8⟩
            have v21 : h4 21 1 (nI N2.length) = o.1 := by
              rw [fr4 21 1 (by decide) (by decide) (by decide) (by decide) (by decide) (by decide) (by decide)]
              have := d21
              rw [eo, List.map_append] at this
              have := (LSq_app.mp this).2.1
              rwa [Int32.zero_add, List.length_map, ← ln] at this
            have v22 : h4 22 1 (nI N2.length) = o.2.1 := by
              rw [fr4 22 1 (by decide) (by decide) (by decide) (by decide) (by decide) (by decide) (by decide)]
              have := d22
              rw [eo, List.map_append] at this
              have := (LSq_app.mp this).2.1
              rwa [Int32.zero_add, List.length_map, ← ln] at this
            have v23 : h4 23 1 (nI N2.length) = o.2.2 := by
              rw [fr4 23 1 (by decide) (by decide) (by decide) (by decide) (by decide) (by decide) (by decide)]
              have := d23
              rw [eo, List.map_append] at this
              have := (LSq_app.mp this).2.1
              rwa [Int32.zero_add, List.length_map, ← ln] at this
            have a13 : h4 1 1 3 = nI (N2.length + (os.length + 1)) := by
              rw [fr4 1 1 (by decide) (by decide) (by decide) (by decide) (by decide) (by decide) (by decide), d13, eo, ln, List.length_append, List.length_cons]
            have a14 : h4 1 1 4 = (rp A.1 (pa A s) (pof A (pa A s) pre)).2.2 := by
              rw [fr4 1 1 (by decide) (by decide) (by decide) (by decide) (by decide) (by decide) (by decide), d14]
            have ixs : ixP (PLn A pre ++ N2) s = ixP (PLn A pre) s := by unfold ixP; rw [ixN_app _ sL]
            have pe4 := P4.2.1 s (List.mem_append.mpr (Or.inl sL))
            rw [ixs] at pe4
            have fin : f ∈ PLn A pre ++ se A s := by rw [es]; simp
            have nfL : ¬ f ∈ PLn A pre ++ N2 := fun q => by
              have nd := nd'
              rw [es, ← List.append_assoc] at nd
              exact (List.nodup_append.mp nd).2.2 f q f (by simp) rfl
            have hk : ∀ y, y ∈ PLn A pre ++ N2 → ¬ keq A.1 f y := fun y hy q => by
              have yin : y ∈ PLn A pre ++ se A s := by
                rcases List.mem_append.mp hy with w | w
                · exact List.mem_append.mpr (Or.inl w)
                · rw [es]; exact List.mem_append.mpr (Or.inr (List.mem_append.mpr (Or.inl w)))
              have := lv_uq hI (mm' f fin).1 (mm' y yin).1 (mm' f fin).2 (mm' y yin).2 q
              rw [← this] at hy
              exact nfL hy
            have hlt : (PLn A pre ++ N2).length < 400 := by
              rw [es] at hl'
              simp at hl' ⊢
              omega
            have ksf : klt A.1 s f := (J3 hI (hI.2.1.2.1 s sS.1 sS.2.1) (f := f) (by rw [es]; simp)).2.2.2
            refine b25_125 _ _ _ _ _ h4 Q ⟨fun z => ?_, fun _ => ⟨i8', i8', xn, xn, i8', ?_⟩⟩
            · rw [a13, nJ_le (by have := sl; rw [eo, es] at this; simp at this; rw [es] at s8; simp at s8; omega) (by omega)] at z
              exfalso; omega
            · rw [v21, v22, v23, pe4.1.1, pe4.2.1, a14, ← b1, ← b2, ← b6, ← b5]
              have b3' : A.1 55 s = A.1 56 f := b3.symm
              have b4' : pa A s = A.1 57 f := b4.symm
              have call := s_plAdd A od (PLn A pre ++ N2) (pre ++ s :: M2) f h4 (fun w h' => WPc 25 191 [(5, 0), (2, v), (40, 0), (0, nP A), (0, nI pre.length), (2, ixP (PLn A pre) s), (0, nI N2.length)] (w.toList ++ []) h' Q) hI R4 hlt nfL hk P4 fun N1 N3 h5 eN k1 k2 ag5 R5 fr5 P5 D5 => b25_191 _ _ _ _ _ h5 Q ?_
              · rw [← b3', ← b4'] at call
                exact call
              · obtain ⟨M1, m1, m2⟩ := ap_split eN fun q => klt_irr (klt_tr ksf (k2 s q))
                have nx := ih2 (o1 ++ [o]) Sr (N2 ++ [f]) (M1 ++ f :: N3) h5 (by rw [eo]; simp) (by rw [es]; simp) (by rw [List.length_append, List.length_append, ln]; rfl) (by
                  rw [List.length_append, List.length_singleton, nJ_s]
                  rw [Int32.add_assoc] at sn'
                  exact sn') (ag_tr ag4 ag5) R5 (fun f y a1 a2 a3 a4 a5 a6 a7 => (fr5 f y a1 a2 a3 a4 a5 a6 a7).trans (fr4 f y a1 a2 a3 a4 a5 a6 a7)) (by
                  rw [m1] at P5
                  rw [← List.append_assoc]
                  simpa using P5) (fun t ht => by
                  have d := D5 t (List.mem_append.mpr (Or.inl ht))
                  rw [show ixP (PLn A pre ++ N2) t = ixP (PLn A pre) t by unfold ixP; rw [ixN_app _ ht]] at d
                  exact ⟨d.1.trans (D4 t ht).1, d.2.trans (D4 t ht).2⟩)
                rw [List.length_append] at nx
                rw [← nJ_s]; exact nx
      have := loop2 outs [] (se A s) [] M h3 rfl rfl rfl (by rw [List.length_nil, nJ_0, Int32.add_zero]; exact r3) ag3 R3 (fun _ _ _ _ _ _ _ _ _ => rfl) (by rw [List.append_nil]; exact P3) (fun _ _ => ⟨rfl, rfl⟩)
      exact this
    have e4 : h2 5 0 4 = nI pre.length := by rw [f2 5 0 (by simp)]; exact e4'
    have e5 : h2 5 0 5 = nI (pre.filter (fld A)).length := by rw [f2 5 0 (by simp)]; exact e5'
    have e6 : h2 5 0 6 = 0 := by rw [f2 5 0 (by simp)]; exact e6'
    rw [q9, e4, e5]
    refine ⟨fun z => cont _ (agw_up agw_rf rfl (by decide)) ?_ ?_ ?_, fun z => cont _ (agw_up (agw_up agw_rf rfl (by decide)) rfl (by decide)) ?_ ?_ ?_⟩
    · rw [up_at, List.length_append]; exact (nJ_s _).symm
    · rw [up_n (by simp), e5, List.filter_append, List.filter_cons_of_neg (by simp [fld, z]), List.filter_nil, List.append_nil]
    · rw [up_n (by simp)]; exact e6
    · rw [up_n (by simp), up_at, List.length_append]; exact (nJ_s _).symm
    · rw [up_at, List.filter_append, List.filter_cons_of_pos (by simp [fld, z]), List.filter_nil, List.length_append]; exact (nJ_s _).symm
    · rw [up_n (by simp), up_n (by simp)]; exact e6
