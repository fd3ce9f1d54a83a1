/-! 72: the class: states, keys, order, posts -/
theorem s_copyL (s t : Int32) (z : ZT) (Q : Option AV → HP → Prop) (h0 : HP) (hs : ¬ s = -1) (ht : ¬ t = -1) (hst : ¬ t = s) (hz : CZ z t h0) (H : ∀ h', agw (wS s) h0 h' → CZ z s h' → Q none h') : ∀ (m c : Nat) (h : HP), c + m = 4 → agw (wS s) h0 h → (∀ i : Nat, i < c → h 39 s (nI i) = z.1 (nI i)) → WPc 34 2 [(8, s), (8, t), (0, nI c)] [] h Q := by
  intro m
  induction m with
  | zero =>
    intro c h e g hc
    have ec : c = 4 := by omega
    subst ec
    have r8 : h 8 t = h0 8 t := agw_row g fun q => hst q.2
    refine b34_2 _ _ _ h Q ⟨fun _ => ⟨ht, hs, ht, hs, ?_⟩, fun z => absurd (by decide) z⟩
    refine H _ (agw_up (agw_up g ⟨Or.inr rfl, rfl⟩ (by decide)) ⟨Or.inr rfl, rfl⟩ (by decide)) ⟨fun i hi => ?_, ?_, ?_⟩
    · rw [upfam (by decide), upfam (by decide)]
      obtain ⟨n, rfl, hn⟩ := ina4 hi
      exact hc n hn
    · rw [up_n (by simp), up_at, r8]; exact hz.2.1
    · rw [up_at, up_n (fun q => hst q.2.1), r8]; exact hz.2.2
  | succ m ih =>
    intro c h e g hc
    have hc4 : c < 4 := by omega
    have ic : ina (nI c) 4 := ⟨nJ_nn (by omega), (nJ_lt (b := 4) (by omega) (by omega)).mpr hc4⟩
    have r39 : h 39 t = h0 39 t := agw_row g fun q => hst q.2
    refine b34_2 _ _ _ h Q ⟨fun z => ?_, fun _ => ⟨hs, ht, ic, ic, ?_⟩⟩
    · exfalso
      have := ic.2
      grind
    · rw [← nJ_s, r39, hz.1 _ ic]
      refine ih (c + 1) _ (by omega) (agw_up g ⟨Or.inl rfl, rfl⟩ (ina_n1 ic)) fun i hi => ?_
      rw [uprow]
      by_cases y : i = c
      · subst y; exact vpd_eq _ _ _
      · rw [vpd_ne _ _ (fun q => y (nJ_inj (by omega) (by omega) q))]
        exact hc i (by omega)
theorem s_copy (s t : Int32) (z : ZT) (h : HP) (Q : Option AV → HP → Prop) (hs : ¬ s = -1) (ht : ¬ t = -1) (hst : ¬ t = s) (hz : CZ z t h) (H : ∀ h', agw (wS s) h h' → CZ z s h' → Q none h') : WPm 34 [(8, s), (8, t)] h Q :=
  b34_0 _ _ h Q (s_copyL s t z Q h hs ht hst hz H 4 0 h (by omega) agw_rf fun i hi => by omega)
theorem s_icmp (x y : Int32) (h : HP) (Q : Option AV → HP → Prop) (H1 : x < y → Q (some (0, -1)) h) (H0 : x = y → Q (some (0, 0)) h) (H2 : y < x → Q (some (0, 1)) h) : WPm 149 [(0, x), (0, y)] h Q :=
  b149_0 _ _ h Q ⟨fun z => ⟨fun z2 => H2 (by grind), fun z2 => H0 z2⟩, fun z => H1 (by grind)⟩
/-- an event's key, in the class's heap -/
def KY (a : AT) (e x : Int32) (h : HP) : Prop := h 2 x 2 = a 55 e ∧ h 2 x 3 = a 56 e ∧ h 2 x 4 = a 57 e ∧ h 2 x 5 = a 58 e
theorem s_cmpKeys (a : AT) (e f x y : Int32) (h : HP) (Q : Option AV → HP → Prop) (hx : ¬ x = -1) (hy : ¬ y = -1) (ke : KY a e x h) (kf : KY a f y h) (H1 : klt a e f → Q (some (0, -1)) h) (H0 : keq a e f → Q (some (0, 0)) h) (H2 : klt a f e → Q (some (0, 1)) h) : WPm 15 [(2, x), (2, y)] h Q := by
  refine b15_0 _ _ h Q ?_
  rw [ke.1, ke.2.1, ke.2.2.1, ke.2.2.2, kf.1, kf.2.1, kf.2.2.1, kf.2.2.2]
  unfold klt at H1 H2
  unfold keq at H0
  refine ⟨hx, hy, fun a1 => ⟨hx, hy, fun a2 => ⟨hx, hy, fun a3 => ⟨hx, hy, s_icmp _ _ _ _ (fun z => b15_80 _ _ _ h Q (H1 ?_)) (fun z => b15_80 _ _ _ h Q (H0 ?_)) (fun z => b15_80 _ _ _ h Q (H2 ?_))⟩, fun a3 => ⟨hx, hy, s_icmp _ _ _ _ (fun z => b15_68 _ _ _ h Q (H1 ?_)) (fun z => absurd z a3) (fun z => b15_68 _ _ _ h Q (H2 ?_))⟩⟩, fun a2 => ⟨hx, hy, s_icmp _ _ _ _ (fun z => b15_45 _ _ _ h Q (H1 ?_)) (fun z => absurd z a2) (fun z => b15_45 _ _ _ h Q (H2 ?_))⟩⟩, fun a1 => ⟨hx, hy, s_icmp _ _ _ _ (fun z => b15_22 _ _ _ h Q (H1 ?_)) (fun z => absurd z a1) (fun z => b15_22 _ _ _ h Q (H2 ?_))⟩⟩
  all_goals grind
theorem s_isBelowC (a : AT) (e f x y : Int32) (h : HP) (Q : Option AV → HP → Prop) (hx : ¬ x = -1) (ke : KY a e x h) (kf : ¬ y = -1 → KY a f y h) (H1 : (y = -1 ∨ klt a e f) → Q (some (0, 1)) h) (H0 : ¬ (y = -1 ∨ klt a e f) → Q (some (0, 0)) h) : WPm 14 [(2, x), (2, y)] h Q := by
  refine b14_0 _ _ h Q ⟨fun z => ⟨Or.inr rfl, H1 (Or.inl z)⟩, fun z => ⟨hx, ?_⟩⟩
  refine s_cmpKeys a e f x y h _ hx z ke (kf z) (fun q => b14_9 _ _ _ h Q ⟨fun y => absurd y (by decide), fun _ => ⟨Or.inr rfl, H1 (Or.inr q)⟩⟩) (fun q => b14_9 _ _ _ h Q ⟨fun _ => ⟨Or.inl rfl, H0 ?_⟩, fun y => absurd (by decide) y⟩) (fun q => b14_9 _ _ _ h Q ⟨fun _ => ⟨Or.inl rfl, H0 ?_⟩, fun y => absurd (by decide) y⟩)
  · rintro (w | w)
    · exact z w
    · exact klt_irr (klt_keq w (keq_sy q))
  · rintro (w | w)
    · exact z w
    · exact klt_irr (klt_tr q w)
/-- insertion into an order o: x is the new one's index, with key e; the row's events by their keys -/
theorem s_insert (a : AT) (o e x : Int32) (L : List Int32) (kf : Int32 → Int32) (h0 : HP) (Q : Option AV → HP → Prop) (hl : L.length < 400) (h3 : h0 3 o 1 = nI L.length) (row : LSq (h0 26 o) 0 L) (hx : ¬ x = -1) (hL : ∀ y, y ∈ L → ¬ y = -1 ∧ KY a (kf y) y h0) (ke : KY a e x h0)
    (hp : L.Pairwise fun u v => ¬ klt a (kf v) (kf u))
    (H : ∀ L1 L2 h', L = L1 ++ L2 → (∀ y, y ∈ L1 → ¬ klt a e (kf y)) → (∀ y, y ∈ L2 → klt a e (kf y)) → agw (fun f y => (f = 26 ∨ f = 3) ∧ y = o) h0 h' → h' 3 o 1 = nI (L.length + 1) → LSq (h' 26 o) 0 (L1 ++ x :: L2) → Q none h') : WPm 17 [(3, o), (2, x)] h0 Q := by
  have fin : ∀ (L1 L2 : List Int32) (g : Int32) (h : HP), L = L1 ++ L2 → (∀ y, y ∈ L1 → ¬ klt a e (kf y)) → (∀ y, y ∈ L2 → klt a e (kf y)) → LSq (h 26 o) 0 (L1 ++ g :: L2) → agw (fun f y => f = 26 ∧ y = o) h0 h →
      (ina (nI L1.length) 400 ∧ (¬ x = -1 ∧ Q none (up (up h 26 o (nI L1.length) x) 3 o 1 ((h 3 o 1) + 1)))) := fun L1 L2 g h eL h1 h2 row g0 => by
    have l12 : L1.length + L2.length < 400 := by rw [eL] at hl; simpa using hl
    have e3 : h 3 o = h0 3 o := agw_row g0 fun q => absurd q.1 (by decide)
    refine ⟨⟨nJ_nn (by omega), (nJ_lt (b := 400) (by omega) (by omega)).mpr (by omega)⟩, hx, H L1 L2 _ eL h1 h2 (agw_up (agw_up (agw_mono g0 fun f y q => ⟨Or.inl q.1, q.2⟩) ⟨Or.inl rfl, rfl⟩ (nI_n1 (by omega))) ⟨Or.inr rfl, rfl⟩ (by decide)) ?_ ?_⟩
    · rw [up_at, e3, h3, nJ_s]
    · rw [upfam (by decide), uprow]
      have r := LSq_app.mp row
      rw [Int32.zero_add] at r
      refine LSq_app.mpr ⟨LSq_congr (fun k hk => vpd_ne _ _ fun z => ?_) r.1, ?_, LSq_congr (fun k hk => vpd_ne _ _ fun z => ?_) ?_⟩
      · rw [Int32.zero_add] at z
        have := nJ_inj (by omega) (by omega) z
        omega
      · rw [Int32.zero_add]; exact vpd_eq _ _ _
      · rw [Int32.zero_add] at z
        have e2 : nI (L1.length + (1 + k)) = nI L1.length := by
          rw [nJ_add, nJ_add, nJ_1, ← z]; grind
        have := nJ_inj (by omega) (by omega) e2
        omega
      · rw [Int32.zero_add]; exact r.2.2
  have loop : ∀ (m : Nat) (L1 L2 : List Int32) (g : Int32) (h : HP), L1.length = m → L = L1 ++ L2 → (∀ y, y ∈ L2 → klt a e (kf y)) → LSq (h 26 o) 0 (L1 ++ g :: L2) → agw (fun f y => f = 26 ∧ y = o) h0 h → WPc 17 16 [(3, o), (2, x), (0, nI m)] [] h Q := by
    intro m
    induction m with
    | zero =>
      intro L1 L2 g h hl1 eL h2 row g0
      have : L1 = [] := List.eq_nil_of_length_eq_zero hl1
      subst this
      exact b17_16 _ _ _ h Q ⟨fun _ => fin [] L2 g h eL (fun y hy => by cases hy) h2 row g0, fun z => absurd (by decide) z⟩
    | succ m ih =>
      intro L1 L2 g h hl1 eL h2 row g0
      obtain ⟨u, d, rfl⟩ : ∃ u d, L1 = u ++ [d] := by
        rcases snocC L1 with q | ⟨u, f, q⟩
        · rw [q] at hl1; simp at hl1
        · exact ⟨u, f, q⟩
      have hu : u.length = m := by simpa using hl1
      have hd := hL d (by rw [eL]; simp)
      have l12 : m + 1 + L2.length < 400 := by rw [eL] at hl; simp at hl; omega
      have r1 := LSq_app.mp row
      have r2 := LSq_app.mp r1.1
      rw [Int32.zero_add] at r2
      have val : h 26 o (nI m) = d := by rw [← hu]; exact r2.2.1
      have im : ina (nI m) 400 := ⟨nJ_nn (by omega), (nJ_lt (b := 400) (by omega) (by omega)).mpr (by omega)⟩
      have im1 : ina (nI (m + 1)) 400 := ⟨nJ_nn (by omega), (nJ_lt (b := 400) (by omega) (by omega)).mpr (by omega)⟩
      have ky : ∀ e y, KY a e y h0 → KY a e y h := fun e y q => by
        unfold KY
        rw [agw_row g0 (f := 2) (x := y) (fun q => absurd q.1 (by decide))]; exact q
      refine b17_16 _ _ _ h Q ⟨fun z => ?_, fun _ => ?_⟩
      · have : nI 0 < nI (m + 1) := (nJ_lt (by omega) (by omega)).mpr (by omega)
        rw [nJ_0] at this
        exfalso; grind
      · rw [nIm1, val]
        have stop : ¬ klt a e (kf d) → ∀ y0 : Int32, y0 ≤ 0 → WPc 17 32 [(3, o), (2, x), (0, nI (m + 1))] [(0, y0)] h Q := fun b y0 hy => by
          have q := fin (u ++ [d]) L2 g h eL (fun w hw => ?_) h2 row g0
          · rw [hl1] at q
            exact b17_32 _ _ _ _ h Q ⟨fun _ => q, fun z => absurd hy z⟩
          · rcases List.mem_append.mp hw with hw | hw
            · intro q
              rw [eL] at hp
              have := (List.pairwise_append.mp (List.pairwise_append.mp hp).1).2.2 w hw d (by simp)
              rcases klt_tot (a := a) (e := kf w) (f := kf d) with z | z | z
              · exact b (klt_tr q z)
              · exact b (klt_keq q z)
              · exact this z
            · rw [List.mem_singleton] at hw
              rw [hw]; exact b
        refine ⟨im, hd.1, s_cmpKeys a (kf d) e d x h _ hd.1 hx (ky _ _ hd.2) (ky _ _ ke) (fun b => stop (fun q => klt_irr (klt_tr b q)) _ (by decide)) (fun b => stop (fun q => klt_irr (klt_keq q b)) _ (by decide)) (fun b => b17_32 _ _ _ _ h Q ⟨fun z => absurd z (by decide), fun _ => ?_⟩)⟩
        rw [nIm1, val, show nI (m + 1) + (-1) = nI m by rw [nJ_s]; grind]
        refine ⟨im, im1, hd.1, ih u (d :: L2) d _ hu (by rw [eL]; simp) (fun w hw => ?_) ?_ (agw_up g0 ⟨rfl, rfl⟩ (ina_n1 im1))⟩
        · rcases List.mem_cons.mp hw with rfl | hw
          · exact b
          · exact h2 w hw
        · rw [uprow]
          rw [Int32.zero_add, hl1] at r1
          refine LSq_app.mpr ⟨LSq_congr (fun k hk => vpd_ne _ _ fun z => ?_) r2.1, ?_, ?_, LSq_congr (fun k hk => vpd_ne _ _ fun z => ?_) ?_⟩
          · rw [Int32.zero_add] at z
            have := nJ_inj (by omega) (by omega) z
            omega
          · rw [Int32.zero_add, hu, vpd_ne _ _ (fun z => by have := nJ_inj (by omega) (by omega) z; omega)]; exact val
          · rw [Int32.zero_add, hu, ← nJ_s]; exact vpd_eq _ _ _
          · rw [Int32.zero_add, hu] at z
            have e2 : nI (m + 1 + (1 + k)) = nI (m + 1) := by
              rw [nJ_add (m + 1), nJ_add 1, nJ_1, nJ_s] at *
              grind
            have := nJ_inj (by omega) (by omega) e2
            omega
          · rw [Int32.zero_add, hu]
            have := r1.2.2
            rw [nJ_s] at this; exact this
  refine b17_0 _ _ h0 Q ⟨fun _ => ?_, fun z => absurd ?_ z⟩
  · rw [h3]
    exact loop L.length L [] (h0 26 o (nI L.length)) h0 rfl (by simp) (fun y hy => by cases hy) (LSq_app.mpr ⟨row, by rw [Int32.zero_add], trivial⟩) agw_rf
  · rw [h3]; exact (nJ_lt (b := 400) (by omega) (by omega)).mpr hl
/-- the place of an event in an order -/
theorem s_placeOf (o x : Int32) (L1 L2 : List Int32) (h : HP) (Q : Option AV → HP → Prop) (hl : (L1 ++ x :: L2).length ≤ 400) (h3 : h 3 o 1 = nI (L1 ++ x :: L2).length) (row : LSq (h 26 o) 0 (L1 ++ x :: L2)) (nx : ∀ y, y ∈ L2 → ¬ y = x) (H : Q (some (0, nI L1.length)) h) : WPm 18 [(3, o), (2, x)] h Q := by
  have done : ∀ k : Nat, k = L1.length → Q (some (0, if nI k < 0 then 0 else nI k)) h := fun k hk => by
    have : ¬ nI k < 0 := by
      have := nJ_nn (n := k) (by rw [hk]; simp at hl; omega)
      grind
    rw [if_neg this, hk]; exact H
  have loop : ∀ (m : Nat) (M1 M2 : List Int32), M1.length = m → L2 = M1 ++ M2 → WPc 18 7 [(3, o), (2, x), (0, nI (L1.length + m))] [] h Q := by
    intro m
    induction m with
    | zero =>
      intro M1 M2 hm e
      have val : h 26 o (nI L1.length) = x := by
        have := (LSq_app.mp row).2.1
        rwa [Int32.zero_add] at this
      have i4 : ina (nI L1.length) 400 := ⟨nJ_nn (by simp at hl; omega), (nJ_lt (b := 400) (by simp at hl; omega) (by omega)).mpr (by simp at hl; omega)⟩
      rw [Nat.add_zero]
      refine b18_7 _ _ _ h Q ⟨fun _ => ⟨by decide, done _ rfl⟩, fun _ => ⟨i4, fun _ => ⟨by decide, done _ rfl⟩, fun z => absurd val z⟩⟩
    | succ m ih =>
      intro M1 M2 hm e
      obtain ⟨u, d, rfl⟩ : ∃ u d, M1 = u ++ [d] := by
        rcases snocC M1 with q | ⟨u, f, q⟩
        · rw [q] at hm; simp at hm
        · exact ⟨u, f, q⟩
      have hu : u.length = m := by simpa using hm
      have lb : L1.length + (m + 1) < 400 := by rw [e] at hl; simp at hl; omega
      have val : h 26 o (nI (L1.length + (m + 1))) = d := by
        have r := row
        rw [e, show L1 ++ x :: (u ++ [d] ++ M2) = (L1 ++ x :: u) ++ (d :: M2) by simp] at r
        have := (LSq_app.mp r).2.1
        rw [Int32.zero_add, List.length_append, List.length_cons, hu] at this
        exact this
      have i4 : ina (nI (L1.length + (m + 1))) 400 := ⟨nJ_nn (by omega), (nJ_lt (b := 400) (by omega) (by omega)).mpr (by omega)⟩
      refine b18_7 _ _ _ h Q ⟨fun z => ?_, fun _ => ⟨i4, fun z => ?_, fun _ => ?_⟩⟩
      · have : nI 0 < nI (L1.length + (m + 1)) := (nJ_lt (by omega) (by omega)).mpr (by omega)
        rw [nJ_0] at this
        exfalso; grind
      · rw [val] at z
        exact absurd z (nx d (by rw [e]; simp))
      · rw [show nI (L1.length + (m + 1)) + (-1) = nI (L1.length + m) by rw [← Nat.add_assoc, nJ_s]; grind]
        exact ih u (d :: M2) hu (by rw [e]; simp)
  refine b18_0 _ _ h Q ?_
  rw [h3, show nI (L1 ++ x :: L2).length - 1 = nI (L1.length + L2.length) by rw [List.length_append, List.length_cons, ← Nat.add_assoc, nIm1]]
  exact loop L2.length L2 [] rfl (by simp)
def bN (b : Bool) : Int32 := if b then 1 else 0
/-- posts o hold the list P -/
def CPs (o : Int32) (P : List PT) (h : HP) : Prop := h 6 o 2 = nI P.length ∧ LSq (h 34 o) 0 (P.map fun q => q.1) ∧ LSq (h 35 o) 0 (P.map fun q => bN q.2)
def wPo (o : Int32) (f : Nat) (x : Int32) : Prop := (f = 6 ∨ f = 34 ∨ f = 35) ∧ x = o
theorem CPs_co {o : Int32} {P : List PT} {h h' : HP} (H : CPs o P h) (e : ∀ f, f = 6 ∨ f = 34 ∨ f = 35 → h' f o = h f o) : CPs o P h' := by
  unfold CPs
  rw [e 6 (by omega), e 34 (by omega), e 35 (by omega)]; exact H
theorem bN01 (b : Bool) : bN b = 0 ∨ bN b = 1 := by cases b; exact Or.inl rfl; exact Or.inr rfl
theorem s_pAdd (o e : Int32) (b : Bool) (P : List PT) (h : HP) (Q : Option AV → HP → Prop) (hP : CPs o P h) (hl : P.length < 800) (he : ¬ e = -1) (H : ∀ h', agw (wPo o) h h' → CPs o (P ++ [(e, b)]) h' → Q none h') : WPm 27 [(6, o), (2, e), (0, bN b)] h Q := by
  have i8 : ina (nI P.length) 800 := ⟨nJ_nn (by omega), (nJ_lt (b := 800) (by omega) (by omega)).mpr hl⟩
  refine b27_0 _ _ _ h Q ?_
  rw [hP.1]
  refine ⟨fun _ => ⟨i8, he, i8, bN01 b, H _ (agw_up (agw_up (agw_up agw_rf ⟨Or.inr (Or.inl rfl), rfl⟩ (ina_n1 i8)) ⟨Or.inr (Or.inr rfl), rfl⟩ (ina_n1 i8)) ⟨Or.inl rfl, rfl⟩ (by decide)) ⟨?_, ?_, ?_⟩⟩, fun z => absurd i8.2 z⟩
  · rw [up_at, List.length_append]; exact (nJ_s _).symm
  · rw [upfam (by decide), upfam (by decide), uprow, List.map_append]
    have := LSq_snoc (v := e) (by rw [List.length_map]; omega) hP.2.1
    rwa [Int32.zero_add, List.length_map] at this
  · rw [upfam (by decide), uprow, upfam (by decide), List.map_append]
    have := LSq_snoc (v := bN b) (by rw [List.length_map]; omega) hP.2.2
    rwa [Int32.zero_add, List.length_map] at this
