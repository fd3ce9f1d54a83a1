/-! 97: the class: what is out -/
def plX (f : Nat) (x : Int32) : Prop := f = 0 ∨ f = 1 ∨ f = 5 ∨ f = 7 ∨ (10 ≤ f ∧ f ≤ 24) ∨ (36 ≤ f ∧ f ≤ 38) ∨ f = 32 ∨ f = 33 ∨ 42 ≤ f ∨ ((f = 3 ∨ f = 26) ∧ ¬ x = 0) ∨ ((f = 8 ∨ f = 39) ∧ 12 ≤ x ∧ x < 100) ∨ ((f = 2 ∨ f = 25) ∧ 400 ≤ x)
theorem ar_26 {p e n : Int32} (hn : n ≤ 400) : (ina p 12 → ¬ 12 ≤ p) ∧ (ina e n → ¬ 100 + e < 100 ∧ ¬ 400 ≤ e) := by unfold ina; grind
/-- what leaves all that the class holds of the yard -/
theorem RC_fr {A : SY} {T : List Int32} {Z : Int32 → ZT} {od : List Int32} {h h' : HP} (hP : nP A ≤ 12) (R : RC A T Z od h) (fr : ∀ f x, ¬ plX f x → h' f x = h f x) (F : FR A h') : RC A T Z od h' := by
  obtain ⟨g1, g2, g3, g4, g5, ⟨g6, g6'⟩, g7⟩ := R
  have hn := CO_4 g5
  have fd : ∀ f x, ¬ f = 0 → ¬ f = 1 → ¬ f = 5 → ¬ f = 7 → ¬ (10 ≤ f ∧ f ≤ 24) → ¬ (36 ≤ f ∧ f ≤ 38) → ¬ f = 32 → ¬ f = 33 → ¬ 42 ≤ f → ¬ (f = 3 ∨ f = 26) → ¬ (f = 8 ∨ f = 39) → ¬ (f = 2 ∨ f = 25) → h' f x = h f x := fun f x a1 a2 a3 a4 a5 a6 a7 a8 a9 b1 b2 b3 => fr f x fun q => by unfold plX at q; omega
  have f12 : ∀ f p, (f = 8 ∨ f = 39) → ina p 12 → h' f p = h f p := fun f p hf hp => fr f p fun q => by
    have := (ar_26 (e := p) (n := 400) (by decide)).1 hp
    unfold plX at q
    rcases q with q | q | q | q | q | q | q | q | q | q | q | q
    all_goals first | omega | exact this q.2.1
  have f100 : ∀ f e, (f = 8 ∨ f = 39) → ina e (nE A) → h' f (100 + e) = h f (100 + e) := fun f e hf he => fr f _ fun q => by
    have := ((ar_26 (p := 0) hn).2 he).1
    unfold plX at q
    rcases q with q | q | q | q | q | q | q | q | q | q | q | q
    all_goals first | omega | exact this q.2.2
  have f400 : ∀ f e, (f = 2 ∨ f = 25) → ina e (nE A) → h' f e = h f e := fun f e hf he => fr f _ fun q => by
    have := ((ar_26 (p := 0) hn).2 he).2
    unfold plX at q
    rcases q with q | q | q | q | q | q | q | q | q | q | q | q
    all_goals first | omega | exact this q.2
  have f0 : ∀ f, (f = 3 ∨ f = 26) → h' f 0 = h f 0 := fun f hf => fr f 0 fun q => by
    unfold plX at q
    rcases q with q | q | q | q | q | q | q | q | q | q | q | q
    all_goals first | omega | exact q.2 rfl
  refine ⟨?_, fun p hp => ?_, fun p hp => ?_, fun y hy => ?_, ?_, ⟨CPs_co g6 fun f hf => fd f 0 (by omega) (by omega) (by omega) (by omega) (by omega) (by omega) (by omega) (by omega) (by omega) (by omega) (by omega) (by omega), CPs_co g6' fun f hf => fd f 1 (by omega) (by omega) (by omega) (by omega) (by omega) (by omega) (by omega) (by omega) (by omega) (by omega) (by omega) (by omega)⟩, F⟩
  · unfold CG; rw [fd 9 0 (by decide) (by decide) (by decide) (by decide) (by decide) (by decide) (by decide) (by decide) (by decide) (by decide) (by decide) (by decide)]; exact g1
  · have c := g2 p hp
    unfold CPp
    rw [fd 4 p (by decide) (by decide) (by decide) (by decide) (by decide) (by decide) (by decide) (by decide) (by decide) (by decide) (by decide) (by decide), fd 40 0 (by decide) (by decide) (by decide) (by decide) (by decide) (by decide) (by decide) (by decide) (by decide) (by decide) (by decide) (by decide)]
    exact ⟨c.1, c.2.1, PRp_co c.2.2.1 fun f hf => fd f p (by omega) (by omega) (by omega) (by omega) (by omega) (by omega) (by omega) (by omega) (by omega) (by omega) (by omega) (by omega), c.2.2.2⟩
  · have p12 : ina p 12 := ⟨hp.1, Int32.lt_of_lt_of_le hp.2 hP⟩
    exact CZ_co (g3 p hp) (f12 39 p (by decide) p12) (f12 8 p (by decide) p12)
  · exact EV_co (g4 y hy) (f400 2 y (by decide) hy) (f400 25 y (by decide) hy) (by rw [fd 41 0 (by decide) (by decide) (by decide) (by decide) (by decide) (by decide) (by decide) (by decide) (by decide) (by decide) (by decide) (by decide)]) (f100 8 y (by decide) hy) (f100 39 y (by decide) hy) (fun _ _ _ _ => rfl) rfl rfl rfl (fun _ => Iff.rfl) (fun _ pre post hp => ⟨post, hp⟩) (fun _ => rfl)
  · unfold CO; rw [f0 3 (by decide), f0 26 (by decide)]; exact g5
/-- a walk through what events printed: E the events, I what each of them gives -/
def wPr (o : Int32) (f : Nat) (x : Int32) : Prop := f = 7 ∧ x = o
def WO (o : Int32) (E : List Int32) (I : Int32 → List (Int32 × Int32 × Int32)) (h : HP) : Prop := E.length ≤ 400 ∧ nI E.length ≤ h 3 o 1 ∧ LSq (h 26 o) 0 E ∧ ∀ x, x ∈ E → ¬ x = -1 ∧ ((¬ h 2 x 7 = 1 ∧ I x = []) ∨ (h 2 x 7 = 1 ∧ (I x).length ≤ 8 ∧ h 2 x 11 = nI (I x).length ∧ LSq (h 25 x) 0 ((I x).map fun q => q.2.2) ∧ ∀ q, q ∈ I x → q.1 = h 2 x 1 ∧ q.2.1 = h 2 x 2))
def WR (o : Int32) (E : List Int32) (I : Int32 → List (Int32 × Int32 × Int32)) (l : List (Int32 × Int32 × Int32)) (h : HP) : Prop := h 7 o 3 = nI E.length ∧ ∃ (pre post : List Int32) (n : Nat), E = pre ++ post ∧ h 7 o 4 = nI pre.length ∧ h 7 o 5 = nI n ∧ (∀ x po, post = x :: po → n ≤ (I x).length) ∧ l = (post.flatMap I).drop n
theorem WO_co {o : Int32} {E : List Int32} {I : Int32 → List (Int32 × Int32 × Int32)} {h h' : HP} (W : WO o E I h) (e3 : h' 3 o = h 3 o) (e26 : h' 26 o = h 26 o) (e2 : ∀ x, x ∈ E → h' 2 x = h 2 x) (e25 : ∀ x, x ∈ E → h' 25 x = h 25 x) : WO o E I h' := by
  refine ⟨W.1, by rw [e3]; exact W.2.1, by rw [e26]; exact W.2.2.1, fun x hx => ?_⟩
  rw [e2 x hx, e25 x hx]; exact W.2.2.2 x hx
theorem WO_7 {o o' : Int32} {E : List Int32} {I : Int32 → List (Int32 × Int32 × Int32)} {h h' : HP} (W : WO o E I h) (g : agw (wPr o') h h') : WO o E I h' :=
  WO_co W (agw_row g fun q => absurd q.1 (by decide)) (agw_row g fun q => absurd q.1 (by decide)) (fun _ _ => agw_row g fun q => absurd q.1 (by decide)) (fun _ _ => agw_row g fun q => absurd q.1 (by decide))
theorem WR_co {o : Int32} {E : List Int32} {I : Int32 → List (Int32 × Int32 × Int32)} {l : List (Int32 × Int32 × Int32)} {h h' : HP} (W : WR o E I l h) (e : h' 7 o = h 7 o) : WR o E I l h' := by unfold WR; rw [e]; exact W
theorem s_wkB (o : Int32) (E : List Int32) (I : Int32 → List (Int32 × Int32 × Int32)) (h0 : HP) (Q : Option AV → HP → Prop) (H : ∀ h', agw (wPr o) h0 h' → WR o E I (E.flatMap I) h' → Q none h') : WPm 30 [(7, o), (0, nI E.length)] h0 Q :=
  b30_0 _ _ h0 Q (H _ (agw_up (agw_up (agw_up agw_rf ⟨rfl, rfl⟩ (by decide)) ⟨rfl, rfl⟩ (by decide)) ⟨rfl, rfl⟩ (by decide)) ⟨by rw [up_n (by simp), up_n (by simp), up_at], [], E, 0, rfl, by rw [up_n (by simp), up_at]; rfl, by rw [up_at]; rfl, fun _ _ _ => Nat.zero_le _, rfl⟩)
theorem s_goOn (o : Int32) (E : List Int32) (I : Int32 → List (Int32 × Int32 × Int32)) (l : List (Int32 × Int32 × Int32)) (h0 : HP) (Q : Option AV → HP → Prop) (W : WO o E I h0) (P : WR o E I l h0)
    (H0 : l = [] → ∀ h', agw (wPr o) h0 h' → WR o E I [] h' → Q (some (0, 0)) h')
    (H1 : ∀ q r, l = q :: r → ∀ h', agw (wPr o) h0 h' → WR o E I r h' → h' 7 o 0 = q.1 → h' 7 o 1 = q.2.1 → h' 7 o 2 = q.2.2 → Q (some (0, 1)) h') : WPm 31 [(7, o), (3, o)] h0 Q := by
  obtain ⟨p3, pre, post, n, eE, p4, p5, hn, el⟩ := P
  have loop : ∀ (post pre : List Int32) (n : Nat) (h : HP), E = pre ++ post → agw (wPr o) h0 h → h 7 o 3 = nI E.length → h 7 o 4 = nI pre.length → h 7 o 5 = nI n → (∀ x po, post = x :: po → n ≤ (I x).length) → l = (post.flatMap I).drop n → WPc 31 0 [(7, o), (3, o), (500, 0)] [] h Q := by
    intro post
    induction post with
    | nil =>
      intro pre n h eE g p3 p4 p5 hn el
      rw [List.flatMap_nil, List.drop_nil] at el
      have eE' := eE
      rw [List.append_nil] at eE
      refine b31_0 _ _ h Q ⟨fun _ => ⟨Or.inl rfl, H0 el h g ⟨p3, pre, [], n, eE', p4, p5, fun x po q => (by cases q), by rw [List.flatMap_nil, List.drop_nil]⟩⟩, fun z => absurd ?_ z⟩
      rw [p3, p4, eE]; exact Int32.le_refl _
    | cons x po ih =>
      intro pre n h eE g p3 p4 p5 hn el
      have W' : WO o E I h := WO_7 W g
      have lE := W.1
      have ln : E.length = pre.length + (po.length + 1) := by rw [eE, List.length_append, List.length_cons]
      have hx : x ∈ E := by rw [eE]; simp
      obtain ⟨xn, cs⟩ := W'.2.2.2 x hx
      have val : h 26 o (nI pre.length) = x := by
        have := W'.2.2.1
        rw [eE] at this
        have := (LSq_app.mp this).2.1
        rwa [Int32.zero_add] at this
      have i4 : ina (nI pre.length) 400 := ⟨nJ_nn (by omega), (nJ_lt (b := 400) (by omega) (by omega)).mpr (by omega)⟩
      have n1 : ¬ nI E.length ≤ nI pre.length := by rw [nJ_le (by omega) (by omega)]; omega
      have n2 : ¬ h 3 o 1 ≤ nI pre.length := fun z => n1 (Int32.le_trans W'.2.1 z)
      have hn' := hn x po rfl
      have el' : l = (I x).drop n ++ po.flatMap I := by rw [el, List.flatMap_cons, List.drop_append_of_le_length hn']
      have nxt : (I x).length ≤ n → WPc 31 0 [(7, o), (3, o), (500, 0)] [] (up (up h 7 o 4 (nI pre.length + 1)) 7 o 5 0) Q := fun q =>
        ih (pre ++ [x]) 0 (up (up h 7 o 4 (nI pre.length + 1)) 7 o 5 0) (by rw [eE]; simp) (agw_up (agw_up g ⟨rfl, rfl⟩ (by decide)) ⟨rfl, rfl⟩ (by decide)) (by rw [up_n (by simp), up_n (by simp)]; exact p3) (by rw [up_n (by simp), up_at, List.length_append]; exact (nJ_s _).symm) (by rw [up_at]; rfl) (fun _ _ _ => Nat.zero_le _) (by rw [el', List.drop_eq_nil_of_le q]; rfl)
      refine b31_0 _ _ h Q ?_
      rw [p3, p4, val]
      refine ⟨fun z => absurd z n1, fun _ => ⟨fun z => absurd z n2, fun _ => ⟨i4, xn, ?_⟩⟩⟩
      rcases cs with ⟨c1, c2⟩ | ⟨c1, c8, c11, crow, cv⟩
      · exact ⟨fun _ => nxt (by rw [c2]; exact Nat.zero_le _), fun z => absurd z c1⟩
      · refine ⟨fun z => absurd c1 z, fun _ => ⟨xn, ?_⟩⟩
        rw [c11, p5]
        refine ⟨fun z => nxt ((nJ_le (by omega) (by omega)).mp z), fun z => ⟨xn, xn, xn, ?_⟩⟩
        have z : n < (I x).length := by rw [nJ_le (by omega) (by omega)] at z; omega
        have i8 : ina (nI n) 8 := ⟨nJ_nn (by omega), (nJ_lt (b := 8) (by omega) (by omega)).mpr (by omega)⟩
        have r5 : (up (up h 7 o 0 (h 2 x 1)) 7 o 1 (h 2 x 2)) 7 o 5 = nI n := by rw [up_n (by simp), up_n (by simp)]; exact p5
        rw [r5]
        have r6 : (up (up (up h 7 o 0 (h 2 x 1)) 7 o 1 (h 2 x 2)) 7 o 2 (h 25 x (nI n))) 7 o 5 = nI n := by rw [up_n (by simp)]; exact r5
        rw [r6]
        have v2 : h 25 x (nI n) = ((I x)[n]).2.2 := by
          have := LSq_get crow n (by rw [List.length_map]; exact z)
          rwa [Int32.zero_add, List.getElem_map] at this
        obtain ⟨v0, v1⟩ := cv ((I x)[n]) (List.getElem_mem z)
        have ed : (I x).drop n = (I x)[n] :: (I x).drop (n + 1) := List.drop_eq_getElem_cons z
        refine ⟨i8, Or.inr rfl, H1 (I x)[n] ((I x).drop (n + 1) ++ po.flatMap I) (by rw [el', ed]; rfl) _ (agw_up (agw_up (agw_up (agw_up g ⟨rfl, rfl⟩ (by decide)) ⟨rfl, rfl⟩ (by decide)) ⟨rfl, rfl⟩ (by decide)) ⟨rfl, rfl⟩ (by decide)) ⟨?_, pre, x :: po, n + 1, eE, ?_, ?_, fun x' po' q => ?_, ?_⟩ ?_ ?_ ?_⟩
        · rw [up_n (by simp), up_n (by simp), up_n (by simp), up_n (by simp)]; exact p3
        · rw [up_n (by simp), up_n (by simp), up_n (by simp), up_n (by simp)]; exact p4
        · rw [up_at, nJ_s]
        · obtain ⟨e1, -⟩ := List.cons.inj q
          rw [← e1]; exact z
        · rw [List.flatMap_cons, List.drop_append_of_le_length (by exact z)]
        · rw [up_n (by simp), up_n (by simp), up_n (by simp), up_at, v0]
        · rw [up_n (by simp), up_n (by simp), up_at, v1]
        · rw [up_n (by simp), up_at, v2]
  exact loop post pre n h0 eE agw_rf p3 p4 p5 hn el
theorem wPrC {o : Int32} {h h' : HP} (g : agw (wPr o) h h') : ag sC h h' := fun f y k z => g f y k (Or.inr fun q => by
  rw [q.1] at z; exact absurd z (by simp [sC]))
theorem RC_pr {A : SY} {T : List Int32} {Z : Int32 → ZT} {od : List Int32} {h h' : HP} {o : Int32} (hI : YV A) (R : RC A T Z od h) (g : agw (wPr o) h h') : RC A T Z od h' := by
  have fr : ∀ f x, ¬ f = 7 → h' f x = h f x := fun f x q => agw_row g fun w => q w.1
  exact RC_fr hI.1.1.1.2 R (fun f x q => fr f x fun w => q (by unfold plX; omega)) (FR_co R.2.2.2.2.2.2 (fun f x => g f x (-1) (Or.inl rfl)) (fun e _ => by rw [fr 2 e (by decide)]) (fr 33 0 (by decide)) (fr 32 0 (by decide)) (fr 0 0 (by decide)) (CO_4 R.2.2.2.2.1) rfl rfl)
/-- what an event gives -/
def inA (A : SY) (x : Int32) : List (Int32 × Int32 × Int32) := if hw A x = 1 then (pr A x).map fun y => (pa A x, A.1 55 x, y) else []
theorem inA_out (A : SY) : ∀ E : List Int32, E.flatMap (inA A) = outL A (E.filter fun e => decide (hw A e = 1))
  | [] => rfl
  | x :: E => by
    rw [List.flatMap_cons, inA_out A E]
    by_cases z : hw A x = 1
    · rw [List.filter_cons_of_pos (by simp [z]), show inA A x = (pr A x).map fun y => (pa A x, A.1 55 x, y) from if_pos z]
      unfold outL
      rw [List.flatMap_cons]
    · rw [List.filter_cons_of_neg (by simp [z]), show inA A x = [] from if_neg z, List.nil_append]
theorem WO_main {A : SY} {od : List Int32} {h : HP} (hY : YW A) (R : RC A [] (Zst A) od h) : WO 0 (eoL A od) (inA A) h := by
  have c := R.2.2.2.2.1
  have l2 : (eoL A od).length ≤ od.length := List.Sublist.length_le (List.takeWhile_sublist _)
  have l : od.length ≤ 400 := c.2.2.2.2.2
  have eo := eo_app (A := A) (od := od)
  refine ⟨by omega, ?_, ?_, fun x hx => ?_⟩
  · rw [c.1, ← c.2.2.2.2.1]; exact (nJ_le (by omega) (by omega)).mpr l2
  · have := c.2.1
    rw [eo] at this
    exact LSq_take this
  · have ix : ina x (nE A) := (c.2.2.1 x).mp (by rw [eo]; exact List.mem_append.mpr (Or.inl hx))
    have ev := R.2.2.2.1 x ix
    refine ⟨ina_n1 ix, ?_⟩
    rw [ev.2.1.1]
    unfold inA
    by_cases z : hw A x = 1
    · right
      have e11 := ev.2.2.1.1.2.1
      have row := ev.2.2.1.1.2.2
      rw [show prE A x = pr A x from if_pos z] at e11 row
      rw [if_pos z]
      refine ⟨z, by rw [List.length_map]; exact (hY.2.1 x).1, by rw [List.length_map]; exact e11, ?_, fun q hq => ?_⟩
      · rw [List.map_map, show ((fun q : Int32 × Int32 × Int32 => q.2.2) ∘ fun y => (pa A x, A.1 55 x, y)) = id from rfl, List.map_id]
        exact row
      · obtain ⟨y, -, rfl⟩ := List.mem_map.mp hq
        exact ⟨ev.1.2.2.1.symm, ev.1.2.2.2.1.1.symm⟩
    · left
      rw [if_neg z]; exact ⟨z, rfl⟩
theorem s_outCount (A : SY) (od : List Int32) (h : HP) (Q : Option AV → HP → Prop) (R : RC A [] (Zst A) od h) (H : Q (some (0, nI (outL A (sod A)).length)) h) : WPm 150 [(9, 0), (0, nI (eoL A od).length)] h Q := by
  rw [(sod_od R.2.2.2.2.1).1] at H
  have loop : ∀ (rest pre : List Int32), eoL A od = pre ++ rest → WPc 150 4 [(9, 0), (0, nI (eoL A od).length), (0, nI (outL A (pre.filter fun e => decide (hw A e = 1))).length), (0, nI pre.length)] [] h Q := by
    intro rest
    induction rest with
    | nil =>
      intro pre e
      rw [List.append_nil] at e
      refine b150_4 _ _ _ h Q ⟨fun _ => ?_, fun z => absurd (by rw [e]; exact Int32.le_refl _) z⟩
      rw [← e]; exact H
    | cons x rest ih =>
      intro pre e
      obtain ⟨i4, val, ix, ne⟩ := eo_go R.2.2.2.2.1 e
      have xn := ina_n1 ix
      have ev := R.2.2.2.1 x ix
      have nx := ih (pre ++ [x]) (by rw [e]; simp)
      rw [List.filter_append, List.length_append] at nx
      refine b150_4 _ _ _ h Q ⟨fun z => absurd z ne, fun _ => ⟨i4, ?_⟩⟩
      rw [val, ev.2.1.1]
      refine ⟨xn, fun z => ?_, fun z => ⟨i4, xn, ?_⟩⟩
      · rw [List.filter_cons_of_neg (by simp [z]), List.filter_nil, List.append_nil] at nx
        rw [← nJ_s]; exact nx
      · have e11 := ev.2.2.1.1.2.1
        rw [show prE A x = pr A x from if_pos z] at e11
        rw [List.filter_cons_of_pos (by simp [z]), List.filter_nil] at nx
        have lx : (outL A ((pre.filter fun e => decide (hw A e = 1)) ++ [x])).length = (outL A (pre.filter fun e => decide (hw A e = 1))).length + (pr A x).length := by
          rw [outL_app, List.length_append, outL_len A [x], List.flatMap_cons, List.flatMap_nil, List.append_nil]
        rw [lx] at nx
        rw [e11, ← nJ_s, ← nJ_add]; exact nx
  exact b150_0 _ h Q (loop (eoL A od) [] rfl)
theorem isIn_n {j n : Nat} (hj : j ≤ 3200) (hn : n ≤ 3200) : isIn (nI j) 0 (nI n - 1) ↔ j < n := by
  rw [← nJ_lt (a := j) (b := n) (by omega) (by omega)]
  have h1 := nJ_nn (n := j) (by omega)
  have h2 := nJ_nn (n := n) (by omega)
  have h3 : nI n ≤ nI 3200 := (nJ_le (by omega) (by omega)).mpr hn
  have h4 : nI 3200 = 3200 := rfl
  rw [h4] at h3
  unfold isIn
  generalize nI j = a at h1 ⊢
  generalize nI n = b at h2 h3 ⊢
  constructor
  · intro q; grind
  · intro q; grind
theorem s_goToOut (A : SY) (i : Int32) (od : List Int32) (h : HP) (Q : Option AV → HP → Prop) (hY : YW A) (R : RC A [] (Zst A) od h)
    (H1 : ∀ h' q, isIn i 0 (nI (outL A (sod A)).length - 1) → (outL A (sod A)).getD i.toNatClampNeg (0, 0, 0) = q → agw (wPr 0) h h' → h' 7 0 0 = q.1 → h' 7 0 1 = q.2.1 → h' 7 0 2 = q.2.2 → Q (some (0, 1)) h')
    (H0 : ∀ h', ¬ isIn i 0 (nI (outL A (sod A)).length - 1) → agw (wPr 0) h h' → Q (some (0, 0)) h') : WPm 151 [(9, 0), (0, i)] h Q := by
  have so := sod_od R.2.2.2.2.1
  have sb := (sod_b hY so.2).2.2
  have ol := outL_len A (sod A)
  have eL : (eoL A od).flatMap (inA A) = outL A (sod A) := by rw [inA_out, ← so.1]
  have W := WO_main hY R
  have hL : (outL A (sod A)).length ≤ 3200 := by omega
  generalize outL A (sod A) = L at H1 H0 eL hL
  refine b151_0 _ h Q (c_in _ _ _ h _ (fun z => b151_8 _ _ h Q ⟨fun _ => ?_, fun y => absurd y one0⟩) (fun z => b151_8 _ _ h Q ⟨fun y => absurd rfl y, fun _ => ⟨Or.inl rfl, H0 h (fun q => z ?_) agw_rf⟩⟩))
  · obtain ⟨j, rfl, hj⟩ := nJ_exlt (N := 3200) (by decide) z.1 (Int32.lt_of_le_of_lt z.2 (by decide))
    have tj : (nI j).toNatClampNeg = j := Int32.toNatClampNeg_ofNat_of_lt (by omega)
    rw [tj] at H1
    have last : ∀ (l Lp : List (Int32 × Int32 × Int32)) (x2 : Int32) (h' : HP), agw (wPr 0) h h' → WR 0 (eoL A od) (inA A) l h' → L = Lp ++ l → (l = [] ∧ Lp.length ≤ j ∨ Lp.length = j) → WPm 31 [(7, 0), (3, 0)] h' (fun w h'' => WPc 151 66 [(9, 0), (0, nI j), (0, x2)] (w.toList ++ []) h'' Q) := fun l Lp x2 h' g P e hl =>
      s_goOn 0 (eoL A od) (inA A) l h' _ (WO_7 W g) P (fun el h2 g2 _ => b151_66 _ _ _ h2 Q ⟨Or.inl rfl, H0 h2 (fun q => by
        rw [isIn_n (by omega) hL, e, el, List.append_nil] at q
        omega) (agw_tr g g2)⟩) (fun q r el h2 g2 _ v0 v1 v2 => b151_66 _ _ _ h2 Q ⟨Or.inr rfl, by
        have lj : Lp.length = j := by
          rcases hl with hl | hl
          · rw [hl.1] at el; cases el
          · exact hl
        refine H1 h2 q ((isIn_n (by omega) hL).mpr ?_) ?_ (agw_tr g g2) v0 v1 v2
        · rw [e, el, List.length_append, List.length_cons]; omega
        · rw [e, el, ← lj]; simp⟩)
    have loop : ∀ (m : Nat) (l Lp : List (Int32 × Int32 × Int32)) (h' : HP), Lp.length + m = j → L = Lp ++ l → agw (wPr 0) h h' → WR 0 (eoL A od) (inA A) l h' → WPc 151 30 [(9, 0), (0, nI j), (0, nI Lp.length)] [] h' Q := by
      intro m
      induction m with
      | zero =>
        intro l Lp h' em e g P
        have ej : Lp.length = j := by omega
        refine b151_30 _ _ h' Q ⟨fun _ => last l Lp _ h' g P e (Or.inr ej), fun z => absurd ?_ z⟩
        rw [ej]; exact Int32.le_refl _
      | succ m ih =>
        intro l Lp h' em e g P
        refine b151_30 _ _ h' Q ⟨fun z => ?_, fun _ => ?_⟩
        · rw [nJ_le (by omega) (by omega)] at z
          exfalso; omega
        · refine s_goOn 0 (eoL A od) (inA A) l h' _ (WO_7 W g) P (fun el h2 g2 P2 => b151_46 _ _ _ h2 Q ⟨fun _ => last [] Lp _ h2 (agw_tr g g2) P2 (by rw [e, el]) (Or.inl ⟨rfl, by omega⟩), fun y => absurd rfl y⟩) (fun q r el h2 g2 P2 _ _ _ => b151_46 _ _ _ h2 Q ⟨fun y => absurd y one0, fun _ => ?_⟩)
          have := ih r (Lp ++ [q]) h2 (by rw [List.length_append, List.length_singleton]; omega) (by rw [e, el]; simp) (agw_tr g g2) P2
          rw [List.length_append, List.length_singleton, nJ_s] at this
          exact this
    refine s_leastOpen A od [] (Zst A) h _ hY.1 R fun v hv => b151_22 _ _ _ h Q (s_settledEnd A v od [] (Zst A) h _ R hv (b151_25 _ _ _ h Q (s_wkB 0 (eoL A od) (inA A) h _ fun h1 g1 P1 => b151_28 _ h1 Q ?_)))
    rw [eL] at P1
    exact loop j L [] h1 (by simp) rfl g1 P1
  · have h3 : nI L.length ≤ nI 3200 := (nJ_le (by omega) (by omega)).mpr hL
    have h4 : nI 3200 = 3200 := rfl
    have h2 := nJ_nn (n := L.length) (by omega)
    rw [h4] at h3
    refine ⟨q.1, ?_⟩
    have := q.2
    generalize nI L.length = b at h2 h3 this
    grind
theorem C_count (A : SY) (w : Int32) (od : List Int32) (h : HP) (Q : Option AV → HP → Prop) (hY : YW A) (R : RC A [] (Zst A) od h) (H : ∀ h', ag sC h h' → RC A [] (Zst A) od h' → Q (some (0, opCount A w)) h') : WPm 55 [(9, 0), (0, w)] h Q := by
  unfold opCount at H
  have H0 := H h ag_rf R
  have c := R.2.2.2.2.1
  have so := sod_od c
  have q1 : nI (wy A).length = h 6 0 2 := R.2.2.2.2.2.1.1.1.symm
  have f0 : ((eoL A od).filter fun e => decide (hw A e = 1) && (decide ((0 : Int32) = 0) || fld A e)) = sod A := by
    rw [so.1]
    refine List.filter_congr fun d _ => ?_
    simp
  have f1 : ((eoL A od).filter fun e => decide (hw A e = 1) && (decide ((1 : Int32) = 0) || fld A e)) = (sod A).filter (fld A) := by
    rw [so.1, List.filter_filter]
    refine List.filter_congr fun d _ => ?_
    rw [show decide ((1 : Int32) = 0) = false from rfl, Bool.false_or, Bool.and_comm]
  refine b55_0 _ h Q ?_
  rw [R.1.1, c.1, ← q1, R.1.2.2.1, R.1.2.2.2.1, R.1.2.1]
  refine ⟨fun y0 => ?_, fun y0 => ⟨fun y1 => ?_, fun y1 => ⟨fun y2 => ?_, fun y2 => ⟨fun y3 => ?_, fun y3 => ⟨fun y4 => ?_, fun y4 => ⟨fun y5 => ?_, fun y5 => ⟨fun y6 => ?_, fun y6 => ⟨fun y7 => ?_, fun y7 => ⟨fun y8 => ?_, fun y8 => ?_⟩⟩⟩⟩⟩⟩⟩⟩⟩
  · rw [if_pos y0] at H0; exact H0
  · rw [if_neg y0, if_pos y1] at H0; exact H0
  · rw [if_neg y0, if_neg y1, if_pos y2] at H0; exact H0
  · rw [if_neg y0, if_neg y1, if_neg y2, if_pos y3] at H0; exact H0
  · rw [if_neg y0, if_neg y1, if_neg y2, if_neg y3, if_pos y4] at H0; exact H0
  · refine s_leastOpen A od [] (Zst A) h _ hY.1 R fun v hv => b55_89 _ _ h Q (s_settledEnd A v od [] (Zst A) h _ R hv (b55_92 _ _ h Q (s_outCount A od h _ R (b55_95 _ _ h Q ?_))))
    rw [if_neg y0, if_neg y1, if_neg y2, if_neg y3, if_neg y4, if_pos y5] at H0
    exact H0
  · refine s_leastOpen A od [] (Zst A) h _ hY.1 R fun v hv => b55_102 _ _ h Q (s_settledEnd A v od [] (Zst A) h _ R hv (b55_105 _ _ h Q (s_settledEv A 0 od h _ R (b55_109 _ _ h Q ?_))))
    rw [if_neg y0, if_neg y1, if_neg y2, if_neg y3, if_neg y4, if_neg y5, if_pos y6] at H0
    rw [f0]; exact H0
  · refine s_leastOpen A od [] (Zst A) h _ hY.1 R fun v hv => b55_116 _ _ h Q (s_settledEnd A v od [] (Zst A) h _ R hv (b55_119 _ _ h Q (s_settledEv A 1 od h _ R (b55_123 _ _ h Q ?_))))
    rw [if_neg y0, if_neg y1, if_neg y2, if_neg y3, if_neg y4, if_neg y5, if_neg y6, if_pos y7] at H0
    rw [f1]; exact H0
  · rw [if_neg y0, if_neg y1, if_neg y2, if_neg y3, if_neg y4, if_neg y5, if_neg y6, if_neg y7, if_pos y8] at H0; exact H0
  · rw [if_neg y0, if_neg y1, if_neg y2, if_neg y3, if_neg y4, if_neg y5, if_neg y6, if_neg y7, if_neg y8] at H0; exact H0
theorem C_out (A : SY) (i w : Int32) (od : List Int32) (h : HP) (Q : Option AV → HP → Prop) (hY : YW A) (R : RC A [] (Zst A) od h) (H : ∀ h', ag sC h h' → RC A [] (Zst A) od h' → Q (some (0, opOut A i w)) h') : WPm 56 [(9, 0), (0, i), (0, w)] h Q := by
  unfold opOut at H
  refine b56_0 _ _ h Q (c_in _ _ _ h _ (fun z => b56_6 _ _ _ h Q ⟨fun _ => ?_, fun y => absurd y one0⟩) (fun z => b56_6 _ _ _ h Q ⟨fun y => absurd rfl y, fun _ => ?_⟩))
  · refine s_goToOut A i od h _ hY R (fun h' q z2 eq g v0 v1 v2 => b56_17 _ _ _ h' Q ⟨fun _ => ?_, fun y => absurd y one0⟩) (fun h' z2 g => b56_17 _ _ _ h' Q ⟨fun y => absurd rfl y, fun _ => ?_⟩)
    · have H := H h' (wPrC g) (RC_pr hY.1 R g)
      rw [if_pos z, if_pos z2, eq] at H
      rw [v0, v1]
      refine ⟨fun y => ?_, fun y => ?_⟩
      · rw [if_neg y] at H; exact H
      · rw [if_pos y] at H; exact H
    · have H := H h' (wPrC g) (RC_pr hY.1 R g)
      rw [if_pos z, if_neg z2] at H; exact H
  · have H := H h ag_rf R
    rw [if_neg z] at H; exact H
theorem C_printed (A : SY) (i : Int32) (od : List Int32) (h : HP) (Q : Option AV → HP → Prop) (hY : YW A) (R : RC A [] (Zst A) od h) (H : ∀ h', ag sC h h' → RC A [] (Zst A) od h' → Q (some (0, opPrinted A i)) h') : WPm 57 [(9, 0), (0, i)] h Q := by
  unfold opPrinted at H
  refine b57_0 _ h Q (s_goToOut A i od h _ hY R (fun h' q z2 eq g v0 v1 v2 => b57_5 _ _ h' Q ⟨fun y => absurd y one0, fun _ => ?_⟩) (fun h' z2 g => b57_5 _ _ h' Q ⟨fun _ => ?_, fun y => absurd rfl y⟩))
  · have H := H h' (wPrC g) (RC_pr hY.1 R g)
    rw [if_pos z2, eq] at H
    rw [v2]; exact H
  · have H := H h' (wPrC g) (RC_pr hY.1 R g)
    rw [if_neg z2] at H; exact H
