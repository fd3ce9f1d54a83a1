/-! 48: the model's heap holds the yard -/
def cd (q : PT) : Int32 := 2 * q.1 + (if q.2 then 1 else 0)
def MDp (A : SY) (h : HP) : Prop := ∀ p, ina p 12 → h 52 0 p = nI (dn A p).length ∧ LSq (h 53 0) (400 * p) (dn A p)
def MDr (r : Int32 → List Int32) (f g : Nat) (h : HP) : Prop := ∀ e, ina e 400 → h f 0 e = nI (r e).length ∧ LSq (h g 0) (8 * e) (r e)
def MDw (A : SY) (h : HP) : Prop := h 10 0 28 = nI (wy A).length ∧ LSq (h 67 0) 0 ((wy A).map cd)
def MDc (n : Nat) (A : SY) (h : HP) : Prop := h 10 0 30 = nI (n + (cm A).length) ∧ LSq (h 68 0) (nI n) ((cm A).map cd)
def MD (n : Nat) (A : SY) (h : HP) : Prop := MA A.1 h ∧ MDp A h ∧ MDr (pr A) 63 64 h ∧ MDr (se A) 65 66 h ∧ MDw A h ∧ MDc n A h
theorem row_ag {s : Nat → Int32 → Bool} {h h' : HP} (g : ag s h h') (f : Nat) (j : Int32) (hs : ∀ k, s f k = false) : h' f j = h f j := funext fun k => g f j k (hs k)
theorem MD_ag {n : Nat} {A : SY} {h h' : HP} (hM : MD n A h) (g : ag sS h h') : MD n A h' := by
  obtain ⟨m1, m2, m3, m4, m5, m6⟩ := hM
  have r : ∀ f, 42 ≤ f → f ≤ 68 → h' f 0 = h f 0 := fun f h1 h2 => row_ag g f 0 fun k => by
    have e1 : Nat.ble 69 f = false := by
      cases hb : Nat.ble 69 f with
      | false => rfl
      | true => have := Nat.le_of_ble_eq_true hb; omega
    have e2 : Nat.beq f 10 = false := by
      cases hb : Nat.beq f 10 with
      | false => rfl
      | true => have := Nat.eq_of_beq_eq_true hb; omega
    simp [sS, e1, e2]
  refine ⟨MA_ag m1 g, ?_, ?_, ?_, ?_, ?_⟩
  · unfold MDp; rw [r 52 (by decide) (by decide), r 53 (by decide) (by decide)]; exact m2
  · unfold MDr; rw [r 63 (by decide) (by decide), r 64 (by decide) (by decide)]; exact m3
  · unfold MDr; rw [r 65 (by decide) (by decide), r 66 (by decide) (by decide)]; exact m4
  · unfold MDw; rw [r 67 (by decide) (by decide), g 10 0 28 (by decide)]; exact m5
  · unfold MDc; rw [r 68 (by decide) (by decide), g 10 0 30 (by decide)]; exact m6
theorem up_at {h : HP} {f : Nat} {j k v : Int32} : up h f j k v f j k = v := by simp [up]
theorem up_n {h : HP} {f : Nat} {j k v : Int32} {f' : Nat} {j' k' : Int32} (e : ¬ (f' = f ∧ j' = j ∧ k' = k)) : up h f j k v f' j' k' = h f' j' k' := by unfold up; rw [if_neg e]
theorem MA_up {a : AT} {h : HP} (hA : MA a h) (f : Nat) (j v : Int32) : MA (sa a f j v) (up h f 0 j v) := fun f' k z => by
  unfold up sa
  by_cases q : f' = f ∧ k = j
  · rw [if_pos ⟨q.1, rfl, q.2⟩, if_pos q]
  · rw [if_neg (fun y => q ⟨y.1, y.2.2⟩), if_neg q]; exact hA f' k z
theorem MA_sk {a : AT} {h : HP} (hA : MA a h) (f : Nat) (j k v : Int32) (e : atF f k = false) : MA a (up h f j k v) := fun f' k' z => by
  rw [up_n]
  · exact hA f' k' z
  · rintro ⟨rfl, -, rfl⟩
    rw [e] at z; cases z
/-- updates outside these rows leave them -/
theorem MDp_sk {A : SY} {h : HP} (m : MDp A h) (f : Nat) (j k v : Int32) (e : ¬ f = 52 ∧ ¬ f = 53) : MDp A (up h f j k v) := by
  unfold MDp
  rw [upfam (fun z => e.1 z.symm), upfam (fun z => e.2 z.symm)]; exact m
theorem MDr_sk {r : Int32 → List Int32} {f1 f2 : Nat} {h : HP} (m : MDr r f1 f2 h) (f : Nat) (j k v : Int32) (e : ¬ f = f1 ∧ ¬ f = f2) : MDr r f1 f2 (up h f j k v) := by
  unfold MDr
  rw [upfam (fun z => e.1 z.symm), upfam (fun z => e.2 z.symm)]; exact m
theorem MDw_sk {A : SY} {h : HP} (m : MDw A h) (f : Nat) (j k v : Int32) (e : ¬ f = 67 ∧ (¬ f = 10 ∨ ¬ k = 28)) : MDw A (up h f j k v) := by
  unfold MDw
  rw [upfam (fun z => e.1 z.symm), up_n]
  · exact m
  · rintro ⟨h1, -, h2⟩
    rcases e.2 with q | q
    · exact q h1.symm
    · exact q h2.symm
theorem MDc_sk {n : Nat} {A : SY} {h : HP} (m : MDc n A h) (f : Nat) (j k v : Int32) (e : ¬ f = 68 ∧ (¬ f = 10 ∨ ¬ k = 30)) : MDc n A (up h f j k v) := by
  unfold MDc
  rw [upfam (fun z => e.1 z.symm), up_n]
  · exact m
  · rintro ⟨h1, -, h2⟩
    rcases e.2 with q | q
    · exact q h1.symm
    · exact q h2.symm
/-- an attribute changes, in the model's heap and in the yard -/
theorem MD_at {n : Nat} {A : SY} {h : HP} (hM : MD n A h) (f : Nat) (j v : Int32) (e : (42 ≤ f ∧ f ≤ 51) ∨ (54 ≤ f ∧ f ≤ 62) ∨ (f = 10 ∧ ¬ j = 28 ∧ ¬ j = 30)) : MD n (sa A.1 f j v, A.2) (up h f 0 j v) := by
  obtain ⟨m1, m2, m3, m4, m5, m6⟩ := hM
  have e10 : f = 10 → ¬ j = 28 ∧ ¬ j = 30 := fun z => by
    rcases e with q | q | q
    · omega
    · omega
    · exact q.2
  have dj : ∀ k : Int32, (k = 28 ∨ k = 30) → (¬ f = 10 ∨ ¬ j = k) := fun k hk => by
    by_cases z : f = 10
    · right
      rcases hk with rfl | rfl
      · exact (e10 z).1
      · exact (e10 z).2
    · exact Or.inl z
  exact ⟨MA_up m1 f j v, MDp_sk m2 _ _ _ _ ⟨by omega, by omega⟩, MDr_sk m3 _ _ _ _ ⟨by omega, by omega⟩, MDr_sk m4 _ _ _ _ ⟨by omega, by omega⟩, MDw_sk m5 _ _ _ _ ⟨by omega, dj 28 (Or.inl rfl)⟩, MDc_sk m6 _ _ _ _ ⟨by omega, dj 30 (Or.inr rfl)⟩⟩
theorem cmpK_A {a : AT} {h : HP} (hA : MA a h) (e m b s p : Int32) : cmpK h e m b s p = cmpK (fun f _ k => a f k) e m b s p := by
  unfold cmpK
  rw [hA 55 e rfl, hA 56 e rfl, hA 57 e rfl, hA 58 e rfl]
theorem keysK_A {a : AT} {h : HP} (hA : MA a h) (e f : Int32) : keysK h e f = keysK (fun f _ k => a f k) e f := by
  unfold keysK
  rw [hA 55 f rfl, hA 56 f rfl, hA 57 f rfl, hA 58 f rfl, cmpK_A hA]
theorem cmpK_lt {h : HP} {a : AT} {e f : Int32} (hA : MA a h) : cmpK h e (a 55 f) (a 56 f) (a 57 f) (a 58 f) < 0 ↔ klt a e f := by
  rw [cmpK_A hA]
  unfold cmpK klt
  grind
theorem cmpK_eq {h : HP} {a : AT} {e f : Int32} (hA : MA a h) : cmpK h e (a 55 f) (a 56 f) (a 57 f) (a 58 f) = 0 ↔ keq a e f := by
  rw [cmpK_A hA]
  unfold cmpK keq
  grind
theorem isBel_bel {a : AT} {h : HP} (hA : MA a h) (e f : Int32) : isBel h e f ↔ bel a e f := by
  unfold isBel keysK bel
  rw [hA 55 f rfl, hA 56 f rfl, hA 57 f rfl, hA 58 f rfl, cmpK_lt hA, cmpK_eq hA]
theorem s_bel (a : AT) (e f : Int32) (h : HP) (Q : Option AV → HP → Prop) (hA : MA a h) (he : ina e 400) (hf : ina f 400) (H1 : bel a e f → Q (some (0, 1)) h) (H0 : ¬ bel a e f → Q (some (0, 0)) h) : WPm 99 [(10, 0), (0, e), (0, f)] h Q :=
  s_isBelow e f h Q he hf (fun z => H1 ((isBel_bel hA e f).mp z)) (fun z => H0 fun y => z ((isBel_bel hA e f).mpr y))
theorem i400 {p : Int32} {k : Nat} (hp : ina p 12) (hk : k < 400) : ina (400 * p + nI k) 4800 := by
  have h1 : 0 ≤ nI k := nJ_nn (by omega)
  have h2 : nI k < nI 400 := (nJ_lt (by omega) (by omega)).mpr hk
  have h3 : nI 400 = 400 := rfl
  unfold ina at *; grind
theorem i8 {e : Int32} {k : Nat} (hp : ina e 400) (hk : k < 8) : ina (8 * e + nI k) 3200 := by
  have h1 : 0 ≤ nI k := nJ_nn (by omega)
  have h2 : nI k < nI 8 := (nJ_lt (by omega) (by omega)).mpr hk
  have h3 : nI 8 = 8 := rfl
  unfold ina at *; grind
theorem i900 {k : Nat} (hk : k < 900) : ina (nI k) 900 := ⟨nJ_nn (by omega), (nJ_lt (b := 900) (by omega) (by omega)).mpr hk⟩
/-- one event is taken back -/
theorem tkB1 (A : SY) (p d : Int32) (l : List Int32) : tkB A p l [d] = (sa (sa A.1 60 d 0) 51 p (A.1 51 p + 1), ul (dn A) p l, A.2.2) := by
  unfold tkB
  congr 1
  funext f j
  unfold sa
  by_cases h1 : f = 60
  · subst h1; simp
  · by_cases h2 : f = 51 ∧ j = p
    · simp [h1, h2]; rfl
    · simp [h1, h2]
theorem MD_back {n : Nat} {A : SY} {h : HP} {p d : Int32} {l : List Int32} (hM : MD n A h) (hp : ina p 12) (hd : dn A p = l ++ [d]) : MD n (tkB A p l [d]) (up (up (up h 52 0 p (h 52 0 p - 1)) 60 0 d 0) 51 0 p (h 51 0 p + 1)) := by
  obtain ⟨m1, m2, m3, m4, m5, m6⟩ := id hM
  rw [tkB1]
  refine ⟨?_, ?_, MDr_sk (MDr_sk (MDr_sk m3 _ _ _ _ (by first | decide | simp)) _ _ _ _ (by first | decide | simp)) _ _ _ _ (by first | decide | simp), MDr_sk (MDr_sk (MDr_sk m4 _ _ _ _ (by first | decide | simp)) _ _ _ _ (by first | decide | simp)) _ _ _ _ (by first | decide | simp), MDw_sk (MDw_sk (MDw_sk m5 _ _ _ _ (by first | decide | simp)) _ _ _ _ (by first | decide | simp)) _ _ _ _ (by first | decide | simp), MDc_sk (MDc_sk (MDc_sk m6 _ _ _ _ (by first | decide | simp)) _ _ _ _ (by first | decide | simp)) _ _ _ _ (by first | decide | simp)⟩
  · rw [m1 51 p rfl]
    exact MA_up (MA_up (MA_sk m1 52 0 p _ (by first | decide | rfl)) 60 d 0) 51 p _
  · refine MDp_sk (MDp_sk ?_ _ _ _ _ (by first | decide | simp)) _ _ _ _ (by first | decide | simp)
    intro q hq
    show (up h 52 0 p (h 52 0 p - 1)) 52 0 q = nI (ul (dn A) p l q).length ∧ LSq ((up h 52 0 p (h 52 0 p - 1)) 53 0) (400 * q) (ul (dn A) p l q)
    rw [upfam (show ¬ 53 = 52 by decide)]
    by_cases z : q = p
    · subst z
      have := m2 q hq
      rw [hd] at this
      rw [ul_eq, up_at, this.1, List.length_append]
      refine ⟨?_, LSq_take this.2⟩
      show nI (l.length + 1) - 1 = _
      rw [nJ_s]; grind
    · rw [ul_ne z, up_n (fun y => z y.2.2)]
      exact m2 q hq
theorem s_back (n : Nat) (A : SY) (p d : Int32) (l : List Int32) (h : HP) (Q : Option AV → HP → Prop) (hM : MD n A h) (hp : ina p 12) (hd : dn A p = l ++ [d]) (hde : ina d 400) (hl : l.length < 400)
    (H : Q none (up (up (up h 52 0 p (h 52 0 p - 1)) 60 0 d 0) 51 0 p (h 51 0 p + 1))) : WPm 112 [(10, 0), (0, p)] h Q := by
  have m := hM.2.1 p hp
  rw [hd] at m
  have e1 : h 52 0 p - 1 = nI l.length := by
    rw [m.1, List.length_append]
    show nI (l.length + 1) - 1 = _
    rw [nJ_s]; grind
  have e2 : h 53 0 (400 * p + nI l.length) = d := (LSq_app.mp m.2).2.1
  refine b112_0 p h Q ?_
  rw [up_at, e1, e2]
  rw [e1] at H
  exact ⟨hp, hp, hp, i400 hp hl, hde, hp, hp, H⟩
/-- something is posted -/
theorem MD_post {n : Nat} {A : SY} {h : HP} {p : Int32} {q : PT} (hM : MD n A h) (hw9 : (wy A).length < 900) (hc9 : n + (cm A).length < 900) :
    (¬ A.1 42 (A.1 54 q.1) = A.1 42 p → MD n (psA A (A.1 42 p) [q]) (up (up h 67 0 (h 10 0 28) (cd q)) 10 0 28 (h 10 0 28 + 1))) ∧
    (A.1 42 (A.1 54 q.1) = A.1 42 p → MD n (psA A (A.1 42 p) [q]) (up (up h 68 0 (h 10 0 30) (cd q)) 10 0 30 (h 10 0 30 + 1))) := by
  obtain ⟨m1, m2, m3, m4, m5, m6⟩ := id hM
  constructor
  · intro z
    have e : psA A (A.1 42 p) [q] = (A.1, dn A, pr A, se A, wy A ++ [q], cm A) := by unfold psA; simp [z]
    rw [e]
    refine ⟨MA_sk (MA_sk m1 _ _ _ _ (by first | decide | rfl)) _ _ _ _ (by first | decide | simp), MDp_sk (MDp_sk m2 _ _ _ _ (by first | decide | simp)) _ _ _ _ (by first | decide | simp), MDr_sk (MDr_sk m3 _ _ _ _ (by first | decide | simp)) _ _ _ _ (by first | decide | simp), MDr_sk (MDr_sk m4 _ _ _ _ (by first | decide | simp)) _ _ _ _ (by first | decide | simp), ?_, MDc_sk (MDc_sk m6 _ _ _ _ (by first | decide | simp)) _ _ _ _ (by first | decide | simp)⟩
    unfold MDw
    rw [up_at, upfam (by decide), uprow, m5.1]
    refine ⟨?_, ?_⟩
    · show _ = nI (wy A ++ [q]).length
      rw [List.length_append]
      exact (nJ_s _).symm
    · show LSq _ 0 ((wy A ++ [q]).map cd)
      rw [List.map_append]
      have := LSq_snoc (v := cd q) (by rw [List.length_map]; omega) m5.2
      rwa [Int32.zero_add, List.length_map] at this
  · intro z
    have e : psA A (A.1 42 p) [q] = (A.1, dn A, pr A, se A, wy A, cm A ++ [q]) := by unfold psA; simp [z]
    rw [e]
    refine ⟨MA_sk (MA_sk m1 _ _ _ _ (by first | decide | rfl)) _ _ _ _ (by first | decide | simp), MDp_sk (MDp_sk m2 _ _ _ _ (by first | decide | simp)) _ _ _ _ (by first | decide | simp), MDr_sk (MDr_sk m3 _ _ _ _ (by first | decide | simp)) _ _ _ _ (by first | decide | simp), MDr_sk (MDr_sk m4 _ _ _ _ (by first | decide | simp)) _ _ _ _ (by first | decide | simp), MDw_sk (MDw_sk m5 _ _ _ _ (by first | decide | simp)) _ _ _ _ (by first | decide | simp), ?_⟩
    unfold MDc
    rw [up_at, upfam (by decide), uprow, m6.1]
    refine ⟨?_, ?_⟩
    · show _ = nI (n + (cm A ++ [q]).length)
      rw [List.length_append, ← Nat.add_assoc]
      exact (nJ_s _).symm
    · show LSq _ (nI n) ((cm A ++ [q]).map cd)
      rw [List.map_append]
      have := LSq_snoc (v := cd q) (by rw [List.length_map]; omega) m6.2
      rwa [List.length_map, ← nJ_add] at this
theorem s_goes (n : Nat) (A : SY) (p e : Int32) (s : Bool) (h : HP) (Q : Option AV → HP → Prop) (hM : MD n A h) (hp : ina p 12) (he : ina e 400) (hpe : ina (pa A e) 12) (hw9 : (wy A).length < 900) (hc9 : n + (cm A).length < 900)
    (H : ∀ h', ag sM h h' → ((∀ f, ¬ f = 10 → ¬ f = 67 → ¬ f = 68 → h' f = h f) ∧ ∀ k, ¬ k = 28 → ¬ k = 30 → h' 10 0 k = h 10 0 k) → MD n (psA A (A.1 42 p) [(e, s)]) h' → Q none h') : WPm 107 [(10, 0), (0, p), (0, e), (0, if s then 1 else 0)] h Q := by
  have e54 := hM.1 54 e rfl
  have e42 := hM.1 42 p rfl
  have e42' := hM.1 42 (A.1 54 e) rfl
  have mp := MD_post (q := (e, s)) (p := p) hM hw9 hc9
  refine b107_0 _ _ _ h Q ?_
  rw [e54, e42, e42']
  refine ⟨he, hpe, hp, fun z => ⟨?_, H _ (ag_up (ag_up ag_rf rfl) rfl) ?_ (mp.1 z)⟩, fun z => ⟨?_, H _ (ag_up (ag_up ag_rf rfl) rfl) ?_ (mp.2 z)⟩⟩
  · rw [hM.2.2.2.2.1.1]; exact i900 hw9
  · refine ⟨fun f h1 h2 h3 => by rw [upfam h1, upfam h2], fun k h1 h2 => by rw [up_n (fun z => h1 z.2.2), upfam (by decide)]⟩
  · rw [hM.2.2.2.2.2.1]; exact i900 hc9
  · refine ⟨fun f h1 h2 h3 => by rw [upfam h1, upfam h3], fun k h1 h2 => by rw [up_n (fun z => h2 z.2.2), upfam (by decide)]⟩
theorem MD_meet {n : Nat} {A : SY} {h : HP} (hM : MD n A h) (e : Int32) : MD n (mtF A e) (up (up (up h 60 0 e 4) 61 0 e 0) 10 0 34 (h 10 0 34 + 1)) := by
  have e1 := hM.1 10 34 rfl
  have := MD_at (MD_at (MD_at hM 60 e 4 (by first | decide | simp)) 61 e 0 (by first | decide | simp)) 10 34 (h 10 0 34 + 1) (by first | decide | simp)
  rw [e1] at this ⊢
  exact this
theorem s_meet (n : Nat) (A : SY) (e : Int32) (h : HP) (Q : Option AV → HP → Prop) (hM : MD n A h) (he : ina e 400) (H : ∀ h', ag sM h h' → h' 53 = h 53 → MD n (mtF A e) h' → Q none h') : WPm 109 [(10, 0), (0, e)] h Q :=
  b109_0 e h Q ⟨he, he, Or.inl rfl, H _ (ag_up (ag_up (ag_up ag_rf rfl) rfl) rfl) (by rw [upfam (by decide), upfam (by decide), upfam (by decide)]) (MD_meet hM e)⟩
theorem shF_nil (A : SY) (l : Int32) : shF A l [] = A := by
  unfold shF
  rw [List.map_nil, psA_nil]
  have : sa A.1 10 33 (A.1 10 33 + nI ([] : List Int32).length) = A.1 := by
    funext f j; unfold sa; split
    · rename_i q; rw [q.1, q.2]; show A.1 10 33 + 0 = _; grind
    · rfl
  rw [this]
theorem shF_snoc (A : SY) (l : Int32) (S : List Int32) (f : Int32) : shF A l (S ++ [f]) = psA (sa (shF A l S).1 10 33 ((shF A l S).1 10 33 + 1), (shF A l S).2) l [(f, true)] := by
  have e : sa (sa A.1 10 33 (A.1 10 33 + nI S.length)) 10 33 (sa A.1 10 33 (A.1 10 33 + nI S.length) 10 33 + 1) = sa A.1 10 33 (A.1 10 33 + nI (S ++ [f]).length) := by
    funext g j
    rw [sa_eq]
    unfold sa
    split
    · rw [List.length_append]
      show A.1 10 33 + nI S.length + 1 = A.1 10 33 + nI (S.length + 1)
      rw [nJ_s]; grind
    · rfl
  unfold shF psA
  simp only [List.map_append, List.map_cons, List.map_nil, List.filter_append, e]
  simp [sa, wy, cm, List.append_assoc]
theorem psA_mono {A : SY} {l : Int32} {S T : List PT} : (wy (psA A l S)).length ≤ (wy (psA A l (S ++ T))).length ∧ (cm (psA A l S)).length ≤ (cm (psA A l (S ++ T))).length := by
  unfold psA wy cm
  simp only [List.filter_append, List.length_append]
  omega
theorem shF_mono {A : SY} {l : Int32} {S T : List Int32} : (wy (shF A l S)).length ≤ (wy (shF A l (S ++ T))).length ∧ (cm (shF A l S)).length ≤ (cm (shF A l (S ++ T))).length := by
  unfold shF psA wy cm
  simp only [List.map_append, List.filter_append, List.length_append]
  have : ∀ q : PT, (sa A.1 10 33 (A.1 10 33 + nI (S.length + T.length)) 42 (sa A.1 10 33 (A.1 10 33 + nI (S.length + T.length)) 54 q.1) = l) = (sa A.1 10 33 (A.1 10 33 + nI S.length) 42 (sa A.1 10 33 (A.1 10 33 + nI S.length) 54 q.1) = l) := fun q => by simp [sa]
  simp only [this]
  omega
theorem snts_cons (A : SY) (d : Int32) (t : List Int32) : snts A (d :: t) = snts A t ++ (se A d).reverse := by
  unfold snts
  rw [List.reverse_cons, List.flatMap_append]
  simp
theorem snts_app (A : SY) (s t : List Int32) : snts A (s ++ t) = snts A t ++ snts A s := by
  unfold snts
  rw [List.reverse_append, List.flatMap_append]
theorem ag53 {h h' : HP} (h1 : h' 53 = h 53) : h' 53 0 = h 53 0 := by rw [h1]
theorem nIm1 (j : Nat) : nI (j + 1) - 1 = nI j := by rw [nJ_s]; grind
theorem s_shIn (n : Nat) (A : SY) (p d had x3 : Int32) (S0 S : List Int32) (h0 : HP) (Q : Option AV → HP → Prop) (hp : ina p 12) (hd : ina d 400) (h8 : (se A d).length ≤ 8) (hf : ∀ f, f ∈ se A d → ina f 400 ∧ ina (pa A f) 12)
    (HB : ∀ S1 S2, S = S1 ++ S2 → (wy (shF A (A.1 42 p) S1)).length ≤ 800 ∧ n + (cm (shF A (A.1 42 p) S1)).length ≤ 800)
    (hS : ∃ S3, S = S0 ++ (se A d).reverse ++ S3)
    (K : ∀ h', ag sM h0 h' → h' 53 = h0 53 → MD n (shF A (A.1 42 p) (S0 ++ (se A d).reverse)) h' → WPc 113 4 [(10, 0), (0, p), (0, had), (0, x3 + (-1)), (500, 0), (500, 0)] [] h' Q) :
    ∀ (j : Nat) (u1 u2 : List Int32) (h : HP), u1.length = j → se A d = u1 ++ u2 → ag sM h0 h → h 53 = h0 53 → MD n (shF A (A.1 42 p) (S0 ++ u2.reverse)) h →
      WPc 113 39 [(10, 0), (0, p), (0, had), (0, x3), (0, d), (0, nI j - 1)] [] h Q := by
  intro j
  induction j with
  | zero =>
    intro u1 u2 h hl e g r M
    have : u1 = [] := List.eq_nil_of_length_eq_zero hl
    subst this
    rw [List.nil_append] at e
    refine b113_39 _ _ _ _ _ h Q ⟨fun _ => K h g r (by rw [e]; exact M), fun z => absurd (by rw [nJ_0]; decide) z⟩
  | succ j ih =>
    intro u1 u2 h hl e g r M
    obtain ⟨u, f, rfl⟩ : ∃ u f, u1 = u ++ [f] := by
      rcases snocC u1 with q | ⟨u, f, q⟩
      · rw [q] at hl; simp at hl
      · exact ⟨u, f, q⟩
    have hu : u.length = j := by simpa using hl
    have hf' := hf f (by rw [e]; simp)
    have hj8 : j < 8 := by rw [e] at h8; simp at h8; omega
    rw [nIm1]
    have row := (M.2.2.2.1 d hd).2
    have val : h 66 0 (8 * d + nI j) = f := by
      have row : LSq (h 66 0) (8 * d) (se A d) := row
      rw [e] at row
      have := (LSq_app.mp (LSq_app.mp row).1).2.1
      rw [hu] at this
      exact this
    refine b113_39 _ _ _ _ _ h Q ⟨fun z => absurd z (by have := nJ_nn (n := j) (by omega); grind), fun _ => ⟨i8 hd hj8, ?_⟩⟩
    rw [val]
    have M2 := MD_at M 10 33 (h 10 0 33 + 1) (by first | decide | simp)
    have e33 : h 10 0 33 = (shF A (A.1 42 p) (S0 ++ u2.reverse)).1 10 33 := M.1 10 33 rfl
    obtain ⟨S3, hS3⟩ := hS
    have bd := HB (S0 ++ u2.reverse) (u.reverse.cons f ++ S3) (by rw [hS3, e]; simp)
    have line : sa (shF A (A.1 42 p) (S0 ++ u2.reverse)).1 10 33 (h 10 0 33 + 1) 42 p = A.1 42 p := by
      simp [shF, psA, sa]
    refine s_goes n _ p f true _ _ M2 hp hf'.1 (by simpa [pa, shF, psA, sa] using hf'.2) (by show (wy (shF A (A.1 42 p) (S0 ++ u2.reverse))).length < 900; omega) (by show n + (cm (shF A (A.1 42 p) (S0 ++ u2.reverse))).length < 900; omega) fun h' g2 fr M3 => ?_
    refine b113_73 _ _ _ _ _ h' Q ?_
    rw [show nI j + (-1) = nI j - 1 by grind]
    refine ih u (f :: u2) h' hu (by rw [e]; simp) (ag_tr (ag_tr g (ag_up ag_rf rfl)) g2) (by rw [fr.1 53 (by decide) (by decide) (by decide), upfam (by decide), r]) ?_
    rw [List.reverse_cons, ← List.append_assoc, shF_snoc]
    rw [show (sa (shF A (A.1 42 p) (S0 ++ u2.reverse)).1 10 33 (h 10 0 33 + 1), (shF A (A.1 42 p) (S0 ++ u2.reverse)).2).1 42 p = A.1 42 p from line, e33] at M3
    exact M3
theorem s_shadowsOf (n : Nat) (A : SY) (p : Int32) (k t : List Int32) (h0 : HP) (Q : Option AV → HP → Prop) (hM : MD n A h0) (hp : ina p 12) (hk : dn A p = k) (hrow : LSq (h0 53 0) (400 * p) (k ++ t)) (hlen : (k ++ t).length ≤ 400)
    (ht : ∀ d, d ∈ t → ina d 400 ∧ (se A d).length ≤ 8 ∧ ∀ f, f ∈ se A d → ina f 400 ∧ ina (pa A f) 12)
    (HB : ∀ S1 S2, snts A t = S1 ++ S2 → (wy (shF A (A.1 42 p) S1)).length ≤ 800 ∧ n + (cm (shF A (A.1 42 p) S1)).length ≤ 800)
    (H : ∀ h', ag sM h0 h' → MD n (shF A (A.1 42 p) (snts A t)) h' → Q none h') : WPm 113 [(10, 0), (0, p), (0, nI (k ++ t).length)] h0 Q := by
  have L1 : ∀ (m : Nat) (t1 t2 : List Int32) (h : HP), t1.length = m → t = t1 ++ t2 → ag sM h0 h → h 53 = h0 53 → MD n (shF A (A.1 42 p) (snts A t2)) h →
      WPc 113 4 [(10, 0), (0, p), (0, nI (k ++ t).length), (0, nI (k.length + m) - 1), (500, 0), (500, 0)] [] h Q := by
    intro m
    induction m with
    | zero =>
      intro t1 t2 h hl e g r M
      have : t1 = [] := List.eq_nil_of_length_eq_zero hl
      subst this
      rw [List.nil_append] at e
      have e52 : h 52 0 p = nI k.length := by
        have := (M.2.1 p hp).1
        rw [this]
        show nI (dn A p).length = _
        rw [hk]
      have hkl : k.length ≤ 400 := by simp at hlen; omega
      have h1 : 0 ≤ nI k.length := nJ_nn (by omega)
      have h2 : nI k.length ≤ nI 400 := (nJ_le (by omega) (by omega)).mpr hkl
      have h3 : nI 400 = 400 := rfl
      refine b113_4 _ _ _ h Q ⟨hp, fun _ => H h g (by rw [e]; exact M), fun z => absurd ?_ z⟩
      rw [e52, Nat.add_zero]; grind
    | succ m ih =>
      intro t1 t2 h hl e g r M
      obtain ⟨u, d, rfl⟩ : ∃ u d, t1 = u ++ [d] := by
        rcases snocC t1 with q | ⟨u, f, q⟩
        · rw [q] at hl; simp at hl
        · exact ⟨u, f, q⟩
      have hu : u.length = m := by simpa using hl
      obtain ⟨hd, h8, hf⟩ := ht d (by rw [e]; simp)
      have e52 : h 52 0 p = nI k.length := by
        have := (M.2.1 p hp).1
        rw [this]
        show nI (dn A p).length = _
        rw [hk]
      have hkl : k.length + m < 400 := by rw [e] at hlen; simp at hlen; omega
      have val : h 53 0 (400 * p + nI (k.length + m)) = d := by
        have row := hrow
        rw [e, show k ++ (u ++ [d] ++ t2) = (k ++ u) ++ (d :: t2) by simp] at row
        have := (LSq_app.mp row).2.1
        rw [List.length_append, hu] at this
        rw [r]; exact this
      rw [← Nat.add_assoc, nIm1]
      refine b113_4 _ _ _ h Q ⟨hp, fun z => absurd z ?_, fun _ => ⟨i400 hp hkl, ?_⟩⟩
      · rw [e52]
        have : nI k.length ≤ nI (k.length + m) := (nJ_le (by omega) (by omega)).mpr (by omega)
        grind
      · rw [val]
        refine ⟨hd, ?_⟩
        have e65 : h 65 0 d = nI (se A d).length := (M.2.2.2.1 d hd).1
        rw [e65]
        refine s_shIn n A p d (nI (k ++ t).length) (nI (k.length + m)) (snts A t2) (snts A t) h Q hp hd h8 hf HB ⟨snts A u, ?_⟩ (fun h' g2 r2 M2 => ?_) (se A d).length (se A d) [] h rfl (by simp) ag_rf rfl (by simpa using M)
        · rw [e, snts_app, snts_app, show snts A [d] = (se A d).reverse by rw [snts_cons]; simp [snts]]
          simp
        · rw [show nI (k.length + m) + (-1) = nI (k.length + m) - 1 by grind]
          refine ih u (d :: t2) h' hu (by rw [e]; simp) (ag_tr g g2) (by rw [r2, r]) ?_
          rw [snts_cons]; exact M2
  refine b113_0 _ _ h0 Q ?_
  have := L1 t.length t [] h0 rfl (by simp) ag_rf rfl (by show MD n (shF A (A.1 42 p) []) h0; rw [shF_nil]; exact hM)
  rw [List.length_append] at this ⊢
  exact this
