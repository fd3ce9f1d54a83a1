/-! The relation between the abstract heap and the machine's -/
def ss (n : Nat) (H : Heap) : Nat := ((H.toList.drop n).map (·.slots.size)).sum
/-- the parameters: class ids, slots, array class ids, base, the heap at the law's start, the script's cell, length and values -/
abbrev PM : Type := (Nat → ClassId) × (Nat → Nat → Nat) × (Nat → ClassId) × Nat × Heap × Nat × Nat × (Nat → Int32)
abbrev pC (P : PM) : Nat → ClassId := P.1
abbrev pI (P : PM) : Nat → Nat → Nat := P.2.1
abbrev pT (P : PM) : Nat → ClassId := P.2.2.1
abbrev pB (P : PM) : Nat := P.2.2.2.1
abbrev pG (P : PM) : Heap := P.2.2.2.2.1
abbrev pS (P : PM) : Nat := P.2.2.2.2.2.1
abbrev pL (P : PM) : Nat := P.2.2.2.2.2.2.1
abbrev pX (P : PM) : Nat → Int32 := P.2.2.2.2.2.2.2
abbrev AD : Type := Nat → Int32 → Nat
def tysP (tc : Nat → ClassId) : List (ClassId × FieldType) := [(tc 0, .int), (tc 1, .boolean), (tc 2, .object RX1), (tc 3, .object RX3), (tc 4, .object RX7)]
def KK (P : PM) (U : State) : Prop := va_K (pC P, pI P) vwCl (tysP (pT P)) U ∧ va_X (pS P) (pL P) (pX P) U (pG P) ∧ pS P < pB P ∧ pL P ≤ 3072 ∧ (∀ q ∈ nwords, va_Nw (nwW q) U) ∧ va_AO RX1 U ∧ va_AO RX3 U ∧ va_AO RX7 U
theorem KK.same {P : PM} {u U : State} (hvm : u.vm = U.vm) (h : KK P u) : KK P U := by
  have ha : u.vm.Alike U.vm := by rw [hvm]; exact Vm.Alike.refl _
  exact ⟨va_K.moved ha h.1, h.2.1.moved ha, h.2.2.1, h.2.2.2.1, fun q hq => va_Nw.same rfl hvm (h.2.2.2.2.1 q hq), h.2.2.2.2.2.1.moved ha, h.2.2.2.2.2.2.1.moved ha, h.2.2.2.2.2.2.2.moved ha⟩
theorem KK.warm {P : PM} {u U : State} (hW : u.WarmedH U.vm) (h : KK P u) : KK P U :=
  ⟨va_K.moved hW.alike h.1, h.2.1.moved hW.alike, h.2.2.1, h.2.2.2.1, fun q hq => va_Nw.warmM hW (h.2.2.2.2.1 q hq), h.2.2.2.2.2.1.moved hW.alike, h.2.2.2.2.2.2.1.moved hW.alike, h.2.2.2.2.2.2.2.moved hW.alike⟩
def cv (ad : AD) (v : AV) : Value := bif Nat.beq v.1 0 then .int v.2 else if v.2 = -1 then .null else .ref (ad v.1 v.2)
def sv (ad : AD) (h : HP) (f : Nat) (j : Int32) (k : Nat) : Value := match styT f k with
  | (0, _, _) => .int (h f j (nI k))
  | (1, _, _) => .int (h f j (nI k))
  | (2, f', _) => .ref (ad f' j)
  | (5, f', o) => .ref (ad f' o)
  | (3, f', _) => cv ad (f', h f j (nI k))
  | (4, f', _) => if h f j (nI k) = 1 then .ref (ad f' j) else .null
  | (6, f', o) => if h f j (nI k) = 1 then .ref (ad f' o) else .null
  | _ => .null
def fl (h : HP) (f : Nat) (j : Int32) : Prop := h f j (-1) = 1 ∧ 1 ≤ (famT f).1 ∧ (famT f).1 ≤ 3
def vd (h : HP) (v : AV) : Prop := v.1 = 0 ∨ fl h v.1 v.2 ∨ (nulT v.1 = true ∧ v.2 = -1) ∨ v = (85, 0)
def cellOK (P : PM) (ad : AD) (h : HP) (H : Heap) (f : Nat) (j : Int32) : Prop :=
  ((famT f).1 ≤ 2 → t_OB (ad f j) (pC P (famT f).2.1) (famT f).2.2 (pI P (famT f).2.1) H (sv ad h f j)) ∧
  ((famT f).1 = 3 → H[ad f j]? = some (arrV (pT P (famT f).2.1) (famT f).2.2 (sv ad h f j)))
def slotV (h : HP) (f : Nat) (j : Int32) (k : Nat) : Prop := match styT f k with
  | (2, f', _) => fl h f' j
  | (5, f', o) => fl h f' o
  | (3, f', _) => vd h (f', h f j (nI k))
  | (4, f', _) => h f j (nI k) = 1 → fl h f' j
  | (6, f', o) => h f j (nI k) = 1 → fl h f' o
  | _ => True
def Rel (P : PM) (ad : AD) (h : HP) (H : Heap) : Prop :=
  pB P ≤ H.size ∧ (∀ q, q < pB P → H[q]? = (pG P)[q]?) ∧ (h 0 0 0).toInt = (H.size : Int) - pB P ∧ (h 0 0 1).toInt = ss (pB P) H ∧ H.size ≤ pB P + 600000 ∧ ss (pB P) H ≤ 7302250 ∧
  (∀ f j, fl h f j → cellOK P ad h H f j ∧ pB P ≤ ad f j ∧ ad f j < H.size ∧ ¬ j = -1 ∧ ∀ k, k < (famT f).2.2 → slotV h f j k) ∧
  (∀ f j f' j', fl h f j → fl h f' j' → ad f j = ad f' j' → f = f' ∧ j = j') ∧
  (h 85 0 (-2) = nI (pL P) ∧ (∀ i, ina i (nI (pL P)) → h 85 0 i = pX P i.toNatClampNeg) ∧ ad 85 0 = pS P)
def Ext (h0 : HP) (ad0 : AD) (h : HP) (ad : AD) : Prop := (∀ f j, fl h0 f j → fl h f j ∧ ad f j = ad0 f j) ∧ ad 85 0 = ad0 85 0
theorem Ext.rf {h : HP} {ad : AD} : Ext h ad h ad := ⟨fun _ _ q => ⟨q, rfl⟩, rfl⟩
theorem Ext.tr {h0 h1 h2 : HP} {a0 a1 a2 : AD} (x : Ext h0 a0 h1 a1) (y : Ext h1 a1 h2 a2) : Ext h0 a0 h2 a2 := ⟨fun f j q => ⟨(y.1 f j (x.1 f j q).1).1, (y.1 f j (x.1 f j q).1).2.trans (x.1 f j q).2⟩, y.2.trans x.2⟩
theorem cv_cat (ad : AD) (v : AV) : (cv ad v).category = 1 := by
  unfold cv
  cases Nat.beq v.1 0
  · simp only [cond_false]
    split <;> rfl
  · rfl
theorem fam0 : famT 0 = (0, 0, 0) := by decide +kernel
theorem fam85 : famT 85 = (4, 0, 0) := by decide +kernel
theorem fl_ne0 {h : HP} {f : Nat} {j : Int32} (q : fl h f j) : f ≠ 0 := by
  intro e
  subst e
  have := q.2.1
  rw [fam0] at this
  exact absurd this (by decide)
theorem fl_ne85 {h : HP} {f : Nat} {j : Int32} (q : fl h f j) : f ≠ 85 := by
  intro e
  subst e
  have := q.2.2
  rw [fam85] at this
  exact absurd this (by decide)
theorem cv_ext {h0 h : HP} {ad0 ad : AD} (x : Ext h0 ad0 h ad) {v : AV} (hv : vd h0 v) : cv ad v = cv ad0 v := by
  rcases hv with h1 | h1 | ⟨h1, h2⟩ | h1
  · simp [cv, h1]
  · simp only [cv, (x.1 _ _ h1).2]
  · simp [cv, h2]
  · subst h1
    simp only [cv, x.2]
theorem vd_ext {h0 h : HP} {ad0 ad : AD} (x : Ext h0 ad0 h ad) {v : AV} (hv : vd h0 v) : vd h v := by
  rcases hv with h1 | h1 | h1 | h1
  · exact Or.inl h1
  · exact Or.inr (Or.inl (x.1 _ _ h1).1)
  · exact Or.inr (Or.inr (Or.inl h1))
  · exact Or.inr (Or.inr (Or.inr h1))
theorem cv_int (ad : AD) (x : Int32) : cv ad (0, x) = .int x := rfl
theorem cv_int' (ad : AD) {v : AV} (h : Nat.beq v.1 0 = true) : cv ad v = .int v.2 := by simp only [cv, h, cond_true]
theorem cv_ref {P : PM} {ad : AD} {h : HP} {H : Heap} (r : Rel P ad h H) {f : Nat} {j : Int32} (q : fl h f j) : cv ad (f, j) = .ref (ad f j) := by
  have h0 : Nat.beq f 0 = false := by
    cases hb : Nat.beq f 0 with
    | false => rfl
    | true => exact absurd (Nat.eq_of_beq_eq_true hb) (fl_ne0 q)
  have hj := (r.2.2.2.2.2.2.1 f j q).2.2.2.1
  simp only [cv, h0, cond_false, if_neg hj]
/-! locals -/
def lp (ad : AD) : Nat → List AV → List (Nat × Value)
  | _, [] => []
  | i, v :: t => bif Nat.beq v.1 500 then lp ad (i + 1) t else (i, cv ad v) :: lp ad (i + 1) t
theorem mem_lp {ad : AD} {q : Nat × Value} : ∀ {i : Nat} {l : List AV}, q ∈ lp ad i l ↔ ∃ k v, l[k]? = some v ∧ Nat.beq v.1 500 = false ∧ q = (i + k, cv ad v)
  | i, [] => by simp [lp]
  | i, v :: t => by
    have ih := @mem_lp ad q (i + 1) t
    have key : (∃ k w, t[k]? = some w ∧ Nat.beq w.1 500 = false ∧ q = (i + 1 + k, cv ad w)) ↔ ∃ k w, (v :: t)[k + 1]? = some w ∧ Nat.beq w.1 500 = false ∧ q = (i + (k + 1), cv ad w) := by
      constructor
      · rintro ⟨k, w, h1, h2, h3⟩
        exact ⟨k, w, by simpa using h1, h2, by rw [h3]; congr 1; omega⟩
      · rintro ⟨k, w, h1, h2, h3⟩
        exact ⟨k, w, by simpa using h1, h2, by rw [h3]; congr 1; omega⟩
    unfold lp
    cases hb : Nat.beq v.1 500 with
    | true =>
      simp only [cond_true]
      rw [ih, key]
      constructor
      · rintro ⟨k, w, h⟩
        exact ⟨k + 1, w, h⟩
      · rintro ⟨k, w, h1, h2, h3⟩
        cases k with
        | zero =>
          simp only [List.getElem?_cons_zero, Option.some.injEq] at h1
          subst h1
          rw [hb] at h2
          cases h2
        | succ k => exact ⟨k, w, h1, h2, h3⟩
    | false =>
      simp only [cond_false, List.mem_cons]
      rw [ih, key]
      constructor
      · rintro (h | ⟨k, w, h⟩)
        · exact ⟨0, v, rfl, hb, h⟩
        · exact ⟨k + 1, w, h⟩
      · rintro ⟨k, w, h1, h2, h3⟩
        cases k with
        | zero =>
          simp only [List.getElem?_cons_zero, Option.some.injEq] at h1
          subst h1
          exact Or.inl h3
        | succ k => exact Or.inr ⟨k, w, h1, h2, h3⟩
theorem lp_at {ad : AD} {ls : List AV} {lsC : Array Slot} {nL : Nat} (hl : lv_has lsC nL (lp ad 0 ls)) {n : Nat} {v : AV} (hv : ls[n]? = some v) (hb : Nat.beq v.1 500 = false) : lsC[n]? = some (.val (cv ad v)) :=
  hl.2.2 (n, cv ad v) (mem_lp.mpr ⟨n, v, hv, hb, by simp⟩)
theorem lp_store {ad : AD} {ls : List AV} {lsC : Array Slot} {nL n : Nat} {w : AV} (hl : lv_has lsC nL ((n, cv ad w) :: (lp ad 0 ls).filter (fun q => !(q.1 == n) && !(q.1 + 1 == n && q.2.category == 2)))) : lv_has lsC nL (lp ad 0 (ls.set n w)) := by
  refine ⟨hl.1, hl.2.1, fun q hq => ?_⟩
  obtain ⟨k, v, h1, h2, h3⟩ := mem_lp.mp hq
  rw [Nat.zero_add] at h3
  by_cases hk : k = n
  · subst hk
    have : v = w := by
      rw [List.getElem?_set] at h1
      split at h1
      · split at h1
        · exact (Option.some.inj h1).symm
        · cases h1
      · rename_i hne
        exact absurd rfl hne
    subst this
    exact hl.2.2 q (by rw [h3]; exact List.mem_cons_self)
  · rw [List.getElem?_set_ne (Ne.symm hk)] at h1
    refine hl.2.2 q (List.mem_cons_of_mem _ (List.mem_filter.mpr ⟨mem_lp.mpr ⟨k, v, h1, h2, by simp [h3]⟩, ?_⟩))
    rw [h3]
    simp [hk, cv_cat]
theorem lp_ext {h0 h : HP} {ad0 ad : AD} (x : Ext h0 ad0 h ad) : ∀ {ls : List AV} {i : Nat}, (∀ v ∈ ls, v.1 = 500 ∨ vd h0 v) → lp ad i ls = lp ad0 i ls
  | [], _, _ => rfl
  | v :: t, i, hv => by
    unfold lp
    rw [lp_ext x fun w hw => hv w (List.mem_cons_of_mem _ hw)]
    rcases hv v List.mem_cons_self with h1 | h1
    · rw [h1]; rfl
    · rw [cv_ext x h1]
theorem st_ext {h0 h : HP} {ad0 ad : AD} (x : Ext h0 ad0 h ad) : ∀ {st : List AV}, (∀ v ∈ st, vd h0 v) → st.map (cv ad) = st.map (cv ad0)
  | [], _ => rfl
  | v :: t, hv => by
    rw [List.map_cons, List.map_cons, cv_ext x (hv v List.mem_cons_self), st_ext x fun w hw => hv w (List.mem_cons_of_mem _ hw)]
/-! sizes -/
theorem ss_eq {n : Nat} {H H' : Heap} (hz : H'.size = H.size) (h : ∀ (q : Nat) (c : Cell), H[q]? = some c → ∃ c', H'[q]? = some c' ∧ c'.slots.size = c.slots.size) : ss n H' = ss n H := by
  unfold ss
  congr 1
  apply List.ext_getElem?
  intro i
  simp only [List.getElem?_map, List.getElem?_drop, Array.getElem?_toList]
  cases hc : H[n + i]? with
  | none =>
    have : H'[n + i]? = none := by
      rw [Array.getElem?_eq_none_iff] at hc ⊢
      omega
    rw [this]
  | some c =>
    obtain ⟨c', h1, h2⟩ := h _ _ hc
    rw [h1]
    simp [h2]
theorem ss_push {n : Nat} {H : Heap} {c : Cell} (hn : n ≤ H.size) : ss n (H.push c) = ss n H + c.slots.size := by
  unfold ss
  rw [Array.toList_push, List.drop_append_of_le_length (by simpa using hn)]
  simp
theorem ss_split {n m : Nat} {H : Heap} (hnm : n ≤ m) : ss n H = (((H.toList.drop n).take (m - n)).map (·.slots.size)).sum + ss m H := by
  unfold ss
  have : H.toList.drop m = (H.toList.drop n).drop (m - n) := by rw [List.drop_drop]; congr 1; omega
  rw [this, ← List.sum_append, ← List.map_append, List.take_append_drop]
theorem stand_tight {p : Program} {l : Launch} {e : Env} {R : Room} {s : State} {m : MethodId} {args : Array Value} {below : List Frame} {meth : Method} {c : Code} {T : State} {locs : List Loc} {cells slots base : Nat} (hb : base ≤ s.heap.size)
    (X : Stand p l e R s m args below meth c T locs cells slots) : Stand p l e R s m args below meth c T locs (T.heap.size - s.heap.size) (ss base T.heap - ss base s.heap) := by
  obtain ⟨h1, h2, h3, h4, h5, h6⟩ := X.same
  refine { X with same := ⟨h1, h2, ?_, h4, ?_, h6⟩ }
  · show T.heap.size ≤ _
    have : s.heap.size ≤ T.heap.size := h2
    omega
  · show ss s.heap.size T.heap ≤ _
    have e1 := ss_split (H := T.heap) hb
    have e2 := ss_split (H := s.heap) hb
    have e3 : ss s.heap.size s.heap = 0 := by
      unfold ss
      rw [List.drop_eq_nil_of_le (by simp)]
      rfl
    have e4 : ((T.heap.toList.drop base).take (s.heap.size - base)).map (·.slots.size) = ((s.heap.toList.drop base).take (s.heap.size - base)).map (·.slots.size) := by
      apply List.ext_getElem?
      intro i
      simp only [List.getElem?_map, List.getElem?_take, List.getElem?_drop, Array.getElem?_toList]
      by_cases hi : i < s.heap.size - base
      · rw [if_pos hi, if_pos hi]
        have hlt : base + i < s.heap.size := by omega
        obtain ⟨c', g1, -, g3, -⟩ := h6 (base + i) s.heap[base + i] (Array.getElem?_eq_getElem hlt)
        have g1 : T.heap[base + i]? = some c' := g1
        rw [g1, Array.getElem?_eq_getElem hlt]
        simp [g3]
      · rw [if_neg hi, if_neg hi]
    rw [e4] at e1
    omega
theorem W_tight {p : Program} {l : Launch} {e : Env} {R : Room} {s : State} {m : MethodId} {args : Array Value} {below : List Frame} {meth : Method} {c : Code} {H : Heap} {locs : List Loc} {cells slots : Nat} {Q : State → Prop} {g : JFrame} (base : Nat) (hb : base ≤ s.heap.size)
    (k : W p l e R s m args below meth c H locs (H.size - s.heap.size) (ss base H - ss base s.heap) Q g) : W p l e R s m args below meth c H locs cells slots Q g := by
  intro T hT X
  have X' := stand_tight hb X
  rw [hT] at X'
  exact k T hT X'
