/-! 44: what always holds of the yard -/
def pnd (A : SY) : List PT := wy A ++ cm A
def lv (A : SY) (e : Int32) : Prop := ¬ hw A e = 4 ∧ A.1 61 e = 0 ∧ ¬ (e, true) ∈ pnd A
def SNT (a : AT) (p m : Int32) : Int32 → List Int32 → List (Int32 × Int32 × Int32) → Prop
  | _, [], [] => True
  | c, f :: fs, o :: os => (a 54 f = o.1 ∧ a 55 f = o.2.1 ∧ a 56 f = m ∧ a 57 f = p ∧ a 58 f = c ∧ a 59 f = o.2.2) ∧ SNT a p m (c + 1) fs os
  | _, _, _ => False
def wAt (a : AT) (p : Int32) (pre : List Int32) (d : Int32) : WK := actsF a p (a 55 d) (a 59 d) (rp a p pre)
def RES (A : SY) (p : Int32) (pre : List Int32) (d : Int32) : Prop :=
  A.1 62 d = (wAt A.1 p pre d).2.2.2.1 ∧ pr A d = (wAt A.1 p pre d).2.2.2.2.2 ∧ SNT A.1 p (A.1 55 d) (rp A.1 p pre).2.2 (se A d) (wAt A.1 p pre d).2.2.2.2.1
def YVr (A : SY) : Prop := RU A.1 ∧ (0 ≤ nE A ∧ nE A ≤ 400) ∧
  (∀ e, ina e (nE A) → ina (pa A e) (nP A) ∧ (0 ≤ A.1 55 e ∧ A.1 55 e ≤ 100000) ∧ (hw A e = 0 ∨ hw A e = 1 ∨ hw A e = 3 ∨ hw A e = 4) ∧ (A.1 61 e = 0 ∨ A.1 61 e = 1)) ∧
  (∀ e, ina e 400 → nE A ≤ e → A.1 61 e = 0)
def YVd (A : SY) : Prop := (∀ p d, d ∈ dn A p → ina d (nE A) ∧ hw A d = 1 ∧ pa A d = p) ∧ (∀ e, ina e (nE A) → hw A e = 1 → e ∈ dn A (pa A e)) ∧
  (∀ p, (dn A p).Pairwise (bel A.1)) ∧ (∀ e, ina e (nE A) → hw A e = 0 → ∀ d, d ∈ dn A (pa A e) → bel A.1 d e)
def YVq (A : SY) : Prop := (pnd A).Nodup ∧ (∀ e, (e, false) ∈ pnd A ↔ ina e (nE A) ∧ hw A e = 3) ∧
  (∀ e, (e, true) ∈ pnd A → ina e (nE A) ∧ A.1 61 e = 0 ∧ ¬ hw A e = 4 ∧ ¬ A.1 57 e = -1) ∧ (∀ e, ina e (nE A) → A.1 61 e = 1 → hw A e = 3 ∧ ¬ A.1 57 e = -1)
def YVl (A : SY) : Prop := (∀ e, ina e (nE A) → lv A e → ¬ A.1 57 e = -1 → ∃ d, ina d (nE A) ∧ hw A d = 1 ∧ e ∈ se A d) ∧
  (∀ d, ina d (nE A) → hw A d = 1 → ∀ f, f ∈ se A d → ina f (nE A) ∧ lv A f)
def YVc (A : SY) : Prop := ∀ p pre d post, dn A p = pre ++ d :: post → RES A p pre d
def YVs (A : SY) : Prop := (∀ e, ina e (nE A) → (A.1 57 e = -1 ∧ A.1 56 e = -1 ∧ 0 ≤ A.1 58 e ∧ A.1 58 e < A.1 10 14 ∧ ¬ hw A e = 4) ∨ (0 ≤ A.1 57 e ∧ 0 ≤ A.1 56 e)) ∧
  (∀ e f, ina e (nE A) → ina f (nE A) → A.1 57 e = -1 → A.1 57 f = -1 → A.1 58 e = A.1 58 f → e = f) ∧ (0 ≤ A.1 10 14 ∧ A.1 10 14 ≤ nE A)
def YV (A : SY) : Prop := YVr A ∧ YVd A ∧ YVq A ∧ YVl A ∧ YVc A ∧ YVs A
/-- same rules -/
def SR (a b : AT) : Prop := b 10 0 = a 10 0 ∧ ∀ f, 43 ≤ f → f ≤ 49 → b f = a f
theorem oneF_sr {a b : AT} (h : SR a b) (p k m v : Int32) (w : WK) : oneF b p k m v w = oneF a p k m v w := by
  unfold oneF
  rw [h.1, h.2 43 (by decide) (by decide), h.2 44 (by decide) (by decide), h.2 46 (by decide) (by decide), h.2 47 (by decide) (by decide), h.2 48 (by decide) (by decide), h.2 49 (by decide) (by decide)]
theorem actsL_sr {a b : AT} (h : SR a b) (p m v : Int32) : ∀ (n : Nat) (k : Int32) (w : WK), actsL b p m v n k w = actsL a p m v n k w
  | 0, _, _ => rfl
  | n + 1, k, w => by
    have e : stp b p k w = stp a p k w := by
      unfold stp
      rw [h.2 46 (by decide) (by decide), h.2 47 (by decide) (by decide), h.2 48 (by decide) (by decide)]
    unfold actsL
    rw [actsL_sr h p m v n, oneF_sr h, e, h.2 45 (by decide) (by decide)]
theorem actsF_sr {a b : AT} (h : SR a b) (p m v : Int32) (z : ZT) : actsF b p m v z = actsF a p m v z := actsL_sr h p m v 8 0 _
theorem rpF_cons (a : AT) (p : Int32) (z : ZT) (x : Int32) (l : List Int32) : rpF a p z (x :: l) = rpF a p (stF (actsF a p (a 55 x) (a 59 x) z)) l := by
  unfold rpF; rw [List.foldl_cons]
theorem rpF_sr {a b : AT} (h : SR a b) (p : Int32) (l : List Int32) : ∀ (z : ZT), (∀ e, e ∈ l → b 55 e = a 55 e ∧ b 59 e = a 59 e) → rpF b p z l = rpF a p z l := by
  induction l with
  | nil => intro z _; unfold rpF; rw [List.foldl_nil, List.foldl_nil]
  | cons x l ih =>
    intro z g
    rw [rpF_cons, rpF_cons, actsF_sr h, (g x (by simp)).1, (g x (by simp)).2]
    exact ih _ fun e he => g e (by simp [he])
theorem rp_sr {a b : AT} (h : SR a b) (p : Int32) (l : List Int32) (g : ∀ e, e ∈ l → b 55 e = a 55 e ∧ b 59 e = a 59 e) : rp b p l = rp a p l := rpF_sr h p l _ g
theorem rp_snoc (a : AT) (p : Int32) (l : List Int32) (d : Int32) : rp a p (l ++ [d]) = stF (wAt a p l d) := by
  unfold rp rpF wAt rp rpF
  rw [List.foldl_append]
  rfl
theorem klt_co {a b : AT} (h : ∀ f, 55 ≤ f → f ≤ 58 → b f = a f) (e f : Int32) : klt b e f = klt a e f := by
  unfold klt
  rw [h 55 (by decide) (by decide), h 56 (by decide) (by decide), h 57 (by decide) (by decide), h 58 (by decide) (by decide)]
theorem keq_co {a b : AT} (h : ∀ f, 55 ≤ f → f ≤ 58 → b f = a f) (e f : Int32) : keq b e f = keq a e f := by
  unfold keq
  rw [h 55 (by decide) (by decide), h 56 (by decide) (by decide), h 57 (by decide) (by decide), h 58 (by decide) (by decide)]
theorem bel_co {a b : AT} (h : ∀ f, 55 ≤ f → f ≤ 58 → b f = a f) : bel b = bel a := by
  funext e f
  unfold bel
  rw [klt_co h, keq_co h]
theorem klt_pt {a b : AT} {e f : Int32} (h : ∀ g, 55 ≤ g → g ≤ 58 → b g e = a g e ∧ b g f = a g f) : klt b e f = klt a e f := by
  have h1 := h 55 (by decide) (by decide)
  have h2 := h 56 (by decide) (by decide)
  have h3 := h 57 (by decide) (by decide)
  have h4 := h 58 (by decide) (by decide)
  unfold klt
  rw [h1.1, h1.2, h2.1, h2.2, h3.1, h3.2, h4.1, h4.2]
theorem bel_pt {a b : AT} {e f : Int32} (h : ∀ g, 55 ≤ g → g ≤ 58 → b g e = a g e ∧ b g f = a g f) : bel b e f = bel a e f := by
  have h1 := h 55 (by decide) (by decide)
  have h2 := h 56 (by decide) (by decide)
  have h3 := h 57 (by decide) (by decide)
  have h4 := h 58 (by decide) (by decide)
  unfold bel keq
  rw [klt_pt h, h1.1, h1.2, h2.1, h2.2, h3.1, h3.2, h4.1, h4.2]
theorem rem_in {b n : Int32} (hn : 0 < n) (hb : 0 ≤ b ∧ b ≤ 15) (h12 : n ≤ 12) : ina (b - b / n * n) n := by
  have key : ∀ b : Fin 16, ∀ n : Fin 12, ina (nI b.val - nI b.val / nI (n.val + 1) * nI (n.val + 1)) (nI (n.val + 1)) := by unfold ina; decide +kernel
  obtain ⟨b', rfl, hb'⟩ := nJ_exlt (N := 16) (i := b) (by decide) hb.1 (Int32.lt_of_le_of_lt hb.2 (by decide))
  obtain ⟨n', rfl, hn'⟩ := nJ_exlt (N := 13) (i := n) (by decide) (Int32.le_of_lt hn) (Int32.lt_of_le_of_lt h12 (by decide))
  have : n' ≠ 0 := fun z => by rw [z] at hn; exact absurd hn (by decide)
  have := key ⟨b', hb'⟩ ⟨n' - 1, by omega⟩
  simp only [show n' - 1 + 1 = n' by omega] at this
  exact this
/-- what the acts send: later, to a part; as many as the state counts -/
theorem oneF_o {a : AT} {p k m v : Int32} {w : WK} {c : Int32} (hR : RU a) (hp : ina p (a 10 0)) (hk : 0 ≤ k) (hk2 : k < a 45 p) (hm : 0 ≤ m ∧ m ≤ 100000)
    (h1 : ∀ o, o ∈ w.2.2.2.2.1 → ina o.1 (a 10 0) ∧ m < o.2.1 ∧ o.2.1 ≤ 100000) (h2 : w.2.2.1 = c + nI w.2.2.2.2.1.length) :
    (∀ o, o ∈ (oneF a p k m v w).2.2.2.2.1 → ina o.1 (a 10 0) ∧ m < o.2.1 ∧ o.2.1 ≤ 100000) ∧ (oneF a p k m v w).2.2.1 = c + nI (oneF a p k m v w).2.2.2.2.1.length := by
  have hp12 : ina p 12 := by have := hR.1; unfold ina at *; grind
  have q := hR.2.2 p k hp12 hk hk2
  unfold oneF
  split
  · exact ⟨h1, h2⟩
  split
  · exact ⟨h1, h2⟩
  split
  · split
    · split
      · refine ⟨fun o ho => ?_, ?_⟩
        · rcases List.mem_append.mp ho with ho | ho
          · exact h1 o ho
          · rw [List.mem_singleton] at ho
            subst ho
            refine ⟨?_, by grind, by assumption⟩
            exact rem_in (by unfold ina at hp; have := hR.1; grind) q.2.2.1 hR.1.2
        · show w.2.2.1 + 1 = c + nI (w.2.2.2.2.1 ++ [_]).length
          rw [List.length_append, nJ_add, h2]
          show c + nI w.2.2.2.2.1.length + 1 = c + (nI w.2.2.2.2.1.length + 1)
          grind
      · exact ⟨h1, h2⟩
    · exact ⟨h1, h2⟩
  split
  · split
    · exact ⟨h1, h2⟩
    · split
      · exact ⟨h1, h2⟩
      · exact ⟨h1, h2⟩
  split
  · exact ⟨h1, h2⟩
  split
  · exact ⟨h1, h2⟩
  split
  · split
    · exact ⟨h1, h2⟩
    · exact ⟨h1, h2⟩
  split
  · exact ⟨h1, h2⟩
  · exact ⟨h1, h2⟩
theorem actsL_o {a : AT} {p m v c : Int32} (hR : RU a) (hp : ina p (a 10 0)) (hm : 0 ≤ m ∧ m ≤ 100000) : ∀ (n kk : Nat) (w : WK), kk ≤ 12 →
    (∀ o, o ∈ w.2.2.2.2.1 → ina o.1 (a 10 0) ∧ m < o.2.1 ∧ o.2.1 ≤ 100000) → w.2.2.1 = c + nI w.2.2.2.2.1.length →
    (∀ o, o ∈ (actsL a p m v n (nI kk) w).2.2.2.2.1 → ina o.1 (a 10 0) ∧ m < o.2.1 ∧ o.2.1 ≤ 100000) ∧ (actsL a p m v n (nI kk) w).2.2.1 = c + nI (actsL a p m v n (nI kk) w).2.2.2.2.1.length := by
  intro n
  induction n with
  | zero => intro kk w h0 h1 h2; exact ⟨h1, h2⟩
  | succ n ih =>
    intro kk w h0 h1 h2
    unfold actsL
    split
    · exact ⟨h1, h2⟩
    · split
      · exact ⟨h1, h2⟩
      · rename_i z _
        have hp12 : ina p 12 := by have := hR.1; unfold ina at *; grind
        have q1 := (hR.2.1 p hp12).2
        have hlt : nI kk < a 45 p := by grind
        have hk8 : kk < 8 := by
          have : nI kk < nI 8 := Int32.lt_of_lt_of_le hlt q1.2
          exact (nJ_lt (by omega) (by omega)).mp this
        obtain ⟨s, hs, hs1, hs2⟩ := stpN a p (nI kk) w
        have bb := oneF_o (v := v) (c := c) hR hp (nJ_nn (by omega)) hlt hm h1 h2
        rw [hs, ← nJ_add]
        exact ih (kk + s) _ (by omega) bb.1 bb.2
theorem actsF_o {a : AT} {p m v : Int32} {z : ZT} (hR : RU a) (hp : ina p (a 10 0)) (hm : 0 ≤ m ∧ m ≤ 100000) :
    (∀ o, o ∈ (actsF a p m v z).2.2.2.2.1 → ina o.1 (a 10 0) ∧ m < o.2.1 ∧ o.2.1 ≤ 100000) ∧ (actsF a p m v z).2.2.1 = z.2.2 + nI (actsF a p m v z).2.2.2.2.1.length :=
  actsL_o hR hp hm 8 0 (z.1, z.2.1, z.2.2, 0, [], []) (by omega) (fun o ho => by cases ho) (by show z.2.2 = z.2.2 + 0; grind)
theorem SNT_len {a : AT} {p m : Int32} : ∀ {c : Int32} {fs : List Int32} {os : List (Int32 × Int32 × Int32)}, SNT a p m c fs os → fs.length = os.length
  | _, [], [], _ => rfl
  | _, _ :: fs, _ :: os, h => by simp [SNT_len h.2]
theorem SNT_mem {a : AT} {p m : Int32} : ∀ {c : Int32} {fs : List Int32} {os : List (Int32 × Int32 × Int32)}, SNT a p m c fs os → ∀ f, f ∈ fs → a 57 f = p ∧ a 56 f = m ∧ ∃ o, o ∈ os ∧ a 54 f = o.1 ∧ a 55 f = o.2.1
  | _, [], _, _, f, hf => by cases hf
  | _, x :: fs, o :: os, h, f, hf => by
    rcases List.mem_cons.mp hf with rfl | hf
    · exact ⟨h.1.2.2.2.1, h.1.2.2.1, o, by simp, h.1.1, h.1.2.1⟩
    · obtain ⟨q1, q2, o', q3, q4⟩ := SNT_mem h.2 f hf
      exact ⟨q1, q2, o', by simp [q3], q4⟩
theorem SNT_co {a b : AT} {p m : Int32} : ∀ {c : Int32} {fs : List Int32} {os : List (Int32 × Int32 × Int32)}, (∀ f, f ∈ fs → ∀ g, 54 ≤ g → g ≤ 59 → b g f = a g f) → SNT a p m c fs os → SNT b p m c fs os
  | _, [], [], _, _ => trivial
  | _, x :: fs, o :: os, g, h => by
    have g' := g x (by simp)
    refine ⟨?_, SNT_co (fun f hf => g f (by simp [hf])) h.2⟩
    rw [g' 54 (by decide) (by decide), g' 55 (by decide) (by decide), g' 56 (by decide) (by decide), g' 57 (by decide) (by decide), g' 58 (by decide) (by decide), g' 59 (by decide) (by decide)]
    exact h.1
/-- counts go up by one along a row -/
def PLC (a : AT) : Int32 → List Int32 → Prop
  | _, [] => True
  | c, f :: fs => a 58 f = c ∧ PLC a (c + 1) fs
theorem PLC_app {a : AT} : ∀ {l m : List Int32} {c : Int32}, PLC a c l → PLC a (c + nI l.length) m → PLC a c (l ++ m)
  | [], m, c, _, h => by simpa [nJ_0] using h
  | x :: l, m, c, h, h2 => ⟨h.1, PLC_app h.2 (by
      rw [List.length_cons, nJ_s] at h2
      rwa [show c + 1 + nI l.length = c + (nI l.length + 1) by grind])⟩
theorem PLC_get {a : AT} : ∀ {l : List Int32} {c : Int32}, PLC a c l → ∀ f, f ∈ l → ∃ k : Nat, k < l.length ∧ a 58 f = c + nI k
  | x :: l, c, h, f, hf => by
    rcases List.mem_cons.mp hf with rfl | hf
    · exact ⟨0, by simp, by rw [nJ_0]; rw [h.1]; grind⟩
    · obtain ⟨k, hk, e⟩ := PLC_get h.2 f hf
      exact ⟨k + 1, by simp; omega, by rw [e, nJ_s]; grind⟩
theorem PLC_nd {a : AT} : ∀ {l : List Int32} {c : Int32}, l.length < 2147483648 → PLC a c l → l.Nodup
  | [], _, _, _ => List.nodup_nil
  | x :: l, c, hl, h => by
    simp only [List.length_cons] at hl
    refine List.nodup_cons.mpr ⟨fun hx => ?_, PLC_nd (by omega) h.2⟩
    obtain ⟨k, hk, e⟩ := PLC_get h.2 x hx
    rw [h.1] at e
    have e2 : nI 0 = nI (k + 1) := by rw [nJ_s, nJ_0]; grind
    have := nJ_inj (by omega) (by omega) e2
    omega
/-- two of one row with the same count are the same -/
theorem PLC_inj {a : AT} : ∀ {l : List Int32} {c : Int32}, l.length < 2147483648 → PLC a c l → ∀ f g, f ∈ l → g ∈ l → a 58 f = a 58 g → f = g
  | x :: l, c, hl, h, f, g, hf, hg, e => by
    simp only [List.length_cons] at hl
    have no : ∀ k : Nat, k < l.length → ¬ c = c + 1 + nI k := fun k hk e1 => by
      have e2 : nI 0 = nI (k + 1) := by rw [nJ_s, nJ_0]; grind
      have := nJ_inj (by omega) (by omega) e2
      omega
    rcases List.mem_cons.mp hf with h1 | h1
    · rcases List.mem_cons.mp hg with h2 | h2
      · rw [h1, h2]
      · obtain ⟨k, hk, e1⟩ := PLC_get h.2 g h2
        rw [h1, h.1, e1] at e
        exact absurd e (no k hk)
    · rcases List.mem_cons.mp hg with h2 | h2
      · obtain ⟨k, hk, e1⟩ := PLC_get h.2 f h1
        rw [h2, h.1, e1] at e
        exact absurd e.symm (no k hk)
      · exact PLC_inj (by omega) h.2 f g h1 h2 e
theorem SNT_PLC {a : AT} {p m : Int32} : ∀ {c : Int32} {fs : List Int32} {os : List (Int32 × Int32 × Int32)}, SNT a p m c fs os → PLC a c fs
  | _, [], _, _ => trivial
  | _, _ :: fs, _ :: os, h => ⟨h.1.2.2.2.2.1, SNT_PLC h.2⟩
theorem rng_len {l : List Int32} {n : Int32} (hn : n ≤ 400) (h : ∀ d, d ∈ l → ina d n) (hd : l.Nodup) : l.length ≤ 400 := by
  have : l ⊆ (List.range 400).map nI := fun d hdl => by
    obtain ⟨k, rfl, hk⟩ := nJ_exlt (N := 400) (by decide) (h d hdl).1 (Int32.lt_of_lt_of_le (h d hdl).2 hn)
    exact List.mem_map.mpr ⟨k, List.mem_range.mpr hk, rfl⟩
  have := hd.length_le_of_subset this
  simpa using this
theorem pw_nd {a : AT} {l : List Int32} (h : l.Pairwise (bel a)) : l.Nodup := h.imp fun q e => by rw [e] at q; exact bel_irr q
theorem drew_b {a : AT} {p : Int32} (hR : RU a) (hp : ina p 12) : ∀ (l : List Int32) (z : ZT), (0 ≤ z.2.1 ∧ z.2.1 ≤ 8) → 0 ≤ (rpF a p z l).2.1 ∧ (rpF a p z l).2.1 ≤ 8
  | [], _, h => h
  | x :: l, z, h => drew_b hR hp l _ (actsF_b hR hp h).2.2
theorem rp_d {a : AT} {p : Int32} (hR : RU a) (hp : ina p 12) (l : List Int32) : 0 ≤ (rp a p l).2.1 ∧ (rp a p l).2.1 ≤ 8 := drew_b hR hp l z0 ⟨by decide, by decide⟩
theorem dn_p {A : SY} (hI : YV A) {p d : Int32} (h : d ∈ dn A p) : ina p (nP A) ∧ ina p 12 ∧ ina d (nE A) ∧ hw A d = 1 ∧ pa A d = p := by
  obtain ⟨h1, h2, h3⟩ := hI.2.1.1 p d h
  have := (hI.1.2.2.1 d h1).1
  have r := hI.1.1.1
  rw [h3] at this
  exact ⟨this, ⟨this.1, Int32.lt_of_lt_of_le this.2 r.2⟩, h1, h2, h3⟩
theorem dn_len {A : SY} (hI : YV A) (p : Int32) : (dn A p).length ≤ 400 := rng_len hI.1.2.1.2 (fun d hd => (hI.2.1.1 p d hd).1) (pw_nd (hI.2.1.2.2.1 p))
theorem J1a {A : SY} (hI : YV A) (p : Int32) : ∀ post pre, dn A p = pre ++ post → PLC A.1 0 (pre.flatMap (se A)) → (rp A.1 p pre).2.2 = nI (pre.flatMap (se A)).length → (pre.flatMap (se A)).length ≤ 8 * pre.length →
    PLC A.1 0 ((pre ++ post).flatMap (se A)) ∧ (rp A.1 p (pre ++ post)).2.2 = nI ((pre ++ post).flatMap (se A)).length ∧ ((pre ++ post).flatMap (se A)).length ≤ 8 * (pre ++ post).length
  | [], pre, _, h1, h2, h3 => by rw [List.append_nil]; exact ⟨h1, h2, h3⟩
  | d :: post, pre, e, h1, h2, h3 => by
    obtain ⟨c1, c2, c3⟩ := hI.2.2.2.2.1 p pre d post e
    have dp := dn_p hI (p := p) (d := d) (by rw [e]; simp)
    have fb := actsF_b (m := A.1 55 d) (v := A.1 59 d) hI.1.1 dp.2.1 (rp_d hI.1.1 dp.2.1 pre)
    have fo := actsF_o (v := A.1 59 d) (z := rp A.1 p pre) hI.1.1 dp.1 (hI.1.2.2.1 d dp.2.2.1).2.1
    have len := SNT_len c3
    have := J1a hI p post (pre ++ [d]) (by rw [e]; simp) (by
      rw [List.flatMap_append]
      refine PLC_app h1 ?_
      rw [Int32.zero_add, ← h2]
      have := SNT_PLC c3
      simpa using this) (by
      rw [rp_snoc, List.flatMap_append, List.length_append, nJ_add, ← h2]
      show (wAt A.1 p pre d).2.2.1 = _
      have e2 : ([d].flatMap (se A)).length = (wAt A.1 p pre d).2.2.2.2.1.length := by simp [len]
      rw [e2]
      exact fo.2) (by
      rw [List.flatMap_append, List.length_append, List.length_append]
      have e2 : ([d].flatMap (se A)).length = (wAt A.1 p pre d).2.2.2.2.1.length := by simp [len]
      have : (wAt A.1 p pre d).2.2.2.2.1.length ≤ 8 := fb.1
      simp only [List.length_cons, List.length_nil]
      omega)
    simpa using this
theorem J1 {A : SY} (hI : YV A) (p : Int32) : PLC A.1 0 ((dn A p).flatMap (se A)) ∧ (rp A.1 p (dn A p)).2.2 = nI ((dn A p).flatMap (se A)).length ∧ ((dn A p).flatMap (se A)).length ≤ 3200 := by
  have := J1a hI p (dn A p) [] rfl trivial rfl (by simp)
  have l := dn_len hI p
  rw [List.nil_append] at this
  exact ⟨this.1, this.2.1, by omega⟩
theorem J2 {A : SY} (hI : YV A) (p : Int32) : ((dn A p).flatMap (se A)).Nodup := PLC_nd (by have := (J1 hI p).2.2; omega) (J1 hI p).1
theorem dn_split {A : SY} {p d : Int32} (h : d ∈ dn A p) : ∃ pre post, dn A p = pre ++ d :: post := by
  obtain ⟨a, b, e⟩ := List.append_of_mem h
  exact ⟨a, b, e⟩
theorem J3 {A : SY} (hI : YV A) {p d f : Int32} (hd : d ∈ dn A p) (hf : f ∈ se A d) : A.1 57 f = p ∧ A.1 56 f = A.1 55 d ∧ A.1 55 d < A.1 55 f ∧ klt A.1 d f := by
  obtain ⟨pre, post, e⟩ := dn_split hd
  obtain ⟨c1, c2, c3⟩ := hI.2.2.2.2.1 p pre d post e
  obtain ⟨q1, q2, o, q3, q4, q5⟩ := SNT_mem c3 f hf
  have dp := dn_p hI hd
  have fo := (actsF_o (v := A.1 59 d) (z := rp A.1 p pre) hI.1.1 dp.1 (hI.1.2.2.1 d dp.2.2.1).2.1).1 o q3
  have : A.1 55 d < A.1 55 f := by rw [q5]; exact fo.2.1
  exact ⟨q1, q2, this, Or.inl this⟩
/-- one event is sent by one event -/
theorem J4 {A : SY} (hI : YV A) {d d' f : Int32} (hd : ina d (nE A)) (h1 : hw A d = 1) (hd' : ina d' (nE A)) (h1' : hw A d' = 1) (hf : f ∈ se A d) (hf' : f ∈ se A d') : d = d' := by
  have m := hI.2.1.2.1 d hd h1
  have m' := hI.2.1.2.1 d' hd' h1'
  have e : pa A d = pa A d' := (J3 hI m hf).1.symm.trans (J3 hI m' hf').1
  rw [← e] at m'
  have nd := J2 hI (pa A d)
  obtain ⟨pre, post, e1⟩ := dn_split m
  rw [e1] at m' nd
  simp only [List.flatMap_append, List.flatMap_cons] at nd
  have n1 := List.nodup_append.mp nd
  have n2 := List.nodup_append.mp n1.2.1
  rcases List.mem_append.mp m' with q | q
  · exact absurd rfl (n1.2.2 f (List.mem_flatMap.mpr ⟨d', q, hf'⟩) f (List.mem_append.mpr (Or.inl hf)))
  · rcases List.mem_cons.mp q with q | q
    · exact q.symm
    · exact absurd rfl (n2.2.2 f hf f (List.mem_flatMap.mpr ⟨d', q, hf'⟩))
theorem snts_mem {A : SY} {t : List Int32} {f : Int32} : f ∈ snts A t ↔ ∃ d, d ∈ t ∧ f ∈ se A d := by
  unfold snts; simp
theorem snts_nd {A : SY} (hI : YV A) {p : Int32} {k t : List Int32} (e : dn A p = k ++ t) : (snts A t).Nodup := by
  have nd := J2 hI p
  rw [e, List.flatMap_append] at nd
  have := (List.nodup_append.mp nd).2.1
  unfold snts
  rw [show (fun d => (se A d).reverse) = List.reverse ∘ se A from rfl, ← List.reverse_flatMap]
  exact (List.reverse_perm _).nodup_iff.mpr this
