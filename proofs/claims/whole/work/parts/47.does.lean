/-! 47: an event is done; a start -/
def mk1 (a : AT) (n p m b s c x : Int32) : AT := sa (sa (sa (sa (sa (sa (sa (sa a 10 13 (n + 1)) 54 n p) 55 n m) 56 n b) 57 n s) 58 n c) 60 n 3) 59 n x
def mkL (p m : Int32) : AT → Int32 → Int32 → List (Int32 × Int32 × Int32) → AT
  | a, _, _, [] => a
  | a, n, c, o :: os => mkL p m (mk1 a n o.1 o.2.1 m p c o.2.2) (n + 1) (c + 1) os
theorem mk1_10 {a : AT} {n p m b s c x : Int32} {k : Int32} : mk1 a n p m b s c x 10 k = if k = 13 then n + 1 else a 10 k := by
  unfold mk1 sa; simp
theorem mk1_old {a : AT} {n p m b s c x : Int32} {f : Nat} {j : Int32} (hf : ¬ f = 10) (hj : ¬ j = n) : mk1 a n p m b s c x f j = a f j := by
  unfold mk1 sa; simp [hf, hj]
theorem mk1_fam {a : AT} {n p m b s c x : Int32} {f : Nat} (hf : ¬ f = 10) (h2 : f < 54 ∨ 60 < f) : mk1 a n p m b s c x f = a f := by
  funext j
  unfold mk1 sa
  simp [hf, show ¬ f = 54 by omega, show ¬ f = 55 by omega, show ¬ f = 56 by omega, show ¬ f = 57 by omega, show ¬ f = 58 by omega, show ¬ f = 59 by omega, show ¬ f = 60 by omega]
theorem mk1_new {a : AT} {n p m b s c x : Int32} : mk1 a n p m b s c x 54 n = p ∧ mk1 a n p m b s c x 55 n = m ∧ mk1 a n p m b s c x 56 n = b ∧ mk1 a n p m b s c x 57 n = s ∧ mk1 a n p m b s c x 58 n = c ∧ mk1 a n p m b s c x 59 n = x ∧ mk1 a n p m b s c x 60 n = 3 := by
  unfold mk1 sa; simp
theorem nums_len : ∀ (n : Int32) (k : Nat), (nums n k).length = k
  | _, 0 => rfl
  | n, k + 1 => by simp [nums, nums_len (n + 1) k]
theorem nums_mem : ∀ {n : Int32} {k : Nat} {j : Int32}, j ∈ nums n k ↔ ∃ i, i < k ∧ j = n + nI i
  | n, 0, j => by simp [nums]
  | n, k + 1, j => by
    unfold nums
    rw [List.mem_cons, nums_mem]
    constructor
    · rintro (rfl | ⟨i, h1, h2⟩)
      · exact ⟨0, by omega, by rw [nJ_0]; grind⟩
      · exact ⟨i + 1, by omega, by rw [h2, nJ_s]; grind⟩
    · rintro ⟨i, h1, h2⟩
      cases i with
      | zero => left; rw [h2, nJ_0]; grind
      | succ i => right; exact ⟨i, by omega, by rw [h2, nJ_s]; grind⟩
theorem nums_nd {n : Int32} {k : Nat} (hk : k ≤ 8) : (nums n k).Nodup := by
  have key : ∀ (k : Nat) (n : Int32), k ≤ 8 → (nums n k).Nodup := by
    intro k
    induction k with
    | zero => intro n _; exact List.nodup_nil
    | succ k ih =>
      intro n hk
      refine List.nodup_cons.mpr ⟨fun h => ?_, ih _ (by omega)⟩
      obtain ⟨i, h1, h2⟩ := nums_mem.mp h
      have e : nI 0 = nI (i + 1) := by rw [nJ_s, nJ_0]; grind
      have := nJ_inj (by omega) (by omega) e
      omega
  exact key k n hk
theorem nums_out {n : Int32} {k : Nat} (hk : k ≤ 8) : ¬ n ∈ nums (n + 1) k := fun h => by
  obtain ⟨i, h1, h2⟩ := nums_mem.mp h
  have e : nI 0 = nI (i + 1) := by rw [nJ_s, nJ_0]; grind
  have := nJ_inj (by omega) (by omega) e
  omega
theorem mkL_old {p m : Int32} : ∀ {os : List (Int32 × Int32 × Int32)} {a : AT} {n c : Int32} {f : Nat} {j : Int32}, ¬ f = 10 → ¬ j ∈ nums n os.length → mkL p m a n c os f j = a f j
  | [], _, _, _, _, _, _, _ => rfl
  | o :: os, a, n, c, f, j, hf, hj => by
    rw [List.length_cons, nums, List.mem_cons, not_or] at hj
    unfold mkL
    rw [mkL_old hf hj.2, mk1_old hf hj.1]
theorem mkL_fam {p m : Int32} : ∀ {os : List (Int32 × Int32 × Int32)} {a : AT} {n c : Int32} {f : Nat}, ¬ f = 10 → (f < 54 ∨ 60 < f) → mkL p m a n c os f = a f
  | [], _, _, _, _, _, _ => rfl
  | o :: os, a, n, c, f, h1, h2 => by unfold mkL; rw [mkL_fam h1 h2, mk1_fam h1 h2]
theorem mkL_10 {p m : Int32} : ∀ {os : List (Int32 × Int32 × Int32)} {a : AT} {n c : Int32}, a 10 13 = n → (mkL p m a n c os 10 13 = n + nI os.length ∧ ∀ k, ¬ k = 13 → mkL p m a n c os 10 k = a 10 k)
  | [], a, n, c, h => ⟨by show a 10 13 = n + 0; rw [h]; grind, fun _ _ => rfl⟩
  | o :: os, a, n, c, h => by
    unfold mkL
    have := mkL_10 (p := p) (m := m) (os := os) (a := mk1 a n o.1 o.2.1 m p c o.2.2) (n := n + 1) (c := c + 1) (by rw [mk1_10, if_pos rfl])
    refine ⟨?_, fun k hk => ?_⟩
    · rw [this.1, List.length_cons, nJ_s]; grind
    · rw [this.2 k hk, mk1_10, if_neg hk]
theorem mkL_SNT {p m : Int32} : ∀ {os : List (Int32 × Int32 × Int32)} {a : AT} {n c : Int32}, os.length ≤ 8 → SNT (mkL p m a n c os) p m c (nums n os.length) os ∧ ∀ j, j ∈ nums n os.length → mkL p m a n c os 60 j = 3
  | [], _, _, _, _ => ⟨trivial, fun _ h => by cases h⟩
  | o :: os, a, n, c, hl => by
    rw [List.length_cons] at hl ⊢
    have no : ¬ n ∈ nums (n + 1) os.length := nums_out (by omega)
    have ih := mkL_SNT (p := p) (m := m) (os := os) (a := mk1 a n o.1 o.2.1 m p c o.2.2) (n := n + 1) (c := c + 1) (by omega)
    have nw := mk1_new (a := a) (n := n) (p := o.1) (m := o.2.1) (b := m) (s := p) (c := c) (x := o.2.2)
    unfold mkL
    refine ⟨⟨?_, ih.1⟩, fun j hj => ?_⟩
    · rw [mkL_old (by decide) no, mkL_old (by decide) no, mkL_old (by decide) no, mkL_old (by decide) no, mkL_old (by decide) no, mkL_old (by decide) no]
      exact ⟨nw.1, nw.2.1, nw.2.2.1, nw.2.2.2.1, nw.2.2.2.2.1, nw.2.2.2.2.2.1⟩
    · rcases List.mem_cons.mp hj with rfl | hj
      · rw [mkL_old (by decide) no]; exact nw.2.2.2.2.2.2
      · exact ih.2 j hj
theorem psA_1 (A : SY) (l : Int32) (q : PT) : psA A l [q] = (A.1, dn A, pr A, se A, wy A ++ (if A.1 42 (A.1 54 q.1) = l then [] else [q]), cm A ++ (if A.1 42 (A.1 54 q.1) = l then [q] else [])) := by
  unfold psA
  by_cases h : A.1 42 (A.1 54 q.1) = l
  · simp [h]
  · simp [h]
theorem sndF_eq : ∀ {os : List (Int32 × Int32 × Int32)} {A : SY} {l p m c : Int32}, os.length ≤ 8 →
    sndF A l p m c os = psA (mkL p m A.1 (nE A) c os, A.2) l ((nums (nE A) os.length).map fun j => (j, false))
  | [], A, l, p, m, c, _ => by simp [sndF, mkL, nums, psA_nil]
  | o :: os, A, l, p, m, c, hl => by
    rw [List.length_cons] at hl
    have no : ¬ nE A ∈ nums (nE A + 1) os.length := nums_out (by omega)
    have e1 : nE (psA (mkF A o.1 o.2.1 m p c o.2.2) l [(nE A, false)]) = nE A + 1 := by
      show mk1 A.1 (nE A) o.1 o.2.1 m p c o.2.2 10 13 = _
      rw [mk1_10, if_pos rfl]
    have e54 : (mkL p m A.1 (nE A) c (o :: os)) 54 (nE A) = (mk1 A.1 (nE A) o.1 o.2.1 m p c o.2.2) 54 (nE A) := by
      unfold mkL; rw [mkL_old (by decide) no]
    have e42 : (mkL p m A.1 (nE A) c (o :: os)) 42 = (mk1 A.1 (nE A) o.1 o.2.1 m p c o.2.2) 42 := by
      unfold mkL; rw [mkL_fam (by decide) (by decide)]
    have e : (psA (mkL p m A.1 (nE A) c (o :: os), A.2) l [(nE A, false)]) = (mkL p m A.1 (nE A) c (o :: os), (psA (mkF A o.1 o.2.1 m p c o.2.2) l [(nE A, false)]).2) := by
      rw [psA_1, psA_1]
      show (_, _, _, _, wy A ++ (if (mkL p m A.1 (nE A) c (o :: os)) 42 ((mkL p m A.1 (nE A) c (o :: os)) 54 (nE A)) = l then [] else [(nE A, false)]), cm A ++ (if (mkL p m A.1 (nE A) c (o :: os)) 42 ((mkL p m A.1 (nE A) c (o :: os)) 54 (nE A)) = l then [(nE A, false)] else [])) = _
      rw [e42, e54]
      rfl
    unfold sndF
    rw [sndF_eq (by omega), e1, List.length_cons, nums, List.map_cons, psA_cons (A := (mkL p m A.1 (nE A) c (o :: os), A.2)), e]
    rfl
theorem snocC (l : List Int32) : l = [] ∨ ∃ u d, l = u ++ [d] := by
  rcases List.eq_nil_or_concat l with h | ⟨u, d, h⟩
  · exact Or.inl h
  · exact Or.inr ⟨u, d, by rw [h, List.concat_eq_append]⟩
theorem ar_1 {n x L : Int32} (h1 : 0 ≤ n) (h2 : n ≤ 392) (h3 : 0 ≤ x) (h4 : x < L) (h5 : L ≤ 8) : n ≤ n + x ∧ n + x < n + L ∧ ina (n + x) 400 := by unfold ina; grind
theorem ar_2 {n j : Int32} (h : ina j n) : ¬ n ≤ j := by unfold ina at h; grind
theorem ar_3 {n j L : Int32} (h1 : 0 ≤ n) (h2 : n ≤ 392) (h3 : 0 ≤ L) (h5 : L ≤ 8) (h : ina j (n + L)) (q : ¬ j < n) : 0 ≤ j - n ∧ j - n < L ∧ j = n + (j - n) := by
  obtain ⟨a, rfl, ha⟩ := nJ_exlt (N := 393) (i := n) (by decide) h1 (Int32.lt_of_le_of_lt h2 (by decide))
  obtain ⟨b, rfl, hb⟩ := nJ_exlt (N := 9) (i := L) (by decide) h3 (Int32.lt_of_le_of_lt h5 (by decide))
  obtain ⟨c, rfl, hc⟩ := nJ_ex h.1
  have h4 := h.2
  rw [← nJ_add, nJ_lt hc (by omega)] at h4
  rw [nJ_lt hc (by omega)] at q
  have e : nI c - nI a = nI (c - a) := by
    have := nJ_add (c - a) a
    rw [show c - a + a = c by omega] at this
    rw [this]; grind
  rw [e]
  exact ⟨nJ_nn (by omega), (nJ_lt (by omega) (by omega)).mpr (by omega), by rw [← nJ_add]; congr 1; omega⟩
theorem ar_4 {n j L : Int32} (h1 : 0 ≤ n) (h2 : n ≤ 392) (h3 : 0 ≤ L) (h5 : L ≤ 8) (h : ina j n) : ina j (n + L) := by unfold ina at *; grind
theorem ar_5 {n j L : Int32} (h1 : 0 ≤ n) (h : n ≤ j ∧ j < n + L ∧ ina j 400) : ina j (n + L) := by unfold ina at *; grind
theorem ar_6 {n L : Int32} (h1 : 0 ≤ n) (h2 : n ≤ 392) (h3 : 0 ≤ L) (h5 : L ≤ 8) : 0 ≤ n + L ∧ n + L ≤ 400 := by grind
theorem ar_7 {n L x : Int32} (h1 : 0 ≤ n) (h2 : n ≤ 392) (h3 : 0 ≤ L) (h5 : L ≤ 8) (h : n + L ≤ x) : n ≤ x := by grind
theorem ar_8 {x y : Int32} (h : 0 ≤ x) (h2 : x < y) : 0 ≤ y := by grind
theorem ar_9 {t n L : Int32} (h1 : 0 ≤ n) (h2 : n ≤ 392) (h3 : 0 ≤ L) (h5 : L ≤ 8) (h : 0 ≤ t ∧ t ≤ n) : 0 ≤ t ∧ t ≤ n + L := by grind
theorem RES_pt {A A' : SY} {p : Int32} {pre : List Int32} {d : Int32} (h : SR A.1 A'.1) (g : ∀ x, x ∈ d :: pre → A'.1 55 x = A.1 55 x ∧ A'.1 59 x = A.1 59 x) (g2 : A'.1 62 d = A.1 62 d) (hpr : pr A' d = pr A d) (hse : se A' d = se A d)
    (g3 : ∀ f, f ∈ se A d → ∀ q, 54 ≤ q → q ≤ 59 → A'.1 q f = A.1 q f) (r : RES A p pre d) : RES A' p pre d := by
  have e : rp A'.1 p pre = rp A.1 p pre := rp_sr h p pre fun e he => g e (by simp [he])
  have gd := g d (by simp)
  have w : wAt A'.1 p pre d = wAt A.1 p pre d := by
    unfold wAt
    rw [e, actsF_sr h, gd.1, gd.2]
  unfold RES
  rw [w, e, g2, hpr, hse, gd.1]
  exact ⟨r.1, r.2.1, SNT_co g3 r.2.2⟩
theorem snoc_split {l pre post : List Int32} {e d : Int32} (h : l ++ [e] = pre ++ d :: post) : (post = [] ∧ d = e ∧ pre = l) ∨ ∃ post', post = post' ++ [e] ∧ l = pre ++ d :: post' := by
  rcases snocC post with rfl | ⟨q, y, rfl⟩
  · left
    have := List.append_inj' h rfl
    have h2 := this.2
    simp at h2
    exact ⟨rfl, h2.symm, this.1.symm⟩
  · right
    rw [show pre ++ d :: (q ++ [y]) = (pre ++ d :: q) ++ [y] by simp] at h
    have := List.append_inj' h rfl
    have h2 := this.2
    simp at h2
    exact ⟨q, by rw [h2], this.1⟩
set_option maxHeartbeats 8000000 in
theorem YV_dsF {A : SY} {e : Int32} (hI : YV A) (ine : ina e (nE A)) (h0 : hw A e = 0) (hn : nE A ≤ 392) (hmin : ∀ f, ina f (nE A) → hw A f = 0 → pa A f = pa A e → ¬ f = e → bel A.1 e f) : YV (dsF A e) := by
  obtain ⟨⟨r1, r2, r3, r4⟩, ⟨d1, d2, d3, d4⟩, ⟨q1, q2, q3, q4⟩, ⟨l1, l2⟩, c1, ⟨t1, t2, t3⟩⟩ := id hI
  have pe := (r3 e ine).1
  have pe12 : ina (pa A e) 12 := ⟨pe.1, Int32.lt_of_lt_of_le pe.2 r1.1.2⟩
  have fb := actsF_b (m := A.1 55 e) (v := A.1 59 e) r1 pe12 (rp_d r1 pe12 (dn A (pa A e)))
  have fo := actsF_o (v := A.1 59 e) (z := rp A.1 (pa A e) (dn A (pa A e))) r1 pe (r3 e ine).2.1
  have hl : (wOf A e).2.2.2.2.1.length ≤ 8 := fb.1
  unfold dsF
  rw [sndF_eq hl]
  generalize hos : (wOf A e).2.2.2.2.1 = os at hl
  have fo1 : ∀ o, o ∈ os → ina o.1 (A.1 10 0) ∧ A.1 55 e < o.2.1 ∧ o.2.1 ≤ 100000 := by rw [← hos]; exact fo.1
  have n13 : (sa (sa (sa A.1 60 e 1) 50 (pa A e) (A.1 50 (pa A e) + 1)) 62 e (wOf A e).2.2.2.1) 10 13 = nE A := by simp [sa]
  generalize ha1 : (sa (sa (sa A.1 60 e 1) 50 (pa A e) (A.1 50 (pa A e) + 1)) 62 e (wOf A e).2.2.2.1) = a1 at n13
  have a1f : ∀ f, ¬ f = 60 → ¬ f = 50 → ¬ f = 62 → a1 f = A.1 f := fun f h1 h2 h3 => by
    rw [← ha1]; funext j; simp [sa, h1, h2, h3]
  have a160 : ∀ j, a1 60 j = if j = e then 1 else A.1 60 j := fun j => by rw [← ha1]; simp [sa]
  have a162 : ∀ j, a1 62 j = if j = e then (wOf A e).2.2.2.1 else A.1 62 j := fun j => by rw [← ha1]; simp [sa]
  have enE : nE (a1, ul (dn A) (pa A e) (dn A (pa A e) ++ [e]), ul (pr A) e (wOf A e).2.2.2.2.2, ul (se A) e (nums (nE A) os.length), A.2.2.2.2) = nE A := n13
  rw [enE]
  show YV (psA (mkL (pa A e) (A.1 55 e) a1 (nE A) (zOf A e).2.2 os, ul (dn A) (pa A e) (dn A (pa A e) ++ [e]), ul (pr A) e (wOf A e).2.2.2.2.2, ul (se A) e (nums (nE A) os.length), A.2.2.2.2) (A.1 42 (pa A e)) ((nums (nE A) os.length).map fun j => (j, false)))
  have s10 := mkL_10 (p := pa A e) (m := A.1 55 e) (os := os) (c := (zOf A e).2.2) n13
  have sS := mkL_SNT (p := pa A e) (m := A.1 55 e) (a := a1) (n := nE A) (c := (zOf A e).2.2) hl
  have sO : ∀ f j, ¬ f = 10 → ¬ j ∈ nums (nE A) os.length → mkL (pa A e) (A.1 55 e) a1 (nE A) (zOf A e).2.2 os f j = a1 f j := fun f j h1 h2 => mkL_old h1 h2
  have sF : ∀ f, ¬ f = 10 → (f < 54 ∨ 60 < f) → mkL (pa A e) (A.1 55 e) a1 (nE A) (zOf A e).2.2 os f = a1 f := fun f h1 h2 => mkL_fam h1 h2
  generalize mkL (pa A e) (A.1 55 e) a1 (nE A) (zOf A e).2.2 os = b at s10 sS sO sF
  have nn := r2.1
  have hlI : nI os.length ≤ 8 := (nJ_le (b := 8) (by omega) (by omega)).mpr hl
  have hl0 : 0 ≤ nI os.length := nJ_nn (by omega)
  have newr : ∀ j, j ∈ nums (nE A) os.length → nE A ≤ j ∧ j < nE A + nI os.length ∧ ina j 400 := fun j hj => by
    obtain ⟨i, h1, h2⟩ := nums_mem.mp hj
    have x1 : 0 ≤ nI i := nJ_nn (by omega)
    have x2 : nI i < nI os.length := (nJ_lt (by omega) (by omega)).mpr h1
    rw [h2]
    exact ar_1 nn hn x1 x2 hlI
  have oldn : ∀ j, ina j (nE A) → ¬ j ∈ nums (nE A) os.length := fun j hj h => by
    exact ar_2 hj (newr j h).1
  have b0 : b 10 0 = A.1 10 0 := by rw [s10.2 0 (by decide), a1f 10 (by decide) (by decide) (by decide)]
  have b14 : b 10 14 = A.1 10 14 := by rw [s10.2 14 (by decide), a1f 10 (by decide) (by decide) (by decide)]
  have bO : ∀ f j, ¬ f = 10 → ¬ f = 60 → ¬ f = 50 → ¬ f = 62 → ina j (nE A) → b f j = A.1 f j := fun f j h1 h2 h3 h4 h5 => by
    rw [sO f j h1 (oldn j h5), a1f f h2 h3 h4]
  have b60 : ∀ j, ina j (nE A) → b 60 j = if j = e then 1 else A.1 60 j := fun j h => by rw [sO 60 j (by decide) (oldn j h), a160]
  have b61 : b 61 = A.1 61 := by rw [sF 61 (by decide) (by decide), a1f 61 (by decide) (by decide) (by decide)]
  have sr : SR A.1 b := ⟨b0, fun f h1 h2 => by rw [sF f (by omega) (by omega), a1f f (by omega) (by omega) (by omega)]⟩
  have spl : ∀ j, ina j (b 10 13) → ina j (nE A) ∨ j ∈ nums (nE A) os.length := fun j hj => by
    rw [s10.1] at hj
    by_cases q : j < nE A
    · exact Or.inl ⟨hj.1, q⟩
    · right
      have a3 := ar_3 nn hn hl0 hlI hj q
      obtain ⟨i, h1, h2⟩ := nJ_exlt (N := os.length) (i := j - nE A) (by omega) a3.1 a3.2.1
      exact nums_mem.mpr ⟨i, h2, by rw [← h1]; exact a3.2.2⟩
  have up1 : ∀ j, ina j (nE A) → ina j (b 10 13) := fun j hj => by rw [s10.1]; exact ar_4 nn hn hl0 hlI hj
  have up2 : ∀ j, j ∈ nums (nE A) os.length → ina j (b 10 13) := fun j hj => by
    rw [s10.1]; exact ar_5 nn (newr j hj)
  have new : ∀ j, j ∈ nums (nE A) os.length → b 60 j = 3 ∧ b 61 j = 0 ∧ b 57 j = pa A e ∧ b 56 j = A.1 55 e ∧ ina (b 54 j) (A.1 10 0) ∧ (A.1 55 e < b 55 j ∧ b 55 j ≤ 100000) := fun j hj => by
    obtain ⟨x1, x2, o, x3, x4, x5⟩ := SNT_mem sS.1 j hj
    have y := fo1 o x3
    have z := newr j hj
    exact ⟨sS.2 j hj, by rw [b61]; exact r4 j z.2.2 z.1, x1, x2, by rw [x4]; exact y.1, by rw [x5]; exact y.2⟩
  have belO : ∀ x y, ina x (nE A) → ina y (nE A) → bel b x y = bel A.1 x y := fun x y hx hy => bel_pt fun g h1 h2 => ⟨bO g x (by omega) (by omega) (by omega) (by omega) hx, bO g y (by omega) (by omega) (by omega) (by omega) hy⟩
  have pmem : ∀ q, q ∈ pnd (psA (b, ul (dn A) (pa A e) (dn A (pa A e) ++ [e]), ul (pr A) e (wOf A e).2.2.2.2.2, ul (se A) e (nums (nE A) os.length), A.2.2.2.2) (A.1 42 (pa A e)) ((nums (nE A) os.length).map fun j => (j, false))) ↔ q ∈ pnd A ∨ ∃ j, j ∈ nums (nE A) os.length ∧ (j, false) = q := fun q => by
    rw [(psA_pnd _ _ _).mem_iff, List.mem_append, List.mem_map]; rfl
  have ene : ∀ d, ina d (nE A) → hw A d = 1 → ¬ d = e := fun d _ h z => by rw [z, h0] at h; exact absurd h (by decide)
  have dnE : ul (dn A) (pa A e) (dn A (pa A e) ++ [e]) (pa A e) = dn A (pa A e) ++ [e] := ul_eq
  have dnN : ∀ q, ¬ q = pa A e → ul (dn A) (pa A e) (dn A (pa A e) ++ [e]) q = dn A q := fun q h => ul_ne h
  have pmt : ∀ x, (x, true) ∈ pnd (psA (b, ul (dn A) (pa A e) (dn A (pa A e) ++ [e]), ul (pr A) e (wOf A e).2.2.2.2.2, ul (se A) e (nums (nE A) os.length), A.2.2.2.2) (A.1 42 (pa A e)) ((nums (nE A) os.length).map fun j => (j, false))) ↔ (x, true) ∈ pnd A := fun x => by
    rw [pmem]
    constructor
    · rintro (h | ⟨j, _, h⟩)
      · exact h
      · cases h
    · exact Or.inl
  refine ⟨⟨RU_sr sr r1, ?_, fun x hx => ?_, fun x hx hx2 => ?_⟩, ⟨fun p d h => ?_, fun x hx h => ?_, fun p => ?_, fun x hx h d hdd => ?_⟩, ⟨?_, fun x => ?_, fun x h => ?_, fun x hx h => ?_⟩, ⟨fun x hx hlv hs => ?_, fun d hx h f hf => ?_⟩, fun p pre d post h => ?_, ⟨fun x hx => ?_, fun x y hx hy h1 h2 h3 => ?_, ?_⟩⟩
  · show 0 ≤ b 10 13 ∧ b 10 13 ≤ 400
    rw [s10.1]; exact ar_6 nn hn hl0 hlI
  · show ina (b 54 x) (b 10 0) ∧ (0 ≤ b 55 x ∧ b 55 x ≤ 100000) ∧ (b 60 x = 0 ∨ b 60 x = 1 ∨ b 60 x = 3 ∨ b 60 x = 4) ∧ (b 61 x = 0 ∨ b 61 x = 1)
    rcases spl x hx with ho | hw'
    · obtain ⟨y1, y2, y3, y4⟩ := r3 x ho
      rw [bO 54 x (by decide) (by decide) (by decide) (by decide) ho, bO 55 x (by decide) (by decide) (by decide) (by decide) ho, b0, b61, b60 x ho]
      refine ⟨y1, y2, ?_, y4⟩
      split
      · exact Or.inr (Or.inl rfl)
      · exact y3
    · obtain ⟨y1, y2, y3, y4, y5, y6⟩ := new x hw'
      have := (r3 e ine).2.1
      rw [b0]
      exact ⟨y5, ⟨ar_8 this.1 y6.1, y6.2⟩, Or.inr (Or.inr (Or.inl y1)), Or.inl y2⟩
  · show b 61 x = 0
    have : b 10 13 ≤ x := hx2
    rw [s10.1] at this
    rw [b61]
    exact r4 x hx (ar_7 nn hn hl0 hlI this)
  · show ina d (b 10 13) ∧ b 60 d = 1 ∧ b 54 d = p
    have h : d ∈ ul (dn A) (pa A e) (dn A (pa A e) ++ [e]) p := h
    by_cases z : p = pa A e
    · subst z
      rw [dnE] at h
      rcases List.mem_append.mp h with h | h
      · obtain ⟨y1, y2, y3⟩ := d1 _ d h
        rw [b60 d y1, if_neg (ene d y1 y2), bO 54 d (by decide) (by decide) (by decide) (by decide) y1]
        exact ⟨up1 d y1, y2, y3⟩
      · rw [List.mem_singleton] at h
        subst h
        rw [b60 d ine, if_pos rfl, bO 54 d (by decide) (by decide) (by decide) (by decide) ine]
        exact ⟨up1 d ine, rfl, rfl⟩
    · rw [dnN p z] at h
      obtain ⟨y1, y2, y3⟩ := d1 _ d h
      rw [b60 d y1, if_neg (ene d y1 y2), bO 54 d (by decide) (by decide) (by decide) (by decide) y1]
      exact ⟨up1 d y1, y2, y3⟩
  · show x ∈ ul (dn A) (pa A e) (dn A (pa A e) ++ [e]) (b 54 x)
    have h : b 60 x = 1 := h
    rcases spl x hx with ho | hw'
    · rw [b60 x ho] at h
      rw [bO 54 x (by decide) (by decide) (by decide) (by decide) ho]
      by_cases z : x = e
      · subst z
        rw [show A.1 54 x = pa A x from rfl, dnE]
        simp
      · rw [if_neg z] at h
        have := d2 x ho h
        by_cases z2 : A.1 54 x = pa A e
        · rw [z2, dnE]
          rw [show pa A x = pa A e from z2] at this
          exact List.mem_append.mpr (Or.inl this)
        · rw [dnN _ z2]; exact this
    · rw [(new x hw').1] at h; exact absurd h (by decide)
  · show (ul (dn A) (pa A e) (dn A (pa A e) ++ [e]) p).Pairwise (bel b)
    have base : ∀ q, (dn A q).Pairwise (bel b) := fun q => (d3 q).imp_of_mem fun {x y} hx hy h => by
      rw [belO x y (d1 q x hx).1 (d1 q y hy).1]; exact h
    by_cases z : p = pa A e
    · subst z
      rw [dnE]
      refine List.pairwise_append.mpr ⟨base _, List.pairwise_singleton _ _, fun x hx y hy => ?_⟩
      rw [List.mem_singleton] at hy
      subst hy
      rw [belO x y (d1 _ x hx).1 ine]
      exact d4 y ine h0 x hx
    · rw [dnN p z]; exact base p
  · show bel b d x
    have h9 : b 60 x = 0 := h
    have hdd : d ∈ ul (dn A) (pa A e) (dn A (pa A e) ++ [e]) (b 54 x) := hdd
    rcases spl x hx with ho | hw'
    · rw [b60 x ho] at h9
      rw [bO 54 x (by decide) (by decide) (by decide) (by decide) ho] at hdd
      have z : ¬ x = e := fun z => by rw [if_pos z] at h9; exact absurd h9 (by decide)
      rw [if_neg z] at h9
      by_cases z2 : A.1 54 x = pa A e
      · rw [z2, dnE] at hdd
        rcases List.mem_append.mp hdd with q | q
        · rw [belO d x (d1 _ d q).1 ho]
          exact d4 x ho h9 d (by rw [show pa A x = pa A e from z2]; exact q)
        · rw [List.mem_singleton] at q
          subst q
          rw [belO d x ine ho]
          exact hmin x ho h9 z2 z
      · rw [dnN _ z2] at hdd
        rw [belO d x (d1 _ d hdd).1 ho]
        exact d4 x ho h9 d hdd
    · rw [(new x hw').1] at h9; exact absurd h9 (by decide)
  · refine (psA_pnd _ _ _).nodup_iff.mpr (List.nodup_append.mpr ⟨q1, List.pairwise_map.mpr ((nums_nd hl).imp fun h q => h (congrArg Prod.fst q)), fun x hx y hy => ?_⟩)
    rintro rfl
    obtain ⟨j, h1, h2⟩ := List.mem_map.mp hy
    rw [← h2] at hx
    exact oldn j ((q2 j).mp hx).1 h1
  · show (x, false) ∈ _ ↔ ina x (b 10 13) ∧ b 60 x = 3
    rw [pmem]
    constructor
    · rintro (h | ⟨j, h, h'⟩)
      · have := (q2 x).mp h
        refine ⟨up1 x this.1, ?_⟩
        rw [b60 x this.1, if_neg (fun z => by rw [z, h0] at this; exact absurd this.2 (by decide))]
        exact this.2
      · cases h'
        exact ⟨up2 x h, (new x h).1⟩
    · rintro ⟨h1, h2⟩
      rcases spl x h1 with ho | hw'
      · left
        rw [b60 x ho] at h2
        split at h2
        · exact absurd h2 (by decide)
        · exact (q2 x).mpr ⟨ho, h2⟩
      · exact Or.inr ⟨x, hw', rfl⟩
  · show ina x (b 10 13) ∧ b 61 x = 0 ∧ ¬ b 60 x = 4 ∧ ¬ b 57 x = -1
    have := q3 x ((pmt x).mp h)
    rw [b61, b60 x this.1, bO 57 x (by decide) (by decide) (by decide) (by decide) this.1]
    refine ⟨up1 x this.1, this.2.1, ?_, this.2.2.2⟩
    split
    · decide
    · exact this.2.2.1
  · show b 60 x = 3 ∧ ¬ b 57 x = -1
    have h : b 61 x = 1 := h
    rcases spl x hx with ho | hw'
    · rw [b61] at h
      have := q4 x ho h
      rw [b60 x ho, if_neg (fun z => by rw [z, h0] at this; exact absurd this.1 (by decide)), bO 57 x (by decide) (by decide) (by decide) (by decide) ho]
      exact this
    · rw [(new x hw').2.1] at h; exact absurd h (by decide)
  · show ∃ d, ina d (b 10 13) ∧ b 60 d = 1 ∧ x ∈ ul (se A) e (nums (nE A) os.length) d
    rcases spl x hx with ho | hw'
    · have lx : lv A x := by
        obtain ⟨y1, y2, y3⟩ := hlv
        have y1 : ¬ b 60 x = 4 := y1
        have y2 : b 61 x = 0 := y2
        rw [b60 x ho] at y1
        rw [b61] at y2
        refine ⟨fun z => ?_, y2, fun z => y3 ((pmt x).mpr z)⟩
        by_cases w : x = e
        · rw [w, h0] at z; exact absurd z (by decide)
        · rw [if_neg w] at y1; exact y1 z
      have hs : ¬ b 57 x = -1 := hs
      rw [bO 57 x (by decide) (by decide) (by decide) (by decide) ho] at hs
      obtain ⟨d, y1, y2, y3⟩ := l1 x ho lx hs
      refine ⟨d, up1 d y1, ?_, ?_⟩
      · rw [b60 d y1, if_neg (ene d y1 y2)]; exact y2
      · rw [ul_ne (ene d y1 y2)]; exact y3
    · exact ⟨e, up1 e ine, by rw [b60 e ine, if_pos rfl], by rw [ul_eq]; exact hw'⟩
  · have h : b 60 d = 1 := h
    have hf : f ∈ ul (se A) e (nums (nE A) os.length) d := hf
    rcases spl d hx with ho | hw'
    · by_cases z : d = e
      · subst z
        rw [ul_eq] at hf
        have y := new f hf
        refine ⟨up2 f hf, by show ¬ b 60 f = 4; rw [y.1]; decide, y.2.1, fun q => ?_⟩
        exact oldn f (q3 f ((pmt f).mp q)).1 hf
      · rw [ul_ne z] at hf
        rw [b60 d ho, if_neg z] at h
        obtain ⟨y1, y2⟩ := l2 d ho h f hf
        refine ⟨up1 f y1, ?_, by show b 61 f = 0; rw [b61]; exact y2.2.1, fun q => y2.2.2 ((pmt f).mp q)⟩
        show ¬ b 60 f = 4
        rw [b60 f y1]
        split
        · decide
        · exact y2.1
    · rw [(new d hw').1] at h; exact absurd h (by decide)
  · have h : ul (dn A) (pa A e) (dn A (pa A e) ++ [e]) p = pre ++ d :: post := h
    have old : ∀ post', dn A p = pre ++ d :: post' → RES (psA (b, ul (dn A) (pa A e) (dn A (pa A e) ++ [e]), ul (pr A) e (wOf A e).2.2.2.2.2, ul (se A) e (nums (nE A) os.length), A.2.2.2.2) (A.1 42 (pa A e)) ((nums (nE A) os.length).map fun j => (j, false))) p pre d := fun post' hp => by
      have mem : ∀ x, x ∈ d :: pre → ina x (nE A) ∧ hw A x = 1 := fun x hx => by
        have : x ∈ dn A p := by
          rw [hp]
          rcases List.mem_cons.mp hx with rfl | hx
          · simp
          · simp [hx]
        exact ⟨(d1 p x this).1, (d1 p x this).2.1⟩
      have md := mem d (by simp)
      have nd := ene d md.1 md.2
      refine RES_pt (A := A) sr (fun x hx => ?_) ?_ (ul_ne nd) (ul_ne nd) (fun f hf q h1 h2 => ?_) (c1 p pre d post' hp)
      · have := (mem x hx).1
        exact ⟨bO 55 x (by decide) (by decide) (by decide) (by decide) this, bO 59 x (by decide) (by decide) (by decide) (by decide) this⟩
      · show b 62 d = A.1 62 d
        rw [sF 62 (by decide) (by decide), a162, if_neg nd]
      · exact bO q f (by omega) (by omega) (by omega) (by omega) (l2 d md.1 md.2 f hf).1
    by_cases z : p = pa A e
    · subst z
      rw [dnE] at h
      rcases snoc_split h with ⟨h1, h2, h3⟩ | ⟨post', h1, h2⟩
      · subst h1; subst h2; subst h3
        have er : rp b (pa A d) (dn A (pa A d)) = rp A.1 (pa A d) (dn A (pa A d)) := rp_sr sr _ _ fun x hx => by
          have := (d1 _ x hx).1
          exact ⟨bO 55 x (by decide) (by decide) (by decide) (by decide) this, bO 59 x (by decide) (by decide) (by decide) (by decide) this⟩
        have ew : wAt b (pa A d) (dn A (pa A d)) d = wOf A d := by
          unfold wAt wOf zOf
          rw [er, actsF_sr sr, bO 55 d (by decide) (by decide) (by decide) (by decide) ine, bO 59 d (by decide) (by decide) (by decide) (by decide) ine]
        refine ⟨?_, ?_, ?_⟩
        · show b 62 d = (wAt b (pa A d) (dn A (pa A d)) d).2.2.2.1
          rw [sF 62 (by decide) (by decide), a162, if_pos rfl, ew]
        · show ul (pr A) d (wOf A d).2.2.2.2.2 d = (wAt b (pa A d) (dn A (pa A d)) d).2.2.2.2.2
          rw [ul_eq, ew]
        · show SNT b (pa A d) (b 55 d) (rp b (pa A d) (dn A (pa A d))).2.2 (ul (se A) d (nums (nE A) os.length) d) (wAt b (pa A d) (dn A (pa A d)) d).2.2.2.2.1
          rw [ul_eq, ew, er, hos, bO 55 d (by decide) (by decide) (by decide) (by decide) ine]
          exact sS.1
      · exact old post' h2
    · rw [dnN p z] at h
      exact old post h
  · show (b 57 x = -1 ∧ b 56 x = -1 ∧ 0 ≤ b 58 x ∧ b 58 x < b 10 14 ∧ ¬ b 60 x = 4) ∨ (0 ≤ b 57 x ∧ 0 ≤ b 56 x)
    rcases spl x hx with ho | hw'
    · rw [bO 57 x (by decide) (by decide) (by decide) (by decide) ho, bO 56 x (by decide) (by decide) (by decide) (by decide) ho, bO 58 x (by decide) (by decide) (by decide) (by decide) ho, b14, b60 x ho]
      rcases t1 x ho with y | y
      · refine Or.inl ⟨y.1, y.2.1, y.2.2.1, y.2.2.2.1, ?_⟩
        split
        · decide
        · exact y.2.2.2.2
      · exact Or.inr y
    · have y := new x hw'
      rw [y.2.2.1, y.2.2.2.1]
      exact Or.inr ⟨pe.1, (r3 e ine).2.1.1⟩
  · have h1 : b 57 x = -1 := h1
    have h2 : b 57 y = -1 := h2
    have h3 : b 58 x = b 58 y := h3
    have key : ∀ x, ina x (b 10 13) → b 57 x = -1 → ina x (nE A) := fun x hx h => by
      rcases spl x hx with ho | hw'
      · exact ho
      · rw [(new x hw').2.2.1] at h
        have := pe.1
        rw [h] at this
        exact absurd this (by decide)
    have o1 := key x hx h1
    have o2 := key y hy h2
    rw [bO 57 x (by decide) (by decide) (by decide) (by decide) o1] at h1
    rw [bO 57 y (by decide) (by decide) (by decide) (by decide) o2] at h2
    rw [bO 58 x (by decide) (by decide) (by decide) (by decide) o1, bO 58 y (by decide) (by decide) (by decide) (by decide) o2] at h3
    exact t2 x y o1 o2 h1 h2 h3
  · show 0 ≤ b 10 14 ∧ b 10 14 ≤ b 10 13
    rw [b14, s10.1]
    exact ar_9 nn hn hl0 hlI t3
/-- a start: the event is made and is to come -/
def stA (A : SY) (p m x : Int32) : SY := (sa (mk1 A.1 (nE A) p m (-1) (-1) (A.1 10 14) x) 10 14 (A.1 10 14 + 1), dn A, pr A, se A, wy A, cm A ++ [(nE A, false)])
theorem YV_stA {A : SY} {p m x : Int32} (hI : YV A) (hp : ina p (nP A)) (hm : 0 ≤ m ∧ m ≤ 100000) (hn : nE A < 400) : YV (stA A p m x) := by
  obtain ⟨⟨r1, r2, r3, r4⟩, ⟨d1, d2, d3, d4⟩, ⟨q1, q2, q3, q4⟩, ⟨l1, l2⟩, c1, ⟨t1, t2, t3⟩⟩ := id hI
  unfold stA
  have k10 : ∀ k, sa (mk1 A.1 (nE A) p m (-1) (-1) (A.1 10 14) x) 10 14 (A.1 10 14 + 1) 10 k = if k = 14 then A.1 10 14 + 1 else if k = 13 then nE A + 1 else A.1 10 k := fun k => by
    unfold sa
    by_cases z : k = 14
    · simp [z]
    · simp only [z, and_false, if_false]; rw [mk1_10]
  have kO : ∀ f j, ¬ f = 10 → ¬ j = nE A → sa (mk1 A.1 (nE A) p m (-1) (-1) (A.1 10 14) x) 10 14 (A.1 10 14 + 1) f j = A.1 f j := fun f j h1 h2 => by
    rw [sa_ne (fun z => h1 z.1), mk1_old h1 h2]
  have kF : ∀ f, ¬ f = 10 → (f < 54 ∨ 60 < f) → sa (mk1 A.1 (nE A) p m (-1) (-1) (A.1 10 14) x) 10 14 (A.1 10 14 + 1) f = A.1 f := fun f h1 h2 => by
    rw [sa_fam h1, mk1_fam h1 h2]
  have kN : ∀ f, ¬ f = 10 → sa (mk1 A.1 (nE A) p m (-1) (-1) (A.1 10 14) x) 10 14 (A.1 10 14 + 1) f (nE A) = mk1 A.1 (nE A) p m (-1) (-1) (A.1 10 14) x f (nE A) := fun f h1 => sa_ne fun z => h1 z.1
  have nw := mk1_new (a := A.1) (n := nE A) (p := p) (m := m) (b := -1) (s := -1) (c := A.1 10 14) (x := x)
  generalize sa (mk1 A.1 (nE A) p m (-1) (-1) (A.1 10 14) x) 10 14 (A.1 10 14 + 1) = b at k10 kO kF kN
  have b54 := (kN 54 (by decide)).trans nw.1
  have b55 := (kN 55 (by decide)).trans nw.2.1
  have b56 := (kN 56 (by decide)).trans nw.2.2.1
  have b57 := (kN 57 (by decide)).trans nw.2.2.2.1
  have b58 := (kN 58 (by decide)).trans nw.2.2.2.2.1
  have b60 := (kN 60 (by decide)).trans nw.2.2.2.2.2.2
  have b61 : b 61 = A.1 61 := kF 61 (by decide) (by decide)
  have b13 : b 10 13 = nE A + 1 := by rw [k10]; simp
  have b14 : b 10 14 = A.1 10 14 + 1 := by rw [k10]; simp
  have b0 : b 10 0 = A.1 10 0 := by rw [k10]; simp
  have nn := r2.1
  have sr : SR A.1 b := ⟨b0, fun f h1 h2 => kF f (by omega) (by omega)⟩
  have ne : ∀ j, ina j (nE A) → ¬ j = nE A := fun j hj z => by unfold ina at hj; grind
  have bO : ∀ f j, ¬ f = 10 → ina j (nE A) → b f j = A.1 f j := fun f j h1 h2 => kO f j h1 (ne j h2)
  have spl : ∀ j, ina j (b 10 13) → ina j (nE A) ∨ j = nE A := fun j hj => by
    rw [b13] at hj
    by_cases q : j < nE A
    · exact Or.inl ⟨hj.1, q⟩
    · right; unfold ina at hj; grind
  have up1 : ∀ j, ina j (nE A) → ina j (b 10 13) := fun j hj => by rw [b13]; unfold ina at *; grind
  have up2 : ina (nE A) (b 10 13) := by rw [b13]; unfold ina; grind
  have ns : A.1 61 (nE A) = 0 := r4 (nE A) ⟨nn, hn⟩ (Int32.le_refl _)
  have belO : ∀ x y, ina x (nE A) → ina y (nE A) → bel b x y = bel A.1 x y := fun x y hx hy => bel_pt fun g h1 h2 => ⟨bO g x (by omega) hx, bO g y (by omega) hy⟩
  have pmem : ∀ q, q ∈ pnd (b, dn A, pr A, se A, wy A, cm A ++ [(nE A, false)]) ↔ q ∈ pnd A ∨ q = (nE A, false) := fun q => by
    unfold pnd
    show q ∈ wy A ++ (cm A ++ [(nE A, false)]) ↔ _
    rw [← List.append_assoc, List.mem_append, List.mem_singleton]
  have pmt : ∀ x, (x, true) ∈ pnd (b, dn A, pr A, se A, wy A, cm A ++ [(nE A, false)]) ↔ (x, true) ∈ pnd A := fun x => by
    rw [pmem]; constructor
    · rintro (h | h)
      · exact h
      · cases h
    · exact Or.inl
  refine ⟨⟨RU_sr sr r1, ?_, fun x hx => ?_, fun x hx hx2 => ?_⟩, ⟨fun p d h => ?_, fun x hx h => ?_, fun p => ?_, fun x hx h d hdd => ?_⟩, ⟨?_, fun x => ?_, fun x h => ?_, fun x hx h => ?_⟩, ⟨fun x hx hlv hs => ?_, fun d hx h f hf => ?_⟩, fun p pre d post h => ?_, ⟨fun x hx => ?_, fun x y hx hy h1 h2 h3 => ?_, ?_⟩⟩
  · show 0 ≤ b 10 13 ∧ b 10 13 ≤ 400
    rw [b13]; grind
  · show ina (b 54 x) (b 10 0) ∧ (0 ≤ b 55 x ∧ b 55 x ≤ 100000) ∧ (b 60 x = 0 ∨ b 60 x = 1 ∨ b 60 x = 3 ∨ b 60 x = 4) ∧ (b 61 x = 0 ∨ b 61 x = 1)
    rw [b0, b61]
    rcases spl x hx with ho | rfl
    · rw [bO 54 x (by decide) ho, bO 55 x (by decide) ho, bO 60 x (by decide) ho]; exact r3 x ho
    · rw [b54, b55, b60, ns]
      exact ⟨hp, hm, Or.inr (Or.inr (Or.inl rfl)), Or.inl rfl⟩
  · show b 61 x = 0
    have : b 10 13 ≤ x := hx2
    rw [b13] at this
    rw [b61]
    exact r4 x hx (by show nE A ≤ x; grind)
  · show ina d (b 10 13) ∧ b 60 d = 1 ∧ b 54 d = p
    obtain ⟨y1, y2, y3⟩ := d1 p d h
    rw [bO 60 d (by decide) y1, bO 54 d (by decide) y1]
    exact ⟨up1 d y1, y2, y3⟩
  · show x ∈ dn A (b 54 x)
    have h : b 60 x = 1 := h
    rcases spl x hx with ho | rfl
    · rw [bO 60 x (by decide) ho] at h
      rw [bO 54 x (by decide) ho]; exact d2 x ho h
    · rw [b60] at h; exact absurd h (by decide)
  · show (dn A p).Pairwise (bel b)
    exact (d3 p).imp_of_mem fun {x y} hx hy h => by rw [belO x y (d1 p x hx).1 (d1 p y hy).1]; exact h
  · show bel b d x
    have h : b 60 x = 0 := h
    have hdd : d ∈ dn A (b 54 x) := hdd
    rcases spl x hx with ho | rfl
    · rw [bO 60 x (by decide) ho] at h
      rw [bO 54 x (by decide) ho] at hdd
      rw [belO d x (d1 _ d hdd).1 ho]; exact d4 x ho h d hdd
    · rw [b60] at h; exact absurd h (by decide)
  · unfold pnd
    show (wy A ++ (cm A ++ [(nE A, false)])).Nodup
    rw [← List.append_assoc]
    refine List.nodup_append.mpr ⟨q1, by simp, fun a ha c hc => ?_⟩
    rw [List.mem_singleton] at hc
    subst hc
    rintro rfl
    exact ne _ ((q2 _).mp ha).1 rfl
  · show (x, false) ∈ _ ↔ ina x (b 10 13) ∧ b 60 x = 3
    rw [pmem]
    constructor
    · rintro (h | h)
      · have := (q2 x).mp h
        exact ⟨up1 x this.1, by rw [bO 60 x (by decide) this.1]; exact this.2⟩
      · cases h; exact ⟨up2, b60⟩
    · rintro ⟨h1, h2⟩
      rcases spl x h1 with ho | rfl
      · rw [bO 60 x (by decide) ho] at h2
        exact Or.inl ((q2 x).mpr ⟨ho, h2⟩)
      · exact Or.inr rfl
  · show ina x (b 10 13) ∧ b 61 x = 0 ∧ ¬ b 60 x = 4 ∧ ¬ b 57 x = -1
    have := q3 x ((pmt x).mp h)
    rw [b61, bO 60 x (by decide) this.1, bO 57 x (by decide) this.1]
    exact ⟨up1 x this.1, this.2⟩
  · show b 60 x = 3 ∧ ¬ b 57 x = -1
    have h : b 61 x = 1 := h
    rw [b61] at h
    rcases spl x hx with ho | rfl
    · rw [bO 60 x (by decide) ho, bO 57 x (by decide) ho]; exact q4 x ho h
    · rw [ns] at h; exact absurd h (by decide)
  · show ∃ d, ina d (b 10 13) ∧ b 60 d = 1 ∧ x ∈ se A d
    have hs : ¬ b 57 x = -1 := hs
    rcases spl x hx with ho | rfl
    · rw [bO 57 x (by decide) ho] at hs
      have y1 : ¬ b 60 x = 4 := hlv.1
      have y2 : b 61 x = 0 := hlv.2.1
      rw [bO 60 x (by decide) ho] at y1
      rw [b61] at y2
      obtain ⟨d, z1, z2, z3⟩ := l1 x ho ⟨y1, y2, fun q => hlv.2.2 ((pmt x).mpr q)⟩ hs
      exact ⟨d, up1 d z1, by rw [bO 60 d (by decide) z1]; exact z2, z3⟩
    · exact absurd b57 hs
  · have h : b 60 d = 1 := h
    rcases spl d hx with ho | rfl
    · rw [bO 60 d (by decide) ho] at h
      obtain ⟨y1, y2⟩ := l2 d ho h f hf
      refine ⟨up1 f y1, by show ¬ b 60 f = 4; rw [bO 60 f (by decide) y1]; exact y2.1, by show b 61 f = 0; rw [b61]; exact y2.2.1, fun q => y2.2.2 ((pmt f).mp q)⟩
    · rw [b60] at h; exact absurd h (by decide)
  · have mem : ∀ x, x ∈ d :: pre → ina x (nE A) ∧ hw A x = 1 := fun x hx => by
      have : x ∈ dn A p := by
        rw [show dn A p = pre ++ d :: post from h]
        rcases List.mem_cons.mp hx with rfl | hx
        · simp
        · simp [hx]
      exact ⟨(d1 p x this).1, (d1 p x this).2.1⟩
    have md := mem d (by simp)
    refine RES_pt (A := A) sr (fun x hx => ⟨bO 55 x (by decide) (mem x hx).1, bO 59 x (by decide) (mem x hx).1⟩) ?_ rfl rfl (fun f hf q h1 h2 => bO q f (by omega) (l2 d md.1 md.2 f hf).1) (c1 p pre d post h)
    show b 62 d = A.1 62 d
    rw [kF 62 (by decide) (by decide)]
  · show (b 57 x = -1 ∧ b 56 x = -1 ∧ 0 ≤ b 58 x ∧ b 58 x < b 10 14 ∧ ¬ b 60 x = 4) ∨ (0 ≤ b 57 x ∧ 0 ≤ b 56 x)
    have ht : 0 ≤ A.1 10 14 ∧ A.1 10 14 ≤ nE A := t3
    rcases spl x hx with ho | rfl
    · rw [bO 57 x (by decide) ho, bO 56 x (by decide) ho, bO 58 x (by decide) ho, bO 60 x (by decide) ho, b14]
      rcases t1 x ho with y | y
      · exact Or.inl ⟨y.1, y.2.1, y.2.2.1, by have := y.2.2.2.1; grind, y.2.2.2.2⟩
      · exact Or.inr y
    · rw [b57, b56, b58, b60, b14]
      exact Or.inl ⟨rfl, rfl, ht.1, by grind, by decide⟩
  · have h1 : b 57 x = -1 := h1
    have h2 : b 57 y = -1 := h2
    have h3 : b 58 x = b 58 y := h3
    rcases spl x hx with o1 | rfl
    · rcases spl y hy with o2 | rfl
      · rw [bO 57 x (by decide) o1] at h1
        rw [bO 57 y (by decide) o2] at h2
        rw [bO 58 x (by decide) o1, bO 58 y (by decide) o2] at h3
        exact t2 x y o1 o2 h1 h2 h3
      · rw [bO 57 x (by decide) o1] at h1
        rw [bO 58 x (by decide) o1, b58] at h3
        rcases t1 x o1 with z | z
        · have := z.2.2.2.1; grind
        · have := z.1; rw [h1] at this; exact absurd this (by decide)
    · rcases spl y hy with o2 | rfl
      · rw [bO 57 y (by decide) o2] at h2
        rw [bO 58 y (by decide) o2, b58] at h3
        rcases t1 y o2 with z | z
        · have := z.2.2.2.1; grind
        · have := z.1; rw [h2] at this; exact absurd this (by decide)
      · rfl
  · show 0 ≤ b 10 14 ∧ b 10 14 ≤ b 10 13
    have ht : 0 ≤ A.1 10 14 ∧ A.1 10 14 ≤ nE A := t3
    rw [b14, b13]; grind
/-- places on the way and to come may change, if the same is pending -/
theorem YV_perm {A A' : SY} (hI : YV A) (h1 : A'.1 = A.1) (h2 : dn A' = dn A) (h3 : pr A' = pr A) (h4 : se A' = se A) (hp : (pnd A').Perm (pnd A)) : YV A' := by
  obtain ⟨a, d, p, s, w, c⟩ := A'
  cases h1; cases h2; cases h3; cases h4
  obtain ⟨y1, y2, ⟨q1, q2, q3, q4⟩, ⟨l1, l2⟩, y5, y6⟩ := hI
  have m : ∀ q, q ∈ pnd (A.1, dn A, pr A, se A, w, c) ↔ q ∈ pnd A := fun q => hp.mem_iff
  refine ⟨y1, y2, ⟨hp.nodup_iff.mpr q1, fun e => (m _).trans (q2 e), fun e h => q3 e ((m _).mp h), q4⟩, ⟨fun e he hl hs => l1 e he ⟨hl.1, hl.2.1, fun q => hl.2.2 ((m _).mpr q)⟩ hs, fun d hd h f hf => ?_⟩, y5, y6⟩
  have := l2 d hd h f hf
  exact ⟨this.1, this.2.1, this.2.2.1, fun q => this.2.2.2 ((m _).mp q)⟩
