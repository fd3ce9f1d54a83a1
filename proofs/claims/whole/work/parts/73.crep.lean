/-! 73: the class's heap holds the yard -/
theorem ar_17 {n k : Nat} (h : n + k < 2147483648) (hk : 0 < k) : ¬ nI n + nI k = nI n := fun z => by
  rw [← nJ_add] at z
  have := nJ_inj h (by omega) z
  omega
theorem s_pRem (o : Int32) (pre rest : List PT) (q : PT) (h0 : HP) (Q : Option AV → HP → Prop) (hP : CPs o (pre ++ q :: rest) h0) (hl : (pre ++ q :: rest).length ≤ 800) (hn : ∀ x, x ∈ rest → ¬ x.1 = -1) (H : ∀ h', agw (wPo o) h0 h' → CPs o (pre ++ rest) h' → Q none h') : WPm 28 [(6, o), (0, nI pre.length)] h0 Q := by
  have hlen : pre.length + rest.length < 800 := by simp at hl; omega
  have loop : ∀ (r2 r1 : List PT) (d1 d2 : Int32) (h : HP), rest = r1 ++ r2 → agw (wPo o) h0 h → h 6 o 2 = nI (pre.length + rest.length + 1) → LSq (h 34 o) 0 (((pre ++ r1).map fun q => q.1) ++ d1 :: r2.map fun q => q.1) → LSq (h 35 o) 0 (((pre ++ r1).map fun q => bN q.2) ++ d2 :: r2.map fun q => bN q.2) →
      WPc 28 2 [(6, o), (0, nI pre.length), (0, nI (pre.length + r1.length))] [] h Q := by
    intro r2
    induction r2 with
    | nil =>
      intro r1 d1 d2 h e g e6 row1 row2
      rw [List.append_nil] at e
      subst e
      refine b28_2 _ _ _ h Q ⟨fun _ => H _ (agw_up g ⟨Or.inl rfl, rfl⟩ (by decide)) ⟨?_, ?_, ?_⟩, fun z => absurd ?_ z⟩
      · rw [up_at, e6, nIm1, List.length_append]
      · rw [upfam (by decide)]; exact LSq_take row1
      · rw [upfam (by decide)]; exact LSq_take row2
      · rw [e6, nIm1]; exact Int32.le_refl _
    | cons x r2 ih =>
      intro r1 d1 d2 h e g e6 row1 row2
      have hl2 : pre.length + r1.length + 1 + r2.length < 800 := by rw [e] at hlen; simp at hlen; omega
      have r1' := LSq_app.mp row1
      have r2' := LSq_app.mp row2
      rw [Int32.zero_add, List.length_map, List.length_append] at r1' r2'
      have v1 : h 34 o (nI (pre.length + r1.length) + 1) = x.1 := r1'.2.2.1
      have v2 : h 35 o (nI (pre.length + r1.length) + 1) = bN x.2 := r2'.2.2.1
      have i1 : ina (nI (pre.length + r1.length) + 1) 800 := by rw [← nJ_s]; exact ⟨nJ_nn (by omega), (nJ_lt (b := 800) (by omega) (by omega)).mpr (by omega)⟩
      have i0 : ina (nI (pre.length + r1.length)) 800 := ⟨nJ_nn (by omega), (nJ_lt (b := 800) (by omega) (by omega)).mpr (by omega)⟩
      refine b28_2 _ _ _ h Q ⟨fun z => ?_, fun _ => ?_⟩
      · rw [e6, nIm1, nJ_le (by omega) (by omega), e] at z
        simp at z
        exfalso; omega
      · rw [v1, v2]
        refine ⟨i1, i0, hn x (by rw [e]; simp), i1, i0, bN01 _, ?_⟩
        have shift : ∀ (row : List Int32) (g : Int32 → Int32) (d y : Int32) (M : List Int32), row.length = pre.length + r1.length → M.length = r2.length → LSq g 0 row → g (nI (pre.length + r1.length) + 1) = y → LSq g (nI (pre.length + r1.length) + 1 + 1) M → LSq (vpd g (nI (pre.length + r1.length)) y) 0 ((row ++ [y]) ++ y :: M) := fun row g d y M hr hM l1 l2 l3 => by
          rw [List.append_assoc]
          refine LSq_app.mpr ⟨LSq_congr (fun k hk => vpd_ne _ _ fun z => ?_) l1, ?_⟩
          · rw [Int32.zero_add] at z
            have := nJ_inj (by omega) (by omega) z
            omega
          · rw [Int32.zero_add, hr]
            refine ⟨vpd_eq _ _ _, ?_, LSq_congr (fun k hk => vpd_ne _ _ fun z => ?_) l3⟩
            · refine (vpd_ne _ _ fun z => ?_).trans l2
              exact ar_17 (k := 1) (by omega) (by omega) z
            · refine ar_17 (n := pre.length + r1.length) (k := 2 + k) (by omega) (by omega) ?_
              rw [nJ_add 2 k]
              show nI (pre.length + r1.length) + (2 + nI k) = _
              rw [← z]
              grind
        have s1 := shift ((pre ++ r1).map fun q => q.1) (h 34 o) d1 x.1 (r2.map fun q => q.1) (by rw [List.length_map, List.length_append]) (by rw [List.length_map]) r1'.1 v1 r1'.2.2.2
        have s2 := shift ((pre ++ r1).map fun q => bN q.2) (h 35 o) d2 (bN x.2) (r2.map fun q => bN q.2) (by rw [List.length_map, List.length_append]) (by rw [List.length_map]) r2'.1 v2 r2'.2.2.2
        have := ih (r1 ++ [x]) x.1 (bN x.2) (up (up h 34 o (nI (pre.length + r1.length)) x.1) 35 o (nI (pre.length + r1.length)) (bN x.2)) (by rw [e]; simp) (agw_up (agw_up g ⟨Or.inr (Or.inl rfl), rfl⟩ (ina_n1 i0)) ⟨Or.inr (Or.inr rfl), rfl⟩ (ina_n1 i0)) (by rw [upfam (by decide), upfam (by decide)]; exact e6) ?_ ?_
        · rw [List.length_append, ← Nat.add_assoc] at this
          rw [← nJ_s]; exact this
        · rw [upfam (by decide), uprow, ← List.append_assoc, List.map_append]
          exact s1
        · rw [uprow, upfam (by decide), ← List.append_assoc, List.map_append]
          exact s2
  refine b28_0 _ _ h0 Q ?_
  have := loop rest [] q.1 (bN q.2) h0 rfl agw_rf (by rw [hP.1, List.length_append, List.length_cons]; congr 1) (by rw [List.append_nil]; have := hP.2.1; rw [List.map_append, List.map_cons] at this; exact this) (by rw [List.append_nil]; have := hP.2.2; rw [List.map_append, List.map_cons] at this; exact this)
  exact this
def shd (A : SY) (e : Int32) : Int32 := if A.1 61 e = 1 then 2 else if (e, true) ∈ wy A ∨ A.1 61 e = 5 then 1 else 0
def prE (A : SY) (e : Int32) : List Int32 := if hw A e = 1 then pr A e else []
def seE (A : SY) (T : List Int32) (e : Int32) : List Int32 := if hw A e = 1 ∨ e ∈ T then se A e else []
def FS : Int32 → List Int32 → Prop
  | _, [] => True
  | c, x :: l => x = c ∧ FS (c + 1) l
theorem FS_get : ∀ {l : List Int32} {c : Int32}, FS c l → ∀ (k : Nat) (hk : k < l.length), l[k] = c + nI k
  | x :: l, c, H, 0, _ => by rw [nJ_0, Int32.add_zero]; exact H.1
  | x :: l, c, H, k + 1, hk => by
    have := FS_get H.2 k (by simpa using hk)
    rw [nJ_s, show c + (nI k + 1) = c + 1 + nI k by grind]
    simpa using this
theorem FS_nums : ∀ (n : Int32) (k : Nat), FS n (nums n k)
  | _, 0 => trivial
  | n, k + 1 => ⟨rfl, FS_nums (n + 1) k⟩
/-- an event, in the class's heap -/
def EVa (A : SY) (e : Int32) (h : HP) : Prop := h 41 0 e = e ∧ h 2 e 0 = e ∧ h 2 e 1 = pa A e ∧ KY A.1 e e h ∧ h 2 e 6 = A.1 59 e
def EVb (A : SY) (e : Int32) (h : HP) : Prop := h 2 e 7 = hw A e ∧ h 2 e 8 = shd A e
def EVc (A : SY) (T : List Int32) (e : Int32) (h : HP) : Prop := (h 2 e 9 = (if hw A e = 1 then A.1 62 e else 0) ∧ h 2 e 11 = nI (prE A e).length ∧ LSq (h 25 e) 0 (prE A e)) ∧ (h 2 e 13 = nI (seE A T e).length ∧ FS (h 2 e 12) (seE A T e))
def EVd (A : SY) (e : Int32) (h : HP) : Prop := (h 2 e 15 = 0 ∨ h 2 e 15 = 1) ∧ (h 2 e 15 = 1 → hw A e = 1 ∧ h 2 e 14 = 100 + e ∧ ∀ pre post, dn A (pa A e) = pre ++ e :: post → CZ (rp A.1 (pa A e) pre) (100 + e) h) ∧ (h 2 e 14 = -1 ∨ h 2 e 14 = 100 + e)
def EV (A : SY) (T : List Int32) (e : Int32) (h : HP) : Prop := EVa A e h ∧ EVb A e h ∧ EVc A T e h ∧ EVd A e h
def CPp (A : SY) (p : Int32) (h : HP) : Prop := h 40 0 p = p ∧ h 4 p 0 = A.1 42 p ∧ PRp A.1 p h ∧ h 4 p 9 = A.1 50 p ∧ h 4 p 10 = nI (dn A p).length ∧ h 4 p 11 = A.1 51 p
def CG (A : SY) (h : HP) : Prop := h 9 0 1 = nP A ∧ h 9 0 10 = A.1 10 14 ∧ h 9 0 11 = A.1 10 33 ∧ h 9 0 12 = A.1 10 34 ∧ h 9 0 13 = A.1 10 32 ∧ isIn (h 9 0 14) 1 9
def CO (A : SY) (od : List Int32) (h : HP) : Prop := h 3 0 1 = nE A ∧ LSq (h 26 0) 0 od ∧ (∀ e, e ∈ od ↔ ina e (nE A)) ∧ od.Pairwise (bel A.1) ∧ nI od.length = nE A ∧ od.length ≤ 400
def f3 (s : Int32) (h : HP) : Prop := ¬ h 18 s (-1) = 1 ∧ ¬ h 8 s (-1) = 1 ∧ ¬ h 39 s (-1) = 1
def fE (e : Int32) (h : HP) : Prop := ¬ h 12 e (-1) = 1 ∧ ¬ h 2 e (-1) = 1 ∧ ¬ h 25 e (-1) = 1
def fP (p : Int32) (h : HP) : Prop := ¬ h 14 p (-1) = 1 ∧ ¬ h 4 p (-1) = 1 ∧ f3 p h ∧ ¬ h 27 p (-1) = 1 ∧ ¬ h 28 p (-1) = 1 ∧ ¬ h 29 p (-1) = 1 ∧ ¬ h 30 p (-1) = 1 ∧ ¬ h 31 p (-1) = 1
/-- the room: what was made, by what stands -/
def ahN (A : SY) (h : HP) : Nat := ((List.range (nE A).toNatClampNeg).filter fun n => !decide (h 2 (nI n) 14 = -1)).length
def poN (h : HP) : Nat := ((List.range 400).filter fun n => !decide (h 33 0 (nI n) = -1)).length
def soN (h : HP) : Nat := ((List.range 12).filter fun n => !decide (h 32 0 (nI n) = -1)).length
def RM (A : SY) (h : HP) : Prop := (0 ≤ (h 0 0 0).toInt ∧ (h 0 0 0).toInt ≤ 300 + 8 * (nP A).toInt + 2 * (nE A).toInt + 2 * (ahN A h : Int) + 2 * (poN h : Int) + 2 * (soN h : Int)) ∧
  (0 ≤ (h 0 0 1).toInt ∧ (h 0 0 1).toInt ≤ 200000 + 60 * (nP A).toInt + 24 * (nE A).toInt + 7 * (ahN A h : Int) + 24 * (poN h : Int) + 7 * (soN h : Int))
def FR (A : SY) (h : HP) : Prop := (∀ e, ina e 400 → nE A ≤ e → fE e h ∧ f3 (100 + e) h) ∧ (∀ e, ina e (nE A) → h 2 e 14 = -1 → f3 (100 + e) h) ∧ (∀ p, ina p 12 → nP A ≤ p → fP p h) ∧
  (∀ n, ina n 400 → (h 33 0 n = -1 ∧ fE (400 + n) h) ∨ h 33 0 n = 400 + n) ∧ (∀ i, ina i 12 → (h 32 0 i = -1 ∧ f3 (12 + i) h) ∨ h 32 0 i = 12 + i) ∧ RM A h
def RC (A : SY) (T : List Int32) (Z : Int32 → ZT) (od : List Int32) (h : HP) : Prop := CG A h ∧ (∀ p, ina p (nP A) → CPp A p h) ∧ (∀ p, ina p (nP A) → CZ (Z p) p h) ∧ (∀ e, ina e (nE A) → EV A T e h) ∧ CO A od h ∧ (CPs 0 (wy A) h ∧ CPs 1 (cm A) h) ∧ FR A h
def Zst (A : SY) : Int32 → ZT := fun p => rp A.1 p (dn A p)
theorem CZ_co {z : ZT} {s : Int32} {h h' : HP} (H : CZ z s h) (e1 : h' 39 s = h 39 s) (e2 : h' 8 s = h 8 s) : CZ z s h' := by
  unfold CZ; rw [e1, e2]; exact H
theorem ahN_co {A A' : SY} {h h' : HP} (e2 : ∀ e, ina e (nE A) → h' 2 e 14 = h 2 e 14) (n1 : nE A' = nE A) (hn : nE A ≤ 400) : ahN A' h' = ahN A h := by
  unfold ahN
  rw [n1]
  congr 1
  refine List.filter_congr fun n hn' => ?_
  have hn' := List.mem_range.mp hn'
  by_cases z : 0 ≤ nE A
  · have hb : (nE A).toNatClampNeg ≤ 400 := by
      obtain ⟨k, hk, hk2⟩ := nJ_exlt (N := 401) (by decide) z (Int32.lt_of_le_of_lt hn (by decide))
      rw [hk, show (nI k).toNatClampNeg = k from Int32.toNatClampNeg_ofNat_of_lt (by omega)]; omega
    have e : nE A = nI (nE A).toNatClampNeg := (nJ_back _ z).symm
    have : ina (nI n) (nE A) := by
      rw [e]
      exact ⟨nJ_nn (by omega), (nJ_lt (by omega) (by omega)).mpr hn'⟩
    rw [e2 _ this]
  · have : (nE A).toNatClampNeg = 0 := by
      unfold Int32.toNatClampNeg
      have : (nE A).toInt < 0 := by
        have : ¬ (0 : Int32).toInt ≤ (nE A).toInt := fun q => z (Int32.le_iff_toInt_le.mpr q)
        have e0 : (0 : Int32).toInt = 0 := rfl
        omega
      omega
    omega
theorem FR_co {A A' : SY} {h h' : HP} (H : FR A h) (e1 : ∀ f x, h' f x (-1) = h f x (-1)) (e2 : ∀ e, ina e (nE A) → h' 2 e 14 = h 2 e 14) (e3 : h' 33 0 = h 33 0) (e4 : h' 32 0 = h 32 0) (e0 : h' 0 0 = h 0 0) (hn : nE A ≤ 400) (n1 : nE A' = nE A) (n2 : nP A' = nP A) : FR A' h' := by
  obtain ⟨a1, a2, a3, a4, a5, a6⟩ := H
  have ah : ahN A' h' = ahN A h := ahN_co e2 n1 hn
  have po : poN h' = poN h := by unfold poN; rw [e3]
  have so : soN h' = soN h := by unfold soN; rw [e4]
  unfold FR fE f3 fP f3 RM
  rw [ah, po, so, e0]
  simp only [e1, e3, e4, n1, n2]
  exact ⟨a1, fun e he q => a2 e he (by rw [← e2 e he]; exact q), a3, a4, a5, a6⟩
theorem CO_4 {A : SY} {od : List Int32} {h : HP} (c : CO A od h) : nE A ≤ 400 := by
  rw [← c.2.2.2.2.1]
  exact (nJ_le (b := 400) (by have := c.2.2.2.2.2; omega) (by omega)).mpr c.2.2.2.2.2
