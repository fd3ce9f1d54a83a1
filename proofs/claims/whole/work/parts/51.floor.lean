/-! 51: the floor, the next event; steps, starts, deliveries: pure -/
def opn (A : SY) (e : Int32) : Prop := hw A e = 0 ∨ hw A e = 3 ∨ (e, true) ∈ wy A
/-- the best by keys of those with P -/
def bst (a : AT) (P : Int32 → Prop) (v : Int32) : Prop := (v = -1 ∧ ∀ f, ¬ P f) ∨ (¬ v = -1 ∧ P v ∧ ∀ f, P f → ¬ klt a f v)
theorem bst_add {a : AT} {P P' : Int32 → Prop} {v e : Int32} (h : bst a P v) (he : ¬ e = -1) (hP : ∀ f, P' f ↔ P f ∨ f = e) : ((v = -1 ∨ klt a e v) → bst a P' e) ∧ (¬ (v = -1 ∨ klt a e v) → bst a P' v) := by
  constructor
  · intro q
    refine Or.inr ⟨he, (hP e).mpr (Or.inr rfl), fun f hf hk => ?_⟩
    rcases (hP f).mp hf with z | rfl
    · rcases h with ⟨h1, h2⟩ | ⟨h1, h2, h3⟩
      · exact h2 f z
      · rcases q with q | q
        · exact h1 q
        · exact h3 f z (klt_tr hk q)
    · exact klt_irr hk
  · intro q
    rcases h with ⟨h1, h2⟩ | ⟨h1, h2, h3⟩
    · exact absurd (Or.inl h1) q
    · refine Or.inr ⟨h1, (hP v).mpr (Or.inl h2), fun f hf hk => ?_⟩
      rcases (hP f).mp hf with z | rfl
      · exact h3 f z hk
      · exact q (Or.inr hk)
theorem bst_same {a : AT} {P P' : Int32 → Prop} {v : Int32} (h : bst a P v) (hP : ∀ f, P' f ↔ P f) : bst a P' v := by
  rcases h with ⟨h1, h2⟩ | ⟨h1, h2, h3⟩
  · exact Or.inl ⟨h1, fun f hf => h2 f ((hP f).mp hf)⟩
  · exact Or.inr ⟨h1, (hP v).mpr h2, fun f hf => h3 f ((hP f).mp hf)⟩
def isFl (A : SY) (v : Int32) : Prop := bst A.1 (fun f => ina f (nE A) ∧ opn A f) v
noncomputable def flo (A : SY) : Int32 := Classical.epsilon (isFl A)
theorem flo_ok {A : SY} {v : Int32} (h : isFl A v) : isFl A (flo A) := Classical.epsilon_spec ⟨v, h⟩
theorem fl_uq {A : SY} {v w : Int32} (h : isFl A v) (h' : isFl A w) : (v = -1 ↔ w = -1) ∧ (¬ v = -1 → keq A.1 v w) := by
  rcases h with ⟨h1, h2⟩ | ⟨h1, h2, h3⟩
  · rcases h' with ⟨g1, g2⟩ | ⟨g1, g2, g3⟩
    · exact ⟨⟨fun _ => g1, fun _ => h1⟩, fun z => absurd h1 z⟩
    · exact absurd g2 (h2 w)
  · rcases h' with ⟨g1, g2⟩ | ⟨g1, g2, g3⟩
    · exact absurd h2 (g2 v)
    · refine ⟨⟨fun z => absurd z h1, fun z => absurd z g1⟩, fun _ => ?_⟩
      rcases klt_tot (a := A.1) (e := v) (f := w) with q | q | q
      · exact absurd q (g3 v h2)
      · exact q
      · exact absurd q (h3 w g2)
/-- the next of a line -/
def nxt (A : SY) (l v : Int32) : Prop := (v = -1 ∧ ∀ f, ina f (nE A) → hw A f = 0 → ¬ A.1 42 (pa A f) = l) ∨ (¬ v = -1 ∧ (ina v (nE A) ∧ hw A v = 0 ∧ A.1 42 (pa A v) = l) ∧ ∀ f, ina f (nE A) → hw A f = 0 → A.1 42 (pa A f) = l → ¬ bel A.1 f v)
theorem nxt_uq {A : SY} {l v w : Int32} (h : nxt A l v) (h' : nxt A l w) : v = w := by
  rcases h with ⟨h1, h2⟩ | ⟨h1, h2, h3⟩
  · rcases h' with ⟨g1, g2⟩ | ⟨g1, g2, g3⟩
    · rw [h1, g1]
    · exact absurd g2.2.2 (h2 w g2.1 g2.2.1)
  · rcases h' with ⟨g1, g2⟩ | ⟨g1, g2, g3⟩
    · exact absurd h2.2.2 (g2 v h2.1 h2.2.1)
    · rcases bel_tot (a := A.1) (e := v) (f := w) with q | q | q
      · exact absurd q (g3 v h2.1 h2.2.1 h2.2.2)
      · exact q
      · exact absurd q (h3 w g2.1 g2.2.1 g2.2.2)
noncomputable def nxF (A : SY) (l : Int32) : Int32 := Classical.epsilon (nxt A l)
theorem nx_ok {A : SY} {l v : Int32} (h : nxt A l v) : nxF A l = v := nxt_uq (Classical.epsilon_spec ⟨v, h⟩) h
noncomputable def stpF (A : SY) (l : Int32) : Int32 × SY :=
  if nxF A l = -1 then (-1, A)
  else if ¬ A.1 10 32 = -1 ∧ ¬ A.1 55 (nxF A l) - A.1 55 (flo A) ≤ A.1 10 32 then (-3, A)
  else if ¬ nE A ≤ 392 then (-4, A)
  else (nxF A l, wrk 800 (dsF A (nxF A l)))
noncomputable def runF (l : Int32) : Nat → Int32 → SY → Int32 × SY
  | 0, k, A => (k, A)
  | n + 1, k, A => if (stpF A l).1 < 0 then (k, A) else runF l n (k + 1) (stpF A l).2
def lowP (A : SY) (m : Int32) : Prop := (¬ flo A = -1 ∧ m ≤ A.1 55 (flo A)) ∨ (flo A = -1 ∧ ∃ e, ina e (nE A) ∧ hw A e = 1 ∧ m ≤ A.1 55 e)
/-- between two calls -/
def YW (A : SY) : Prop := YV A ∧ L8 A ∧ cm A = []
def hoA (A : SY) (i : Nat) (q : PT) : SY := (A.1, dn A, pr A, se A, (wy A).eraseIdx i, cm A ++ [q])
theorem L8_cmQ {A : SY} {q : PT} (h : L8 A) : L8 (cmQ A q) := by
  unfold cmQ cmS cmE
  repeat' split
  all_goals exact h
theorem L8_wrk : ∀ (n : Nat) {A : SY}, L8 A → L8 (wrk n A)
  | 0, _, h => h
  | n + 1, A, h => by
    unfold wrk
    split
    · exact h
    · exact L8_wrk n (L8_cmQ h)
theorem YW_wrk {A : SY} (hI : YV A) (h8 : L8 A) : YW (wrk 800 A) := by
  have := wrk_ok 800 hI (cnt_le A)
  exact ⟨this.1, L8_wrk 800 h8, this.2.1⟩
theorem sndF_rows : ∀ (os : List (Int32 × Int32 × Int32)) (A : SY) (l p m c : Int32), pr (sndF A l p m c os) = pr A ∧ se (sndF A l p m c os) = se A
  | [], _, _, _, _, _ => ⟨rfl, rfl⟩
  | o :: os, A, l, p, m, c => by
    have := sndF_rows os (psA (mkF A o.1 o.2.1 m p c o.2.2) l [(nE A, false)]) l p m (c + 1)
    exact this
theorem L8_dsF {A : SY} {e : Int32} (hI : YV A) (h8 : L8 A) (ine : ina e (nE A)) : L8 (dsF A e) := by
  have gg := ga hI ine
  have fb := actsF_b (m := A.1 55 e) (v := A.1 59 e) hI.1.1 gg.2.1 (rp_d hI.1.1 gg.2.1 (dn A (pa A e)))
  intro x
  unfold dsF
  rw [(sndF_rows _ _ _ _ _ _).1, (sndF_rows _ _ _ _ _ _).2]
  show (ul (pr A) e (wOf A e).2.2.2.2.2 x).length ≤ 8 ∧ (ul (se A) e (nums (nE A) (wOf A e).2.2.2.2.1.length) x).length ≤ 8
  unfold ul
  by_cases z : x = e
  · rw [if_pos z, if_pos z, nums_len]
    exact ⟨fb.2.1, fb.1⟩
  · rw [if_neg z, if_neg z]; exact h8 x
theorem nxt_min {A : SY} {l v : Int32} (h : nxt A l v) (hv : ¬ v = -1) : ina v (nE A) ∧ hw A v = 0 ∧ ∀ f, ina f (nE A) → hw A f = 0 → pa A f = pa A v → ¬ f = v → bel A.1 v f := by
  rcases h with ⟨h1, -⟩ | ⟨h1, h2, h3⟩
  · exact absurd h1 hv
  · refine ⟨h2.1, h2.2.1, fun f f1 f2 f3 f4 => ?_⟩
    have := h3 f f1 f2 (by rw [f3]; exact h2.2.2)
    rcases bel_tot (a := A.1) (e := v) (f := f) with q | q | q
    · exact q
    · exact absurd q.symm f4
    · exact absurd q this
theorem YW_stp {A : SY} {l v : Int32} (hY : YW A) (hx : nxt A l v) : YW (stpF A l).2 := by
  have e := nx_ok hx
  unfold stpF
  split
  · exact hY
  · split
    · exact hY
    · split
      · exact hY
      · rename_i h1 h2 h3
        rw [e] at h1 ⊢
        have mn := nxt_min hx h1
        have h3 : nE A ≤ 392 := Classical.not_not.mp h3
        exact YW_wrk (YV_dsF hY.1 mn.1 mn.2.1 h3 mn.2.2) (L8_dsF hY.1 hY.2.1 mn.1)
theorem ers_perm : ∀ (l : List PT) (i : Nat) (hi : i < l.length), (l[i] :: l.eraseIdx i).Perm l
  | x :: l, 0, _ => List.Perm.refl _
  | x :: l, i + 1, h => by
    have := ers_perm l i (by simpa using h)
    exact (List.Perm.swap _ _ _).trans (List.Perm.cons x this)
theorem YV_hoA {A : SY} {i : Nat} {q : PT} (hI : YV A) (hi : i < (wy A).length) (hq : (wy A)[i] = q) : YV (hoA A i q) := by
  refine YV_perm hI rfl rfl rfl rfl ?_
  unfold pnd hoA
  show ((wy A).eraseIdx i ++ (cm A ++ [q])).Perm (wy A ++ cm A)
  have h1 : (q :: (wy A).eraseIdx i).Perm (wy A) := by rw [← hq]; exact ers_perm _ i hi
  have h2 : ((wy A).eraseIdx i ++ (cm A ++ [q])).Perm (q :: ((wy A).eraseIdx i ++ cm A)) := by
    rw [← List.append_assoc]
    exact List.perm_append_singleton _ _
  exact h2.trans (List.Perm.append_right _ h1 : (q :: (wy A).eraseIdx i ++ cm A).Perm _)
noncomputable def dal : Nat → Int32 → SY → Int32 × SY
  | 0, k, A => (k, A)
  | n + 1, k, A => match wy A with
    | [] => (k, A)
    | q :: _ => dal n (k + 1) (wrk 800 (hoA A 0 q))
theorem NC_wrk : ∀ (n : Nat) {A : SY}, YV A → ∀ x, NC (wrk n A) x → NC A x
  | 0, _, _, _, h => h
  | n + 1, A, hI, x, h => by
    unfold wrk at h
    split at h
    · exact h
    · rename_i q r hc
      exact (NC_STP hI (STP_cmQ hI hc) x (NC_wrk n (YV_cmQ hI hc) x h)).1
theorem cnt_dlv {A : SY} {i : Nat} {q : PT} (hY : YW A) (hi : i < (wy A).length) (hq : (wy A)[i] = q) : cnt (wrk 800 (hoA A i q)) < cnt A := by
  have hI := YV_hoA hY.1 hi hq
  have hc : cm (hoA A i q) = q :: [] := by show cm A ++ [q] = _; rw [hY.2.2]; rfl
  have e : wrk 800 (hoA A i q) = wrk 799 (cmQ (scm (hoA A i q) []) q) := by
    show wrk (799 + 1) _ = _
    rw [wrk, hc]
  rw [e]
  refine cnt_lt (q := q) hY.1 (fun x hx => ?_) (NC_in hY.1 (by unfold pnd; rw [← hq]; simp))
  have h1 := NC_wrk 799 (YV_cmQ hI hc) x hx
  exact NC_STP hI (STP_cmQ hI hc) x h1
