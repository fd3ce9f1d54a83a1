/-! 43: the yard, pure -/
abbrev PT : Type := Int32 × Bool
/-- attributes, done rows by part, printed rows by event, sent rows by event, on the way, to come -/
abbrev SY : Type := AT × (Int32 → List Int32) × (Int32 → List Int32) × (Int32 → List Int32) × List PT × List PT
abbrev dn (A : SY) : Int32 → List Int32 := A.2.1
abbrev pr (A : SY) : Int32 → List Int32 := A.2.2.1
abbrev se (A : SY) : Int32 → List Int32 := A.2.2.2.1
abbrev wy (A : SY) : List PT := A.2.2.2.2.1
abbrev cm (A : SY) : List PT := A.2.2.2.2.2
abbrev nE (A : SY) : Int32 := A.1 10 13
abbrev nP (A : SY) : Int32 := A.1 10 0
abbrev hw (A : SY) : Int32 → Int32 := A.1 60
abbrev pa (A : SY) : Int32 → Int32 := A.1 54
def sa (a : AT) (f : Nat) (j v : Int32) : AT := fun f' j' => if f' = f ∧ j' = j then v else a f' j'
def ul (d : Int32 → List Int32) (p : Int32) (l : List Int32) : Int32 → List Int32 := fun q => if q = p then l else d q
theorem sa_eq {a : AT} {f : Nat} {j v : Int32} : sa a f j v f j = v := by unfold sa; simp
theorem sa_ne {a : AT} {f f' : Nat} {j j' v : Int32} (h : ¬ (f' = f ∧ j' = j)) : sa a f j v f' j' = a f' j' := by unfold sa; rw [if_neg h]
theorem sa_fam {a : AT} {f f' : Nat} {j v : Int32} (h : ¬ f' = f) : sa a f j v f' = a f' := by funext j'; exact sa_ne fun q => h q.1
theorem sa_row {a : AT} {f : Nat} {j v : Int32} : sa a f j v f = vpd (a f) j v := by funext j'; unfold sa vpd; simp
theorem ul_eq {d : Int32 → List Int32} {p : Int32} {l : List Int32} : ul d p l p = l := if_pos rfl
theorem ul_ne {d : Int32 → List Int32} {p q : Int32} {l : List Int32} (h : ¬ q = p) : ul d p l q = d q := if_neg h
/-- keys alone -/
def klt (a : AT) (e f : Int32) : Prop := a 55 e < a 55 f ∨ (a 55 e = a 55 f ∧ (a 56 e < a 56 f ∨ (a 56 e = a 56 f ∧ (a 57 e < a 57 f ∨ (a 57 e = a 57 f ∧ a 58 e < a 58 f)))))
def keq (a : AT) (e f : Int32) : Prop := a 55 e = a 55 f ∧ a 56 e = a 56 f ∧ a 57 e = a 57 f ∧ a 58 e = a 58 f
/-- keys, then numbers -/
def bel (a : AT) (e f : Int32) : Prop := klt a e f ∨ (keq a e f ∧ e < f)
theorem klt_irr {a : AT} {e : Int32} : ¬ klt a e e := by unfold klt; grind
theorem klt_tr {a : AT} {e f g : Int32} (h : klt a e f) (h2 : klt a f g) : klt a e g := by unfold klt at *; grind
theorem klt_tot {a : AT} {e f : Int32} : klt a e f ∨ keq a e f ∨ klt a f e := by unfold klt keq; grind
theorem keq_sy {a : AT} {e f : Int32} (h : keq a e f) : keq a f e := by unfold keq at *; grind
theorem keq_tr {a : AT} {e f g : Int32} (h : keq a e f) (h2 : keq a f g) : keq a e g := by unfold keq at *; grind
theorem klt_keq {a : AT} {e f g : Int32} (h : klt a e f) (h2 : keq a f g) : klt a e g := by unfold klt keq at *; grind
theorem keq_klt {a : AT} {e f g : Int32} (h : keq a e f) (h2 : klt a f g) : klt a e g := by unfold klt keq at *; grind
theorem keq_rf {a : AT} {e : Int32} : keq a e e := ⟨rfl, rfl, rfl, rfl⟩
theorem bel_irr {a : AT} {e : Int32} : ¬ bel a e e := by
  rintro (h | h)
  · exact klt_irr h
  · grind
theorem bel_tr {a : AT} {e f g : Int32} (h : bel a e f) (h2 : bel a f g) : bel a e g := by
  rcases h with h | h <;> rcases h2 with h2 | h2
  · exact Or.inl (klt_tr h h2)
  · exact Or.inl (klt_keq h h2.1)
  · exact Or.inl (keq_klt h.1 h2)
  · exact Or.inr ⟨keq_tr h.1 h2.1, by grind⟩
theorem bel_tot {a : AT} {e f : Int32} : bel a e f ∨ e = f ∨ bel a f e := by
  rcases klt_tot (a := a) (e := e) (f := f) with h | h | h
  · exact Or.inl (Or.inl h)
  · by_cases q : e < f
    · exact Or.inl (Or.inr ⟨h, q⟩)
    · by_cases q2 : e = f
      · exact Or.inr (Or.inl q2)
      · exact Or.inr (Or.inr (Or.inr ⟨keq_sy h, by grind⟩))
  · exact Or.inr (Or.inr (Or.inl h))
theorem bel_nk {a : AT} {e f : Int32} (h : bel a e f) : ¬ klt a f e := by
  rcases h with h | h
  · exact fun q => klt_irr (klt_tr h q)
  · exact fun q => klt_irr (keq_klt h.1 q)
/-- a floor f: below it by keys -/
theorem bel_klt {a : AT} {e f g : Int32} (h : bel a e f) (h2 : klt a f g) : klt a e g := by
  rcases h with h | h
  · exact klt_tr h h2
  · exact keq_klt h.1 h2
noncomputable def belB (a : AT) (e f : Int32) : Bool := @decide (bel a e f) (Classical.propDecidable _)
theorem belB_t {a : AT} {e f : Int32} : belB a e f = true ↔ bel a e f := by unfold belB; exact @decide_eq_true_iff _ (Classical.propDecidable _)
theorem belB_f {a : AT} {e f : Int32} : belB a e f = false ↔ ¬ bel a e f := by
  rw [← belB_t]; cases belB a e f <;> simp
/-- posts: what goes to a part of line l comes at once -/
def psA (A : SY) (l : Int32) (S : List PT) : SY :=
  (A.1, dn A, pr A, se A, wy A ++ S.filter (fun q => !decide (A.1 42 (A.1 54 q.1) = l)), cm A ++ S.filter (fun q => decide (A.1 42 (A.1 54 q.1) = l)))
theorem psA_nil {A : SY} {l : Int32} : psA A l [] = A := by unfold psA; simp
theorem psA_cons {A : SY} {l : Int32} {q : PT} {S : List PT} : psA A l (q :: S) = psA (psA A l [q]) l S := by
  unfold psA
  by_cases h : A.1 42 (A.1 54 q.1) = l
  · simp [h, cm, wy]
  · simp [h, cm, wy]
def mtF (A : SY) (e : Int32) : SY := (sa (sa (sa A.1 60 e 4) 61 e 0) 10 34 (A.1 10 34 + 1), A.2)
/-- part p takes back t; k stays -/
def tkB (A : SY) (p : Int32) (k t : List Int32) : SY :=
  (fun f j => if f = 60 ∧ j ∈ t then 0 else if f = 51 ∧ j = p then A.1 51 p + nI t.length else A.1 f j, ul (dn A) p k, A.2.2)
/-- shadows for the events S, to be sent from line l -/
def shF (A : SY) (l : Int32) (S : List Int32) : SY := psA (sa A.1 10 33 (A.1 10 33 + nI S.length), A.2) l (S.map fun f => (f, true))
def snts (A : SY) (t : List Int32) : List Int32 := t.reverse.flatMap fun d => (se A d).reverse
noncomputable def kpt (A : SY) (e : Int32) : List Int32 := (dn A (pa A e)).takeWhile fun d => belB A.1 d e
noncomputable def tkn (A : SY) (e : Int32) : List Int32 := (dn A (pa A e)).dropWhile fun d => belB A.1 d e
noncomputable def cmE (A : SY) (e : Int32) : SY :=
  if A.1 61 e = 0 then shF (tkB (sa A.1 60 e 0, A.2) (pa A e) (kpt A e) (tkn A e)) (A.1 42 (pa A e)) (snts A (tkn A e))
  else mtF A e
noncomputable def cmS (A : SY) (e : Int32) : SY :=
  if hw A e = 3 then (sa A.1 61 e 1, A.2)
  else shF (mtF (tkB A (pa A e) (kpt A e) (tkn A e)) e) (A.1 42 (pa A e)) (snts A (tkn A e))
noncomputable def cmQ (A : SY) (q : PT) : SY := if q.2 then cmS A q.1 else cmE A q.1
def scm (A : SY) (l : List PT) : SY := (A.1, dn A, pr A, se A, wy A, l)
noncomputable def wrk : Nat → SY → SY
  | 0, A => A
  | n + 1, A => match cm A with
    | [] => A
    | q :: r => wrk n (cmQ (scm A r) q)
/-- an event is made -/
def mkF (A : SY) (p m b s c x : Int32) : SY :=
  (sa (sa (sa (sa (sa (sa (sa (sa A.1 10 13 (nE A + 1)) 54 (nE A) p) 55 (nE A) m) 56 (nE A) b) 57 (nE A) s) 58 (nE A) c) 60 (nE A) 3) 59 (nE A) x, A.2)
def sndF (A : SY) (l p m c : Int32) : List (Int32 × Int32 × Int32) → SY
  | [] => A
  | o :: os => sndF (psA (mkF A o.1 o.2.1 m p c o.2.2) l [(nE A, false)]) l p m (c + 1) os
def nums (n : Int32) : Nat → List Int32
  | 0 => []
  | k + 1 => n :: nums (n + 1) k
def zOf (A : SY) (e : Int32) : ZT := rp A.1 (pa A e) (dn A (pa A e))
def wOf (A : SY) (e : Int32) : WK := actsF A.1 (pa A e) (A.1 55 e) (A.1 59 e) (zOf A e)
def dsF (A : SY) (e : Int32) : SY :=
  sndF (sa (sa (sa A.1 60 e 1) 50 (pa A e) (A.1 50 (pa A e) + 1)) 62 e (wOf A e).2.2.2.1, ul (dn A) (pa A e) (dn A (pa A e) ++ [e]), ul (pr A) e (wOf A e).2.2.2.2.2, ul (se A) e (nums (nE A) (wOf A e).2.2.2.2.1.length), A.2.2.2.2)
    (A.1 42 (pa A e)) (pa A e) (A.1 55 e) (zOf A e).2.2 (wOf A e).2.2.2.2.1
