/-! 46: events and shadows come -/
def STP (A A' : SY) (e : Int32) (s : Bool) : Prop := ∃ (k t : List Int32) (R : List PT), (pnd A).Perm ((e, s) :: R) ∧
    (∀ f, ¬ f = 10 → ¬ f = 51 → ¬ f = 60 → ¬ f = 61 → A'.1 f = A.1 f) ∧ A'.1 10 0 = A.1 10 0 ∧ A'.1 10 13 = A.1 10 13 ∧ A'.1 10 14 = A.1 10 14 ∧
    dn A (pa A e) = k ++ t ∧ dn A' = ul (dn A) (pa A e) k ∧ pr A' = pr A ∧ se A' = se A ∧
    (∀ x, ¬ x = e → hw A' x = if x ∈ t then 0 else hw A x) ∧ (∀ x, ¬ x = e → A'.1 61 x = A.1 61 x) ∧
    (pnd A').Perm (R ++ (snts A t).map fun f => (f, true)) ∧
    ((s = false ∧ A.1 61 e = 1 ∧ hw A' e = 4 ∧ A'.1 61 e = 0 ∧ t = []) ∨ (s = false ∧ A.1 61 e = 0 ∧ hw A' e = 0 ∧ A'.1 61 e = 0 ∧ ∀ d, d ∈ k → bel A.1 d e) ∨
      (s = true ∧ hw A e = 3 ∧ hw A' e = 3 ∧ A'.1 61 e = 1 ∧ t = []) ∨ (s = true ∧ ¬ hw A e = 3 ∧ hw A' e = 4 ∧ A'.1 61 e = 0 ∧ ¬ e ∈ k))
theorem YV_STP {A A' : SY} {e : Int32} {s : Bool} (hI : YV A) (h : STP A A' e s) : YV A' := by
  obtain ⟨k, t, R, h1, h2, h3, h4, h5, h6, h7, h8, h9, h10, h11, h12, h13⟩ := h
  exact YV_step hI h1 h2 h3 h4 h5 h6 h7 h8 h9 h10 h11 h12 h13
/-- not come yet -/
def NC (A : SY) (q : PT) : Prop := ina q.1 (nE A) ∧ (q.2 = false → hw A q.1 = 3) ∧ (q.2 = true → A.1 61 q.1 = 0 ∧ ¬ hw A q.1 = 4)
theorem NC_STP {A A' : SY} {e : Int32} {s : Bool} (hI : YV A) (h : STP A A' e s) (x : PT) (hx : NC A' x) : NC A x ∧ ¬ x = (e, s) := by
  obtain ⟨k, t, R, h1, h2, h3, h4, h5, h6, h7, h8, h9, h10, h11, h12, h13⟩ := h
  obtain ⟨y, b⟩ := x
  obtain ⟨n1, n2, n3⟩ := hx
  rw [nE, h4] at n1
  simp only at n1 n2 n3
  have es : (e, s) ∈ pnd A := h1.mem_iff.mpr (by simp)
  have he3 : s = false → hw A e = 3 := fun h => ((hI.2.2.1.2.1 e).mp (by rw [← h]; exact es)).2
  have tm : ∀ d, d ∈ t → hw A d = 1 := fun d h => (hI.2.1.1 (pa A e) d (by rw [h6]; exact List.mem_append.mpr (Or.inr h))).2.1
  by_cases z : y = e
  · subst z
    refine ⟨⟨n1, fun hb => ?_, fun hb => ?_⟩, fun q => ?_⟩
    · have n2 := n2 hb
      rcases h13 with g | g | g | g
      · exact he3 g.1
      · exact he3 g.1
      · exact g.2.1
      · have g3 := g.2.2.1; rw [n2] at g3; exact absurd g3 (by decide)
    · have n3 := n3 hb
      simp only
      rcases h13 with g | g | g | g
      · exact absurd g.2.2.1 n3.2
      · exact ⟨g.2.1, by rw [he3 g.1]; decide⟩
      · rw [n3.1] at g; exact absurd g.2.2.2.1 (by decide)
      · exact absurd g.2.2.1 n3.2
    · have : b = s := congrArg Prod.snd q
      subst this
      cases b with
      | false =>
        have n2 := n2 rfl
        rcases h13 with g | g | g | g
        · rw [n2] at g; exact absurd g.2.2.1 (by decide)
        · rw [n2] at g; exact absurd g.2.2.1 (by decide)
        · cases g.1
        · cases g.1
      | true =>
        have n3 := n3 rfl
        rcases h13 with g | g | g | g
        · cases g.1
        · cases g.1
        · rw [n3.1] at g; exact absurd g.2.2.2.1 (by decide)
        · exact n3.2 g.2.2.1
  · have w := h10 y z
    refine ⟨⟨n1, fun hb => ?_, fun hb => ?_⟩, fun q => z (congrArg Prod.fst q)⟩
    · have n2 := n2 hb
      rw [w] at n2
      split at n2
      · exact absurd n2 (by decide)
      · exact n2
    · have n3 := n3 hb
      refine ⟨by rw [← h11 y z]; exact n3.1, ?_⟩
      have n4 := n3.2
      rw [w] at n4
      split at n4
      · rename_i hy; simp only; rw [tm y hy]; decide
      · exact n4
theorem psA_pnd (A : SY) (l : Int32) (S : List PT) : (pnd (psA A l S)).Perm (pnd A ++ S) := by
  unfold pnd psA
  show ((wy A ++ _) ++ (cm A ++ _)).Perm _
  rw [List.append_assoc, List.append_assoc]
  refine List.Perm.append_left _ ((List.perm_append_comm_assoc _ _ _).trans (List.Perm.append_left _ ?_))
  exact List.perm_append_comm.trans (List.filter_append_perm _ _)
theorem kt {A : SY} {e : Int32} : dn A (pa A e) = kpt A e ++ tkn A e := by
  unfold kpt tkn
  exact List.takeWhile_append_dropWhile.symm
theorem kpt_b {A : SY} {e d : Int32} (h : d ∈ kpt A e) : bel A.1 d e := by
  have : (kpt A e).all (fun d => belB A.1 d e) = true := List.all_takeWhile
  exact belB_t.mp (List.all_eq_true.mp this d h)
theorem dw_b {a : AT} {e : Int32} : ∀ {l : List Int32}, l.Pairwise (bel a) → ∀ d, d ∈ l.dropWhile (fun d => belB a d e) → ¬ bel a d e
  | [], _, d, h => by cases h
  | x :: l, hp, d, h => by
    rw [List.dropWhile_cons] at h
    split at h
    · exact dw_b (List.pairwise_cons.mp hp).2 d h
    · rename_i hx
      have nx : ¬ bel a x e := fun q => hx (belB_t.mpr q)
      rcases List.mem_cons.mp h with rfl | h
      · exact nx
      · exact fun q => nx (bel_tr ((List.pairwise_cons.mp hp).1 d h) q)
theorem tkn_b {A : SY} (hI : YV A) {e d : Int32} (h : d ∈ tkn A e) : ¬ bel A.1 d e := dw_b (hI.2.1.2.2.1 _) d h
theorem tkn_in {A : SY} {e d : Int32} (h : d ∈ tkn A e) : d ∈ dn A (pa A e) := by rw [kt]; exact List.mem_append.mpr (Or.inr h)
theorem kpt_in {A : SY} {e d : Int32} (h : d ∈ kpt A e) : d ∈ dn A (pa A e) := by rw [kt]; exact List.mem_append.mpr (Or.inl h)
theorem scm_pnd {A : SY} {q : PT} {r : List PT} (hc : cm A = q :: r) : (pnd A).Perm (q :: pnd (scm A r)) := by
  unfold pnd
  rw [hc]
  exact List.perm_middle
theorem STP_cmE {A : SY} {e : Int32} {r : List PT} (hI : YV A) (hc : cm A = (e, false) :: r) : STP A (cmE (scm A r) e) e false := by
  have hP := scm_pnd hc
  have h3 : hw A e = 3 := ((hI.2.2.1.2.1 e).mp (hP.mem_iff.mpr (by simp))).2
  have ine : ina e (nE A) := ((hI.2.2.1.2.1 e).mp (hP.mem_iff.mpr (by simp))).1
  unfold cmE
  split
  · rename_i h0
    have nt : ¬ e ∈ tkn A e := fun q => by have := (hI.2.1.1 _ e (tkn_in q)).2.1; rw [h3] at this; exact absurd this (by decide)
    refine ⟨kpt A e, tkn A e, pnd (scm A r), hP, fun f h1 h2 h4 h5 => ?_, ?_, ?_, ?_, kt, rfl, rfl, rfl, fun x hx => ?_, fun x hx => ?_, ?_, Or.inr (Or.inl ⟨rfl, h0, ?_, ?_, fun d hd => kpt_b hd⟩)⟩
    · funext j
      simp [shF, psA, tkB, sa, scm, h1, h2, h4]
    · simp [shF, psA, tkB, sa, scm]
    · simp [shF, psA, tkB, sa, scm]
    · simp [shF, psA, tkB, sa, scm]
    · have k1 : tkn (scm A r) e = tkn A e := rfl
      simp [hw, shF, psA, tkB, sa, hx, scm]
      rfl
    · simp [shF, psA, tkB, sa, scm]
    · exact psA_pnd _ _ _
    · have k1 : tkn (scm A r) e = tkn A e := rfl
      simp [hw, shF, psA, tkB, sa, k1]
    · simpa [shF, psA, tkB, sa, scm] using h0
  · rename_i h0
    have h1 : A.1 61 e = 1 := by
      rcases (hI.1.2.2.1 e ine).2.2.2 with q | q
      · exact absurd q h0
      · exact q
    refine ⟨dn A (pa A e), [], pnd (scm A r), hP, fun f h1 h2 h4 h5 => ?_, ?_, ?_, ?_, by simp, ?_, rfl, rfl, fun x hx => ?_, fun x hx => ?_, ?_, Or.inl ⟨rfl, h1, ?_, ?_, rfl⟩⟩
    · funext j
      simp [mtF, sa, scm, h1, h4, h5]
    · simp [mtF, sa, scm]
    · simp [mtF, sa, scm]
    · simp [mtF, sa, scm]
    · funext p; unfold ul; split
      · rename_i q; rw [q]; rfl
      · rfl
    · simp [hw, mtF, sa, scm, hx]
    · simp [hw, mtF, sa, scm, hx]
    · simpa [mtF, snts, pnd] using List.Perm.refl _
    · simp [hw, mtF, sa]
    · simp [hw, mtF, sa]
theorem STP_cmS {A : SY} {e : Int32} {r : List PT} (hI : YV A) (hc : cm A = (e, true) :: r) : STP A (cmS (scm A r) e) e true := by
  have hP := scm_pnd hc
  obtain ⟨ine, h0, h4, hs⟩ := hI.2.2.1.2.2.1 e (hP.mem_iff.mpr (by simp))
  unfold cmS
  split
  · rename_i h3
    refine ⟨dn A (pa A e), [], pnd (scm A r), hP, fun f h1 h2 h4 h5 => ?_, ?_, ?_, ?_, by simp, ?_, rfl, rfl, fun x hx => ?_, fun x hx => ?_, ?_, Or.inr (Or.inr (Or.inl ⟨rfl, h3, ?_, ?_, rfl⟩))⟩
    · funext j
      simp [sa, scm, h5]
    · simp [sa, scm]
    · simp [sa, scm]
    · simp [sa, scm]
    · funext p; unfold ul; split
      · rename_i q; rw [q]; rfl
      · rfl
    · simp [hw, sa, scm]
    · simp [hw, sa, scm, hx]
    · simpa [snts, pnd] using List.Perm.refl _
    · simpa [hw, sa, scm] using h3
    · simp [sa]
  · rename_i h3
    have nk : ¬ e ∈ kpt A e := fun q => bel_irr (kpt_b q)
    refine ⟨kpt A e, tkn A e, pnd (scm A r), hP, fun f h1 h2 h4 h5 => ?_, ?_, ?_, ?_, kt, rfl, rfl, rfl, fun x hx => ?_, fun x hx => ?_, ?_, Or.inr (Or.inr (Or.inr ⟨rfl, h3, ?_, ?_, nk⟩))⟩
    · funext j
      simp [shF, psA, mtF, tkB, sa, scm, h1, h2, h4, h5]
    · simp [shF, psA, mtF, tkB, sa, scm]
    · simp [shF, psA, mtF, tkB, sa, scm]
    · simp [shF, psA, mtF, tkB, sa, scm]
    · have k1 : tkn (scm A r) e = tkn A e := rfl
      simp [hw, shF, psA, mtF, tkB, sa, hx, scm]
      rfl
    · simp [shF, psA, mtF, tkB, sa, hx, scm]
    · exact psA_pnd _ _ _
    · simp [hw, shF, psA, mtF, sa]
    · simp [shF, psA, mtF, sa]
theorem STP_cmQ {A : SY} {q : PT} {r : List PT} (hI : YV A) (hc : cm A = q :: r) : STP A (cmQ (scm A r) q) q.1 q.2 := by
  obtain ⟨e, s⟩ := q
  cases s with
  | false => exact STP_cmE hI hc
  | true => exact STP_cmS hI hc
theorem YV_cmQ {A : SY} {q : PT} {r : List PT} (hI : YV A) (hc : cm A = q :: r) : YV (cmQ (scm A r) q) := YV_STP hI (STP_cmQ hI hc)
def codes : List PT := (List.range 400).flatMap fun n => [(nI n, false), (nI n, true)]
noncomputable def ncB (A : SY) (q : PT) : Bool := @decide (NC A q) (Classical.propDecidable _)
theorem ncB_t {A : SY} {q : PT} : ncB A q = true ↔ NC A q := by unfold ncB; exact @decide_eq_true_iff _ (Classical.propDecidable _)
/-- how many have not come yet -/
noncomputable def cnt (A : SY) : Nat := (codes.filter (ncB A)).length
theorem codes_len : codes.length = 800 := by decide +kernel
theorem cnt_le (A : SY) : cnt A ≤ 800 := by
  unfold cnt
  have := List.length_filter_le (ncB A) codes
  rw [codes_len] at this
  exact this
theorem codes_mem {e : Int32} {s : Bool} (h : ina e 400) : (e, s) ∈ codes := by
  obtain ⟨n, rfl, hn⟩ := nJ_exlt (N := 400) (by decide) h.1 h.2
  unfold codes
  refine List.mem_flatMap.mpr ⟨n, List.mem_range.mpr hn, ?_⟩
  cases s <;> simp
theorem codes_nd : codes.Nodup := by
  unfold codes
  refine List.pairwise_flatMap.mpr ⟨fun n _ => by simp, ?_⟩
  refine List.pairwise_iff_getElem.mpr fun i j hi hj hij => ?_
  simp only [List.length_range] at hi hj
  simp only [List.getElem_range]
  intro q h1 q' h2 eq
  subst eq
  have e1 : q.1 = nI i := by
    simp only [List.mem_cons, List.not_mem_nil, or_false] at h1
    rcases h1 with h1 | h1 <;> rw [h1]
  have e2 : q.1 = nI j := by
    simp only [List.mem_cons, List.not_mem_nil, or_false] at h2
    rcases h2 with h2 | h2 <;> rw [h2]
  have := nJ_inj (by omega) (by omega) (e1.symm.trans e2)
  omega
theorem NC_in {A : SY} (hI : YV A) {q : PT} (h : q ∈ pnd A) : NC A q := by
  obtain ⟨e, s⟩ := q
  cases s with
  | false =>
    have := (hI.2.2.1.2.1 e).mp h
    exact ⟨this.1, fun _ => this.2, fun q => by cases q⟩
  | true =>
    have := hI.2.2.1.2.2.1 e h
    exact ⟨this.1, (fun q => by cases q), fun _ => ⟨this.2.1, this.2.2.1⟩⟩
theorem NC_code {A : SY} (hI : YV A) {q : PT} (h : NC A q) : q ∈ codes.filter (ncB A) := by
  refine List.mem_filter.mpr ⟨?_, ncB_t.mpr h⟩
  obtain ⟨e, s⟩ := q
  exact codes_mem ⟨h.1.1, Int32.lt_of_lt_of_le h.1.2 hI.1.2.1.2⟩
theorem pnd_cnt {A : SY} (hI : YV A) : (pnd A).length ≤ cnt A := hI.2.2.1.1.length_le_of_subset fun _ hq => NC_code hI (NC_in hI hq)
theorem cnt_lt {A A' : SY} {q : PT} (hI : YV A) (h : ∀ x, NC A' x → NC A x ∧ ¬ x = q) (hq : NC A q) : cnt A' < cnt A := by
  have nd : (q :: codes.filter (ncB A')).Nodup := by
    refine List.nodup_cons.mpr ⟨fun z => ?_, codes_nd.filter _⟩
    exact (h q (ncB_t.mp (List.mem_filter.mp z).2)).2 rfl
  have := nd.length_le_of_subset (l₂ := codes.filter (ncB A)) (fun x hx => by
    rcases List.mem_cons.mp hx with rfl | hx
    · exact NC_code hI hq
    · exact NC_code hI (h x (ncB_t.mp (List.mem_filter.mp hx).2)).1)
  rw [List.length_cons] at this
  exact this
theorem cnt_cmQ {A : SY} {q : PT} {r : List PT} (hI : YV A) (hc : cm A = q :: r) : cnt (cmQ (scm A r) q) < cnt A :=
  cnt_lt hI (fun x hx => NC_STP hI (STP_cmQ hI hc) x hx) (NC_in hI ((scm_pnd hc).mem_iff.mpr (by simp)))
theorem wrk_ok : ∀ (n : Nat) {A : SY}, YV A → cnt A ≤ n → YV (wrk n A) ∧ cm (wrk n A) = [] ∧ cnt (wrk n A) ≤ cnt A
  | 0, A, hI, hn => by
    have := pnd_cnt hI
    have : (pnd A).length = 0 := by omega
    have : pnd A = [] := List.eq_nil_of_length_eq_zero this
    refine ⟨hI, ?_, by simp [wrk]⟩
    unfold pnd at this
    exact (List.append_eq_nil_iff.mp this).2
  | n + 1, A, hI, hn => by
    unfold wrk
    split
    · rename_i h
      exact ⟨hI, h, by omega⟩
    · rename_i q r h
      have c := cnt_cmQ hI h
      have := wrk_ok n (YV_cmQ hI h) (by omega)
      exact ⟨this.1, this.2.1, by omega⟩
