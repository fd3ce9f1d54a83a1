/-! 58: what is settled is what one slow line makes -/
def sts (A : SY) : List Int32 := ((List.range (nE A).toNatClampNeg).map nI).filter fun e => decide (A.1 57 e = -1)
def PLn (A : SY) (pre : List Int32) : List Int32 := sts A ++ pre.flatMap (se A)
theorem evs_mem {A : SY} (hI : YV A) {e : Int32} : e ∈ (List.range (nE A).toNatClampNeg).map nI ↔ ina e (nE A) := by
  obtain ⟨N, hN, hN4⟩ := nE_nat hI
  rw [hN, show (nI N).toNatClampNeg = N from Int32.toNatClampNeg_ofNat_of_lt (by omega), List.mem_map, ina_nat hN4]
  constructor
  · rintro ⟨i, h1, h2⟩; exact ⟨i, List.mem_range.mp h1, h2.symm⟩
  · rintro ⟨i, h1, h2⟩; exact ⟨i, List.mem_range.mpr h1, h2.symm⟩
theorem evs_nd {A : SY} (hI : YV A) : ((List.range (nE A).toNatClampNeg).map nI).Nodup := by
  obtain ⟨N, hN, hN4⟩ := nE_nat hI
  rw [hN, show (nI N).toNatClampNeg = N from Int32.toNatClampNeg_ofNat_of_lt (by omega)]
  refine List.pairwise_map.mpr (List.pairwise_iff_getElem.mpr fun i j hi hj hij => ?_)
  simp only [List.length_range] at hi hj
  simp only [List.getElem_range]
  intro q
  have := nJ_inj (by omega) (by omega) q
  omega
theorem sts_mem {A : SY} (hI : YV A) {e : Int32} : e ∈ sts A ↔ ina e (nE A) ∧ A.1 57 e = -1 := by
  unfold sts
  rw [List.mem_filter, evs_mem hI]; simp
/-- live events with one key are one event -/
theorem lv_uq {A : SY} (hI : YV A) {e f : Int32} (he : ina e (nE A)) (hf : ina f (nE A)) (le : lv A e) (lf : lv A f) (k : keq A.1 e f) : e = f := by
  by_cases s : A.1 57 e = -1
  · exact hI.2.2.2.2.2.2.1 e f he hf s (by rw [← k.2.2.1]; exact s) k.2.2.2
  · obtain ⟨d, d1, d2, d3⟩ := hI.2.2.2.1.1 e he le s
    obtain ⟨d', d1', d2', d3'⟩ := hI.2.2.2.1.1 f hf lf (by rw [← k.2.2.1]; exact s)
    have m := hI.2.1.2.1 d d1 d2
    have m' := hI.2.1.2.1 d' d1' d2'
    have q : pa A d = pa A d' := (J3 hI m d3).1.symm.trans (k.2.2.1.trans (J3 hI m' d3').1)
    rw [← q] at m'
    have J := J1 hI (pa A d)
    exact PLC_inj (by omega) J.1 e f (List.mem_flatMap.mpr ⟨d, m, d3⟩) (List.mem_flatMap.mpr ⟨d', m', d3'⟩) k.2.2.2
theorem stl_lv {A : SY} (hY : YW A) {e : Int32} (he : ina e (nE A)) (s : stl A e) : lv A e := by
  have no : ¬ opn A e := fun q => klt_irr (s.2 e he q)
  refine ⟨by rw [s.1]; decide, ?_, fun q => ?_⟩
  · rcases (hY.1.1.2.2.1 e he).2.2.2 with q | q
    · exact q
    · have := (hY.1.2.2.1.2.2.2 e he q).1
      rw [s.1] at this; exact absurd this (by decide)
  · unfold pnd at q
    rw [hY.2.2, List.append_nil] at q
    exact no (Or.inr (Or.inr q))
theorem lv_stl {A : SY} (hY : YW A) {e : Int32} (he : ina e (nE A)) (l : lv A e) (b : blw A e) : stl A e := by
  refine ⟨?_, b⟩
  have no : ¬ opn A e := fun q => klt_irr (b e he q)
  rcases (hY.1.1.2.2.1 e he).2.2.1 with q | q | q | q
  · exact absurd (Or.inl q) no
  · exact q
  · exact absurd (Or.inr (Or.inl q)) no
  · exact absurd q l.1
theorem st_lv {A : SY} (hI : YV A) {e : Int32} (he : ina e (nE A)) (s : A.1 57 e = -1) : lv A e := by
  refine ⟨?_, ?_, fun q => (hI.2.2.1.2.2.1 e q).2.2.2 s⟩
  · rcases hI.2.2.2.2.2.1 e he with q | q
    · exact q.2.2.2.2
    · rw [s] at q; exact absurd q.1 (by decide)
  · rcases (hI.1.2.2.1 e he).2.2.2 with q | q
    · exact q
    · exact absurd s (hI.2.2.1.2.2.2 e he q).2
theorem PL_mem {A : SY} (hY : YW A) (hs : SRT A (sod A)) {pre rest : List Int32} (e : sod A = pre ++ rest) {f : Int32} (hf : f ∈ PLn A pre) : ina f (nE A) ∧ lv A f := by
  rcases List.mem_append.mp hf with h | h
  · have := (sts_mem hY.1).mp h
    exact ⟨this.1, st_lv hY.1 this.1 this.2⟩
  · obtain ⟨d, h1, h2⟩ := List.mem_flatMap.mp h
    have := (hs.1 d).mp (by rw [e]; exact List.mem_append.mpr (Or.inl h1))
    exact hY.1.2.2.2.1.2 d this.1 this.2.1 f h2
theorem PL_nd {A : SY} (hY : YW A) (hs : SRT A (sod A)) {pre rest : List Int32} (e : sod A = pre ++ rest) : (PLn A pre).Nodup := by
  have hd : ∀ d, d ∈ pre → ina d (nE A) ∧ hw A d = 1 := fun d h => by
    have := (hs.1 d).mp (by rw [e]; exact List.mem_append.mpr (Or.inl h))
    exact ⟨this.1, this.2.1⟩
  have pn : pre.Nodup := by
    have := pw_nd hs.2
    rw [e] at this
    exact (List.nodup_append.mp this).1
  refine List.nodup_append.mpr ⟨(evs_nd hY.1).filter _, ?_, fun a ha b hb q => ?_⟩
  · refine List.pairwise_flatMap.mpr ⟨fun d h => ?_, ?_⟩
    · have m := hY.1.2.1.2.1 d (hd d h).1 (hd d h).2
      have nd := J2 hY.1 (pa A d)
      obtain ⟨x, y, exy⟩ := dn_split m
      rw [exy, List.flatMap_append, List.flatMap_cons] at nd
      exact (List.nodup_append.mp (List.nodup_append.mp nd).2.1).1
    · refine List.Pairwise.imp_of_mem (fun {x y} hx hy h a ha b hb q => ?_) pn
      rw [← q] at hb
      exact h (J4 hY.1 (hd x hx).1 (hd x hx).2 (hd y hy).1 (hd y hy).2 ha hb)
  · have s1 := ((sts_mem hY.1).mp ha).2
    obtain ⟨d, h1, h2⟩ := List.mem_flatMap.mp hb
    have m := hY.1.2.1.2.1 d (hd d h1).1 (hd d h1).2
    have s2 := (J3 hY.1 m h2).1
    rw [q, s2] at s1
    have := (ga hY.1 (hd d h1).1).2.1.1
    rw [s1] at this
    exact absurd this (by decide)
theorem PL_blw {A : SY} (hY : YW A) (hs : SRT A (sod A)) {pre rest : List Int32} (e : sod A = pre ++ rest) {f : Int32} (hf : f ∈ PLn A pre) (b : blw A f) : f ∈ sod A := by
  have := PL_mem hY hs e hf
  exact (hs.1 f).mpr ⟨this.1, lv_stl hY this.1 this.2 b⟩
theorem PL_next {A : SY} (hY : YW A) (hs : SRT A (sod A)) {pre rest : List Int32} {s : Int32} (e : sod A = pre ++ s :: rest) : s ∈ PLn A pre := by
  have hS := (hs.1 s).mp (by rw [e]; simp)
  have ls := stl_lv hY hS.1 hS.2
  by_cases q : A.1 57 s = -1
  · exact List.mem_append.mpr (Or.inl ((sts_mem hY.1).mpr ⟨hS.1, q⟩))
  · obtain ⟨d, d1, d2, d3⟩ := hY.1.2.2.2.1.1 s hS.1 ls q
    have m := hY.1.2.1.2.1 d d1 d2
    have k := (J3 hY.1 m d3).2.2.2
    have sd : stl A d := ⟨d2, fun f f1 f2 => klt_tr k (hS.2.2 f f1 f2)⟩
    have din := (hs.1 d).mpr ⟨d1, sd⟩
    have pw := hs.2
    rw [e] at din pw
    refine List.mem_append.mpr (Or.inr (List.mem_flatMap.mpr ⟨d, ?_, d3⟩))
    have p2 := (List.pairwise_cons.mp (List.pairwise_append.mp pw).2.1).1
    rcases List.mem_append.mp din with y | y
    · exact y
    · rcases List.mem_cons.mp y with y | y
      · rw [y] at k; exact absurd k klt_irr
      · exact absurd (Or.inl k) (fun z => bel_irr (bel_tr (p2 d y) z))
theorem PL_pre {A : SY} (hY : YW A) (hs : SRT A (sod A)) : ∀ {pre rest : List Int32}, sod A = pre ++ rest → ∀ f, f ∈ pre → f ∈ PLn A pre := by
  intro pre rest e f hf
  obtain ⟨x, y, exy⟩ := List.append_of_mem hf
  have := PL_next hY hs (pre := x) (s := f) (rest := y ++ rest) (by rw [e, exy]; simp)
  rcases List.mem_append.mp this with q | q
  · exact List.mem_append.mpr (Or.inl q)
  · refine List.mem_append.mpr (Or.inr ?_)
    rw [exy, List.flatMap_append]
    exact List.mem_append.mpr (Or.inl q)
/-- the next one has the least key of what is left -/
theorem PL_min {A : SY} (hY : YW A) (hs : SRT A (sod A)) {pre rest : List Int32} {s f : Int32} (e : sod A = pre ++ s :: rest) (hf : f ∈ PLn A pre) (nf : ¬ f ∈ pre) (b : blw A f) (ns : ¬ f = s) : klt A.1 s f := by
  have fin := PL_blw hY hs (rest := s :: rest) e hf b
  have pw := hs.2
  rw [e] at fin pw
  rcases List.mem_append.mp fin with y | y
  · exact absurd y nf
  · rcases List.mem_cons.mp y with y | y
    · exact absurd y ns
    · have p2 := (List.pairwise_cons.mp (List.pairwise_append.mp pw).2.1).1 f y
      rcases p2 with z | z
      · exact z
      · have hS := (hs.1 s).mp (by rw [e]; simp)
        have hF := PL_mem hY hs (rest := s :: rest) e hf
        exact absurd (lv_uq hY.1 hS.1 hF.1 (stl_lv hY hS.1 hS.2) hF.2 z.1).symm ns
theorem PL_end {A : SY} (hY : YW A) (hs : SRT A (sod A)) {f : Int32} (hf : f ∈ PLn A (sod A)) (nf : ¬ f ∈ sod A) : ¬ blw A f := fun b => nf (PL_blw hY hs (rest := []) (by simp) hf b)
/-- what a part has settled, in order -/
theorem sod_dn {A : SY} (hY : YW A) (hs : SRT A (sod A)) (p : Int32) : (sod A).filter (fun d => decide (pa A d = p)) = sdn A p := by
  have pwd := hY.1.2.1.2.2.1 p
  have tw : ∀ d, d ∈ sdn A p ↔ d ∈ dn A p ∧ stl A d := by
    intro d
    have e := sdn_eq A p
    have all : (sdn A p).all (stlB A) = true := List.all_takeWhile
    constructor
    · intro h
      exact ⟨by rw [e]; exact List.mem_append.mpr (Or.inl h), stlB_t.mp (List.all_eq_true.mp all d h)⟩
    · rintro ⟨h1, h2⟩
      rw [e] at h1
      rcases List.mem_append.mp h1 with q | q
      · exact q
      · exfalso
        have key : ∀ l : List Int32, l.Pairwise (bel A.1) → (∀ x, x ∈ l → hw A x = 1) → ∀ x, x ∈ l.dropWhile (stlB A) → ¬ stl A x := by
          intro l
          induction l with
          | nil => intro _ _ x hx; cases hx
          | cons y l ih =>
            intro hp hw1 x hx
            rw [List.dropWhile_cons] at hx
            split at hx
            · exact ih (List.pairwise_cons.mp hp).2 (fun x hx => hw1 x (by simp [hx])) x hx
            · rename_i ny
              have ny : ¬ stl A y := fun z => ny (stlB_t.mpr z)
              rcases List.mem_cons.mp hx with rfl | hx
              · exact ny
              · intro z
                refine ny ⟨hw1 y (by simp), fun f f1 f2 => ?_⟩
                exact bel_klt ((List.pairwise_cons.mp hp).1 x hx) (z.2 f f1 f2)
        exact key (dn A p) pwd (fun x hx => (hY.1.2.1.1 p x hx).2.1) d q h2
  refine srt_uq (a := A.1) (hs.2.filter _) ?_ fun d => ?_
  · rw [sdn_eq A p] at pwd
    exact (List.pairwise_append.mp pwd).1
  · rw [List.mem_filter, hs.1, tw]
    simp only [decide_eq_true_eq]
    constructor
    · rintro ⟨⟨h1, h2⟩, h3⟩
      exact ⟨by rw [← h3]; exact hY.1.2.1.2.1 d h1 h2.1, h2⟩
    · rintro ⟨h1, h2⟩
      have := hY.1.2.1.1 p d h1
      exact ⟨⟨this.1, h2⟩, this.2.2⟩
def pof (A : SY) (p : Int32) (pre : List Int32) : List Int32 := pre.filter fun d => decide (pa A d = p)
theorem pof_RES {A : SY} (hY : YW A) (hs : SRT A (sod A)) {pre rest : List Int32} {s : Int32} (e : sod A = pre ++ s :: rest) : RES A (pa A s) (pof A (pa A s) pre) s := by
  have h1 := sod_dn hY hs (pa A s)
  have h2 := sdn_eq A (pa A s)
  rw [← h1, e, List.filter_append, List.filter_cons_of_pos (by simp)] at h2
  rw [List.append_assoc, List.cons_append] at h2
  exact hY.1.2.2.2.2.1 (pa A s) (pof A (pa A s) pre) s _ h2
theorem PL_len {A : SY} (hY : YW A) (hs : SRT A (sod A)) {pre rest : List Int32} (e : sod A = pre ++ rest) : (PLn A pre).length ≤ 400 :=
  rng_len hY.1.1.2.1.2 (fun d hd => (PL_mem hY hs e hd).1) (PL_nd hY hs e)
