/-! 45: what comes keeps what always holds -/
theorem RU_sr {a b : AT} (h : SR a b) (r : RU a) : RU b := by
  unfold RU
  rw [h.1, h.2 43 (by decide) (by decide), h.2 45 (by decide) (by decide), h.2 46 (by decide) (by decide), h.2 47 (by decide) (by decide), h.2 48 (by decide) (by decide), h.2 49 (by decide) (by decide)]
  exact r
theorem RES_co {A A' : SY} {p : Int32} {pre : List Int32} {d : Int32} (h : SR A.1 A'.1) (g : ∀ f, 54 ≤ f → f ≤ 59 → A'.1 f = A.1 f) (g2 : A'.1 62 = A.1 62) (hpr : pr A' = pr A) (hse : se A' = se A) (r : RES A p pre d) : RES A' p pre d := by
  have e : rp A'.1 p pre = rp A.1 p pre := rp_sr h p pre fun e _ => by rw [g 55 (by decide) (by decide), g 59 (by decide) (by decide)]; exact ⟨rfl, rfl⟩
  have w : wAt A'.1 p pre d = wAt A.1 p pre d := by
    unfold wAt
    rw [e, actsF_sr h, g 55 (by decide) (by decide), g 59 (by decide) (by decide)]
  unfold RES
  rw [w, e, g2, hpr, hse, g 55 (by decide) (by decide)]
  exact ⟨r.1, r.2.1, SNT_co (fun f _ q h1 h2 => by rw [g q h1 h2]) r.2.2⟩
theorem YV_step {A A' : SY} {e : Int32} {s : Bool} {k t : List Int32} {R : List PT} (hI : YV A) (hP : (pnd A).Perm ((e, s) :: R))
    (a1 : ∀ f, ¬ f = 10 → ¬ f = 51 → ¬ f = 60 → ¬ f = 61 → A'.1 f = A.1 f) (a2 : A'.1 10 0 = A.1 10 0) (a3 : A'.1 10 13 = A.1 10 13) (a4 : A'.1 10 14 = A.1 10 14)
    (hd : dn A (pa A e) = k ++ t) (hd' : dn A' = ul (dn A) (pa A e) k) (hpr : pr A' = pr A) (hse : se A' = se A)
    (w1 : ∀ x, ¬ x = e → hw A' x = if x ∈ t then 0 else hw A x) (s1 : ∀ x, ¬ x = e → A'.1 61 x = A.1 61 x)
    (hP' : (pnd A').Perm (R ++ (snts A t).map fun f => (f, true)))
    (hc : (s = false ∧ A.1 61 e = 1 ∧ hw A' e = 4 ∧ A'.1 61 e = 0 ∧ t = []) ∨ (s = false ∧ A.1 61 e = 0 ∧ hw A' e = 0 ∧ A'.1 61 e = 0 ∧ ∀ d, d ∈ k → bel A.1 d e) ∨
      (s = true ∧ hw A e = 3 ∧ hw A' e = 3 ∧ A'.1 61 e = 1 ∧ t = []) ∨ (s = true ∧ ¬ hw A e = 3 ∧ hw A' e = 4 ∧ A'.1 61 e = 0 ∧ ¬ e ∈ k)) : YV A' := by
  obtain ⟨⟨r1, r2, r3, r4⟩, ⟨d1, d2, d3, d4⟩, ⟨q1, q2, q3, q4⟩, ⟨l1, l2⟩, c1, ⟨t1, t2, t3⟩⟩ := id hI
  have mem : ∀ q, q ∈ pnd A ↔ q = (e, s) ∨ q ∈ R := fun q => by rw [hP.mem_iff, List.mem_cons]
  have nd := List.nodup_cons.mp (hP.nodup_iff.mp q1)
  have mem' : ∀ q, q ∈ pnd A' ↔ q ∈ R ∨ ∃ f, f ∈ snts A t ∧ (f, true) = q := fun q => by rw [hP'.mem_iff, List.mem_append, List.mem_map]
  have es : (e, s) ∈ pnd A := (mem _).mpr (Or.inl rfl)
  have he3 : s = false → hw A e = 3 := fun h => ((q2 e).mp (by rw [← h]; exact es)).2
  have hQ : s = true → A.1 61 e = 0 ∧ ¬ hw A e = 4 ∧ ¬ A.1 57 e = -1 := fun h => (q3 e (by rw [← h]; exact es)).2
  have ine : ina e (nE A) := by
    cases s with
    | false => exact ((q2 e).mp es).1
    | true => exact (q3 e es).1
  have sr : SR A.1 A'.1 := ⟨a2, fun f h1 h2 => a1 f (by omega) (by omega) (by omega) (by omega)⟩
  have a54 : A'.1 54 = A.1 54 := a1 54 (by decide) (by decide) (by decide) (by decide)
  have a55 : A'.1 55 = A.1 55 := a1 55 (by decide) (by decide) (by decide) (by decide)
  have a56 : A'.1 56 = A.1 56 := a1 56 (by decide) (by decide) (by decide) (by decide)
  have a57 : A'.1 57 = A.1 57 := a1 57 (by decide) (by decide) (by decide) (by decide)
  have a58 : A'.1 58 = A.1 58 := a1 58 (by decide) (by decide) (by decide) (by decide)
  have hb : bel A'.1 = bel A.1 := bel_co fun f h1 h2 => a1 f (by omega) (by omega) (by omega) (by omega)
  have pw := d3 (pa A e)
  rw [hd] at pw
  have pw3 := List.pairwise_append.mp pw
  have tm : ∀ d, d ∈ t → ina d (nE A) ∧ hw A d = 1 ∧ pa A d = pa A e := fun d h => d1 (pa A e) d (by rw [hd]; exact List.mem_append.mpr (Or.inr h))
  have km : ∀ d, d ∈ k → ina d (nE A) ∧ hw A d = 1 ∧ pa A d = pa A e ∧ ¬ d ∈ t := fun d h => by
    obtain ⟨x1, x2, x3⟩ := d1 (pa A e) d (by rw [hd]; exact List.mem_append.mpr (Or.inl h))
    exact ⟨x1, x2, x3, fun h2 => bel_irr (pw3.2.2 d h d h2)⟩
  have fr : ∀ f, f ∈ snts A t → ina f (nE A) ∧ lv A f ∧ ¬ A.1 57 f = -1 ∧ ∃ d, d ∈ t ∧ f ∈ se A d := fun f h => by
    obtain ⟨d, h1, h2⟩ := snts_mem.mp h
    have x := tm d h1
    have y := l2 d x.1 x.2.1 f h2
    have m := d2 d x.1 x.2.1
    have z := (J3 hI m h2).1
    have := (r3 d x.1).1.1
    exact ⟨y.1, y.2, by rw [z]; intro q; rw [q] at this; exact absurd this (by decide), d, h1, h2⟩
  have D1 : ¬ hw A' e = 1 := by rcases hc with h | h | h | h <;> (intro q; grind)
  have D2 : ¬ e ∈ k := by
    intro q
    have := (km e q).2.1
    rcases hc with h | h | h | h
    · have := he3 h.1; grind
    · have := he3 h.1; grind
    · grind
    · exact h.2.2.2.2 q
  have D3 : hw A' e = 4 → ¬ A.1 57 e = -1 := by
    intro q
    rcases hc with h | h | h | h
    · exact (q4 e ine h.2.1).2
    · grind
    · grind
    · exact (hQ h.1).2.2
  have D5 : hw A e = 1 → e ∈ t := by
    intro q
    have := d2 e ine q
    rw [hd] at this
    rcases List.mem_append.mp this with z | z
    · exact absurd z D2
    · exact z
  have D6 : hw A' e = 0 → ∀ d, d ∈ k → bel A.1 d e := by
    intro q
    rcases hc with h | h | h | h
    · grind
    · exact h.2.2.2.2
    · grind
    · grind
  have D7 : hw A' e = 3 ↔ (s = true ∧ hw A e = 3) := by
    rcases hc with h | h | h | h <;> constructor <;> intro q <;> grind
  have D8 : A'.1 61 e = 1 → hw A' e = 3 ∧ ¬ A.1 57 e = -1 := by
    intro q
    rcases hc with h | h | h | h
    · grind
    · grind
    · exact ⟨h.2.2.1, (hQ h.1).2.2⟩
    · grind
  have D9 : lv A e → hw A' e = 0 ∧ A'.1 61 e = 0 := by
    intro q
    rcases hc with h | h | h | h
    · have := q.2.1; grind
    · exact ⟨h.2.2.1, h.2.2.2.1⟩
    · exact absurd (by rw [← h.1]; exact es) q.2.2
    · exact absurd (by rw [← h.1]; exact es) q.2.2
  have D10 : (e, true) ∈ R → hw A' e = 0 ∧ A'.1 61 e = 0 := by
    intro q
    have q' := (q3 e ((mem _).mpr (Or.inr q))).2
    rcases hc with h | h | h | h
    · grind
    · exact ⟨h.2.2.1, h.2.2.2.1⟩
    · exact absurd (by rw [h.1]; exact q) nd.1
    · exact absurd (by rw [h.1]; exact q) nd.1
  have D12 : ¬ hw A' e = 4 → A'.1 61 e = 0 → lv A e ∨ (e, true) ∈ R := by
    intro x1 x2
    rcases hc with h | h | h | h
    · grind
    · by_cases z : (e, true) ∈ pnd A
      · right
        rcases (mem _).mp z with y | y
        · have := h.1; cases y; cases this
        · exact y
      · left
        exact ⟨by rw [he3 h.1]; decide, h.2.1, z⟩
    · grind
    · grind
  have D13 : hw A' e = 0 ∨ hw A' e = 3 ∨ hw A' e = 4 := by rcases hc with h | h | h | h <;> grind
  have D14 : A'.1 61 e = 0 ∨ A'.1 61 e = 1 := by rcases hc with h | h | h | h <;> grind
  have hwN : ∀ x, ¬ x = e → ¬ x ∈ t → hw A' x = hw A x := fun x h1 h2 => by rw [w1 x h1, if_neg h2]
  have hwT : ∀ x, ¬ x = e → x ∈ t → hw A' x = 0 := fun x h1 h2 => by rw [w1 x h1, if_pos h2]
  have dnE : dn A' (pa A e) = k := by rw [hd', ul_eq]
  have dnN : ∀ p, ¬ p = pa A e → dn A' p = dn A p := fun p h => by rw [hd', ul_ne h]
  have one : ∀ x, ina x (nE A) → hw A' x = 1 → ¬ x = e ∧ ¬ x ∈ t ∧ hw A x = 1 := fun x _ h => by
    have n1 : ¬ x = e := fun z => D1 (by rw [← z]; exact h)
    have n2 : ¬ x ∈ t := fun z => by rw [hwT x n1 z] at h; exact absurd h (by decide)
    exact ⟨n1, n2, by rw [← hwN x n1 n2]; exact h⟩
  refine ⟨⟨RU_sr sr r1, by rw [nE, a3]; exact r2, fun x hx => ?_, fun x hx hx2 => ?_⟩, ⟨fun p d h => ?_, fun x hx h => ?_, fun p => ?_, fun x hx h d hdd => ?_⟩, ⟨?_, fun x => ?_, fun x h => ?_, fun x hx h => ?_⟩, ⟨fun x hx hl hs => ?_, fun d hx h f hf => ?_⟩, fun p pre d post h => ?_, ⟨fun x hx => ?_, fun x y hx hy => ?_, by rw [a4, nE, a3]; exact t3⟩⟩
  · rw [nE, a3] at hx
    obtain ⟨y1, y2, y3, y4⟩ := r3 x hx
    refine ⟨by rw [pa, a54, nP, a2]; exact y1, by rw [a55]; exact y2, ?_, ?_⟩
    · by_cases z : x = e
      · rw [z]; rcases D13 with q | q | q
        · exact Or.inl q
        · exact Or.inr (Or.inr (Or.inl q))
        · exact Or.inr (Or.inr (Or.inr q))
      · by_cases z2 : x ∈ t
        · exact Or.inl (hwT x z z2)
        · rw [hwN x z z2]; exact y3
    · by_cases z : x = e
      · rw [z]; exact D14
      · rw [s1 x z]; exact y4
  · rw [nE, a3] at hx2
    have : ¬ x = e := fun z => by rw [z] at hx2; have := ine.2; grind
    rw [s1 x this]; exact r4 x hx hx2
  · by_cases z : p = pa A e
    · subst z
      rw [dnE] at h
      obtain ⟨y1, y2, y3, y4⟩ := km d h
      have : ¬ d = e := fun q => D2 (by rw [← q]; exact h)
      exact ⟨by rw [nE, a3]; exact y1, by rw [hwN d this y4]; exact y2, by rw [pa, a54]; exact y3⟩
    · rw [dnN p z] at h
      obtain ⟨y1, y2, y3⟩ := d1 p d h
      have n1 : ¬ d = e := fun q => z (by rw [← q]; exact y3.symm)
      have n2 : ¬ d ∈ t := fun q => z (by rw [← (tm d q).2.2]; exact y3.symm)
      exact ⟨by rw [nE, a3]; exact y1, by rw [hwN d n1 n2]; exact y2, by rw [pa, a54]; exact y3⟩
  · rw [nE, a3] at hx
    obtain ⟨n1, n2, n3⟩ := one x hx h
    have := d2 x hx n3
    rw [pa, a54]
    by_cases z : A.1 54 x = pa A e
    · rw [z, dnE]
      rw [show pa A x = pa A e from z, hd] at this
      rcases List.mem_append.mp this with y | y
      · exact y
      · exact absurd y n2
    · rw [dnN _ z]; exact this
  · rw [hb]
    by_cases z : p = pa A e
    · rw [z, dnE]; exact pw3.1
    · rw [dnN p z]; exact d3 p
  · rw [nE, a3] at hx
    rw [hb]
    rw [pa, a54] at hdd
    by_cases z : x = e
    · subst z
      rw [show A.1 54 x = pa A x from rfl, dnE] at hdd
      exact D6 h d hdd
    · by_cases z2 : x ∈ t
      · rw [show A.1 54 x = pa A e from (tm x z2).2.2, dnE] at hdd
        exact pw3.2.2 d hdd x z2
      · rw [hwN x z z2] at h
        refine d4 x hx h d ?_
        by_cases z3 : A.1 54 x = pa A e
        · rw [z3, dnE] at hdd
          rw [show pa A x = pa A e from z3, hd]
          exact List.mem_append.mpr (Or.inl hdd)
        · rw [dnN _ z3] at hdd; exact hdd
  · refine hP'.nodup_iff.mpr (List.nodup_append.mpr ⟨nd.2, ?_, fun a ha b hb' => ?_⟩)
    · refine List.pairwise_map.mpr ((snts_nd hI hd).imp fun h q => h ?_)
      exact congrArg Prod.fst q
    · rintro rfl
      obtain ⟨f, h1, h2⟩ := List.mem_map.mp hb'
      exact (fr f h1).2.1.2.2 (by rw [h2]; exact (mem _).mpr (Or.inr ha))
  · rw [mem', nE, a3]
    constructor
    · rintro (h | ⟨f, _, h⟩)
      · have := (q2 x).mp ((mem _).mpr (Or.inr h))
        refine ⟨this.1, ?_⟩
        by_cases z : x = e
        · subst z
          rw [D7]
          refine ⟨?_, this.2⟩
          cases s with
          | false => exact absurd h nd.1
          | true => rfl
        · have : ¬ x ∈ t := fun q => by have := (tm x q).2.1; grind
          rw [hwN x z this]; grind
      · cases h
    · rintro ⟨h1, h2⟩
      left
      by_cases z : x = e
      · subst z
        have := D7.mp h2
        rcases (mem _).mp ((q2 x).mpr ⟨h1, this.2⟩) with y | y
        · rw [this.1] at y; cases y
        · exact y
      · have n : ¬ x ∈ t := fun q => by rw [hwT x z q] at h2; exact absurd h2 (by decide)
        rw [hwN x z n] at h2
        rcases (mem _).mp ((q2 x).mpr ⟨h1, h2⟩) with y | y
        · cases y; exact absurd rfl z
        · exact y
  · rw [nE, a3, a57]
    rcases (mem' _).mp h with h | ⟨f, h1, h2⟩
    · have := q3 x ((mem _).mpr (Or.inr h))
      refine ⟨this.1, ?_, ?_, this.2.2.2⟩
      · by_cases z : x = e
        · subst z; exact (D10 h).2
        · rw [s1 x z]; exact this.2.1
      · by_cases z : x = e
        · subst z; rw [(D10 h).1]; decide
        · by_cases z2 : x ∈ t
          · rw [hwT x z z2]; decide
          · rw [hwN x z z2]; exact this.2.2.1
    · have hxf : x = f := (congrArg Prod.fst h2).symm
      subst hxf
      have := fr x h1
      refine ⟨this.1, ?_, ?_, this.2.2.1⟩
      · by_cases z : x = e
        · subst z; exact (D9 this.2.1).2
        · rw [s1 x z]; exact this.2.1.2.1
      · by_cases z : x = e
        · subst z; rw [(D9 this.2.1).1]; decide
        · by_cases z2 : x ∈ t
          · rw [hwT x z z2]; decide
          · rw [hwN x z z2]; exact this.2.1.1
  · rw [nE, a3] at hx
    rw [a57]
    by_cases z : x = e
    · subst z; exact D8 h
    · rw [s1 x z] at h
      have := q4 x hx h
      have n : ¬ x ∈ t := fun q => by have := (tm x q).2.1; grind
      rw [hwN x z n]; exact this
  · rw [nE, a3] at hx ⊢
    rw [a57] at hs
    have lx : lv A x := by
      by_cases z : x = e
      · subst z
        rcases D12 hl.1 hl.2.1 with y | y
        · exact y
        · exact absurd ((mem' _).mpr (Or.inl y)) hl.2.2
      · refine ⟨?_, by rw [← s1 x z]; exact hl.2.1, fun q => ?_⟩
        · by_cases z2 : x ∈ t
          · rw [(tm x z2).2.1]; decide
          · rw [← hwN x z z2]; exact hl.1
        · rcases (mem _).mp q with y | y
          · cases y; exact z rfl
          · exact hl.2.2 ((mem' _).mpr (Or.inl y))
    obtain ⟨d, y1, y2, y3⟩ := l1 x hx lx hs
    have n2 : ¬ d ∈ t := fun q => hl.2.2 ((mem' _).mpr (Or.inr ⟨x, snts_mem.mpr ⟨d, q, y3⟩, rfl⟩))
    have n1 : ¬ d = e := fun q => n2 (by rw [q]; exact D5 (by rw [← q]; exact y2))
    exact ⟨d, y1, by rw [hwN d n1 n2]; exact y2, by rw [hse]; exact y3⟩
  · rw [nE, a3] at hx ⊢
    rw [hse] at hf
    obtain ⟨n1, n2, n3⟩ := one d hx h
    obtain ⟨y1, y2⟩ := l2 d hx n3 f hf
    refine ⟨y1, ?_, ?_, fun q => ?_⟩
    · by_cases z : f = e
      · subst z; rw [(D9 y2).1]; decide
      · by_cases z2 : f ∈ t
        · rw [hwT f z z2]; decide
        · rw [hwN f z z2]; exact y2.1
    · by_cases z : f = e
      · subst z; exact (D9 y2).2
      · rw [s1 f z]; exact y2.2.1
    · rcases (mem' _).mp q with y | ⟨g, y, y'⟩
      · exact y2.2.2 ((mem _).mpr (Or.inr y))
      · cases y'
        obtain ⟨d', z1, z2⟩ := snts_mem.mp y
        have x := tm d' z1
        have := J4 hI hx n3 x.1 x.2.1 hf z2
        exact n2 (by rw [this]; exact z1)
  · refine RES_co sr (fun f h1 h2 => a1 f (by omega) (by omega) (by omega) (by omega)) (a1 62 (by decide) (by decide) (by decide) (by decide)) hpr hse ?_
    by_cases z : p = pa A e
    · subst z
      rw [dnE] at h
      exact c1 (pa A e) pre d (post ++ t) (by rw [hd, h]; simp)
    · rw [dnN p z] at h
      exact c1 p pre d post h
  · rw [nE, a3] at hx
    rw [a57, a56, a58, a4]
    rcases t1 x hx with y | y
    · left
      refine ⟨y.1, y.2.1, y.2.2.1, y.2.2.2.1, ?_⟩
      by_cases z : x = e
      · subst z; exact fun q => D3 q y.1
      · by_cases z2 : x ∈ t
        · rw [hwT x z z2]; decide
        · rw [hwN x z z2]; exact y.2.2.2.2
    · exact Or.inr y
  · rw [nE, a3] at hx hy
    rw [a57, a58]
    exact t2 x y hx hy
