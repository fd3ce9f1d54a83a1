/-! 74: the class reads its order -/
def RV (A : SY) (od : List Int32) (h : HP) : Prop := CO A od h ∧ (∀ e, ina e (nE A) → EVa A e h ∧ EVb A e h) ∧ (∀ p, ina p (nP A) → h 40 0 p = p ∧ PRp A.1 p h) ∧ h 9 0 1 = nP A
theorem RC_RV {A : SY} {T : List Int32} {Z : Int32 → ZT} {od : List Int32} {h : HP} (R : RC A T Z od h) : RV A od h :=
  ⟨R.2.2.2.2.1, fun e he => ⟨(R.2.2.2.1 e he).1, (R.2.2.2.1 e he).2.1⟩, fun p hp => ⟨(R.2.1 p hp).1, (R.2.1 p hp).2.2.1⟩, R.1.1⟩
def vf (f : Nat) : Prop := f = 2 ∨ f = 3 ∨ f = 4 ∨ f = 9 ∨ (26 ≤ f ∧ f ≤ 31) ∨ f = 40 ∨ f = 41
theorem RV_co {A : SY} {od : List Int32} {h h' : HP} (R : RV A od h) (e : ∀ f x, vf f → h' f x = h f x) : RV A od h' := by
  obtain ⟨r1, r2, r3, r4⟩ := R
  have v : ∀ f, vf f → ∀ x, h' f x = h f x := fun f hf x => e f x hf
  have e2 := v 2 (by unfold vf; omega)
  have e3 := v 3 (by unfold vf; omega)
  have e9 := v 9 (by unfold vf; omega)
  have e26 := v 26 (by unfold vf; omega)
  have e40 := v 40 (by unfold vf; omega)
  have e41 := v 41 (by unfold vf; omega)
  refine ⟨?_, fun x hx => ?_, fun p hp => ⟨by rw [e40]; exact (r3 p hp).1, PRp_co (r3 p hp).2 fun f hf => v f (by unfold vf; omega) p⟩, by rw [e9]; exact r4⟩
  · unfold CO; rw [e3, e26]; exact r1
  · unfold EVa EVb KY; rw [e2, e41]; exact r2 x hx
theorem wD_vf {j s : Int32} {f : Nat} {x : Int32} (h : vf f) : ¬ wD j s f x := by unfold vf at h; unfold wD; omega
theorem wS_vf {s : Int32} {f : Nat} {x : Int32} (h : vf f) : ¬ wS s f x := by unfold vf at h; unfold wS; omega
theorem wS_D {j s : Int32} {f : Nat} {x : Int32} (h : wS s f x) : wD j s f x := Or.inr (Or.inr h)
def dq (A : SY) (p : Int32) (d : Int32) : Bool := decide (hw A d = 1 ∧ pa A d = p)
theorem dq_t {A : SY} {p d : Int32} : dq A p d = true ↔ hw A d = 1 ∧ pa A d = p := by unfold dq; exact decide_eq_true_iff
theorem odn {A : SY} (hI : YV A) {od : List Int32} {h : HP} (c : CO A od h) (p : Int32) : dn A p = od.filter (dq A p) := by
  refine srt_uq (hI.2.1.2.2.1 p) (c.2.2.2.1.filter _) fun d => ?_
  rw [List.mem_filter, c.2.2.1, dq_t]
  constructor
  · intro q
    have := hI.2.1.1 p d q
    exact ⟨this.1, this.2.1, this.2.2⟩
  · rintro ⟨q1, q2, q3⟩
    rw [← q3]; exact hI.2.1.2.1 d q1 q2
theorem od_at {A : SY} {od : List Int32} {h : HP} (c : CO A od h) {o1 o2 : List Int32} {x : Int32} (e : od = o1 ++ x :: o2) : h 26 0 (nI o1.length) = x ∧ ina (nI o1.length) 400 ∧ ina x (nE A) ∧ ¬ x = -1 ∧ ¬ nE A ≤ nI o1.length := by
  obtain ⟨c1, c2, c3, c4, c5, c6⟩ := c
  have l : o1.length < od.length := by rw [e]; simp
  have ix := (c3 x).mp (by rw [e]; simp)
  rw [e] at c2
  have := (LSq_app.mp c2).2.1
  rw [Int32.zero_add] at this
  refine ⟨this, ⟨nJ_nn (by omega), (nJ_lt (b := 400) (by omega) (by omega)).mpr (by omega)⟩, ix, ina_n1 ix, ?_⟩
  rw [← c5, nJ_le (by omega) (by omega)]; omega
theorem od_end {A : SY} {od : List Int32} {h : HP} (c : CO A od h) : nE A ≤ nI od.length := by rw [c.2.2.2.2.1]; exact Int32.le_refl _
theorem s_isDoneAt (A : SY) (od o1 o2 : List Int32) (x p : Int32) (h : HP) (Q : Option AV → HP → Prop) (R : RV A od h) (e : od = o1 ++ x :: o2) (H1 : dq A p x = true → Q (some (0, 1)) h) (H0 : dq A p x = false → Q (some (0, 0)) h) : WPm 77 [(9, 0), (0, nI o1.length), (0, p)] h Q := by
  obtain ⟨v, i4, ix, nx, -⟩ := od_at R.1 e
  have ev := R.2.1 x ix
  refine b77_0 _ _ h Q ?_
  rw [v, ev.2.1, ev.1.2.2.1]
  refine ⟨i4, nx, fun z => ⟨Or.inl rfl, H0 ?_⟩, fun z => ⟨nx, fun z2 => ⟨Or.inl rfl, H0 ?_⟩, fun z2 => ⟨Or.inr rfl, H1 (dq_t.mpr ⟨z, z2⟩)⟩⟩⟩
  · unfold dq; exact decide_eq_false fun q => z q.1
  · unfold dq; exact decide_eq_false fun q => z2 q.2
theorem s_firstDone (A : SY) (od : List Int32) (p : Int32) (h : HP) (Q : Option AV → HP → Prop) (R : RV A od h) : ∀ (o2 o1 : List Int32), od = o1 ++ o2 →
    (∀ u r, o2 = u ++ r → (∀ x, x ∈ u → dq A p x = false) → (r = [] ∨ ∃ d r', r = d :: r' ∧ dq A p d = true) → Q (some (0, nI (o1.length + u.length))) h) → ∀ x2, WPc 78 2 [(9, 0), (0, p), (0, x2), (0, nI o1.length)] [] h Q := by
  intro o2
  induction o2 with
  | nil =>
    intro o1 e H x2
    rw [List.append_nil] at e
    have := H [] [] rfl (fun x hx => by cases hx) (Or.inl rfl)
    refine b78_2 _ _ _ h Q ⟨fun _ => ?_, fun z => absurd (by rw [R.1.1, ← e]; exact od_end R.1) z⟩
    rw [R.1.1, ← R.1.2.2.2.2.1, e]; exact this
  | cons x o2 ih =>
    intro o1 e H x2
    obtain ⟨v, i4, ix, nx, ne⟩ := od_at R.1 e
    refine b78_2 _ _ _ h Q ⟨fun z => absurd (by rw [← R.1.1]; exact z) ne, fun _ => ?_⟩
    refine s_isDoneAt A od o1 o2 x p h _ R e (fun d => b78_19 _ _ _ _ h Q ⟨fun y => absurd y one0, fun _ => ?_⟩) (fun d => b78_19 _ _ _ _ h Q ⟨fun _ => ?_, fun y => absurd rfl y⟩)
    · exact H [] (x :: o2) rfl (fun y hy => by cases hy) (Or.inr ⟨x, o2, rfl, d⟩)
    · have := ih (o1 ++ [x]) (by rw [e]; simp) (fun u r eu hu hr => ?_) x2
      · rw [List.length_append] at this
        rw [← nJ_s]; exact this
      · have := H (x :: u) r (by rw [eu]; simp) (fun y hy => ?_) hr
        · rw [List.length_append]
          rw [List.length_cons] at this
          rw [show o1.length + [x].length + u.length = o1.length + (u.length + 1) by simp; omega]
          exact this
        · rcases List.mem_cons.mp hy with rfl | hy
          · exact d
          · exact hu y hy
theorem s_firstDoneM (A : SY) (od o1 o2 : List Int32) (p : Int32) (h : HP) (Q : Option AV → HP → Prop) (R : RV A od h) (e : od = o1 ++ o2)
    (H : ∀ u r, o2 = u ++ r → (∀ x, x ∈ u → dq A p x = false) → (r = [] ∨ ∃ d r', r = d :: r' ∧ dq A p d = true) → Q (some (0, nI (o1.length + u.length))) h) : WPm 78 [(9, 0), (0, p), (0, nI o1.length)] h Q :=
  b78_0 _ _ h Q (s_firstDone A od p h Q R o2 o1 e H _)
theorem s_isKeptAt (A : SY) (od o1 o2 : List Int32) (x p : Int32) (h : HP) (Q : Option AV → HP → Prop) (R : RV A od h) (e : od = o1 ++ x :: o2) (H1 : dq A p x = true → ¬ h 2 x 15 = 0 → Q (some (0, 1)) h) (H0 : ¬ (dq A p x = true ∧ ¬ h 2 x 15 = 0) → Q (some (0, 0)) h) : WPm 80 [(9, 0), (0, nI o1.length), (0, p)] h Q := by
  obtain ⟨v, i4, ix, nx, -⟩ := od_at R.1 e
  refine b80_0 _ _ h Q (s_isDoneAt A od o1 o2 x p h _ R e (fun d => b80_6 _ _ _ h Q ⟨fun y => absurd y one0, fun _ => ?_⟩) (fun d => b80_6 _ _ _ h Q ⟨fun _ => ⟨Or.inl rfl, H0 fun q => by rw [d] at q; cases q.1⟩, fun y => absurd rfl y⟩))
  rw [v]
  exact ⟨i4, nx, fun z => ⟨Or.inl rfl, H0 fun q => q.2 z⟩, fun z => ⟨Or.inr rfl, H1 d z⟩⟩
theorem ar_18 {y s n : Int32} (hy : ina y n) (hn : n ≤ 400) (hs : ina s 100) : ¬ 100 + y = -1 ∧ ¬ 100 + y = s := by unfold ina at *; grind
/-- the state of part p ahead of a place goes into state s -/
theorem s_stateAhead (A : SY) (p s : Int32) (od o1 o2 : List Int32) (d : Int32) (h0 : HP) (Q : Option AV → HP → Prop) (r1 : RU A.1) (hn4 : nE A ≤ 400) (hD : ∀ p, dn A p = od.filter (dq A p)) (R : RV A od h0) (hK : ∀ e, ina e (nE A) → EVd A e h0) (hp : ina p (nP A)) (hs : ina s 100) (e : od = o1 ++ d :: o2)
    (H : ∀ h', agw (wD 0 s) h0 h' → CZ (rp A.1 p (o1.filter (dq A p))) s h' → Q none h') : WPm 79 [(9, 0), (0, p), (0, nI o1.length), (8, s)] h0 Q := by
  have hp12 : ina p 12 := ⟨hp.1, Int32.lt_of_lt_of_le hp.2 r1.1.2⟩
  have sn := ina_n1 hs
  have olen : o1.length < 400 := by have := R.1.2.2.2.2.2; rw [e] at this; simp at this; omega
  -- doing again
  have redo : ∀ (w u : List Int32) (x4 : Int32) (h : HP), o1 = u ++ w → agw (wD 0 s) h0 h → CZ (rp A.1 p (u.filter (dq A p))) s h → WPc 79 62 [(9, 0), (0, p), (0, nI o1.length), (8, s), (0, x4), (0, nI u.length)] [] h Q := by
    intro w
    induction w with
    | nil =>
      intro u x4 h eu g hz
      rw [List.append_nil] at eu
      subst eu
      exact b79_62 _ _ _ _ _ h Q ⟨fun _ => H h g hz, fun z => absurd (Int32.le_refl _) z⟩
    | cons x w ih =>
      intro u x4 h eu g hz
      have Rh : RV A od h := RV_co R fun f x hf => agw_row g (wD_vf hf)
      have eo : od = u ++ x :: (w ++ d :: o2) := by rw [e, eu]; simp
      obtain ⟨v, i4, ix, nx, -⟩ := od_at Rh.1 eo
      have ul : u.length < o1.length := by rw [eu]; simp
      refine b79_62 _ _ _ _ _ h Q ⟨fun z => ?_, fun _ => ?_⟩
      · rw [nJ_le (by omega) (by omega)] at z
        exfalso; omega
      · refine s_isDoneAt A od u (w ++ d :: o2) x p h _ Rh eo (fun dx => b79_75 _ _ _ _ _ _ h Q ⟨fun y => absurd y one0, fun _ => ⟨hp12, i4, ?_⟩⟩) (fun dx => b79_75 _ _ _ _ _ _ h Q ⟨fun _ => b79_106 _ _ _ _ _ h Q ?_, fun y => absurd rfl y⟩)
        · have ev := Rh.2.1 x ix
          have pp := Rh.2.2.1 p hp
          rw [v, pp.1, Rh.2.2.2]
          refine s_perform A.1 0 p s x (A.1 55 x) (A.1 59 x) (nP A) (rp A.1 p (u.filter (dq A p))) h _ r1 hp12 hp rfl sn nx pp.2 ev.1.2.2.2.1.1 ev.1.2.2.2.2 hz (rp_d r1 hp12 _) fun h' g' z' _ => b79_106 _ _ _ _ _ h' Q ?_
          have := ih (u ++ [x]) x4 h' (by rw [eu]; simp) (agw_tr g g') (by
            rw [List.filter_append, List.filter_cons_of_pos (by exact dx), List.filter_nil, rp_snoc]
            exact ZC_CZ z')
          rw [List.length_append] at this
          rw [← nJ_s]; exact this
        · have := ih (u ++ [x]) x4 h (by rw [eu]; simp) g (by
            rw [List.filter_append, List.filter_cons_of_neg (by rw [dx]; decide), List.filter_nil, List.append_nil]
            exact hz)
          rw [List.length_append] at this
          rw [← nJ_s]; exact this
  -- back to a kept one
  have kept : ∀ (u v : List Int32) (y : Int32), od = u ++ y :: v → u.length ≤ o1.length → dq A p y = true → ¬ h0 2 y 15 = 0 → WPc 79 31 [(9, 0), (0, p), (0, nI o1.length), (8, s), (0, nI u.length), (500, 0)] [(0, 1)] h0 Q := fun u v y eu hu dy k15 => by
    obtain ⟨vv, i4, ix, nx, -⟩ := od_at R.1 eu
    have kd := hK y ix
    have k1 := kd.2.1 (kd.1.resolve_left k15)
    have py := (dq_t.mp dy).2
    have cz := k1.2.2 (u.filter (dq A p)) (v.filter (dq A p)) (by rw [py, hD, eu, List.filter_append, List.filter_cons_of_pos dy])
    rw [py] at cz
    refine b79_31 _ _ _ _ _ h0 Q ⟨fun q => absurd q one0, fun _ => ⟨i4, by rw [vv]; exact nx, sn, ?_⟩⟩
    rw [vv, k1.2.1]
    have ny : ¬ 100 + y = -1 ∧ ¬ 100 + y = s := ar_18 ix hn4 hs
    refine s_copy s (100 + y) _ h0 _ sn ny.1 ny.2 cz fun h' g z => b79_51 _ _ _ _ h' Q (b79_58 _ _ _ _ h' Q ?_)
    obtain ⟨w, ew⟩ : ∃ w, o1 = u ++ w := by
      have e3 : u ++ y :: v = o1 ++ d :: o2 := by rw [← eu, e]
      refine ⟨o1.drop u.length, ?_⟩
      have := congrArg (List.take u.length) e3
      rw [List.take_left' rfl, List.take_append_of_le_length hu] at this
      have t := List.take_append_drop u.length o1
      rw [← this] at t
      exact t.symm
    exact redo w u _ h' ew (agw_mono g fun f x q => wS_D q) z
  have seek : ∀ (m : Nat) (u v : List Int32) (y : Int32), u.length = m → od = u ++ y :: v → u.length ≤ o1.length → WPc 79 3 [(9, 0), (0, p), (0, nI o1.length), (8, s), (0, nI u.length), (500, 0)] [] h0 Q := by
    intro m
    induction m with
    | zero =>
      intro u v y hm eu hu
      have : u = [] := List.eq_nil_of_length_eq_zero hm
      subst this
      refine b79_3 _ _ _ _ h0 Q ⟨fun _ => ?_, fun z => absurd (by decide) z⟩
      refine s_isKeptAt A od [] v y p h0 _ R eu (fun dy k => kept [] v y eu hu dy k) fun _ => ?_
      refine b79_31 _ _ _ _ _ h0 Q ⟨fun _ => ⟨sn, ?_⟩, fun q => absurd rfl q⟩
      exact s_clear s h0 _ sn fun h' g z => b79_58 _ _ _ _ h' Q (redo o1 [] _ h' rfl (agw_mono g fun f x q => wS_D q) z)
    | succ m ih =>
      intro u v y hm eu hu
      refine b79_3 _ _ _ _ h0 Q ⟨fun z => ?_, fun _ => ?_⟩
      · have : nI 0 < nI u.length := (nJ_lt (by omega) (by omega)).mpr (by omega)
        rw [nJ_0] at this
        exfalso; grind
      · refine s_isKeptAt A od u v y p h0 _ R eu (fun dy k => b79_15 _ _ _ _ _ h0 Q ⟨fun _ => ?_, fun q => absurd q one0⟩) (fun _ => b79_15 _ _ _ _ _ h0 Q ⟨fun q => absurd rfl q, fun _ => ?_⟩)
        · exact s_isKeptAt A od u v y p h0 _ R eu (fun dy k => kept u v y eu hu dy k) fun q => absurd ⟨dy, k⟩ q
        · obtain ⟨u', y', rfl⟩ : ∃ u' y', u = u' ++ [y'] := by
            rcases snocC u with q | ⟨u', f, q⟩
            · rw [q] at hm; simp at hm
            · exact ⟨u', f, q⟩
          have hm' : u'.length = m := by simpa using hm
          have := ih u' (y :: v) y' hm' (by rw [eu]; simp) (by simp at hu; omega)
          rw [show nI (u' ++ [y']).length + (-1) = nI u'.length by rw [List.length_append]; show nI (u'.length + 1) + (-1) = _; rw [nJ_s]; grind]
          exact this
  exact b79_0 _ _ _ h0 Q (seek o1.length o1 o2 d rfl e (Nat.le_refl _))
