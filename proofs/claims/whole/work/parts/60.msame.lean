/-! 60: the model's plain line does one -/
def sP (f : Nat) (k : Int32) : Bool := (Nat.ble 69 f && Nat.ble f 73) || (Nat.ble 75 f && Nat.ble f 84) || (Nat.beq f 10 && ((decide (36 ≤ k) && decide (k ≤ 43)) || decide (54 ≤ k)))
theorem sP_S {f : Nat} {k : Int32} (h : sS f k = false) : sP f k = false := by
  cases hb : sP f k with
  | false => rfl
  | true =>
    exfalso
    simp only [sP, Bool.or_eq_true, Bool.and_eq_true, decide_eq_true_eq] at hb
    have t : sS f k = true := by
      simp only [sS, Bool.or_eq_true, Bool.and_eq_true, decide_eq_true_eq]
      rcases hb with (hb | hb) | hb
      · left
        have := Nat.le_of_ble_eq_true hb.2
        exact ⟨hb.1, Nat.ble_eq_true_of_le (by omega)⟩
      · left
        have := Nat.le_of_ble_eq_true hb.1
        exact ⟨Nat.ble_eq_true_of_le (by omega), hb.2⟩
      · right
        refine ⟨hb.1, ?_⟩
        rcases hb.2 with q | q <;> grind
    rw [h] at t; cases t
theorem ag_PS {h h' : HP} (g : ag sP h h') : ag sS h h' := ag_mono g fun _ _ => sP_S
theorem ag_AP {h h' : HP} (g : ag sA h h') : ag sP h h' := ag_mono g fun f k z => by
  cases hb : sA f k with
  | false => rfl
  | true =>
    exfalso
    simp only [sA, Bool.or_eq_true, Bool.and_eq_true, decide_eq_true_eq] at hb
    have t : sP f k = true := by
      simp only [sP, Bool.or_eq_true, Bool.and_eq_true, decide_eq_true_eq]
      rcases hb with hb | hb
      · exact Or.inl (Or.inl hb)
      · exact Or.inr ⟨hb.1, Or.inl hb.2⟩
    rw [z] at t; cases t
theorem SET_P {A : SY} {L : List Int32} {h h' : HP} (s : SET A L h) (g : ag sP h h') : SET A L h' :=
  SET_co s (row_ag g 74 0 fun k => rfl) (g 10 0 50 (by decide)) (g 10 0 52 (by decide)) (g 10 0 53 (by decide))
theorem FH_P {a : AT} {v : Int32} {h h' : HP} (s : FH a v h) (g : ag sP h h') : FH a v h' := FH_ag s g (by decide)
theorem i48 {p : Int32} {c : Nat} (hp : ina p 12) (hc : c < 4) : ina (4 * p + nI c) 48 := by
  have h1 : 0 ≤ nI c := nJ_nn (by omega)
  have h2 : nI c < nI 4 := (nJ_lt (by omega) (by omega)).mpr hc
  have h3 : nI 4 = 4 := rfl
  unfold ina at *; grind
theorem ar_16 {q p : Int32} {c d : Nat} (hq : ina q 12) (hp : ina p 12) (hc : c < 4) (hd : d < 4) (z : 4 * q + nI c = 4 * p + nI d) : q = p ∧ c = d := by
  obtain ⟨a, rfl, ha⟩ := nJ_exlt (N := 12) (by decide) hq.1 hq.2
  obtain ⟨b, rfl, hb⟩ := nJ_exlt (N := 12) (by decide) hp.1 hp.2
  have e1 : ∀ m : Nat, (4 : Int32) * nI m = nI (4 * m) := fun m => by
    unfold nI
    rw [Int32.ofNat_mul]
    rfl
  rw [e1, e1, ← nJ_add, ← nJ_add] at z
  have := nJ_inj (by omega) (by omega) z
  exact ⟨by congr 1; omega, by omega⟩
theorem ina4 {c : Int32} (h : ina c 4) : ∃ n : Nat, c = nI n ∧ n < 4 := nJ_exlt (N := 4) (by decide) h.1 h.2
theorem PMk_co {A : SY} {L pre : List Int32} {h h' : HP} (hp : PMk A L pre h) (e : ∀ f, 75 ≤ f → f ≤ 81 → h' f 0 = h f 0) : PMk A L pre h' := by
  unfold PMk
  rw [e 75 (by decide) (by decide), e 76 (by decide) (by decide), e 77 (by decide) (by decide), e 78 (by decide) (by decide), e 79 (by decide) (by decide), e 80 (by decide) (by decide), e 81 (by decide) (by decide)]
  exact hp
theorem PMs_co {A : SY} {pre : List Int32} {h h' : HP} (hp : PMs A pre h) (e : ∀ f, 82 ≤ f → f ≤ 84 → h' f 0 = h f 0) : PMs A pre h' := by
  unfold PMs
  rw [e 82 (by decide) (by decide), e 83 (by decide) (by decide), e 84 (by decide) (by decide)]
  exact hp
theorem pof_snoc (A : SY) (p : Int32) (pre : List Int32) (s : Int32) : pof A p (pre ++ [s]) = if pa A s = p then pof A p pre ++ [s] else pof A p pre := by
  unfold pof
  rw [List.filter_append]
  by_cases h : pa A s = p
  · simp [h]
  · simp [h]
theorem outL_app (A : SY) (l m : List Int32) : outL A (l ++ m) = outL A l ++ outL A m := by unfold outL; rw [List.flatMap_append]
/-- the loads: cells of a part from the plain rows -/
theorem s_plLoad (p x1 : Int32) (z : ZT) (h0 : HP) (Q : Option AV → HP → Prop) (hp : ina p 12) (hz : ∀ c, ina c 4 → h0 82 0 (4 * p + c) = z.1 c)
    (K : ∀ h', ag sP h0 h' → (∀ f, ¬ f = 69 → h' f = h0 f) → (∀ c, ina c 4 → h' 69 0 c = z.1 c) → WPc 147 9 [(10, 0), (0, x1), (0, p), (0, 4), (500, 0), (500, 0)] [] h' Q) :
    ∀ (m c : Nat) (h : HP), c + m = 4 → ag sP h0 h → (∀ f, ¬ f = 69 → h f = h0 f) → (∀ i : Nat, i < c → h 69 0 (nI i) = z.1 (nI i)) → WPc 147 9 [(10, 0), (0, x1), (0, p), (0, nI c), (500, 0), (500, 0)] [] h Q := by
  intro m
  induction m with
  | zero =>
    intro c h e g fr hc
    have ec : c = 4 := by omega
    subst ec
    exact K h g fr fun c hc4 => by
      obtain ⟨n, rfl, hn⟩ := ina4 hc4
      exact hc n hn
  | succ m ih =>
    intro c h e g fr hc
    have hc4 : c < 4 := by omega
    have ic : ina (nI c) 4 := ⟨nJ_nn (by omega), (nJ_lt (b := 4) (by omega) (by omega)).mpr hc4⟩
    refine b147_9 _ _ _ h Q ⟨fun y => ?_, fun _ => ⟨i48 hp hc4, ic, ?_⟩⟩
    · exfalso
      have := ic.2
      grind
    · rw [fr 82 (by decide), hz _ ic, ← nJ_s]
      refine ih (c + 1) _ (by omega) (ag_up g rfl) (fun f hf => by rw [upfam hf, fr f hf]) fun i hi => ?_
      rw [uprow]
      by_cases y : i = c
      · subst y; exact vpd_eq _ _ _
      · rw [vpd_ne _ _ (fun q => y (nJ_inj (by omega) (by omega) q))]
        exact hc i (by omega)
/-- the stores back -/
theorem s_plStore (p x1 x3 : Int32) (z : ZT) (h0 : HP) (Q : Option AV → HP → Prop) (hp : ina p 12) (hz : ∀ c, ina c 4 → h0 69 0 c = z.1 c)
    (K : ∀ h', ag sP h0 h' → (∀ f, ¬ f = 82 → h' f = h0 f) → (∀ c, ina c 4 → h' 82 0 (4 * p + c) = z.1 c) → (∀ q, ina q 12 → ¬ q = p → ∀ c, ina c 4 → h' 82 0 (4 * q + c) = h0 82 0 (4 * q + c)) → WPc 147 81 [(10, 0), (0, x1), (0, p), (0, x3), (0, 4), (500, 0)] [] h' Q) :
    ∀ (m c : Nat) (h : HP), c + m = 4 → ag sP h0 h → (∀ f, ¬ f = 82 → h f = h0 f) → (∀ i : Nat, i < c → h 82 0 (4 * p + nI i) = z.1 (nI i)) → (∀ q, ina q 12 → ¬ q = p → ∀ c, ina c 4 → h 82 0 (4 * q + c) = h0 82 0 (4 * q + c)) → WPc 147 81 [(10, 0), (0, x1), (0, p), (0, x3), (0, nI c), (500, 0)] [] h Q := by
  intro m
  induction m with
  | zero =>
    intro c h e g fr hc ho
    have ec : c = 4 := by omega
    subst ec
    refine K h g fr (fun c hc4 => ?_) ho
    obtain ⟨n, rfl, hn⟩ := ina4 hc4
    exact hc n hn
  | succ m ih =>
    intro c h e g fr hc ho
    have hc4 : c < 4 := by omega
    have ic : ina (nI c) 4 := ⟨nJ_nn (by omega), (nJ_lt (b := 4) (by omega) (by omega)).mpr hc4⟩
    refine b147_81 _ _ _ _ h Q ⟨fun y => ?_, fun _ => ⟨ic, i48 hp hc4, ?_⟩⟩
    · exfalso
      have := ic.2
      grind
    · rw [fr 69 (by decide), hz _ ic, ← nJ_s]
      refine ih (c + 1) _ (by omega) (ag_up g rfl) (fun f hf => by rw [upfam hf, fr f hf]) (fun i hi => ?_) (fun q hq nq c' hc' => ?_)
      · rw [uprow]
        by_cases y : i = c
        · subst y; exact vpd_eq _ _ _
        · rw [vpd_ne _ _ (fun q => y (ar_16 hp hp (by omega) hc4 q).2)]
          exact hc i (by omega)
      · rw [uprow]
        obtain ⟨n, rfl, hn⟩ := ina4 hc'
        rw [vpd_ne _ _ (fun y => nq (ar_16 hq hp hn hc4 y).1)]
        exact ho q hq nq _ hc'
/-- what the plain line sends -/
theorem s_plOuts (A : SY) (p m x1 first : Int32) (w : WK) (L pre fs : List Int32) (h0 : HP) (Q : Option AV → HP → Prop) (hx1 : ina x1 3700) (ho8 : w.2.2.2.2.1.length ≤ 8) (hl : L.length + fs.length ≤ 400) (hsnt : SNT A.1 p m first fs w.2.2.2.2.1) (nf : ∀ f, f ∈ fs → ¬ f ∈ pre)
    (K : ∀ h' x4, ag sP h0 h' → (∀ f, (f < 75 ∨ 81 < f) → ¬ f = 10 → h' f = h0 f) → (∀ k, ¬ k = 55 → h' 10 0 k = h0 10 0 k) → h' 10 0 55 = nI (L ++ fs).length → PMk A (L ++ fs) pre h' → h' 10 0 39 ≤ x4 → WPc 147 141 [(10, 0), (0, x1), (0, p), (0, first), (0, x4), (500, 0)] [] h' Q) (h76 : h0 76 0 x1 = m) (jx : ∃ j : Nat, j < L.length ∧ x1 = nI j) (hz0 : ZM w h0) :
    ∀ (os N8 : List (Int32 × Int32 × Int32)) (N S : List Int32) (h : HP), w.2.2.2.2.1 = N8 ++ os → fs = N ++ S → N.length = N8.length → SNT A.1 p m (first + nI N.length) S os → ag sP h0 h → (∀ f, (f < 75 ∨ 81 < f) → ¬ f = 10 → h f = h0 f) → (∀ k, ¬ k = 55 → h 10 0 k = h0 10 0 k) → h 10 0 55 = nI (L ++ N).length → PMk A (L ++ N) pre h → h 76 0 x1 = m →
      WPc 147 141 [(10, 0), (0, x1), (0, p), (0, first), (0, nI N.length), (500, 0)] [] h Q := by
  intro os
  induction os with
  | nil =>
    intro N8 N S h e1 e2 e3 sn g fr k55 h55 hp _
    cases S with
    | cons f S => exact absurd sn (by simp [SNT])
    | nil =>
      rw [List.append_nil] at e1 e2
      subst e2
      refine K h _ g fr k55 h55 hp ?_
      rw [k55 39 (by decide), hz0.2.2.2.2.1.1, e1, ← e3]
      exact Int32.le_refl _
  | cons o os ih =>
    intro N8 N S h e1 e2 e3 sn g fr k55 h55 hp h76'
    cases S with
    | nil => exact absurd sn (by simp [SNT])
    | cons f S =>
      obtain ⟨⟨a1, a2, a3, a4, a5, a6⟩, sn'⟩ := sn
      have z : ZM w h := ZM_co hz0 (fun f h1 h2 => fr f (by omega) (by omega)) (fun k h1 h2 => k55 k (fun q => by rw [q] at h2; exact absurd h2 (by decide)))
      have hN8 : N.length < 8 := by rw [e1] at ho8; simp at ho8; omega
      have e39 : h 10 0 39 = nI (N.length + (os.length + 1)) := by rw [z.2.2.2.2.1.1, e1, e3]; simp
      have v70 : h 70 0 (nI N.length) = o.1 := by
        have := z.2.2.2.2.1.2.1
        rw [e1, List.map_append] at this
        have := (LSq_app.mp this).2.1
        rwa [Int32.zero_add, List.length_map, ← e3] at this
      have v71 : h 71 0 (nI N.length) = o.2.1 := by
        have := z.2.2.2.2.1.2.2.1
        rw [e1, List.map_append] at this
        have := (LSq_app.mp this).2.1
        rwa [Int32.zero_add, List.length_map, ← e3] at this
      have v72 : h 72 0 (nI N.length) = o.2.2 := by
        have := z.2.2.2.2.1.2.2.2
        rw [e1, List.map_append] at this
        have := (LSq_app.mp this).2.1
        rwa [Int32.zero_add, List.length_map, ← e3] at this
      have ll : (L ++ N).length < 400 := by rw [e2] at hl; simp at hl ⊢; omega
      have iL := i37 (k := (L ++ N).length) (by omega)
      have os8 : os.length < 8 := by rw [e1] at ho8; simp at ho8; omega
      refine b147_141 _ _ _ _ h Q ⟨fun y => ?_, fun _ => ⟨nI8 hN8, nI8 hN8, hx1, ?_⟩⟩
      · rw [e39, nJ_le (by omega) (by omega)] at y
        exfalso; omega
      · rw [v70, v71, h76']
        refine b144_0 _ _ _ _ _ h _ ?_
        rw [h55]
        refine ⟨iL, iL, iL, iL, iL, iL, Or.inl rfl, b147_179 _ _ _ _ _ Q ⟨nI8 hN8, ?_⟩⟩
        rw [up_at, show nI (L ++ N).length + 1 - 1 = nI (L ++ N).length by grind]
        refine ⟨iL, ?_⟩
        have v72' : (up (up (up (up (up (up (up h 75 0 (nI (L ++ N).length) o.1) 76 0 (nI (L ++ N).length) o.2.1) 77 0 (nI (L ++ N).length) m) 78 0 (nI (L ++ N).length) p) 79 0 (nI (L ++ N).length) (first + nI N.length)) 81 0 (nI (L ++ N).length) 0) 10 0 55 (nI (L ++ N).length + 1)) 72 0 (nI N.length) = o.2.2 := by
          rw [upfam (by decide), upfam (by decide), upfam (by decide), upfam (by decide), upfam (by decide), upfam (by decide), upfam (by decide)]; exact v72
        rw [v72', ← nJ_s]
        generalize hH : (up (up (up (up (up (up (up (up h 75 0 (nI (L ++ N).length) o.1) 76 0 (nI (L ++ N).length) o.2.1) 77 0 (nI (L ++ N).length) m) 78 0 (nI (L ++ N).length) p) 79 0 (nI (L ++ N).length) (first + nI N.length)) 81 0 (nI (L ++ N).length) 0) 10 0 55 (nI (L ++ N).length + 1)) 80 0 (nI (L ++ N).length) o.2.2) = H
        have gH : ag sP h H := by
          rw [← hH]
          exact ag_up (ag_up (ag_up (ag_up (ag_up (ag_up (ag_up (ag_up ag_rf rfl) rfl) rfl) rfl) rfl) rfl) (by decide)) rfl
        have frH : ∀ f, (f < 75 ∨ 81 < f) → ¬ f = 10 → H f = h f := fun f h1 h2 => by
          rw [← hH, upfam (by omega), upfam (by omega), upfam (by omega), upfam (by omega), upfam (by omega), upfam (by omega), upfam (by omega), upfam (by omega)]
        have kH : ∀ k, ¬ k = 55 → H 10 0 k = h 10 0 k := fun k hk => by
          rw [← hH, upfam (by decide), up_n (fun q => hk q.2.2), upfam (by decide), upfam (by decide), upfam (by decide), upfam (by decide), upfam (by decide), upfam (by decide)]
        have oldH : ∀ g, 75 ≤ g → g ≤ 81 → ∀ k : Nat, k < (L ++ N).length → H g 0 (nI k) = h g 0 (nI k) := fun g h1 h2 k hk => by
          have nk : ¬ nI k = nI (L ++ N).length := fun q => by have := nJ_inj (by omega) (by omega) q; omega
          rw [← hH, up_n (fun q => nk q.2.2), up_n (fun q => by omega), up_n (fun q => nk q.2.2), up_n (fun q => nk q.2.2), up_n (fun q => nk q.2.2), up_n (fun q => nk q.2.2), up_n (fun q => nk q.2.2), up_n (fun q => nk q.2.2)]
        have hp' : PMk A ((L ++ N) ++ [f]) pre H := by
          refine PMk_snoc hp (by omega) H oldH ⟨?_, ?_, ?_, ?_, ?_, ?_, ?_⟩ (nf f (by rw [e2]; simp))
          · rw [← hH]; simp [up]; exact a1.symm
          · rw [← hH]; simp [up]; exact a2.symm
          · rw [← hH]; simp [up]; exact a3.symm
          · rw [← hH]; simp [up]; exact a4.symm
          · rw [← hH]; simp [up]; exact a5.symm
          · rw [← hH]; simp [up]; exact a6.symm
          · rw [← hH]; simp [up]
        have := ih (N8 ++ [o]) (N ++ [f]) S H (by rw [e1]; simp) (by rw [e2]; simp) (by simp [e3]) ?_ (ag_tr g gH) (fun f h1 h2 => by rw [frH f h1 h2, fr f h1 h2]) (fun k hk => by rw [kH k hk, k55 k hk]) ?_ (by rw [← List.append_assoc]; exact hp') ?_
        · rw [List.length_append] at this
          exact this
        · rw [List.length_append]
          show SNT A.1 p m (first + nI (N.length + 1)) S os
          rw [nJ_s, show first + (nI N.length + 1) = first + nI N.length + 1 by grind]
          exact sn'
        · rw [← hH, upfam (by decide), up_at, ← nJ_s, ← List.append_assoc, List.length_append (bs := [f])]
          rfl
        · obtain ⟨j, hj, rfl⟩ := jx
          rw [oldH 76 (by decide) (by decide) j (by rw [List.length_append]; omega)]
          exact h76'
