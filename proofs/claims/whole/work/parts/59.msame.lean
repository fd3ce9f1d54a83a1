/-! 59: the model's same -/
def PMk (A : SY) (L pre : List Int32) (h : HP) : Prop := ∀ (k : Nat) (hk : k < L.length), h 75 0 (nI k) = pa A L[k] ∧ h 76 0 (nI k) = A.1 55 L[k] ∧ h 77 0 (nI k) = A.1 56 L[k] ∧ h 78 0 (nI k) = A.1 57 L[k] ∧ h 79 0 (nI k) = A.1 58 L[k] ∧ h 80 0 (nI k) = A.1 59 L[k] ∧ h 81 0 (nI k) = (if L[k] ∈ pre then 1 else 0)
def PMs (A : SY) (pre : List Int32) (h : HP) : Prop := ∀ p, ina p 12 → (∀ c, ina c 4 → h 82 0 (4 * p + c) = (rp A.1 p (pof A p pre)).1 c) ∧ h 83 0 p = (rp A.1 p (pof A p pre)).2.1 ∧ h 84 0 p = (rp A.1 p (pof A p pre)).2.2
theorem i37 {k : Nat} (h : k < 3700) : ina (nI k) 3700 := ⟨nJ_nn (by omega), (nJ_lt (b := 3700) (by omega) (by omega)).mpr h⟩
theorem s_isLower (A : SY) (L pre : List Int32) (k : Nat) (g : Int32) (h : HP) (Q : Option AV → HP → Prop) (hp : PMk A L pre h) (hk : k < L.length) (hl : L.length ≤ 400) (H1 : klt A.1 L[k] g → Q (some (0, 1)) h) (H0 : ¬ klt A.1 L[k] g → Q (some (0, 0)) h) : WPm 145 [(10, 0), (0, nI k), (0, A.1 55 g), (0, A.1 56 g), (0, A.1 57 g), (0, A.1 58 g)] h Q := by
  obtain ⟨p1, p2, p3, p4, p5, -⟩ := hp k hk
  have i := i37 (k := k) (by omega)
  refine b145_0 _ _ _ _ _ h Q ?_
  rw [p2, p3, p4, p5]
  unfold klt at H1 H0
  refine ⟨i, fun a1 => ⟨i, fun a2 => ⟨i, fun a3 => ⟨i, fun a4 => ⟨Or.inl rfl, H0 ?_⟩, fun a4 => ⟨Or.inr rfl, H1 ?_⟩⟩, fun a3 => ⟨i, fun a4 => ⟨Or.inl rfl, H0 ?_⟩, fun a4 => ⟨Or.inr rfl, H1 ?_⟩⟩⟩, fun a2 => ⟨i, fun a3 => ⟨Or.inl rfl, H0 ?_⟩, fun a3 => ⟨Or.inr rfl, H1 ?_⟩⟩⟩, fun a1 => ⟨i, fun a2 => ⟨Or.inl rfl, H0 ?_⟩, fun a2 => ⟨Or.inr rfl, H1 ?_⟩⟩⟩
  all_goals grind
def cnd (A : SY) (pre : List Int32) (f : Int32) : Prop := ¬ f ∈ pre ∧ blw A f
theorem s_nextPlain (A : SY) (v : Int32) (L pre : List Int32) (h : HP) (Q : Option AV → HP → Prop) (hv : isFl A v) (hF : FH A.1 v h) (h55 : h 10 0 55 = nI L.length) (hl : L.length ≤ 400) (hp : PMk A L pre h)
    (Hn : (∀ f, f ∈ L → ¬ cnd A pre f) → Q (some (0, -1)) h) (Hs : ∀ (j : Nat) (hj : j < L.length), cnd A pre L[j] → (∀ f, f ∈ L → cnd A pre f → ¬ klt A.1 f L[j]) → Q (some (0, nI j)) h) : WPm 146 [(10, 0)] h Q := by
  have loop : ∀ (m k : Nat) (x : Int32), k + m = L.length → ((x = -1 ∧ ∀ (i : Nat) (hi : i < L.length), i < k → ¬ cnd A pre L[i]) ∨ (∃ (j : Nat) (hj : j < L.length), x = nI j ∧ cnd A pre L[j] ∧ ∀ (i : Nat) (hi : i < L.length), i < k → cnd A pre L[i] → ¬ klt A.1 L[i] L[j])) →
      WPc 146 4 [(10, 0), (0, x), (0, nI k), (500, 0)] [] h Q := by
    intro m
    induction m with
    | zero =>
      intro k x e hx
      have ek : k = L.length := by omega
      subst ek
      refine b146_4 _ _ h Q ⟨fun _ => ?_, fun z => absurd (by rw [h55]; exact Int32.le_refl _) z⟩
      rcases hx with ⟨x1, x2⟩ | ⟨j, hj, x1, x2, x3⟩
      · rw [x1]
        refine Hn fun f hf => ?_
        obtain ⟨i, hi, rfl⟩ := List.mem_iff_getElem.mp hf
        exact x2 i hi hi
      · rw [x1]
        refine Hs j hj x2 fun f hf => ?_
        obtain ⟨i, hi, rfl⟩ := List.mem_iff_getElem.mp hf
        exact x3 i hi hi
    | succ m ih =>
      intro k x e hx
      have hk : k < L.length := by omega
      have ik := i37 (k := k) (by omega)
      obtain ⟨p1, p2, p3, p4, p5, p6, p7⟩ := hp k hk
      have keep : (¬ cnd A pre L[k] ∨ ∃ (j : Nat) (hj : j < L.length), x = nI j ∧ ¬ klt A.1 L[k] L[j]) → WPc 146 4 [(10, 0), (0, x), (0, nI k + 1), (500, 0)] [] h Q := fun z => by
        rw [← nJ_s]
        refine ih (k + 1) x (by omega) ?_
        rcases hx with ⟨x1, x2⟩ | ⟨j, hj, x1, x2, x3⟩
        · refine Or.inl ⟨x1, fun i hi hik hc => ?_⟩
          by_cases y : i = k
          · subst y
            rcases z with z | ⟨j, hj, z1, -⟩
            · exact z hc
            · rw [x1] at z1
              have := nJ_nn (n := j) (by omega)
              rw [← z1] at this; exact absurd this (by decide)
          · exact x2 i hi (by omega) hc
        · refine Or.inr ⟨j, hj, x1, x2, fun i hi hik hc => ?_⟩
          by_cases y : i = k
          · subst y
            rcases z with z | ⟨j', hj', z1, z2⟩
            · exact absurd hc z
            · rw [x1] at z1
              have := nJ_inj (by omega) (by omega) z1
              subst this; exact z2
          · exact x3 i hi (by omega) hc
      have take : cnd A pre L[k] → (x = -1 ∨ ∃ (j : Nat) (hj : j < L.length), x = nI j ∧ klt A.1 L[k] L[j]) → WPc 146 4 [(10, 0), (0, nI k), (0, nI k + 1), (500, 0)] [] h Q := fun hc z => by
        rw [← nJ_s]
        refine ih (k + 1) (nI k) (by omega) (Or.inr ⟨k, hk, rfl, hc, fun i hi hik hci hlt => ?_⟩)
        by_cases y : i = k
        · subst y; exact klt_irr hlt
        · rcases hx with ⟨x1, x2⟩ | ⟨j, hj, x1, x2, x3⟩
          · exact x2 i hi (by omega) hci
          · rcases z with z | ⟨j', hj', z1, z2⟩
            · rw [x1] at z
              have := nJ_nn (n := j) (by omega)
              rw [z] at this; exact absurd this (by decide)
            · rw [x1] at z1
              have := nJ_inj (by omega) (by omega) z1
              subst this
              exact x3 i hi (by omega) hci (klt_tr hlt z2)
      have go : ∀ x3 : Int32, cnd A pre L[k] → ((x = (-1) → WPc 146 4 [(10, 0), (0, nI k), (0, (nI k + 1)), (500, 0)] [] h Q) ∧ (¬ x = (-1) → (ina x 3700 ∧ (ina x 3700 ∧ (ina x 3700 ∧ (ina x 3700 ∧ WPm 145 [(10, 0), (0, nI k), (0, (h 76 0 x)), (0, (h 77 0 x)), (0, (h 78 0 x)), (0, (h 79 0 x))] h (fun w h' => WPc 146 96 [(10, 0), (0, x), (0, nI k), (0, x3)] (w.toList ++ []) h' Q))))))) := fun x3 hc => by
        refine ⟨fun z => take hc (Or.inl z), fun z => ?_⟩
        rcases hx with ⟨x1, -⟩ | ⟨j, hj, x1, x2, -⟩
        · exact absurd x1 z
        · have ij := i37 (k := j) (by omega)
          obtain ⟨q1, q2, q3, q4, q5, -⟩ := hp j hj
          rw [x1, q2, q3, q4, q5]
          rw [x1] at keep take
          exact ⟨ij, ij, ij, ij, s_isLower A L pre k L[j] h _ hp hk hl (fun lt => b146_96 _ _ _ _ h Q ⟨fun y => absurd y one0, fun _ => take hc (Or.inr ⟨j, hj, rfl, lt⟩)⟩) (fun lt => b146_96 _ _ _ _ h Q ⟨fun _ => keep (Or.inr ⟨j, hj, rfl, lt⟩), fun y => absurd rfl y⟩)⟩
      refine b146_4 _ _ h Q ⟨fun z => ?_, fun _ => ?_⟩
      · rw [h55, nJ_le (by omega) (by omega)] at z
        exfalso; omega
      · rw [p7]
        refine ⟨ik, fun z => ⟨fun _ => keep (Or.inl fun q => z (if_neg q.1)), fun y => absurd rfl y⟩, fun z => ?_⟩
        have ni : ¬ L[k] ∈ pre := fun q => by rw [if_pos q] at z; exact one0 z
        rcases hF with ⟨f1, f2⟩ | ⟨f1, f2, f3, f4, f5, f6⟩
        · refine ⟨fun _ => ⟨fun y => absurd y one0, fun _ => go 1 ⟨ni, (blw_fl hv).mpr (Or.inl f1)⟩⟩, fun y => absurd f2 y⟩
        · refine ⟨fun y => by rw [f2] at y; exact absurd y one0, fun _ => ?_⟩
          rw [f3, f4, f5, f6]
          refine s_isLower A L pre k v h _ hp hk hl (fun lt => b146_49 _ _ _ h Q ⟨fun y => absurd y one0, fun _ => ⟨fun y => absurd y one0, fun _ => go 1 ⟨ni, (blw_fl hv).mpr (Or.inr lt)⟩⟩⟩) (fun lt => b146_49 _ _ _ h Q ⟨fun _ => ⟨fun _ => keep (Or.inl fun q => ?_), fun y => absurd rfl y⟩, fun y => absurd rfl y⟩)
          rcases (blw_fl hv).mp q.2 with y | y
          · exact f1 y
          · exact lt y
  exact b146_0 h Q (loop L.length 0 (-1) (by omega) (Or.inl ⟨rfl, fun i hi z => by omega⟩))
/-- one more in the plain rows -/
theorem PMk_snoc {A : SY} {L pre : List Int32} {h : HP} {f : Int32} (hp : PMk A L pre h) (hl : L.length ≤ 3600) (h' : HP)
    (old : ∀ g, 75 ≤ g → g ≤ 81 → ∀ k : Nat, k < L.length → h' g 0 (nI k) = h g 0 (nI k))
    (new : h' 75 0 (nI L.length) = pa A f ∧ h' 76 0 (nI L.length) = A.1 55 f ∧ h' 77 0 (nI L.length) = A.1 56 f ∧ h' 78 0 (nI L.length) = A.1 57 f ∧ h' 79 0 (nI L.length) = A.1 58 f ∧ h' 80 0 (nI L.length) = A.1 59 f ∧ h' 81 0 (nI L.length) = 0) (nf : ¬ f ∈ pre) : PMk A (L ++ [f]) pre h' := by
  intro k hk
  rw [List.length_append, List.length_singleton] at hk
  by_cases z : k < L.length
  · have := hp k z
    rw [List.getElem_append_left z, old 75 (by decide) (by decide) k z, old 76 (by decide) (by decide) k z, old 77 (by decide) (by decide) k z, old 78 (by decide) (by decide) k z, old 79 (by decide) (by decide) k z, old 80 (by decide) (by decide) k z, old 81 (by decide) (by decide) k z]
    exact this
  · have ek : k = L.length := by omega
    subst ek
    have ef : (L ++ [f])[L.length] = f := by simp
    rw [ef, if_neg nf]
    exact new
