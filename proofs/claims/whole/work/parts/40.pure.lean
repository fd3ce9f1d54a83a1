/-! pure: first specs -/
theorem t_1 (i n : Int32) (h : 0 ≤ i) (h2 : i < n) : i + 1 ≤ n := by grind
theorem t_2 (i n : Int32) (h : 0 ≤ i) (h2 : i < n) (h3 : n ≤ 400) : ina (i + 1) 401 := by unfold ina; grind
theorem t_3 (i n : Int32) (h : 0 ≤ i) (h2 : i < n) (h3 : n ≤ 12) : 0 ≤ 8 * i ∧ 8 * i < 96 := by grind
theorem t_4 (i j : Int32) (h : 0 ≤ i) (h2 : i < 12) (h3 : 0 ≤ j) (h4 : j < 8) : ina (8 * i + j) 96 := by unfold ina; grind
theorem t_5 (a b : Int32) (h : ¬ a < b) (h2 : ¬ a = b) : b < a := by grind
theorem t_6 (h : HP) (i j v : Int32) (e : i ≠ j) : up h 55 0 i v 55 0 j = h 55 0 j := by simp [up, e.symm]
theorem t_7 (h : HP) (i j v : Int32) : up h 55 0 i v 56 0 j = h 56 0 j := by simp [up]
theorem t_8 (p : Int32) (h1 : 0 ≤ p) (h2 : p < 12) (k : Int32) (h3 : 0 ≤ k) (h4 : k < 400) (p' k' : Int32) (h5 : 0 ≤ p') (h6 : p' < 12) (h7 : 0 ≤ k') (h8 : k' < 400) (e : 400 * p + k = 400 * p' + k') : p = p' ∧ k = k' := by grind
def bI (p : Prop) [Decidable p] : Int32 := if p then 1 else 0
theorem s_in (a b c : Int32) (h : HP) (Q : Option AV → HP → Prop) (H : Q (some (0, bI (b ≤ a ∧ a ≤ c))) h) : WPm 92 [(0, a), (0, b), (0, c)] h Q := by
  refine b92_0 a b c h Q ⟨fun h1 => ⟨Or.inl rfl, ?_⟩, fun h1 => ⟨fun h2 => ⟨Or.inl rfl, ?_⟩, fun h2 => ⟨Or.inr rfl, ?_⟩⟩⟩
  · rw [bI, if_neg (by grind)] at H; exact H
  · rw [bI, if_neg (by grind)] at H; exact H
  · rw [bI, if_pos (by grind)] at H; exact H
theorem s_isPart (p : Int32) (h : HP) (Q : Option AV → HP → Prop) (H : Q (some (0, bI (0 ≤ p ∧ p ≤ h 10 0 0 - 1))) h) : WPm 93 [(10, 0), (0, p)] h Q := by
  refine b93_0 p h Q (s_in _ _ _ _ _ (b93_11 p _ h Q ⟨?_, H⟩))
  unfold bI
  split
  · exact Or.inr rfl
  · exact Or.inl rfl
/-- the order of keys, as compare has it -/
def cmpK (h : HP) (e m b s p : Int32) : Int32 :=
  if h 55 0 e = m then (if h 56 0 e = b then (if h 57 0 e = s then (if p ≤ h 58 0 e then (if h 58 0 e ≤ p then 0 else 1) else -1) else if s ≤ h 57 0 e then 1 else -1) else if b ≤ h 56 0 e then 1 else -1) else if m ≤ h 55 0 e then 1 else -1
theorem s_compare (e m b s p : Int32) (h : HP) (Q : Option AV → HP → Prop) (he : ina e 400) (H : Q (some (0, cmpK h e m b s p)) h) : WPm 97 [(10, 0), (0, e), (0, m), (0, b), (0, s), (0, p)] h Q := by
  unfold cmpK at H
  refine b97_0 e m b s p h Q ⟨he, fun h1 => ⟨he, fun h2 => ⟨he, fun h3 => ⟨he, fun h4 => ⟨he, fun h5 => ?_, fun h5 => ?_⟩, fun h4 => ?_⟩, fun h3 => ⟨he, fun h4 => ?_, fun h4 => ?_⟩⟩, fun h2 => ⟨he, fun h3 => ?_, fun h3 => ?_⟩⟩, fun h1 => ⟨he, fun h2 => ?_, fun h2 => ?_⟩⟩ <;> simp_all
def keysK (h : HP) (e f : Int32) : Int32 := cmpK h e (h 55 0 f) (h 56 0 f) (h 57 0 f) (h 58 0 f)
theorem s_keys (e f : Int32) (h : HP) (Q : Option AV → HP → Prop) (he : ina e 400) (hf : ina f 400) (H : Q (some (0, keysK h e f)) h) : WPm 98 [(10, 0), (0, e), (0, f)] h Q :=
  b98_0 e f h Q ⟨hf, hf, hf, hf, s_compare _ _ _ _ _ _ _ he (b98_29 e f _ h Q H)⟩
def isBel (h : HP) (e f : Int32) : Prop := keysK h e f < 0 ∨ (keysK h e f = 0 ∧ e < f)
theorem s_isBelow (e f : Int32) (h : HP) (Q : Option AV → HP → Prop) (he : ina e 400) (hf : ina f 400) (H1 : isBel h e f → Q (some (0, 1)) h) (H0 : ¬ isBel h e f → Q (some (0, 0)) h) : WPm 99 [(10, 0), (0, e), (0, f)] h Q := by
  refine b99_0 e f h Q (s_keys _ _ _ _ he hf (b99_6 e f _ h Q ⟨fun h1 => ⟨Or.inr rfl, H1 (Or.inl h1)⟩, fun h1 => ⟨fun h2 => ⟨Or.inl rfl, H0 ?_⟩, fun h2 => ⟨fun h3 => ⟨Or.inl rfl, H0 ?_⟩, fun h3 => ⟨Or.inr rfl, H1 (Or.inr ⟨h2, ?_⟩)⟩⟩⟩⟩))
  · unfold isBel; grind
  · unfold isBel; grind
  · grind
/-- the four cells become 0, from place i on -/
def cl0 (h : HP) : HP := up (up (up (up h 69 0 0 0) 69 0 1 0) 69 0 2 0) 69 0 3 0
theorem s_nothing (h : HP) (Q : Option AV → HP → Prop) (H : Q none (up (up (cl0 h) 10 0 36 0) 10 0 37 0)) : WPm 100 [(10, 0)] h Q := by
  refine b100_0 h Q ?_
  refine b100_2 0 h Q ⟨fun z => absurd z (by decide), fun _ => ⟨⟨by decide, by decide⟩, ?_⟩⟩
  refine b100_2 (0 + 1) _ Q ⟨fun z => absurd z (by decide), fun _ => ⟨⟨by decide, by decide⟩, ?_⟩⟩
  refine b100_2 (0 + 1 + 1) _ Q ⟨fun z => absurd z (by decide), fun _ => ⟨⟨by decide, by decide⟩, ?_⟩⟩
  refine b100_2 (0 + 1 + 1 + 1) _ Q ⟨fun z => absurd z (by decide), fun _ => ⟨⟨by decide, by decide⟩, ?_⟩⟩
  exact b100_2 (0 + 1 + 1 + 1 + 1) _ Q ⟨fun _ => H, fun z => absurd (by decide) z⟩
/-- draws: the three ways -/
theorem s_draws (p a : Int32) (h : HP) (Q : Option AV → HP → Prop) (hp : ina p 12) (ha : ina a 4) (hd : h 10 0 36 < h 43 0 p → ina (8 * p + h 10 0 36) 96)
    (H1 : h 43 0 p = 0 → Q none (up h 10 0 38 1)) (H4 : ¬ h 43 0 p = 0 → ¬ h 10 0 36 < h 43 0 p → Q none (up h 10 0 38 4))
    (H0 : ¬ h 43 0 p = 0 → h 10 0 36 < h 43 0 p → Q none (up (up (up h 10 0 38 0) 69 0 a (h 44 0 (8 * p + h 10 0 36))) 10 0 36 (h 10 0 36 + 1))) : WPm 104 [(10, 0), (0, p), (0, a)] h Q :=
  b104_0 p a h Q ⟨hp, fun h1 => ⟨hp, fun h2 => ⟨fun z => absurd rfl z, fun _ => ⟨hd h2, ha, H0 h1 h2⟩⟩, fun h2 => ⟨fun _ => H4 h1 h2, fun z => absurd z (by decide)⟩⟩, fun h1 => ⟨fun _ => H1 h1, fun z => absurd z (by decide)⟩⟩
/-- sends -/
theorem s_sends (a t m c : Int32) (h : HP) (Q : Option AV → HP → Prop) (ha : ina a 4) (ho : ina (h 10 0 39) 8)
    (H2 : ¬ 1 ≤ c → Q none (up h 10 0 38 2)) (H6 : 1 ≤ c → ¬ m + c ≤ 100000 → Q none (up h 10 0 38 6))
    (H0 : 1 ≤ c → m + c ≤ 100000 → Q none (up (up (up (up (up (up h 10 0 38 0) 70 0 (h 10 0 39) t) 71 0 (h 10 0 39) (m + c)) 72 0 (h 10 0 39) (h 69 0 a)) 10 0 39 (h 10 0 39 + 1)) 10 0 37 (h 10 0 37 + 1))) : WPm 103 [(10, 0), (0, a), (0, t), (0, m), (0, c)] h Q :=
  b103_0 a t m c h Q ⟨fun h1 => ⟨fun h2 => ⟨fun z => absurd rfl z, fun _ => ⟨ho, ho, ha, ho, H0 h1 h2⟩⟩, fun h2 => ⟨fun _ => H6 h1 h2, fun z => absurd z (by decide)⟩⟩, fun h1 => ⟨fun _ => H2 h1, fun z => absurd z (by decide)⟩⟩
