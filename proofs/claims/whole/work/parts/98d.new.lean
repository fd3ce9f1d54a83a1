/-! 98d: what is made at the start -/
abbrev VT : Type := List (Nat × Int32 × Int32 × Int32)
def vZap (f : Nat) (x : Int32) (n : Nat) (V : VT) : VT := ((List.range n).map fun k => (f, x, nI k, dfl f (nI k))) ++ V.filter fun q => !(decide (q.1 = f) && decide (q.2.1 = x))
def vUp (f : Nat) (x k v : Int32) (V : VT) : VT := (f, x, k, v) :: V.filter fun q => !(decide (q.1 = f) && (decide (q.2.1 = x) && decide (q.2.2.1 = k)))
def vSlz (f : Nat) (x : Int32) (V : VT) : VT := ((V.filter fun q => decide (q.1 = f) && decide (q.2.1 = x)).map fun q => (f - 10, x, q.2.2)) ++ V.filter fun q => !((decide (q.1 = f) || decide (q.1 + 10 = f)) && decide (q.2.1 = x))
/-- S: the rows touched; V: values known; R: rows that hold their first values; a, b: what was made -/
def GI (S : List (Nat × Int32)) (V : VT) (R : List Nat) (a b : Int32) (r : Int32 → Int32 → Int32) (h : HP) : Prop :=
  h 85 = r ∧ (∀ f x k, ¬ f = 85 → ¬ (f, x) ∈ S → ¬ (f = 0 ∧ x = 0) → h f x k = 0) ∧ (∀ q, q ∈ V → ¬ q.1 = 0 ∧ h q.1 q.2.1 q.2.2.1 = q.2.2.2) ∧ (∀ f, f ∈ R → ¬ f = 0 ∧ ∀ k, ¬ k = -1 → h f 0 k = dfl f k) ∧ h 0 0 0 = a ∧ h 0 0 1 = b
theorem GI_fl {S : List (Nat × Int32)} {V : VT} {R : List Nat} {a b : Int32} {r : Int32 → Int32 → Int32} {h : HP} (G : GI S V R a b r h) {f : Nat} {x : Int32} (hs : ¬ (f, x) ∈ S) (h1 : ¬ f = 85) (h2 : ¬ f = 0) : ¬ h f x (-1) = 1 := by
  rw [G.2.1 f x (-1) h1 hs (fun q => h2 q.1)]; decide
theorem GI_zap {S : List (Nat × Int32)} {V : VT} {R : List Nat} {a b : Int32} {r : Int32 → Int32 → Int32} {h : HP} (G : GI S V R a b r h) (f : Nat) (x n : Int32) (m : Nat) (hm : m ≤ 100) (h1 : ¬ f = 85) (h2 : ¬ f = 0) (hR : ¬ f ∈ R) : GI ((f, x) :: S) (vZap f x m V) R (a + 1) (b + n) r (zap h f x n) := by
  have z := zap_00 (h := h) (f := f) (j := x) (n := n) (fun q => h2 q.symm)
  refine ⟨funext fun j => funext fun k => ?_, fun g y k g1 g2 g3 => ?_, fun q hq => ?_, fun g hg => ⟨(G.2.2.2.1 g hg).1, fun k hk => ?_⟩, ?_, ?_⟩
  · rw [zap_n (fun q => h1 q.1.symm) (by simp)]; exact congrFun (congrFun G.1 j) k
  · rw [zap_n (fun q => g2 (by rw [q.1, q.2]; simp)) g3]
    exact G.2.1 g y k g1 (fun w => g2 (List.mem_cons.mpr (Or.inr w))) g3
  · rcases List.mem_append.mp hq with hq | hq
    · obtain ⟨k, hk, rfl⟩ := List.mem_map.mp hq
      refine ⟨h2, ?_⟩
      show zap h f x n f x (nI k) = dfl f (nI k)
      rw [zap_row, if_neg (nI_n1 (by have := List.mem_range.mp hk; omega))]
    · obtain ⟨q1, q2⟩ := List.mem_filter.mp hq
      have o := G.2.2.1 q q1
      refine ⟨o.1, ?_⟩
      rw [zap_n (fun w => by simp [w.1, w.2] at q2) (fun w => o.1 w.1)]; exact o.2
  · rw [zap_n (fun q => hR (by rw [← q.1]; exact hg)) (fun q => (G.2.2.2.1 g hg).1 q.1)]
    exact (G.2.2.2.1 g hg).2 k hk
  · rw [z.1, G.2.2.2.2.1]
  · rw [z.2, G.2.2.2.2.2]
theorem GI_row {S : List (Nat × Int32)} {V : VT} {R : List Nat} {a b : Int32} {r : Int32 → Int32 → Int32} {h : HP} (G : GI S V R a b r h) (f : Nat) (n : Int32) (h1 : ¬ f = 85) (h2 : ¬ f = 0) (hR : ¬ f ∈ R) : GI ((f, 0) :: S) (vZap f 0 0 V) (f :: R) (a + 1) (b + n) r (zap h f 0 n) := by
  obtain ⟨g1, g2, g3, g4, g5, g6⟩ := GI_zap G f 0 n 0 (by omega) h1 h2 hR
  refine ⟨g1, g2, g3, fun g hg => ?_, g5, g6⟩
  rcases List.mem_cons.mp hg with q | q
  · rw [q]; exact ⟨h2, fun k hk => by rw [zap_row, if_neg hk]⟩
  · exact g4 g q
theorem GI_up {S : List (Nat × Int32)} {V : VT} {R : List Nat} {a b : Int32} {r : Int32 → Int32 → Int32} {h : HP} (G : GI S V R a b r h) (f : Nat) (x k v : Int32) (h1 : ¬ f = 85) (h2 : ¬ f = 0) (hS : (f, x) ∈ S) (hR : ¬ f ∈ R) : GI S (vUp f x k v V) R a b r (up h f x k v) := by
  refine ⟨?_, fun g y k' g1 g2 g3 => ?_, fun q hq => ?_, fun g hg => ⟨(G.2.2.2.1 g hg).1, fun k' hk => ?_⟩, ?_, ?_⟩
  · rw [upfam (fun q => h1 q.symm)]; exact G.1
  · rw [up_n (fun q => g2 (by rw [q.1, q.2.1]; exact hS))]; exact G.2.1 g y k' g1 g2 g3
  · rcases List.mem_cons.mp hq with hq | hq
    · rw [hq]; exact ⟨h2, up_at⟩
    · obtain ⟨q1, q2⟩ := List.mem_filter.mp hq
      have o := G.2.2.1 q q1
      refine ⟨o.1, ?_⟩
      rw [up_n (fun w => by simp [w.1, w.2.1, w.2.2] at q2)]; exact o.2
  · rw [up_n (fun q => hR (by rw [← q.1]; exact hg))]; exact (G.2.2.2.1 g hg).2 k' hk
  · rw [upfam (fun q => h2 q.symm)]; exact G.2.2.2.2.1
  · rw [upfam (fun q => h2 q.symm)]; exact G.2.2.2.2.2
theorem GI_slz {S : List (Nat × Int32)} {V : VT} {R : List Nat} {a b : Int32} {r : Int32 → Int32 → Int32} {h : HP} (G : GI S V R a b r h) (f g : Nat) (x : Int32) (e : g + 10 = f) (h1 : ¬ g = 0) (h3 : f ≤ 20) (hR : ¬ f ∈ R ∧ ¬ g ∈ R) : GI ((g, x) :: S) (vSlz f x V) R a b r (slz h f x) := by
  refine ⟨funext fun j => funext fun k => ?_, fun g' y k' g1 g2 g3 => ?_, fun q hq => ?_, fun g' hg => ⟨(G.2.2.2.1 g' hg).1, fun k' hk => ?_⟩, ?_, ?_⟩
  · rw [slz_n (by omega) (by omega)]; exact congrFun (congrFun G.1 j) k
  · have n1 : ¬ (g', y) ∈ S := fun w => g2 (List.mem_cons.mpr (Or.inr w))
    have n2 : ¬ (g' + 10 = f ∧ y = x) := fun w => g2 (by rw [show g' = g by omega, w.2]; simp)
    by_cases w : g' = f ∧ y = x
    · rw [w.1, w.2, slz_raw]
    · rw [slz_n n2 w]; exact G.2.1 g' y k' g1 n1 g3
  · rcases List.mem_append.mp hq with hq | hq
    · obtain ⟨p, hp, rfl⟩ := List.mem_map.mp hq
      obtain ⟨p1, p2⟩ := List.mem_filter.mp hp
      simp only [Bool.and_eq_true, decide_eq_true_eq] at p2
      have o := G.2.2.1 p p1
      rw [p2.1, p2.2] at o
      refine ⟨by show ¬ f - 10 = 0; omega, ?_⟩
      show slz h f x (f - 10) x p.2.2.1 = p.2.2.2
      rw [slz_fin (by omega)]; exact o.2
    · obtain ⟨q1, q2⟩ := List.mem_filter.mp hq
      have o := G.2.2.1 q q1
      refine ⟨o.1, ?_⟩
      rw [slz_n (fun w => by simp [w.1, w.2] at q2) (fun w => by simp [w.1, w.2] at q2)]; exact o.2
  · rw [slz_n (fun w => hR.2 (by rw [show g = g' by omega]; exact hg)) (fun w => hR.1 (by rw [← w.1]; exact hg))]; exact (G.2.2.2.1 g' hg).2 k' hk
  · rw [slz_n (by omega) (by omega)]; exact G.2.2.2.2.1
  · rw [slz_n (by omega) (by omega)]; exact G.2.2.2.2.2
theorem nin {f g : Nat} {x y : Int32} {S : List (Nat × Int32)} (h : ¬ f = g) (s : ¬ (f, x) ∈ S) : ¬ (f, x) ∈ (g, y) :: S := fun q => by
  rcases List.mem_cons.mp q with w | w
  · exact h (by cases w; rfl)
  · exact s w
theorem g_order (x : Int32) {S : List (Nat × Int32)} {V : VT} {R : List Nat} {a b : Int32} {r : Int32 → Int32 → Int32} {h : HP} (G : GI S V R a b r h) (K : HP → Prop) (hx : ¬ x = -1) (s : ¬ (13, x) ∈ S ∧ ¬ (26, x) ∈ S ∧ ¬ (3, x) ∈ S) (hR : ¬ 13 ∈ R ∧ ¬ 26 ∈ R ∧ ¬ 3 ∈ R) (l : a + 1 ≤ 600000 ∧ b + 2 ≤ 7302250 ∧ a + 1 + 1 ≤ 600000 ∧ b + 2 + 400 ≤ 7302250)
    (H : ∀ h', GI ((3, x) :: (26, x) :: (13, x) :: S) (vSlz 13 x (vUp 13 x 0 1 (vZap 26 x 0 (vZap 13 x 2 V)))) R (a + 1 + 1) (b + 2 + 400) r h' → K h') :
    ¬ x = -1 ∧ (¬ (h 13 x (-1)) = 1 ∧ ((h 0 0 0) + 1 ≤ 600000 ∧ ((h 0 0 1) + 2 ≤ 7302250 ∧ (x = x ∧ WPm 16 [(13, x)] (zap h 13 x 2) (fun w h' => w = none ∧ slzOK h' 13 x (K (slz h' 13 x))))))) := by
  have G1 := GI_zap G 13 x 2 2 (by omega) (by decide) (by decide) hR.1
  have G2 := GI_zap G1 26 x 400 0 (by omega) (by decide) (by decide) hR.2.1
  have G3 := GI_up G2 13 x 0 1 (by decide) (by decide) (by simp) hR.1
  have G4 := GI_slz G3 13 3 x rfl (by decide) (by decide) ⟨hR.1, hR.2.2⟩
  refine ⟨hx, GI_fl G s.1 (by decide) (by decide), by rw [G.2.2.2.2.1]; exact l.1, by rw [G.2.2.2.2.2]; exact l.2.1, rfl, b16_0 _ _ _ ⟨rfl, hx, GI_fl G1 (nin (by decide) s.2.1) (by decide) (by decide), by rw [G1.2.2.2.2.1]; exact l.2.2.1, by rw [G1.2.2.2.2.2]; exact l.2.2.2, rfl, rfl, ?_⟩⟩
  exact ⟨GI_fl G3 (f := 3) (nin (by decide) (nin (by decide) s.2.2)) (by decide) (by decide), up_at, H _ G4⟩
theorem g_posts (x : Int32) {S : List (Nat × Int32)} {V : VT} {R : List Nat} {a b : Int32} {r : Int32 → Int32 → Int32} {h : HP} (G : GI S V R a b r h) (K : HP → Prop) (hx : ¬ x = -1) (s : ¬ (16, x) ∈ S ∧ ¬ (34, x) ∈ S ∧ ¬ (35, x) ∈ S ∧ ¬ (6, x) ∈ S) (hR : ¬ 16 ∈ R ∧ ¬ 34 ∈ R ∧ ¬ 35 ∈ R ∧ ¬ 6 ∈ R) (l : a + 1 ≤ 600000 ∧ b + 3 ≤ 7302250 ∧ a + 1 + 1 ≤ 600000 ∧ b + 3 + 800 ≤ 7302250 ∧ a + 1 + 1 + 1 ≤ 600000 ∧ b + 3 + 800 + 800 ≤ 7302250)
    (H : ∀ h', GI ((6, x) :: (35, x) :: (34, x) :: (16, x) :: S) (vSlz 16 x (vUp 16 x 1 1 (vZap 35 x 0 (vUp 16 x 0 1 (vZap 34 x 0 (vZap 16 x 3 V)))))) R (a + 1 + 1 + 1) (b + 3 + 800 + 800) r h' → K h') :
    ¬ x = -1 ∧ (¬ (h 16 x (-1)) = 1 ∧ ((h 0 0 0) + 1 ≤ 600000 ∧ ((h 0 0 1) + 3 ≤ 7302250 ∧ (x = x ∧ WPm 26 [(16, x)] (zap h 16 x 3) (fun w h' => w = none ∧ slzOK h' 16 x (K (slz h' 16 x))))))) := by
  have G1 := GI_zap G 16 x 3 3 (by omega) (by decide) (by decide) hR.1
  have G2 := GI_zap G1 34 x 800 0 (by omega) (by decide) (by decide) hR.2.1
  have G3 := GI_up G2 16 x 0 1 (by decide) (by decide) (by simp) hR.1
  have G4 := GI_zap G3 35 x 800 0 (by omega) (by decide) (by decide) hR.2.2.1
  have G5 := GI_up G4 16 x 1 1 (by decide) (by decide) (by simp) hR.1
  have G6 := GI_slz G5 16 6 x rfl (by decide) (by decide) ⟨hR.1, hR.2.2.2⟩
  refine ⟨hx, GI_fl G s.1 (by decide) (by decide), by rw [G.2.2.2.2.1]; exact l.1, by rw [G.2.2.2.2.2]; exact l.2.1, rfl, b26_0 _ _ _ ⟨rfl, hx, GI_fl G1 (nin (by decide) s.2.1) (by decide) (by decide), by rw [G1.2.2.2.2.1]; exact l.2.2.1, by rw [G1.2.2.2.2.2]; exact l.2.2.2.1, rfl, rfl, hx, GI_fl G1 (nin (by decide) s.2.2.1) (by decide) (by decide), by rw [G2.2.2.2.2.1]; exact l.2.2.2.2.1, by rw [G2.2.2.2.2.2]; exact l.2.2.2.2.2, rfl, rfl, ?_⟩⟩
  refine ⟨GI_fl G5 (f := 6) (nin (by decide) (nin (by decide) (nin (by decide) s.2.2.2))) (by decide) (by decide), ?_, up_at, H _ G6⟩
  show (up (zap (up (zap (zap h 16 x 3) 34 x 800) 16 x 0 1) 35 x 800) 16 x 1 1) 16 x 0 = 1
  rw [up_n (by simp), zap_n (by simp) (by simp), up_at]
theorem g_doing (x : Int32) {S : List (Nat × Int32)} {V : VT} {R : List Nat} {a b : Int32} {r : Int32 → Int32 → Int32} {h : HP} (G : GI S V R a b r h) (K : HP → Prop) (hx : ¬ x = -1) (s : ¬ (11, x) ∈ S ∧ ¬ (21, x) ∈ S ∧ ¬ (22, x) ∈ S ∧ ¬ (23, x) ∈ S ∧ ¬ (24, x) ∈ S ∧ ¬ (1, x) ∈ S) (hR : ¬ 11 ∈ R ∧ ¬ 21 ∈ R ∧ ¬ 22 ∈ R ∧ ¬ 23 ∈ R ∧ ¬ 24 ∈ R ∧ ¬ 1 ∈ R)
    (l : (a + 1 ≤ 600000 ∧ b + 8 ≤ 7302250 ∧ a + 1 + 1 ≤ 600000 ∧ b + 8 + 8 ≤ 7302250) ∧ (a + 1 + 1 + 1 ≤ 600000 ∧ b + 8 + 8 + 8 ≤ 7302250) ∧ (a + 1 + 1 + 1 + 1 ≤ 600000 ∧ b + 8 + 8 + 8 + 8 ≤ 7302250) ∧ (a + 1 + 1 + 1 + 1 + 1 ≤ 600000 ∧ b + 8 + 8 + 8 + 8 + 8 ≤ 7302250))
    (H : ∀ h', GI ((1, x) :: (24, x) :: (23, x) :: (22, x) :: (21, x) :: (11, x) :: S) (vSlz 11 x (vUp 11 x 5 1 (vZap 24 x 0 (vUp 11 x 2 1 (vZap 23 x 0 (vUp 11 x 1 1 (vZap 22 x 0 (vUp 11 x 0 1 (vZap 21 x 0 (vZap 11 x 8 V)))))))))) R (a + 1 + 1 + 1 + 1 + 1) (b + 8 + 8 + 8 + 8 + 8) r h' → K h') :
    ¬ x = -1 ∧ (¬ (h 11 x (-1)) = 1 ∧ ((h 0 0 0) + 1 ≤ 600000 ∧ ((h 0 0 1) + 8 ≤ 7302250 ∧ (x = x ∧ WPm 0 [(11, x)] (zap h 11 x 8) (fun w h' => w = none ∧ slzOK h' 11 x (K (slz h' 11 x))))))) := by
  have G1 := GI_zap G 11 x 8 8 (by omega) (by decide) (by decide) hR.1
  have G2 := GI_zap G1 21 x 8 0 (by omega) (by decide) (by decide) hR.2.1
  have G3 := GI_up G2 11 x 0 1 (by decide) (by decide) (by simp) hR.1
  have G4 := GI_zap G3 22 x 8 0 (by omega) (by decide) (by decide) hR.2.2.1
  have G5 := GI_up G4 11 x 1 1 (by decide) (by decide) (by simp) hR.1
  have G6 := GI_zap G5 23 x 8 0 (by omega) (by decide) (by decide) hR.2.2.2.1
  have G7 := GI_up G6 11 x 2 1 (by decide) (by decide) (by simp) hR.1
  have G8 := GI_zap G7 24 x 8 0 (by omega) (by decide) (by decide) hR.2.2.2.2.1
  have G9 := GI_up G8 11 x 5 1 (by decide) (by decide) (by simp) hR.1
  have G10 := GI_slz G9 11 1 x rfl (by decide) (by decide) ⟨hR.1, hR.2.2.2.2.2⟩
  obtain ⟨⟨l1, l2, l3, l4⟩, ⟨l5, l6⟩, ⟨l7, l8⟩, l9, l10⟩ := l
  refine ⟨hx, GI_fl G s.1 (by decide) (by decide), by rw [G.2.2.2.2.1]; exact l1, by rw [G.2.2.2.2.2]; exact l2, rfl, b0_0 _ _ _ ⟨rfl, hx, GI_fl G1 (nin (by decide) s.2.1) (by decide) (by decide), by rw [G1.2.2.2.2.1]; exact l3, by rw [G1.2.2.2.2.2]; exact l4, rfl, rfl, hx, GI_fl G1 (nin (by decide) s.2.2.1) (by decide) (by decide), by rw [G2.2.2.2.2.1]; exact l5, by rw [G2.2.2.2.2.2]; exact l6, rfl, rfl, hx, GI_fl G1 (nin (by decide) s.2.2.2.1) (by decide) (by decide), by rw [G4.2.2.2.2.1]; exact l7, by rw [G4.2.2.2.2.2]; exact l8, rfl, rfl, hx, GI_fl G1 (nin (by decide) s.2.2.2.2.1) (by decide) (by decide), by rw [G6.2.2.2.2.1]; exact l9, by rw [G6.2.2.2.2.2]; exact l10, rfl, rfl, ?_⟩⟩
  refine ⟨GI_fl G9 (f := 1) (nin (by decide) (nin (by decide) (nin (by decide) (nin (by decide) (nin (by decide) s.2.2.2.2.2))))) (by decide) (by decide), ?_, ?_, ?_, up_at, H _ G10⟩
  · show (up (zap (up (zap (up (zap (up (zap (zap h 11 x 8) 21 x 8) 11 x 0 1) 22 x 8) 11 x 1 1) 23 x 8) 11 x 2 1) 24 x 8) 11 x 5 1) 11 x 0 = 1
    rw [up_n (by simp), zap_n (by simp) (by simp), up_n (by simp), zap_n (by simp) (by simp), up_n (by simp), zap_n (by simp) (by simp), up_at]
  · show (up (zap (up (zap (up (zap (up (zap (zap h 11 x 8) 21 x 8) 11 x 0 1) 22 x 8) 11 x 1 1) 23 x 8) 11 x 2 1) 24 x 8) 11 x 5 1) 11 x 1 = 1
    rw [up_n (by simp), zap_n (by simp) (by simp), up_n (by simp), zap_n (by simp) (by simp), up_at]
  · show (up (zap (up (zap (up (zap (up (zap (zap h 11 x 8) 21 x 8) 11 x 0 1) 22 x 8) 11 x 1 1) 23 x 8) 11 x 2 1) 24 x 8) 11 x 5 1) 11 x 2 = 1
    rw [up_n (by simp), zap_n (by simp) (by simp), up_at]
theorem g_prints (x : Int32) {S : List (Nat × Int32)} {V : VT} {R : List Nat} {a b : Int32} {r : Int32 → Int32 → Int32} {h : HP} (G : GI S V R a b r h) (K : HP → Prop) (hx : ¬ x = -1) (s : ¬ (17, x) ∈ S ∧ ¬ (7, x) ∈ S) (hR : ¬ 17 ∈ R ∧ ¬ 7 ∈ R) (l : a + 1 ≤ 600000 ∧ b + 6 ≤ 7302250)
    (H : ∀ h', GI ((7, x) :: (17, x) :: S) (vSlz 17 x (vZap 17 x 6 V)) R (a + 1) (b + 6) r h' → K h') :
    ¬ x = -1 ∧ (¬ (h 17 x (-1)) = 1 ∧ ((h 0 0 0) + 1 ≤ 600000 ∧ ((h 0 0 1) + 6 ≤ 7302250 ∧ (x = x ∧ WPm 29 [(17, x)] (zap h 17 x 6) (fun w h' => w = none ∧ slzOK h' 17 x (K (slz h' 17 x))))))) := by
  have G1 := GI_zap G 17 x 6 6 (by omega) (by decide) (by decide) hR.1
  have G2 := GI_slz G1 17 7 x rfl (by decide) (by decide) hR
  refine ⟨hx, GI_fl G s.1 (by decide) (by decide), by rw [G.2.2.2.2.1]; exact l.1, by rw [G.2.2.2.2.2]; exact l.2, rfl, b29_0 _ _ _ ⟨rfl, ?_⟩⟩
  exact ⟨GI_fl G1 (f := 7) (nin (by decide) s.2) (by decide) (by decide), H _ G2⟩
theorem g_state (x : Int32) {S : List (Nat × Int32)} {V : VT} {R : List Nat} {a b : Int32} {r : Int32 → Int32 → Int32} {h : HP} (G : GI S V R a b r h) (K : HP → Prop) (hx : ¬ x = -1) (s : ¬ (18, x) ∈ S ∧ ¬ (39, x) ∈ S ∧ ¬ (8, x) ∈ S) (hR : ¬ 18 ∈ R ∧ ¬ 39 ∈ R ∧ ¬ 8 ∈ R) (l : a + 1 ≤ 600000 ∧ b + 3 ≤ 7302250 ∧ a + 1 + 1 ≤ 600000 ∧ b + 3 + 4 ≤ 7302250)
    (H : ∀ h', GI ((8, x) :: (39, x) :: (18, x) :: S) (vSlz 18 x (vUp 18 x 0 1 (vZap 39 x 0 (vZap 18 x 3 V)))) R (a + 1 + 1) (b + 3 + 4) r h' → K h') :
    ¬ x = -1 ∧ (¬ (h 18 x (-1)) = 1 ∧ ((h 0 0 0) + 1 ≤ 600000 ∧ ((h 0 0 1) + 3 ≤ 7302250 ∧ (x = x ∧ WPm 32 [(18, x)] (zap h 18 x 3) (fun w h' => w = none ∧ slzOK h' 18 x (K (slz h' 18 x))))))) := by
  have G1 := GI_zap G 18 x 3 3 (by omega) (by decide) (by decide) hR.1
  have G2 := GI_zap G1 39 x 4 0 (by omega) (by decide) (by decide) hR.2.1
  have G3 := GI_up G2 18 x 0 1 (by decide) (by decide) (by simp) hR.1
  have G4 := GI_slz G3 18 8 x rfl (by decide) (by decide) ⟨hR.1, hR.2.2⟩
  refine ⟨hx, GI_fl G s.1 (by decide) (by decide), by rw [G.2.2.2.2.1]; exact l.1, by rw [G.2.2.2.2.2]; exact l.2.1, rfl, b32_0 _ _ _ ⟨rfl, hx, GI_fl G1 (nin (by decide) s.2.1) (by decide) (by decide), by rw [G1.2.2.2.2.1]; exact l.2.2.1, by rw [G1.2.2.2.2.2]; exact l.2.2.2, rfl, rfl, ?_⟩⟩
  exact ⟨GI_fl G3 (f := 8) (nin (by decide) (nin (by decide) s.2.2)) (by decide) (by decide), up_at, H _ G4⟩
