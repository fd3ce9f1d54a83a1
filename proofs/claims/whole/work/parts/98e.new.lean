/-! 98e: the start: the class, the model -/
theorem GI_sub {S S' : List (Nat × Int32)} {V V' : VT} {R R' : List Nat} {a b a' b' : Int32} {r : Int32 → Int32 → Int32} {h : HP} (G : GI S V R a b r h) (hS : ∀ q, q ∈ S → q ∈ S') (hV : ∀ q, q ∈ V' → q ∈ V) (hR : ∀ q, q ∈ R' → q ∈ R) (ha : a = a') (hb : b = b') : GI S' V' R' a' b' r h :=
  ⟨G.1, fun f x k h1 h2 h3 => G.2.1 f x k h1 (fun q => h2 (hS _ q)) h3, fun q hq => G.2.2.1 q (hV q hq), fun f hf => G.2.2.2.1 f (hR f hf), by rw [← ha]; exact G.2.2.2.2.1, by rw [← hb]; exact G.2.2.2.2.2⟩
def SYc : List (Nat × Int32) := [(19, 0), (40, 0), (41, 0), (13, 0), (3, 0), (26, 0), (16, 0), (6, 0), (34, 0), (35, 0), (16, 1), (6, 1), (34, 1), (35, 1), (11, 0), (1, 0), (21, 0), (22, 0), (23, 0), (24, 0), (18, 24), (8, 24), (39, 24), (17, 0), (7, 0), (36, 0), (37, 0), (38, 0), (15, 0), (5, 0), (32, 0), (33, 0), (13, 1), (3, 1), (26, 1), (17, 1), (7, 1), (36, 1), (37, 1), (38, 1), (11, 1), (1, 1), (21, 1), (22, 1), (23, 1), (24, 1)]
def VYc : VT := [(19, 0, 1, 0), (19, 0, 10, 0), (19, 0, 11, 0), (19, 0, 12, 0), (19, 0, 13, -1), (19, 0, 14, 1), (3, 0, 1, 0), (6, 0, 2, 0), (6, 1, 2, 0), (19, 0, 0, 1), (19, 0, 2, 1), (19, 0, 3, 1), (19, 0, 4, 1), (19, 0, 5, 1), (19, 0, 6, 1), (19, 0, 7, 1), (19, 0, 8, 1), (19, 0, 9, 1)]
theorem g_yard (r : Int32 → Int32 → Int32) (h : HP) (Q : Option AV → HP → Prop) (G1 : GI [(19, 0)] (vZap 19 0 15 []) [] 1 15 r h) (H : ∀ h', GI SYc VYc [33, 32] 30 4956 r h' → Q none h') : WPm 36 [(19, 0)] h Q := by
  have G2 := GI_zap G1 40 0 12 0 (by omega) (by decide) (by decide) (by decide)
  have G3 := GI_up G2 19 0 0 1 (by decide) (by decide) (by decide) (by decide)
  have G4 := GI_zap G3 41 0 400 0 (by omega) (by decide) (by decide) (by decide)
  have G5 := GI_up G4 19 0 2 1 (by decide) (by decide) (by decide) (by decide)
  have o := g_order 0 G5 (fun h' => WPc 36 31 [(19, 0)] [(3, 0), (19, 0)] h' Q) (by decide) (by decide) (by decide) (by decide) fun h6 G6 => ?_
  · exact b36_0 h Q ⟨rfl, by decide, (GI_fl G1 (f := 40) (by decide) (by decide) (by decide)), (by rw [G1.2.2.2.2.1]; decide), (by rw [G1.2.2.2.2.2]; decide), rfl, rfl, by decide, (GI_fl G1 (f := 41) (by decide) (by decide) (by decide)), (by rw [G2.2.2.2.2.1]; decide), (by rw [G2.2.2.2.2.2]; decide), rfl, o.1, (GI_fl G1 (f := 13) (by decide) (by decide) (by decide)), (by rw [G4.2.2.2.2.1]; decide), (by rw [G4.2.2.2.2.2]; decide), rfl, o.2.2.2.2.2⟩

  clear G1 G2 G3 G4 G5
  have G7 := GI_up G6 19 0 3 1 (by decide) (by decide) (by decide) (by decide)
  have o := g_posts 0 G7 (fun h' => WPc 36 42 [(19, 0)] [(6, 0), (19, 0)] h' Q) (by decide) (by decide) (by decide) (by decide) fun h8 G8 => ?_
  · exact b36_31 _ h6 Q ⟨rfl, o.1, (GI_fl G6 (f := 16) (by decide) (by decide) (by decide)), (by rw [G6.2.2.2.2.1]; decide), (by rw [G6.2.2.2.2.2]; decide), rfl, o.2.2.2.2.2⟩
  clear G6 G7
  have G9 := GI_up G8 19 0 4 1 (by decide) (by decide) (by decide) (by decide)
  have o := g_posts 1 G9 (fun h' => WPc 36 53 [(19, 0)] [(6, 1), (19, 0)] h' Q) (by decide) (by decide) (by decide) (by decide) fun h10 G10 => ?_
  · exact b36_42 _ h8 Q ⟨rfl, o.1, (GI_fl G8 (f := 16) (by decide) (by decide) (by decide)), (by rw [G8.2.2.2.2.1]; decide), (by rw [G8.2.2.2.2.2]; decide), rfl, o.2.2.2.2.2⟩
  clear G8 G9
  have G11 := GI_up G10 19 0 5 1 (by decide) (by decide) (by decide) (by decide)
  have o := g_doing 0 G11 (fun h' => WPc 36 64 [(19, 0)] [(1, 0), (19, 0)] h' Q) (by decide) (by decide) (by decide) (by decide) fun h12 G12 => ?_
  · exact b36_53 _ h10 Q ⟨rfl, o.1, (GI_fl G10 (f := 11) (by decide) (by decide) (by decide)), (by rw [G10.2.2.2.2.1]; decide), (by rw [G10.2.2.2.2.2]; decide), rfl, o.2.2.2.2.2⟩
  clear G10 G11
  have G13 := GI_up G12 19 0 6 1 (by decide) (by decide) (by decide) (by decide)
  have o := g_state 24 G13 (fun h' => WPc 36 75 [(19, 0)] [(8, 24), (19, 0)] h' Q) (by decide) (by decide) (by decide) (by decide) fun h14 G14 => ?_
  · exact b36_64 _ h12 Q ⟨rfl, o.1, (GI_fl G12 (f := 18) (by decide) (by decide) (by decide)), (by rw [G12.2.2.2.2.1]; decide), (by rw [G12.2.2.2.2.2]; decide), rfl, o.2.2.2.2.2⟩
  clear G12 G13
  have G15 := GI_up G14 19 0 7 1 (by decide) (by decide) (by decide) (by decide)
  have o := g_prints 0 G15 (fun h' => WPc 36 86 [(19, 0)] [(7, 0), (19, 0)] h' Q) (by decide) (by decide) (by decide) (by decide) fun h16 G16 => ?_
  · exact b36_75 _ h14 Q ⟨rfl, o.1, (GI_fl G14 (f := 17) (by decide) (by decide) (by decide)), (by rw [G14.2.2.2.2.1]; decide), (by rw [G14.2.2.2.2.2]; decide), rfl, o.2.2.2.2.2⟩
  clear G14 G15
  have G17 := GI_up G16 19 0 8 1 (by decide) (by decide) (by decide) (by decide)
  have G18 := GI_zap G17 15 0 8 8 (by omega) (by decide) (by decide) (by decide)
  refine b36_86 _ h16 Q ⟨rfl, by decide, (GI_fl G16 (f := 15) (by decide) (by decide) (by decide)), (by rw [G16.2.2.2.2.1]; decide), (by rw [G16.2.2.2.2.2]; decide), rfl, ?_⟩
  generalize zap (up h16 19 0 8 1) 15 0 8 = h18 at G18 ⊢
  clear G16 G17
  have G19 := GI_row G18 32 12 (by decide) (by decide) (by decide)
  have G20 := GI_up G19 15 0 0 1 (by decide) (by decide) (by decide) (by decide)
  have o := g_order 1 G20 (fun h' => WPc 22 21 [(15, 0)] [(3, 1), (15, 0)] h' (fun w h' => w = none ∧ slzOK h' 15 0 (WPc 36 97 [(19, 0)] [(5, 0), (19, 0)] (slz h' 15 0) Q))) (by decide) (by decide) (by decide) (by decide) fun h21 G21 => ?_
  · exact b22_0 h18 _ ⟨rfl, by decide, (GI_fl G18 (f := 32) (by decide) (by decide) (by decide)), (by rw [G18.2.2.2.2.1]; decide), (by rw [G18.2.2.2.2.2]; decide), rfl, o.1, (GI_fl G18 (f := 13) (by decide) (by decide) (by decide)), (by rw [G19.2.2.2.2.1]; decide), (by rw [G19.2.2.2.2.2]; decide), rfl, o.2.2.2.2.2⟩
  clear G18 G19 G20
  have G22 := GI_up G21 15 0 1 1 (by decide) (by decide) (by decide) (by decide)
  have o := g_prints 1 G22 (fun h' => WPc 22 32 [(15, 0)] [(7, 1), (15, 0)] h' (fun w h' => w = none ∧ slzOK h' 15 0 (WPc 36 97 [(19, 0)] [(5, 0), (19, 0)] (slz h' 15 0) Q))) (by decide) (by decide) (by decide) (by decide) fun h23 G23 => ?_
  · exact b22_21 _ h21 _ ⟨rfl, o.1, (GI_fl G21 (f := 17) (by decide) (by decide) (by decide)), (by rw [G21.2.2.2.2.1]; decide), (by rw [G21.2.2.2.2.2]; decide), rfl, o.2.2.2.2.2⟩
  clear G21 G22
  have G24 := GI_up G23 15 0 2 1 (by decide) (by decide) (by decide) (by decide)
  have o := g_doing 1 G24 (fun h' => WPc 22 43 [(15, 0)] [(1, 1), (15, 0)] h' (fun w h' => w = none ∧ slzOK h' 15 0 (WPc 36 97 [(19, 0)] [(5, 0), (19, 0)] (slz h' 15 0) Q))) (by decide) (by decide) (by decide) (by decide) fun h25 G25 => ?_
  · exact b22_32 _ h23 _ ⟨rfl, o.1, (GI_fl G23 (f := 11) (by decide) (by decide) (by decide)), (by rw [G23.2.2.2.2.1]; decide), (by rw [G23.2.2.2.2.2]; decide), rfl, o.2.2.2.2.2⟩
  clear G23 G24
  have G26 := GI_up G25 15 0 3 1 (by decide) (by decide) (by decide) (by decide)
  have G27 := GI_row G26 33 400 (by decide) (by decide) (by decide)
  have G28 := GI_up G27 15 0 7 1 (by decide) (by decide) (by decide) (by decide)
  have G29 := GI_slz G28 15 5 0 rfl (by decide) (by decide) (by decide)
  refine b22_43 _ h25 _ ⟨rfl, rfl, by decide, (GI_fl G25 (f := 33) (by decide) (by decide) (by decide)), (by rw [G25.2.2.2.2.1]; decide), (by rw [G25.2.2.2.2.2]; decide), rfl, rfl, ?_, ?_, ?_, ?_, ?_, up_at, b36_97 _ Q ⟨rfl, ?_⟩⟩

  · exact GI_fl G28 (f := 5) (by decide) (by decide) (by decide)
  · exact (G28.2.2.1 (15, 0, 0, 1) (by decide +kernel)).2
  · exact (G28.2.2.1 (15, 0, 1, 1) (by decide +kernel)).2
  · exact (G28.2.2.1 (15, 0, 2, 1) (by decide +kernel)).2
  · exact (G28.2.2.1 (15, 0, 3, 1) (by decide +kernel)).2
  have G30 := GI_up G29 19 0 9 1 (by decide) (by decide) (by decide) (by decide)
  have G31 := GI_up G30 19 0 13 (-1) (by decide) (by decide) (by decide) (by decide)
  have G32 := GI_up G31 19 0 14 1 (by decide) (by decide) (by decide) (by decide)
  exact H _ (GI_sub G32 (by decide +kernel) (by decide +kernel) (by decide) (by decide) (by decide))
theorem c91_0 (h : HP) (Q : Option AV → HP → Prop) (H : ((12 : Int32) = 12 ∧ (¬ (0 : Int32) = -1 ∧ (¬ (h 42 0 (-1)) = 1 ∧ ((h 0 0 0) + 1 ≤ 600000 ∧ ((h 0 0 1) + 12 ≤ 7302250 ∧ ((0 : Int32) = 0 ∧ WPc 91 12 [(20, 0)] [] (up (zap h 42 0 12) 20 0 1 1) Q))))))) : WPc 91 0 [(20, 0)] [] h Q := wpS_sound [12] 7 H
theorem c91_12 (h : HP) (Q : Option AV → HP → Prop) (H : ((12 : Int32) = 12 ∧ (¬ (0 : Int32) = -1 ∧ (¬ (h 43 0 (-1)) = 1 ∧ ((h 0 0 0) + 1 ≤ 600000 ∧ ((h 0 0 1) + 12 ≤ 7302250 ∧ ((0 : Int32) = 0 ∧ WPc 91 20 [(20, 0)] [] (up (zap h 43 0 12) 20 0 2 1) Q))))))) : WPc 91 12 [(20, 0)] [] h Q := wpS_sound [20] 5 H
theorem c91_20 (h : HP) (Q : Option AV → HP → Prop) (H : ((96 : Int32) = 96 ∧ (¬ (0 : Int32) = -1 ∧ (¬ (h 44 0 (-1)) = 1 ∧ ((h 0 0 0) + 1 ≤ 600000 ∧ ((h 0 0 1) + 96 ≤ 7302250 ∧ ((0 : Int32) = 0 ∧ WPc 91 28 [(20, 0)] [] (up (zap h 44 0 96) 20 0 3 1) Q))))))) : WPc 91 20 [(20, 0)] [] h Q := wpS_sound [28] 5 H
theorem c91_28 (h : HP) (Q : Option AV → HP → Prop) (H : ((12 : Int32) = 12 ∧ (¬ (0 : Int32) = -1 ∧ (¬ (h 45 0 (-1)) = 1 ∧ ((h 0 0 0) + 1 ≤ 600000 ∧ ((h 0 0 1) + 12 ≤ 7302250 ∧ ((0 : Int32) = 0 ∧ WPc 91 36 [(20, 0)] [] (up (zap h 45 0 12) 20 0 4 1) Q))))))) : WPc 91 28 [(20, 0)] [] h Q := wpS_sound [36] 5 H
theorem c91_36 (h : HP) (Q : Option AV → HP → Prop) (H : ((96 : Int32) = 96 ∧ (¬ (0 : Int32) = -1 ∧ (¬ (h 46 0 (-1)) = 1 ∧ ((h 0 0 0) + 1 ≤ 600000 ∧ ((h 0 0 1) + 96 ≤ 7302250 ∧ ((0 : Int32) = 0 ∧ WPc 91 44 [(20, 0)] [] (up (zap h 46 0 96) 20 0 5 1) Q))))))) : WPc 91 36 [(20, 0)] [] h Q := wpS_sound [44] 5 H
theorem c91_44 (h : HP) (Q : Option AV → HP → Prop) (H : ((96 : Int32) = 96 ∧ (¬ (0 : Int32) = -1 ∧ (¬ (h 47 0 (-1)) = 1 ∧ ((h 0 0 0) + 1 ≤ 600000 ∧ ((h 0 0 1) + 96 ≤ 7302250 ∧ ((0 : Int32) = 0 ∧ WPc 91 52 [(20, 0)] [] (up (zap h 47 0 96) 20 0 6 1) Q))))))) : WPc 91 44 [(20, 0)] [] h Q := wpS_sound [52] 5 H
theorem c91_52 (h : HP) (Q : Option AV → HP → Prop) (H : ((96 : Int32) = 96 ∧ (¬ (0 : Int32) = -1 ∧ (¬ (h 48 0 (-1)) = 1 ∧ ((h 0 0 0) + 1 ≤ 600000 ∧ ((h 0 0 1) + 96 ≤ 7302250 ∧ ((0 : Int32) = 0 ∧ WPc 91 60 [(20, 0)] [] (up (zap h 48 0 96) 20 0 7 1) Q))))))) : WPc 91 52 [(20, 0)] [] h Q := wpS_sound [60] 5 H
theorem c91_60 (h : HP) (Q : Option AV → HP → Prop) (H : ((96 : Int32) = 96 ∧ (¬ (0 : Int32) = -1 ∧ (¬ (h 49 0 (-1)) = 1 ∧ ((h 0 0 0) + 1 ≤ 600000 ∧ ((h 0 0 1) + 96 ≤ 7302250 ∧ ((0 : Int32) = 0 ∧ WPc 91 68 [(20, 0)] [] (up (zap h 49 0 96) 20 0 8 1) Q))))))) : WPc 91 60 [(20, 0)] [] h Q := wpS_sound [68] 5 H
theorem c91_68 (h : HP) (Q : Option AV → HP → Prop) (H : ((12 : Int32) = 12 ∧ (¬ (0 : Int32) = -1 ∧ (¬ (h 50 0 (-1)) = 1 ∧ ((h 0 0 0) + 1 ≤ 600000 ∧ ((h 0 0 1) + 12 ≤ 7302250 ∧ ((0 : Int32) = 0 ∧ WPc 91 76 [(20, 0)] [] (up (zap h 50 0 12) 20 0 9 1) Q))))))) : WPc 91 68 [(20, 0)] [] h Q := wpS_sound [76] 5 H
theorem c91_76 (h : HP) (Q : Option AV → HP → Prop) (H : ((12 : Int32) = 12 ∧ (¬ (0 : Int32) = -1 ∧ (¬ (h 51 0 (-1)) = 1 ∧ ((h 0 0 0) + 1 ≤ 600000 ∧ ((h 0 0 1) + 12 ≤ 7302250 ∧ ((0 : Int32) = 0 ∧ WPc 91 84 [(20, 0)] [] (up (zap h 51 0 12) 20 0 10 1) Q))))))) : WPc 91 76 [(20, 0)] [] h Q := wpS_sound [84] 5 H
theorem c91_84 (h : HP) (Q : Option AV → HP → Prop) (H : ((12 : Int32) = 12 ∧ (¬ (0 : Int32) = -1 ∧ (¬ (h 52 0 (-1)) = 1 ∧ ((h 0 0 0) + 1 ≤ 600000 ∧ ((h 0 0 1) + 12 ≤ 7302250 ∧ ((0 : Int32) = 0 ∧ WPc 91 92 [(20, 0)] [] (up (zap h 52 0 12) 20 0 11 1) Q))))))) : WPc 91 84 [(20, 0)] [] h Q := wpS_sound [92] 5 H
theorem c91_92 (h : HP) (Q : Option AV → HP → Prop) (H : ((4800 : Int32) = 4800 ∧ (¬ (0 : Int32) = -1 ∧ (¬ (h 53 0 (-1)) = 1 ∧ ((h 0 0 0) + 1 ≤ 600000 ∧ ((h 0 0 1) + 4800 ≤ 7302250 ∧ ((0 : Int32) = 0 ∧ WPc 91 101 [(20, 0)] [] (up (zap h 53 0 4800) 20 0 12 1) Q))))))) : WPc 91 92 [(20, 0)] [] h Q := wpS_sound [101] 5 H
theorem c91_101 (h : HP) (Q : Option AV → HP → Prop) (H : ((400 : Int32) = 400 ∧ (¬ (0 : Int32) = -1 ∧ (¬ (h 54 0 (-1)) = 1 ∧ ((h 0 0 0) + 1 ≤ 600000 ∧ ((h 0 0 1) + 400 ≤ 7302250 ∧ ((0 : Int32) = 0 ∧ WPc 91 110 [(20, 0)] [] (up (zap h 54 0 400) 20 0 15 1) Q))))))) : WPc 91 101 [(20, 0)] [] h Q := wpS_sound [110] 5 H
theorem c91_110 (h : HP) (Q : Option AV → HP → Prop) (H : ((400 : Int32) = 400 ∧ (¬ (0 : Int32) = -1 ∧ (¬ (h 55 0 (-1)) = 1 ∧ ((h 0 0 0) + 1 ≤ 600000 ∧ ((h 0 0 1) + 400 ≤ 7302250 ∧ ((0 : Int32) = 0 ∧ WPc 91 119 [(20, 0)] [] (up (zap h 55 0 400) 20 0 16 1) Q))))))) : WPc 91 110 [(20, 0)] [] h Q := wpS_sound [119] 5 H
theorem c91_119 (h : HP) (Q : Option AV → HP → Prop) (H : ((400 : Int32) = 400 ∧ (¬ (0 : Int32) = -1 ∧ (¬ (h 56 0 (-1)) = 1 ∧ ((h 0 0 0) + 1 ≤ 600000 ∧ ((h 0 0 1) + 400 ≤ 7302250 ∧ ((0 : Int32) = 0 ∧ WPc 91 128 [(20, 0)] [] (up (zap h 56 0 400) 20 0 17 1) Q))))))) : WPc 91 119 [(20, 0)] [] h Q := wpS_sound [128] 5 H
theorem c91_128 (h : HP) (Q : Option AV → HP → Prop) (H : ((400 : Int32) = 400 ∧ (¬ (0 : Int32) = -1 ∧ (¬ (h 57 0 (-1)) = 1 ∧ ((h 0 0 0) + 1 ≤ 600000 ∧ ((h 0 0 1) + 400 ≤ 7302250 ∧ ((0 : Int32) = 0 ∧ WPc 91 137 [(20, 0)] [] (up (zap h 57 0 400) 20 0 18 1) Q))))))) : WPc 91 128 [(20, 0)] [] h Q := wpS_sound [137] 5 H
theorem c91_137 (h : HP) (Q : Option AV → HP → Prop) (H : ((400 : Int32) = 400 ∧ (¬ (0 : Int32) = -1 ∧ (¬ (h 58 0 (-1)) = 1 ∧ ((h 0 0 0) + 1 ≤ 600000 ∧ ((h 0 0 1) + 400 ≤ 7302250 ∧ ((0 : Int32) = 0 ∧ WPc 91 146 [(20, 0)] [] (up (zap h 58 0 400) 20 0 19 1) Q))))))) : WPc 91 137 [(20, 0)] [] h Q := wpS_sound [146] 5 H
theorem c91_146 (h : HP) (Q : Option AV → HP → Prop) (H : ((400 : Int32) = 400 ∧ (¬ (0 : Int32) = -1 ∧ (¬ (h 59 0 (-1)) = 1 ∧ ((h 0 0 0) + 1 ≤ 600000 ∧ ((h 0 0 1) + 400 ≤ 7302250 ∧ ((0 : Int32) = 0 ∧ WPc 91 155 [(20, 0)] [] (up (zap h 59 0 400) 20 0 20 1) Q))))))) : WPc 91 146 [(20, 0)] [] h Q := wpS_sound [155] 5 H
theorem c91_155 (h : HP) (Q : Option AV → HP → Prop) (H : ((400 : Int32) = 400 ∧ (¬ (0 : Int32) = -1 ∧ (¬ (h 60 0 (-1)) = 1 ∧ ((h 0 0 0) + 1 ≤ 600000 ∧ ((h 0 0 1) + 400 ≤ 7302250 ∧ ((0 : Int32) = 0 ∧ WPc 91 164 [(20, 0)] [] (up (zap h 60 0 400) 20 0 21 1) Q))))))) : WPc 91 155 [(20, 0)] [] h Q := wpS_sound [164] 5 H
theorem c91_164 (h : HP) (Q : Option AV → HP → Prop) (H : ((400 : Int32) = 400 ∧ (¬ (0 : Int32) = -1 ∧ (¬ (h 61 0 (-1)) = 1 ∧ ((h 0 0 0) + 1 ≤ 600000 ∧ ((h 0 0 1) + 400 ≤ 7302250 ∧ ((0 : Int32) = 0 ∧ WPc 91 173 [(20, 0)] [] (up (zap h 61 0 400) 20 0 22 1) Q))))))) : WPc 91 164 [(20, 0)] [] h Q := wpS_sound [173] 5 H
theorem c91_173 (h : HP) (Q : Option AV → HP → Prop) (H : ((400 : Int32) = 400 ∧ (¬ (0 : Int32) = -1 ∧ (¬ (h 62 0 (-1)) = 1 ∧ ((h 0 0 0) + 1 ≤ 600000 ∧ ((h 0 0 1) + 400 ≤ 7302250 ∧ ((0 : Int32) = 0 ∧ WPc 91 182 [(20, 0)] [] (up (zap h 62 0 400) 20 0 23 1) Q))))))) : WPc 91 173 [(20, 0)] [] h Q := wpS_sound [182] 5 H
theorem c91_182 (h : HP) (Q : Option AV → HP → Prop) (H : ((400 : Int32) = 400 ∧ (¬ (0 : Int32) = -1 ∧ (¬ (h 63 0 (-1)) = 1 ∧ ((h 0 0 0) + 1 ≤ 600000 ∧ ((h 0 0 1) + 400 ≤ 7302250 ∧ ((0 : Int32) = 0 ∧ WPc 91 191 [(20, 0)] [] (up (zap h 63 0 400) 20 0 24 1) Q))))))) : WPc 91 182 [(20, 0)] [] h Q := wpS_sound [191] 5 H
theorem c91_191 (h : HP) (Q : Option AV → HP → Prop) (H : ((3200 : Int32) = 3200 ∧ (¬ (0 : Int32) = -1 ∧ (¬ (h 64 0 (-1)) = 1 ∧ ((h 0 0 0) + 1 ≤ 600000 ∧ ((h 0 0 1) + 3200 ≤ 7302250 ∧ ((0 : Int32) = 0 ∧ WPc 91 200 [(20, 0)] [] (up (zap h 64 0 3200) 20 0 25 1) Q))))))) : WPc 91 191 [(20, 0)] [] h Q := wpS_sound [200] 5 H
theorem c91_200 (h : HP) (Q : Option AV → HP → Prop) (H : ((400 : Int32) = 400 ∧ (¬ (0 : Int32) = -1 ∧ (¬ (h 65 0 (-1)) = 1 ∧ ((h 0 0 0) + 1 ≤ 600000 ∧ ((h 0 0 1) + 400 ≤ 7302250 ∧ ((0 : Int32) = 0 ∧ WPc 91 209 [(20, 0)] [] (up (zap h 65 0 400) 20 0 26 1) Q))))))) : WPc 91 200 [(20, 0)] [] h Q := wpS_sound [209] 5 H
theorem c91_209 (h : HP) (Q : Option AV → HP → Prop) (H : ((3200 : Int32) = 3200 ∧ (¬ (0 : Int32) = -1 ∧ (¬ (h 66 0 (-1)) = 1 ∧ ((h 0 0 0) + 1 ≤ 600000 ∧ ((h 0 0 1) + 3200 ≤ 7302250 ∧ ((0 : Int32) = 0 ∧ WPc 91 218 [(20, 0)] [] (up (zap h 66 0 3200) 20 0 27 1) Q))))))) : WPc 91 209 [(20, 0)] [] h Q := wpS_sound [218] 5 H
theorem c91_218 (h : HP) (Q : Option AV → HP → Prop) (H : ((900 : Int32) = 900 ∧ (¬ (0 : Int32) = -1 ∧ (¬ (h 67 0 (-1)) = 1 ∧ ((h 0 0 0) + 1 ≤ 600000 ∧ ((h 0 0 1) + 900 ≤ 7302250 ∧ ((0 : Int32) = 0 ∧ WPc 91 227 [(20, 0)] [] (up (zap h 67 0 900) 20 0 29 1) Q))))))) : WPc 91 218 [(20, 0)] [] h Q := wpS_sound [227] 5 H
theorem c91_227 (h : HP) (Q : Option AV → HP → Prop) (H : ((900 : Int32) = 900 ∧ (¬ (0 : Int32) = -1 ∧ (¬ (h 68 0 (-1)) = 1 ∧ ((h 0 0 0) + 1 ≤ 600000 ∧ ((h 0 0 1) + 900 ≤ 7302250 ∧ ((0 : Int32) = 0 ∧ WPc 91 236 [(20, 0)] [] (up (zap h 68 0 900) 20 0 31 1) Q))))))) : WPc 91 227 [(20, 0)] [] h Q := wpS_sound [236] 5 H
theorem c91_236 (h : HP) (Q : Option AV → HP → Prop) (H : WPc 91 241 [(20, 0)] [] (up h 20 0 32 (-1)) Q) : WPc 91 236 [(20, 0)] [] h Q := wpS_sound [241] 4 H
theorem c91_241 (h : HP) (Q : Option AV → HP → Prop) (H : ((4 : Int32) = 4 ∧ (¬ (0 : Int32) = -1 ∧ (¬ (h 69 0 (-1)) = 1 ∧ ((h 0 0 0) + 1 ≤ 600000 ∧ ((h 0 0 1) + 4 ≤ 7302250 ∧ ((0 : Int32) = 0 ∧ WPc 91 248 [(20, 0)] [] (up (zap h 69 0 4) 20 0 35 1) Q))))))) : WPc 91 241 [(20, 0)] [] h Q := wpS_sound [248] 5 H
theorem c91_248 (h : HP) (Q : Option AV → HP → Prop) (H : ((8 : Int32) = 8 ∧ (¬ (0 : Int32) = -1 ∧ (¬ (h 70 0 (-1)) = 1 ∧ ((h 0 0 0) + 1 ≤ 600000 ∧ ((h 0 0 1) + 8 ≤ 7302250 ∧ ((0 : Int32) = 0 ∧ WPc 91 256 [(20, 0)] [] (up (zap h 70 0 8) 20 0 40 1) Q))))))) : WPc 91 248 [(20, 0)] [] h Q := wpS_sound [256] 5 H
theorem c91_256 (h : HP) (Q : Option AV → HP → Prop) (H : ((8 : Int32) = 8 ∧ (¬ (0 : Int32) = -1 ∧ (¬ (h 71 0 (-1)) = 1 ∧ ((h 0 0 0) + 1 ≤ 600000 ∧ ((h 0 0 1) + 8 ≤ 7302250 ∧ ((0 : Int32) = 0 ∧ WPc 91 264 [(20, 0)] [] (up (zap h 71 0 8) 20 0 41 1) Q))))))) : WPc 91 256 [(20, 0)] [] h Q := wpS_sound [264] 5 H
theorem c91_264 (h : HP) (Q : Option AV → HP → Prop) (H : ((8 : Int32) = 8 ∧ (¬ (0 : Int32) = -1 ∧ (¬ (h 72 0 (-1)) = 1 ∧ ((h 0 0 0) + 1 ≤ 600000 ∧ ((h 0 0 1) + 8 ≤ 7302250 ∧ ((0 : Int32) = 0 ∧ WPc 91 272 [(20, 0)] [] (up (zap h 72 0 8) 20 0 42 1) Q))))))) : WPc 91 264 [(20, 0)] [] h Q := wpS_sound [272] 5 H
theorem c91_272 (h : HP) (Q : Option AV → HP → Prop) (H : ((8 : Int32) = 8 ∧ (¬ (0 : Int32) = -1 ∧ (¬ (h 73 0 (-1)) = 1 ∧ ((h 0 0 0) + 1 ≤ 600000 ∧ ((h 0 0 1) + 8 ≤ 7302250 ∧ ((0 : Int32) = 0 ∧ WPc 91 280 [(20, 0)] [] (up (zap h 73 0 8) 20 0 44 1) Q))))))) : WPc 91 272 [(20, 0)] [] h Q := wpS_sound [280] 5 H
theorem c91_280 (h : HP) (Q : Option AV → HP → Prop) (H : ((400 : Int32) = 400 ∧ (¬ (0 : Int32) = -1 ∧ (¬ (h 74 0 (-1)) = 1 ∧ ((h 0 0 0) + 1 ≤ 600000 ∧ ((h 0 0 1) + 400 ≤ 7302250 ∧ ((0 : Int32) = 0 ∧ WPc 91 289 [(20, 0)] [] (up (zap h 74 0 400) 20 0 51 1) Q))))))) : WPc 91 280 [(20, 0)] [] h Q := wpS_sound [289] 5 H
theorem c91_289 (h : HP) (Q : Option AV → HP → Prop) (H : ((3700 : Int32) = 3700 ∧ (¬ (0 : Int32) = -1 ∧ (¬ (h 75 0 (-1)) = 1 ∧ ((h 0 0 0) + 1 ≤ 600000 ∧ ((h 0 0 1) + 3700 ≤ 7302250 ∧ ((0 : Int32) = 0 ∧ WPc 91 298 [(20, 0)] [] (up (zap h 75 0 3700) 20 0 56 1) Q))))))) : WPc 91 289 [(20, 0)] [] h Q := wpS_sound [298] 5 H
theorem c91_298 (h : HP) (Q : Option AV → HP → Prop) (H : ((3700 : Int32) = 3700 ∧ (¬ (0 : Int32) = -1 ∧ (¬ (h 76 0 (-1)) = 1 ∧ ((h 0 0 0) + 1 ≤ 600000 ∧ ((h 0 0 1) + 3700 ≤ 7302250 ∧ ((0 : Int32) = 0 ∧ WPc 91 307 [(20, 0)] [] (up (zap h 76 0 3700) 20 0 57 1) Q))))))) : WPc 91 298 [(20, 0)] [] h Q := wpS_sound [307] 5 H
theorem c91_307 (h : HP) (Q : Option AV → HP → Prop) (H : ((3700 : Int32) = 3700 ∧ (¬ (0 : Int32) = -1 ∧ (¬ (h 77 0 (-1)) = 1 ∧ ((h 0 0 0) + 1 ≤ 600000 ∧ ((h 0 0 1) + 3700 ≤ 7302250 ∧ ((0 : Int32) = 0 ∧ WPc 91 316 [(20, 0)] [] (up (zap h 77 0 3700) 20 0 58 1) Q))))))) : WPc 91 307 [(20, 0)] [] h Q := wpS_sound [316] 5 H
theorem c91_316 (h : HP) (Q : Option AV → HP → Prop) (H : ((3700 : Int32) = 3700 ∧ (¬ (0 : Int32) = -1 ∧ (¬ (h 78 0 (-1)) = 1 ∧ ((h 0 0 0) + 1 ≤ 600000 ∧ ((h 0 0 1) + 3700 ≤ 7302250 ∧ ((0 : Int32) = 0 ∧ WPc 91 325 [(20, 0)] [] (up (zap h 78 0 3700) 20 0 59 1) Q))))))) : WPc 91 316 [(20, 0)] [] h Q := wpS_sound [325] 5 H
theorem c91_325 (h : HP) (Q : Option AV → HP → Prop) (H : ((3700 : Int32) = 3700 ∧ (¬ (0 : Int32) = -1 ∧ (¬ (h 79 0 (-1)) = 1 ∧ ((h 0 0 0) + 1 ≤ 600000 ∧ ((h 0 0 1) + 3700 ≤ 7302250 ∧ ((0 : Int32) = 0 ∧ WPc 91 334 [(20, 0)] [] (up (zap h 79 0 3700) 20 0 60 1) Q))))))) : WPc 91 325 [(20, 0)] [] h Q := wpS_sound [334] 5 H
theorem c91_334 (h : HP) (Q : Option AV → HP → Prop) (H : ((3700 : Int32) = 3700 ∧ (¬ (0 : Int32) = -1 ∧ (¬ (h 80 0 (-1)) = 1 ∧ ((h 0 0 0) + 1 ≤ 600000 ∧ ((h 0 0 1) + 3700 ≤ 7302250 ∧ ((0 : Int32) = 0 ∧ WPc 91 343 [(20, 0)] [] (up (zap h 80 0 3700) 20 0 61 1) Q))))))) : WPc 91 334 [(20, 0)] [] h Q := wpS_sound [343] 5 H
theorem c91_343 (h : HP) (Q : Option AV → HP → Prop) (H : ((3700 : Int32) = 3700 ∧ (¬ (0 : Int32) = -1 ∧ (¬ (h 81 0 (-1)) = 1 ∧ ((h 0 0 0) + 1 ≤ 600000 ∧ ((h 0 0 1) + 3700 ≤ 7302250 ∧ ((0 : Int32) = 0 ∧ WPc 91 352 [(20, 0)] [] (up (zap h 81 0 3700) 20 0 62 1) Q))))))) : WPc 91 343 [(20, 0)] [] h Q := wpS_sound [352] 5 H
theorem c91_352 (h : HP) (Q : Option AV → HP → Prop) (H : ((48 : Int32) = 48 ∧ (¬ (0 : Int32) = -1 ∧ (¬ (h 82 0 (-1)) = 1 ∧ ((h 0 0 0) + 1 ≤ 600000 ∧ ((h 0 0 1) + 48 ≤ 7302250 ∧ ((0 : Int32) = 0 ∧ WPc 91 360 [(20, 0)] [] (up (zap h 82 0 48) 20 0 63 1) Q))))))) : WPc 91 352 [(20, 0)] [] h Q := wpS_sound [360] 5 H
theorem c91_360 (h : HP) (Q : Option AV → HP → Prop) (H : ((12 : Int32) = 12 ∧ (¬ (0 : Int32) = -1 ∧ (¬ (h 83 0 (-1)) = 1 ∧ ((h 0 0 0) + 1 ≤ 600000 ∧ ((h 0 0 1) + 12 ≤ 7302250 ∧ ((0 : Int32) = 0 ∧ WPc 91 368 [(20, 0)] [] (up (zap h 83 0 12) 20 0 64 1) Q))))))) : WPc 91 360 [(20, 0)] [] h Q := wpS_sound [368] 5 H
theorem c91_368 (h : HP) (Q : Option AV → HP → Prop) (H : ((12 : Int32) = 12 ∧ (¬ (0 : Int32) = -1 ∧ (¬ (h 84 0 (-1)) = 1 ∧ ((h 0 0 0) + 1 ≤ 600000 ∧ ((h 0 0 1) + 12 ≤ 7302250 ∧ ((0 : Int32) = 0 ∧ WPc 91 376 [(20, 0)] [] (up (zap h 84 0 12) 20 0 65 1) Q))))))) : WPc 91 368 [(20, 0)] [] h Q := wpS_sound [376] 5 H
theorem c91_376 (h : HP) (Q : Option AV → HP → Prop) (H : Q none h) : WPc 91 376 [(20, 0)] [] h Q := wpS_sound [] 1 H
