/-! 98f: the start: the model -/
theorem GI_all {S : List (Nat × Int32)} {V : VT} {R : List Nat} {a b : Int32} {r : Int32 → Int32 → Int32} {h : HP} (G : GI S V R a b r h) (f : Nat) (x : Int32) (l : List Nat) (key : ∀ k, k ∈ l → (f, x, nI k, (1 : Int32)) ∈ V) : ∀ k, k ∈ l → h f x (nI k) = 1 := fun k hk => (G.2.2.1 _ (key k hk)).2
def SMc : List (Nat × Int32) := [(84, 0), (83, 0), (82, 0), (81, 0), (80, 0), (79, 0), (78, 0), (77, 0), (76, 0), (75, 0), (74, 0), (73, 0), (72, 0), (71, 0), (70, 0), (69, 0), (68, 0), (67, 0), (66, 0), (65, 0), (64, 0), (63, 0), (62, 0), (61, 0), (60, 0), (59, 0), (58, 0), (57, 0), (56, 0), (55, 0), (54, 0), (53, 0), (52, 0), (51, 0), (50, 0), (49, 0), (48, 0), (47, 0), (46, 0), (45, 0), (44, 0), (43, 0), (42, 0)] ++ (20, 0) :: (9, 0) :: SYc
def VMc : VT := [(9, 0, 1, 0), (9, 0, 10, 0), (9, 0, 11, 0), (9, 0, 12, 0), (9, 0, 13, -1), (9, 0, 14, 1), (3, 0, 1, 0), (6, 0, 2, 0), (6, 1, 2, 0), (20, 0, 0, 0), (20, 0, 13, 0), (20, 0, 14, 0), (20, 0, 28, 0), (20, 0, 30, 0), (20, 0, 32, -1), (20, 0, 33, 0), (20, 0, 34, 0)]
theorem g_model (r : Int32 → Int32 → Int32) (h : HP) (Q : Option AV → HP → Prop) (G0 : GI ((20, 0) :: (9, 0) :: SYc) (vZap 20 0 68 (vSlz 19 0 VYc)) [33, 32] 31 5024 r h) (H : ∀ h', ¬ h' 10 0 (-1) = 1 → (∀ k, k ∈ fixL 20 → h' 20 0 (nI k) = 1) → GI SMc VMc ([84, 83, 82, 81, 80, 79, 78, 77, 76, 75, 74, 73, 72, 71, 70, 69, 68, 67, 66, 65, 64, 63, 62, 61, 60, 59, 58, 57, 56, 55, 54, 53, 52, 51, 50, 49, 48, 47, 46, 45, 44, 43, 42] ++ [33, 32]) 74 49384 r h' → Q none h') : WPm 91 [(20, 0)] h Q := by
  refine c91_0 h Q ⟨rfl, by decide, GI_fl G0 (f := 42) (by decide) (by decide) (by decide), (by rw [G0.2.2.2.2.1]; decide), (by rw [G0.2.2.2.2.2]; decide), rfl, ?_⟩
  have G1 := GI_up (GI_row G0 42 12 (by decide) (by decide) (by decide)) 20 0 1 1 (by decide) (by decide) (by decide) (by decide)
  generalize up (zap h 42 0 12) 20 0 1 1 = h1 at G1 ⊢
  clear G0
  refine c91_12 h1 Q ⟨rfl, by decide, GI_fl G1 (f := 43) (by decide) (by decide) (by decide), (by rw [G1.2.2.2.2.1]; decide), (by rw [G1.2.2.2.2.2]; decide), rfl, ?_⟩
  have G2 := GI_up (GI_row G1 43 12 (by decide) (by decide) (by decide)) 20 0 2 1 (by decide) (by decide) (by decide) (by decide)
  generalize up (zap h1 43 0 12) 20 0 2 1 = h2 at G2 ⊢
  clear G1
  refine c91_20 h2 Q ⟨rfl, by decide, GI_fl G2 (f := 44) (by decide) (by decide) (by decide), (by rw [G2.2.2.2.2.1]; decide), (by rw [G2.2.2.2.2.2]; decide), rfl, ?_⟩
  have G3 := GI_up (GI_row G2 44 96 (by decide) (by decide) (by decide)) 20 0 3 1 (by decide) (by decide) (by decide) (by decide)
  generalize up (zap h2 44 0 96) 20 0 3 1 = h3 at G3 ⊢
  clear G2
  refine c91_28 h3 Q ⟨rfl, by decide, GI_fl G3 (f := 45) (by decide) (by decide) (by decide), (by rw [G3.2.2.2.2.1]; decide), (by rw [G3.2.2.2.2.2]; decide), rfl, ?_⟩
  have G4 := GI_up (GI_row G3 45 12 (by decide) (by decide) (by decide)) 20 0 4 1 (by decide) (by decide) (by decide) (by decide)
  generalize up (zap h3 45 0 12) 20 0 4 1 = h4 at G4 ⊢
  clear G3
  refine c91_36 h4 Q ⟨rfl, by decide, GI_fl G4 (f := 46) (by decide) (by decide) (by decide), (by rw [G4.2.2.2.2.1]; decide), (by rw [G4.2.2.2.2.2]; decide), rfl, ?_⟩
  have G5 := GI_up (GI_row G4 46 96 (by decide) (by decide) (by decide)) 20 0 5 1 (by decide) (by decide) (by decide) (by decide)
  generalize up (zap h4 46 0 96) 20 0 5 1 = h5 at G5 ⊢
  clear G4
  refine c91_44 h5 Q ⟨rfl, by decide, GI_fl G5 (f := 47) (by decide) (by decide) (by decide), (by rw [G5.2.2.2.2.1]; decide), (by rw [G5.2.2.2.2.2]; decide), rfl, ?_⟩
  have G6 := GI_up (GI_row G5 47 96 (by decide) (by decide) (by decide)) 20 0 6 1 (by decide) (by decide) (by decide) (by decide)
  generalize up (zap h5 47 0 96) 20 0 6 1 = h6 at G6 ⊢
  clear G5
  refine c91_52 h6 Q ⟨rfl, by decide, GI_fl G6 (f := 48) (by decide) (by decide) (by decide), (by rw [G6.2.2.2.2.1]; decide), (by rw [G6.2.2.2.2.2]; decide), rfl, ?_⟩
  have G7 := GI_up (GI_row G6 48 96 (by decide) (by decide) (by decide)) 20 0 7 1 (by decide) (by decide) (by decide) (by decide)
  generalize up (zap h6 48 0 96) 20 0 7 1 = h7 at G7 ⊢
  clear G6
  refine c91_60 h7 Q ⟨rfl, by decide, GI_fl G7 (f := 49) (by decide) (by decide) (by decide), (by rw [G7.2.2.2.2.1]; decide), (by rw [G7.2.2.2.2.2]; decide), rfl, ?_⟩
  have G8 := GI_up (GI_row G7 49 96 (by decide) (by decide) (by decide)) 20 0 8 1 (by decide) (by decide) (by decide) (by decide)
  generalize up (zap h7 49 0 96) 20 0 8 1 = h8 at G8 ⊢
  clear G7
  refine c91_68 h8 Q ⟨rfl, by decide, GI_fl G8 (f := 50) (by decide) (by decide) (by decide), (by rw [G8.2.2.2.2.1]; decide), (by rw [G8.2.2.2.2.2]; decide), rfl, ?_⟩
  have G9 := GI_up (GI_row G8 50 12 (by decide) (by decide) (by decide)) 20 0 9 1 (by decide) (by decide) (by decide) (by decide)
  generalize up (zap h8 50 0 12) 20 0 9 1 = h9 at G9 ⊢
  clear G8
  refine c91_76 h9 Q ⟨rfl, by decide, GI_fl G9 (f := 51) (by decide) (by decide) (by decide), (by rw [G9.2.2.2.2.1]; decide), (by rw [G9.2.2.2.2.2]; decide), rfl, ?_⟩
  have G10 := GI_up (GI_row G9 51 12 (by decide) (by decide) (by decide)) 20 0 10 1 (by decide) (by decide) (by decide) (by decide)
  generalize up (zap h9 51 0 12) 20 0 10 1 = h10 at G10 ⊢
  clear G9
  refine c91_84 h10 Q ⟨rfl, by decide, GI_fl G10 (f := 52) (by decide) (by decide) (by decide), (by rw [G10.2.2.2.2.1]; decide), (by rw [G10.2.2.2.2.2]; decide), rfl, ?_⟩
  have G11 := GI_up (GI_row G10 52 12 (by decide) (by decide) (by decide)) 20 0 11 1 (by decide) (by decide) (by decide) (by decide)
  generalize up (zap h10 52 0 12) 20 0 11 1 = h11 at G11 ⊢
  clear G10
  refine c91_92 h11 Q ⟨rfl, by decide, GI_fl G11 (f := 53) (by decide) (by decide) (by decide), (by rw [G11.2.2.2.2.1]; decide), (by rw [G11.2.2.2.2.2]; decide), rfl, ?_⟩
  have G12 := GI_up (GI_row G11 53 4800 (by decide) (by decide) (by decide)) 20 0 12 1 (by decide) (by decide) (by decide) (by decide)
  generalize up (zap h11 53 0 4800) 20 0 12 1 = h12 at G12 ⊢
  clear G11
  refine c91_101 h12 Q ⟨rfl, by decide, GI_fl G12 (f := 54) (by decide) (by decide) (by decide), (by rw [G12.2.2.2.2.1]; decide), (by rw [G12.2.2.2.2.2]; decide), rfl, ?_⟩
  have G13 := GI_up (GI_row G12 54 400 (by decide) (by decide) (by decide)) 20 0 15 1 (by decide) (by decide) (by decide) (by decide)
  generalize up (zap h12 54 0 400) 20 0 15 1 = h13 at G13 ⊢
  clear G12
  refine c91_110 h13 Q ⟨rfl, by decide, GI_fl G13 (f := 55) (by decide) (by decide) (by decide), (by rw [G13.2.2.2.2.1]; decide), (by rw [G13.2.2.2.2.2]; decide), rfl, ?_⟩
  have G14 := GI_up (GI_row G13 55 400 (by decide) (by decide) (by decide)) 20 0 16 1 (by decide) (by decide) (by decide) (by decide)
  generalize up (zap h13 55 0 400) 20 0 16 1 = h14 at G14 ⊢
  clear G13
  refine c91_119 h14 Q ⟨rfl, by decide, GI_fl G14 (f := 56) (by decide) (by decide) (by decide), (by rw [G14.2.2.2.2.1]; decide), (by rw [G14.2.2.2.2.2]; decide), rfl, ?_⟩
  have G15 := GI_up (GI_row G14 56 400 (by decide) (by decide) (by decide)) 20 0 17 1 (by decide) (by decide) (by decide) (by decide)
  generalize up (zap h14 56 0 400) 20 0 17 1 = h15 at G15 ⊢
  clear G14
  refine c91_128 h15 Q ⟨rfl, by decide, GI_fl G15 (f := 57) (by decide) (by decide) (by decide), (by rw [G15.2.2.2.2.1]; decide), (by rw [G15.2.2.2.2.2]; decide), rfl, ?_⟩
  have G16 := GI_up (GI_row G15 57 400 (by decide) (by decide) (by decide)) 20 0 18 1 (by decide) (by decide) (by decide) (by decide)
  generalize up (zap h15 57 0 400) 20 0 18 1 = h16 at G16 ⊢
  clear G15
  refine c91_137 h16 Q ⟨rfl, by decide, GI_fl G16 (f := 58) (by decide) (by decide) (by decide), (by rw [G16.2.2.2.2.1]; decide), (by rw [G16.2.2.2.2.2]; decide), rfl, ?_⟩
  have G17 := GI_up (GI_row G16 58 400 (by decide) (by decide) (by decide)) 20 0 19 1 (by decide) (by decide) (by decide) (by decide)
  generalize up (zap h16 58 0 400) 20 0 19 1 = h17 at G17 ⊢
  clear G16
  refine c91_146 h17 Q ⟨rfl, by decide, GI_fl G17 (f := 59) (by decide) (by decide) (by decide), (by rw [G17.2.2.2.2.1]; decide), (by rw [G17.2.2.2.2.2]; decide), rfl, ?_⟩
  have G18 := GI_up (GI_row G17 59 400 (by decide) (by decide) (by decide)) 20 0 20 1 (by decide) (by decide) (by decide) (by decide)
  generalize up (zap h17 59 0 400) 20 0 20 1 = h18 at G18 ⊢
  clear G17
  refine c91_155 h18 Q ⟨rfl, by decide, GI_fl G18 (f := 60) (by decide) (by decide) (by decide), (by rw [G18.2.2.2.2.1]; decide), (by rw [G18.2.2.2.2.2]; decide), rfl, ?_⟩
  have G19 := GI_up (GI_row G18 60 400 (by decide) (by decide) (by decide)) 20 0 21 1 (by decide) (by decide) (by decide) (by decide)
  generalize up (zap h18 60 0 400) 20 0 21 1 = h19 at G19 ⊢
  clear G18
  refine c91_164 h19 Q ⟨rfl, by decide, GI_fl G19 (f := 61) (by decide) (by decide) (by decide), (by rw [G19.2.2.2.2.1]; decide), (by rw [G19.2.2.2.2.2]; decide), rfl, ?_⟩
  have G20 := GI_up (GI_row G19 61 400 (by decide) (by decide) (by decide)) 20 0 22 1 (by decide) (by decide) (by decide) (by decide)
  generalize up (zap h19 61 0 400) 20 0 22 1 = h20 at G20 ⊢
  clear G19
  refine c91_173 h20 Q ⟨rfl, by decide, GI_fl G20 (f := 62) (by decide) (by decide) (by decide), (by rw [G20.2.2.2.2.1]; decide), (by rw [G20.2.2.2.2.2]; decide), rfl, ?_⟩
  have G21 := GI_up (GI_row G20 62 400 (by decide) (by decide) (by decide)) 20 0 23 1 (by decide) (by decide) (by decide) (by decide)
  generalize up (zap h20 62 0 400) 20 0 23 1 = h21 at G21 ⊢
  clear G20
  refine c91_182 h21 Q ⟨rfl, by decide, GI_fl G21 (f := 63) (by decide) (by decide) (by decide), (by rw [G21.2.2.2.2.1]; decide), (by rw [G21.2.2.2.2.2]; decide), rfl, ?_⟩
  have G22 := GI_up (GI_row G21 63 400 (by decide) (by decide) (by decide)) 20 0 24 1 (by decide) (by decide) (by decide) (by decide)
  generalize up (zap h21 63 0 400) 20 0 24 1 = h22 at G22 ⊢
  clear G21
  refine c91_191 h22 Q ⟨rfl, by decide, GI_fl G22 (f := 64) (by decide) (by decide) (by decide), (by rw [G22.2.2.2.2.1]; decide), (by rw [G22.2.2.2.2.2]; decide), rfl, ?_⟩
  have G23 := GI_up (GI_row G22 64 3200 (by decide) (by decide) (by decide)) 20 0 25 1 (by decide) (by decide) (by decide) (by decide)
  generalize up (zap h22 64 0 3200) 20 0 25 1 = h23 at G23 ⊢
  clear G22
  refine c91_200 h23 Q ⟨rfl, by decide, GI_fl G23 (f := 65) (by decide) (by decide) (by decide), (by rw [G23.2.2.2.2.1]; decide), (by rw [G23.2.2.2.2.2]; decide), rfl, ?_⟩
  have G24 := GI_up (GI_row G23 65 400 (by decide) (by decide) (by decide)) 20 0 26 1 (by decide) (by decide) (by decide) (by decide)
  generalize up (zap h23 65 0 400) 20 0 26 1 = h24 at G24 ⊢
  clear G23
  refine c91_209 h24 Q ⟨rfl, by decide, GI_fl G24 (f := 66) (by decide) (by decide) (by decide), (by rw [G24.2.2.2.2.1]; decide), (by rw [G24.2.2.2.2.2]; decide), rfl, ?_⟩
  have G25 := GI_up (GI_row G24 66 3200 (by decide) (by decide) (by decide)) 20 0 27 1 (by decide) (by decide) (by decide) (by decide)
  generalize up (zap h24 66 0 3200) 20 0 27 1 = h25 at G25 ⊢
  clear G24
  refine c91_218 h25 Q ⟨rfl, by decide, GI_fl G25 (f := 67) (by decide) (by decide) (by decide), (by rw [G25.2.2.2.2.1]; decide), (by rw [G25.2.2.2.2.2]; decide), rfl, ?_⟩
  have G26 := GI_up (GI_row G25 67 900 (by decide) (by decide) (by decide)) 20 0 29 1 (by decide) (by decide) (by decide) (by decide)
  generalize up (zap h25 67 0 900) 20 0 29 1 = h26 at G26 ⊢
  clear G25
  refine c91_227 h26 Q ⟨rfl, by decide, GI_fl G26 (f := 68) (by decide) (by decide) (by decide), (by rw [G26.2.2.2.2.1]; decide), (by rw [G26.2.2.2.2.2]; decide), rfl, ?_⟩
  have G27 := GI_up (GI_row G26 68 900 (by decide) (by decide) (by decide)) 20 0 31 1 (by decide) (by decide) (by decide) (by decide)
  generalize up (zap h26 68 0 900) 20 0 31 1 = h27 at G27 ⊢
  clear G26
  refine c91_236 h27 Q ?_
  have G28 := GI_up G27 20 0 32 (-1) (by decide) (by decide) (by decide) (by decide)
  generalize up h27 20 0 32 (-1) = h28 at G28 ⊢
  clear G27
  refine c91_241 h28 Q ⟨rfl, by decide, GI_fl G28 (f := 69) (by decide) (by decide) (by decide), (by rw [G28.2.2.2.2.1]; decide), (by rw [G28.2.2.2.2.2]; decide), rfl, ?_⟩
  have G29 := GI_up (GI_row G28 69 4 (by decide) (by decide) (by decide)) 20 0 35 1 (by decide) (by decide) (by decide) (by decide)
  generalize up (zap h28 69 0 4) 20 0 35 1 = h29 at G29 ⊢
  clear G28
  refine c91_248 h29 Q ⟨rfl, by decide, GI_fl G29 (f := 70) (by decide) (by decide) (by decide), (by rw [G29.2.2.2.2.1]; decide), (by rw [G29.2.2.2.2.2]; decide), rfl, ?_⟩
  have G30 := GI_up (GI_row G29 70 8 (by decide) (by decide) (by decide)) 20 0 40 1 (by decide) (by decide) (by decide) (by decide)
  generalize up (zap h29 70 0 8) 20 0 40 1 = h30 at G30 ⊢
  clear G29
  refine c91_256 h30 Q ⟨rfl, by decide, GI_fl G30 (f := 71) (by decide) (by decide) (by decide), (by rw [G30.2.2.2.2.1]; decide), (by rw [G30.2.2.2.2.2]; decide), rfl, ?_⟩
  have G31 := GI_up (GI_row G30 71 8 (by decide) (by decide) (by decide)) 20 0 41 1 (by decide) (by decide) (by decide) (by decide)
  generalize up (zap h30 71 0 8) 20 0 41 1 = h31 at G31 ⊢
  clear G30
  refine c91_264 h31 Q ⟨rfl, by decide, GI_fl G31 (f := 72) (by decide) (by decide) (by decide), (by rw [G31.2.2.2.2.1]; decide), (by rw [G31.2.2.2.2.2]; decide), rfl, ?_⟩
  have G32 := GI_up (GI_row G31 72 8 (by decide) (by decide) (by decide)) 20 0 42 1 (by decide) (by decide) (by decide) (by decide)
  generalize up (zap h31 72 0 8) 20 0 42 1 = h32 at G32 ⊢
  clear G31
  refine c91_272 h32 Q ⟨rfl, by decide, GI_fl G32 (f := 73) (by decide) (by decide) (by decide), (by rw [G32.2.2.2.2.1]; decide), (by rw [G32.2.2.2.2.2]; decide), rfl, ?_⟩
  have G33 := GI_up (GI_row G32 73 8 (by decide) (by decide) (by decide)) 20 0 44 1 (by decide) (by decide) (by decide) (by decide)
  generalize up (zap h32 73 0 8) 20 0 44 1 = h33 at G33 ⊢
  clear G32
  refine c91_280 h33 Q ⟨rfl, by decide, GI_fl G33 (f := 74) (by decide) (by decide) (by decide), (by rw [G33.2.2.2.2.1]; decide), (by rw [G33.2.2.2.2.2]; decide), rfl, ?_⟩
  have G34 := GI_up (GI_row G33 74 400 (by decide) (by decide) (by decide)) 20 0 51 1 (by decide) (by decide) (by decide) (by decide)
  generalize up (zap h33 74 0 400) 20 0 51 1 = h34 at G34 ⊢
  clear G33
  refine c91_289 h34 Q ⟨rfl, by decide, GI_fl G34 (f := 75) (by decide) (by decide) (by decide), (by rw [G34.2.2.2.2.1]; decide), (by rw [G34.2.2.2.2.2]; decide), rfl, ?_⟩
  have G35 := GI_up (GI_row G34 75 3700 (by decide) (by decide) (by decide)) 20 0 56 1 (by decide) (by decide) (by decide) (by decide)
  generalize up (zap h34 75 0 3700) 20 0 56 1 = h35 at G35 ⊢
  clear G34
  refine c91_298 h35 Q ⟨rfl, by decide, GI_fl G35 (f := 76) (by decide) (by decide) (by decide), (by rw [G35.2.2.2.2.1]; decide), (by rw [G35.2.2.2.2.2]; decide), rfl, ?_⟩
  have G36 := GI_up (GI_row G35 76 3700 (by decide) (by decide) (by decide)) 20 0 57 1 (by decide) (by decide) (by decide) (by decide)
  generalize up (zap h35 76 0 3700) 20 0 57 1 = h36 at G36 ⊢
  clear G35
  refine c91_307 h36 Q ⟨rfl, by decide, GI_fl G36 (f := 77) (by decide) (by decide) (by decide), (by rw [G36.2.2.2.2.1]; decide), (by rw [G36.2.2.2.2.2]; decide), rfl, ?_⟩
  have G37 := GI_up (GI_row G36 77 3700 (by decide) (by decide) (by decide)) 20 0 58 1 (by decide) (by decide) (by decide) (by decide)
  generalize up (zap h36 77 0 3700) 20 0 58 1 = h37 at G37 ⊢
  clear G36
  refine c91_316 h37 Q ⟨rfl, by decide, GI_fl G37 (f := 78) (by decide) (by decide) (by decide), (by rw [G37.2.2.2.2.1]; decide), (by rw [G37.2.2.2.2.2]; decide), rfl, ?_⟩
  have G38 := GI_up (GI_row G37 78 3700 (by decide) (by decide) (by decide)) 20 0 59 1 (by decide) (by decide) (by decide) (by decide)
  generalize up (zap h37 78 0 3700) 20 0 59 1 = h38 at G38 ⊢
  clear G37
  refine c91_325 h38 Q ⟨rfl, by decide, GI_fl G38 (f := 79) (by decide) (by decide) (by decide), (by rw [G38.2.2.2.2.1]; decide), (by rw [G38.2.2.2.2.2]; decide), rfl, ?_⟩
  have G39 := GI_up (GI_row G38 79 3700 (by decide) (by decide) (by decide)) 20 0 60 1 (by decide) (by decide) (by decide) (by decide)
  generalize up (zap h38 79 0 3700) 20 0 60 1 = h39 at G39 ⊢
  clear G38
  refine c91_334 h39 Q ⟨rfl, by decide, GI_fl G39 (f := 80) (by decide) (by decide) (by decide), (by rw [G39.2.2.2.2.1]; decide), (by rw [G39.2.2.2.2.2]; decide), rfl, ?_⟩
  have G40 := GI_up (GI_row G39 80 3700 (by decide) (by decide) (by decide)) 20 0 61 1 (by decide) (by decide) (by decide) (by decide)
  generalize up (zap h39 80 0 3700) 20 0 61 1 = h40 at G40 ⊢
  clear G39
  refine c91_343 h40 Q ⟨rfl, by decide, GI_fl G40 (f := 81) (by decide) (by decide) (by decide), (by rw [G40.2.2.2.2.1]; decide), (by rw [G40.2.2.2.2.2]; decide), rfl, ?_⟩
  have G41 := GI_up (GI_row G40 81 3700 (by decide) (by decide) (by decide)) 20 0 62 1 (by decide) (by decide) (by decide) (by decide)
  generalize up (zap h40 81 0 3700) 20 0 62 1 = h41 at G41 ⊢
  clear G40
  refine c91_352 h41 Q ⟨rfl, by decide, GI_fl G41 (f := 82) (by decide) (by decide) (by decide), (by rw [G41.2.2.2.2.1]; decide), (by rw [G41.2.2.2.2.2]; decide), rfl, ?_⟩
  have G42 := GI_up (GI_row G41 82 48 (by decide) (by decide) (by decide)) 20 0 63 1 (by decide) (by decide) (by decide) (by decide)
  generalize up (zap h41 82 0 48) 20 0 63 1 = h42 at G42 ⊢
  clear G41
  refine c91_360 h42 Q ⟨rfl, by decide, GI_fl G42 (f := 83) (by decide) (by decide) (by decide), (by rw [G42.2.2.2.2.1]; decide), (by rw [G42.2.2.2.2.2]; decide), rfl, ?_⟩
  have G43 := GI_up (GI_row G42 83 12 (by decide) (by decide) (by decide)) 20 0 64 1 (by decide) (by decide) (by decide) (by decide)
  generalize up (zap h42 83 0 12) 20 0 64 1 = h43 at G43 ⊢
  clear G42
  refine c91_368 h43 Q ⟨rfl, by decide, GI_fl G43 (f := 84) (by decide) (by decide) (by decide), (by rw [G43.2.2.2.2.1]; decide), (by rw [G43.2.2.2.2.2]; decide), rfl, ?_⟩
  have G44 := GI_up (GI_row G43 84 12 (by decide) (by decide) (by decide)) 20 0 65 1 (by decide) (by decide) (by decide) (by decide)
  generalize up (zap h43 84 0 12) 20 0 65 1 = h44 at G44 ⊢
  clear G43
  refine c91_376 h44 Q (H h44 (GI_fl G44 (f := 10) (by decide) (by decide) (by decide)) ?_ (GI_sub G44 (by decide +kernel) (by decide +kernel) (by decide) (by decide) (by decide)))
  exact GI_all G44 20 0 (fixL 20) (by decide +kernel)
