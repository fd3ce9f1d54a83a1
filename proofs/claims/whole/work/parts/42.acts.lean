/-! 42: the acts, pure; the model's acts -/
abbrev AT : Type := Nat → Int32 → Int32
abbrev ZT : Type := (Int32 → Int32) × Int32 × Int32
abbrev WK : Type := (Int32 → Int32) × Int32 × Int32 × Int32 × List (Int32 × Int32 × Int32) × List Int32
def oneF (a : AT) (p k m v : Int32) (w : WK) : WK :=
  if a 46 (8 * p + k) = 0 then (vpd w.1 (a 47 (8 * p + k) &&& 3) (w.1 (a 47 (8 * p + k) &&& 3) + (v + a 48 (8 * p + k))), w.2)
  else if a 46 (8 * p + k) = 1 then (vpd w.1 (a 47 (8 * p + k) &&& 3) (w.1 (a 48 (8 * p + k) &&& 3) * a 49 (8 * p + k) + m), w.2)
  else if a 46 (8 * p + k) = 2 then
    (if 1 ≤ a 49 (8 * p + k) then
      (if m + a 49 (8 * p + k) ≤ 100000 then (w.1, w.2.1, w.2.2.1 + 1, 0, w.2.2.2.2.1 ++ [(a 48 (8 * p + k) - a 48 (8 * p + k) / a 10 0 * a 10 0, m + a 49 (8 * p + k), w.1 (a 47 (8 * p + k) &&& 3))], w.2.2.2.2.2)
       else (w.1, w.2.1, w.2.2.1, 6, w.2.2.2.2))
     else (w.1, w.2.1, w.2.2.1, 2, w.2.2.2.2))
  else if a 46 (8 * p + k) = 3 then
    (if a 43 p = 0 then (w.1, w.2.1, w.2.2.1, 1, w.2.2.2.2)
     else if w.2.1 < a 43 p then (vpd w.1 (a 47 (8 * p + k) &&& 3) (a 44 (8 * p + w.2.1)), w.2.1 + 1, w.2.2.1, 0, w.2.2.2.2)
     else (w.1, w.2.1, w.2.2.1, 4, w.2.2.2.2))
  else if a 46 (8 * p + k) = 4 then w
  else if a 46 (8 * p + k) = 5 then (w.1, w.2.1, w.2.2.1, w.2.2.2.1, w.2.2.2.2.1, w.2.2.2.2.2 ++ [w.1 (a 47 (8 * p + k) &&& 3)])
  else if a 46 (8 * p + k) = 6 then
    (if w.1 (a 48 (8 * p + k) &&& 3) = 0 then (w.1, w.2.1, w.2.2.1, 3, w.2.2.2.2)
     else (vpd w.1 (a 47 (8 * p + k) &&& 3) (w.1 (a 47 (8 * p + k) &&& 3) / w.1 (a 48 (8 * p + k) &&& 3)), w.2))
  else if 0 ≤ (w.1 (a 48 (8 * p + k) &&& 3) &&& 15) - 8 then (vpd w.1 (a 47 (8 * p + k) &&& 3) ((w.1 (a 48 (8 * p + k) &&& 3) &&& 15) - 8), w.2.1, w.2.2.1, 0, w.2.2.2.2)
  else (w.1, w.2.1, w.2.2.1, 5, w.2.2.2.2)
def stp (a : AT) (p k : Int32) (w : WK) : Int32 := if a 46 (8 * p + k) = 4 ∧ (w.1 (a 47 (8 * p + k) &&& 3) &&& 1) = 0 then 1 + (a 48 (8 * p + k) &&& 3) else 1
def actsL (a : AT) (p m v : Int32) : Nat → Int32 → WK → WK
  | 0, _, w => w
  | n + 1, k, w => if a 45 p ≤ k then w else if ¬ w.2.2.2.1 = 0 then w else actsL a p m v n (k + stp a p k w) (oneF a p k m v w)
def actsF (a : AT) (p m v : Int32) (z : ZT) : WK := actsL a p m v 8 0 (z.1, z.2.1, z.2.2, 0, [], [])
def stF (w : WK) : ZT := (w.1, w.2.1, w.2.2.1)
def z0 : ZT := (fun _ => 0, 0, 0)
def rpF (a : AT) (p : Int32) (z : ZT) (l : List Int32) : ZT := l.foldl (fun z e => stF (actsF a p (a 55 e) (a 59 e) z)) z
def rp (a : AT) (p : Int32) (l : List Int32) : ZT := rpF a p z0 l
/-- attributes of the model that no scratch holds -/
def atF (f : Nat) (k : Int32) : Bool := (Nat.ble 42 f && Nat.ble f 51) || (Nat.ble 54 f && Nat.ble f 62) || (Nat.beq f 10 && (decide (k = 0) || decide (k = 13) || decide (k = 14) || decide (k = 32) || decide (k = 33) || decide (k = 34)))
def MA (a : AT) (h : HP) : Prop := ∀ f k, atF f k = true → h f 0 k = a f k
/-- rules and rows are within their bounds -/
def RU (a : AT) : Prop := (0 ≤ a 10 0 ∧ a 10 0 ≤ 12) ∧ (∀ p, ina p 12 → (0 ≤ a 43 p ∧ a 43 p ≤ 8) ∧ (0 ≤ a 45 p ∧ a 45 p ≤ 8)) ∧
  ∀ p k, ina p 12 → 0 ≤ k → k < a 45 p → (0 ≤ a 46 (8 * p + k) ∧ a 46 (8 * p + k) ≤ 7) ∧ (0 ≤ a 47 (8 * p + k) ∧ a 47 (8 * p + k) ≤ 15) ∧ (0 ≤ a 48 (8 * p + k) ∧ a 48 (8 * p + k) ≤ 15) ∧ (-3 ≤ a 49 (8 * p + k) ∧ a 49 (8 * p + k) ≤ 20)
def ZM (w : WK) (h : HP) : Prop := (∀ j, ina j 4 → h 69 0 j = w.1 j) ∧ h 10 0 36 = w.2.1 ∧ h 10 0 37 = w.2.2.1 ∧ h 10 0 38 = w.2.2.2.1 ∧
  (h 10 0 39 = nI w.2.2.2.2.1.length ∧ LSq (h 70 0) 0 (w.2.2.2.2.1.map fun q => q.1) ∧ LSq (h 71 0) 0 (w.2.2.2.2.1.map fun q => q.2.1) ∧ LSq (h 72 0) 0 (w.2.2.2.2.1.map fun q => q.2.2)) ∧
  h 10 0 43 = nI w.2.2.2.2.2.length ∧ LSq (h 73 0) 0 w.2.2.2.2.2
theorem upfam {h : HP} {f f' : Nat} {j k v : Int32} (e : ¬ f' = f) : up h f j k v f' = h f' := by
  funext j' k'; unfold up; rw [if_neg fun q => e q.1]
theorem uprow {h : HP} {f : Nat} {j k v : Int32} : up h f j k v f j = vpd (h f j) k v := by
  funext k'; unfold up vpd; simp
theorem and3 (x : Int32) : ina (x &&& 3) 4 := by
  unfold ina
  have h := x.toBitVec
  have e : (x &&& 3).toInt = ((x.toBitVec.toNat &&& 3 : Nat) : Int) := by
    rw [← Int32.toInt_toBitVec, Int32.toBitVec_and, BitVec.toInt_eq_toNat_of_lt]
    · simp
    · simp
      have : x.toBitVec.toNat &&& 3 ≤ 3 := Nat.and_le_right
      omega
  have : x.toBitVec.toNat &&& 3 ≤ 3 := Nat.and_le_right
  constructor
  · rw [Int32.le_iff_toInt_le, e]; simp
  · rw [Int32.lt_iff_toInt_lt, e, show (4 : Int32).toInt = 4 from rfl]; omega
theorem ZM_cell {w : WK} {h : HP} (hZ : ZM w h) (i x : Int32) : ZM (vpd w.1 i x, w.2) (up h 69 0 i x) := by
  obtain ⟨c1, c2, c3, c4, c5, c6, c7⟩ := hZ
  refine ⟨fun j hj => ?_, by simpa [up] using c2, by simpa [up] using c3, by simpa [up] using c4, ?_, by simpa [up] using c6, by rw [upfam (by decide)]; exact c7⟩
  · rw [uprow]
    show vpd (h 69 0) i x j = vpd w.1 i x j
    unfold vpd
    by_cases q : j = i
    · rw [if_pos q, if_pos q]
    · rw [if_neg q, if_neg q]; exact c1 j hj
  · rw [upfam (by decide), upfam (by decide), upfam (by decide), upfam (by decide)]; exact c5
theorem ZM_fail {w : WK} {h : HP} (hZ : ZM w h) (x : Int32) : ZM (w.1, w.2.1, w.2.2.1, x, w.2.2.2.2) (up h 10 0 38 x) := by
  obtain ⟨c1, c2, c3, c4, c5, c6, c7⟩ := hZ
  refine ⟨fun j hj => by rw [upfam (by decide)]; exact c1 j hj, by simpa [up] using c2, by simpa [up] using c3, by simp [up], ⟨by simpa [up] using c5.1, ?_⟩, by simpa [up] using c6, by rw [upfam (by decide)]; exact c7⟩
  · rw [upfam (by decide), upfam (by decide), upfam (by decide)]; exact c5.2
theorem ZM_print {w : WK} {h : HP} (hZ : ZM w h) (ht : w.2.2.2.2.2.length < 8) (x : Int32) : ZM (w.1, w.2.1, w.2.2.1, w.2.2.2.1, w.2.2.2.2.1, w.2.2.2.2.2 ++ [x]) (up (up h 73 0 (h 10 0 43) x) 10 0 43 (h 10 0 43 + 1)) := by
  obtain ⟨c1, c2, c3, c4, c5, c6, c7⟩ := hZ
  refine ⟨fun j hj => by rw [upfam (by decide), upfam (by decide)]; exact c1 j hj, by simpa [up] using c2, by simpa [up] using c3, by simpa [up] using c4, ⟨by simpa [up] using c5.1, ?_⟩, ?_, ?_⟩
  · simp only [upfam (show ¬ 70 = 10 by decide), upfam (show ¬ 70 = 73 by decide), upfam (show ¬ 71 = 10 by decide), upfam (show ¬ 71 = 73 by decide), upfam (show ¬ 72 = 10 by decide), upfam (show ¬ 72 = 73 by decide)]; exact c5.2
  · simp [up, c6, nJ_s]
  · rw [upfam (by decide), uprow, c6]
    have := LSq_snoc (v := x) (by omega) c7
    rwa [Int32.zero_add] at this
theorem ZM_draw {w : WK} {h : HP} (hZ : ZM w h) (i x : Int32) : ZM (vpd w.1 i x, w.2.1 + 1, w.2.2.1, 0, w.2.2.2.2) (up (up (up h 10 0 38 0) 69 0 i x) 10 0 36 (h 10 0 36 + 1)) := by
  have := ZM_cell (ZM_fail hZ 0) i x
  obtain ⟨c1, c2, c3, c4, c5, c6, c7⟩ := this
  refine ⟨fun j hj => by rw [upfam (by decide)]; exact c1 j hj, by simp [up, hZ.2.1], by simpa [up] using c3, by simpa [up] using c4, ⟨by simpa [up] using c5.1, ?_⟩, by simpa [up] using c6, by rw [upfam (by decide)]; exact c7⟩
  · rw [upfam (by decide), upfam (by decide), upfam (by decide)]; exact c5.2
theorem ZM_out {w : WK} {h : HP} (hZ : ZM w h) (ho : w.2.2.2.2.1.length < 8) (t m x : Int32) : ZM (w.1, w.2.1, w.2.2.1 + 1, 0, w.2.2.2.2.1 ++ [(t, m, x)], w.2.2.2.2.2) (up (up (up (up (up (up h 10 0 38 0) 70 0 (h 10 0 39) t) 71 0 (h 10 0 39) m) 72 0 (h 10 0 39) x) 10 0 39 (h 10 0 39 + 1)) 10 0 37 (h 10 0 37 + 1)) := by
  obtain ⟨c1, c2, c3, c4, ⟨c5, c5a, c5b, c5c⟩, c6, c7⟩ := hZ
  refine ⟨fun j hj => ?_, by simpa [up] using c2, by simp [up, c3], by simp [up], ⟨by simp [up, c5, nJ_s], ?_, ?_, ?_⟩, by simpa [up] using c6, ?_⟩
  · rw [upfam (by decide), upfam (by decide), upfam (by decide), upfam (by decide), upfam (by decide), upfam (by decide)]; exact c1 j hj
  · rw [upfam (by decide), upfam (by decide), upfam (by decide), upfam (by decide), uprow, upfam (by decide), c5]
    have := LSq_snoc (v := t) (by rw [List.length_map]; omega) c5a
    rwa [Int32.zero_add, List.length_map, ← List.map_singleton (f := fun q : Int32 × Int32 × Int32 => q.1) (a := (t, m, x)), ← List.map_append] at this
  · rw [upfam (by decide), upfam (by decide), upfam (by decide), uprow, upfam (by decide), upfam (by decide), c5]
    have := LSq_snoc (v := m) (by rw [List.length_map]; omega) c5b
    rwa [Int32.zero_add, List.length_map, ← List.map_singleton (f := fun q : Int32 × Int32 × Int32 => q.2.1) (a := (t, m, x)), ← List.map_append] at this
  · rw [upfam (by decide), upfam (by decide), uprow, upfam (by decide), upfam (by decide), upfam (by decide), c5]
    have := LSq_snoc (v := x) (by rw [List.length_map]; omega) c5c
    rwa [Int32.zero_add, List.length_map, ← List.map_singleton (f := fun q : Int32 × Int32 × Int32 => q.2.2) (a := (t, m, x)), ← List.map_append] at this
  · rw [upfam (by decide), upfam (by decide), upfam (by decide), upfam (by decide), upfam (by decide), upfam (by decide)]; exact c7
theorem nI8 {n : Nat} (h : n < 8) : ina (nI n) 8 := ⟨nJ_nn (by omega), (nJ_lt (b := 8) (by omega) (by omega)).mpr h⟩
theorem s_one (a : AT) (p k m v : Int32) (w : WK) (h : HP) (Q : Option AV → HP → Prop) (hR : RU a) (hA : MA a h) (hZ : ZM w h) (hp : ina p 12) (hn : ¬ a 10 0 = 0) (hk : 0 ≤ k) (hk2 : k < a 45 p)
    (ho : w.2.2.2.2.1.length < 8) (ht : w.2.2.2.2.2.length < 8) (hd : 0 ≤ w.2.1) (H : ∀ h', ag sA h h' → ZM (oneF a p k m v w) h' → Q none h') : WPm 102 [(10, 0), (0, p), (0, 8 * p + k), (0, m), (0, v)] h Q := by
  obtain ⟨c1, c2, c3, c4, ⟨c5, c5a, c5b, c5c⟩, c6, c7⟩ := id hZ
  obtain ⟨r1, r2, r3⟩ := hR
  have e46 := hA 46 (8 * p + k) rfl
  have e47 := hA 47 (8 * p + k) rfl
  have e48 := hA 48 (8 * p + k) rfl
  have e49 := hA 49 (8 * p + k) rfl
  have e10 := hA 10 0 rfl
  have e43 := hA 43 p rfl
  have q1 := r2 p hp
  have q2 := r3 p k hp hk hk2
  have hr : ina (8 * p + k) 96 := by unfold ina at hp ⊢; grind
  have ia := and3 (a 47 (8 * p + k))
  have ib := and3 (a 48 (8 * p + k))
  have d1 := c1 _ ia
  have d2 := c1 _ ib
  refine b102_0 _ _ _ _ h Q ?_
  rw [e46, e47, e48, e49, e10, d1, d2, c6]
  unfold oneF at H
  refine ⟨hr, hr, hr, fun h0 => ⟨ia, ia, ?_⟩, fun h0 => ⟨fun h1 => ⟨ib, hr, ia, ?_⟩, fun h1 => ⟨fun h2 => ⟨hn, hr, ?_⟩, fun h2 => ⟨fun h3 => ?_, fun h3 => ⟨fun h4 => ?_, fun h4 => ⟨fun h5 => ⟨ia, nI8 ht, ?_⟩, fun h5 => ⟨fun h6 => ⟨ib, fun h7 => ⟨ia, ib, h7, ia, ?_⟩, fun h7 => ?_⟩, fun h6 => ⟨fun h7 => ⟨ib, fun h8 => ⟨fun _ => ⟨ia, ?_⟩, fun z => absurd h8 z⟩, fun h8 => ⟨fun z => absurd z h8, fun _ => ⟨ia, ia, ?_⟩⟩⟩, fun h7 => ?_⟩⟩⟩⟩⟩⟩⟩⟩
  · rw [if_pos h0] at H
    exact H _ (ag_up ag_rf rfl) (ZM_cell hZ _ _)
  · rw [if_neg h0, if_pos h1] at H
    exact H _ (ag_up ag_rf rfl) (ZM_cell hZ _ _)
  · rw [if_neg h0, if_neg h1, if_pos h2] at H
    refine s_sends _ _ _ _ h _ ia (by rw [c5]; exact nI8 ho) (fun g1 => ?_) (fun g1 g2 => ?_) (fun g1 g2 => ?_)
    · rw [if_neg g1] at H
      exact b102_138 _ _ _ _ _ _ _ Q (H _ (ag_up ag_rf (by decide)) (ZM_fail hZ _))
    · rw [if_pos g1, if_neg g2] at H
      exact b102_138 _ _ _ _ _ _ _ Q (H _ (ag_up ag_rf (by decide)) (ZM_fail hZ _))
    · rw [if_pos g1, if_pos g2] at H
      refine b102_138 _ _ _ _ _ _ _ Q (H _ (ag_up (ag_up (ag_up (ag_up (ag_up (ag_up ag_rf (by decide)) rfl) rfl) rfl) (by decide)) (by decide)) ?_)
      rw [d1]
      exact ZM_out hZ ho _ _ _
  · rw [if_neg h0, if_neg h1, if_neg h2, if_pos h3] at H
    refine s_draws _ _ h _ hp ia (fun g => ?_) (fun g1 => ?_) (fun g1 g2 => ?_) (fun g1 g2 => ?_)
    · rw [c2, e43] at g
      rw [c2]
      unfold ina at hp ⊢
      grind
    · rw [e43] at g1
      rw [if_pos g1] at H
      exact b102_148 _ _ _ _ _ _ _ Q (H _ (ag_up ag_rf (by decide)) (ZM_fail hZ _))
    · rw [c2, e43] at g2
      rw [e43] at g1
      rw [if_neg g1, if_neg g2] at H
      exact b102_148 _ _ _ _ _ _ _ Q (H _ (ag_up ag_rf (by decide)) (ZM_fail hZ _))
    · rw [c2, e43] at g2
      rw [e43] at g1
      rw [if_neg g1, if_pos g2] at H
      refine b102_148 _ _ _ _ _ _ _ Q (H _ (ag_up (ag_up (ag_up ag_rf (by decide)) rfl) (by decide)) ?_)
      have e44 := hA 44 (8 * p + h 10 0 36) rfl
      rw [e44]
      have := ZM_draw hZ (a 47 (8 * p + k) &&& 3) (a 44 (8 * p + h 10 0 36))
      rw [c2] at this ⊢
      exact this
  · rw [if_neg h0, if_neg h1, if_neg h2, if_neg h3, if_pos h4] at H
    exact H _ ag_rf hZ
  · rw [if_neg h0, if_neg h1, if_neg h2, if_neg h3, if_neg h4, if_pos h5] at H
    have := ZM_print hZ ht (w.1 (a 47 (8 * p + k) &&& 3))
    rw [c6] at this
    exact H _ (ag_up (ag_up ag_rf rfl) (by decide)) this
  · rw [if_neg h0, if_neg h1, if_neg h2, if_neg h3, if_neg h4, if_neg h5, if_pos h6, if_neg h7] at H
    exact H _ (ag_up ag_rf rfl) (ZM_cell hZ _ _)
  · rw [if_neg h0, if_neg h1, if_neg h2, if_neg h3, if_neg h4, if_neg h5, if_pos h6, if_pos h7] at H
    exact H _ (ag_up ag_rf (by decide)) (ZM_fail hZ _)
  · rw [if_neg h0, if_neg h1, if_neg h2, if_neg h3, if_neg h4, if_neg h5, if_neg h6, if_pos h8] at H
    exact H _ (ag_up (ag_up ag_rf (by decide)) rfl) (ZM_cell (ZM_fail hZ _) _ _)
  · rw [if_neg h0, if_neg h1, if_neg h2, if_neg h3, if_neg h4, if_neg h5, if_neg h6, if_neg h8] at H
    refine H _ (ag_up (ag_up ag_rf (by decide)) rfl) ?_
    have := ZM_cell (ZM_fail hZ 5) (a 47 (8 * p + k) &&& 3) (w.1 (a 47 (8 * p + k) &&& 3))
    have u : vpd w.1 (a 47 (8 * p + k) &&& 3) (w.1 (a 47 (8 * p + k) &&& 3)) = w.1 := by
      funext j; unfold vpd; split
      · rename_i q; rw [q]
      · rfl
    simp only [u] at this
    exact this
  · exfalso
    obtain ⟨⟨q3, q4⟩, -⟩ := q2
    grind
theorem atF_S {f : Nat} {k : Int32} (h : atF f k = true) : sS f k = false := by
  simp [atF, sS] at h ⊢
  rcases h with (h | h) | ⟨rfl, h⟩
  · exact ⟨fun a => by omega, fun a => by omega⟩
  · exact ⟨fun a => by omega, fun a => by omega⟩
  · refine ⟨fun a => by omega, fun _ => ?_⟩
    rcases h with ((((h | h) | h) | h) | h) | h <;> rw [h] <;> decide
theorem MA_ag {a : AT} {h h' : HP} (hA : MA a h) (g : ag sS h h') : MA a h' := fun f k z => (g f 0 k (atF_S z)).trans (hA f k z)
theorem ag_AS {h h' : HP} (g : ag sA h h') : ag sS h h' := ag_mono g fun _ _ => sA_S
theorem ag_FS {h h' : HP} (g : ag sF h h') : ag sS h h' := ag_mono g fun _ _ => sF_S
theorem ag_SM {h h' : HP} (g : ag sS h h') : ag sM h h' := ag_mono g fun _ _ => sS_M
/-- what one act does to the lengths and to how many were drawn -/
theorem oneF_b {a : AT} {p k m v : Int32} {w : WK} (hR : RU a) (hp : ina p 12) (hd : 0 ≤ w.2.1 ∧ w.2.1 ≤ 8) :
    (oneF a p k m v w).2.2.2.2.1.length ≤ w.2.2.2.2.1.length + 1 ∧ (oneF a p k m v w).2.2.2.2.2.length ≤ w.2.2.2.2.2.length + 1 ∧ 0 ≤ (oneF a p k m v w).2.1 ∧ (oneF a p k m v w).2.1 ≤ 8 := by
  have q1 := hR.2.1 p hp
  unfold oneF
  repeat' split
  all_goals first
    | (refine ⟨by simp, by simp, hd.1, hd.2⟩; done)
    | (refine ⟨by simp, by simp, ?_, ?_⟩ <;> grind)
theorem stpN (a : AT) (p k : Int32) (w : WK) : ∃ s : Nat, stp a p k w = nI s ∧ 1 ≤ s ∧ s ≤ 4 := by
  unfold stp
  split
  · obtain ⟨n, e, hn⟩ := nJ_exlt (N := 4) (by decide) (and3 (a 48 (8 * p + k))).1 (and3 (a 48 (8 * p + k))).2
    refine ⟨n + 1, ?_, by omega, by omega⟩
    rw [e, nJ_s, Int32.add_comm]
  · exact ⟨1, rfl, by omega, by omega⟩
theorem s_actsL (a : AT) (p m v : Int32) (Q : Option AV → HP → Prop) (hR : RU a) (hp : ina p 12) (hn : ¬ a 10 0 = 0) : ∀ (n kk : Nat) (w : WK) (h : HP), 8 ≤ kk + n → kk ≤ 12 → MA a h → ZM w h → w.2.2.2.2.1.length ≤ kk → w.2.2.2.2.2.length ≤ kk → (0 ≤ w.2.1 ∧ w.2.1 ≤ 8) →
    (∀ h', ag sA h h' → ZM (actsL a p m v n (nI kk) w) h' → Q none h') → WPc 101 18 [(10, 0), (0, p), (0, m), (0, v), (0, nI kk), (500, 0), (500, 0)] [] h Q := by
  intro n
  induction n with
  | zero =>
    intro kk w h h1 h1b hA hZ ho ht hd H
    have q1 := (hR.2.1 p hp).2
    have hk : nI 8 ≤ nI kk := (nJ_le (by omega) (by omega)).mpr (by omega)
    have hk' : a 45 p ≤ nI kk := Int32.le_trans q1.2 hk
    refine b101_18 _ _ _ _ h Q ⟨hp, fun _ => H h ag_rf hZ, fun z => absurd ?_ z⟩
    rw [hA 45 p rfl]; exact hk'
  | succ n ih =>
    intro kk w h h1 h1b hA hZ ho ht hd H
    have q1 := (hR.2.1 p hp).2
    have e45 := hA 45 p rfl
    unfold actsL at H
    refine b101_18 _ _ _ _ h Q ⟨hp, fun z => ?_, fun z => ⟨fun z2 => ?_, fun z2 => ?_⟩⟩
    · rw [e45] at z
      rw [if_pos z] at H
      exact H h ag_rf hZ
    · rw [e45] at z
      rw [hZ.2.2.2.1] at z2
      rw [if_neg z, if_pos z2] at H
      exact H h ag_rf hZ
    · rw [e45] at z
      rw [hZ.2.2.2.1] at z2
      rw [if_neg z, if_neg (fun q => q z2)] at H
      have hlt : nI kk < a 45 p := by grind
      have hk0 : 0 ≤ nI kk := nJ_nn (by omega)
      have hk8 : kk < 8 := by
        have : nI kk < nI 8 := Int32.lt_of_lt_of_le hlt q1.2
        exact (nJ_lt (by omega) (by omega)).mp this
      have hr : ina (8 * p + nI kk) 96 := by unfold ina at hp ⊢; grind
      have ia := and3 (a 47 (8 * p + nI kk))
      have bb := oneF_b (k := nI kk) (m := m) (v := v) (w := w) hR hp hd
      have e46 := hA 46 (8 * p + nI kk) rfl
      have e47 := hA 47 (8 * p + nI kk) rfl
      obtain ⟨s, hs, hs1, hs2⟩ := stpN a p (nI kk) w
      have next : ∀ h', ag sA h h' → ZM (oneF a p (nI kk) m v w) h' → WPc 101 18 [(10, 0), (0, p), (0, m), (0, v), (0, nI kk + stp a p (nI kk) w), (500, 0), (500, 0)] [] h' Q := by
        intro h' g z'
        rw [hs, ← nJ_add]
        refine ih (kk + s) _ h' (by omega) (by omega) (MA_ag hA (ag_AS g)) z' (by omega) (by omega) bb.2.2 fun h'' g2 z3 => H h'' (ag_tr g g2) ?_
        rw [hs, ← nJ_add]; exact z3
      have one := fun (Q' : Option AV → HP → Prop) => s_one a p (nI kk) m v w h Q' hR hA hZ hp hn hk0 hlt (by omega) (by omega) hd.1
      rw [e46, e47, hZ.1 _ ia]
      refine ⟨hr, fun z4 => one _ fun h' g z' => ?_, fun z4 => ⟨hr, ia, fun z5 => one _ fun h' g z' => ?_, fun z5 => one _ fun h' g z' => ?_⟩⟩
      · refine b101_91 _ _ _ _ _ _ h' Q ⟨fun _ => ?_, fun z => absurd rfl z⟩
        have := next h' g z'
        rwa [stp, if_neg (fun q => z4 q.1)] at this
      · refine b101_91 _ _ _ _ _ _ h' Q ⟨fun _ => ?_, fun z => absurd rfl z⟩
        have := next h' g z'
        rwa [stp, if_neg (fun q => z5 q.2)] at this
      · refine b101_91 _ _ _ _ _ _ h' Q ⟨fun z => absurd z (by decide), fun _ => ⟨hr, ?_⟩⟩
        have := next h' g z'
        rw [stp, if_pos ⟨z4, z5⟩] at this
        rw [MA_ag hA (ag_AS g) 48 _ rfl]
        exact this
/-- the state that a part has: the model's cells hold it -/
def ZS (z : ZT) (h : HP) : Prop := (∀ j, ina j 4 → h 69 0 j = z.1 j) ∧ h 10 0 36 = z.2.1 ∧ h 10 0 37 = z.2.2
theorem ZM_S {w : WK} {h : HP} (hZ : ZM w h) : ZS (stF w) h := ⟨hZ.1, hZ.2.1, hZ.2.2.1⟩
theorem s_acts (a : AT) (p m v : Int32) (z : ZT) (h : HP) (Q : Option AV → HP → Prop) (hR : RU a) (hA : MA a h) (hp : ina p 12) (hn : ¬ a 10 0 = 0) (hZ : ZS z h) (hd : 0 ≤ z.2.1 ∧ z.2.1 ≤ 8)
    (H : ∀ h', ag sA h h' → ZM (actsF a p m v z) h' → Q none h') : WPm 101 [(10, 0), (0, p), (0, m), (0, v)] h Q := by
  have g : ag sA h (up (up (up h 10 0 38 0) 10 0 39 0) 10 0 43 0) := ag_up (ag_up (ag_up ag_rf (by decide)) (by decide)) (by decide)
  refine b101_0 _ _ _ h Q (s_actsL a p m v Q hR hp hn 8 0 (z.1, z.2.1, z.2.2, 0, [], []) _ (by omega) (by omega) (MA_ag hA (ag_AS g)) ?_ (by simp) (by simp) hd fun h' g2 z' => H h' (ag_tr g g2) z')
  exact ⟨fun j hj => hZ.1 j hj, hZ.2.1, hZ.2.2, rfl, ⟨rfl, trivial, trivial, trivial⟩, rfl, trivial⟩
theorem actsL_b {a : AT} {p m v : Int32} (hR : RU a) (hp : ina p 12) : ∀ (n kk : Nat) (w : WK), kk ≤ 12 → w.2.2.2.2.1.length ≤ min kk 8 → w.2.2.2.2.2.length ≤ min kk 8 → (0 ≤ w.2.1 ∧ w.2.1 ≤ 8) →
    (actsL a p m v n (nI kk) w).2.2.2.2.1.length ≤ 8 ∧ (actsL a p m v n (nI kk) w).2.2.2.2.2.length ≤ 8 ∧ 0 ≤ (actsL a p m v n (nI kk) w).2.1 ∧ (actsL a p m v n (nI kk) w).2.1 ≤ 8 := by
  intro n
  induction n with
  | zero => intro kk w h1 ho ht hd; exact ⟨by simp only [actsL]; omega, by simp only [actsL]; omega, hd.1, hd.2⟩
  | succ n ih =>
    intro kk w h1 ho ht hd
    unfold actsL
    split
    · exact ⟨by omega, by omega, hd.1, hd.2⟩
    · split
      · exact ⟨by omega, by omega, hd.1, hd.2⟩
      · rename_i z _
        have q1 := (hR.2.1 p hp).2
        have hlt : nI kk < a 45 p := by grind
        have hk8 : kk < 8 := by
          have : nI kk < nI 8 := Int32.lt_of_lt_of_le hlt q1.2
          exact (nJ_lt (by omega) (by omega)).mp this
        obtain ⟨s, hs, hs1, hs2⟩ := stpN a p (nI kk) w
        have bb := oneF_b (k := nI kk) (m := m) (v := v) (w := w) hR hp hd
        rw [hs, ← nJ_add]
        exact ih (kk + s) _ (by omega) (by omega) (by omega) bb.2.2
theorem actsF_b {a : AT} {p m v : Int32} {z : ZT} (hR : RU a) (hp : ina p 12) (hd : 0 ≤ z.2.1 ∧ z.2.1 ≤ 8) :
    (actsF a p m v z).2.2.2.2.1.length ≤ 8 ∧ (actsF a p m v z).2.2.2.2.2.length ≤ 8 ∧ 0 ≤ (actsF a p m v z).2.1 ∧ (actsF a p m v z).2.1 ≤ 8 :=
  actsL_b hR hp 8 0 (z.1, z.2.1, z.2.2, 0, [], []) (by omega) (by simp) (by simp) hd
