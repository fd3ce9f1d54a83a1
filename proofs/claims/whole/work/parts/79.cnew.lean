/-! 79: the class: new states, new events -/
theorem zap_row {h : HP} {f : Nat} {j n k : Int32} : zap h f j n f j k = if k = -1 then 1 else dfl f k := by unfold zap; rw [if_pos ⟨rfl, rfl⟩]
theorem zap_n {h : HP} {f : Nat} {j n : Int32} {f' : Nat} {j' k' : Int32} (e : ¬ (f' = f ∧ j' = j)) (z : ¬ (f' = 0 ∧ j' = 0)) : zap h f j n f' j' k' = h f' j' k' := by
  unfold zap
  rw [if_neg e, if_neg (fun q => z ⟨q.1, q.2.1⟩), if_neg (fun q => z ⟨q.1, q.2.1⟩)]
theorem zap_00 {h : HP} {f : Nat} {j n : Int32} (hf : ¬ 0 = f) : zap h f j n 0 0 0 = h 0 0 0 + 1 ∧ zap h f j n 0 0 1 = h 0 0 1 + n := by
  unfold zap
  constructor
  · rw [if_neg (fun q => hf q.1), if_pos ⟨rfl, rfl, rfl⟩]
  · rw [if_neg (fun q => hf q.1), if_neg (by decide), if_pos ⟨rfl, rfl, rfl⟩]
theorem slz_fin {h : HP} {f g : Nat} {j k : Int32} (e : g + 10 = f) : slz h f j g j k = h f j k := by unfold slz; rw [if_pos ⟨e, rfl⟩]
theorem slz_n {h : HP} {f g : Nat} {j j' k : Int32} (e : ¬ (g + 10 = f ∧ j' = j)) (e2 : ¬ (g = f ∧ j' = j)) : slz h f j g j' k = h g j' k := by unfold slz; rw [if_neg e, if_neg e2]
theorem slz_raw {h : HP} {f : Nat} {j k : Int32} : slz h f j f j k = 0 := by
  unfold slz
  rw [if_neg (fun q => by omega), if_pos ⟨rfl, rfl⟩]
def nS (s : Int32) (h : HP) : HP := slz (up (zap (zap h 18 s 3) 39 s 4) 18 s 0 1) 18 s
theorem nS_n {s : Int32} {h : HP} {f : Nat} {x k : Int32} (e1 : ¬ (f = 8 ∧ x = s)) (e2 : ¬ (f = 18 ∧ x = s)) (e3 : ¬ (f = 39 ∧ x = s)) (e4 : ¬ (f = 0 ∧ x = 0)) : nS s h f x k = h f x k := by
  unfold nS
  rw [slz_n (fun q => e1 ⟨by omega, q.2⟩) e2, up_n (fun q => e2 ⟨q.1, q.2.1⟩), zap_n e3 e4, zap_n e2 e4]
theorem nS_0 {s : Int32} {h : HP} : nS s h 0 0 0 = h 0 0 0 + 1 + 1 ∧ nS s h 0 0 1 = h 0 0 1 + 3 + 4 := by
  unfold nS
  constructor
  · rw [slz_n (by omega) (by omega), upfam (by decide), (zap_00 (by decide)).1, (zap_00 (by decide)).1]
  · rw [slz_n (by omega) (by omega), upfam (by decide), (zap_00 (by decide)).2, (zap_00 (by decide)).2]
theorem nS_CZ {s : Int32} {h : HP} : CZ z0 s (nS s h) := by
  unfold nS
  refine ⟨fun i hi => ?_, ?_, ?_⟩
  · rw [slz_n (by omega) (by omega), upfam (by decide), zap_row, if_neg (ina_n1 hi)]; rfl
  · rw [slz_fin (by decide), up_n (by simp), zap_n (by simp) (by simp), zap_row, if_neg (by decide)]; rfl
  · rw [slz_fin (by decide), up_n (by simp), zap_n (by simp) (by simp), zap_row, if_neg (by decide)]; rfl
theorem nS_fl {s : Int32} {h : HP} : nS s h 18 s (-1) = 0 ∧ nS s h 8 s (-1) = 1 ∧ nS s h 39 s (-1) = 1 := by
  unfold nS
  refine ⟨slz_raw, ?_, ?_⟩
  · rw [slz_fin (by decide), up_n (by simp), zap_n (by simp) (by simp), zap_row, if_pos rfl]
  · rw [slz_n (by omega) (by omega), upfam (by decide), zap_row, if_pos rfl]
/-- room is left -/
def RoL (h : HP) : Prop := 0 ≤ (h 0 0 0).toInt ∧ (h 0 0 0).toInt ≤ 100000 ∧ 0 ≤ (h 0 0 1).toInt ∧ (h 0 0 1).toInt ≤ 1000000
theorem RoL_le {h : HP} (r : RoL h) : h 0 0 0 + 1 ≤ 600000 ∧ h 0 0 0 + 1 + 1 ≤ 600000 ∧ ∀ a : Int32, 0 ≤ a → a ≤ 10000 → h 0 0 1 + a ≤ 7302250 := by
  obtain ⟨r1, r2, r3, r4⟩ := r
  have e1 : (1 : Int32).toInt = 1 := rfl
  refine ⟨?_, ?_, fun a h1 h2 => ?_⟩
  · rw [Int32.le_iff_toInt_le, Int32.toInt_add, e1, show (600000 : Int32).toInt = 600000 from rfl, Int.bmod_eq_of_le (by omega) (by omega)]; omega
  · rw [Int32.le_iff_toInt_le, Int32.toInt_add, Int32.toInt_add, e1, show (600000 : Int32).toInt = 600000 from rfl, Int.bmod_eq_of_le (n := (h 0 0 0).toInt + 1) (by omega) (by omega), Int.bmod_eq_of_le (by omega) (by omega)]; omega
  · have b1 := Int32.le_iff_toInt_le.mp h1
    have b2 := Int32.le_iff_toInt_le.mp h2
    have e0 : (0 : Int32).toInt = 0 := rfl
    have e2 : (10000 : Int32).toInt = 10000 := rfl
    rw [Int32.le_iff_toInt_le, Int32.toInt_add, show (7302250 : Int32).toInt = 7302250 from rfl, Int.bmod_eq_of_le (by omega) (by omega)]; omega
theorem s_newState (s : Int32) (h : HP) (K : HP → Prop) (hs : ¬ s = -1) (f : f3 s h) (r : RoL h) (H : K (nS s h)) :
    ¬ s = -1 ∧ (¬ (h 18 s (-1)) = 1 ∧ ((h 0 0 0) + 1 ≤ 600000 ∧ ((h 0 0 1) + 3 ≤ 7302250 ∧ (s = s ∧ WPm 32 [(18, s)] (zap h 18 s 3) (fun w h' => w = none ∧ slzOK h' 18 s (K (slz h' 18 s))))))) := by
  have rl := RoL_le r
  refine ⟨hs, f.1, rl.1, rl.2.2 3 (by decide) (by decide), rfl, b32_0 _ _ _ ⟨rfl, hs, ?_, ?_, ?_, rfl, rfl, ?_⟩⟩
  · rw [zap_n (by simp) (by simp)]; exact f.2.2
  · rw [(zap_00 (by decide)).1]; exact rl.2.1
  · rw [(zap_00 (by decide)).2]
    have := rl.2.2 (3 + 4) (by decide) (by decide)
    rw [show h 0 0 1 + 3 + 4 = h 0 0 1 + (3 + 4) by grind]; exact this
  · refine ⟨?_, ?_, H⟩
    · show ¬ (up (zap (zap h 18 s 3) 39 s 4) 18 s 0 1) 8 s (-1) = 1
      rw [upfam (by decide), zap_n (by simp) (by simp), zap_n (by simp) (by simp)]; exact f.2.1
    · show (up (zap (zap h 18 s 3) 39 s 4) 18 s 0 1) 18 s 0 = 1
      exact up_at
def nV (e x : Int32) (h : HP) : HP := slz (up (up (zap (up (up (zap h 12 e 16) 12 e 7 3) 12 e 8 0) 25 e 8) 12 e 10 1) 12 e 0 x) 12 e
theorem nV_n {e y : Int32} {h : HP} {f : Nat} {x k : Int32} (e1 : ¬ (f = 2 ∧ x = e)) (e2 : ¬ (f = 12 ∧ x = e)) (e3 : ¬ (f = 25 ∧ x = e)) (e4 : ¬ (f = 0 ∧ x = 0)) : nV e y h f x k = h f x k := by
  unfold nV
  rw [slz_n (fun q => e1 ⟨by omega, q.2⟩) e2, up_n (fun q => e2 ⟨q.1, q.2.1⟩), up_n (fun q => e2 ⟨q.1, q.2.1⟩), zap_n e3 e4, up_n (fun q => e2 ⟨q.1, q.2.1⟩), up_n (fun q => e2 ⟨q.1, q.2.1⟩), zap_n e2 e4]
theorem nV_0 {e y : Int32} {h : HP} : nV e y h 0 0 0 = h 0 0 0 + 1 + 1 ∧ nV e y h 0 0 1 = h 0 0 1 + 16 + 8 := by
  unfold nV
  constructor
  · rw [slz_n (by omega) (by omega), upfam (by decide), upfam (by decide), (zap_00 (by decide)).1, upfam (by decide), upfam (by decide), (zap_00 (by decide)).1]
  · rw [slz_n (by omega) (by omega), upfam (by decide), upfam (by decide), (zap_00 (by decide)).2, upfam (by decide), upfam (by decide), (zap_00 (by decide)).2]
theorem nV_2 {e y : Int32} {h : HP} : nV e y h 2 e 0 = y ∧ nV e y h 2 e 7 = 3 ∧ nV e y h 2 e 8 = 0 ∧ nV e y h 2 e 9 = 0 ∧ nV e y h 2 e 11 = 0 ∧ nV e y h 2 e 13 = 0 ∧ nV e y h 2 e 14 = -1 ∧ nV e y h 2 e 15 = 0 ∧ nV e y h 2 e (-1) = 1 := by
  have base : ∀ k, ¬ k = 0 → ¬ k = 10 → nV e y h 2 e k = (up (up (zap h 12 e 16) 12 e 7 3) 12 e 8 0) 12 e k := fun k h1 h2 => by
    unfold nV
    rw [slz_fin (by decide), up_n (fun q => h1 q.2.2), up_n (fun q => h2 q.2.2), zap_n (by simp) (by simp)]
  have z : ∀ k, ¬ k = 0 → ¬ k = 10 → ¬ k = 7 → ¬ k = 8 → ¬ k = -1 → nV e y h 2 e k = dfl 12 k := fun k h1 h2 h3 h4 h5 => by
    rw [base k h1 h2, up_n (fun q => h4 q.2.2), up_n (fun q => h3 q.2.2), zap_row, if_neg h5]
  refine ⟨?_, ?_, ?_, ?_, ?_, ?_, ?_, ?_, ?_⟩
  · unfold nV; rw [slz_fin (by decide), up_at]
  · rw [base 7 (by decide) (by decide), up_n (by simp), up_at]
  · rw [base 8 (by decide) (by decide), up_at]
  · rw [z 9 (by decide) (by decide) (by decide) (by decide) (by decide)]; rfl
  · rw [z 11 (by decide) (by decide) (by decide) (by decide) (by decide)]; rfl
  · rw [z 13 (by decide) (by decide) (by decide) (by decide) (by decide)]; rfl
  · rw [z 14 (by decide) (by decide) (by decide) (by decide) (by decide)]; rfl
  · rw [z 15 (by decide) (by decide) (by decide) (by decide) (by decide)]; rfl
  · rw [base (-1) (by decide) (by decide), up_n (by simp), up_n (by simp), zap_row, if_pos rfl]
theorem nV_fl {e y : Int32} {h : HP} : nV e y h 12 e (-1) = 0 := by unfold nV; exact slz_raw
theorem s_newEvent (e x : Int32) (h : HP) (K : HP → Prop) (he : ¬ e = -1) (f : fE e h) (r : RoL h) (H : K (nV e x h)) :
    ¬ e = -1 ∧ (¬ (h 12 e (-1)) = 1 ∧ ((h 0 0 0) + 1 ≤ 600000 ∧ ((h 0 0 1) + 16 ≤ 7302250 ∧ (e = e ∧ WPm 7 [(12, e), (0, x)] (zap h 12 e 16) (fun w h' => w = none ∧ slzOK h' 12 e (K (slz h' 12 e))))))) := by
  have rl := RoL_le r
  refine ⟨he, f.1, rl.1, rl.2.2 16 (by decide) (by decide), rfl, b7_0 _ _ _ _ ⟨rfl, he, ?_, ?_, ?_, rfl, rfl, ?_⟩⟩
  · rw [zap_n (by simp) (by simp)]; exact f.2.2
  · rw [(zap_00 (by decide)).1]; exact rl.2.1
  · rw [(zap_00 (by decide)).2]
    have := rl.2.2 (16 + 8) (by decide) (by decide)
    rw [show h 0 0 1 + 16 + 8 = h 0 0 1 + (16 + 8) by grind]; exact this
  · refine ⟨?_, ?_, H⟩
    · show ¬ (up (up (zap (up (up (zap h 12 e 16) 12 e 7 3) 12 e 8 0) 25 e 8) 12 e 10 1) 12 e 0 x) 2 e (-1) = 1
      rw [upfam (by decide), upfam (by decide), zap_n (by simp) (by simp), upfam (by decide), upfam (by decide), zap_n (by simp) (by simp)]; exact f.2.1
    · show (up (up (zap (up (up (zap h 12 e 16) 12 e 7 3) 12 e 8 0) 25 e 8) 12 e 10 1) 12 e 0 x) 12 e 10 = 1
      rw [up_n (by simp), up_at]
theorem rng_flt (n : Nat) (p : Nat → Bool) : ((List.range n).filter p).length ≤ n := by
  have := List.length_filter_le p (List.range n)
  simpa using this
theorem RM_RL {A : SY} {h : HP} (r : RM A h) (h1 : 0 ≤ nE A ∧ nE A ≤ 400) (h2 : 0 ≤ nP A ∧ nP A ≤ 12) : RoL h := by
  have a1 : (ahN A h : Int) ≤ 400 := by
    have := rng_flt (nE A).toNatClampNeg fun n => !decide (h 2 (nI n) 14 = -1)
    obtain ⟨N, e, hN⟩ := nJ_exlt (N := 401) (by decide) h1.1 (Int32.lt_of_le_of_lt h1.2 (by decide))
    have e2 : (nE A).toNatClampNeg = N := by rw [e]; exact Int32.toNatClampNeg_ofNat_of_lt (by omega)
    unfold ahN
    omega
  have a2 : (poN h : Int) ≤ 400 := by
    have := rng_flt 400 fun n => !decide (h 33 0 (nI n) = -1)
    unfold poN; omega
  have a3 : (soN h : Int) ≤ 12 := by
    have := rng_flt 12 fun n => !decide (h 32 0 (nI n) = -1)
    unfold soN; omega
  have b1 := Int32.le_iff_toInt_le.mp h1.2
  have b2 := Int32.le_iff_toInt_le.mp h2.2
  have e4 : (400 : Int32).toInt = 400 := rfl
  have e12 : (12 : Int32).toInt = 12 := rfl
  unfold RM at r
  unfold RoL
  omega
