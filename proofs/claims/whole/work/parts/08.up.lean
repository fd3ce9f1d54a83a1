/-! what stores, makings and closings do to the relation -/
theorem cT {b : Bool} {A : Prop} (H : bif b then A else False) : b = true ∧ A := by
  cases b with
  | true => exact ⟨rfl, H⟩
  | false => exact H.elim
theorem beq0 {v : AV} (h : Nat.beq v.1 0 = true) : v = (0, v.2) := Prod.ext (Nat.eq_of_beq_eq_true h) rfl
theorem i1_spec {st : List AV} {K : Int32 → List AV → Prop} (H : i1 st K) : ∃ x r, st = (0, x) :: r ∧ K x r := by
  match st, H with
  | v :: r, H =>
    obtain ⟨h1, h2⟩ := cT H
    exact ⟨v.2, r, by rw [beq0 h1], h2⟩
theorem ii_spec {st : List AV} {K : Int32 → Int32 → List AV → Prop} (H : ii st K) : ∃ x y r, st = (0, y) :: (0, x) :: r ∧ K x y r := by
  match st, H with
  | v :: w :: r, H =>
    obtain ⟨h1, h2⟩ := cT H
    rw [Bool.and_eq_true] at h1
    exact ⟨w.2, v.2, r, by rw [beq0 h1.1, beq0 h1.2], h2⟩
theorem raw0 : rawTag 0 = false := by decide +kernel
theorem fam_lt {f : Nat} (h : 1 ≤ (famT f).1) : f < 86 := by
  by_cases hf : f < 86
  · exact hf
  · exfalso
    unfold famT at h
    have : Nat.blt f 86 = false := by
      cases hb : Nat.blt f 86 with
      | false => rfl
      | true => exact absurd (Nat.le_of_ble_eq_true hb) hf
    rw [this] at h
    exact absurd (show 1 ≤ 0 from h) (by decide)
/-- what the tables are, by computation -/
def fOK (f : Nat) : Bool := Nat.ble (famT f).2.2 4800 && Nat.ble (famT f).1 4 &&
  (!(Nat.beq (famT f).1 1 || Nat.beq (famT f).1 2) || (decide ((vwCl[(famT f).2.1]?).map (fun q => (q.1, q.2.2)) = some (ownS (famT f).2.1, (famT f).2.2)) && Nat.ble (famT f).2.1 9)) &&
  (!Nat.beq (famT f).1 2 || (Nat.beq f ((f - 10) + 10) && Nat.beq (famT (f - 10)).1 1 && Nat.beq (famT (f - 10)).2.1 (famT f).2.1 && Nat.beq (famT (f - 10)).2.2 (famT f).2.2)) &&
  (!Nat.beq (famT f).1 3 || Nat.ble (famT f).2.1 4)
def sOK (f k : Nat) : Bool := match styT f k with
  | (0, _, _) => Nat.beq (famT f).1 3 && Nat.beq (famT f).2.1 0 || !Nat.beq (famT f).1 3 && decide (parseFieldDescriptor (clT (famT f).2.1 k).2.2.1 = some .int)
  | (1, _, _) => Nat.beq (famT f).1 3 && Nat.beq (famT f).2.1 1 || !Nat.beq (famT f).1 3 && decide (parseFieldDescriptor (clT (famT f).2.1 k).2.2.1 = some .boolean)
  | (t, f', o) => (Nat.beq t 2 || Nat.beq t 3 || Nat.beq t 4 || Nat.beq t 5 || Nat.beq t 6) && (Nat.beq (famT f').1 1 || Nat.beq (famT f').1 3) && !Nat.beq f' 0 &&
    (!Nat.beq t 3 || nulT f') && (!(Nat.beq t 2 || Nat.beq t 5) || Nat.beq (famT f).1 1) && (!(Nat.beq t 4 || Nat.beq t 6) || Nat.beq (famT f).1 2 && !Nat.beq f' (f - 10) && (fixL f).contains k) &&
    (Nat.beq (famT f).1 3 && Nat.beq t 3 && Nat.ble 2 (famT f).2.1 && Nat.beq (famT f').1 1 && Nat.beq (famT f').2.1 (bif Nat.beq (famT f).2.1 2 then 1 else bif Nat.beq (famT f).2.1 3 then 3 else 7) || !Nat.beq (famT f).1 3 && (match parseFieldDescriptor (clT (famT f).2.1 k).2.2.1 with
      | some (.object _) => true
      | some (.array _) => true
      | _ => false))
def rOK (f k : Nat) : Bool := !Nat.beq (famT f).1 2 || (match styT f k with
  | (4, f', o) => decide (styT (f - 10) k = (2, f', o))
  | (6, f', o) => decide (styT (f - 10) k = (5, f', o))
  | q => decide (styT (f - 10) k = q))
theorem fOK_all : ((List.range 86).all fOK) = true := by decide +kernel
theorem sOK_all : ((List.range 86).all fun f => !(Nat.ble 1 (famT f).1 && Nat.ble (famT f).1 3) || (bif Nat.beq (famT f).1 3 then sOK f 0 else (List.range (famT f).2.2).all fun k => sOK f k && rOK f k)) = true := by decide +kernel
theorem fOK_at {f : Nat} (h : 1 ≤ (famT f).1) : fOK f = true := List.all_eq_true.mp fOK_all f (List.mem_range.mpr (fam_lt h))
theorem arr_rng : ∀ f, f < 86 → (famT f).1 = 3 → 21 ≤ f ∧ f ≤ 84 := by decide +kernel
theorem styT_arr {f : Nat} (h : (famT f).1 = 3) (k : Nat) : styT f k = styT f 0 := by
  obtain ⟨h1, h2⟩ := arr_rng f (fam_lt (by omega)) h
  match f, h1, h2 with
  | 21, _, _ => rfl
  | 22, _, _ => rfl
  | 23, _, _ => rfl
  | 24, _, _ => rfl
  | 25, _, _ => rfl
  | 26, _, _ => rfl
  | 27, _, _ => rfl
  | 28, _, _ => rfl
  | 29, _, _ => rfl
  | 30, _, _ => rfl
  | 31, _, _ => rfl
  | 32, _, _ => rfl
  | 33, _, _ => rfl
  | 34, _, _ => rfl
  | 35, _, _ => rfl
  | 36, _, _ => rfl
  | 37, _, _ => rfl
  | 38, _, _ => rfl
  | 39, _, _ => rfl
  | 40, _, _ => rfl
  | 41, _, _ => rfl
  | 42, _, _ => rfl
  | 43, _, _ => rfl
  | 44, _, _ => rfl
  | 45, _, _ => rfl
  | 46, _, _ => rfl
  | 47, _, _ => rfl
  | 48, _, _ => rfl
  | 49, _, _ => rfl
  | 50, _, _ => rfl
  | 51, _, _ => rfl
  | 52, _, _ => rfl
  | 53, _, _ => rfl
  | 54, _, _ => rfl
  | 55, _, _ => rfl
  | 56, _, _ => rfl
  | 57, _, _ => rfl
  | 58, _, _ => rfl
  | 59, _, _ => rfl
  | 60, _, _ => rfl
  | 61, _, _ => rfl
  | 62, _, _ => rfl
  | 63, _, _ => rfl
  | 64, _, _ => rfl
  | 65, _, _ => rfl
  | 66, _, _ => rfl
  | 67, _, _ => rfl
  | 68, _, _ => rfl
  | 69, _, _ => rfl
  | 70, _, _ => rfl
  | 71, _, _ => rfl
  | 72, _, _ => rfl
  | 73, _, _ => rfl
  | 74, _, _ => rfl
  | 75, _, _ => rfl
  | 76, _, _ => rfl
  | 77, _, _ => rfl
  | 78, _, _ => rfl
  | 79, _, _ => rfl
  | 80, _, _ => rfl
  | 81, _, _ => rfl
  | 82, _, _ => rfl
  | 83, _, _ => rfl
  | 84, _, _ => rfl
  | n + 85, _, h => omega
theorem sOK_at {f k : Nat} (h1 : 1 ≤ (famT f).1) (h2 : (famT f).1 ≤ 3) (hk : k < (famT f).2.2) : (sOK f k = true ∧ ((famT f).1 ≤ 2 → rOK f k = true)) := by
  have h := List.all_eq_true.mp sOK_all f (List.mem_range.mpr (fam_lt h1))
  have e1 : (Nat.ble 1 (famT f).1 && Nat.ble (famT f).1 3) = true := by simp [Nat.ble_eq, h1, h2]
  rw [e1] at h
  simp only [Bool.not_true, Bool.false_or] at h
  by_cases h3 : (famT f).1 = 3
  · have e2 : Nat.beq (famT f).1 3 = true := by rw [h3]; rfl
    rw [e2] at h
    refine ⟨?_, fun z => by omega⟩
    have : sOK f k = sOK f 0 := by
      unfold sOK
      rw [styT_arr h3 k, h3]
      simp [show Nat.beq 3 2 = false from rfl]
    rw [this]
    exact h
  · have e2 : Nat.beq (famT f).1 3 = false := by
      cases hb : Nat.beq (famT f).1 3 with
      | false => rfl
      | true => exact absurd (Nat.eq_of_beq_eq_true hb) h3
    rw [e2] at h
    have h4 := List.all_eq_true.mp h k (List.mem_range.mpr hk)
    rw [Bool.and_eq_true] at h4
    exact ⟨h4.1, fun _ => h4.2⟩
theorem n_small {f : Nat} (h : 1 ≤ (famT f).1) : (famT f).2.2 ≤ 4800 := by
  have := fOK_at h
  simp only [fOK, Bool.and_eq_true] at this
  exact Nat.le_of_ble_eq_true this.1.1.1.1
theorem nI_ne_neg {k : Nat} (h : k < 2 ^ 31) : ¬ nI k = -1 := by
  intro e
  have h1 := nI_toInt h
  rw [e] at h1
  have h2 : ((-1 : Int32)).toInt = -1 := by decide
  omega
theorem nI_ne_neg2 {k : Nat} (h : k < 2 ^ 31) : ¬ nI k = -2 := by
  intro e
  have h1 := nI_toInt h
  rw [e] at h1
  have h2 : ((-2 : Int32)).toInt = -2 := by decide
  omega
theorem up_same (h : HP) (f : Nat) (j k v : Int32) : up h f j k v f j k = v := by simp [up]
theorem up_fam {h : HP} {f f' : Nat} {j k v j' k' : Int32} (e : f' ≠ f) : up h f j k v f' j' k' = h f' j' k' := by simp [up, e]
theorem up_idx {h : HP} {f f' : Nat} {j k v j' k' : Int32} (e : ¬ (f' = f ∧ j' = j)) : up h f j k v f' j' k' = h f' j' k' := by
  unfold up
  rw [if_neg fun q => e ⟨q.1, q.2.1⟩]
theorem up_slot {h : HP} {f f' : Nat} {j k v j' k' : Int32} (e : k' ≠ k) : up h f j k v f' j' k' = h f' j' k' := by simp [up, e]
theorem sv_congr {ad : AD} {h h' : HP} {f : Nat} {j : Int32} {k : Nat} (e : h' f j (nI k) = h f j (nI k)) : sv ad h' f j k = sv ad h f j k := by
  unfold sv
  rw [e]
theorem slotV_congr {h h' : HP} {f : Nat} {j : Int32} {k : Nat} (hf : ∀ f j, fl h f j → fl h' f j) (e : h' f j (nI k) = h f j (nI k)) (q : slotV h f j k) : slotV h' f j k := by
  unfold slotV at *
  rw [e]
  split at q
  · exact hf _ _ q
  · exact hf _ _ q
  · rcases q with q | q | q | q
    · exact Or.inl q
    · exact Or.inr (Or.inl (hf _ _ q))
    · exact Or.inr (Or.inr (Or.inl q))
    · exact Or.inr (Or.inr (Or.inr q))
  · exact fun z => hf _ _ (q z)
  · exact fun z => hf _ _ (q z)
  · trivial
theorem cellOK_kept {P : PM} {ad ad' : AD} {h h' : HP} {H H' : Heap} {f : Nat} {j : Int32} (q : cellOK P ad h H f j) (ha : ad' f j = ad f j) (hH : H'[ad f j]? = H[ad f j]?) (hs : ∀ k, k < (famT f).2.2 → sv ad' h' f j k = sv ad h f j k) : cellOK P ad' h' H' f j := by
  refine ⟨fun z => ?_, fun z => ?_⟩
  · rw [ha]
    exact ((q.1 z).kept hH).to fun k hk => (hs k hk).symm
  · rw [ha, hH, q.2 z]
    congr 1
    unfold arrV
    congr 2
    funext i
    exact (hs i.val i.isLt).symm
theorem Rel_up {P : PM} {ad : AD} {h : HP} {H H' : Heap} (r : Rel P ad h H) {f : Nat} {j x : Int32} {k : Nat} (q : fl h f j) (hk : k < (famT f).2.2) (hz : H'.size = H.size) (ho : ∀ q : Nat, q ≠ ad f j → H'[q]? = H[q]?) (hss : ss (pB P) H' = ss (pB P) H)
    (hc : cellOK P ad (up h f j (nI k) x) H' f j) (hv : slotV (up h f j (nI k) x) f j k) : Rel P ad (up h f j (nI k) x) H' := by
  obtain ⟨r1, r2, r3, r4, r5, r6, r7, r8, r9⟩ := r
  have hn := n_small q.2.1
  have hk1 : ¬ (-1 : Int32) = nI k := fun e => nI_ne_neg (by omega) e.symm
  have hk2 : ¬ (-2 : Int32) = nI k := fun e => nI_ne_neg2 (by omega) e.symm
  have hfl : ∀ f' j', fl (up h f j (nI k) x) f' j' ↔ fl h f' j' := fun f' j' => by
    unfold fl
    rw [up_slot hk1]
  have hf0 := fl_ne0 q
  have hf85 := fl_ne85 q
  refine ⟨by rw [hz]; exact r1, fun a ha => ?_, ?_, ?_, by rw [hz]; exact r5, by rw [hss]; exact r6, fun f' j' q' => ?_, fun f1 j1 f2 j2 q1 q2 => r8 f1 j1 f2 j2 ((hfl _ _).mp q1) ((hfl _ _).mp q2), ?_⟩
  · rw [ho a (fun e => ?_)]
    · exact r2 a ha
    · have := (r7 f j q).2.1
      omega
  · rw [up_fam (Ne.symm hf0), hz]
    exact r3
  · rw [up_fam (Ne.symm hf0), hss]
    exact r4
  · have q' := (hfl _ _).mp q'
    obtain ⟨g1, g2, g3, g4, g5⟩ := r7 f' j' q'
    by_cases e : f' = f ∧ j' = j
    · obtain ⟨rfl, rfl⟩ := e
      refine ⟨hc, g2, by rw [hz]; exact g3, g4, fun k' hk' => ?_⟩
      by_cases ek : k' = k
      · subst ek
        exact hv
      · refine slotV_congr (fun _ _ => (hfl _ _).mpr) (up_slot fun z => ek ?_) (g5 k' hk')
        exact (nI_eq (by omega) (by omega)).mp z
    · refine ⟨cellOK_kept g1 rfl (ho _ fun z => e ?_) (fun k' _ => sv_congr (up_idx e)), g2, by rw [hz]; exact g3, g4, fun k' hk' => slotV_congr (fun _ _ => (hfl _ _).mpr) (up_idx e) (g5 k' hk')⟩
      exact r8 _ _ _ _ q' q z
  · refine ⟨by rw [up_fam (Ne.symm hf85)]; exact r9.1, fun i hi => by rw [up_fam (Ne.symm hf85)]; exact r9.2.1 i hi, r9.2.2⟩
theorem Ext_up {h0 h : HP} {ad0 ad : AD} {f : Nat} {j x : Int32} {k : Nat} (x0 : Ext h0 ad0 h ad) (hk : k < 2 ^ 31) : Ext h0 ad0 (up h f j (nI k) x) ad := by
  refine ⟨fun f' j' q => ?_, x0.2⟩
  obtain ⟨a, b⟩ := x0.1 f' j' q
  refine ⟨⟨?_, a.2⟩, b⟩
  rw [up_slot fun e => nI_ne_neg hk e.symm]
  exact a.1
theorem vd_up {h : HP} {f : Nat} {j x : Int32} {k : Nat} (hk : k < 2 ^ 31) {v : AV} (q : vd h v) : vd (up h f j (nI k) x) v := by
  rcases q with q | q | q | q
  · exact Or.inl q
  · refine Or.inr (Or.inl ⟨?_, q.2⟩)
    rw [up_slot fun e => nI_ne_neg hk e.symm]
    exact q.1
  · exact Or.inr (Or.inr (Or.inl q))
  · exact Or.inr (Or.inr (Or.inr q))
/-- a new cell -/
def adN (ad : AD) (f : Nat) (j : Int32) (a : Nat) : AD := fun f' j' => if f' = f ∧ j' = j then a else ad f' j'
theorem zap_same (h : HP) (f : Nat) (j n k : Int32) : zap h f j n f j k = if k = -1 then 1 else dfl f k := by simp [zap]
theorem zap_other {h : HP} {f f' : Nat} {j n j' k' : Int32} (e : ¬ (f' = f ∧ j' = j)) (e0 : f' ≠ 0) : zap h f j n f' j' k' = h f' j' k' := by
  unfold zap
  rw [if_neg e, if_neg fun q => e0 q.1, if_neg fun q => e0 q.1]
def dvS (f k : Nat) : Value := bif Nat.ble (styT f k).1 1 then .int 0 else .null
theorem nI_cl {k : Nat} (h : k < 2 ^ 31) : (nI k).toNatClampNeg = k := nI_clamp h
theorem i32_add1 {a : Int32} {n : Int} (h : a.toInt = n) (h0 : 0 ≤ n) (h1 : n ≤ 600000) : (a + 1).toInt = n + 1 := by
  rw [Int32.toInt_add, h, show (1 : Int32).toInt = 1 from by decide]
  rw [Int.bmod_eq_of_le] <;> omega
theorem i32_addn {a : Int32} {n : Int} {m : Nat} (h : a.toInt = n) (h0 : 0 ≤ n) (h1 : n ≤ 7302250) (hm : m ≤ 4800) : (a + nI m).toInt = n + m := by
  rw [Int32.toInt_add, h, nI_toInt (by omega)]
  rw [Int.bmod_eq_of_le] <;> omega
theorem Rel_new {P : PM} {ad : AD} {h : HP} {H H' : Heap} (r : Rel P ad h H) {f : Nat} {j : Int32} (hf : (famT f).1 = 2 ∨ (famT f).1 = 3) (hj : ¬ j = -1) (hfr : ¬ h f j (-1) = 1) (hz : H'.size = H.size + 1) (ho : ∀ q : Nat, q < H.size → H'[q]? = H[q]?)
    (hss : ss (pB P) H' = ss (pB P) H + (famT f).2.2) (hc1 : (famT f).1 = 2 → t_OB H.size (pC P (famT f).2.1) (famT f).2.2 (pI P (famT f).2.1) H' (dvS f)) (hc2 : (famT f).1 = 3 → H'[H.size]? = some (arrV (pT P (famT f).2.1) (famT f).2.2 (dvS f)))
    (hrm : h 0 0 0 + 1 ≤ 600000) (hrs : h 0 0 1 + nI (famT f).2.2 ≤ 7302250) :
    Rel P (adN ad f j H.size) (zap h f j (nI (famT f).2.2)) H' ∧ Ext h ad (zap h f j (nI (famT f).2.2)) (adN ad f j H.size) ∧ fl (zap h f j (nI (famT f).2.2)) f j := by
  obtain ⟨r1, r2, r3, r4, r5, r6, r7, r8, r9⟩ := r
  have h1 : 1 ≤ (famT f).1 := by omega
  have hn := n_small h1
  have hf0 : f ≠ 0 := by
    intro e
    subst e
    rw [fam0] at h1
    exact absurd h1 (by decide)
  have hf85 : f ≠ 85 := by
    intro e
    subst e
    rw [fam85] at hf
    revert hf
    decide
  have key : ∀ f' j', fl h f' j' → ¬ (f' = f ∧ j' = j) := by
    rintro f' j' q ⟨rfl, rfl⟩
    exact hfr q.1
  have hflN : fl (zap h f j (nI (famT f).2.2)) f j := ⟨by rw [zap_same, if_pos rfl], h1, by omega⟩
  have hfl1 : ∀ f' j', fl h f' j' → fl (zap h f j (nI (famT f).2.2)) f' j' := fun f' j' q => ⟨by rw [zap_other (key _ _ q) (fl_ne0 q)]; exact q.1, q.2⟩
  have hfl2 : ∀ f' j', fl (zap h f j (nI (famT f).2.2)) f' j' → ¬ (f' = f ∧ j' = j) → fl h f' j' := fun f' j' q e => ⟨by have z := q.1; rw [zap_other e (fl_ne0 q)] at z; exact z, q.2⟩
  have had : ∀ f' j', fl h f' j' → adN ad f j H.size f' j' = ad f' j' := fun f' j' q => if_neg (key _ _ q)
  have hE : Ext h ad (zap h f j (nI (famT f).2.2)) (adN ad f j H.size) := ⟨fun f' j' q => ⟨hfl1 _ _ q, had _ _ q⟩, if_neg fun q => hf85 q.1.symm⟩
  have hA : adN ad f j H.size f j = H.size := if_pos ⟨rfl, rfl⟩
  refine ⟨⟨by omega, fun q hq => (ho q (by omega)).trans (r2 q hq), ?_, ?_, ?_, ?_, fun f' j' q => ?_, ?_, ?_⟩, hE, hflN⟩
  · have e1 : zap h f j (nI (famT f).2.2) 0 0 0 = h 0 0 0 + 1 := by simp [zap, Ne.symm hf0]
    rw [e1, i32_add1 r3 (by omega) (by omega), hz]
    omega
  · have e1 : zap h f j (nI (famT f).2.2) 0 0 1 = h 0 0 1 + nI (famT f).2.2 := by
      simp [zap, Ne.symm hf0]
    rw [e1, i32_addn r4 (by omega) (by omega) hn, hss]
    omega
  · have := Int32.le_iff_toInt_le.mp hrm
    rw [i32_add1 r3 (by omega) (by omega), show (600000 : Int32).toInt = 600000 from by decide] at this
    omega
  · have := Int32.le_iff_toInt_le.mp hrs
    rw [i32_addn r4 (by omega) (by omega) hn, show (7302250 : Int32).toInt = 7302250 from by decide] at this
    omega
  · by_cases e : f' = f ∧ j' = j
    · obtain ⟨rfl, rfl⟩ := e
      have hsv : ∀ k, k < (famT f').2.2 → sv (adN ad f' j' H.size) (zap h f' j' (nI (famT f').2.2)) f' j' k = dvS f' k := by
        intro k hk
        have ok := (sOK_at h1 (by omega) hk).1
        have e1 : zap h f' j' (nI (famT f').2.2) f' j' (nI k) = dfl f' (nI k) := by rw [zap_same, if_neg (nI_ne_neg (by omega))]
        unfold sv dvS
        rw [e1]
        unfold dfl
        rw [nI_cl (by omega)]
        unfold sOK at ok
        rcases hs : styT f' k with ⟨t, f2, o⟩
        rw [hs] at ok
        match t, ok with
        | 0, _ => rfl
        | 1, _ => rfl
        | 3, ok =>
          simp only [Bool.and_eq_true] at ok
          have hne : Nat.beq f2 0 = false := by simpa using ok.1.1.1.1.2
          show cv (adN ad f' j' H.size) (f2, _) = _
          unfold cv
          rw [hne]
          rfl
        | 4, ok => rfl
        | 6, ok => rfl
        | 2, ok =>
          exfalso
          simp only [Bool.and_eq_true] at ok
          have : Nat.beq (famT f').1 1 = true := by simpa using ok.1.1.2
          have := Nat.eq_of_beq_eq_true this
          omega
        | 5, ok =>
          exfalso
          simp only [Bool.and_eq_true] at ok
          have : Nat.beq (famT f').1 1 = true := by simpa using ok.1.1.2
          have := Nat.eq_of_beq_eq_true this
          omega
        | n + 7, ok =>
          exfalso
          simp at ok
      refine ⟨⟨fun z => ?_, fun z => ?_⟩, by rw [hA]; exact r1, by rw [hA]; omega, hj, fun k hk => ?_⟩
      · rw [hA]
        exact (hc1 (by omega)).to fun k hk => (hsv k hk).symm
      · rw [hA, hc2 z]
        congr 1
        unfold arrV
        congr 2
        funext i
        exact (hsv i.val i.isLt).symm
      · have ok := (sOK_at h1 (by omega) hk).1
        have e1 : zap h f' j' (nI (famT f').2.2) f' j' (nI k) = dfl f' (nI k) := by rw [zap_same, if_neg (nI_ne_neg (by omega))]
        unfold slotV
        rw [e1]
        unfold dfl
        rw [nI_cl (by omega)]
        unfold sOK at ok
        rcases hs : styT f' k with ⟨t, f2, o⟩
        rw [hs] at ok
        match t, ok with
        | 0, _ => trivial
        | 1, _ => trivial
        | 3, ok =>
          simp only [Bool.and_eq_true] at ok
          have hnu : nulT f2 = true := by simpa using ok.1.1.1.2
          exact Or.inr (Or.inr (Or.inl ⟨hnu, rfl⟩))
        | 4, ok => exact fun (z : (0 : Int32) = 1) => absurd z (by decide)
        | 6, ok => exact fun (z : (0 : Int32) = 1) => absurd z (by decide)
        | 2, ok =>
          exfalso
          simp only [Bool.and_eq_true] at ok
          have : Nat.beq (famT f').1 1 = true := by simpa using ok.1.1.2
          have := Nat.eq_of_beq_eq_true this
          omega
        | 5, ok =>
          exfalso
          simp only [Bool.and_eq_true] at ok
          have : Nat.beq (famT f').1 1 = true := by simpa using ok.1.1.2
          have := Nat.eq_of_beq_eq_true this
          omega
        | n + 7, ok => trivial
    · have q0 := hfl2 _ _ q e
      obtain ⟨g1, g2, g3, g4, g5⟩ := r7 f' j' q0
      refine ⟨cellOK_kept g1 (had _ _ q0) (ho _ g3) (fun k hk => ?_), by rw [had _ _ q0]; exact g2, by rw [had _ _ q0]; omega, g4, fun k hk => slotV_congr hfl1 (zap_other e (fl_ne0 q0)) (g5 k hk)⟩
      have hv := g5 k hk
      unfold sv
      rw [zap_other e (fl_ne0 q0)]
      unfold slotV at hv
      rcases hs : styT f' k with ⟨t, f2, o⟩
      rw [hs] at hv
      match t, hv with
      | 0, _ => rfl
      | 1, _ => rfl
      | 2, hv => show Value.ref _ = Value.ref _; rw [had _ _ hv]
      | 5, hv => show Value.ref _ = Value.ref _; rw [had _ _ hv]
      | 3, hv => exact cv_ext hE hv
      | 4, hv =>
        show (if _ then _ else _) = (if _ then _ else _)
        split
        · rename_i z
          rw [had _ _ (hv z)]
        · rfl
      | 6, hv =>
        show (if _ then _ else _) = (if _ then _ else _)
        split
        · rename_i z
          rw [had _ _ (hv z)]
        · rfl
      | n + 7, hv => rfl
  · intro f1 j1 f2 j2 q1 q2 e
    by_cases e1 : f1 = f ∧ j1 = j <;> by_cases e2 : f2 = f ∧ j2 = j
    · exact ⟨e1.1.trans e2.1.symm, e1.2.trans e2.2.symm⟩
    · exfalso
      have q2 := hfl2 _ _ q2 e2
      rw [had _ _ q2, e1.1, e1.2, hA] at e
      have := (r7 _ _ q2).2.2.1
      omega
    · exfalso
      have q1 := hfl2 _ _ q1 e1
      rw [had _ _ q1, e2.1, e2.2, hA] at e
      have := (r7 _ _ q1).2.2.1
      omega
    · have q1 := hfl2 _ _ q1 e1
      have q2 := hfl2 _ _ q2 e2
      rw [had _ _ q1, had _ _ q2] at e
      exact r8 _ _ _ _ q1 q2 e
  · have e85 : ∀ i, zap h f j (nI (famT f).2.2) 85 0 i = h 85 0 i := fun i => zap_other (fun q => hf85 q.1.symm) (by decide)
    refine ⟨by rw [e85]; exact r9.1, fun i hi => by rw [e85]; exact r9.2.1 i hi, ?_⟩
    show (if _ then _ else _) = _
    rw [if_neg fun q => hf85 q.1.symm]
    exact r9.2.2
theorem sOK_ref {f k t f' : Nat} {o : Int32} (ok : sOK f k = true) (hs : styT f k = (t, f', o)) (ht : 2 ≤ t) : (t ≤ 6) ∧ ((famT f').1 = 1 ∨ (famT f').1 = 3) ∧ f' ≠ 0 ∧ (t = 3 → nulT f' = true) ∧ (t = 2 ∨ t = 5 → (famT f).1 = 1) ∧ (t = 4 ∨ t = 6 → (famT f).1 = 2 ∧ f' ≠ f - 10 ∧ k ∈ fixL f) := by
  unfold sOK at ok
  rw [hs] at ok
  match t, ht, ok with
  | n + 2, _, ok =>
    simp only [Bool.and_eq_true, Bool.or_eq_true, Bool.not_eq_true', Nat.beq_eq] at ok
    obtain ⟨⟨⟨⟨⟨⟨a1, a2⟩, a3⟩, a4⟩, a5⟩, a6⟩, -⟩ := ok
    refine ⟨by omega, a2, ?_, fun z => ?_, fun z => ?_, fun z => ?_⟩
    · intro e
      rw [e] at a3
      exact absurd a3 (by decide)
    · rcases a4 with a4 | a4
      · rw [z] at a4
        exact absurd a4 (by decide)
      · exact a4
    · rcases a5 with a5 | a5
      · rcases z with z | z <;> (rw [z] at a5; exact absurd a5 (by decide))
      · exact a5
    · rcases a6 with a6 | ⟨⟨b1, b2⟩, b3⟩
      · rcases z with z | z <;> (rw [z] at a6; exact absurd a6 (by decide))
      · refine ⟨b1, fun e => ?_, by simpa using b3⟩
        rw [e] at b2
        simp at b2
theorem slotV_congr' {h h' : HP} {f : Nat} {j : Int32} {k : Nat} (ok : sOK f k = true) (hf : ∀ f j, (famT f).1 ≠ 2 → fl h f j → fl h' f j) (e : h' f j (nI k) = h f j (nI k)) (q : slotV h f j k) : slotV h' f j k := by
  unfold slotV at *
  rw [e]
  rcases hs : styT f k with ⟨t, f', o⟩
  rw [hs] at q
  have hr : 2 ≤ t → (famT f').1 ≠ 2 := fun z => by
    have := (sOK_ref ok hs z).2.1
    omega
  match t, q, hr with
  | 0, _, _ => trivial
  | 1, _, _ => trivial
  | 2, q, hr => exact hf _ _ (hr (by omega)) q
  | 5, q, hr => exact hf _ _ (hr (by omega)) q
  | 3, q, hr =>
    rcases q with q | q | q | q
    · exact Or.inl q
    · exact Or.inr (Or.inl (hf _ _ (hr (by omega)) q))
    · exact Or.inr (Or.inr (Or.inl q))
    · exact Or.inr (Or.inr (Or.inr q))
  | 4, q, hr => exact fun z => hf _ _ (hr (by omega)) (q z)
  | 6, q, hr => exact fun z => hf _ _ (hr (by omega)) (q z)
  | n + 7, _, _ => trivial
theorem sv_ad {ad ad' : AD} {h : HP} {f : Nat} {j : Int32} {k : Nat} (ha : ∀ f j, fl h f j → ad' f j = ad f j) (h85 : ad' 85 0 = ad 85 0) (hv : slotV h f j k) : sv ad' h f j k = sv ad h f j k := by
  unfold sv
  unfold slotV at hv
  rcases hs : styT f k with ⟨t, f2, o⟩
  rw [hs] at hv
  match t, hv with
  | 0, _ => rfl
  | 1, _ => rfl
  | 2, hv => show Value.ref _ = Value.ref _; rw [ha _ _ hv]
  | 5, hv => show Value.ref _ = Value.ref _; rw [ha _ _ hv]
  | 3, hv => exact cv_ext (h0 := h) (h := h) ⟨fun f j q => ⟨q, ha f j q⟩, h85⟩ hv
  | 4, hv =>
    show (if _ then _ else _) = (if _ then _ else _)
    split
    · rename_i z
      rw [ha _ _ (hv z)]
    · rfl
  | 6, hv =>
    show (if _ then _ else _) = (if _ then _ else _)
    split
    · rename_i z
      rw [ha _ _ (hv z)]
    · rfl
  | n + 7, hv => rfl
theorem Rel_slz {P : PM} {ad : AD} {h : HP} {H : Heap} (r : Rel P ad h H) {f : Nat} {j : Int32} (hf : (famT f).1 = 2) (q : fl h f j) (hno : ¬ h (f - 10) j (-1) = 1) (hset : ∀ k ∈ fixL f, h f j (nI k) = 1) :
    Rel P (adN ad (f - 10) j (ad f j)) (slz h f j) H ∧ (∀ f1 j1, fl h f1 j1 → ¬ (f1 = f ∧ j1 = j) → fl (slz h f j) f1 j1 ∧ adN ad (f - 10) j (ad f j) f1 j1 = ad f1 j1) ∧ fl (slz h f j) (f - 10) j := by
  have h1 : 1 ≤ (famT f).1 := by omega
  have hok := fOK_at h1
  simp only [fOK, Bool.and_eq_true, Bool.or_eq_true, Bool.not_eq_true', Nat.beq_eq, hf] at hok
  obtain ⟨⟨⟨⟨hn, -⟩, -⟩, hraw⟩, -⟩ := hok
  have hraw : (f = f - 10 + 10 ∧ (famT (f - 10)).1 = 1) ∧ (famT (f - 10)).2.1 = (famT f).2.1 ∧ (famT (f - 10)).2.2 = (famT f).2.2 := by
    rcases hraw with z | z
    · exact absurd z (by decide)
    · exact ⟨z.1.1, z.1.2, z.2⟩
  obtain ⟨⟨e10, hk0⟩, hc0, hn0⟩ := hraw
  have hnf := n_small h1
  generalize hf0 : f - 10 = f0 at *
  have hff : f ≠ f0 := by omega
  obtain ⟨r1, r2, r3, r4, r5, r6, r7, r8, r9⟩ := r
  have s1 : ∀ k, slz h f j f0 j k = h f j k := fun k => by
    unfold slz
    rw [if_pos ⟨e10.symm, rfl⟩]
  have s2 : ∀ k, slz h f j f j k = 0 := fun k => by
    unfold slz
    rw [if_neg (by omega), if_pos ⟨rfl, rfl⟩]
  have s3 : ∀ f1 j1 k, ¬ (f1 = f0 ∧ j1 = j) → ¬ (f1 = f ∧ j1 = j) → slz h f j f1 j1 k = h f1 j1 k := fun f1 j1 k a b => by
    unfold slz
    rw [if_neg (fun z => a ⟨by omega, z.2⟩), if_neg b]
  have nf0 : ¬ fl h f0 j := fun z => hno z.1
  have hfl1 : ∀ f1 j1, fl h f1 j1 → ¬ (f1 = f ∧ j1 = j) → fl (slz h f j) f1 j1 := fun f1 j1 z b => by
    refine ⟨?_, z.2⟩
    rw [s3 _ _ _ (fun a => nf0 (by rw [← a.1, ← a.2]; exact z)) b]
    exact z.1
  have hflN : fl (slz h f j) f0 j := ⟨by rw [s1]; exact q.1, by omega, by omega⟩
  have hfl2 : ∀ f1 j1, fl (slz h f j) f1 j1 → (f1 = f0 ∧ j1 = j) ∨ (fl h f1 j1 ∧ ¬ (f1 = f ∧ j1 = j) ∧ ¬ (f1 = f0 ∧ j1 = j)) := fun f1 j1 z => by
    by_cases a : f1 = f0 ∧ j1 = j
    · exact Or.inl a
    · have b : ¬ (f1 = f ∧ j1 = j) := fun b => by
        have := z.1
        rw [b.1, b.2, s2] at this
        exact absurd this (by decide)
      refine Or.inr ⟨⟨?_, z.2⟩, b, a⟩
      rw [← s3 _ _ _ a b]
      exact z.1
  have had : ∀ f1 j1, fl h f1 j1 → adN ad f0 j (ad f j) f1 j1 = ad f1 j1 := fun f1 j1 z => if_neg fun a => nf0 (by rw [← a.1, ← a.2]; exact z)
  have hA : adN ad f0 j (ad f j) f0 j = ad f j := if_pos ⟨rfl, rfl⟩
  have h85 : adN ad f0 j (ad f j) 85 0 = ad 85 0 := if_neg fun a => by
    rw [← a.1, fam85] at hk0
    exact absurd hk0 (by decide)
  have hfl3 : ∀ f1 j1, (famT f1).1 ≠ 2 → fl h f1 j1 → fl (slz h f j) f1 j1 := fun f1 j1 a z => hfl1 _ _ z fun b => a (by rw [b.1]; exact hf)
  obtain ⟨g1, g2, g3, g4, g5⟩ := r7 f j q
  refine ⟨⟨r1, r2, ?_, ?_, r5, r6, fun f1 j1 z => ?_, ?_, ?_⟩, fun f1 j1 z b => ⟨hfl1 _ _ z b, had _ _ z⟩, hflN⟩
  · rw [s3 _ _ _ (fun a => by rw [← a.1, fam0] at hk0; exact absurd hk0 (by decide)) (fun a => fl_ne0 q a.1.symm)]
    exact r3
  · rw [s3 _ _ _ (fun a => by rw [← a.1, fam0] at hk0; exact absurd hk0 (by decide)) (fun a => fl_ne0 q a.1.symm)]
    exact r4
  · rcases hfl2 _ _ z with ⟨rfl, rfl⟩ | ⟨z0, b, a⟩
    · have hall : ∀ k, k < (famT f).2.2 → sv (adN ad f1 j1 (ad f j1)) (slz h f j1) f1 j1 k = sv ad h f j1 k ∧ slotV (slz h f j1) f1 j1 k := by
        intro k hk
        obtain ⟨ok, rk⟩ := sOK_at h1 (by omega) hk
        have rk := rk (by omega)
        have hv := g5 k hk
        have hvs := sv_ad had h85 hv
        unfold rOK at rk
        rw [hf] at rk
        simp only [show Nat.beq 2 2 = true from rfl, Bool.not_true, Bool.false_or] at rk
        rw [← hvs]
        unfold sv slotV
        rw [s1]
        unfold slotV at hv
        rcases hs : styT f k with ⟨t, f2, o⟩
        rw [hs] at hv rk
        match t, hv, rk, hs with
        | 0, hv, rk, hs =>
          have rk := of_decide_eq_true rk
          rw [hf0] at rk
          rw [rk]
          exact ⟨rfl, trivial⟩
        | 1, hv, rk, hs =>
          have rk := of_decide_eq_true rk
          rw [hf0] at rk
          rw [rk]
          exact ⟨rfl, trivial⟩
        | 2, hv, rk, hs =>
          have := (sOK_ref ok hs (by omega)).2.2.2.2.1 (Or.inl rfl)
          omega
        | 5, hv, rk, hs =>
          have := (sOK_ref ok hs (by omega)).2.2.2.2.1 (Or.inr rfl)
          omega
        | 3, hv, rk, hs =>
          have rk := of_decide_eq_true rk
          rw [hf0] at rk
          rw [rk]
          refine ⟨rfl, ?_⟩
          have hne := (sOK_ref ok hs (by omega)).2.1
          rcases hv with hv | hv | hv | hv
          · exact Or.inl hv
          · exact Or.inr (Or.inl (hfl3 _ _ (by show (famT f2).1 ≠ 2; omega) hv))
          · exact Or.inr (Or.inr (Or.inl hv))
          · exact Or.inr (Or.inr (Or.inr hv))
        | 4, hv, rk, hs =>
          have rk := of_decide_eq_true rk
          rw [hf0] at rk
          rw [rk]
          obtain ⟨-, c1, -, -, -, c2⟩ := sOK_ref ok hs (by omega)
          have h1' := hset k (c2 (Or.inl rfl)).2.2
          refine ⟨?_, hfl3 _ _ (by omega) (hv h1')⟩
          show _ = if h f j1 (nI k) = 1 then _ else _
          rw [if_pos h1']
          try rfl
        | 6, hv, rk, hs =>
          have rk := of_decide_eq_true rk
          rw [hf0] at rk
          rw [rk]
          obtain ⟨-, c1, -, -, -, c2⟩ := sOK_ref ok hs (by omega)
          have h1' := hset k (c2 (Or.inr rfl)).2.2
          refine ⟨?_, hfl3 _ _ (by omega) (hv h1')⟩
          show _ = if h f j1 (nI k) = 1 then _ else _
          rw [if_pos h1']
          try rfl
        | n + 7, hv, rk, hs =>
          have := (sOK_ref ok hs (by omega)).1
          omega
      refine ⟨⟨fun _ => ?_, fun z => by omega⟩, by rw [hA]; exact g2, by rw [hA]; exact g3, g4, fun k hk => (hall k (by rw [← hn0]; exact hk)).2⟩
      rw [hA, hc0, hn0]
      exact (g1.1 (by omega)).to fun k hk => (hall k hk).1.symm
    · obtain ⟨y1, y2, y3, y4, y5⟩ := r7 f1 j1 z0
      refine ⟨cellOK_kept y1 (had _ _ z0) rfl (fun k hk => ?_), by rw [had _ _ z0]; exact y2, by rw [had _ _ z0]; exact y3, y4, fun k hk => ?_⟩
      · rw [sv_congr (h := h) (s3 _ _ _ a b)]
        exact sv_ad had h85 (y5 k hk)
      · exact slotV_congr' (sOK_at z0.2.1 z0.2.2 hk).1 hfl3 (s3 _ _ _ a b) (y5 k hk)
  · intro f1 j1 f2 j2 z1 z2 e
    rcases hfl2 _ _ z1 with a1 | ⟨b1, c1, -⟩ <;> rcases hfl2 _ _ z2 with a2 | ⟨b2, c2, -⟩
    · exact ⟨a1.1.trans a2.1.symm, a1.2.trans a2.2.symm⟩
    · exfalso
      rw [a1.1, a1.2, hA, had _ _ b2] at e
      have := r8 _ _ _ _ q b2 e
      exact c2 ⟨this.1.symm, this.2.symm⟩
    · exfalso
      rw [a2.1, a2.2, hA, had _ _ b1] at e
      exact c1 (r8 _ _ _ _ b1 q e)
    · rw [had _ _ b1, had _ _ b2] at e
      exact r8 _ _ _ _ b1 b2 e
  · have e85 : ∀ i, slz h f j 85 0 i = h 85 0 i := fun i => s3 _ _ _ (fun a => by rw [← a.1, fam85] at hk0; exact absurd hk0 (by decide)) (fun a => fl_ne85 q a.1.symm)
    exact ⟨by rw [e85]; exact r9.1, fun i hi => by rw [e85]; exact r9.2.1 i hi, h85.trans r9.2.2⟩
