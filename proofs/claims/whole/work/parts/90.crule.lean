/-! 90: the class: tear, rule -/
theorem nil_of {A : SY} (hI : YV A) (z : nE A = 0) : ∀ p, dn A p = [] := fun p => by
  cases e : dn A p with
  | nil => rfl
  | cons d l =>
    have := (hI.2.1.1 p d (by rw [e]; simp)).1
    rw [z] at this
    exact absurd (Int32.lt_of_le_of_lt this.1 this.2) (by decide)
theorem RC_zero {A : SY} {a : AT} {od : List Int32} {h h' : HP} (hI : YV A) (z : nE A = 0) (R : RC A [] (Zst A) od h) (e0 : a 10 0 = A.1 10 0) (e13 : a 10 13 = A.1 10 13) (fr : ∀ f x, ¬ f = 4 → ¬ (27 ≤ f ∧ f ≤ 31) → h' f x = h f x) (em : ∀ f x, h' f x (-1) = h f x (-1)) (cg : CG (a, A.2) h') (cp : ∀ p, ina p (nP A) → CPp (a, A.2) p h') : RC (a, A.2) [] (Zst (a, A.2)) od h' := by
  obtain ⟨g1, g2, g3, g4, g5, ⟨g6, g6'⟩, g7⟩ := R
  have nP' : nP (a, A.2) = nP A := e0
  have nE' : nE (a, A.2) = nE A := e13
  have dn0 := nil_of hI z
  have zE : Zst (a, A.2) = Zst A := funext fun p => by
    show rp a p (dn A p) = rp A.1 p (dn A p)
    rw [dn0]; simp only [rp, rpF, List.foldl_nil]
  have no : ∀ y, ¬ ina y (nE A) := fun y q => by
    rw [z] at q
    exact absurd (Int32.lt_of_le_of_lt q.1 q.2) (by decide)
  refine ⟨cg, fun p hp => cp p (by rw [← nP']; exact hp), fun p hp => ?_, fun y hy => ?_, ?_, ⟨CPs_co g6 fun f hf => fr f 0 (by omega) (by omega), CPs_co g6' fun f hf => fr f 1 (by omega) (by omega)⟩, ?_⟩
  · rw [nP'] at hp
    rw [zE]
    exact CZ_co (g3 p hp) (fr 39 p (by decide) (by decide)) (fr 8 p (by decide) (by decide))
  · rw [nE'] at hy
    exact absurd hy (no y)
  · unfold CO
    rw [fr 3 0 (by decide) (by decide), fr 26 0 (by decide) (by decide), nE']
    refine ⟨g5.1, g5.2.1, g5.2.2.1, ?_, g5.2.2.2.2⟩
    cases e : od with
    | nil => exact List.Pairwise.nil
    | cons y l => exact absurd ((g5.2.2.1 y).mp (by rw [e]; simp)) (no y)
  · exact FR_co g7 em (fun y hy => absurd hy (no y)) (fr 33 0 (by decide) (by decide)) (fr 32 0 (by decide) (by decide)) (fr 0 0 (by decide) (by decide)) (CO_4 g5) nE' nP'
theorem ar_22 {n : Int32} : (n ≤ 0 → ¬ 0 < n) ∧ (¬ n ≤ 0 → 0 < n) := by constructor <;> grind
theorem ar_23 {p k n : Int32} (h : 8 * p + k = 8 * p + n) : k = n := by grind
theorem C_tear (A : SY) (p n : Int32) (od : List Int32) (h : HP) (Q : Option AV → HP → Prop) (hY : YW A) (R : RC A [] (Zst A) od h) (H : ∀ od' h', ag sC h h' → RC (opTear A p n).2 [] (Zst (opTear A p n).2) od' h' → Q (some (0, (opTear A p n).1)) h') : WPm 38 [(9, 0), (0, p), (0, n)] h Q := by
  unfold opTear at H
  refine b38_0 _ _ h Q (c_part p h _ R (fun z1 => b38_5 _ _ _ h Q ⟨fun _ => ?_, fun y => absurd y (by decide)⟩) (fun z => b38_5 _ _ _ h Q ⟨fun y => absurd rfl y, fun _ => ?_⟩))
  · rw [if_pos z1] at H
    have ip := isP_ina hY z1
    have pp := R.2.1 p ip.1
    have r43 := (hY.1.1.1.2.1 p ip.2).1
    rw [R.2.2.2.2.1.1, pp.1]
    refine ⟨fun e0 => ⟨ip.2, ina_n1 ip.2, b20_0 _ _ h _ ?_⟩, fun e0 => ?_⟩
    · rw [if_neg (ar_22.1 e0)] at H
      have z : nE A = 0 := nE_z hY.1 (ar_22.1 e0)
      rw [pp.2.2.1.1]
      refine ⟨ina_n1 ip.2, fun l8 => ?_, fun l8 => b38_34 _ _ _ h Q ?_⟩
      · rw [if_neg (fun q => by rw [q] at l8; exact absurd l8 (by decide))] at H
        have i8 : ina (A.1 43 p) 8 := ⟨r43.1, l8⟩
        have pn := ina_n1 ip.2
        refine ⟨pn, pn, i8, pn, pn, pn, b38_34 _ _ _ _ Q ?_⟩
        rw [up_at]
        refine H od _ (ag_up (ag_up ag_rf rfl) rfl) (RC_zero hY.1 z R (by simp [sa]) (by simp [sa]) (fun f x f1 f2 => by rw [upfam f1, upfam (by omega)]) (fun f x => by rw [up_n (fun q => absurd q.2.2 (by decide)), up_n (fun q => ina_n1 i8 q.2.2.symm)]) ?_ fun q hq => ?_)
        · have g1 := R.1
          unfold CG
          rw [upfam (by decide), upfam (by decide)]
          simpa [CG, nP, sa] using g1
        · have c := R.2.1 q hq
          have q12 : ina q 12 := ⟨hq.1, Int32.lt_of_lt_of_le hq.2 hY.1.1.1.1.2⟩
          have rq := (hY.1.1.1.2.1 q q12).1
          have s : ∀ f, ¬ f = 43 → ¬ f = 44 → (sa (sa A.1 44 (8 * p + A.1 43 p) n) 43 p (A.1 43 p + 1), A.2).1 f = A.1 f := fun f a1 a2 => by
            show sa (sa A.1 44 (8 * p + A.1 43 p) n) 43 p (A.1 43 p + 1) f = _
            rw [sa_fam a1, sa_fam a2]
          have k4 : ∀ k, ¬ k = 3 → (up (up h 27 p (A.1 43 p) n) 4 p 3 (A.1 43 p + 1)) 4 q k = h 4 q k := fun k hk => by rw [up_n (fun w => hk w.2.2), upfam (by decide)]
          have s43 : (sa (sa A.1 44 (8 * p + A.1 43 p) n) 43 p (A.1 43 p + 1), A.2).1 43 q = if q = p then A.1 43 p + 1 else A.1 43 q := by simp [sa]
          have s44 : ∀ j, (sa (sa A.1 44 (8 * p + A.1 43 p) n) 43 p (A.1 43 p + 1), A.2).1 44 j = if j = 8 * p + A.1 43 p then n else A.1 44 j := fun j => by simp [sa]
          refine ⟨?_, ?_, ⟨?_, fun k k0 k1 => ?_, ?_, ?_⟩, ?_, ?_, ?_⟩
          · rw [upfam (by decide), upfam (by decide)]; exact c.1
          · rw [k4 0 (by decide), s 42 (by decide) (by decide)]; exact c.2.1
          · rw [s43]
            by_cases w : q = p
            · subst w; rw [up_at, if_pos rfl]
            · rw [if_neg w, up_n (fun v => w v.2.1), upfam (by decide)]; exact c.2.2.1.1
          · rw [s43] at k1
            rw [s44, upfam (by decide)]
            by_cases w : q = p
            · subst w
              rw [if_pos rfl] at k1
              by_cases y : k = A.1 43 q
              · rw [y, up_at, if_pos rfl]
              · rw [up_n (fun v => y v.2.2), if_neg (fun v => y (ar_23 v))]
                exact c.2.2.1.2.1 k k0 (by have := r43; grind)
            · rw [if_neg w] at k1
              rw [up_n (fun v => w v.2.1), if_neg (fun v => w (ar_15 q12 ip.2 k0 (Int32.lt_of_lt_of_le k1 rq.2) i8.1 i8.2 v).1)]
              exact c.2.2.1.2.1 k k0 k1
          · rw [k4 8 (by decide), s 45 (by decide) (by decide)]; exact c.2.2.1.2.2.1
          · rw [upfam (by decide), upfam (by decide), upfam (by decide), upfam (by decide), upfam (by decide), upfam (by decide), upfam (by decide), upfam (by decide), s 45 (by decide) (by decide), s 46 (by decide) (by decide), s 47 (by decide) (by decide), s 48 (by decide) (by decide), s 49 (by decide) (by decide)]
            exact c.2.2.1.2.2.2
          · rw [k4 9 (by decide), s 50 (by decide) (by decide)]; exact c.2.2.2.1
          · rw [k4 10 (by decide)]; exact c.2.2.2.2.1
          · rw [k4 11 (by decide), s 51 (by decide) (by decide)]; exact c.2.2.2.2.2
      · have e8 : A.1 43 p = 8 := by have := r43.2; grind
        rw [if_pos e8] at H
        exact H od h ag_rf R
    · rw [if_pos (ar_22.2 e0)] at H
      exact H od h ag_rf R
  · rw [if_neg z] at H
    exact H od h ag_rf R
