/-! 89: the class: start -/
theorem cmQ_nE (A : SY) (q : PT) : nE (cmQ A q) = nE A := by
  unfold cmQ cmS cmE shF psA mtF tkB
  repeat' split
  all_goals simp [nE, sa]
theorem wrk_nE : ∀ (n : Nat) (A : SY), nE (wrk n A) = nE A
  | 0, _ => rfl
  | n + 1, A => by
    unfold wrk
    split
    · rfl
    · rw [wrk_nE n, cmQ_nE]; rfl
theorem s_lastClosed (A : SY) (od : List Int32) (m : Int32) (h : HP) (Q : Option AV → HP → Prop) (hI : YV A) (R : RC A [] (Zst A) od h) (hm : 0 ≤ m) (H : ∀ v, (v < m ↔ ¬ lowP A m) → Q (some (0, v)) h) : WPm 87 [(9, 0)] h Q := by
  have c := R.2.2.2.2.1
  refine b87_0 h Q (s_leastOpen A od [] (Zst A) h _ hI R fun v hv => b87_4 _ h Q ⟨fun z => ?_, fun z => ⟨z, ?_⟩⟩)
  · have uq := fl_uq hv (flo_ok hv)
    have fz : flo A = -1 := uq.1.mp z
    have loop : ∀ (r post : List Int32), od = r.reverse ++ post → (∀ f, f ∈ post → ¬ hw A f = 1) → ∀ x : Int32, x = nI r.length - 1 → WPc 87 24 [(9, 0), (2, v), (0, x)] [] h Q := by
      intro r
      induction r with
      | nil =>
        intro post eo np x ex
        have x1 : x = -1 := by rw [ex]; rfl
        subst x1
        refine b87_24 _ _ h Q ⟨fun _ => H _ ⟨fun _ w => ?_, fun _ => ?_⟩, fun w => absurd (by decide) w⟩
        · rcases w with w | ⟨_, f, f1, f2, _⟩
          · exact w.1 fz
          · exact np f (by have := (c.2.2.1 f).mpr f1; rw [eo] at this; simpa using this) f2
        · exact Int32.lt_of_lt_of_le (by decide) hm
      | cons y r ih =>
        intro post eo np x ex
        have eo' : od = r.reverse ++ y :: post := by rw [eo]; simp
        obtain ⟨o1, o2, o3, o4⟩ := od_go c eo'
        rw [List.length_reverse] at o1 o2 o4
        have xk : x = nI r.length := by rw [ex, List.length_cons, nJ_s]; grind
        subst xk
        refine b87_24 _ _ h Q ⟨fun w => absurd o1.1 (by grind), fun _ => ?_⟩
        have ev := R.2.2.2.1 y o3
        rw [o2, ev.2.1.1, ev.1.2.2.2.1.1]
        refine ⟨o1, ina_n1 o3, fun w => ?_, fun w => ⟨o1, ina_n1 o3, H _ ⟨fun u lp => ?_, fun nl => ?_⟩⟩⟩
        · refine ih (y :: post) eo' (fun f hf => ?_) _ (by grind)
          rcases List.mem_cons.mp hf with q | q
          · rw [q]; exact w
          · exact np f q
        · rcases lp with lp | ⟨_, f, f1, f2, f3⟩
          · exact lp.1 fz
          · have mf := (c.2.2.1 f).mpr f1
            have ps := c.2.2.2.1
            rw [eo'] at mf ps
            rcases List.mem_append.mp mf with q | q
            · have b := (List.pairwise_append.mp ps).2.2 f q y (by simp)
              have le : A.1 55 f ≤ A.1 55 y := by
                rcases b with b | b
                · unfold klt at b; grind
                · have := b.1.1; grind
              grind
            · rcases List.mem_cons.mp q with q | q
              · rw [q] at f3; grind
              · exact np f q f2
        · by_cases lt : A.1 55 y < m
          · exact lt
          · exact absurd (Or.inr ⟨fz, y, o3, w, by grind⟩) nl
    have ol : od.length ≤ 400 := c.2.2.2.2.2
    refine loop od.reverse [] (by simp) (fun f hf => by cases hf) _ ?_
    rw [c.1, List.length_reverse, c.2.2.2.2.1]
  · have uq := fl_uq hv (flo_ok hv)
    have iv : ina v (nE A) := by
      rcases hv with w | w
      · exact absurd w.1 z
      · exact w.2.1.1
    have fz : ¬ flo A = -1 := fun q => z (uq.1.mpr q)
    have k55 : A.1 55 v = A.1 55 (flo A) := (uq.2 z).1
    rw [(R.2.2.2.1 v iv).1.2.2.2.1.1]
    refine H _ ⟨fun u lp => ?_, fun nl => ?_⟩
    · rcases lp with lp | lp
      · rw [← k55] at lp
        have := lp.2
        grind
      · exact fz lp.1
    · by_cases lt : A.1 55 v < m
      · exact lt
      · exact absurd (Or.inl ⟨fz, by rw [← k55]; grind⟩) nl
theorem C_start (A : SY) (p m x : Int32) (od : List Int32) (h : HP) (Q : Option AV → HP → Prop) (hY : YW A) (R : RC A [] (Zst A) od h) (H : ∀ od' h', ag sC h h' → RC (opStart A p m x).2 [] (Zst (opStart A p m x).2) od' h' → Q (some (0, (opStart A p m x).1)) h') : WPm 40 [(9, 0), (0, p), (0, m), (0, x)] h Q := by
  unfold opStart at H
  have hI := hY.1
  have bad : ¬ (isP A p ∧ isIn m 0 100000) → Q (some (0, -2)) h := fun z => by
    rw [if_neg z] at H
    exact H od h ag_rf R
  refine b40_0 _ _ _ h Q (c_part p h _ R (fun z1 => b40_5 _ _ _ _ h Q ⟨fun y => absurd y (by decide), fun _ => ?_⟩) (fun z => b40_5 _ _ _ _ h Q ⟨fun _ => bad fun q => z q.1, fun y => absurd rfl y⟩))
  refine c_in _ _ _ h _ (fun z2 => b40_15 _ _ _ _ h Q ⟨fun _ => ?_, fun y => absurd y (by decide)⟩) (fun z => b40_15 _ _ _ _ h Q ⟨fun y => absurd rfl y, fun _ => bad fun q => z q.2⟩)
  rw [if_pos ⟨z1, z2⟩] at H
  have ip := isP_ina hY z1
  refine s_lastClosed A od m h _ hI R z2.1 fun v hv => b40_26 _ _ _ _ _ h Q ⟨fun lt => ?_, fun nlt => ?_⟩
  · rw [if_neg (hv.mp lt)] at H
    rw [R.2.2.2.2.1.1, R.1.2.1]
    refine ⟨fun n4 => ?_, fun n4 => ?_⟩
    · rw [if_neg (fun z => by rw [z] at n4; exact absurd n4 (by decide))] at H
      have hE0 := hI.1.2.1.1
      have n4i : ina (nE A) 400 := ⟨hE0, n4⟩
      have nin : ¬ ina (nE A) (nE A) := fun z => absurd z.2 (by grind)
      refine s_addEvent A [] (Zst A) od p m (-1) (-1) (A.1 10 14) x h _ R hI.1.1.1 ⟨hE0, n4⟩ (hI.1.2.2.2 _ n4i (Int32.le_refl _)) (fun z => nin (hI.2.2.1.2.2.1 _ (List.mem_append.mpr (Or.inl z))).1) (by simp) (fun q d hd => (hI.2.1.1 q d hd).1) fun od1 h1 g1 f1 R1 => b40_61 _ _ _ _ h1 Q ?_
      have e10 : h1 9 0 10 = A.1 10 14 := by
        rw [R1.1.2.1]
        show mk1 A.1 (nE A) p m (-1) (-1) (A.1 10 14) x 10 14 = _
        rw [mk1_10, if_neg (by decide)]
      rw [e10]
      have hI' := YV_stA (x := x) hI ip.1 z2 n4
      have R2 : RC (sa (mkF A p m (-1) (-1) (A.1 10 14) x).1 10 14 (A.1 10 14 + 1), (mkF A p m (-1) (-1) (A.1 10 14) x).2) [] (Zst A) od1 (up h1 9 0 10 (A.1 10 14 + 1)) := by
        have zB : Zst (mkF A p m (-1) (-1) (A.1 10 14) x) = Zst A := by
          funext q
          show rp (mk1 A.1 (nE A) p m (-1) (-1) (A.1 10 14) x) q (dn A q) = rp A.1 q (dn A q)
          refine rp_sr ⟨by rw [mk1_10, if_neg (by decide)], fun f a1 a2 => mk1_fam (by omega) (by omega)⟩ _ _ fun d hd => ?_
          have nd : ¬ d = nE A := fun z => by rw [z] at hd; exact nin (hI.2.1.1 q _ hd).1
          exact ⟨mk1_old (by decide) nd, mk1_old (by decide) nd⟩
        rw [← zB] at R1
        have := RC_att (a := sa (mkF A p m (-1) (-1) (A.1 10 14) x).1 10 14 (A.1 10 14 + 1)) R1 (fun f hf => sa_fam (by omega)) (sa_ne (by decide)) (sa_ne (by decide)) (h' := up h1 9 0 10 (A.1 10 14 + 1)) (fun f y a1 a2 => by rw [upfam a2]) (fun f y => up_n fun q => absurd q.2.2 (by decide)) ?_ fun q hq => ?_
        · have zC : Zst (sa (mkF A p m (-1) (-1) (A.1 10 14) x).1 10 14 (A.1 10 14 + 1), (mkF A p m (-1) (-1) (A.1 10 14) x).2) = Zst A := by
            rw [← zB]
            funext q
            exact rp_sr ⟨sa_ne (by decide), fun f a1 a2 => sa_fam (by omega)⟩ _ _ fun d _ => by rw [sa_fam (by decide), sa_fam (by decide)]; exact ⟨rfl, rfl⟩
          rw [zC] at this
          exact this
        · have g := R1.1
          unfold CG
          rw [up_at, up_n (by simp), up_n (by simp), up_n (by simp), up_n (by simp), up_n (by simp)]
          have sk : ∀ k, ¬ k = 14 → (mkF A p m (-1) (-1) (A.1 10 14) x).1 10 k = sa (mkF A p m (-1) (-1) (A.1 10 14) x).1 10 14 (A.1 10 14 + 1) 10 k := fun k hk => (sa_ne fun q => hk q.2).symm
          exact ⟨g.1.trans (sk 0 (by decide)), (sa_eq (a := (mkF A p m (-1) (-1) (A.1 10 14) x).1) (f := 10) (j := 14)).symm, g.2.2.1.trans (sk 33 (by decide)), g.2.2.2.1.trans (sk 34 (by decide)), g.2.2.2.2.1.trans (sk 32 (by decide)), g.2.2.2.2.2⟩
        · have c := R1.2.1 q hq
          have s : ∀ f, ¬ f = 10 → (sa (mkF A p m (-1) (-1) (A.1 10 14) x).1 10 14 (A.1 10 14 + 1), (mkF A p m (-1) (-1) (A.1 10 14) x).2).1 f = (mkF A p m (-1) (-1) (A.1 10 14) x).1 f := fun f hf => sa_fam hf
          unfold CPp PRp
          rw [upfam (by decide), upfam (by decide), upfam (by decide), upfam (by decide), upfam (by decide), upfam (by decide), upfam (by decide), s 42 (by decide), s 43 (by decide), s 44 (by decide), s 45 (by decide), s 46 (by decide), s 47 (by decide), s 48 (by decide), s 49 (by decide), s 50 (by decide), s 51 (by decide)]
          exact c
      have c1 : CPs 1 (cm A) (up h1 9 0 10 (A.1 10 14 + 1)) := R2.2.2.2.2.2.1.2
      refine s_pAdd 1 (nE A) false (cm A) _ _ c1 (by rw [hY.2.2]; decide) (ina_n1 n4i) fun h2 g2 p2 => b40_83 _ _ _ _ h2 Q ?_
      have zS : Zst (stA A p m x) = Zst A := by
        funext q
        show rp (sa (mk1 A.1 (nE A) p m (-1) (-1) (A.1 10 14) x) 10 14 (A.1 10 14 + 1)) q (dn A q) = rp A.1 q (dn A q)
        refine rp_sr ⟨by rw [sa_ne (by decide), mk1_10, if_neg (by decide)], fun f a1 a2 => by rw [sa_fam (by omega), mk1_fam (by omega) (by omega)]⟩ _ _ fun d hd => ?_
        have nd : ¬ d = nE A := fun z => by rw [z] at hd; exact nin (hI.2.1.1 q _ hd).1
        rw [sa_fam (by decide), sa_fam (by decide)]
        exact ⟨mk1_old (by decide) nd, mk1_old (by decide) nd⟩
      have R3 : RC (stA A p m x) [] (Zst (stA A p m x)) od1 h2 := by
        rw [zS]
        exact RC_posts R2 rfl rfl rfl rfl (fun _ _ => rfl) (wPfr g2) (fun f y => g2 f y (-1) (Or.inl rfl)) (CPs_co R2.2.2.2.2.2.1.1 fun f hf => agw_row g2 fun z => absurd z.2 (by decide)) p2
      refine s_workOffM (stA A p m x) od1 h2 _ hI' R3 fun h3 g3 R4 => b40_87 _ _ _ _ h3 Q ⟨ina_n1 n4i, ?_⟩
      have nS' : nE (wrk 800 (stA A p m x)) = nE A + 1 := by
        rw [wrk_nE]
        show sa (mk1 A.1 (nE A) p m (-1) (-1) (A.1 10 14) x) 10 14 (A.1 10 14 + 1) 10 13 = _
        rw [sa_ne (by decide), mk1_10, if_pos rfl]
      rw [(R4.2.2.2.1 (nE A) (by rw [nS']; unfold ina; constructor <;> grind)).1.2.1]
      exact H od1 h3 (ag_tr g1 (ag_tr (ag_up ag_rf rfl) (ag_tr (wPC g2) g3))) R4
    · have e4 : nE A = 400 := by have := hI.1.2.1.2; grind
      rw [if_pos e4] at H
      exact H od h ag_rf R
  · rw [if_pos (Classical.not_not.mp fun z => nlt (hv.mpr z))] at H
    exact H od h ag_rf R
