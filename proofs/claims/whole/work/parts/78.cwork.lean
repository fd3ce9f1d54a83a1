/-! 78: the class: events and shadows come; workOff -/
theorem tw_nil {l : List Int32} {p : Int32 → Bool} (h : ∀ x, x ∈ l → p x = false) : l.takeWhile p = [] ∧ l.dropWhile p = l := by
  cases l with
  | nil => exact ⟨rfl, rfl⟩
  | cons x l =>
    have := h x (by simp)
    exact ⟨List.takeWhile_cons_of_neg (by rw [this]; decide), List.dropWhile_cons_of_neg (by rw [this]; decide)⟩
theorem kpt_od {A : SY} (hI : YV A) {od o1 o2 : List Int32} {h : HP} {e : Int32} (c : CO A od h) (eo : od = o1 ++ e :: o2) : kpt A e = o1.filter (dq A (pa A e)) ∧ tkn A e = (e :: o2).filter (dq A (pa A e)) := by
  have d := odn hI c (pa A e)
  rw [eo, List.filter_append] at d
  have pw := c.2.2.2.1
  rw [eo] at pw
  have pa' := List.pairwise_append.mp pw
  have a1 : ∀ x, x ∈ o1.filter (dq A (pa A e)) → belB A.1 x e = true := fun x hx => belB_t.mpr (pa'.2.2 x (List.mem_filter.mp hx).1 e (by simp))
  have a2 : ∀ x, x ∈ (e :: o2).filter (dq A (pa A e)) → belB A.1 x e = false := fun x hx => belB_f.mpr fun q => by
    rcases List.mem_cons.mp (List.mem_filter.mp hx).1 with y | y
    · rw [y] at q; exact bel_irr q
    · exact bel_irr (bel_tr q ((List.pairwise_cons.mp pa'.2.1).1 x y))
  have n := tw_nil a2
  unfold kpt tkn
  rw [d]
  exact ⟨by rw [List.takeWhile_append_of_pos a1, n.1, List.append_nil], by rw [List.dropWhile_append_of_pos a1, n.2]⟩
theorem sh_bd {A : SY} {l : Int32} {S : List Int32} (hl : (pnd (shF A l S)).length ≤ 800) : ∀ S1 S2, S = S1 ++ S2 → ¬ S2 = [] → (wy (shF A l S1)).length < 800 ∧ (cm (shF A l S1)).length < 800 := by
  intro S1 S2 e ne
  have h1 := (psA_pnd (sa A.1 10 33 (A.1 10 33 + nI S.length), A.2) l (S.map fun f => (f, true))).length_eq
  have h2 := (psA_pnd (sa A.1 10 33 (A.1 10 33 + nI S1.length), A.2) l (S1.map fun f => (f, true))).length_eq
  have h1 : (pnd (shF A l S)).length = (pnd A ++ S.map fun f => (f, true)).length := h1
  have h2 : (pnd (shF A l S1)).length = (pnd A ++ S1.map fun f => (f, true)).length := h2
  rw [List.length_append, List.length_map] at h1 h2
  have l2 : 0 < S2.length := List.length_pos_iff.mpr ne
  have l3 : S.length = S1.length + S2.length := by rw [e, List.length_append]
  have h3 : (pnd (shF A l S1)).length = (wy (shF A l S1)).length + (cm (shF A l S1)).length := by unfold pnd; rw [List.length_append]
  omega
theorem pnd800 {A : SY} (hI : YV A) : (pnd A).length ≤ 800 := Nat.le_trans (pnd_cnt hI) (cnt_le A)
theorem s_eventComesC (A : SY) (e : Int32) (r : List PT) (od : List Int32) (h : HP) (Q : Option AV → HP → Prop) (hI : YV A) (hc : cm A = (e, false) :: r) (R : RC (scm A r) [] (Zst A) od h)
    (H : ∀ h', ag sC h h' → RC (cmE (scm A r) e) [] (Zst (cmE (scm A r) e)) od h' → Q none h') : WPm 72 [(9, 0), (2, e)] h Q := by
  have hP := scm_pnd hc
  have q2 := (hI.2.2.1.2.1 e).mp (hP.mem_iff.mpr (by simp))
  have gg := ga hI q2.1
  have en := ina_n1 q2.1
  have hI' : YV (cmE (scm A r) e) := YV_STP hI (STP_cmE hI hc)
  have E := RC_e R (e := e) q2.1
  have c : CO (scm A r) od h := R.2.2.2.2.1
  have c' : CO A od h := c
  have esh : h 2 e 8 = shd (scm A r) e := E.2.1.2
  have h3 : hw A e = 3 := q2.2
  refine b72_0 _ h Q ?_
  rw [esh]
  by_cases hs : A.1 61 e = 1
  · have s2 : shd (scm A r) e = 2 := by unfold shd; rw [if_pos (show (scm A r).1 61 e = 1 from hs)]
    have ecm : cmE (scm A r) e = mtF (scm A r) e := by
      unfold cmE
      rw [if_neg (by show ¬ A.1 61 e = 0; rw [hs]; decide)]
    refine ⟨en, fun z => absurd s2 z, fun _ => ?_⟩
    refine s_meetC (scm A r) [] (Zst A) od e h _ R q2.1 (by show ¬ hw A e = 1; rw [h3]; decide) (fun q => ?_) fun h' g R' => b72_13 _ h' Q (H h' g ?_)
    · have := (hI.2.2.1.2.2.1 e (List.mem_append.mpr (Or.inl q))).2.1
      rw [hs] at this; exact absurd this (by decide)
    · rw [ecm]
      have : Zst (mtF (scm A r) e) = Zst A := by
        funext p
        show rp (mtF (scm A r) e).1 p (dn A p) = _
        rw [SA_rp (SA_mt (scm A r) e)]; rfl
      rw [this]; exact R'
  · have s0 : A.1 61 e = 0 := ((hI.1.2.2.1 e q2.1).2.2.2).resolve_right hs
    have s2 : ¬ shd (scm A r) e = 2 := by
      unfold shd
      rw [if_neg (show ¬ (scm A r).1 61 e = 1 from hs)]
      split <;> decide
    have ecm : cmE (scm A r) e = shF (tkB (sa A.1 60 e 0, (scm A r).2) (pa A e) (kpt A e) (tkn A e)) (A.1 42 (pa A e)) (snts A (tkn A e)) := by
      unfold cmE
      rw [if_pos (show (scm A r).1 61 e = 0 from s0)]
      rfl
    rw [ecm] at H hI'
    obtain ⟨o1, o2, eo⟩ := List.append_of_mem ((c.2.2.1 e).mpr q2.1)
    have kt' := kpt_od hI c' eo
    have R0 : RC (sa A.1 60 e 0, (scm A r).2) [] (Zst A) od (up h 2 e 7 0) := RC_h0 R (by show ¬ hw A e = 1; rw [h3]; decide)
    have dqe : dq (sa A.1 60 e 0, (scm A r).2) = dq A := by
      funext p x
      unfold dq
      congr 1
      by_cases z : x = e
      · subst z
        simp [hw, pa, sa, h3, show (A.1 60 x) = 3 from h3]
      · simp [hw, pa, sa, z]
    have sA0 : SA (scm A r) (sa A.1 60 e 0, (scm A r).2) := SA_60 (scm A r) e 0
    have nE0 : nE (sa A.1 60 e 0, (scm A r).2) = nE A := sA0.2.2.1
    have nP0 : nP (sa A.1 60 e 0, (scm A r).2) = nP A := sA0.2.1
    refine ⟨en, fun _ => ⟨en, ?_⟩, fun z => absurd z s2⟩
    refine s_goBack (sa A.1 60 e 0, (scm A r).2) (Zst A) od o1 o2 e (pa A e) _ _ R0 (RU_sr (SA_sr sA0) hI.1.1) (by rw [nE0]; exact hI.1.2.1.2) (fun p => by rw [dqe]; exact odn hI c' p) (by rw [nP0]; exact gg.2.2) (by simp [pa, sa]) eo (by show rp A.1 _ (dn A _) = rp (sa A.1 60 e 0) _ (dn A _); exact (SA_rp sA0 _ _).symm) fun o1' rr h1 er ef g1 R1 => b72_24 _ _ h1 Q ?_
    rw [dqe] at ef R1
    have e1 : h1 2 e 1 = pa A e := by
      have := (RC_RV R1).2.1 e (by rw [show nE (tkB _ _ _ _) = nE (sa A.1 60 e 0, (scm A r).2) from (SA_tk _ _ _ _).2.2.1, nE0]; exact q2.1)
      rw [this.1.2.2.1]; simp [pa, tkB, sa]
    rw [e1]
    have SA1 := SA_tk (sa A.1 60 e 0, (scm A r).2) (pa A e) (o1.filter (dq A (pa A e))) ((e :: o2).filter (dq A (pa A e)))
    have l42 : (tkB (sa A.1 60 e 0, (scm A r).2) (pa A e) (kpt A e) (tkn A e)).1 42 (pa A e) = A.1 42 (pa A e) := by simp [tkB, sa]
    rw [← kt'.1, ← kt'.2] at R1 SA1
    rw [← kt'.2] at ef
    refine ⟨en, ?_⟩
    have nE1 : nE (tkB (sa A.1 60 e 0, (scm A r).2) (pa A e) (kpt A e) (tkn A e)) = nE A := SA1.2.2.1.trans nE0
    have nP1 : nP (tkB (sa A.1 60 e 0, (scm A r).2) (pa A e) (kpt A e) (tkn A e)) = nP A := SA1.2.1.trans nP0
    refine s_sendShadows _ _ od o1' rr (pa A e) (dq A (pa A e)) h1 _ (by rw [← ef]; exact R1) (by rw [nE1]; exact hI.1.2.1.2) (by rw [nP1]; exact gg.2.2) gg.2.1 er (fun x xr tx => ?_) (fun x xr tx => ?_) ?_ (fun h2 g2 R2 => b72_34 _ _ h2 Q (H h2 (ag_tr (ag_tr (ag_up ag_rf rfl) g1) g2) ?_))
    · have xt : x ∈ tkn A e := by rw [ef]; exact List.mem_filter.mpr ⟨xr, tx⟩
      refine ⟨by simp [pa, tkB, sa]; exact (dq_t.mp tx).2, ?_⟩
      simp [hw, tkB, xt]
    · have xt : x ∈ tkn A e := by rw [ef]; exact List.mem_filter.mpr ⟨xr, tx⟩
      have m := tkn_in xt
      have dp := dn_p hI m
      refine ⟨(se_len hI m).1, fun f hf => ?_⟩
      have lf := hI.2.2.2.1.2 x dp.2.2.1 dp.2.2.2.1 f hf
      have gf := ga hI lf.1
      refine ⟨by rw [nE1]; exact lf.1, by simp [tkB, sa]; exact lf.2.2.1, ?_, ?_⟩
      · rw [nP1]; simpa [pa, tkB, sa] using gf.2.2
      · simpa [pa, tkB, sa] using gf.2.1
    · rw [l42, ← ef]
      exact sh_bd (pnd800 hI')
    · rw [l42, ← ef] at R2
      have zz : Zst (shF (tkB (sa A.1 60 e 0, (scm A r).2) (pa A e) (kpt A e) (tkn A e)) (A.1 42 (pa A e)) (snts A (tkn A e))) = Zp (Zst A) (pa A e) (rp (sa A.1 60 e 0) (pa A e) (kpt A e)) := by
        funext q
        have s2 : SA (scm A r) (shF (tkB (sa A.1 60 e 0, (scm A r).2) (pa A e) (kpt A e) (tkn A e)) (A.1 42 (pa A e)) (snts A (tkn A e))) := by
          refine ⟨fun f f1 f2 f3 f4 => ?_, ?_, ?_, ?_, ?_⟩
          · rw [sh_at f1, SA1.1 f f1 f2 f3 f4, sA0.1 f f1 f2 f3 f4]
          · exact sh_nE.2.trans nP1
          · exact sh_nE.1.trans nE1
          · rw [sh_fix.1, sa_ne (by decide), SA1.2.2.2.1, sA0.2.2.2.1]
          · rw [sh_fix.1, sa_ne (by decide), SA1.2.2.2.2, sA0.2.2.2.2]
        unfold Zst Zp
        rw [SA_rp s2, sh_fix.2.1]
        show rp A.1 q (ul (dn A) (pa A e) (kpt A e) q) = _
        by_cases z : q = pa A e
        · rw [z, ul_eq, if_pos rfl]
          exact (SA_rp sA0 _ _).symm
        · rw [ul_ne z, if_neg z]
      rw [zz]; exact R2
theorem s_shadowComesX (A : SY) (e v : Int32) (r : List PT) (od : List Int32) (h : HP) (Q : Option AV → HP → Prop) (hI : YV A) (hc : cm A = (e, true) :: r) (R : RC (sa A.1 61 e v, (scm A r).2) [] (Zst A) od h)
    (H : ∀ h', ag sC h h' → RC (cmS (scm A r) e) [] (Zst (cmS (scm A r) e)) od h' → Q none h') : WPm 73 [(9, 0), (2, e)] h Q := by
  have hP := scm_pnd hc
  have q2 := hI.2.2.1.2.2.1 e (hP.mem_iff.mpr (by simp))
  have gg := ga hI q2.1
  have en := ina_n1 q2.1
  have hI' : YV (cmS (scm A r) e) := YV_STP hI (STP_cmS hI hc)
  have sX : SA (sa A.1 61 e v, (scm A r).2) (scm A r) := ⟨fun f h1 h2 h3 h4 => (sa_fam h4).symm, by simp [nP, sa, scm], by simp [nE, sa, scm], by simp [sa, scm], by simp [sa, scm]⟩
  have nEX : nE (sa A.1 61 e v, (scm A r).2) = nE A := sX.2.2.1.symm
  have nPX : nP (sa A.1 61 e v, (scm A r).2) = nP A := sX.2.1.symm
  have E := RC_e R (e := e) (by rw [nEX]; exact q2.1)
  have c : CO (scm A r) od h := CO_SA R.2.2.2.2.1 sX rfl rfl
  have x60 : ∀ y, hw (sa A.1 61 e v, (scm A r).2) y = hw A y := fun y => by show sa A.1 61 e v 60 y = A.1 60 y; rw [sa_fam (by decide)]
  have x54 : ∀ y, pa (sa A.1 61 e v, (scm A r).2) y = pa A y := fun y => by show sa A.1 61 e v 54 y = A.1 54 y; rw [sa_fam (by decide)]
  have xdq : ∀ p, dq (sa A.1 61 e v, (scm A r).2) p = dq A p := fun p => by funext d; unfold dq; rw [x60, x54]
  have xrp : ∀ p l, rp (sa A.1 61 e v) p l = rp A.1 p l := fun p l => (SA_rp sX p l).symm
  have c' : CO A od h := c
  have e7 : h 2 e 7 = hw A e := E.2.1.1.trans (x60 e)
  have nw : ¬ (e, true) ∈ wy A := fun q => by
    have n := hP.nodup_iff.mp hI.2.2.1.1
    exact (List.nodup_cons.mp n).1 (List.mem_append.mpr (Or.inl q))
  refine b73_0 _ h Q ?_
  rw [e7]
  refine ⟨en, fun h0 => ?_, fun h3 => ⟨en, ?_⟩⟩
  · have ecm : cmS (scm A r) e = shF (mtF (tkB (scm A r) (pa A e) (kpt A e) (tkn A e)) e) (A.1 42 (pa A e)) (snts A (tkn A e)) := by
      unfold cmS
      rw [if_neg (show ¬ hw (scm A r) e = 3 from h0)]
      rfl
    rw [ecm] at H hI'
    obtain ⟨o1, o2, eo⟩ := List.append_of_mem ((c.2.2.1 e).mpr q2.1)
    have kt' := kpt_od hI c' eo
    have h01 : hw A e = 0 ∨ hw A e = 1 := by
      rcases (hI.1.2.2.1 e q2.1).2.2.1 with z | z | z | z
      · exact Or.inl z
      · exact Or.inr z
      · exact absurd z h0
      · exact absurd z q2.2.2.1
    refine s_goBack (sa A.1 61 e v, (scm A r).2) (Zst A) od o1 o2 e (pa A e) _ _ R (RU_sr ⟨sX.2.1.symm, fun f f1 f2 => sa_fam (by omega)⟩ hI.1.1) (by rw [nEX]; exact hI.1.2.1.2) (fun p => by rw [xdq]; exact odn hI c' p) (by rw [nPX]; exact gg.2.2) (x54 e) eo (xrp _ _).symm fun o1' rr h1 er ef g1 R1 => b73_19 _ _ h1 Q ?_
    rw [xdq] at ef
    rw [xdq, xrp] at R1
    have R1 : RC (tkB (sa A.1 61 e v, (scm A r).2) (pa A e) (o1.filter (dq A (pa A e))) ((e :: o2).filter (dq A (pa A e)))) ((e :: o2).filter (dq A (pa A e))) (Zp (Zst A) (pa A e) (rp A.1 (pa A e) (o1.filter (dq A (pa A e))))) od h1 := R1
    have SA1 := SA_tk (scm A r) (pa A e) (kpt A e) (tkn A e)
    rw [← kt'.1, ← kt'.2] at R1
    rw [← kt'.2] at ef
    have nE1 : nE (tkB (scm A r) (pa A e) (kpt A e) (tkn A e)) = nE A := SA1.2.2.1
    have nP1 : nP (tkB (scm A r) (pa A e) (kpt A e) (tkn A e)) = nP A := SA1.2.1
    have hw1 : ¬ hw (tkB (sa A.1 61 e v, (scm A r).2) (pa A e) (kpt A e) (tkn A e)) e = 1 := by
      have hv : hw (tkB (sa A.1 61 e v, (scm A r).2) (pa A e) (kpt A e) (tkn A e)) e = if e ∈ tkn A e then 0 else hw A e := by simp [hw, tkB, scm, sa]
      rw [hv]
      split
      · decide
      · rename_i ne
        rcases h01 with y | y
        · rw [y]; decide
        · exfalso
          have := hI.2.1.2.1 e q2.1 y
          rw [kt] at this
          rcases List.mem_append.mp this with w | w
          · exact bel_irr (kpt_b w)
          · exact ne w
    refine s_meetC _ _ _ od e h1 _ R1 (by rw [(SA_tk _ _ _ _).2.2.1, nEX]; exact q2.1) hw1 nw fun h2 g2 R2 => b73_25 _ _ h2 Q ?_
    have eX : mtF (tkB (sa A.1 61 e v, (scm A r).2) (pa A e) (kpt A e) (tkn A e)) e = mtF (tkB (scm A r) (pa A e) (kpt A e) (tkn A e)) e := by
      have e1 : (mtF (tkB (sa A.1 61 e v, (scm A r).2) (pa A e) (kpt A e) (tkn A e)) e).1 = (mtF (tkB (scm A r) (pa A e) (kpt A e) (tkn A e)) e).1 := by
        funext f j
        by_cases z : f = 61 ∧ j = e
        · simp [mtF, tkB, sa, scm, z.1, z.2]
        · by_cases w : f = 61
          · have z' : ¬ j = e := fun q => z ⟨w, q⟩
            simp [mtF, tkB, sa, scm, w, z']
          · simp [mtF, tkB, sa, scm, w]
      exact Prod.ext e1 rfl
    rw [eX] at R2
    have SM := SA_mt (tkB (scm A r) (pa A e) (kpt A e) (tkn A e)) e
    have nE2 : nE (mtF (tkB (scm A r) (pa A e) (kpt A e) (tkn A e)) e) = nE A := SM.2.2.1.trans nE1
    have nP2 : nP (mtF (tkB (scm A r) (pa A e) (kpt A e) (tkn A e)) e) = nP A := SM.2.1.trans nP1
    have e1 : h2 2 e 1 = pa A e := by
      have := (RC_RV R2).2.1 e (by rw [nE2]; exact q2.1)
      rw [this.1.2.2.1]; simp [pa, mtF, tkB, sa, scm]
    rw [e1]
    have l42 : (mtF (tkB (scm A r) (pa A e) (kpt A e) (tkn A e)) e).1 42 (pa A e) = A.1 42 (pa A e) := by simp [mtF, tkB, sa, scm]
    refine ⟨en, ?_⟩
    refine s_sendShadows _ _ od o1' rr (pa A e) (dq A (pa A e)) h2 _ (by rw [← ef]; exact R2) (by rw [nE2]; exact hI.1.2.1.2) (by rw [nP2]; exact gg.2.2) gg.2.1 er (fun x xr tx => ?_) (fun x xr tx => ?_) ?_ (fun h3 g3 R3 => b73_34 _ _ h3 Q (H h3 (ag_tr (ag_tr g1 g2) g3) ?_))
    · have xt : x ∈ tkn A e := by rw [ef]; exact List.mem_filter.mpr ⟨xr, tx⟩
      refine ⟨by simp [pa, mtF, tkB, sa, scm]; exact (dq_t.mp tx).2, ?_⟩
      by_cases z : x = e
      · simp [hw, mtF, sa, z]
      · simp [hw, mtF, tkB, sa, scm, z, xt]
    · have xt : x ∈ tkn A e := by rw [ef]; exact List.mem_filter.mpr ⟨xr, tx⟩
      have m := tkn_in xt
      have dp := dn_p hI m
      refine ⟨(se_len hI m).1, fun f hf => ?_⟩
      have lf := hI.2.2.2.1.2 x dp.2.2.1 dp.2.2.2.1 f hf
      have gf := ga hI lf.1
      refine ⟨by rw [nE2]; exact lf.1, ?_, ?_, ?_⟩
      · by_cases z : f = e
        · simp [mtF, sa, z]
        · simp [mtF, tkB, sa, scm, z]; exact lf.2.2.1
      · rw [nP2]; simpa [pa, mtF, tkB, sa, scm] using gf.2.2
      · simpa [pa, mtF, tkB, sa, scm] using gf.2.1
    · rw [l42, ← ef]
      exact sh_bd (pnd800 hI')
    · rw [l42, ← ef] at R3
      have zz : Zst (shF (mtF (tkB (scm A r) (pa A e) (kpt A e) (tkn A e)) e) (A.1 42 (pa A e)) (snts A (tkn A e))) = Zp (Zst A) (pa A e) (rp A.1 (pa A e) (kpt A e)) := by
        funext q
        have s2 : SA (scm A r) (shF (mtF (tkB (scm A r) (pa A e) (kpt A e) (tkn A e)) e) (A.1 42 (pa A e)) (snts A (tkn A e))) := by
          refine ⟨fun f f1 f2 f3 f4 => ?_, ?_, ?_, ?_, ?_⟩
          · rw [sh_at f1, SM.1 f f1 f2 f3 f4, SA1.1 f f1 f2 f3 f4]
          · exact sh_nE.2.trans nP2
          · exact sh_nE.1.trans nE2
          · rw [sh_fix.1, sa_ne (by decide), SM.2.2.2.1, SA1.2.2.2.1]
          · rw [sh_fix.1, sa_ne (by decide), SM.2.2.2.2, SA1.2.2.2.2]
        unfold Zst Zp
        rw [SA_rp s2, sh_fix.2.1]
        show rp A.1 q (ul (dn A) (pa A e) (kpt A e) q) = _
        by_cases z : q = pa A e
        · rw [z, ul_eq, if_pos rfl]
        · rw [ul_ne z, if_neg z]
      rw [zz]; exact R3
  · have ecm : cmS (scm A r) e = (sa A.1 61 e 1, (scm A r).2) := by
      unfold cmS
      rw [if_pos (show hw (scm A r) e = 3 from h3)]
      rfl
    rw [ecm] at H
    have s : SA (sa A.1 61 e v, (scm A r).2) (sa A.1 61 e 1, (scm A r).2) := ⟨fun f h1 h2 h3 h4 => by show sa A.1 61 e 1 f = sa A.1 61 e v f; rw [sa_fam h4, sa_fam h4], by simp [nP, sa, scm], by simp [nE, sa, scm], by simp [sa, scm], by simp [sa, scm]⟩
    have zz : Zst (sa A.1 61 e 1, (scm A r).2) = Zst A := by
      funext p
      show rp (sa A.1 61 e 1) p (dn A p) = _
      rw [SA_rp s p (dn A p)]; exact xrp p (dn A p)
    refine H _ (ag_up ag_rf rfl) ?_
    rw [zz]
    refine RC_one (e := e) R s rfl (by show sa A.1 61 e 1 51 = sa A.1 61 e v 51; rw [sa_fam (by decide), sa_fam (by decide)]) (by simp [sa, scm]) (fun y ye => ⟨by show sa A.1 61 e 1 60 y = sa A.1 61 e v 60 y; rw [sa_ne (by simp), sa_ne (by simp)], by show sa A.1 61 e 1 61 y = sa A.1 61 e v 61 y; rw [sa_ne (fun q => ye q.2), sa_ne (fun q => ye q.2)]⟩) (fun _ _ => Iff.rfl) (fun f x f1 f2 => by rw [upfam f1]) (fun x hx => by funext k; exact up_n fun q => hx q.2.1) (up_n (by simp)) (fun f x => up_n fun q => absurd q.2.2 (by decide)) (fun k _ => by rw [upfam (by decide)]) ?_ fun _ => ?_
    · rw [upfam (by decide), R.1.2.2.2.1]; simp [sa, scm]
    · refine EV_not1 (w := 3) (v := 2) E s rfl (by rw [x60, h3]; decide) (by decide) (by simpa [hw, sa] using h3) (by unfold shd; simp [sa]) (fun k k7 k8 => up_n fun q => k8 q.2.2) (by rw [up_n (by simp)]; exact e7.trans h3) up_at (by rw [upfam (by decide)]) (by rw [upfam (by decide)])
theorem s_shadowComesC (A : SY) (e : Int32) (r : List PT) (od : List Int32) (h : HP) (Q : Option AV → HP → Prop) (hI : YV A) (hc : cm A = (e, true) :: r) (R : RC (scm A r) [] (Zst A) od h)
    (H : ∀ h', ag sC h h' → RC (cmS (scm A r) e) [] (Zst (cmS (scm A r) e)) od h' → Q none h') : WPm 73 [(9, 0), (2, e)] h Q := by
  refine s_shadowComesX A e (A.1 61 e) r od h Q hI hc ?_ H
  have : sa A.1 61 e (A.1 61 e) = A.1 := by
    funext f j
    unfold sa
    split
    · rename_i z; rw [z.1, z.2]
    · rfl
  rw [this]; exact R
theorem wPC {o : Int32} {h h' : HP} (g : agw (wPo o) h h') : ag sC h h' := fun f x k z => g f x k (Or.inr fun q => by
  rcases q.1 with q | q | q <;> (subst q; exact absurd z (by simp [sC])))
/-- other posts: the same yard but for them -/
theorem RC_posts {A A' : SY} {T : List Int32} {Z : Int32 → ZT} {od : List Int32} {h h' : HP} (R : RC A T Z od h) (e1 : A'.1 = A.1) (e2 : dn A' = dn A) (e3 : pr A' = pr A) (e4 : se A' = se A) (hs : ∀ e, ina e (nE A) → shd A' e = shd A e) (fr : ∀ f x, ¬ f = 6 → ¬ f = 34 → ¬ f = 35 → h' f x = h f x) (em : ∀ f x, h' f x (-1) = h f x (-1)) (c0 : CPs 0 (wy A') h') (c1 : CPs 1 (cm A') h') : RC A' T Z od h' := by
  obtain ⟨g1, g2, g3, g4, g5, -, g7⟩ := R
  have nE' : nE A' = nE A := by unfold nE; rw [e1]
  have nP' : nP A' = nP A := by unfold nP; rw [e1]
  refine ⟨?_, fun p hp => ?_, fun p hp => ?_, fun y hy => ?_, ?_, ⟨c0, c1⟩, ?_⟩
  · unfold CG; rw [fr 9 0 (by decide) (by decide) (by decide), nP', e1]; exact g1
  · rw [nP'] at hp
    have c := g2 p hp
    unfold CPp
    rw [fr 4 p (by decide) (by decide) (by decide), fr 40 0 (by decide) (by decide) (by decide), e1, e2]
    exact ⟨c.1, c.2.1, PRp_co c.2.2.1 fun f hf => fr f p (by omega) (by omega) (by omega), c.2.2.2⟩
  · rw [nP'] at hp
    exact CZ_co (g3 p hp) (fr 39 p (by decide) (by decide) (by decide)) (fr 8 p (by decide) (by decide) (by decide))
  · rw [nE'] at hy
    exact EV_co (g4 y hy) (fr 2 y (by decide) (by decide) (by decide)) (fr 25 y (by decide) (by decide) (by decide)) (by rw [fr 41 0 (by decide) (by decide) (by decide)]) (fr 8 _ (by decide) (by decide) (by decide)) (fr 39 _ (by decide) (by decide) (by decide)) (fun _ _ _ _ => by rw [e1]) (hs y hy) (by rw [e3]) (by rw [e4]) (fun _ => Iff.rfl) (fun _ pre post hp => ⟨post, by rw [← e2]; exact hp⟩) (fun _ => by rw [e1])
  · unfold CO; rw [fr 3 0 (by decide) (by decide) (by decide), fr 26 0 (by decide) (by decide) (by decide), nE', e1]; exact g5
  · exact FR_co g7 em (fun y hy => by rw [fr 2 y (by decide) (by decide) (by decide)]) (fr 33 0 (by decide) (by decide) (by decide)) (fr 32 0 (by decide) (by decide) (by decide)) (fr 0 0 (by decide) (by decide) (by decide)) (CO_4 g5) nE' nP'
theorem wPfr {o : Int32} {h h' : HP} (g : agw (wPo o) h h') : ∀ f x, ¬ f = 6 → ¬ f = 34 → ¬ f = 35 → h' f x = h f x := fun f x f1 f2 f3 => agw_row g fun q => by rcases q.1 with q | q | q; exact f1 q; exact f2 q; exact f3 q
theorem s_workOff (od : List Int32) (Q : Option AV → HP → Prop) : ∀ (m n : Nat) (A : SY) (h : HP), YV A → n + cnt A ≤ 800 → cnt A ≤ m → RC A [] (Zst A) od h → (∀ h', ag sC h h' → RC (wrk m A) [] (Zst (wrk m A)) od h' → Q none h') → WPc 71 2 [(9, 0), (0, nI n), (500, 0), (500, 0)] [] h Q := by
  have fin : ∀ (m n : Nat) (A : SY) (h : HP), cm A = [] → wrk m A = A → RC A [] (Zst A) od h → (∀ h', ag sC h h' → RC (wrk m A) [] (Zst (wrk m A)) od h' → Q none h') → WPc 71 2 [(9, 0), (0, nI n), (500, 0), (500, 0)] [] h Q := by
    intro m n A h hc hw R H
    have q : Q none h := H h ag_rf (by rw [hw]; exact R)
    refine b71_2 _ h Q ⟨fun _ => q, fun _ => ⟨fun _ => q, fun z => absurd ?_ z⟩⟩
    rw [R.2.2.2.2.2.1.2.1, hc]; exact Int32.le_refl _
  intro m
  induction m with
  | zero =>
    intro n A h hI hn hm R H
    have := pnd_cnt hI
    have hc : cm A = [] := by
      have : (pnd A).length = 0 := by omega
      have : pnd A = [] := List.eq_nil_of_length_eq_zero this
      unfold pnd at this
      exact (List.append_eq_nil_iff.mp this).2
    exact fin 0 n A h hc rfl R H
  | succ m ih =>
    intro n A h hI hn hm R H
    cases hc : cm A with
    | nil => exact fin (m + 1) n A h hc (by unfold wrk; rw [hc]) R H
    | cons q r =>
      have hw : wrk (m + 1) A = wrk m (cmQ (scm A r) q) := by rw [wrk, hc]
      rw [hw] at H
      have hI' := YV_cmQ hI hc
      have c := cnt_cmQ hI hc
      have pl := pnd800 hI
      have cl : (q :: r).length ≤ 800 := by
        unfold pnd at pl
        rw [List.length_append, hc] at pl
        omega
      have c1 := R.2.2.2.2.2.1.2
      rw [hc] at c1
      have v34 : h 34 1 0 = q.1 := c1.2.1.1
      have v35 : h 35 1 0 = bN q.2 := c1.2.2.1
      have e6 : h 6 1 2 = nI (q :: r).length := c1.1
      refine b71_2 _ h Q ⟨fun z => ?_, fun _ => ⟨fun z => ?_, fun _ => ⟨⟨by decide, by decide⟩, ⟨by decide, by decide⟩, ?_⟩⟩⟩
      · have z : nI 800 ≤ nI n := z
        rw [nJ_le (by omega) (by omega)] at z
        exfalso; omega
      · rw [e6] at z
        have : nI 0 < nI (q :: r).length := (nJ_lt (by omega) (by omega)).mpr (by simp)
        rw [nJ_0] at this
        exfalso; grind
      · rw [v34, v35]
        have rn : ∀ x, x ∈ r → ¬ x.1 = -1 := fun x hx => ina_n1 (NC_in hI (q := x) (List.mem_append.mpr (Or.inr (by rw [hc]; simp [hx])))).1
        refine s_pRem 1 [] r q h _ c1 cl rn fun h1 g1 p1 => ?_
        have R1 : RC (scm A r) [] (Zst A) od h1 := RC_posts R rfl rfl rfl rfl (fun _ _ => rfl) (wPfr g1) (fun f x => g1 f x (-1) (Or.inl rfl)) (CPs_co R.2.2.2.2.2.1.1 fun f hf => agw_row g1 fun z => absurd z.2 (by decide)) p1
        obtain ⟨e, s⟩ := q
        cases s with
        | false =>
          refine b71_47 _ _ _ h1 Q ⟨fun _ => ?_, fun z => absurd rfl z⟩
          refine s_eventComesC A e r od h1 _ hI hc R1 fun h2 g2 R2 => b71_64 _ _ _ h2 Q ?_
          rw [← nJ_s]
          exact ih (n + 1) _ h2 hI' (by omega) (by omega) R2 fun h3 g3 R3 => H h3 (ag_tr (ag_tr (wPC g1) g2) g3) R3
        | true =>
          refine b71_47 _ _ _ h1 Q ⟨fun z => absurd (show (1 : Int32) = 0 from z) (by decide), fun _ => ?_⟩
          refine s_shadowComesC A e r od h1 _ hI hc R1 fun h2 g2 R2 => b71_56 _ _ _ h2 Q (b71_64 _ _ _ h2 Q ?_)
          rw [← nJ_s]
          exact ih (n + 1) _ h2 hI' (by omega) (by omega) R2 fun h3 g3 R3 => H h3 (ag_tr (ag_tr (wPC g1) g2) g3) R3
theorem s_workOffM (A : SY) (od : List Int32) (h : HP) (Q : Option AV → HP → Prop) (hI : YV A) (R : RC A [] (Zst A) od h) (H : ∀ h', ag sC h h' → RC (wrk 800 A) [] (Zst (wrk 800 A)) od h' → Q none h') : WPm 71 [(9, 0)] h Q :=
  b71_0 h Q (s_workOff od Q 800 0 A h hI (by have := cnt_le A; omega) (cnt_le A) R H)
