section SND
variable {P : PM} {l : Launch} {mi : Nat} {p : Program} {e : Env} {R : Room} {s : State} {m : MethodId} {args : Array Value} {below : List Frame} {meth : Method} {c : Code} {h0 : HP} {ad0 : AD} {Qf : State → Prop} {pc nx : Nat} {ls st : List AV} {h : HP}
theorem callB_g {H : Heap} {mj index n : Nat} (cx : CX P mi p R s m args meth c) (hm : mj < 155) (hfr : frT mj + 1 ≤ frT mi) (hlo : 19 + maxLT mj + loT mj ≤ loT mi) (hn : n = nargsT mj - (bif Nat.beq (kindT mj) 0 then 0 else 1)) :
    ((mRm P mj H).cells = pB P + 600000 - H.size ∧ (mRm P mj H).slots = 7302250 - ss (pB P) H ∧ (mRm P mj H).frames + 1 ≤ R.frames ∧ 8 + (maxLT mj + 11) + (mRm P mj H).locals ≤ R.locals ∧ (∀ w ∈ cdW mj :: gtbl, ∀ (a' : Array Value) (U : State), s.WarmedH U.vm → w.before a' U = true) ∧ Cond.code (yT mj) (bytesT mj) (maxLT mj) (retT mj) ∈ cdW mj :: gtbl) ∧
    (Cond.code (yT mj) (bytesT mj) (maxLT mj) (retT mj)).before args s = true ∧ (Cond.initialized (yT mj).cls).before args s = true ∧ ((yT mj).cls ≠ "java/lang/invoke/MethodHandle" ∧ (yT mj).cls ≠ "java/lang/invoke/VarHandle") ∧ (∀ sig, parseMethodDescriptor (yT mj).desc = some sig → n = sig.parameters.length) := by
  obtain ⟨hx, hb, hml, hown, hts, hr, hlk, hni, hK, hbs, hfr', hlo', -⟩ := cx
  obtain ⟨k1, k2, k3, k4, k5, k6, k7, -⟩ := mok_at (m := mj) (by omega)
  refine ⟨⟨rfl, rfl, Nat.le_trans hfr hfr', by show 8 + (maxLT mj + 11) + loT mj ≤ _; omega, pay_g hm hts, List.mem_cons_self⟩, hts _ (cd_g hm), by rw [k1]; exact hts _ (ini_g (by omega)), k3, fun sig hsig => ?_⟩
  rw [hsig] at k4
  rw [hn]
  exact (Option.some.inj k4).symm
theorem g_virt {mj : Nat} {v : AV} {as rest : List AV} {K : Option AV → HP → Prop} (cx : CX P mi p R s m args meth c) (di : DI mi pc nx (.invokevirtual mj)) (hst : st = (v :: as).reverse ++ rest) (hrc : v.1 = rcvT mj) (hkd : kindT mj = 1) (hlen : (v :: as).length = nargsT mj) (hpl : plainArgs (v :: as) = true) (h8 : rest.length ≤ 8) (hnn : nulT v.1 = true → ¬ v.2 = -1)
    (S : SX P l mj 0 (padL mj (v :: as)) [] h K) (k : ∀ w h', K w h' → WG P l mi p e R s m args below meth c h0 ad0 Qf nx ls (w.toList ++ rest) h') (hmj : mj < 153) : WG P l mi p e R s m args below meth c h0 ad0 Qf pc ls st h := by
  have cx0 := cx
  obtain ⟨hx, hb, hml, hown, hts, hr, hlk, hni, hK, hbs, hfr', hlo', hs1, hs2, hRc, hRs⟩ := cx
  obtain ⟨w, len, hd, hnx, hl, hm⟩ := di
  subst hnx
  simp only [mtc] at hm
  split at hm
  · rename_i index
    obtain rfl : len = 3 := hl.resolve_left Bool.false_ne_true
    simp only [Bool.and_eq_true] at hm
    obtain ⟨⟨hm, m1⟩, m2⟩ := hm
    have m1 := Nat.le_of_ble_eq_true m1
    have m2 := Nat.le_of_ble_eq_true m2
    obtain ⟨k1, k2, k3, k4, k5, k6, k7, -, -, -, -, -, k13, -⟩ := mok_at (m := mj) (by omega)
    obtain ⟨v1, v2, v3, v4, v5⟩ := k13 hkd
    intro ad H locs lsC iv
    have iv0 := iv
    obtain ⟨r, xt, hlo, hlv, hnl, hs, hls⟩ := iv
    rw [hst] at hs
    have hsA : SV h h0 ls (v :: as).reverse := fun y hy => hs y (List.mem_append_left _ hy)
    have hsR : SV h h0 ls rest := fun y hy => hs y (List.mem_append_right _ hy)
    have hvv := (hsA v (by simp)).1
    have q := fl_of hvv (by rw [hrc]; omega) (by rw [hrc]; omega) hnn
    have fv1 : (famT v.1).1 = 1 := by rw [hrc]; exact v3
    obtain ⟨hcl, -⟩ := clq (Or.inl fv1)
    obtain ⟨⟨gc, -⟩, -⟩ := r.2.2.2.2.2.2.1 _ _ q
    obtain ⟨cellV, g1, g2, g3, -⟩ := gc (by omega)
    have hM := met_of hmj S r hlen (fun y hy => (hsA y (List.mem_reverse.mpr hy)).1)
    have cb := callB_g (H := H) (index := index) (n := as.length) cx0 (by omega) m1 m2 (by rw [hkd]; show as.length = _ - 1; rw [← hlen]; rfl)
    have hlink := hts _ (mw_g hm)
    refine W_facts (pB P) hbs fun hsz hsss => ?_
    have rb1 := r.2.2.2.2.1
    have rb2 := r.2.2.2.2.2.1
    have hrun := va_runV (g := F0 m pc lsC (st.map (cv ad))) (locs := locs) (below := below) (meth := meth) (cells := H.size - s.heap.size) (slots := ss (pB P) H - ss (pB P) s.heap) (e := e) (As := as.map (cv ad)) (rest := rest.map (cv ad)) (b := ad v.1 v.2) (C := (yT mj).cls) (Ts := gtbl) ⟨hx, hb, hml, hown, hts⟩ hM
      ⟨⟨cb.1.1, cb.1.2.1, cb.1.2.2.1, cb.1.2.2.2.1, cb.1.2.2.2.2.1, cb.1.2.2.2.2.2, cb.2.1, cb.2.2.1, cb.2.2.2.1, cb.2.2.2.2, hlink⟩, hts _ (im_g v2), hts _ (sel_g v1)⟩
      ⟨mPc_blind _ _ _ _ _, ⟨cellV, g1, by rw [g3]; rfl, by rw [k1, g2, ← v4, ← hrc]; exact (hK.1.1 _ _ hcl).2.1⟩, fun U hU hW => ⟨by rw [List.map_cons, show cv ad v = .ref (ad v.1 v.2) from cv_ref r q], by rw [hU]; exact r, by rw [hU], by rw [hU], hK.warm hW⟩⟩
      rfl (by simp) hlv.1 (by
        show st.map (cv ad) = _
        rw [hst, List.map_append, List.reverse_cons, List.map_append, List.map_reverse, List.map_singleton, show cv ad v = .ref (ad v.1 v.2) from cv_ref r q]
        simp) (by
        show 2 * 0 + _ ≤ 8
        rw [cat_sum]
        omega) hd ⟨by omega, by omega⟩
    refine run_W hbs hrun hlo fun w9 h' ad' H1 locs1 hKw hR hE hV hlo1 => ?_
    obtain ⟨iv1, est⟩ := iv_call iv0 hsR hR hE hV hlo1
    rw [est]
    exact k w9 h' hKw ad' H1 locs1 lsC iv1
  · cases hm
theorem g_stat {mj : Nat} {as rest : List AV} {K : Option AV → HP → Prop} (cx : CX P mi p R s m args meth c) (di : DI mi pc nx (.invokestatic mj)) (hst : st = as.reverse ++ rest) (hkd : kindT mj = 0) (hlen : as.length = nargsT mj) (h8 : rest.length ≤ 8)
    (S : SX P l mj 0 (padL mj as) [] h K) (k : ∀ w h', K w h' → WG P l mi p e R s m args below meth c h0 ad0 Qf nx ls (w.toList ++ rest) h') (hmj : mj < 153) : WG P l mi p e R s m args below meth c h0 ad0 Qf pc ls st h := by
  have cx0 := cx
  obtain ⟨hx, hb, hml, hown, hts, hr, hlk, hni, hK, hbs, hfr', hlo', hs1, hs2, hRc, hRs⟩ := cx
  obtain ⟨w, len, hd, hnx, hl, hm⟩ := di
  subst hnx
  simp only [mtc] at hm
  split at hm
  · rename_i index
    obtain rfl : len = 3 := hl.resolve_left Bool.false_ne_true
    simp only [Bool.and_eq_true] at hm
    obtain ⟨⟨hm, m1⟩, m2⟩ := hm
    have m1 := Nat.le_of_ble_eq_true m1
    have m2 := Nat.le_of_ble_eq_true m2
    obtain ⟨k1, k2, k3, k4, k5, k6, k7, -, -, -, -, k12, -⟩ := mok_at (m := mj) (by omega)
    intro ad H locs lsC iv
    have iv0 := iv
    obtain ⟨r, xt, hlo, hlv, hnl, hs, hls⟩ := iv
    rw [hst] at hs
    have hsA : SV h h0 ls as.reverse := fun y hy => hs y (List.mem_append_left _ hy)
    have hsR : SV h h0 ls rest := fun y hy => hs y (List.mem_append_right _ hy)
    have hM := met_of hmj S r hlen (fun y hy => (hsA y (List.mem_reverse.mpr hy)).1)
    have cb := callB_g (H := H) (index := index) (n := as.length) cx0 (by omega) m1 m2 (by rw [hkd]; exact hlen)
    have hlink := hts _ (mw_g hm)
    refine W_facts (pB P) hbs fun hsz hsss => ?_
    have rb1 := r.2.2.2.2.1
    have rb2 := r.2.2.2.2.2.1
    have hrun := va_runS (g := F0 m pc lsC (st.map (cv ad))) (locs := locs) (below := below) (meth := meth) (cells := H.size - s.heap.size) (slots := ss (pB P) H - ss (pB P) s.heap) (e := e) (As := as.map (cv ad)) (rest := rest.map (cv ad)) (Ts := gtbl) ⟨hx, hb, hml, hown, hts⟩ hM
      ⟨⟨cb.1.1, cb.1.2.1, cb.1.2.2.1, cb.1.2.2.2.1, cb.1.2.2.2.2.1, cb.1.2.2.2.2.2, cb.2.1, cb.2.2.1, cb.2.2.2.1, cb.2.2.2.2, hlink⟩, hts _ (st_g (k12 hkd (by omega)))⟩
      ⟨mPc_blind _ _ _ _ _, fun U hU hW => ⟨rfl, by rw [hU]; exact r, by rw [hU], by rw [hU], hK.warm hW⟩⟩
      rfl (by simp) hlv.1 (by
        show st.map (cv ad) = _
        rw [hst, List.map_append, List.map_reverse]) (by
        show 2 * 0 + _ ≤ 8
        rw [cat_sum]
        omega) hd ⟨by omega, by omega⟩
    refine run_W hbs hrun hlo fun w9 h' ad' H1 locs1 hKw hR hE hV hlo1 => ?_
    obtain ⟨iv1, est⟩ := iv_call iv0 hsR hR hE hV hlo1
    rw [est]
    exact k w9 h' hKw ad' H1 locs1 lsC iv1
  · cases hm
theorem fold_spec {A : Nat → Prop} {B : Prop} : ∀ {l : List Nat}, l.foldr (fun k P => A k ∧ P) B → (∀ k ∈ l, A k) ∧ B
  | [], H => ⟨(fun k hk => by cases hk), H⟩
  | a :: t, H => by
    obtain ⟨h1, h2⟩ := fold_spec H.2
    refine ⟨fun k hk => ?_, h2⟩
    rcases List.mem_cons.mp hk with rfl | hk
    · exact H.1
    · exact h1 k hk
theorem g_spec {mj : Nat} {v u : AV} {as rest : List AV} {K : Option AV → HP → Prop} (cx : CX P mi p R s m args meth c) (di : DI mi pc nx (.invokespecial mj)) (hst : st = (v :: as).reverse ++ u :: rest) (hrc : v.1 = rcvT mj) (hu : u = v) (hkd : kindT mj = 2) (hlen : (v :: as).length = nargsT mj) (h8 : (u :: rest).length ≤ 8) (hraw : rawTag v.1 = true)
    (hrest : ∀ w ∈ rest, w.1 ≠ v.1) (hlsr : ∀ w ∈ ls, w.1 ≠ v.1)
    (S : SX P l mj 0 (padL mj (v :: as)) [] h (fun w h' => w = none ∧ slzOK h' v.1 v.2 (K none h'))) (k : ∀ h', K none h' → WG P l mi p e R s m args below meth c h0 ad0 Qf nx ls ((v.1 - 10, v.2) :: rest) (slz h' v.1 v.2)) (hmj : mj < 153) : WG P l mi p e R s m args below meth c h0 ad0 Qf pc ls st h := by
  subst hu
  have cx0 := cx
  obtain ⟨hx, hb, hml, hown, hts, hr, hlk, hni, hK, hbs, hfr', hlo', hs1, hs2, hRc, hRs⟩ := cx
  obtain ⟨w, len, hd, hnx, hl, hm⟩ := di
  subst hnx
  simp only [mtc] at hm
  split at hm
  · rename_i index
    obtain rfl : len = 3 := hl.resolve_left Bool.false_ne_true
    simp only [Bool.and_eq_true, Bool.or_eq_true] at hm
    obtain ⟨⟨hm, m1⟩, m2⟩ := hm
    have m1 := Nat.le_of_ble_eq_true m1
    have m2 := Nat.le_of_ble_eq_true m2
    obtain ⟨k1, k2, k3, k4, k5, k6, k7, -, -, -, -, -, -, k14⟩ := mok_at (m := mj) (by omega)
    obtain ⟨v2, v3, v4, v5, v6⟩ := k14 hkd
    intro ad H locs lsC iv
    have iv0 := iv
    obtain ⟨r, xt, hlo, hlv, hnl, hs, hls⟩ := iv
    rw [hst] at hs
    have hsA : SV h h0 ls (u :: as).reverse := fun y hy => hs y (List.mem_append_left _ hy)
    have hsR : SV h h0 ls (u :: rest) := fun y hy => hs y (List.mem_append_right _ hy)
    have hvv := (hsA u (by simp)).1
    have fv2 : (famT u.1).1 = 2 := by rw [hrc]; exact v3
    have hnul : nulT u.1 = true → ¬ u.2 = -1 := fun z9 => by
      exfalso
      simp only [nulT, Bool.or_eq_true, Nat.beq_eq] at z9
      rcases z9 with (z9 | z9) | z9 <;> (rw [z9] at fv2; exact absurd fv2 (by decide +kernel))
    have q := fl_of hvv (by omega) (by omega) hnul
    have hM := met_of hmj S r hlen (fun y hy => (hsA y (List.mem_reverse.mpr hy)).1)
    have cb := callB_g (H := H) (index := index) (n := as.length) cx0 (by omega) m1 m2 (by rw [hkd]; show as.length = _ - 1; rw [← hlen]; rfl)
    refine W_facts (pB P) hbs fun hsz hsss => ?_
    have rb1 := r.2.2.2.2.1
    have rb2 := r.2.2.2.2.2.1
    have hpre : PreS s H (mPc P (u :: as) ad h H) (.ref (ad u.1 u.2) :: as.map (cv ad)) := ⟨mPc_blind _ _ _ _ _, fun U hU hW => ⟨by rw [List.map_cons, show cv ad u = .ref (ad u.1 u.2) from cv_ref r q], by rw [hU]; exact r, by rw [hU], by rw [hU], hK.warm hW⟩⟩
    have hstk : st.map (cv ad) = (as.map (cv ad)).reverse ++ .ref (ad u.1 u.2) :: (u :: rest).map (cv ad) := by
      rw [hst, List.map_append, List.reverse_cons, List.map_append, List.map_reverse, List.map_singleton, show cv ad u = .ref (ad u.1 u.2) from cv_ref r q]
      simp
    have h8' : 2 * (F0 m pc lsC (st.map (cv ad))).monitorRoom + (((u :: rest).map (cv ad)).map fun v => v.category).sum ≤ 8 := by
      show 2 * 0 + _ ≤ 8
      rw [cat_sum]
      omega
    have hrun : va_Run p l e R s m args below meth c H locs (H.size - s.heap.size) (ss (pB P) H - ss (pB P) s.heap) (pB P + 600000 - H.size) (7302250 - ss (pB P) H) (F0 m pc lsC (st.map (cv ad))) ((u :: rest).map (cv ad)) (mQc P ad h (fun w h' => w = none ∧ slzOK h' u.1 u.2 (K none h')) (Value.ref (ad u.1 u.2) :: as.map (cv ad)).toArray) (fun q => pB P ≤ q) := by
      rw [v5] at cb
      rcases hm with hm | hm
      · have hlink := hts _ (mw_g hm)
        exact va_runI (As := as.map (cv ad)) (Ts := gtbl) ⟨hx, hb, hml, hown, hts⟩ hM
          ⟨⟨cb.1.1, cb.1.2.1, cb.1.2.2.1, cb.1.2.2.2.1, cb.1.2.2.2.2.1, cb.1.2.2.2.2.2, cb.2.1, cb.2.2.1, cb.2.2.2.1, cb.2.2.2.2, hlink⟩, k5 hkd, hts _ (im_g v2)⟩
          hpre rfl (by simp) hlv.1 hstk h8' hd ⟨by omega, by omega⟩
      · obtain ⟨qn, hqn, eqn⟩ := nw_g hm
        have hnw := hK.2.2.2.2.1 qn hqn
        rw [eqn] at hnw
        exact va_runIN (As := as.map (cv ad)) (Ts := gtbl) ⟨hx, hb, hml, hown, hts⟩ hM
          ⟨⟨cb.1, cb.2.1, cb.2.2.1, cb.2.2.2.1, cb.2.2.2.2, va_Nw.use rfl hnw⟩, k5 hkd, hts _ (im_g v2)⟩
          hpre rfl (by simp) hlv.1 hstk h8' hd ⟨by omega, by omega⟩
    refine run_W hbs hrun hlo fun w9 h' ad' H1 locs1 hKw hR hE hV hlo1 => ?_
    obtain ⟨rfl, hsz1, hsz2⟩ := hKw
    obtain ⟨hset, hK9⟩ := fold_spec hsz2
    obtain ⟨iv1, est⟩ := iv_call iv0 hsR hR hE hV hlo1
    obtain ⟨q1, eq1⟩ := hE.1 _ _ q
    obtain ⟨R1, R2, R3⟩ := Rel_slz hR fv2 q1 hsz1 hset
    have hnf0 : ¬ fl h0 u.1 u.2 := by
      rcases (hsR u List.mem_cons_self).2 hraw with z | z
      · exact z
      · exact absurd rfl (hlsr u z)
    obtain ⟨-, xt1, -, hlv1, -, hs1', hls1⟩ := iv1
    have hs1' : SV h' h0 ls (u :: rest) := hs1'
    have hj : ¬ u.2 = -1 := (hR.2.2.2.2.2.2.1 _ _ q1).2.2.2.1
    have e85 : adN ad' (u.1 - 10) u.2 (ad' u.1 u.2) 85 0 = ad' 85 0 := R1.2.2.2.2.2.2.2.2.2.2.trans hR.2.2.2.2.2.2.2.2.2.2.symm
    have tr : ∀ w : AV, vd h' w → w.1 ≠ u.1 → vd (slz h' u.1 u.2) w ∧ cv (adN ad' (u.1 - 10) u.2 (ad' u.1 u.2)) w = cv ad' w := by
      intro w hw hne
      rcases hw with z | z | z | z
      · exact ⟨Or.inl z, by simp [cv, z]⟩
      · obtain ⟨y1, y2⟩ := R2 _ _ z fun y => hne y.1
        exact ⟨Or.inr (Or.inl y1), by simp only [cv, y2]⟩
      · exact ⟨Or.inr (Or.inr (Or.inl z)), by simp [cv, z.2]⟩
      · subst z
        exact ⟨Or.inr (Or.inr (Or.inr rfl)), by simp only [cv, e85]⟩
    have hcv : cv (adN ad' (u.1 - 10) u.2 (ad' u.1 u.2)) (u.1 - 10, u.2) = cv ad' u := by
      rw [cv_ref R1 R3, show cv ad' u = .ref (ad' u.1 u.2) from cv_ref hR q1]
      congr 1
      exact if_pos ⟨rfl, rfl⟩
    have hmap : ∀ rs : List AV, (∀ w ∈ rs, vd h' w ∧ w.1 ≠ u.1) → rs.map (cv (adN ad' (u.1 - 10) u.2 (ad' u.1 u.2))) = rs.map (cv ad') := fun rs hrs => List.map_congr_left fun w hw => (tr w (hrs w hw).1 (hrs w hw).2).2
    have hlp : ∀ (rs : List AV) (i : Nat), (∀ w ∈ rs, (w.1 = 500 ∨ vd h' w) ∧ w.1 ≠ u.1) → lp (adN ad' (u.1 - 10) u.2 (ad' u.1 u.2)) i rs = lp ad' i rs := by
      intro rs
      induction rs with
      | nil => intro i _; rfl
      | cons a t ih =>
        intro i hrs
        unfold lp
        rw [ih (i + 1) fun w hw => hrs w (List.mem_cons_of_mem _ hw)]
        rcases (hrs a List.mem_cons_self).1 with z | z
        · rw [z]; rfl
        · rw [(tr a z (hrs a List.mem_cons_self).2).2]
    have est2 : ((none : Option AV).map (cv ad')).toList ++ (u :: rest).map (cv ad) = ((u.1 - 10, u.2) :: rest).map (cv (adN ad' (u.1 - 10) u.2 (ad' u.1 u.2))) := by
      rw [est, List.map_cons, hcv, hmap rest fun w hw => ⟨(hs1' w (List.mem_cons_of_mem _ hw)).1, hrest w hw⟩]
      rfl
    rw [est2]
    refine k h' hK9 _ H1 locs1 lsC ⟨R1, ⟨fun f1 j1 z => ?_, e85.trans xt1.2⟩, hlo1, ?_, hnl, ?_, ?_⟩
    · obtain ⟨a1, a2⟩ := xt1.1 f1 j1 z
      obtain ⟨b1, b2⟩ := R2 f1 j1 a1 fun y => hnf0 (by rw [← y.1, ← y.2]; exact z)
      exact ⟨b1, b2.trans a2⟩
    · rw [hlp ls 0 fun w hw => ⟨hls1 w hw, hlsr w hw⟩]
      exact hlv1
    · refine SV.nr (fun w hw => ?_) (Or.inr (Or.inl R3)) (raw_of1 ?_)
      · exact ⟨(tr w (hs1' w (List.mem_cons_of_mem _ hw)).1 (hrest w hw)).1, (hs1' w (List.mem_cons_of_mem _ hw)).2⟩
      · show (famT (u.1 - 10)).1 ≠ 2
        have : ∀ f, f < 86 → (famT f).1 = 2 → (famT (f - 10)).1 ≠ 2 := by decide +kernel
        exact this _ (fam_lt (by omega)) fv2
    · intro w hw
      rcases hls1 w hw with z | z
      · exact Or.inl z
      · exact Or.inr (tr w z (hlsr w hw)).1
  · cases hm
end SND
