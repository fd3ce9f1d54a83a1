theorem ina_vp {x : Int32} {n : Nat} (hn : n < 2 ^ 31) (h : ina x (nI n)) : vp_in x n ∧ x.toNatClampNeg < n ∧ nI x.toNatClampNeg = x := by
  obtain ⟨h1, h2⟩ := h
  have h1 := Int32.le_iff_toInt_le.mp h1
  have h2 := Int32.lt_iff_toInt_lt.mp h2
  rw [nI_toInt hn] at h2
  rw [show (0 : Int32).toInt = 0 from by decide] at h1
  have hv : vp_in x n := vp_in_iff.mpr ⟨h1, h2⟩
  obtain ⟨j, hj, e⟩ := vp_in_of hv hn
  subst e
  rw [nI_cl (by omega)]
  exact ⟨hv, hj, rfl⟩
theorem decl_all : ((List.range 10).all fun c => (List.range (famT (c + 1)).2.2).all fun k => decide ((clT c k).1 = ownS c)) = true := by decide +kernel
theorem decl_ok (c : Nat) (hc : c ≤ 9) (k : Nat) (hk : k < (famT (c + 1)).2.2) : (clT c k).1 = ownS c :=
  of_decide_eq_true (List.all_eq_true.mp (List.all_eq_true.mp decl_all c (List.mem_range.mpr (by omega))) k (List.mem_range.mpr hk))
theorem arT_spec {f c : Nat} (h : arT f c = true) : (famT f).1 = 3 ∧ (famT f).2.1 = c := by
  simp only [arT, Bool.and_eq_true, Nat.beq_eq] at h
  exact h
theorem arR_spec {f : Nat} (h : arR f = true) : (famT f).1 = 3 ∧ 2 ≤ (famT f).2.1 := by
  simp only [arR, Bool.and_eq_true, Nat.beq_eq] at h
  exact ⟨h.1, Nat.le_of_ble_eq_true h.2⟩
section SND
variable {P : PM} {l : Launch} {mi : Nat} {p : Program} {e : Env} {R : Room} {s : State} {m : MethodId} {args : Array Value} {below : List Frame} {meth : Method} {c : Code} {h0 : HP} {ad0 : AD} {Qf : State → Prop} {pc nx : Nat} {ls st : List AV} {h : HP}
theorem LV.up {f : Nat} {j x : Int32} {k : Nat} (hk : k < 2 ^ 31) (q : LV h ls) : LV (up h f j (nI k) x) ls := fun v hv => (q v hv).imp id (vd_up hk)
theorem SV.up {f : Nat} {j x : Int32} {k : Nat} (hk : k < 2 ^ 31) (q : SV h h0 ls st) : SV (up h f j (nI k) x) h0 ls st := fun v hv => ⟨vd_up hk (q v hv).1, (q v hv).2⟩
theorem g_putfield {n : Nat} {v w : AV} {K : HP → Prop} (cx : CX P mi p R s m args meth c) (di : DI mi pc nx (.putfield n)) (hf : (okF v.1 (n / 100) = true ∧ (clT (n / 100) (n % 100)).2.2.2 = false ∧ (nulT v.1 = true → ¬ v.2 = -1)) ∨ okR v.1 (n / 100) = true) (H : pv v.1 (n % 100) v.2 w h K) (k : ∀ h', K h' → WG P l mi p e R s m args below meth c h0 ad0 Qf nx ls st h') : WG P l mi p e R s m args below meth c h0 ad0 Qf pc ls (w :: v :: st) h := by
  obtain ⟨hx, hb, hml, hown, hts, hr, hlk, hin, hK, hbs, -⟩ := cx
  obtain ⟨wi, len, hd, hnx, hl, hm⟩ := di
  subst hnx
  have hf12 : ((famT v.1).1 = 1 ∨ (famT v.1).1 = 2) ∧ (famT v.1).2.1 = n / 100 := by
    rcases hf with ⟨hf, -⟩ | hf
    · exact ⟨Or.inl (okF_spec hf).1, (okF_spec hf).2⟩
    · exact ⟨Or.inr (okR_spec hf).1, (okR_spec hf).2⟩
  have hnn : nulT v.1 = true → ¬ v.2 = -1 := by
    rcases hf with ⟨-, -, z⟩ | hf
    · exact z
    · intro z
      have hk2 := (okR_spec hf).1
      simp only [nulT, Bool.or_eq_true, Nat.beq_eq] at z
      rcases z with (z | z) | z <;> (rw [z] at hk2; exact absurd hk2 (by decide +kernel))
  obtain ⟨f1, f2⟩ := hf12
  simp only [mtc] at hm
  split at hm
  · rename_i index
    obtain rfl : len = 3 := hl.resolve_left Bool.false_ne_true
    rw [Bool.and_eq_true] at hm
    obtain ⟨hm, hfin⟩ := hm
    intro ad H0 locs lsC iv
    obtain ⟨r, xt, hlo, hlv, hnl, hs, hls⟩ := iv
    have q := fl_of hs.tl.hd.1 (by omega) (by omega) hnn
    have hk := fslot_of hm f1 f2
    have hkk : n % 100 < 2 ^ 31 := by omega
    obtain ⟨hcl, hc9⟩ := clq f1
    obtain ⟨x, hKx, hst⟩ := pv_spec H
    obtain ⟨ok, -⟩ := sOK_at q.2.1 q.2.2 hk
    obtain ⟨⟨gc, -⟩, gb, -⟩ := r.2.2.2.2.2.2.1 _ _ q
    obtain ⟨cell, q1, q2, q3, q4⟩ := gc (by omega)
    obtain ⟨hS, hfc, kC, hkC, hkind⟩ := hK.1.1 _ _ hcl
    obtain ⟨cf, kf, fi, fd, hi, hsl⟩ := hS _ hk
    obtain ⟨ty, hty, hnm⟩ := clTy _ _ hcl
    have hap := va_apart (own := ownS (ownN mi)) hts (clIn _ _ hcl) ty hty hnm hK.1 hcl
    have hlink := hts _ (fw_g hm)
    rw [List.map_cons, List.map_cons, show cv ad v = .ref (ad v.1 v.2) from cv_ref r q]
    unfold fwX at hlink
    rw [← f2] at hlink hfin hf
    have hst9 := (u_facts hfc hkC (u_lays hts (clIn _ _ hcl) hk) hi).1
    obtain ⟨tyk, hd9, hn9, hf9⟩ : ∃ tyk, parseFieldDescriptor (clT (famT v.1).2.1 (n % 100)).2.2.1 = some tyk ∧ narrow tyk (cv ad w) = cv ad w ∧ fits tyk (cv ad w) = true := by
      have h3 : Nat.beq (famT v.1).1 3 = false := by rcases f1 with f1 | f1 <;> rw [f1] <;> rfl
      unfold sOK at ok
      rcases hs9 : styT v.1 (n % 100) with ⟨t, f', o⟩
      rw [hs9] at ok hst
      rw [h3] at ok
      have hcr : ∀ y : AV, y.1 = f' → f' ≠ 0 → (cv ad y = .null ∨ ∃ a, cv ad y = .ref a) := by
        intro y hy h0
        have : Nat.beq y.1 0 = false := by
          cases hb9 : Nat.beq y.1 0 with
          | false => rfl
          | true => exact absurd (hy.symm.trans (Nat.eq_of_beq_eq_true hb9)) h0
        simp only [cv, this, cond_false]
        split
        · exact Or.inl rfl
        · exact Or.inr ⟨_, rfl⟩
      have href : 2 ≤ t → ∀ y : AV, y = w → y.1 = f' → ∃ tyk, parseFieldDescriptor (clT (famT v.1).2.1 (n % 100)).2.2.1 = some tyk ∧ narrow tyk (cv ad w) = cv ad w ∧ fits tyk (cv ad w) = true := by
        intro ht y hyw hy
        subst hyw
        match t, ht, ok with
        | t + 2, ht, ok =>
          simp only [Bool.and_eq_true, Bool.or_eq_true, Bool.not_eq_true', Bool.false_and, Bool.not_false, Bool.true_and, Bool.false_or, Nat.beq_eq] at ok
          obtain ⟨⟨⟨⟨⟨⟨-, -⟩, a3⟩, -⟩, -⟩, -⟩, a7⟩ := ok
          have hf0 : f' ≠ 0 := by
            intro z
            rw [z] at a3
            exact absurd a3 (by decide)
          split at a7
          · rename_i nm hp
            refine ⟨_, hp, ?_⟩
            rcases hcr y hy hf0 with z | ⟨a, z⟩ <;> rw [z] <;> exact ⟨rfl, rfl⟩
          · rename_i nm hp
            refine ⟨_, hp, ?_⟩
            rcases hcr y hy hf0 with z | ⟨a, z⟩ <;> rw [z] <;> exact ⟨rfl, rfl⟩
          · cases a7
      rcases hst with ⟨a, b⟩ | ⟨a, b, b2⟩ | ⟨a, b⟩ | ⟨a, b, d⟩ | ⟨a, b, d⟩
      · simp only at a
        subst a b
        simp only [Bool.false_and, Bool.not_false, Bool.true_and, Bool.false_or] at ok
        exact ⟨_, of_decide_eq_true ok, rfl, rfl⟩
      · simp only at a
        subst a b
        simp only [Bool.false_and, Bool.not_false, Bool.true_and, Bool.false_or] at ok
        refine ⟨_, of_decide_eq_true ok, ?_⟩
        rcases b2 with rfl | rfl <;> exact ⟨rfl, rfl⟩
      · exact href (by omega) w rfl (by rw [b])
      · exact href (by omega) w rfl (by rw [b])
      · exact href (by omega) w rfl (by rw [b])
    have fin : ∀ H' : Heap, H'[ad v.1 v.2]? = some (cell.setSlot fd.slot (cv ad w)) → H'.size = H0.size → (∀ q, q ≠ ad v.1 v.2 → H'[q]? = H0[q]?) → W p l e R s m args below meth c H' (locs ++ [⟨ad v.1 v.2, fd.slot⟩]) (H0.size - s.heap.size) (ss (pB P) H0 - ss (pB P) s.heap) Qf (F0 m (pc + 3) lsC (st.map (cv ad))) := by
      intro H' e1 e2 e3
      have hss := ss_set (n := pB P) q1 e1 e2 e3
      have r' : Rel P ad (up h v.1 v.2 (nI (n % 100)) x) H' := put_rel r q hk hs.hd.1 hst e2 e3 hss
        (fun _ => by
          rw [hsl] at e1
          exact ⟨_, e1, q2, q3, t_set q4 hap hk (cv ad w)⟩) (fun z => by omega)
      refine W_tight (pB P) hbs ?_
      refine k _ hKx ad H' _ lsC ⟨r', Ext_up xt hkk, fun y hy => ?_, hlv, hnl, hs.tl.tl.up hkk, hls.up hkk⟩
      rcases List.mem_append.mp hy with hy | hy
      · exact hlo y hy
      · rw [List.mem_singleton.mp hy]
        exact gb
    have hlay := hts _ (clIn _ _ hcl _ (u_in_lay hk))
    unfold u_lay at hlay
    cases hfi : (clT (famT v.1).2.1 (n % 100)).2.2.2 with
    | false =>
      rw [if_neg (by rw [hfi]; decide)] at hlay
      have h6 := u_store hfc hkC hkind hlay hi hd9 hn9 hf9
      exact W.putK hx hb (f := fd) ⟨hown, hlink, ⟨_, _, _, hi⟩, hst9⟩ (by rw [q2]; exact h6) q1 q3 (by rw [hsl]; exact k2_hasslot (q4 _ hk)) rfl rfl hd fin
    | true =>
      rw [if_pos hfi] at hlay
      rw [hfi] at hfin
      simp only [Bool.not_true, Bool.false_or, Bool.and_eq_true, Nat.beq_eq] at hfin
      have hcf : m.cls = cf := by
        obtain ⟨_, _, c', _, _, _, -, -, hf', -, -, -, hown2, -⟩ := Cond.laysFinal_spec hlay
        have e1 : c' = cf := by have := hi.symm.trans hf'; simp at this; exact this.1.symm
        have hdecl : (clT (famT v.1).2.1 (n % 100)).1 = ownS (famT v.1).2.1 := by
          have := decl_ok (famT v.1).2.1 hc9 (n % 100) (by
            have := clq (f := (famT v.1).2.1 + 1) (by
              have : ∀ c, c ≤ 9 → (famT (c + 1)).1 = 1 := by decide +kernel
              exact Or.inl (this _ hc9))
            have e3 : (famT ((famT v.1).2.1 + 1)).2.1 = (famT v.1).2.1 := by
              have : ∀ c, c ≤ 9 → (famT (c + 1)).2.1 = c := by decide +kernel
              exact this _ hc9
            rw [e3, hcl] at this
            have := this.1
            simp only [Option.some.injEq, Prod.mk.injEq] at this
            omega)
          exact this
        rw [hdecl] at hown2
        rw [← e1]
        have hh : ownN mi = (famT v.1).2.1 := hfin.1
        rw [hh] at hown
        exact Option.some.inj (hown.symm.trans hown2)
      have h6 := u_fits hfc hkC hkind (Or.inr hlay) hi hd9 hn9 hf9
      exact W.putFinK hx hb hown hlink hi hst9 hcf (hin hfin.2) (by rw [q2]; exact h6) q1 q3 (by rw [hsl]; exact k2_hasslot (q4 _ hk)) rfl rfl hd fin
  · cases hm
end SND
