/-! makings -/
theorem W_facts {p : Program} {l : Launch} {e : Env} {R : Room} {s : State} {m : MethodId} {args : Array Value} {below : List Frame} {meth : Method} {c : Code} {H : Heap} {locs : List Loc} {cells slots : Nat} {Q : State → Prop} {g : JFrame} (base : Nat) (hb : base ≤ s.heap.size)
    (k : s.heap.size ≤ H.size → ss base s.heap ≤ ss base H → W p l e R s m args below meth c H locs cells slots Q g) : W p l e R s m args below meth c H locs cells slots Q g := by
  intro T hT X
  obtain ⟨h1, h2, h3, h4, h5, h6⟩ := X.same
  have g1 : s.heap.size ≤ T.heap.size := h2
  have g2 : ss base s.heap ≤ ss base T.heap := by
    have e1 := ss_split (H := T.heap) hb
    have e2 := ss_split (H := s.heap) hb
    have e3 : ss s.heap.size s.heap = 0 := by
      unfold ss
      rw [List.drop_eq_nil_of_le (by simp)]
      rfl
    have e4 : ((T.heap.toList.drop base).take (s.heap.size - base)).map (·.slots.size) = ((s.heap.toList.drop base).take (s.heap.size - base)).map (·.slots.size) := by
      apply List.ext_getElem?
      intro i
      simp only [List.getElem?_map, List.getElem?_take, List.getElem?_drop, Array.getElem?_toList]
      by_cases hi : i < s.heap.size - base
      · rw [if_pos hi, if_pos hi]
        have hlt : base + i < s.heap.size := by omega
        obtain ⟨c', g1, -, g3, -⟩ := h6 (base + i) s.heap[base + i] (Array.getElem?_eq_getElem hlt)
        have g1 : T.heap[base + i]? = some c' := g1
        rw [g1, Array.getElem?_eq_getElem hlt]
        simp [g3]
      · rw [if_neg hi, if_neg hi]
    rw [e4] at e1
    omega
  rw [hT] at g1 g2
  exact k g1 g2 T hT X
theorem fresh_room {P : PM} {ad : AD} {h : HP} {H : Heap} (r : Rel P ad h H) {n : Nat} (hn : n ≤ 4800) (hrm : h 0 0 0 + 1 ≤ 600000) (hrs : h 0 0 1 + nI n ≤ 7302250) : H.size + 1 ≤ pB P + 600000 ∧ ss (pB P) H + n ≤ 7302250 := by
  obtain ⟨r1, r2, r3, r4, r5, r6, -⟩ := r
  constructor
  · have := Int32.le_iff_toInt_le.mp hrm
    rw [i32_add1 r3 (by omega) (by omega), show (600000 : Int32).toInt = 600000 from by decide] at this
    omega
  · have := Int32.le_iff_toInt_le.mp hrs
    rw [i32_addn r4 (by omega) (by omega) hn, show (7302250 : Int32).toInt = 7302250 from by decide] at this
    omega
theorem SV.ext {h h' h0 : HP} {ad ad' : AD} {ls st : List AV} (x : Ext h ad h' ad') (q : SV h h0 ls st) : SV h' h0 ls st := fun v hv => ⟨vd_ext x (q v hv).1, (q v hv).2⟩
theorem LV.ext {h h' : HP} {ad ad' : AD} {ls : List AV} (x : Ext h ad h' ad') (q : LV h ls) : LV h' ls := fun v hv => (q v hv).imp id (vd_ext x)
theorem push_get (H : Heap) (c : Cell) : (H.push c)[H.size]? = some c := by simp
theorem push_old (H : Heap) (c : Cell) (q : Nat) (hq : q < H.size) : (H.push c)[q]? = H[q]? := by
  rw [Array.getElem?_push, if_neg (Nat.ne_of_lt hq)]
section SND
variable {P : PM} {l : Launch} {mi : Nat} {p : Program} {e : Env} {R : Room} {s : State} {m : MethodId} {args : Array Value} {below : List Frame} {meth : Method} {c : Code} {h0 : HP} {ad0 : AD} {Qf : State → Prop} {pc nx : Nat} {ls st : List AV} {h : HP}
theorem g_new {n : Nat} {j : Int32} (cx : CX P mi p R s m args meth c) (di : DI mi pc nx (.new n)) (hj : ¬ j = -1) (hfr : ¬ h (siteF n + 10) j (-1) = 1) (hrm : h 0 0 0 + 1 ≤ 600000) (hrs : h 0 0 1 + nI (famT (siteF n + 10)).2.2 ≤ 7302250)
    (k : WG P l mi p e R s m args below meth c h0 ad0 Qf nx ls ((siteF n + 10, j) :: st) (zap h (siteF n + 10) j (nI (famT (siteF n + 10)).2.2))) : WG P l mi p e R s m args below meth c h0 ad0 Qf pc ls st h := by
  obtain ⟨hx, hb, hml, hown, hts, hr, hlk, hni, hK, hbs, hfr', hlo', hs1, hs2, hRc, hRs⟩ := cx
  obtain ⟨w, len, hd, hnx, hl, hm⟩ := di
  subst hnx
  simp only [mtc] at hm
  split at hm
  · rename_i index
    obtain rfl : len = 3 := hl.resolve_left Bool.false_ne_true
    simp only [Bool.and_eq_true] at hm
    obtain ⟨⟨hm, m1⟩, m2⟩ := hm
    have m1 := Nat.le_of_ble_eq_true m1
    have m2 := Nat.le_of_ble_eq_true m2
    generalize siteF n = f at *
    have hraw : (famT (f + 10)).1 = 2 ∧ (famT (f + 10)).2.1 = f - 1 ∧ (famT (f + 10)).2.2 = (famT f).2.2 := by
      have : ∀ f, f < 11 → 1 ≤ f → (famT (f + 10)).1 = 2 ∧ (famT (f + 10)).2.1 = f - 1 ∧ (famT (f + 10)).2.2 = (famT f).2.2 := by decide +kernel
      exact this f (by omega) m1
    obtain ⟨hf2, hfc1, hfn⟩ := hraw
    intro ad H locs lsC iv
    obtain ⟨r, xt, hlo, hlv, hnl, hs, hls⟩ := iv
    have hn := n_small (f := f + 10) (by omega)
    obtain ⟨rm1, rm2⟩ := fresh_room r hn hrm hrs
    obtain ⟨hcl, hc9⟩ := clq (Or.inr hf2)
    have hKn := hK.1.1 _ _ hcl
    obtain ⟨ty, hty, -⟩ := clTy _ _ hcl
    refine W_facts (pB P) hbs fun hsz hsss => ?_
    refine W.newc hx hb hown (C := ownS (f - 1)) (n := (famT (f + 10)).2.2) (hts _ (cw_g hm)) (by have := hts _ (inst_g (c := f - 1) (by omega)); rw [show f - 1 + 1 = f by omega, ← hfn] at this; exact this) (hts _ (ini_g (by omega))) rfl hd (by omega) (by omega) fun cC kC c1 c2 c3 c4 => W_tight (pB P) hbs ?_
    rw [hfc1] at hKn hcl hty
    have ecC : cC = pC P (f - 1) := Option.some.inj (c1.symm.trans hKn.2.1)
    have hdv : ∀ kk, kk < (famT (f + 10)).2.2 → defaultValue (ty kk) = dvS (f + 10) kk := by
      intro kk hkk
      have ok := (sOK_at (f := f + 10) (by omega) (by omega) hkk).1
      have hp : parseFieldDescriptor (clT (famT (f + 10)).2.1 kk).2.2.1 = some (ty kk) := by rw [hfc1]; exact hty kk hkk
      unfold sOK at ok
      unfold dvS
      rw [hp, hf2] at ok
      rcases hs9 : styT (f + 10) kk with ⟨t, f', o⟩
      rw [hs9] at ok
      match t, ok with
      | 0, ok =>
        simp only [show Nat.beq 2 3 = false from rfl, Bool.false_and, Bool.false_or, Bool.not_false, Bool.true_and] at ok
        have := Option.some.inj (of_decide_eq_true ok)
        rw [this]
        rfl
      | 1, ok =>
        simp only [show Nat.beq 2 3 = false from rfl, Bool.false_and, Bool.false_or, Bool.not_false, Bool.true_and] at ok
        have := Option.some.inj (of_decide_eq_true ok)
        rw [this]
        rfl
      | t + 2, ok =>
        simp only [Bool.and_eq_true] at ok
        have h7 := ok.2
        simp only [show Nat.beq 2 3 = false from rfl, Bool.false_and, Bool.false_or, Bool.not_false, Bool.true_and] at h7
        split at h7
        · rename_i nm z
          rw [Option.some.inj z]
          rfl
        · rename_i nm z
          rw [Option.some.inj z]
          rfl
        · cases h7
    have hob : t_OB H.size (pC P (famT (f + 10)).2.1) (famT (f + 10)).2.2 (pI P (famT (f + 10)).2.1) (H.push { cls := cC, slots := kC.instanceTypes.map defaultValue, vm := .none }) (dvS (f + 10)) := by
      rw [hfc1]
      have hkC : s.vm.classes[pC P (f - 1)]? = some kC := by rw [← ecC]; exact c2
      refine (u_born ty hts (clIn _ _ hcl) hKn hkC ?_ hty).to hdv
      rw [push_get, ecC]
      rfl
    have hrel := Rel_new r (Or.inl hf2) hj hfr (H' := H.push { cls := cC, slots := kC.instanceTypes.map defaultValue, vm := .none }) (by simp) (push_old H _) (by rw [ss_push r.1, ← c4]; simp) (fun _ => hob) (fun z => by omega) hrm hrs
    obtain ⟨R1, R2, R3⟩ := hrel
    have hst : (.ref H.size :: st.map (cv ad) : List Value) = ((f + 10, j) :: st).map (cv (adN ad (f + 10) j H.size)) := by
      rw [List.map_cons, show cv (adN ad (f + 10) j H.size) (f + 10, j) = .ref H.size by rw [cv_ref R1 R3]; congr 1; exact if_pos ⟨rfl, rfl⟩, st_ext R2 fun v hv => (hs v hv).1]
    refine W.eq (g2 := F0 m (pc + 3) lsC (((f + 10, j) :: st).map (cv (adN ad (f + 10) j H.size)))) (by rw [← hst]) ?_
    refine k _ _ locs lsC ⟨R1, xt.tr R2, hlo, by rw [lp_ext R2 hls]; exact hlv, hnl, (hs.ext R2).cons (Or.inr (Or.inl R3)) (fun _ => Or.inl fun z => hfr ((xt.1 _ _ z).1).1), hls.ext R2⟩
  · cases hm
theorem g_anew {f : Nat} {x : Int32} (cx : CX P mi p R s m args meth c) (di : DI mi pc nx (.anewarray f)) (hf3 : (famT f).1 = 3) (hxl : x = lenT f) {j : Int32} (hj : ¬ j = -1) (hfr : ¬ h f j (-1) = 1) (hrm : h 0 0 0 + 1 ≤ 600000) (hrs : h 0 0 1 + lenT f ≤ 7302250)
    (k : WG P l mi p e R s m args below meth c h0 ad0 Qf nx ls ((f, j) :: st) (zap h f j (lenT f))) : WG P l mi p e R s m args below meth c h0 ad0 Qf pc ls ((0, x) :: st) h := by
  obtain ⟨hx, hb, hml, hown, hts, hr, hlk, hni, hK, hbs, hfr', hlo', hs1, hs2, hRc, hRs⟩ := cx
  obtain ⟨w, len, hd, hnx, hl, hm⟩ := di
  subst hnx
  subst hxl
  have hn := n_small (f := f) (by omega)
  have hnn : ¬ lenT f < 0 := nI_pos (by omega)
  have hcl : (lenT f).toNatClampNeg = (famT f).2.2 := nI_cl (by omega)
  obtain ⟨hc4, -, ak0, ak1, ak2⟩ := ark hf3
  have hra := (hK.1.2 _ _ (tys_at (pT P) _ hc4)).2
  have main : ∀ (ad : AD) (H : Heap) (locs : List Loc) (lsC : Array Slot) (cell : Cell) (pc' : Nat), IV P mi h0 ad0 ad h H locs lsC ls ((0, lenT f) :: st) → cell = arrV (pT P (famT f).2.1) (famT f).2.2 (dvS f) → WG P l mi p e R s m args below meth c h0 ad0 Qf pc' ls ((f, j) :: st) (zap h f j (lenT f)) →
      W p l e R s m args below meth c (H.push cell) locs ((H.push cell).size - s.heap.size) (ss (pB P) (H.push cell) - ss (pB P) s.heap) Qf (F0 m pc' lsC (.ref H.size :: st.map (cv ad))) := by
    intro ad H locs lsC cell pc' iv hcell k
    obtain ⟨r, xt, hlo, hlv, hnl, hs, hls⟩ := iv
    obtain ⟨R1, R2, R3⟩ := Rel_new r (Or.inr hf3) hj hfr (H' := H.push cell) (by simp) (push_old H _) (by rw [ss_push r.1, hcell, arrV_size]) (fun z => by omega) (fun _ => by rw [push_get, hcell]) hrm hrs
    have hst : (.ref H.size :: st.map (cv ad) : List Value) = ((f, j) :: st).map (cv (adN ad f j H.size)) := by
      rw [List.map_cons, show cv (adN ad f j H.size) (f, j) = .ref H.size by rw [cv_ref R1 R3]; congr 1; exact if_pos ⟨rfl, rfl⟩, st_ext R2 fun v hv => (hs.tl v hv).1]
    rw [hst]
    exact k _ _ locs lsC ⟨R1, xt.tr R2, hlo, by rw [lp_ext R2 hls]; exact hlv, hnl, (hs.tl.ext R2).nr (Or.inr (Or.inl R3)) (raw_of1 (by show (famT f).1 ≠ 2; omega)), hls.ext R2⟩
  simp only [mtc] at hm
  split at hm
  · rename_i t
    obtain rfl : len = 2 := hl.resolve_left Bool.false_ne_true
    rw [Bool.and_eq_true] at hm
    have hm1 := of_decide_eq_true hm.1
    have hm2 := Nat.le_of_ble_eq_true hm.2
    intro ad H locs lsC iv
    obtain ⟨rm1, rm2⟩ := fresh_room iv.1 hn hrm hrs
    refine W_facts (pB P) hbs fun hsz hsss => ?_
    have harr : (Cond.arrayClass (newarray.typeOf t)).before args s = true := by
      rw [hm1]
      have : (famT f).2.1 = 0 ∨ (famT f).2.1 = 1 := by omega
      rcases this with z | z <;> rw [z]
      · rw [show ovT 0 = .int from rfl]
        exact hts _ (in_g (obj_in _ (by simp)) rfl)
      · rw [show ovT 1 = .boolean from rfl]
        exact hts _ (in_g (obj_in _ (by simp)) rfl)
    have h4 : componentBytes (ovT (famT f).2.1) ≤ 4 := by
      have : (famT f).2.1 = 0 ∨ (famT f).2.1 = 1 := by omega
      rcases this with z | z <;> rw [z] <;> decide
    refine W.newa hx hb harr rfl hd rfl hnn (by rw [hcl, hm1]; exact Nat.le_trans (Nat.mul_le_mul hn h4) (by decide)) (by omega) (by rw [hcl]; omega) fun cA kA comp h1 h2 h3 => W_tight (pB P) hbs ?_
    refine main ad H locs lsC _ (pc + 2) iv ?_ k
    have ecA : cA = pT P (famT f).2.1 := by
      have : (famT f).2.1 = 0 ∨ (famT f).2.1 = 1 := by omega
      rw [hm1] at h1
      rcases this with z | z <;> rw [z] at h1 hra ⊢ <;> exact Option.some.inj (h1.symm.trans hra)
    rw [ecA, hcl, hm1]
    have edv : (fun _ => defaultValue (ovT (famT f).2.1)) = dvS f := by
      funext kk
      unfold dvS
      rw [styT_arr hf3]
      have : (famT f).2.1 = 0 ∨ (famT f).2.1 = 1 := by omega
      rcases this with z | z
      · rw [ak0 z, z]; rfl
      · rw [ak1 z, z]; rfl
    rw [← edv]
    exact arrV_new _ _ _
  · rename_i index
    obtain rfl : len = 3 := hl.resolve_left Bool.false_ne_true
    rw [Bool.and_eq_true] at hm
    have hm1 := Nat.le_of_ble_eq_true hm.1
    obtain ⟨k1, k2, k3, k4⟩ := ak2 hm1
    intro ad H locs lsC iv
    obtain ⟨rm1, rm2⟩ := fresh_room iv.1 hn hrm hrs
    refine W_facts (pB P) hbs fun hsz hsss => ?_
    rw [k3] at hra
    obtain ⟨-, -, -, -, -, hra⟩ := hra
    have hov : ∃ C, ovT (famT f).2.1 = .object C ∧ ownS (bif Nat.beq (famT f).2.1 2 then 1 else bif Nat.beq (famT f).2.1 3 then 3 else 7) = C ∧ va_AO C s := by
      have : (famT f).2.1 = 2 ∨ (famT f).2.1 = 3 ∨ (famT f).2.1 = 4 := by omega
      rcases this with z | z | z <;> rw [z]
      · exact ⟨_, rfl, rfl, hK.2.2.2.2.2.1⟩
      · exact ⟨_, rfl, rfl, hK.2.2.2.2.2.2.1⟩
      · exact ⟨_, rfl, rfl, hK.2.2.2.2.2.2.2⟩
    obtain ⟨C, o1, o2, o3⟩ := hov
    have hcw := hts _ (cw_g hm.2)
    unfold cwX at hcw
    rw [o2] at hcw
    have eC : ownS (famT (styT f 0).2.1).2.1 = C := by
      rw [o1] at k3
      exact (FieldType.object.inj k3).symm
    rw [eC] at hra
    refine W.anew hx hb hown hcw (va_AO.use o3) rfl hd rfl hnn (by rw [hcl]; omega) (by omega) (by rw [hcl]; omega) fun cA kA comp h1 h2 h3 h4 => W_tight (pB P) hbs ?_
    refine main ad H locs lsC _ (pc + 3) iv ?_ k
    have ecA : cA = pT P (famT f).2.1 := Option.some.inj (h1.symm.trans hra)
    rw [ecA, hcl]
    have edv : (fun _ => Value.null) = dvS f := by
      funext kk
      unfold dvS
      rw [styT_arr hf3, k1]
      rfl
    rw [← edv]
    exact arrV_new _ _ _
  · cases hm
theorem g_objinit {v : AV} (cx : CX P mi p R s m args meth c) (di : DI mi pc nx .pop2) (hv : rawTag v.1 = true) (k : WG P l mi p e R s m args below meth c h0 ad0 Qf nx ls [] h) : WG P l mi p e R s m args below meth c h0 ad0 Qf pc ls [v] h := by
  obtain ⟨hx, hb, hml, hown, hts, hr, hlk, hni, hK, hbs, hfr', hlo', hs1, hs2, hRc, hRs⟩ := cx
  obtain ⟨w, len, hd, hnx, hl, hm⟩ := di
  subst hnx
  simp only [mtc] at hm
  split at hm
  · rename_i index
    obtain rfl : len = 3 := hl.resolve_left Bool.false_ne_true
    simp only [Bool.and_eq_true] at hm
    obtain ⟨⟨hm, m1⟩, m2⟩ := hm
    have m1 := Nat.le_of_ble_eq_true m1
    have m2 := Nat.le_of_ble_eq_true m2
    have hf2 : (famT v.1).1 = 2 := Nat.eq_of_beq_eq_true hv
    refine g_st (fun ad H locs lsC a b r hlv hs z => ?_) (fun q _ => q.tl) k
    have q := fl_of hs.hd.1 (by omega) (by omega) (fun z9 => by
      exfalso
      simp only [nulT, Bool.or_eq_true, Nat.beq_eq] at z9
      rcases z9 with (z9 | z9) | z9 <;> (rw [z9] at hf2; exact absurd hf2 (by decide +kernel)))
    rw [List.map_cons, show cv ad v = .ref (ad v.1 v.2) from cv_ref r q]
    refine W.objInit hx hb hown (hts _ (ow_g hm)) (hts _ (in_g (obj_in _ (by simp)) rfl)) (hts _ (in_g (objc_in _ (by simp)) rfl)) rfl (by rw [hml]; exact hlv.1) rfl hd (by omega) ?_ ?_
    · show 2 * 0 + 0 + 12 ≤ R.locals
      omega
    · exact z
  · cases hm
end SND
