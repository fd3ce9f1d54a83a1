/-! the machine comes to what the abstract one comes to -/
section SND
variable {P : PM} {l : Launch} {mi : Nat} {p : Program} {e : Env} {R : Room} {s : State} {m : MethodId} {args : Array Value} {below : List Frame} {meth : Method} {c : Code} {h0 : HP} {ad0 : AD} {Qf : State → Prop} {pc nx : Nat} {ls st : List AV} {h : HP}
theorem g_max {x y : Int32} (cx : CX P mi p R s m args meth c) (di : DI mi pc nx .ior) (h8 : st.length ≤ 8) (k : WG P l mi p e R s m args below meth c h0 ad0 Qf nx ls ((0, if x < y then y else x) :: st) h) : WG P l mi p e R s m args below meth c h0 ad0 Qf pc ls ((0, y) :: (0, x) :: st) h := by
  obtain ⟨hx, hb, hml, hown, hts, hr, hlk, hni, hK, hbs, hfr', hlo', hs1, hs2, hRc, hRs⟩ := cx
  obtain ⟨w, len, hd, hnx, hl, hm⟩ := di
  subst hnx
  simp only [mtc] at hm
  split at hm
  · rename_i index
    obtain rfl : len = 3 := hl.resolve_left Bool.false_ne_true
    simp only [Bool.and_eq_true] at hm
    obtain ⟨⟨hm, m1⟩, m2⟩ := hm
    have m1 := Nat.le_of_ble_eq_true m1
    have m2 := Nat.le_of_ble_eq_true m2
    intro ad H locs lsC iv
    obtain ⟨r, xt, hlo, hlv, hnl, hs, hls⟩ := iv
    have rb1 := r.2.2.2.2.1
    have rb2 := r.2.2.2.2.2.1
    have hz := k ad H locs lsC ⟨r, xt, hlo, hlv, hnl, hs.tl.tl.int _, hls⟩
    refine W_facts (pB P) hbs fun hsz hsss => ?_
    exact va_mmax hx hb (by rw [hml]; exact hlv.1.symm) hown (hts _ (mw_g hm)) (hts _ (st_g (m := 154) (by decide +kernel))) (hts _ (ini_g (c := 11) (by decide))) (hts _ (cd_g (m := 154) (by decide))) (by omega) (by rw [cat_sum]; omega) (by omega) (by omega) hd hz
  · cases hm
theorem g_fmod {x y : Int32} (cx : CX P mi p R s m args meth c) (di : DI mi pc nx .ishl) (h8 : st.length ≤ 8) (hy : ¬ y = 0) (k : WG P l mi p e R s m args below meth c h0 ad0 Qf nx ls ((0, fmd x y) :: st) h) : WG P l mi p e R s m args below meth c h0 ad0 Qf pc ls ((0, y) :: (0, x) :: st) h := by
  obtain ⟨hx, hb, hml, hown, hts, hr, hlk, hni, hK, hbs, hfr', hlo', hs1, hs2, hRc, hRs⟩ := cx
  obtain ⟨w, len, hd, hnx, hl, hm⟩ := di
  subst hnx
  simp only [mtc] at hm
  split at hm
  · rename_i index
    obtain rfl : len = 3 := hl.resolve_left Bool.false_ne_true
    simp only [Bool.and_eq_true] at hm
    obtain ⟨⟨hm, m1⟩, m2⟩ := hm
    have m1 := Nat.le_of_ble_eq_true m1
    have m2 := Nat.le_of_ble_eq_true m2
    intro ad H locs lsC iv
    obtain ⟨r, xt, hlo, hlv, hnl, hs, hls⟩ := iv
    have rb1 := r.2.2.2.2.1
    have rb2 := r.2.2.2.2.2.1
    have hz := k ad H locs lsC ⟨r, xt, hlo, hlv, hnl, hs.tl.tl.int _, hls⟩
    refine W_facts (pB P) hbs fun hsz hsss => ?_
    intro T hT X
    obtain ⟨vm', X', stp⟩ := va_fmodV X hx hown (hts _ (mw_g hm)) (hts _ (st_g (m := 153) (by decide +kernel))) (hts _ (ini_g (c := 11) (by decide))) (hts _ (cd_g (m := 153) (by decide))) (g := F0 m pc lsC (((0, y) :: (0, x) :: st).map (cv ad))) rfl (by rw [hml]; exact hlv.1) (a := x) (b := y) hy (rest := st.map (cv ad)) rfl (by rw [hb]; exact hd) (by omega) (by show 2 * 0 + _ + 14 ≤ _; rw [cat_sum]; omega) (by omega) (by omega)
    obtain ⟨t, a1, b1⟩ := hz (T.setVm vm') hT X'
    exact ⟨t, stp t a1, b1⟩
  · cases hm
end SND
theorem take_rev {st : List AV} {n : Nat} {L : List AV} (h : (st.take n).reverse = L) : st = L.reverse ++ st.drop n := by
  rw [← h, List.reverse_reverse, List.take_append_drop]
def invOK (m pc : Nat) : Bool := match cX m pc with
  | some (_, .invokestatic n) => Nat.blt n 153
  | some (_, .invokevirtual n) => Nat.blt n 153
  | some (_, .invokespecial n) => Nat.blt n 153
  | _ => true
theorem invOK_all : ((List.range 156).all fun m => (List.range (szT m)).all fun pc => invOK m pc) = true := by decide +kernel
theorem invOK_at {m pc : Nat} {q : Nat × Instr} (h : cX m pc = some q) : invOK m pc = true := by
  have h' := h
  unfold cX at h'
  cases hb : (Nat.blt m 156 && Nat.blt pc (szT m)) with
  | false => rw [hb] at h'; cases h'
  | true =>
    rw [Bool.and_eq_true] at hb
    exact List.all_eq_true.mp (List.all_eq_true.mp invOK_all m (List.mem_range.mpr (Nat.le_of_ble_eq_true hb.1))) pc (List.mem_range.mpr (Nat.le_of_ble_eq_true hb.2))
theorem bne_of {a b : Nat} (h : (!Nat.beq a b) = true) : a ≠ b := by
  intro e
  rw [e] at h
  simp at h
set_option maxHeartbeats 8000000 in
theorem SX_closed (P : PM) (l : Launch) : ∀ m pc ls st h Q, stepX (SX P l) m pc ls st h Q → SX P l m pc ls st h Q := by
  intro mi pc ls st h Q H p e R s m args below meth c h0 ad0 Qf cx rh
  unfold stepX at H
  split at H
  · exact H.elim
  · rename_i nx i hc
    have di := DI.of hc
    have hin := invOK_at hc
    unfold invOK at hin
    rw [hc] at hin
    have K : ∀ pc' ls' st' h', SX P l mi pc' ls' st' h' Q → WG P l mi p e R s m args below meth c h0 ad0 Qf pc' ls' st' h' := fun pc' ls' st' h' q => q p e R s m args below meth c h0 ad0 Qf cx rh
    clear hc
    cases i
    case iconst v => exact g_iconst cx di (K _ _ _ _ H)
    case aconst_null => exact g_null cx di (K _ _ _ _ H)
    case iload n =>
      simp only [exec1] at H
      split at H
      · rename_i v hv
        obtain ⟨h1, h2⟩ := cT H
        exact g_iload cx di hv h1 (K _ _ _ _ h2)
      · exact H.elim
    case aload n =>
      simp only [exec1] at H
      split at H
      · rename_i v hv
        obtain ⟨h1, h2⟩ := cT H
        exact g_aload cx di hv h1 (K _ _ _ _ h2)
      · exact H.elim
    case istore n =>
      simp only [exec1] at H
      obtain ⟨x, r, rfl, H⟩ := i1_spec H
      obtain ⟨h1, h2⟩ := cT H
      rw [Bool.and_eq_true] at h1
      exact g_istore cx di (Nat.le_of_ble_eq_true h1.1) (by simpa using h1.2) (K _ _ _ _ h2)
    case astore n =>
      match st, H with
      | v :: st, H =>
        obtain ⟨h1, h2⟩ := cT H
        simp only [Bool.and_eq_true] at h1
        exact g_astore cx di h1.1.1.1 (Nat.le_of_ble_eq_true h1.1.2) (by simpa using h1.2) (K _ _ _ _ h2)
    case iinc n d =>
      simp only [exec1] at H
      split at H
      · rename_i v hv
        obtain ⟨h1, h2⟩ := cT H
        exact g_iinc cx di hv h1 (K _ _ _ _ h2)
      · exact H.elim
    case dup =>
      match st, H with
      | v :: st, H => exact g_dup cx di (K _ _ _ _ H)
    case dup2 =>
      match st, H with
      | v :: w :: st, H => exact g_dup2 cx di (K _ _ _ _ H)
    case pop =>
      match st, H with
      | v :: st, H => exact g_pop cx di (K _ _ _ _ H)
    case iadd =>
      simp only [exec1] at H
      obtain ⟨x, y, r, rfl, H⟩ := ii_spec H
      exact g_iadd cx di (K _ _ _ _ H)
    case isub =>
      simp only [exec1] at H
      obtain ⟨x, y, r, rfl, H⟩ := ii_spec H
      exact g_isub cx di (K _ _ _ _ H)
    case imul =>
      simp only [exec1] at H
      obtain ⟨x, y, r, rfl, H⟩ := ii_spec H
      exact g_imul cx di (K _ _ _ _ H)
    case iand =>
      simp only [exec1] at H
      obtain ⟨x, y, r, rfl, H⟩ := ii_spec H
      exact g_iand cx di (K _ _ _ _ H)
    case ixor =>
      simp only [exec1] at H
      obtain ⟨x, y, r, rfl, H⟩ := ii_spec H
      exact g_ixor cx di (K _ _ _ _ H)
    case ior =>
      simp only [exec1] at H
      obtain ⟨x, y, r, rfl, H⟩ := ii_spec H
      exact g_max cx di H.1 (K _ _ _ _ H.2)
    case ishl =>
      simp only [exec1] at H
      obtain ⟨x, y, r, rfl, H⟩ := ii_spec H
      exact g_fmod cx di H.1 H.2.1 (K _ _ _ _ H.2.2)
    case idiv =>
      simp only [exec1] at H
      obtain ⟨x, y, r, rfl, H⟩ := ii_spec H
      exact g_idiv cx di H.1 (K _ _ _ _ H.2)
    case irem =>
      simp only [exec1] at H
      obtain ⟨x, y, r, rfl, H⟩ := ii_spec H
      exact g_irem cx di H.1 (K _ _ _ _ H.2)
    case if_icmp cc t =>
      simp only [exec1] at H
      obtain ⟨x, y, r, rfl, H⟩ := ii_spec H
      exact g_icmp cx di (cmpI_mono (K _ _ _ _) (K _ _ _ _) H)
    case ifCond cc t =>
      simp only [exec1] at H
      obtain ⟨x, r, rfl, H⟩ := i1_spec H
      exact g_if cx di (cmpI_mono (K _ _ _ _) (K _ _ _ _) H)
    case goto t => exact g_goto cx di (K _ _ _ _ H)
    case ifnull t =>
      match st, H with
      | v :: st, H =>
        obtain ⟨h1, h2⟩ := cT H
        exact g_ifnull cx di h1 ⟨fun a => K _ _ _ _ (h2.1 a), fun a => K _ _ _ _ (h2.2 a)⟩
    case ifnonnull t =>
      match st, H with
      | v :: st, H =>
        obtain ⟨h1, h2⟩ := cT H
        exact g_ifnonnull cx di h1 ⟨fun a => K _ _ _ _ (h2.1 a), fun a => K _ _ _ _ (h2.2 a)⟩
    case if_acmp cc t =>
      match st, H with
      | y :: x :: st, H =>
        obtain ⟨h1, h2⟩ := cT H
        rw [Bool.and_eq_true] at h1
        refine g_acmp cx di h1.1 (Nat.eq_of_beq_eq_true h1.2) ?_
        cases cc with
        | eq => exact ⟨fun a => K _ _ _ _ (h2.1 a), fun a => K _ _ _ _ (h2.2 a)⟩
        | ne => exact ⟨fun a => K _ _ _ _ (h2.1 a), fun a => K _ _ _ _ (h2.2 a)⟩
    case lookupswitch d ps =>
      simp only [exec1] at H
      obtain ⟨x, r, rfl, H⟩ := i1_spec H
      exact g_switch cx di (swc_mono (fun _ => K _ _ _ _) H)
    case getfield n =>
      match st, H with
      | v :: st, H =>
        obtain ⟨h1, h2⟩ := cT H
        exact g_getfield cx di h1 h2 fun w hw => K _ _ _ _ hw
    case putfield n =>
      match st, H with
      | w :: v :: st, H =>
        simp only [exec1] at H
        cases hb : (okF v.1 (n / 100) && !(clT (n / 100) (n % 100)).2.2.2) with
        | true =>
          simp only [hb, cond_true] at H
          obtain ⟨h1, h2⟩ := nn_spec H
          rw [Bool.and_eq_true] at hb
          exact g_putfield cx di (Or.inl ⟨hb.1, by simpa using hb.2, h1⟩) h2 fun h' hk => K _ _ _ _ hk
        | false =>
          simp only [hb, cond_false] at H
          obtain ⟨h1, h2⟩ := cT H
          exact g_putfield cx di (Or.inr h1) h2 fun h' hk => K _ _ _ _ hk
    case iaload =>
      match st, H with
      | x :: v :: st, H =>
        simp only [exec1] at H
        cases hb : (Nat.beq x.1 0 && arT v.1 0) with
        | true =>
          simp only [hb, cond_true] at H
          rw [Bool.and_eq_true] at hb
          exact g_iaload cx di hb.1 hb.2 H.1 (K _ _ _ _ H.2)
        | false =>
          simp only [hb, cond_false] at H
          obtain ⟨h1, h2⟩ := cT H
          rw [Bool.and_eq_true] at h1
          exact g_sload cx di h1.1 h1.2 h2.1 (K _ _ _ _ h2.2)
    case baload =>
      match st, H with
      | x :: v :: st, H =>
        obtain ⟨h1, h2⟩ := cT H
        rw [Bool.and_eq_true] at h1
        exact g_baload cx di h1.1 h1.2 h2.1 (K _ _ _ _ h2.2)
    case aaload =>
      match st, H with
      | x :: v :: st, H =>
        obtain ⟨h1, h2⟩ := cT H
        rw [Bool.and_eq_true] at h1
        exact g_aaload cx di h1.1 h1.2 h2.1 (K _ _ _ _ h2.2)
    case iastore =>
      match st, H with
      | w :: x :: v :: st, H =>
        obtain ⟨h1, h2⟩ := cT H
        simp only [Bool.and_eq_true] at h1
        exact g_iastore cx di h1.1.1 h1.1.2 h1.2 h2.1 (K _ _ _ _ h2.2)
    case bastore =>
      match st, H with
      | w :: x :: v :: st, H =>
        obtain ⟨h1, h2⟩ := cT H
        simp only [Bool.and_eq_true] at h1
        exact g_bastore cx di h1.1.1 h1.1.2 h1.2 h2.1 h2.2.1 (K _ _ _ _ h2.2.2)
    case aastore =>
      match st, H with
      | w :: x :: v :: st, H =>
        obtain ⟨h1, h2⟩ := cT H
        simp only [Bool.and_eq_true] at h1
        exact g_aastore cx di h1.1.1 h1.1.2 (Nat.eq_of_beq_eq_true h1.2) h2.1 h2.2.1 (K _ _ _ _ h2.2.2)
    case arraylength =>
      match st, H with
      | v :: st, H =>
        obtain ⟨h1, h2⟩ := cT H
        exact g_slen cx di h1 (K _ _ _ _ h2)
    case new n =>
      simp only [exec1] at H
      exact g_new cx di H.1 H.2.1 H.2.2.1 H.2.2.2.1 (K _ _ _ _ H.2.2.2.2)
    case anewarray f =>
      simp only [exec1] at H
      obtain ⟨x, r, rfl, H⟩ := i1_spec H
      obtain ⟨h1, h2, h3⟩ := cT H
      exact g_anew cx di (Nat.eq_of_beq_eq_true h1) h2 h3.1 h3.2.1 h3.2.2.1 h3.2.2.2.1 (K _ _ _ _ h3.2.2.2.2)
    case pop2 =>
      match st, H with
      | [v], H =>
        obtain ⟨h1, h2⟩ := cT H
        exact g_objinit cx di h1 (K _ _ _ _ h2)
    case invokevirtual n =>
      simp only [exec1] at H
      split at H
      · rename_i v as hta
        obtain ⟨h1, h2⟩ := cT H
        simp only [Bool.and_eq_true] at h1
        obtain ⟨⟨⟨⟨a1, a2⟩, a3⟩, a4⟩, a5⟩ := h1
        obtain ⟨b1, b2⟩ := nn_spec h2
        exact g_virt cx di (take_rev hta) (Nat.eq_of_beq_eq_true a1) (Nat.eq_of_beq_eq_true a2) (Nat.eq_of_beq_eq_true a3) a4 (Nat.le_of_ble_eq_true a5) b1 b2 (fun w h' q => K _ _ _ _ q) (Nat.le_of_ble_eq_true hin)
      · exact H.elim
    case invokestatic n =>
      simp only [exec1] at H
      obtain ⟨h1, h2⟩ := cT H
      simp only [Bool.and_eq_true] at h1
      obtain ⟨⟨⟨a2, a3⟩, a4⟩, a5⟩ := h1
      exact g_stat cx di (take_rev rfl) (Nat.eq_of_beq_eq_true a2) (by rw [List.length_reverse]; exact Nat.eq_of_beq_eq_true a3) (Nat.le_of_ble_eq_true a5) h2 (fun w h' q => K _ _ _ _ q) (Nat.le_of_ble_eq_true hin)
    case invokespecial n =>
      simp only [exec1] at H
      split at H
      · rename_i v as u rest hta hdr
        obtain ⟨h1, h2, h3⟩ := cT H
        simp only [Bool.and_eq_true] at h1
        obtain ⟨⟨⟨⟨⟨⟨⟨⟨a1, a2⟩, a3⟩, a4⟩, a5⟩, a6⟩, a7⟩, a8⟩, a9⟩ := h1
        have est := take_rev hta
        rw [hdr] at est
        exact g_spec (K := fun _ h' => SX P l mi nx ls ((v.1 - 10, v.2) :: rest) (slz h' v.1 v.2) Q) cx di est (Nat.eq_of_beq_eq_true a1) (Prod.ext (Nat.eq_of_beq_eq_true a2) h2) (Nat.eq_of_beq_eq_true a3) (Nat.eq_of_beq_eq_true a4) (Nat.le_of_ble_eq_true a6) a7 (fun w hw => bne_of (List.all_eq_true.mp a8 w hw)) (fun w hw => bne_of (List.all_eq_true.mp a9 w hw)) h3 (fun h' q => K _ _ _ _ q) (Nat.le_of_ble_eq_true hin)
      · exact H.elim
    case ireturn =>
      match st, H with
      | [v], H =>
        obtain ⟨hd, rfl⟩ := di.same (fun _ => rfl) rfl rfl
        intro ad H9 locs lsC iv
        simp only [exec1] at H
        cases hb : (Nat.beq v.1 0 && Nat.beq (rtyT mi) 1) with
        | true =>
          simp only [hb, cond_true] at H
          rw [Bool.and_eq_true] at hb
          exact rh (some v) h ad H9 locs lsC pc H iv.1 iv.2.1 iv.2.2.1 (fun w hw => by rw [List.mem_singleton.mp hw, beq0 hb.1]; exact ⟨Or.inl rfl, raw0⟩) (Or.inl ⟨hb.1, hd, Or.inl (Nat.eq_of_beq_eq_true hb.2)⟩)
        | false =>
          simp only [hb, cond_false] at H
          obtain ⟨h1, h2, h3⟩ := cT H
          rw [Bool.and_eq_true] at h1
          exact rh (some v) h ad H9 locs lsC pc h3 iv.1 iv.2.1 iv.2.2.1 (fun w hw => by rw [List.mem_singleton.mp hw, beq0 h1.1]; exact ⟨Or.inl rfl, raw0⟩) (Or.inl ⟨h1.1, hd, Or.inr ⟨Nat.eq_of_beq_eq_true h1.2, h2⟩⟩)
    case areturn =>
      match st, H with
      | [v], H =>
        obtain ⟨hd, rfl⟩ := di.same (fun _ => rfl) rfl rfl
        obtain ⟨h1, h2⟩ := cT H
        simp only [Bool.and_eq_true] at h1
        have h12 : rawTag v.1 = false := by simpa using h1.1.2
        intro ad H9 locs lsC iv
        exact rh (some v) h ad H9 locs lsC pc h2 iv.1 iv.2.1 iv.2.2.1 (fun w hw => by rw [List.mem_singleton.mp hw]; exact ⟨(iv.2.2.2.2.2.1 v List.mem_cons_self).1, h12⟩) (Or.inr ⟨h1.1.1, h12, hd, Nat.eq_of_beq_eq_true h1.2⟩)
    case return_ =>
      match st, H with
      | [], H =>
        obtain ⟨hd, rfl⟩ := di.same (fun _ => rfl) rfl rfl
        obtain ⟨h1, h2⟩ := cT H
        intro ad H9 locs lsC iv
        exact rh none h ad H9 locs lsC pc h2 iv.1 iv.2.1 iv.2.2.1 (fun w hw => by cases hw) ⟨hd, Nat.eq_of_beq_eq_true h1⟩
    all_goals exact H.elim
/-- what the abstract machine comes to, the machine comes to -/
theorem SX_of {P : PM} {l : Launch} {m pc : Nat} {ls st : List AV} {h : HP} {Q : Option AV → HP → Prop} (H : WPc m pc ls st h Q) : SX P l m pc ls st h Q := H (SX P l) (SX_mon P l) (SX_closed P l)
