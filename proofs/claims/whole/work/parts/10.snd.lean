/-! branches -/
section SND
variable {P : PM} {l : Launch} {mi : Nat} {p : Program} {e : Env} {R : Room} {s : State} {m : MethodId} {args : Array Value} {below : List Frame} {meth : Method} {c : Code} {h0 : HP} {ad0 : AD} {Qf : State → Prop} {pc nx : Nat} {ls st : List AV} {h : HP}
theorem g_icmp {cc : ClassFile.Cond} {t : Int} {x y : Int32} (cx : CX P mi p R s m args meth c) (di : DI mi pc nx (.if_icmp cc t)) (k : cmpI cc x y (WG P l mi p e R s m args below meth c h0 ad0 Qf t.toNat ls st h) (WG P l mi p e R s m args below meth c h0 ad0 Qf nx ls st h)) : WG P l mi p e R s m args below meth c h0 ad0 Qf pc ls ((0, y) :: (0, x) :: st) h := by
  obtain ⟨hx, hb, -⟩ := cx
  obtain ⟨w, len, hd, hnx, hl, hm⟩ := di
  subst hnx
  intro ad H locs lsC iv
  obtain ⟨r, xt, hlo, hlv, hnl, hs, hls⟩ := iv
  have iv' : IV P mi h0 ad0 ad h H locs lsC ls st := ⟨r, xt, hlo, hlv, hnl, hs.tl.tl, hls⟩
  simp only [mtc] at hm
  split at hm
  · obtain ⟨rfl, h2, h3⟩ := of_decide_eq_true hm
    obtain rfl : len = 3 := hl.resolve_left Bool.false_ne_true
    have ht : (pc : Int) + _ = (t.toNat : Int) := h2.trans (Int.toNat_of_nonneg h3).symm
    rename_i cc' o
    cases cc' with
    | eq => exact lv_icmp_eq hx hb hd ht (fun q => k.1 q ad H locs lsC iv') (fun q => k.2 q ad H locs lsC iv')
    | ne => exact lv_icmp_ne hx hb hd ht (fun q => k.1 q ad H locs lsC iv') (fun q => k.2 q ad H locs lsC iv')
    | lt => exact lv_icmp_lt hx hb hd ht (fun q => k.1 q ad H locs lsC iv') (fun q => k.2 q ad H locs lsC iv')
    | ge => exact lv_icmp_ge hx hb hd ht (fun q => k.1 q ad H locs lsC iv') (fun q => k.2 q ad H locs lsC iv')
    | gt => exact lv_icmp_gt hx hb hd ht (fun q => k.1 q ad H locs lsC iv') (fun q => k.2 q ad H locs lsC iv')
    | le => exact lv_icmp_le hx hb hd ht (fun q => k.1 q ad H locs lsC iv') (fun q => k.2 q ad H locs lsC iv')
  · cases hm
theorem g_if {cc : ClassFile.Cond} {t : Int} {x : Int32} (cx : CX P mi p R s m args meth c) (di : DI mi pc nx (.ifCond cc t)) (k : cmpI cc x 0 (WG P l mi p e R s m args below meth c h0 ad0 Qf t.toNat ls st h) (WG P l mi p e R s m args below meth c h0 ad0 Qf nx ls st h)) : WG P l mi p e R s m args below meth c h0 ad0 Qf pc ls ((0, x) :: st) h := by
  obtain ⟨hx, hb, -⟩ := cx
  obtain ⟨w, len, hd, hnx, hl, hm⟩ := di
  subst hnx
  intro ad H locs lsC iv
  obtain ⟨r, xt, hlo, hlv, hnl, hs, hls⟩ := iv
  have iv' : IV P mi h0 ad0 ad h H locs lsC ls st := ⟨r, xt, hlo, hlv, hnl, hs.tl, hls⟩
  simp only [mtc] at hm
  split at hm
  · obtain ⟨rfl, h2, h3⟩ := of_decide_eq_true hm
    obtain rfl : len = 3 := hl.resolve_left Bool.false_ne_true
    have ht : (pc : Int) + _ = (t.toNat : Int) := h2.trans (Int.toNat_of_nonneg h3).symm
    rename_i cc' o
    cases cc' with
    | eq => exact lv_if_eq hx hb hd ht (fun q => k.1 q ad H locs lsC iv') (fun q => k.2 q ad H locs lsC iv')
    | ne => exact lv_if_ne hx hb hd ht (fun q => k.1 q ad H locs lsC iv') (fun q => k.2 q ad H locs lsC iv')
    | lt => exact lv_if_lt hx hb hd ht (fun q => k.1 q ad H locs lsC iv') (fun q => k.2 q ad H locs lsC iv')
    | ge => exact lv_if_ge hx hb hd ht (fun q => k.1 q ad H locs lsC iv') (fun q => k.2 q ad H locs lsC iv')
    | gt => exact lv_if_gt hx hb hd ht (fun q => k.1 q ad H locs lsC iv') (fun q => k.2 q ad H locs lsC iv')
    | le => exact lv_if_le hx hb hd ht (fun q => k.1 q ad H locs lsC iv') (fun q => k.2 q ad H locs lsC iv')
  · cases hm
theorem g_goto {t : Int} (cx : CX P mi p R s m args meth c) (di : DI mi pc nx (.goto t)) (k : WG P l mi p e R s m args below meth c h0 ad0 Qf t.toNat ls st h) : WG P l mi p e R s m args below meth c h0 ad0 Qf pc ls st h := by
  obtain ⟨hx, hb, -⟩ := cx
  obtain ⟨w, len, hd, hnx, hl, hm⟩ := di
  subst hnx
  simp only [mtc] at hm
  split at hm
  · obtain ⟨h2, h3⟩ := of_decide_eq_true hm
    obtain rfl : len = 3 := hl.resolve_left Bool.false_ne_true
    have ht : (pc : Int) + _ = (t.toNat : Int) := h2.trans (Int.toNat_of_nonneg h3).symm
    exact g_st (fun ad H locs lsC a b _ _ _ z => lv_goto hx hb hd ht z) (fun q _ => q) k
  · cases hm
theorem g_ifnull {t : Int} {v : AV} (cx : CX P mi p R s m args meth c) (di : DI mi pc nx (.ifnull t)) (hv : refTag v.1 = true) (k : (v.2 = -1 → WG P l mi p e R s m args below meth c h0 ad0 Qf t.toNat ls st h) ∧ (¬ v.2 = -1 → WG P l mi p e R s m args below meth c h0 ad0 Qf nx ls st h)) : WG P l mi p e R s m args below meth c h0 ad0 Qf pc ls (v :: st) h := by
  obtain ⟨hx, hb, -⟩ := cx
  obtain ⟨w, len, hd, hnx, hl, hm⟩ := di
  subst hnx
  simp only [mtc] at hm
  split at hm
  · obtain ⟨h2, h3⟩ := of_decide_eq_true hm
    obtain rfl : len = 3 := hl.resolve_left Bool.false_ne_true
    have ht : (pc : Int) + _ = (t.toNat : Int) := h2.trans (Int.toNat_of_nonneg h3).symm
    by_cases hj : v.2 = -1
    · refine g_st (fun ad H locs lsC a b _ _ _ z => ?_) (fun q _ => q.tl) (k.1 hj)
      rw [List.map_cons, cv_r hv, if_pos hj]
      exact lv_ifnullN hx hb hd ht z
    · refine g_st (fun ad H locs lsC a b _ _ _ z => ?_) (fun q _ => q.tl) (k.2 hj)
      rw [List.map_cons, cv_r hv, if_neg hj]
      exact lv_ifnull hx hb hd z
  · cases hm
theorem g_ifnonnull {t : Int} {v : AV} (cx : CX P mi p R s m args meth c) (di : DI mi pc nx (.ifnonnull t)) (hv : refTag v.1 = true) (k : (¬ v.2 = -1 → WG P l mi p e R s m args below meth c h0 ad0 Qf t.toNat ls st h) ∧ (v.2 = -1 → WG P l mi p e R s m args below meth c h0 ad0 Qf nx ls st h)) : WG P l mi p e R s m args below meth c h0 ad0 Qf pc ls (v :: st) h := by
  obtain ⟨hx, hb, -⟩ := cx
  obtain ⟨w, len, hd, hnx, hl, hm⟩ := di
  subst hnx
  simp only [mtc] at hm
  split at hm
  · obtain ⟨h2, h3⟩ := of_decide_eq_true hm
    obtain rfl : len = 3 := hl.resolve_left Bool.false_ne_true
    have ht : (pc : Int) + _ = (t.toNat : Int) := h2.trans (Int.toNat_of_nonneg h3).symm
    by_cases hj : v.2 = -1
    · refine g_st (fun ad H locs lsC a b _ _ _ z => ?_) (fun q _ => q.tl) (k.2 hj)
      rw [List.map_cons, cv_r hv, if_pos hj]
      exact lv_ifnonnullN hx hb hd z
    · refine g_st (fun ad H locs lsC a b _ _ _ z => ?_) (fun q _ => q.tl) (k.1 hj)
      rw [List.map_cons, cv_r hv, if_neg hj]
      exact lv_ifnonnull hx hb hd ht z
  · cases hm
def opt (ad : AD) (v : AV) : Option Nat := if v.2 = -1 then none else some (ad v.1 v.2)
theorem cv_opt {ad : AD} {v : AV} (hv : refTag v.1 = true) : cv ad v = va_rf (opt ad v) := by
  rw [cv_r hv]
  unfold opt
  split <;> rfl
theorem opt_eq {ad : AD} {H : Heap} (r : Rel P ad h H) {x y : AV} (hx : vd h x) (hy : vd h y) (hr : refTag x.1 = true) (ht : x.1 = y.1) : opt ad x = opt ad y ↔ x.2 = y.2 := by
  have key : ∀ v : AV, vd h v → v.1 = x.1 → v.2 = -1 ∨ fl h x.1 v.2 ∨ (v = (85, 0)) := by
    intro v hv e
    rcases hv with hv | hv | hv | hv
    · rw [← e, hv] at hr
      exact absurd hr (by decide)
    · exact Or.inr (Or.inl (e ▸ hv))
    · exact Or.inl hv.2
    · exact Or.inr (Or.inr hv)
  constructor
  · intro q
    by_cases a1 : x.2 = -1
    · by_cases a2 : y.2 = -1
      · rw [a1, a2]
      · simp [opt, a1, a2] at q
    · by_cases a2 : y.2 = -1
      · simp [opt, a1, a2] at q
      · simp only [opt, if_neg a1, if_neg a2, Option.some.injEq, ← ht] at q
        rcases key x hx rfl with b | b | b
        · exact absurd b a1
        · rcases key y hy ht.symm with d | d | d
          · exact absurd d a2
          · exact (r.2.2.2.2.2.2.2.1 _ _ _ _ b d q).2
          · exact absurd (ht.trans (by rw [d])) (fl_ne85 b)
        · rcases key y hy ht.symm with d | d | d
          · exact absurd d a2
          · exact absurd (by rw [b]) (fl_ne85 d)
          · rw [b, d]
  · intro q
    simp only [opt, ht, q]
theorem g_acmp {cc : ACond} {t : Int} {x y : AV} (cx : CX P mi p R s m args meth c) (di : DI mi pc nx (.if_acmp cc t)) (hr : refTag x.1 = true) (ht : x.1 = y.1)
    (k : match cc with
      | .eq => (x.2 = y.2 → WG P l mi p e R s m args below meth c h0 ad0 Qf t.toNat ls st h) ∧ (¬ x.2 = y.2 → WG P l mi p e R s m args below meth c h0 ad0 Qf nx ls st h)
      | .ne => (¬ x.2 = y.2 → WG P l mi p e R s m args below meth c h0 ad0 Qf t.toNat ls st h) ∧ (x.2 = y.2 → WG P l mi p e R s m args below meth c h0 ad0 Qf nx ls st h)) : WG P l mi p e R s m args below meth c h0 ad0 Qf pc ls (y :: x :: st) h := by
  obtain ⟨hx, hb, -⟩ := cx
  obtain ⟨w, len, hd, hnx, hl, hm⟩ := di
  subst hnx
  simp only [mtc] at hm
  split at hm
  · obtain ⟨rfl, h2, h3⟩ := of_decide_eq_true hm
    obtain rfl : len = 3 := hl.resolve_left Bool.false_ne_true
    have hta : (pc : Int) + _ = (t.toNat : Int) := h2.trans (Int.toNat_of_nonneg h3).symm
    intro ad H locs lsC iv
    obtain ⟨r, xt, hlo, hlv, hnl, hs, hls⟩ := iv
    have iv' : IV P mi h0 ad0 ad h H locs lsC ls st := ⟨r, xt, hlo, hlv, hnl, hs.tl.tl, hls⟩
    have hq := opt_eq r hs.tl.hd.1 hs.hd.1 hr ht
    rw [List.map_cons, List.map_cons, cv_opt hr, cv_opt (v := y) (by rw [← ht]; exact hr)]
    rename_i cc' o
    cases cc' with
    | eq => exact lv_acmp_eq hx hb hd hta (fun q => k.1 (hq.mp q) ad H locs lsC iv') (fun q => k.2 (fun z => q (hq.mpr z)) ad H locs lsC iv')
    | ne => exact lv_acmp_ne hx hb hd hta (fun q => k.1 (fun z => q (hq.mpr z)) ad H locs lsC iv') (fun q => k.2 (hq.mp q) ad H locs lsC iv')
  · cases hm
theorem i32_of {a : Int} (h1 : -1000 ≤ a) (h2 : a ≤ 1000) {x : Int32} : x = Int32.ofInt a ↔ x.toInt = a := by
  constructor
  · intro e
    rw [e, Int32.toInt_ofInt_of_le (by omega) (by omega)]
  · intro e
    rw [← e, Int32.ofInt_toInt]
theorem swc_look {K : Nat → Prop} {d' : Int} {x : Int32} {pc : Nat} : ∀ {ps : List (Int × Int)}, (∀ q ∈ ps, -1000 ≤ q.1 ∧ q.1 ≤ 1000) → swc x K ((pc : Int) + d') (ps.map fun q => (q.1, (pc : Int) + q.2)) → K ((pc : Int) + Op.lookupswitch.offset ps d' x.toInt).toNat
  | [], _, H => H
  | (a, o) :: r, hr, H => by
    have hb := hr (a, o) List.mem_cons_self
    rw [Op.lookupswitch.offset_cons]
    by_cases hxa : x = Int32.ofInt a
    · rw [if_pos (by first | exact (i32_of hb.1 hb.2).mp hxa | exact ((i32_of hb.1 hb.2).mp hxa).symm)]
      exact H.1 hxa
    · rw [if_neg (by first | exact (fun z => hxa ((i32_of hb.1 hb.2).mpr z)) | exact (fun z => hxa ((i32_of hb.1 hb.2).mpr z.symm)))]
      exact swc_look (fun q hq => hr q (List.mem_cons_of_mem _ hq)) (H.2 hxa)
theorem swc_tabO {K : Nat → Prop} {d : Int} {x : Int32} {pc : Nat} : ∀ {offs : List Int} {lo : Int}, -1000 ≤ lo → lo + offs.length ≤ 1001 → (x.toInt < lo ∨ lo + offs.length ≤ x.toInt) → swc x K d (tabL pc lo offs) → K d.toNat
  | [], _, _, _, _, H => H
  | o :: r, lo, h1, h2, hx, H => by
    simp only [List.length_cons] at h2 hx
    refine swc_tabO (lo := lo + 1) (by omega) (by omega) (by omega) (H.2 fun z => ?_)
    have := (i32_of (by omega) (by omega)).mp z
    omega
theorem swc_tabI {K : Nat → Prop} {d o : Int} {x : Int32} {pc : Nat} : ∀ {offs : List Int} {lo : Int}, -1000 ≤ lo → lo + offs.length ≤ 1001 → lo ≤ x.toInt → offs[(x.toInt - lo).toNat]? = some o → swc x K d (tabL pc lo offs) → K ((pc : Int) + o).toNat
  | [], _, _, _, _, ho, _ => by simp at ho
  | o' :: r, lo, h1, h2, hx, ho, H => by
    simp only [List.length_cons] at h2
    by_cases e : x.toInt = lo
    · rw [e, Int.sub_self] at ho
      simp only [Int.toNat_zero, List.getElem?_cons_zero, Option.some.injEq] at ho
      rw [← ho]
      exact H.1 ((i32_of (by omega) (by omega)).mpr e)
    · refine swc_tabI (lo := lo + 1) (by omega) (by omega) (by omega) ?_ (H.2 fun z => e ((i32_of (by omega) (by omega)).mp z))
      rw [show (x.toInt - lo).toNat = (x.toInt - (lo + 1)).toNat + 1 by omega, List.getElem?_cons_succ] at ho
      exact ho
theorem g_switch {d : Int} {ps : Array (Int × Int)} {x : Int32} (cx : CX P mi p R s m args meth c) (di : DI mi pc nx (.lookupswitch d ps)) (k : swc x (fun t => WG P l mi p e R s m args below meth c h0 ad0 Qf t ls st h) d ps.toList) : WG P l mi p e R s m args below meth c h0 ad0 Qf pc ls ((0, x) :: st) h := by
  obtain ⟨hx, hb, -⟩ := cx
  obtain ⟨w, len, hd, hnx, hl, hm⟩ := di
  subst hnx
  simp only [mtc] at hm
  split at hm
  · rename_i d' lo hi offs
    obtain ⟨h1, h2, h3, h4, h5, h6, h7⟩ := of_decide_eq_true hm
    rw [h3] at k h7
    by_cases hin : x.toInt < lo ∨ hi < x.toInt
    · have kk := swc_tabO (K := fun t => WG P l mi p e R s m args below meth c h0 ad0 Qf t ls st h) h5 (by omega) (by omega) k
      exact g_st (fun ad H locs lsC a b _ _ _ z => lv_tableOut hx hb hd hin (h1.trans (Int.toNat_of_nonneg h2).symm) z) (fun q _ => q.tl) kk
    · have q1 : ¬ x.toInt < lo := fun z => hin (Or.inl z)
      have q2 : ¬ hi < x.toInt := fun z => hin (Or.inr z)
      have hlt : (x.toInt - lo).toNat < offs.toList.length := by omega
      have ho : offs.toList[(x.toInt - lo).toNat]? = some offs.toList[(x.toInt - lo).toNat] := List.getElem?_eq_getElem hlt
      have kk := swc_tabI (K := fun t => WG P l mi p e R s m args below meth c h0 ad0 Qf t ls st h) h5 (by omega) (by omega) ho k
      have hpos : 0 ≤ (pc : Int) + offs.toList[(x.toInt - lo).toNat] := by
        have mem : ∀ (os : List Int) (lo : Int) (o : Int), o ∈ os → ∃ a, (a, (pc : Int) + o) ∈ tabL pc lo os := by
          intro os
          induction os with
          | nil => intro lo o h; cases h
          | cons a t ih =>
            intro lo o h
            rcases List.mem_cons.mp h with rfl | h
            · exact ⟨lo, List.mem_cons_self⟩
            · obtain ⟨b, hb⟩ := ih (lo + 1) o h
              exact ⟨b, List.mem_cons_of_mem _ hb⟩
        obtain ⟨a, ha⟩ := mem offs.toList lo _ (List.getElem_mem hlt)
        exact h7 _ ha
      exact g_st (fun ad H locs lsC a b _ _ _ z => lv_tableIn hx hb hd q1 q2 (by rw [← Array.getElem?_toList]; exact ho) (Int.toNat_of_nonneg hpos).symm z) (fun q _ => q.tl) kk
  · rename_i d' ps'
    obtain ⟨h1, h2, h3, h4, h5⟩ := of_decide_eq_true hm
    rw [h3] at k h4
    rw [← h1] at k
    have kk := swc_look (K := fun t => WG P l mi p e R s m args below meth c h0 ad0 Qf t ls st h) (fun q hq => (h4 _ (List.mem_map_of_mem hq)).2) k
    have hpos : 0 ≤ (pc : Int) + Op.lookupswitch.offset ps'.toList d' x.toInt := by
      have gen : ∀ os : List (Int × Int), (∀ q ∈ os.map (fun q => (q.1, (pc : Int) + q.2)), 0 ≤ q.2 ∧ -1000 ≤ q.1 ∧ q.1 ≤ 1000) → 0 ≤ (pc : Int) + Op.lookupswitch.offset os d' x.toInt := by
        intro os
        induction os with
        | nil =>
          intro _
          show 0 ≤ (pc : Int) + d'
          omega
        | cons a t ih =>
          intro hq
          obtain ⟨a1, a2⟩ := a
          rw [Op.lookupswitch.offset_cons]
          split
          · exact (hq (a1, (pc : Int) + a2) List.mem_cons_self).1
          · exact ih fun q z => hq q (List.mem_cons_of_mem _ z)
      exact gen _ h4
    exact g_st (fun ad H locs lsC a b _ _ _ z => lv_lookup hx hb hd h5 rfl (Int.toNat_of_nonneg hpos).symm z) (fun q _ => q.tl) kk
  · cases hm
end SND
