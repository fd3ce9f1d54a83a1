/-! arrays -/
theorem tys_at (tc : Nat → ClassId) (c : Nat) (hc : c ≤ 4) : (tysP tc)[c]? = some (tc c, ovT c) := by
  match c, hc with
  | 0, _ => rfl
  | 1, _ => rfl
  | 2, _ => rfl
  | 3, _ => rfl
  | 4, _ => rfl
  | n + 5, h => omega
theorem ark_all : ((List.range 86).all fun f => !Nat.beq (famT f).1 3 || (Nat.ble (famT f).2.1 4 && Nat.ble 1 (famT f).2.2 && (!Nat.beq (famT f).2.1 0 || Nat.beq (styT f 0).1 0) && (!Nat.beq (famT f).2.1 1 || Nat.beq (styT f 0).1 1) &&
  (!Nat.ble 2 (famT f).2.1 || (Nat.beq (styT f 0).1 3 && Nat.beq (famT (styT f 0).2.1).1 1 && decide (ovT (famT f).2.1 = .object (ownS (famT (styT f 0).2.1).2.1)) && nulT (styT f 0).2.1)))) = true := by decide +kernel
theorem ark {f : Nat} (h : (famT f).1 = 3) : (famT f).2.1 ≤ 4 ∧ 1 ≤ (famT f).2.2 ∧ ((famT f).2.1 = 0 → (styT f 0).1 = 0) ∧ ((famT f).2.1 = 1 → (styT f 0).1 = 1) ∧ (2 ≤ (famT f).2.1 → (styT f 0).1 = 3 ∧ (famT (styT f 0).2.1).1 = 1 ∧ ovT (famT f).2.1 = .object (ownS (famT (styT f 0).2.1).2.1) ∧ nulT (styT f 0).2.1 = true) := by
  have z := List.all_eq_true.mp ark_all f (List.mem_range.mpr (fam_lt (by omega)))
  rw [h] at z
  simp only [show Nat.beq 3 3 = true from rfl, Bool.not_true, Bool.false_or, Bool.and_eq_true, Bool.or_eq_true, Bool.not_eq_true', Nat.beq_eq] at z
  obtain ⟨⟨⟨⟨z1, z2⟩, z3⟩, z4⟩, z5⟩ := z
  refine ⟨Nat.le_of_ble_eq_true z1, Nat.le_of_ble_eq_true z2, fun q => ?_, fun q => ?_, fun q => ?_⟩
  · rcases z3 with z3 | z3
    · rw [q] at z3
      exact absurd z3 (by decide)
    · exact z3
  · rcases z4 with z4 | z4
    · rw [q] at z4
      exact absurd z4 (by decide)
    · exact z4
  · rcases z5 with z5 | z5
    · have : Nat.ble 2 (famT f).2.1 = true := Nat.ble_eq_true_of_le q
      rw [this] at z5
      cases z5
    · exact ⟨z5.1.1.1, z5.1.1.2, of_decide_eq_true z5.1.2, z5.2⟩
theorem nul_no3 {f : Nat} (h : (famT f).1 = 3) : nulT f = true → ¬ (0 : Nat) = 0 := by
  intro z
  exfalso
  simp only [nulT, Bool.or_eq_true, Nat.beq_eq] at z
  rcases z with (z | z) | z <;> (rw [z] at h; exact absurd h (by decide +kernel))
section SND
variable {P : PM} {l : Launch} {mi : Nat} {p : Program} {e : Env} {R : Room} {s : State} {m : MethodId} {args : Array Value} {below : List Frame} {meth : Method} {c : Code} {h0 : HP} {ad0 : AD} {Qf : State → Prop} {pc nx : Nat} {ls st : List AV} {h : HP}
theorem arr_fl {v : AV} (hv : vd h v) (h3 : (famT v.1).1 = 3) : fl h v.1 v.2 := fl_of hv (by omega) (by omega) fun z => absurd rfl (nul_no3 h3 z)
/-- an array's cell, its read and its place -/
theorem arr_at {ad : AD} {H : Heap} (r : Rel P ad h H) (hK : KK P s) {f : Nat} {j x : Int32} (q : fl h f j) (h3 : (famT f).1 = 3) (hin : ina x (lenT f)) :
    H[ad f j]? = some (arrV (pT P (famT f).2.1) (famT f).2.2 (sv ad h f j)) ∧ s.isArrayOf (arrV (pT P (famT f).2.1) (famT f).2.2 (sv ad h f j)) (ovT (famT f).2.1) ∧ ¬ (x < 0 ∨ (arrV (pT P (famT f).2.1) (famT f).2.2 (sv ad h f j)).slots.size ≤ x.toNatClampNeg) ∧ x.toNatClampNeg < (famT f).2.2 ∧ nI x.toNatClampNeg = x ∧
    (arrV (pT P (famT f).2.1) (famT f).2.2 (sv ad h f j)).slots[x.toNatClampNeg]? = some (sv ad h f j x.toNatClampNeg) := by
  have hn := n_small q.2.1
  obtain ⟨v1, v2, v3⟩ := ina_vp (n := (famT f).2.2) (by omega) hin
  obtain ⟨⟨-, gc⟩, -⟩ := r.2.2.2.2.2.2.1 _ _ q
  refine ⟨gc h3, (hK.1.2 _ _ (tys_at (pT P) _ (ark h3).1)).1 _ _, ?_, v2, v3, arrV_read _ _ v2⟩
  rw [arrV_size]
  exact v1
theorem g_iaload {x v : AV} (cx : CX P mi p R s m args meth c) (di : DI mi pc nx .iaload) (hx0 : Nat.beq x.1 0 = true) (hf : arT v.1 0 = true) (hin : ina x.2 (lenT v.1)) (k : WG P l mi p e R s m args below meth c h0 ad0 Qf nx ls ((0, h v.1 v.2 x.2) :: st) h) : WG P l mi p e R s m args below meth c h0 ad0 Qf pc ls (x :: v :: st) h := by
  obtain ⟨hx, hb, hml, hown, hts, hr, hlk, hni, hK, -⟩ := cx
  obtain ⟨hd, rfl⟩ := di.same (fun _ => rfl) rfl rfl
  obtain ⟨f1, f2⟩ := arT_spec hf
  refine g_st (fun ad H locs lsC a b r hlv hs z => ?_) (fun q _ => q.tl.tl.int _) k
  have q := arr_fl hs.tl.hd.1 f1
  obtain ⟨a1, a2, a3, a4, a5, a6⟩ := arr_at r hK q f1 hin
  have e1 : sv ad h v.1 v.2 x.2.toNatClampNeg = .int (h v.1 v.2 x.2) := by
    unfold sv
    rw [styT_arr f1, a5]
    have := (ark f1).2.2.1 f2
    rcases hs9 : styT v.1 0 with ⟨t, f', o⟩
    rw [hs9] at this
    simp only at this
    subst this
    rfl
  rw [e1] at a6
  rw [f2] at a2
  rw [List.map_cons, List.map_cons, cv_int' ad hx0, show cv ad v = .ref (ad v.1 v.2) from cv_ref r q]
  exact W.iald (v := .int (h v.1 v.2 x.2)) hx hb a1 (by rw [f2]; exact a2) (fun q => by cases q) a3 a6 rfl rfl hd z
theorem g_baload {x v : AV} (cx : CX P mi p R s m args meth c) (di : DI mi pc nx .baload) (hx0 : Nat.beq x.1 0 = true) (hf : arT v.1 1 = true) (hin : ina x.2 (lenT v.1)) (k : WG P l mi p e R s m args below meth c h0 ad0 Qf nx ls ((0, h v.1 v.2 x.2) :: st) h) : WG P l mi p e R s m args below meth c h0 ad0 Qf pc ls (x :: v :: st) h := by
  obtain ⟨hx, hb, hml, hown, hts, hr, hlk, hni, hK, -⟩ := cx
  obtain ⟨hd, rfl⟩ := di.same (fun _ => rfl) rfl rfl
  obtain ⟨f1, f2⟩ := arT_spec hf
  refine g_st (fun ad H locs lsC a b r hlv hs z => ?_) (fun q _ => q.tl.tl.int _) k
  have q := arr_fl hs.tl.hd.1 f1
  obtain ⟨a1, a2, a3, a4, a5, a6⟩ := arr_at r hK q f1 hin
  have e1 : sv ad h v.1 v.2 x.2.toNatClampNeg = .int (h v.1 v.2 x.2) := by
    unfold sv
    rw [styT_arr f1, a5]
    have := (ark f1).2.2.2.1 f2
    rcases hs9 : styT v.1 0 with ⟨t, f', o⟩
    rw [hs9] at this
    simp only at this
    subst this
    rfl
  rw [e1] at a6
  rw [f2] at a2
  rw [List.map_cons, List.map_cons, cv_int' ad hx0, show cv ad v = .ref (ad v.1 v.2) from cv_ref r q]
  exact W.zald (v := .int (h v.1 v.2 x.2)) hx hb a1 (by rw [f2]; exact a2) (fun q => by cases q) a3 a6 rfl rfl hd z
theorem g_aaload {x v : AV} (cx : CX P mi p R s m args meth c) (di : DI mi pc nx .aaload) (hx0 : Nat.beq x.1 0 = true) (hf : arR v.1 = true) (hin : ina x.2 (lenT v.1)) (k : WG P l mi p e R s m args below meth c h0 ad0 Qf nx ls (((styT v.1 0).2.1, h v.1 v.2 x.2) :: st) h) : WG P l mi p e R s m args below meth c h0 ad0 Qf pc ls (x :: v :: st) h := by
  obtain ⟨hx, hb, hml, hown, hts, hr, hlk, hni, hK, -⟩ := cx
  obtain ⟨hd, rfl⟩ := di.same (fun _ => rfl) rfl rfl
  obtain ⟨f1, f2⟩ := arR_spec hf
  obtain ⟨-, -, -, -, ak⟩ := ark f1
  obtain ⟨k1, k2, k3, k4⟩ := ak f2
  intro ad H locs lsC iv
  obtain ⟨r, xt, hlo, hlv, hnl, hs, hls⟩ := iv
  have q := arr_fl hs.tl.hd.1 f1
  obtain ⟨a1, a2, a3, a4, a5, a6⟩ := arr_at r hK q f1 hin
  have e1 : sv ad h v.1 v.2 x.2.toNatClampNeg = cv ad ((styT v.1 0).2.1, h v.1 v.2 x.2) := by
    unfold sv
    rw [styT_arr f1, a5]
    rcases hs9 : styT v.1 0 with ⟨t, f', o⟩
    rw [hs9] at k1
    simp only at k1
    subst k1
    rfl
  have hvd : vd h ((styT v.1 0).2.1, h v.1 v.2 x.2) := by
    have hv := (r.2.2.2.2.2.2.1 _ _ q).2.2.2.2 _ a4
    unfold slotV at hv
    rw [styT_arr f1, a5] at hv
    rcases hs9 : styT v.1 0 with ⟨t, f', o⟩
    rw [hs9] at k1 hv
    simp only at k1
    subst k1
    exact hv
  rw [e1] at a6
  rw [k3] at a2
  rw [List.map_cons, List.map_cons, cv_int' ad hx0, show cv ad v = .ref (ad v.1 v.2) from cv_ref r q]
  exact W.aald (v := cv ad ((styT v.1 0).2.1, h v.1 v.2 x.2)) hx hb a1 a2 rfl (fun q => by cases q) a3 a6 rfl rfl hd (k ad H locs lsC ⟨r, xt, hlo, hlv, hnl, hs.tl.tl.nr hvd (raw_of1 (by show (famT (styT v.1 0).2.1).1 ≠ 2; omega)), hls⟩)
/-- behind a store into an array -/
theorem arr_st {ad : AD} {H H' : Heap} {locs : List Loc} {lsC : Array Slot} {x v : AV} {w : AV} (r : Rel P ad h H) (xt : Ext h0 ad0 h ad) (hlo : ∀ q ∈ locs, pB P ≤ q.base) (hlv : lv_has lsC (maxLT mi) (lp ad 0 ls)) (hnl : ls.length = maxLT mi) (hs : SV h h0 ls (w :: x :: v :: st)) (hls : LV h ls)
    (f1 : (famT v.1).1 = 3) (q : fl h v.1 v.2) (a4 : x.2.toNatClampNeg < (famT v.1).2.2) (a5 : nI x.2.toNatClampNeg = x.2) (a1 : H[ad v.1 v.2]? = some (arrV (pT P (famT v.1).2.1) (famT v.1).2.2 (sv ad h v.1 v.2)))
    (hst : ((styT v.1 0).1 = 0 ∧ w = (0, w.2)) ∨ ((styT v.1 0).1 = 1 ∧ w = (0, w.2) ∧ (w.2 = 0 ∨ w.2 = 1)) ∨ ((styT v.1 0).1 = 3 ∧ w = ((styT v.1 0).2.1, w.2)))
    (e1 : H'[ad v.1 v.2]? = some ((arrV (pT P (famT v.1).2.1) (famT v.1).2.2 (sv ad h v.1 v.2)).setSlot x.2.toNatClampNeg (cv ad w))) (e2 : H'.size = H.size) (e3 : ∀ q, q ≠ ad v.1 v.2 → H'[q]? = H[q]?) :
    IV P mi h0 ad0 ad (up h v.1 v.2 x.2 w.2) H' (locs ++ [⟨ad v.1 v.2, x.2.toNatClampNeg⟩]) lsC ls st := by
  have hn := n_small q.2.1
  have hkk : x.2.toNatClampNeg < 2 ^ 31 := by omega
  have hss := ss_set (n := pB P) a1 e1 e2 e3
  rw [← a5]
  rw [← styT_arr f1 x.2.toNatClampNeg] at hst
  refine ⟨put_rel r q a4 hs.hd.1 ?_ e2 e3 hss (fun z => by omega) (fun _ => ?_), Ext_up xt hkk, fun y hy => ?_, hlv, hnl, hs.tl.tl.tl.up hkk, hls.up hkk⟩
  · rcases hst with z | z | z
    · exact Or.inl z
    · exact Or.inr (Or.inl z)
    · exact Or.inr (Or.inr (Or.inl z))
  · rw [e1, arrV_store]
  · rcases List.mem_append.mp hy with hy | hy
    · exact hlo y hy
    · rw [List.mem_singleton.mp hy]
      exact (r.2.2.2.2.2.2.1 _ _ q).2.1
theorem g_iastore {w x v : AV} (cx : CX P mi p R s m args meth c) (di : DI mi pc nx .iastore) (hw0 : Nat.beq w.1 0 = true) (hx0 : Nat.beq x.1 0 = true) (hf : arT v.1 0 = true) (hin : ina x.2 (lenT v.1)) (k : WG P l mi p e R s m args below meth c h0 ad0 Qf nx ls st (up h v.1 v.2 x.2 w.2)) : WG P l mi p e R s m args below meth c h0 ad0 Qf pc ls (w :: x :: v :: st) h := by
  obtain ⟨hx, hb, hml, hown, hts, hr, hlk, hni, hK, hbs, -⟩ := cx
  obtain ⟨hd, rfl⟩ := di.same (fun _ => rfl) rfl rfl
  obtain ⟨f1, f2⟩ := arT_spec hf
  intro ad H locs lsC iv
  obtain ⟨r, xt, hlo, hlv, hnl, hs, hls⟩ := iv
  have q := arr_fl hs.tl.tl.hd.1 f1
  obtain ⟨a1, a2, a3, a4, a5, a6⟩ := arr_at r hK q f1 hin
  rw [f2] at a2
  rw [List.map_cons, List.map_cons, List.map_cons, cv_int' ad hx0, cv_int' ad hw0, show cv ad v = .ref (ad v.1 v.2) from cv_ref r q]
  refine W.iast hx hb a1 (by rw [f2]; exact a2) (fun q => by cases q) a3 rfl rfl hd fun H' e1 e2 e3 => W_tight (pB P) hbs ?_
  exact k ad H' _ lsC (arr_st r xt hlo hlv hnl hs hls f1 q a4 a5 a1 (Or.inl ⟨(ark f1).2.2.1 f2, beq0 hw0⟩) (by rw [cv_int' ad hw0]; exact e1) e2 e3)
theorem g_bastore {w x v : AV} (cx : CX P mi p R s m args meth c) (di : DI mi pc nx .bastore) (hw0 : Nat.beq w.1 0 = true) (hx0 : Nat.beq x.1 0 = true) (hf : arT v.1 1 = true) (hin : ina x.2 (lenT v.1)) (h01 : w.2 = 0 ∨ w.2 = 1) (k : WG P l mi p e R s m args below meth c h0 ad0 Qf nx ls st (up h v.1 v.2 x.2 w.2)) : WG P l mi p e R s m args below meth c h0 ad0 Qf pc ls (w :: x :: v :: st) h := by
  obtain ⟨hx, hb, hml, hown, hts, hr, hlk, hni, hK, hbs, -⟩ := cx
  obtain ⟨hd, rfl⟩ := di.same (fun _ => rfl) rfl rfl
  obtain ⟨f1, f2⟩ := arT_spec hf
  intro ad H locs lsC iv
  obtain ⟨r, xt, hlo, hlv, hnl, hs, hls⟩ := iv
  have q := arr_fl hs.tl.tl.hd.1 f1
  obtain ⟨a1, a2, a3, a4, a5, a6⟩ := arr_at r hK q f1 hin
  rw [f2] at a2
  rw [List.map_cons, List.map_cons, List.map_cons, cv_int' ad hx0, cv_int' ad hw0, show cv ad v = .ref (ad v.1 v.2) from cv_ref r q]
  refine W.zast hx hb a1 (by rw [f2]; exact a2) (fun q => by cases q) a3 rfl rfl hd fun H' e1 e2 e3 => W_tight (pB P) hbs ?_
  exact k ad H' _ lsC (arr_st r xt hlo hlv hnl hs hls f1 q a4 a5 a1 (Or.inr (Or.inl ⟨(ark f1).2.2.2.1 f2, beq0 hw0, h01⟩)) (by rw [cv_int' ad hw0, e1]; rcases h01 with z | z <;> rw [z] <;> rfl) e2 e3)
theorem g_aastore {w x v : AV} (cx : CX P mi p R s m args meth c) (di : DI mi pc nx .aastore) (hx0 : Nat.beq x.1 0 = true) (hf : arR v.1 = true) (hw : w.1 = (styT v.1 0).2.1) (hin : ina x.2 (lenT v.1)) (hnn : ¬ w.2 = -1) (k : WG P l mi p e R s m args below meth c h0 ad0 Qf nx ls st (up h v.1 v.2 x.2 w.2)) : WG P l mi p e R s m args below meth c h0 ad0 Qf pc ls (w :: x :: v :: st) h := by
  obtain ⟨hx, hb, hml, hown, hts, hr, hlk, hni, hK, hbs, -⟩ := cx
  obtain ⟨hd, rfl⟩ := di.same (fun _ => rfl) rfl rfl
  obtain ⟨f1, f2⟩ := arR_spec hf
  obtain ⟨hc4, -, -, -, ak⟩ := ark f1
  obtain ⟨k1, k2, k3, k4⟩ := ak f2
  intro ad H locs lsC iv
  obtain ⟨r, xt, hlo, hlv, hnl, hs, hls⟩ := iv
  have q := arr_fl hs.tl.tl.hd.1 f1
  obtain ⟨a1, a2, a3, a4, a5, a6⟩ := arr_at r hK q f1 hin
  have qw : fl h w.1 w.2 := fl_of hs.hd.1 (by rw [hw]; omega) (by rw [hw]; omega) fun _ => hnn
  have fw1 : (famT w.1).1 = 1 := by rw [hw]; exact k2
  obtain ⟨hcl, -⟩ := clq (Or.inl fw1)
  obtain ⟨⟨gc, -⟩, -⟩ := r.2.2.2.2.2.2.1 _ _ qw
  obtain ⟨cellV, g1, g2, g3, -⟩ := gc (by omega)
  have hcls := (hK.1.1 _ _ hcl).2
  have hra := (hK.1.2 _ _ (tys_at (pT P) _ hc4)).2
  rw [k3] at hra
  obtain ⟨kA, comp, y1, y2, y3, -⟩ := hra
  have hcomp : comp = pC P (famT w.1).2.1 := Option.some.inj (y3.symm.trans (by rw [hw] at hcls ⊢; exact hcls.1))
  obtain ⟨kC, hkC, -⟩ := hcls.2
  rw [List.map_cons, List.map_cons, List.map_cons, cv_int' ad hx0, show cv ad v = .ref (ad v.1 v.2) from cv_ref r q, show cv ad w = .ref (ad w.1 w.2) from cv_ref r qw]
  refine W.aast hx hb a1 (fun q z => by cases z) (fun z => by cases z) y1 y2 rfl (by rw [hcomp]; exact hkC) ⟨fun z => a3 (Or.inl z), by rw [arrV_size]; exact a4⟩ g1 (fun q z => by rw [g3] at z; cases z) (by rw [g2]; exact hkC) (by rw [g2, hcomp]; exact va_assign hcls) rfl rfl hd fun H' e1 e2 e3 => W_tight (pB P) hbs ?_
  exact k ad H' _ lsC (arr_st r xt hlo hlv hnl hs hls f1 q a4 a5 a1 (Or.inr (Or.inr ⟨k1, Prod.ext hw rfl⟩)) (by rw [show cv ad w = .ref (ad w.1 w.2) from cv_ref r qw]; exact e1) e2 e3)
theorem isScr_spec {f : Nat} (h : isScr f = true) : f = 85 := by
  simp only [isScr, Nat.beq_eq] at h
  have : ∀ f, f < 86 → (famT f).1 = 4 → f = 85 := by decide +kernel
  exact this f (fam_lt (by omega)) h
theorem scr_v {v : AV} (hv : vd h v) (h85 : v.1 = 85) : v = (85, 0) := by
  rcases hv with q | q | q | q
  · rw [h85] at q
    exact absurd q (by decide)
  · exact absurd h85 (fl_ne85 q)
  · rw [h85] at q
    exact absurd q.1 (by decide)
  · exact q
theorem g_sload {x v : AV} (cx : CX P mi p R s m args meth c) (di : DI mi pc nx .iaload) (hx0 : Nat.beq x.1 0 = true) (hf : isScr v.1 = true) (hin : ina x.2 (h v.1 v.2 (-2))) (k : WG P l mi p e R s m args below meth c h0 ad0 Qf nx ls ((0, h v.1 v.2 x.2) :: st) h) : WG P l mi p e R s m args below meth c h0 ad0 Qf pc ls (x :: v :: st) h := by
  obtain ⟨hx, hb, hml, hown, hts, hr, hlk, hni, hK, -⟩ := cx
  obtain ⟨hd, rfl⟩ := di.same (fun _ => rfl) rfl rfl
  refine g_st (fun ad H locs lsC a b r hlv hs z => ?_) (fun q _ => q.tl.tl.int _) k
  have ev := scr_v hs.tl.hd.1 (isScr_spec hf)
  subst ev
  obtain ⟨r1, r2, -, -, -, -, -, -, r9⟩ := r
  obtain ⟨-, ⟨scr, x1, x2, x3, x4, x5⟩, hsb, hL, -⟩ := hK
  rw [r9.1] at hin
  obtain ⟨v1, v2, v3⟩ := ina_vp (n := pL P) (by omega) hin
  have e1 := r9.2.1 x.2 hin
  rw [List.map_cons, List.map_cons, cv_int' ad hx0, show cv ad (85, 0) = .ref (pS P) by show Value.ref (ad 85 0) = _; rw [r9.2.2]]
  refine W.iald (v := .int (pX P x.2.toNatClampNeg)) hx hb (by rw [r2 _ hsb]; exact x1) x2 x3 (by rw [x4]; exact v1) (x5 _ v2) rfl rfl hd ?_
  rw [List.map_cons] at z
  rw [← e1]
  exact z
theorem g_slen {v : AV} (cx : CX P mi p R s m args meth c) (di : DI mi pc nx .arraylength) (hf : isScr v.1 = true) (k : WG P l mi p e R s m args below meth c h0 ad0 Qf nx ls ((0, h v.1 v.2 (-2)) :: st) h) : WG P l mi p e R s m args below meth c h0 ad0 Qf pc ls (v :: st) h := by
  obtain ⟨hx, hb, hml, hown, hts, hr, hlk, hni, hK, -⟩ := cx
  obtain ⟨hd, rfl⟩ := di.same (fun _ => rfl) rfl rfl
  refine g_st (fun ad H locs lsC a b r hlv hs z => ?_) (fun q _ => q.tl.int _) k
  have ev := scr_v hs.hd.1 (isScr_spec hf)
  subst ev
  obtain ⟨r1, r2, -, -, -, -, -, -, r9⟩ := r
  obtain ⟨-, ⟨scr, x1, x2, x3, x4, x5⟩, hsb, hL, -⟩ := hK
  rw [List.map_cons, show cv ad (85, 0) = .ref (pS P) by show Value.ref (ad 85 0) = _; rw [r9.2.2]]
  refine W.alen (n := nI (pL P)) hx hb (by rw [r2 _ hsb]; exact x1) x2 (by rw [x4]; rfl) rfl rfl hd ?_
  rw [List.map_cons] at z
  rw [← r9.1]
  exact z
end SND
