/-! the machine does what the abstract one does: context, invariant, plain steps -/
theorem in_g {w : Cond} (h : w ∈ lw_tbl) (hg : goodWord w = true) : w ∈ gtbl := List.mem_filter.mpr ⟨h, hg⟩
theorem fw_g {o i n : Nat} (h : fwB o i n = true) : fwX o i n ∈ gtbl := by
  simp only [fwB, Bool.and_eq_true] at h
  obtain ⟨⟨h1, h2⟩, h3⟩ := h
  have h1 : i < 1000 := Nat.le_of_ble_eq_true h1
  have h2 : n < 10000 := Nat.le_of_ble_eq_true h2
  have e : fwW (o * 10000000 + i * 10000 + n) = fwX o i n := by
    unfold fwW
    congr 1 <;> omega
  have hm : fwW (o * 10000000 + i * 10000 + n) ∈ fwords.map fwW := List.mem_map_of_mem (by simpa using h3)
  rw [← e]
  exact in_g (fw_in _ hm) (List.all_eq_true.mp good_fw _ hm)
theorem mw_g {o i n : Nat} (h : mwB o i n = true) : mwX o i n ∈ gtbl := by
  simp only [mwB, Bool.and_eq_true] at h
  obtain ⟨⟨h1, h2⟩, h3⟩ := h
  have h1 : i < 1000 := Nat.le_of_ble_eq_true h1
  have h2 : n < 1000 := Nat.le_of_ble_eq_true h2
  have e : mwW (o * 1000000 + i * 1000 + n) = mwX o i n := by
    unfold mwW
    congr 1 <;> omega
  have hm : mwW (o * 1000000 + i * 1000 + n) ∈ mwords.map mwW := List.mem_map_of_mem (by simpa using h3)
  rw [← e]
  exact in_g (mw_in _ hm) (List.all_eq_true.mp good_mw _ hm)
theorem cw_g {o i n : Nat} (h : cwB o i n = true) : cwX o i n ∈ gtbl := by
  simp only [cwB, Bool.and_eq_true] at h
  obtain ⟨⟨h1, h2⟩, h3⟩ := h
  have h1 : i < 1000 := Nat.le_of_ble_eq_true h1
  have h2 : n < 1000 := Nat.le_of_ble_eq_true h2
  have e : cwW (o * 1000000 + i * 1000 + n) = cwX o i n := by
    unfold cwW
    congr 1 <;> omega
  have hm : cwW (o * 1000000 + i * 1000 + n) ∈ cwords.map cwW := List.mem_map_of_mem (by simpa using h3)
  rw [← e]
  exact in_g (cw_in _ hm) (List.all_eq_true.mp good_cw _ hm)
theorem nw_g {o i n : Nat} (h : nwB o i n = true) : ∃ q ∈ nwords, nwW q = nwX o i n := by
  simp only [nwB, Bool.and_eq_true] at h
  obtain ⟨⟨h1, h2⟩, h3⟩ := h
  have h1 : i < 1000 := Nat.le_of_ble_eq_true h1
  have h2 : n < 1000 := Nat.le_of_ble_eq_true h2
  refine ⟨o * 1000000 + i * 1000 + n, by simpa using h3, ?_⟩
  unfold nwW
  congr 1 <;> omega
theorem ow_g {o i : Nat} (h : owB o i = true) : owX o i ∈ gtbl := by
  simp only [owB, Bool.and_eq_true] at h
  obtain ⟨h1, h3⟩ := h
  have h1 : i < 1000 := Nat.le_of_ble_eq_true h1
  have e : owW (o * 1000 + i) = owX o i := by
    unfold owW
    congr 1 <;> omega
  have hm : owW (o * 1000 + i) ∈ owords.map owW := List.mem_map_of_mem (by simpa using h3)
  rw [← e]
  exact in_g (ow_in _ hm) (List.all_eq_true.mp good_ow _ hm)
theorem kw_g {q : Nat × Nat × Int} (h : kwords.contains q = true) : kwW q ∈ gtbl := by
  have h : kwW q ∈ kwords.map kwW := List.mem_map_of_mem (by simpa using h)
  exact in_g (kw_in _ h) (List.all_eq_true.mp good_kw _ h)
theorem ini_g {c : Nat} (h : c < 13) : Cond.initialized (ownS c) ∈ gtbl := by
  have h : Cond.initialized (ownS c) ∈ (List.range 13).map (fun c => Cond.initialized (ownS c)) := List.mem_map_of_mem (f := fun c => Cond.initialized (ownS c)) (List.mem_range.mpr h)
  exact in_g (ini_in _ h) (List.all_eq_true.mp good_ini _ h)
theorem inst_g {c : Nat} (h : c < 10) : Cond.instantiable (ownS c) (famT (c + 1)).2.2 ∈ gtbl := by
  have h : Cond.instantiable (ownS c) (famT (c + 1)).2.2 ∈ (List.range 10).map (fun c => Cond.instantiable (ownS c) (famT (c + 1)).2.2) := List.mem_map_of_mem (f := fun c => Cond.instantiable (ownS c) (famT (c + 1)).2.2) (List.mem_range.mpr h)
  exact in_g (inst_in _ h) (List.all_eq_true.mp good_inst _ h)
theorem im_g {m : Nat} (h : instL.contains m = true) : Cond.instanceMethod (yT m) ∈ gtbl := by
  have h : Cond.instanceMethod (yT m) ∈ instL.map (fun m => Cond.instanceMethod (yT m)) := List.mem_map_of_mem (f := fun m => Cond.instanceMethod (yT m)) (by simpa using h)
  exact in_g (im_in _ h) (List.all_eq_true.mp good_im _ h)
theorem sel_g {m : Nat} (h : virtL.contains m = true) : Cond.selects (yT m).cls (yT m) (yT m) ∈ gtbl := by
  have h : Cond.selects (yT m).cls (yT m) (yT m) ∈ virtL.map (fun m => Cond.selects (yT m).cls (yT m) (yT m)) := List.mem_map_of_mem (f := fun m => Cond.selects (yT m).cls (yT m) (yT m)) (by simpa using h)
  exact in_g (sel_in _ h) (List.all_eq_true.mp good_sel _ h)
theorem st_g {m : Nat} (h : statL.contains m = true) : Cond.static (yT m) ∈ gtbl := by
  have h : Cond.static (yT m) ∈ statL.map (fun m => Cond.static (yT m)) := List.mem_map_of_mem (f := fun m => Cond.static (yT m)) (by simpa using h)
  exact in_g (st_in _ h) (List.all_eq_true.mp good_st _ h)
theorem cd_g {m : Nat} (h : m < 155) : cdW m ∈ gtbl := in_g (cd_in m h) (good_cd m)
def CX (P : PM) (mi : Nat) (p : Program) (R : Room) (s : State) (m : MethodId) (args : Array Value) (meth : Method) (c : Code) : Prop :=
  p.tables.exec = Jvm.exec ∧ c.code = bytesT mi ∧ c.maxLocals = maxLT mi ∧ s.vm.findClass (ownS (ownN mi)) = some m.cls ∧ (∀ w ∈ gtbl, w.before args s = true) ∧ meth.sig.returnType = retT mi ∧ meth.locks = false ∧ (kindT mi = 2 → meth.name = "<init>") ∧ KK P s ∧ pB P ≤ s.heap.size ∧ frT mi ≤ R.frames ∧ loT mi ≤ R.locals ∧
    s.heap.size ≤ pB P + 600000 ∧ ss (pB P) s.heap ≤ 7302250 ∧ R.cells = pB P + 600000 - s.heap.size ∧ R.slots = 7302250 - ss (pB P) s.heap
def SV (h h0 : HP) (ls st : List AV) : Prop := ∀ v ∈ st, vd h v ∧ (rawTag v.1 = true → ¬ fl h0 v.1 v.2 ∨ v ∈ ls)
def LV (h : HP) (ls : List AV) : Prop := ∀ v ∈ ls, v.1 = 500 ∨ vd h v
def IV (P : PM) (mi : Nat) (h0 : HP) (ad0 ad : AD) (h : HP) (H : Heap) (locs : List Loc) (lsC : Array Slot) (ls st : List AV) : Prop :=
  Rel P ad h H ∧ Ext h0 ad0 h ad ∧ (∀ q ∈ locs, pB P ≤ q.base) ∧ lv_has lsC (maxLT mi) (lp ad 0 ls) ∧ ls.length = maxLT mi ∧ SV h h0 ls st ∧ LV h ls
def WG (P : PM) (l : Launch) (mi : Nat) (p : Program) (e : Env) (R : Room) (s : State) (m : MethodId) (args : Array Value) (below : List Frame) (meth : Method) (c : Code) (h0 : HP) (ad0 : AD) (Qf : State → Prop) (pc : Nat) (ls st : List AV) (h : HP) : Prop :=
  ∀ ad H locs lsC, IV P mi h0 ad0 ad h H locs lsC ls st → W p l e R s m args below meth c H locs (H.size - s.heap.size) (ss (pB P) H - ss (pB P) s.heap) Qf (F0 m pc lsC (st.map (cv ad)))
theorem SV.tl {h h0 : HP} {ls st : List AV} {v : AV} (q : SV h h0 ls (v :: st)) : SV h h0 ls st := fun w hw => q w (List.mem_cons_of_mem _ hw)
theorem SV.hd {h h0 : HP} {ls st : List AV} {v : AV} (q : SV h h0 ls (v :: st)) : vd h v ∧ (rawTag v.1 = true → ¬ fl h0 v.1 v.2 ∨ v ∈ ls) := q v List.mem_cons_self
theorem SV.cons {h h0 : HP} {ls st : List AV} {v : AV} (q : SV h h0 ls st) (a : vd h v) (b : rawTag v.1 = true → ¬ fl h0 v.1 v.2 ∨ v ∈ ls) : SV h h0 ls (v :: st) := by
  intro w hw
  rcases List.mem_cons.mp hw with rfl | hw
  · exact ⟨a, b⟩
  · exact q w hw
theorem SV.int {h h0 : HP} {ls st : List AV} (q : SV h h0 ls st) (x : Int32) : SV h h0 ls ((0, x) :: st) := q.cons (Or.inl rfl) fun z => by
  rw [raw0] at z
  cases z
theorem SV.nr {h h0 : HP} {ls st : List AV} {v : AV} (q : SV h h0 ls st) (a : vd h v) (b : rawTag v.1 = false) : SV h h0 ls (v :: st) := q.cons a fun z => by
  rw [b] at z
  cases z
section SND
variable {P : PM} {l : Launch} {mi : Nat} {p : Program} {e : Env} {R : Room} {s : State} {m : MethodId} {args : Array Value} {below : List Frame} {meth : Method} {c : Code} {h0 : HP} {ad0 : AD} {Qf : State → Prop} {pc nx : Nat} {ls st : List AV} {h : HP}
theorem g_st {st' : List AV} (row : ∀ (ad : AD) (H : Heap) (locs : List Loc) (lsC : Array Slot) (a b : Nat), Rel P ad h H → lv_has lsC (maxLT mi) (lp ad 0 ls) → SV h h0 ls st → W p l e R s m args below meth c H locs a b Qf (F0 m nx lsC (st'.map (cv ad))) → W p l e R s m args below meth c H locs a b Qf (F0 m pc lsC (st.map (cv ad))))
    (hsv : SV h h0 ls st → LV h ls → SV h h0 ls st') (k : WG P l mi p e R s m args below meth c h0 ad0 Qf nx ls st' h) : WG P l mi p e R s m args below meth c h0 ad0 Qf pc ls st h := by
  intro ad H locs lsC iv
  obtain ⟨r, x, hlo, hl, hn, hs, hls⟩ := iv
  exact row ad H locs lsC _ _ r hl hs (k ad H locs lsC ⟨r, x, hlo, hl, hn, hsv hs hls, hls⟩)
theorem cv_r {ad : AD} {v : AV} (h : refTag v.1 = true) : cv ad v = if v.2 = -1 then .null else .ref (ad v.1 v.2) := by
  have : Nat.beq v.1 0 = false := by
    cases hb : Nat.beq v.1 0 with
    | false => rfl
    | true =>
      rw [Nat.eq_of_beq_eq_true hb] at h
      exact absurd h (by decide)
  simp only [cv, this, cond_false]
/-- what is known of the instruction at pc -/
def DI (mi pc nx : Nat) (i : Instr) : Prop := ∃ (w : Instr) (len : Nat), decode (bytesT mi) pc = .ok (w, len) ∧ nx = pc + len ∧ (isSw w = true ∨ len = lenI w) ∧ mtc mi pc i w = true
theorem DI.of {i : Instr} (h : cX mi pc = some (nx, i)) : DI mi pc nx i := by
  have ok := (ok_all mi pc (by rw [h]; exact fun z => by cases z)).1
  unfold okB at ok
  rw [h] at ok
  simp only at ok
  split at ok
  · rename_i w len hd
    simp only [Bool.and_eq_true, Bool.or_eq_true] at ok
    obtain ⟨⟨o1, o2⟩, o3⟩ := ok
    exact ⟨w, len, hd, Nat.eq_of_beq_eq_true o1, o2.imp id Nat.eq_of_beq_eq_true, o3⟩
  · cases ok
/-- an instruction that stands in the bytes as it is -/
theorem DI.same {i : Instr} (h : DI mi pc nx i) (hi : ∀ w, mtc mi pc i w = decide (w = i)) (hsw : isSw i = false) (hlen : lenI i = 1) : decode (bytesT mi) pc = .ok (i, 1) ∧ nx = pc + 1 := by
  obtain ⟨w, len, hd, hnx, hl, hm⟩ := h
  rw [hi] at hm
  have hm := of_decide_eq_true hm
  subst hm
  rcases hl with hl | hl
  · rw [hsw] at hl
    cases hl
  · rw [hlen] at hl
    subst hl
    exact ⟨hd, hnx⟩
theorem g_iconst {v : Int} (cx : CX P mi p R s m args meth c) (di : DI mi pc nx (.iconst v)) (k : WG P l mi p e R s m args below meth c h0 ad0 Qf nx ls ((0, Int32.ofInt v) :: st) h) : WG P l mi p e R s m args below meth c h0 ad0 Qf pc ls st h := by
  obtain ⟨hx, hb, hml, hown, hts, -⟩ := cx
  obtain ⟨w, len, hd, hnx, hl, hm⟩ := di
  subst hnx
  refine g_st (fun ad H locs lsC a b _ _ _ z => ?_) (fun q _ => q.int _) k
  simp only [mtc] at hm
  split at hm
  · have hm := of_decide_eq_true hm
    subst hm
    obtain rfl : len = 1 := hl.resolve_left Bool.false_ne_true
    exact lv_iconst hx hb hd rfl z
  · have hm := of_decide_eq_true hm
    obtain rfl : len = 2 := hl.resolve_left Bool.false_ne_true
    exact lv_bipush hx hb hd hm z
  · have hm := of_decide_eq_true hm
    obtain rfl : len = 3 := hl.resolve_left Bool.false_ne_true
    exact lv_sipush hx hb hd hm z
  · obtain rfl : len = 2 := hl.resolve_left Bool.false_ne_true
    exact lv_ldc hx hb hown (hts _ (kw_g hm)) hd z
  · cases hm
theorem g_null (cx : CX P mi p R s m args meth c) (di : DI mi pc nx .aconst_null) (k : WG P l mi p e R s m args below meth c h0 ad0 Qf nx ls ((2, -1) :: st) h) : WG P l mi p e R s m args below meth c h0 ad0 Qf pc ls st h := by
  obtain ⟨hx, hb, -⟩ := cx
  obtain ⟨hd, rfl⟩ := di.same (fun _ => rfl) rfl rfl
  exact g_st (fun ad H locs lsC a b _ _ _ z => lv_null hx hb hd z) (fun q _ => q.nr (Or.inr (Or.inr (Or.inl ⟨by decide, rfl⟩))) (by decide +kernel)) k
theorem g_iload {n : Nat} {v : AV} (cx : CX P mi p R s m args meth c) (di : DI mi pc nx (.iload n)) (hv : ls[n]? = some v) (h1 : Nat.beq v.1 0 = true) (k : WG P l mi p e R s m args below meth c h0 ad0 Qf nx ls (v :: st) h) : WG P l mi p e R s m args below meth c h0 ad0 Qf pc ls st h := by
  obtain ⟨hx, hb, hml, hown, hts, -⟩ := cx
  obtain ⟨w, len, hd, hnx, hl, hm⟩ := di
  subst hnx
  have hv0 := beq0 h1
  refine g_st (fun ad H locs lsC a b _ hlv _ z => ?_) (fun q _ => by rw [hv0]; exact q.int _) k
  have hat : lsC[n]? = some (.val (.int v.2)) := by
    rw [lp_at hlv hv (by rw [hv0]; rfl), cv_int' ad h1]
  rw [List.map_cons, cv_int' ad h1] at z
  simp only [mtc] at hm
  split at hm
  · obtain rfl := Nat.eq_of_beq_eq_true hm
    obtain rfl : len = 2 := hl.resolve_left Bool.false_ne_true
    exact lv_iload hx hb hd hat z
  · have hm := Nat.eq_of_beq_eq_true hm
    obtain rfl : len = 1 := hl.resolve_left Bool.false_ne_true
    exact lv_iload_n hx hb hd hm hat z
  · cases hm
theorem ref_ne500 {t : Nat} (h : refTag t = true) : Nat.beq t 500 = false := by
  simp only [refTag, Bool.and_eq_true] at h
  cases hb : Nat.beq t 500 with
  | false => rfl
  | true =>
    rw [Nat.eq_of_beq_eq_true hb] at h
    exact absurd h.2 (by decide)
theorem g_aload {n : Nat} {v : AV} (cx : CX P mi p R s m args meth c) (di : DI mi pc nx (.aload n)) (hv : ls[n]? = some v) (h1 : refTag v.1 = true) (k : WG P l mi p e R s m args below meth c h0 ad0 Qf nx ls (v :: st) h) : WG P l mi p e R s m args below meth c h0 ad0 Qf pc ls st h := by
  obtain ⟨hx, hb, hml, hown, hts, -⟩ := cx
  obtain ⟨w, len, hd, hnx, hl, hm⟩ := di
  subst hnx
  have hmem : v ∈ ls := List.mem_of_getElem? hv
  refine g_st (fun ad H locs lsC a b _ hlv _ z => ?_) (fun q hls => q.cons ((hls v hmem).resolve_left ?_) (fun _ => Or.inr hmem)) k
  · have hat := lp_at hlv hv (ref_ne500 h1)
    rw [List.map_cons] at z
    rw [cv_r h1] at hat z
    simp only [mtc] at hm
    by_cases hj : v.2 = -1
    · rw [if_pos hj] at hat z
      split at hm
      · obtain rfl := Nat.eq_of_beq_eq_true hm
        obtain rfl : len = 2 := hl.resolve_left Bool.false_ne_true
        exact lv_aloadN hx hb hd hat z
      · have hm := Nat.eq_of_beq_eq_true hm
        obtain rfl : len = 1 := hl.resolve_left Bool.false_ne_true
        exact lv_aload_nN hx hb hd hm hat z
      · cases hm
    · rw [if_neg hj] at hat z
      split at hm
      · obtain rfl := Nat.eq_of_beq_eq_true hm
        obtain rfl : len = 2 := hl.resolve_left Bool.false_ne_true
        exact lv_aload hx hb hd hat z
      · have hm := Nat.eq_of_beq_eq_true hm
        obtain rfl : len = 1 := hl.resolve_left Bool.false_ne_true
        exact lv_aload_n hx hb hd hm hat z
      · cases hm
  · intro z
    rw [z] at h1
    exact absurd h1 (by decide)
theorem set_raw {n : Nat} {w v : AV} (hr : rawTag (ls.getD n (0, 0)).1 = false) (hv : v ∈ ls) (hvr : rawTag v.1 = true) : v ∈ ls.set n w := by
  obtain ⟨i, hi⟩ := List.getElem?_of_mem hv
  have hne : i ≠ n := by
    intro z
    subst z
    rw [List.getD_eq_getElem?_getD, hi] at hr
    simp only [Option.getD_some] at hr
    rw [hr] at hvr
    cases hvr
  refine List.mem_of_getElem? (i := i) ?_
  rw [List.getElem?_set_ne (Ne.symm hne)]
  exact hi
theorem SV.set {n : Nat} {w : AV} (q : SV h h0 ls st) (hr : rawTag (ls.getD n (0, 0)).1 = false) : SV h h0 (ls.set n w) st := fun v hv => ⟨(q v hv).1, fun z => ((q v hv).2 z).imp id fun y => set_raw hr y z⟩
theorem LV.set {n : Nat} {w : AV} (q : LV h ls) (hw : vd h w) : LV h (ls.set n w) := fun v hv => by
  rcases List.mem_or_eq_of_mem_set hv with hv | rfl
  · exact q v hv
  · exact Or.inr hw
theorem g_istore {n : Nat} {x : Int32} (cx : CX P mi p R s m args meth c) (di : DI mi pc nx (.istore n)) (hn : n < ls.length) (hr : rawTag (ls.getD n (0, 0)).1 = false) (k : WG P l mi p e R s m args below meth c h0 ad0 Qf nx (ls.set n (0, x)) st h) : WG P l mi p e R s m args below meth c h0 ad0 Qf pc ls ((0, x) :: st) h := by
  obtain ⟨hx, hb, hml, hown, hts, -⟩ := cx
  obtain ⟨w, len, hd, hnx, hl, hm⟩ := di
  subst hnx
  intro ad H locs lsC iv
  obtain ⟨r, xt, hlo, hlv, hnl, hs, hls⟩ := iv
  have kk : ∀ ls' : Array Slot, lv_has ls' (maxLT mi) ((n, cv ad (0, x)) :: (lp ad 0 ls).filter (fun q => !(q.1 == n) && !(q.1 + 1 == n && q.2.category == 2))) → W p l e R s m args below meth c H locs (H.size - s.heap.size) (ss (pB P) H - ss (pB P) s.heap) Qf (F0 m (pc + len) ls' (st.map (cv ad))) := fun ls' hl' =>
    k ad H locs ls' ⟨r, xt, hlo, lp_store hl', by rw [List.length_set]; exact hnl, hs.tl.set hr, hls.set (Or.inl rfl)⟩
  simp only [mtc] at hm
  split at hm
  · obtain rfl := Nat.eq_of_beq_eq_true hm
    obtain rfl : len = 2 := hl.resolve_left Bool.false_ne_true
    exact lv_istore hx hb hd hlv (by omega) rfl kk
  · have hm := Nat.eq_of_beq_eq_true hm
    obtain rfl : len = 1 := hl.resolve_left Bool.false_ne_true
    exact lv_istore_n hx hb hd hm hlv (by omega) rfl kk
  · cases hm
theorem g_astore {n : Nat} {v : AV} (cx : CX P mi p R s m args meth c) (di : DI mi pc nx (.astore n)) (h1 : refTag v.1 = true) (hn : n < ls.length) (hr : rawTag (ls.getD n (0, 0)).1 = false) (k : WG P l mi p e R s m args below meth c h0 ad0 Qf nx (ls.set n v) st h) : WG P l mi p e R s m args below meth c h0 ad0 Qf pc ls (v :: st) h := by
  obtain ⟨hx, hb, hml, hown, hts, -⟩ := cx
  obtain ⟨w, len, hd, hnx, hl, hm⟩ := di
  subst hnx
  intro ad H locs lsC iv
  obtain ⟨r, xt, hlo, hlv, hnl, hs, hls⟩ := iv
  have kk : ∀ ls' : Array Slot, lv_has ls' (maxLT mi) ((n, cv ad v) :: (lp ad 0 ls).filter (fun q => !(q.1 == n) && !(q.1 + 1 == n && q.2.category == 2))) → W p l e R s m args below meth c H locs (H.size - s.heap.size) (ss (pB P) H - ss (pB P) s.heap) Qf (F0 m (pc + len) ls' (st.map (cv ad))) := fun ls' hl' =>
    k ad H locs ls' ⟨r, xt, hlo, lp_store hl', by rw [List.length_set]; exact hnl, hs.tl.set hr, hls.set hs.hd.1⟩
  rw [List.map_cons]
  rw [cv_r h1] at kk ⊢
  simp only [mtc] at hm
  by_cases hj : v.2 = -1
  · rw [if_pos hj] at kk ⊢
    split at hm
    · obtain rfl := Nat.eq_of_beq_eq_true hm
      obtain rfl : len = 2 := hl.resolve_left Bool.false_ne_true
      exact lv_astoreN hx hb hd hlv (by omega) rfl kk
    · have hm := Nat.eq_of_beq_eq_true hm
      obtain rfl : len = 1 := hl.resolve_left Bool.false_ne_true
      exact lv_astore_nN hx hb hd hm hlv (by omega) rfl kk
    · cases hm
  · rw [if_neg hj] at kk ⊢
    split at hm
    · obtain rfl := Nat.eq_of_beq_eq_true hm
      obtain rfl : len = 2 := hl.resolve_left Bool.false_ne_true
      exact lv_astore hx hb hd hlv (by omega) rfl kk
    · have hm := Nat.eq_of_beq_eq_true hm
      obtain rfl : len = 1 := hl.resolve_left Bool.false_ne_true
      exact lv_astore_n hx hb hd hm hlv (by omega) rfl kk
    · cases hm
theorem g_iinc {n : Nat} {d : Int} {v : AV} (cx : CX P mi p R s m args meth c) (di : DI mi pc nx (.iinc n d)) (hv : ls[n]? = some v) (h1 : Nat.beq v.1 0 = true) (k : WG P l mi p e R s m args below meth c h0 ad0 Qf nx (ls.set n (0, v.2 + Int32.ofInt d)) st h) : WG P l mi p e R s m args below meth c h0 ad0 Qf pc ls st h := by
  obtain ⟨hx, hb, hml, hown, hts, -⟩ := cx
  obtain ⟨w, len, hd, hnx, hl, hm⟩ := di
  subst hnx
  have hm := of_decide_eq_true (show decide (w = .iinc n d) = true from hm)
  subst hm
  obtain rfl : len = 3 := hl.resolve_left Bool.false_ne_true
  intro ad H locs lsC iv
  obtain ⟨r, xt, hlo, hlv, hnl, hs, hls⟩ := iv
  have hv0 := beq0 h1
  have hn : n < ls.length := (List.getElem?_eq_some_iff.mp hv).1
  have hr : rawTag (ls.getD n (0, 0)).1 = false := by
    rw [List.getD_eq_getElem?_getD, hv, Option.getD_some, hv0]
    exact raw0
  have hmem : (n, cv ad v) ∈ lp ad 0 ls := mem_lp.mpr ⟨n, v, hv, by rw [hv0]; rfl, by simp⟩
  rw [cv_int' ad h1] at hmem
  obtain ⟨kx, hkx⟩ := List.getElem?_of_mem hmem
  exact lv_iinc (v := v.2 + Int32.ofInt d) hx hb hd hlv hkx rfl (by omega) rfl fun ls' hl' =>
    k ad H locs ls' ⟨r, xt, hlo, lp_store (w := (0, v.2 + Int32.ofInt d)) hl', by rw [List.length_set]; exact hnl, hs.set hr, hls.set (Or.inl rfl)⟩
theorem g_dup {v : AV} (cx : CX P mi p R s m args meth c) (di : DI mi pc nx .dup) (k : WG P l mi p e R s m args below meth c h0 ad0 Qf nx ls (v :: v :: st) h) : WG P l mi p e R s m args below meth c h0 ad0 Qf pc ls (v :: st) h := by
  obtain ⟨hx, hb, -⟩ := cx
  obtain ⟨hd, rfl⟩ := di.same (fun _ => rfl) rfl rfl
  exact g_st (fun ad H locs lsC a b _ _ _ z => lv_dup hx hb hd (cv_cat ad v) z) (fun q _ => q.cons q.hd.1 q.hd.2) k
theorem g_dup2 {v w : AV} (cx : CX P mi p R s m args meth c) (di : DI mi pc nx .dup2) (k : WG P l mi p e R s m args below meth c h0 ad0 Qf nx ls (v :: w :: v :: w :: st) h) : WG P l mi p e R s m args below meth c h0 ad0 Qf pc ls (v :: w :: st) h := by
  obtain ⟨hx, hb, -⟩ := cx
  obtain ⟨hd, rfl⟩ := di.same (fun _ => rfl) rfl rfl
  exact g_st (fun ad H locs lsC a b _ _ _ z => lv_dup2_11 hx hb hd (cv_cat ad v) (cv_cat ad w) z) (fun q _ => (q.cons q.tl.hd.1 q.tl.hd.2).cons q.hd.1 q.hd.2) k
theorem g_pop {v : AV} (cx : CX P mi p R s m args meth c) (di : DI mi pc nx .pop) (k : WG P l mi p e R s m args below meth c h0 ad0 Qf nx ls st h) : WG P l mi p e R s m args below meth c h0 ad0 Qf pc ls (v :: st) h := by
  obtain ⟨hx, hb, -⟩ := cx
  obtain ⟨hd, rfl⟩ := di.same (fun _ => rfl) rfl rfl
  exact g_st (fun ad H locs lsC a b _ _ _ z => lv_pop hx hb hd (cv_cat ad v) z) (fun q _ => q.tl) k
theorem g_iadd {x y : Int32} (cx : CX P mi p R s m args meth c) (di : DI mi pc nx .iadd) (k : WG P l mi p e R s m args below meth c h0 ad0 Qf nx ls ((0, x + y) :: st) h) : WG P l mi p e R s m args below meth c h0 ad0 Qf pc ls ((0, y) :: (0, x) :: st) h := by
  obtain ⟨hx, hb, -⟩ := cx
  obtain ⟨hd, rfl⟩ := di.same (fun _ => rfl) rfl rfl
  exact g_st (fun ad H locs lsC a b _ _ _ z => lv_iadd hx hb hd z) (fun q _ => q.tl.tl.int _) k
theorem g_isub {x y : Int32} (cx : CX P mi p R s m args meth c) (di : DI mi pc nx .isub) (k : WG P l mi p e R s m args below meth c h0 ad0 Qf nx ls ((0, x - y) :: st) h) : WG P l mi p e R s m args below meth c h0 ad0 Qf pc ls ((0, y) :: (0, x) :: st) h := by
  obtain ⟨hx, hb, -⟩ := cx
  obtain ⟨hd, rfl⟩ := di.same (fun _ => rfl) rfl rfl
  exact g_st (fun ad H locs lsC a b _ _ _ z => lv_isub hx hb hd z) (fun q _ => q.tl.tl.int _) k
theorem g_imul {x y : Int32} (cx : CX P mi p R s m args meth c) (di : DI mi pc nx .imul) (k : WG P l mi p e R s m args below meth c h0 ad0 Qf nx ls ((0, x * y) :: st) h) : WG P l mi p e R s m args below meth c h0 ad0 Qf pc ls ((0, y) :: (0, x) :: st) h := by
  obtain ⟨hx, hb, -⟩ := cx
  obtain ⟨hd, rfl⟩ := di.same (fun _ => rfl) rfl rfl
  exact g_st (fun ad H locs lsC a b _ _ _ z => lv_imul hx hb hd z) (fun q _ => q.tl.tl.int _) k
theorem g_iand {x y : Int32} (cx : CX P mi p R s m args meth c) (di : DI mi pc nx .iand) (k : WG P l mi p e R s m args below meth c h0 ad0 Qf nx ls ((0, x &&& y) :: st) h) : WG P l mi p e R s m args below meth c h0 ad0 Qf pc ls ((0, y) :: (0, x) :: st) h := by
  obtain ⟨hx, hb, -⟩ := cx
  obtain ⟨hd, rfl⟩ := di.same (fun _ => rfl) rfl rfl
  exact g_st (fun ad H locs lsC a b _ _ _ z => lv_iand hx hb hd z) (fun q _ => q.tl.tl.int _) k
theorem g_ixor {x y : Int32} (cx : CX P mi p R s m args meth c) (di : DI mi pc nx .ixor) (k : WG P l mi p e R s m args below meth c h0 ad0 Qf nx ls ((0, x ^^^ y) :: st) h) : WG P l mi p e R s m args below meth c h0 ad0 Qf pc ls ((0, y) :: (0, x) :: st) h := by
  obtain ⟨hx, hb, -⟩ := cx
  obtain ⟨hd, rfl⟩ := di.same (fun _ => rfl) rfl rfl
  exact g_st (fun ad H locs lsC a b _ _ _ z => lv_ixor hx hb hd z) (fun q _ => q.tl.tl.int _) k
theorem g_idiv {x y : Int32} (cx : CX P mi p R s m args meth c) (di : DI mi pc nx .idiv) (hy : ¬ y = 0) (k : WG P l mi p e R s m args below meth c h0 ad0 Qf nx ls ((0, x / y) :: st) h) : WG P l mi p e R s m args below meth c h0 ad0 Qf pc ls ((0, y) :: (0, x) :: st) h := by
  obtain ⟨hx, hb, -⟩ := cx
  obtain ⟨hd, rfl⟩ := di.same (fun _ => rfl) rfl rfl
  exact g_st (fun ad H locs lsC a b _ _ _ z => lv_idiv hx hb hd hy z) (fun q _ => q.tl.tl.int _) k
theorem g_irem {x y : Int32} (cx : CX P mi p R s m args meth c) (di : DI mi pc nx .irem) (hy : ¬ y = 0) (k : WG P l mi p e R s m args below meth c h0 ad0 Qf nx ls ((0, x - x / y * y) :: st) h) : WG P l mi p e R s m args below meth c h0 ad0 Qf pc ls ((0, y) :: (0, x) :: st) h := by
  obtain ⟨hx, hb, -⟩ := cx
  obtain ⟨hd, rfl⟩ := di.same (fun _ => rfl) rfl rfl
  exact g_st (fun ad H locs lsC a b _ _ _ z => lv_irem hx hb hd hy z) (fun q _ => q.tl.tl.int _) k
end SND
