/-! calls and returns -/
def retI (mi : Nat) (v : Option AV) (pc : Nat) : Prop := match v with
  | none => decode (bytesT mi) pc = .ok (.return_, 1) ∧ rtyT mi = 0
  | some w => (Nat.beq w.1 0 = true ∧ decode (bytesT mi) pc = .ok (.ireturn, 1) ∧ (rtyT mi = 1 ∨ (rtyT mi = 2 ∧ (w.2 = 0 ∨ w.2 = 1)))) ∨ (refTag w.1 = true ∧ rawTag w.1 = false ∧ decode (bytesT mi) pc = .ok (.areturn, 1) ∧ rtyT mi = 3)
def RH (P : PM) (l : Launch) (mi : Nat) (p : Program) (e : Env) (R : Room) (s : State) (m : MethodId) (args : Array Value) (below : List Frame) (meth : Method) (c : Code) (h0 : HP) (ad0 : AD) (Qf : State → Prop) (Q : Option AV → HP → Prop) : Prop :=
  ∀ (v : Option AV) (h : HP) (ad : AD) (H : Heap) (locs : List Loc) (lsC : Array Slot) (pc : Nat), Q v h → Rel P ad h H → Ext h0 ad0 h ad → (∀ q ∈ locs, pB P ≤ q.base) → (∀ w ∈ v.toList, vd h w ∧ rawTag w.1 = false) → retI mi v pc → W p l e R s m args below meth c H locs (H.size - s.heap.size) (ss (pB P) H - ss (pB P) s.heap) Qf (F0 m pc lsC (v.toList.map (cv ad)))
def SX (P : PM) (l : Launch) : XT := fun mi pc ls st h Q => ∀ p e R s m args below meth c h0 ad0 Qf, CX P mi p R s m args meth c → RH P l mi p e R s m args below meth c h0 ad0 Qf Q → WG P l mi p e R s m args below meth c h0 ad0 Qf pc ls st h
theorem SX_mon (P : PM) (l : Launch) : XMon (SX P l) := fun _ _ _ _ _ _ _ hq H p e R s m args below meth c h0 ad0 Qf cx rh => H p e R s m args below meth c h0 ad0 Qf cx fun v h ad H locs lsC pc q => rh v h ad H locs lsC pc (hq v h q)
theorem mok_at {m : Nat} (h : m < 156) : (yT m).cls = ownS (ownN m) ∧ (m < 153 → plainName (yT m).cls = true) ∧ ((yT m).cls ≠ "java/lang/invoke/MethodHandle" ∧ (yT m).cls ≠ "java/lang/invoke/VarHandle") ∧
    (parseMethodDescriptor (yT m).desc).map (fun d => d.parameters.length) = some (nargsT m - (bif Nat.beq (kindT m) 0 then 0 else 1)) ∧ (kindT m = 2 → (yT m).name = "<init>") ∧ nargsT m ≤ maxLT m ∧ ownN m ≤ 12 ∧
    (rtyT m = 0 → retT m = none) ∧ (rtyT m = 1 → retT m = some .int) ∧ (rtyT m = 2 → retT m = some .boolean) ∧ (rtyT m = 3 → ∃ n, retT m = some (.object n)) ∧
    (kindT m = 0 → m < 155 → statL.contains m = true) ∧ (kindT m = 1 → virtL.contains m = true ∧ instL.contains m = true ∧ (famT (rcvT m)).1 = 1 ∧ (famT (rcvT m)).2.1 = ownN m ∧ 1 ≤ nargsT m) ∧
    (kindT m = 2 → instL.contains m = true ∧ (famT (rcvT m)).1 = 2 ∧ (famT (rcvT m)).2.1 = ownN m ∧ retT m = none ∧ 1 ≤ nargsT m) := by
  have z := List.all_eq_true.mp mok_all m (List.mem_range.mpr h)
  simp only [mok, Bool.and_eq_true] at z
  obtain ⟨⟨⟨⟨⟨⟨⟨⟨z1, z2⟩, z3⟩, z4⟩, z5⟩, z6⟩, z7⟩, z8⟩, z9⟩ := z
  refine ⟨of_decide_eq_true z1, fun q => ?_, of_decide_eq_true z3, of_decide_eq_true z4, fun q => ?_, Nat.le_of_ble_eq_true z6, Nat.le_of_ble_eq_true z7, fun q => ?_, fun q => ?_, fun q => ?_, fun q => ?_, fun q q2 => ?_, fun q => ?_, fun q => ?_⟩
  · simp only [Bool.or_eq_true] at z2
    rcases z2 with z2 | z2
    · exact z2
    · have := Nat.le_of_ble_eq_true z2
      omega
  · rw [q] at z5
    simpa using z5
  · rw [q] at z8
    exact of_decide_eq_true z8
  · rw [q] at z8
    exact of_decide_eq_true z8
  · rw [q] at z8
    exact of_decide_eq_true z8
  · rw [q] at z8
    simp only at z8
    split at z8
    · rename_i n hn
      exact ⟨_, hn⟩
    · cases z8
  · rw [q] at z9
    simp only [Bool.or_eq_true, Nat.beq_eq] at z9
    rcases z9 with z9 | z9
    · exact z9
    · omega
  · rw [q] at z9
    simp only [Bool.and_eq_true] at z9
    obtain ⟨⟨⟨a1, a2⟩, a3⟩, a4⟩ := z9
    have a3 := of_decide_eq_true a3
    exact ⟨a1, a2, a3.1, a3.2, Nat.le_of_ble_eq_true a4⟩
  · rw [q] at z9
    simp only [Bool.and_eq_true] at z9
    obtain ⟨⟨a2, a3⟩, a4⟩ := z9
    have a3 := of_decide_eq_true a3
    exact ⟨a2, a3.1, a3.2.1, a3.2.2, Nat.le_of_ble_eq_true a4⟩
def mRm (P : PM) (m' : Nat) (H : Heap) : Room := { frames := frT m', cells := pB P + 600000 - H.size, slots := 7302250 - ss (pB P) H, locals := loT m' }
def mPc (P : PM) (as : List AV) (ad : AD) (h : HP) (H : Heap) : Array Value → State → Prop := fun a U => a = (as.map (cv ad)).toArray ∧ Rel P ad h U.heap ∧ U.heap.size = H.size ∧ ss (pB P) U.heap = ss (pB P) H ∧ KK P U
def mQc (P : PM) (ad : AD) (h : HP) (K : Option AV → HP → Prop) : Array Value → State → Outcome → State → Prop := fun _ _ o t => ∃ v h' ad', o = .returned (v.map (cv ad')) ∧ K v h' ∧ Rel P ad' h' t.heap ∧ Ext h ad h' ad' ∧ ∀ w ∈ v.toList, vd h' w ∧ rawTag w.1 = false
theorem lg_len (ad : AD) : ∀ as : List AV, (lg_sl (as.map (cv ad))).length = as.length
  | [] => rfl
  | v :: t => by
    have := lg_len ad t
    unfold lg_sl at *
    rw [List.map_cons, List.flatMap_cons, if_neg (by rw [cv_cat]; decide), List.length_append, this]
    simp
    omega
theorem lv_args_mem (ad : AD) : ∀ (as : List AV) (i k : Nat) (v : AV), as[k]? = some v → (i + k, cv ad v) ∈ lv_args i (as.map (cv ad))
  | [], _, _, _, h => by simp at h
  | w :: t, i, k, v, h => by
    rw [List.map_cons]
    unfold lv_args
    rw [if_neg (by rw [cv_cat]; decide)]
    cases k with
    | zero =>
      simp only [List.getElem?_cons_zero, Option.some.injEq] at h
      subst h
      exact List.mem_cons_self
    | succ k =>
      rw [List.getElem?_cons_succ] at h
      have := lv_args_mem ad t (i + 1) k v h
      rw [show i + 1 + k = i + (k + 1) by omega] at this
      exact List.mem_cons_of_mem _ this
theorem met_of {P : PM} {l : Launch} {m' : Nat} {as : List AV} {h : HP} {K : Option AV → HP → Prop} {ad : AD} {H : Heap} (hm : m' < 153) (S : SX P l m' 0 (padL m' as) [] h K) (hr0 : Rel P ad h H) (hlen : as.length = nargsT m') (hv : ∀ v ∈ as, vd h v) :
    Met l (yT m') (cdW m' :: gtbl) (mRm P m' H) (mPc P as ad h H) (mQc P ad h K) (pB P + 600000 - H.size) (7302250 - ss (pB P) H) (fun q => pB P ≤ q) := by
  obtain ⟨k1, k2, k3, k4, k5, k6, k7, k8, k9, k10, k11, -⟩ := mok_at (m := m') (by omega)
  refine Met.ofW (cc := bytesT m') (maxL := maxLT m') (ret := retT m') (k2 hm) rfl ?_
  intro p e s m args below meth c s₁ B hml hv9
  obtain ⟨rfl, hr, hz, hs9, hK⟩ := hv9
  have hts := atoms_spec (ws := cdW m' :: gtbl) B.pre
  have hown : s.vm.findClass (yT m').cls = some m.cls := findClass_of_methodNamed B.named
  have cx : CX P m' p (mRm P m' H) s m (as.map (cv ad)).toArray meth c := ⟨B.exec, B.bytes, hml, by rw [← k1]; exact hown, fun w hw => hts w (List.mem_cons_of_mem _ hw), B.returns, B.notSynchronized, fun z => (name_of_methodNamed B.named B.method).1.trans (k5 z), hK, hr.1, Nat.le_refl _, Nat.le_refl _, hr.2.2.2.2.1, hr.2.2.2.2.2.1, by rw [hz]; rfl, by rw [hs9]; rfl⟩
  have hlocks := B.notSynchronized
  have rh : RH P l m' p e (mRm P m' H) s m (as.map (cv ad)).toArray below meth c h ad (MQ below (mQc P ad h K) (as.map (cv ad)).toArray s (pB P + 600000 - H.size) (7302250 - ss (pB P) H) (fun q => pB P ≤ q)) K := by
    intro v h' ad' H' locs lsC pc q r' x hlo hvv ri
    have w1 := r'.2.2.2.2.1
    have w2 := r'.2.2.2.2.2.1
    refine W.widen (k := pB P + 600000 - H.size) (n := 7302250 - ss (pB P) H) (by omega) (by omega) ?_
    match v, hvv, ri, q with
    | none, hvv, ri, q => exact W.vret B.exec B.bytes (B.returns.trans (k8 ri.2)) (fun t ht hW => ⟨none, h', ad', rfl, q, by rw [ht]; exact r', x, hvv⟩) hlo ri.1
    | some w, hvv, ri, q =>
      rcases ri with ⟨i1, i2, i3⟩ | ⟨i1, i2, i3, i4⟩
      · have e1 : cv ad' w = .int w.2 := cv_int' ad' i1
        show W p l e _ s m _ below meth c H' locs _ _ _ (F0 m pc lsC [cv ad' w])
        rw [e1]
        rcases i3 with i3 | ⟨i3, i4⟩
        · exact W.iret B.exec B.bytes (B.returns.trans (k9 i3)) (fun t ht hW => ⟨some w, h', ad', by rw [Option.map_some, e1], q, by rw [ht]; exact r', x, hvv⟩) hlo i2
        · exact W.zret (ty := .boolean) B.exec B.bytes (B.returns.trans (k10 i3)) (by rcases i4 with z | z <;> rw [z] <;> rfl) (fun t ht hW => ⟨some w, h', ad', by rw [Option.map_some, e1], q, by rw [ht]; exact r', x, hvv⟩) hlo i2
      · obtain ⟨n, hn⟩ := k11 i4
        refine W.aret (v := cv ad' w) (rt := .object n) B.exec B.bytes (B.returns.trans hn) (Or.inl ⟨n, rfl⟩) ?_ (fun t ht hW => ⟨some w, h', ad', rfl, q, by rw [ht]; exact r', x, hvv⟩) hlo i3
        rw [cv_r i1]
        split
        · exact Or.inl rfl
        · exact Or.inr ⟨_, rfl⟩
  have wg := S p e (mRm P m' H) s m _ below meth c h ad _ cx rh
  rw [lg_entry_eq]
  refine W_tight (pB P) hr.1 ?_
  have hle : (lg_sl (as.map (cv ad))).length ≤ maxLT m' := by rw [lg_len]; omega
  refine wg ad s.heap [] _ ⟨hr, Ext.rf, (fun q hq => by cases hq), ?_, ?_, (fun v hv => by cases hv), ?_⟩
  · obtain ⟨e1, e2, e3⟩ := lv_entry (as.map (cv ad)) (n := maxLT m') hle
    refine ⟨e1, e2, fun q hq => e3 q ?_⟩
    obtain ⟨k, v, a1, a2, a3⟩ := mem_lp.mp hq
    unfold padL at a1
    by_cases hk : k < as.length
    · rw [List.getElem?_append_left hk] at a1
      rw [a3]
      exact lv_args_mem ad as 0 k v a1
    · rw [List.getElem?_append_right (by omega)] at a1
      have := List.eq_of_mem_replicate (List.mem_of_getElem? a1)
      rw [this] at a2
      cases a2
  · unfold padL
    rw [List.length_append, List.length_replicate]
    omega
  · intro v hv9
    unfold padL at hv9
    rcases List.mem_append.mp hv9 with z | z
    · exact Or.inr (hv v z)
    · rw [List.eq_of_mem_replicate z]
      exact Or.inl rfl
theorem mPc_blind (P : PM) (as : List AV) (ad : AD) (h : HP) (H : Heap) : FrameBlind (mPc P as ad h H) := fun a U g mk q => ⟨q.1, q.2.1, q.2.2.1, q.2.2.2.1, KK.same (u := U) (U := U.calling g mk a) rfl q.2.2.2.2⟩
theorem pay_g {args : Array Value} {s : State} {m' : Nat} (hm : m' < 155) (hts : ∀ w ∈ gtbl, w.before args s = true) : ∀ w ∈ cdW m' :: gtbl, ∀ (a' : Array Value) (U : State), s.WarmedH U.vm → w.before a' U = true :=
  pay_in hts fun w hw => by
    rcases List.mem_cons.mp hw with rfl | hw
    · exact ⟨cd_g hm, good_of_word (good_cd m')⟩
    · exact ⟨hw, good_of_word (List.mem_filter.mp hw).2⟩
section SND
variable {P : PM} {l : Launch} {mi : Nat} {p : Program} {e : Env} {R : Room} {s : State} {m : MethodId} {args : Array Value} {below : List Frame} {meth : Method} {c : Code} {h0 : HP} {ad0 : AD} {Qf : State → Prop} {pc nx : Nat} {ls st : List AV} {h : HP}
theorem run_W {H : Heap} {locs : List Loc} {cells slots mc ms : Nat} {lsC : Array Slot} {st0 rest : List Value} {ad : AD} {K : Option AV → HP → Prop} {a9 : Array Value} (hbs : pB P ≤ s.heap.size)
    (hr : va_Run p l e R s m args below meth c H locs cells slots mc ms (F0 m pc lsC st0) rest (mQc P ad h K a9) (fun q => pB P ≤ q)) (hlo : ∀ q ∈ locs, pB P ≤ q.base)
    (kk : ∀ (v : Option AV) (h' : HP) (ad' : AD) (H1 : Heap) (locs1 : List Loc), K v h' → Rel P ad' h' H1 → Ext h ad h' ad' → (∀ w ∈ v.toList, vd h' w ∧ rawTag w.1 = false) → (∀ q ∈ locs1, pB P ≤ q.base) → W p l e R s m args below meth c H1 locs1 (H1.size - s.heap.size) (ss (pB P) H1 - ss (pB P) s.heap) Qf (F0 m (pc + 3) lsC ((v.map (cv ad')).toList ++ rest))) :
    W p l e R s m args below meth c H locs cells slots Qf (F0 m pc lsC st0) := by
  intro T hT X
  obtain ⟨v, st₀, t, T', L, g0, X', hL, e1, e2, ⟨v9, h', ad', ho, hK, hR, hE, hV⟩, st⟩ := hr T hT X
  have ho := Outcome.returned.inj ho
  subst ho
  have w := kk v9 h' ad' T'.heap (locs ++ L) hK (by rw [e1]; exact hR) hE hV (fun q hq => by
    rcases List.mem_append.mp hq with z | z
    · exact hlo q z
    · exact hL q z)
  obtain ⟨t2, a1, b1⟩ := (W_tight (pB P) hbs w) T' rfl X'
  exact ⟨t2, st t2 a1, b1⟩
/-- behind a call -/
theorem iv_call {ad ad' : AD} {h' : HP} {H H1 : Heap} {locs locs1 : List Loc} {lsC : Array Slot} {rest : List AV} {w : Option AV} (iv : IV P mi h0 ad0 ad h H locs lsC ls st) (hsub : SV h h0 ls rest) (r' : Rel P ad' h' H1) (x : Ext h ad h' ad') (hv : ∀ y ∈ w.toList, vd h' y ∧ rawTag y.1 = false) (hlo : ∀ q ∈ locs1, pB P ≤ q.base) :
    IV P mi h0 ad0 ad' h' H1 locs1 lsC ls (w.toList ++ rest) ∧ (w.map (cv ad')).toList ++ rest.map (cv ad) = (w.toList ++ rest).map (cv ad') := by
  obtain ⟨r, xt, -, hlv, hnl, hs, hls⟩ := iv
  refine ⟨⟨r', xt.tr x, hlo, by rw [lp_ext x hls]; exact hlv, hnl, fun y hy => ?_, hls.ext x⟩, ?_⟩
  · rcases List.mem_append.mp hy with z | z
    · exact ⟨(hv y z).1, fun q => by rw [(hv y z).2] at q; cases q⟩
    · exact (hsub.ext x) y z
  · rw [List.map_append, st_ext x fun v hv => (hsub v hv).1]
    cases w <;> rfl
theorem plain_vd {as : List AV} (hp : plainArgs as = true) {v : AV} (hv : v ∈ as) : v.1 < 500 ∧ rawTag v.1 = false := by
  have := List.all_eq_true.mp hp v hv
  rw [Bool.and_eq_true] at this
  exact ⟨Nat.le_of_ble_eq_true this.1, by simpa using this.2⟩
theorem cat_sum (ad : AD) : ∀ rest : List AV, ((rest.map (cv ad)).map fun v => v.category).sum = rest.length
  | [] => rfl
  | v :: t => by
    rw [List.map_cons, List.map_cons, List.sum_cons, cat_sum ad t, cv_cat, List.length_cons]
    omega
end SND
