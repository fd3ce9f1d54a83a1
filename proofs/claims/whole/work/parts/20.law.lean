/-! THE CLAIM OUT OF ONE WALK OF THE LAW'S BODY. Your part is whole_start (and what it stands on); all else here is the same for every law, but numbers. -/
def R_law : String := "WarpYardLaw"
def lw_P (b : Addr) (xs : List Int32) (args : Array Value) (s : State) : Prop := args = #[.ref b] ∧ s.IntsAt b xs ∧ xs.length ≤ 3072 ∧ (Jvm.Cond.and given_1 narrow_1).before args s = true
def lw_Q (_ : Array Value) (s : State) (o : Outcome) (t : State) : Prop := o = .returned (some (.int 1)) ∧ Framed s o t [] 600000 7302250
def lw_Z (below : List Frame) (a : Array Value) (s : State) : State → Prop := fun t => ∃ o, t.status = .running ∧ Ended t below o ∧ lw_Q a s o t
/-- the law's own end, with 1 on the stack, nothing written that was there before, its room as the claim has it -/
theorem lw_ret {p : Program} {l : Launch} {e : Env} {s : State} {m : MethodId} {below : List Frame} {meth : Method} {c : Code} {b : Nat} (hx : p.tables.exec = Jvm.exec) (hb : c.code = code) (hr : meth.sig.returnType = ret) (hlocks : meth.locks = false) {pc : Nat} {H : Heap} {ls : Array Slot} (hdg : decode code pc = .ok (.ireturn, 1)) : W p l e room_1 s m #[Value.ref b] below meth c H [] 600000 7302250 (lw_Z below #[Value.ref b] s) (F0 m pc ls [.int 1]) := by
  intro T hT X
  obtain ⟨fs, hret, hrun, hended, hW, hframe⟩ := X.leave (v := some (.int 1)) (hlocks := hlocks) (fun h => by rw [hr] at h; cases h)
  have hmeth' : T.vm.method? m = some meth := X.method'
  refine ⟨T.setFrames fs, ?_, .returned (some (.int 1)), hrun, hended, rfl, ⟨_, rfl⟩, hW, hframe⟩
  jvm_step X.here [X.here.top, hx, hb, hdg, hmeth', hr, ret, narrow_b1]
  (try refine ⟨rfl, ?_⟩); (try refine ⟨rfl, ?_⟩)
  first | (intro acts; rw [hret _ acts rfl rfl rfl]) | rw [hret _ _ rfl rfl rfl]
  exact Steps.refl _
/-- what holds at the law's entry: the machine, the code, the tables' words (any of lw_tbl by 'hts w (by decide +kernel)'), the script of L ints xs at the cell b, what the Statement gives of the start (any of its parts by flat_of_before) -/
def lw_At (p : Program) (s : State) (m : MethodId) (meth : Method) (c : Code) (b L : Nat) (xs : Nat → Int32) : Prop :=
  p.tables.exec = Jvm.exec ∧ c.code = code ∧ meth.sig.returnType = ret ∧ c.maxLocals = 4 ∧ s.vm.findClass R_law = some m.cls ∧ (∀ w ∈ lw_tbl, w.before #[Value.ref b] s = true) ∧ va_X b L xs s s.heap ∧ b < s.heap.size ∧ meth.locks = false ∧ (Jvm.Cond.and given_1 narrow_1).before #[Value.ref b] s = true

def hinit (L : Nat) (xs : Nat → Int32) : HP := fun f j k => if f = 85 ∧ j = 0 then (if k = -2 then nI L else xs k.toNatClampNeg) else 0
theorem PM_init {s : State} {b L : Nat} {xs : Nat → Int32} (hts : ∀ w ∈ lw_tbl, w.before #[Value.ref b] s = true) (hX : va_X b L xs s s.heap) (hbl : b < s.heap.size) (hL : L ≤ 3072) :
    ∃ P : PM, pB P = s.heap.size ∧ pG P = s.heap ∧ pS P = b ∧ pL P = L ∧ pX P = xs ∧ KK P s := by
  have hg : ∀ w ∈ gtbl, w.before #[Value.ref b] s = true := fun w hw => hts w (List.mem_filter.mp hw).1
  have h1 : ∀ c : Nat, ∃ r : ClassId × (Nat → Nat), ∀ q : vw_C, vwCl[c]? = some q → u_Kn s q.1 q.2.1 q.2.2 r.1 r.2 := by
    intro c
    rcases hq : vwCl[c]? with _ | q
    · exact ⟨(0, fun _ => 0), fun q z => by cases z⟩
    · have hc : c < 10 := by
        have := (List.getElem?_eq_some_iff.mp hq).1
        exact this
      have hf : (famT (c + 1)).1 = 1 ∧ (famT (c + 1)).2.1 = c := by
        have : ∀ c, c < 10 → (famT (c + 1)).1 = 1 ∧ (famT (c + 1)).2.1 = c := by decide +kernel
        exact this c hc
      obtain ⟨hcl, -⟩ := clq (f := c + 1) (Or.inl hf.1)
      rw [hf.2, hq] at hcl
      have hcl := Option.some.inj hcl
      obtain ⟨cC, iS, hk⟩ := u_known hg (clIn c q hq) (by
        have := hg _ (inst_g hc)
        rw [hcl]
        exact this)
      exact ⟨(cC, iS), fun q' z => by cases z; exact hk⟩
  have h2 : ∀ t : Nat, ∃ cA : ClassId, t ≤ 4 → ArrOfT s cA (ovT t) ∧ va_RA s cA (ovT t) := by
    intro t
    have prim : ∀ ty : FieldType, (Cond.arrayClass ty).before #[Value.ref b] s = true → (∀ C, ty ≠ .object C) → ∃ cA : ClassId, ArrOfT s cA ty ∧ va_RA s cA ty := by
      intro ty h hno
      obtain ⟨cA, kA, comp, e1, e2, e3⟩ := Cond.arrayClass_spec h
      refine ⟨cA, fun n z => ⟨(fun k h => by cases h), kA, e2, comp, e3⟩, ?_⟩
      cases ty with
      | object C => exact absurd rfl (hno C)
      | _ => exact e1
    have obj : ∀ C : String, (Cond.arrayOver (.object C)).before #[Value.ref b] s = true → ∃ cA : ClassId, ArrOfT s cA (.object C) ∧ va_RA s cA (.object C) := by
      intro C h
      obtain ⟨comp, cA, kA, e1, e2, e3, e4, e5⟩ := Cond.arrayOver_spec h
      exact ⟨cA, fun n z => ⟨(fun k h => by cases h), kA, e3, comp, e4⟩, kA, comp, e3, e4, e1, e5⟩
    match t with
    | 0 => obtain ⟨cA, h⟩ := prim .int (hts _ (obj_in _ (by simp))) (fun C z => by cases z); exact ⟨cA, fun _ => h⟩
    | 1 => obtain ⟨cA, h⟩ := prim .boolean (hts _ (obj_in _ (by simp))) (fun C z => by cases z); exact ⟨cA, fun _ => h⟩
    | 2 => obtain ⟨cA, h⟩ := obj RX1 (hts _ (obj_in _ (by simp))); exact ⟨cA, fun _ => h⟩
    | 3 => obtain ⟨cA, h⟩ := obj RX3 (hts _ (obj_in _ (by simp))); exact ⟨cA, fun _ => h⟩
    | 4 => obtain ⟨cA, h⟩ := obj RX7 (hts _ (obj_in _ (by simp))); exact ⟨cA, fun _ => h⟩
    | n + 5 => exact ⟨0, fun z => by omega⟩
  obtain ⟨f, hf⟩ := Classical.axiomOfChoice h1
  obtain ⟨g, hgt⟩ := Classical.axiomOfChoice h2
  refine ⟨(fun c => (f c).1, fun c => (f c).2, g, s.heap.size, s.heap, b, L, xs), rfl, rfl, rfl, rfl, rfl, ⟨fun c q hq => hf c q hq, fun k q hq => ?_⟩, hX, hbl, hL, fun q hq => va_Nw.of (A := #[Value.ref b]) rfl (hts _ (nw_in _ (List.mem_map_of_mem hq))), va_AO.of (A := #[Value.ref b]) (hts _ (obj_in _ (by simp))), va_AO.of (A := #[Value.ref b]) (hts _ (obj_in _ (by simp))), va_AO.of (A := #[Value.ref b]) (hts _ (obj_in _ (by simp)))⟩
  have hk : k ≤ 4 := by
    have := (List.getElem?_eq_some_iff.mp hq).1
    simp [tysP] at this
    omega
  rw [tys_at _ _ hk] at hq
  cases hq
  exact hgt k hk
theorem hinit_fl {L : Nat} {xs : Nat → Int32} {f : Nat} {j : Int32} : ¬ fl (hinit L xs) f j := by
  intro q
  have h1 := q.1
  unfold hinit at h1
  rw [if_neg fun z => fl_ne85 q z.1] at h1
  exact absurd h1 (by decide)
theorem Rel_init {P : PM} {H : Heap} (hB : pB P = H.size) (hG : pG P = H) (ad : AD) (had : ad 85 0 = pS P) (hL : pL P ≤ 3072) : Rel P ad (hinit (pL P) (pX P)) H := by
  have hs : ss (pB P) H = 0 := by
    unfold ss
    rw [hB, List.drop_eq_nil_of_le (by simp)]
    rfl
  refine ⟨by omega, fun q _ => by rw [hG], ?_, ?_, by omega, by omega, fun f j q => absurd q hinit_fl, fun f j f' j' q => absurd q hinit_fl, ?_, fun i hi => ?_, had⟩
  · show (0 : Int32).toInt = _
    rw [show (0 : Int32).toInt = 0 from by decide]
    omega
  · show (0 : Int32).toInt = _
    rw [show (0 : Int32).toInt = 0 from by decide, hs]
    rfl
  · show (if _ then _ else _) = _
    rw [if_pos ⟨rfl, rfl⟩, if_pos rfl]
  · show (if _ then _ else _) = _
    rw [if_pos ⟨rfl, rfl⟩, if_neg ?_]
    intro z
    rw [z] at hi
    exact absurd hi.1 (by decide)
theorem law_start (pure : ∀ (L : Nat) (xs : Nat → Int32), L ≤ 3072 → WPm 155 [(85, 0)] (hinit L xs) (fun v _ => v = some (0, 1))) {p : Program} {e : Env} {s : State} {m : MethodId} {below : List Frame} {meth : Method} {c : Code} (l : Launch) {b L : Nat} {xs : Nat → Int32} (hL : L ≤ 3072) (C0 : lw_At p s m meth c b L xs) : W p l e room_1 s m #[Value.ref b] below meth c s.heap [] 0 0 (lw_Z below #[Value.ref b] s) (entryFrame m ([Value.ref b] : List Value).toArray 4) := by
  obtain ⟨hx, hb, hr, hml, hown, hts, hX, hbl, hlocks, hgv⟩ := id C0
  obtain ⟨P, e1, e2, e3, e4, e5, hK⟩ := PM_init hts hX hbl hL
  have hg : ∀ w ∈ gtbl, w.before #[Value.ref b] s = true := fun w hw => hts w (List.mem_filter.mp hw).1
  have rel : Rel P (fun _ _ => b) (hinit (pL P) (pX P)) s.heap := Rel_init e1 e2 _ e3.symm (by rw [e4]; exact hL)
  have hs0 : ss (pB P) s.heap = 0 := by
    unfold ss
    rw [e1, List.drop_eq_nil_of_le (by simp)]
    rfl
  have cx : CX P 155 p room_1 s m #[Value.ref b] meth c := ⟨hx, hb, hml, hown, hg, hr, hlocks, fun z => absurd z (by decide +kernel), hK, by omega, by show 8 ≤ 10; decide, by show 193 ≤ 388; decide, by omega, by omega, by show 600000 = _; omega, by show 7302250 = _; omega⟩
  have wg := SX_of (P := P) (l := l) (pure (pL P) (pX P) (by rw [e4]; exact hL)) p e room_1 s m #[Value.ref b] below meth c (hinit (pL P) (pX P)) (fun _ _ => b) (lw_Z below #[Value.ref b] s) cx (by
    intro v h ad H locs lsC pc hv r x hlo hvv ri
    subst hv
    rcases ri with ⟨i1, i2, i3⟩ | ⟨i1, -⟩
    · refine va_forget (fun q hq => by rw [← e1]; exact hlo q hq) ?_
      have w1 := r.2.2.2.2.1
      have w2 := r.2.2.2.2.2.1
      refine W.widen (k := 600000) (n := 7302250) (by omega) (by omega) ?_
      exact lw_ret hx hb hr hlocks i2
    · exact absurd i1 (by decide))
  rw [lg_entry_eq]
  refine W_tight (pB P) (by omega) ?_
  have hent := lv_entry ([Value.ref b] : List Value) (n := 4) (Nat.le_of_ble_eq_true rfl)
  refine wg (fun _ _ => b) s.heap [] _ ⟨rel, Ext.rf, (fun q hq => by cases hq), ⟨hent.1, hent.2.1, fun q hq => hent.2.2 q ?_⟩, rfl, (fun v hv => by cases hv), fun v hv => ?_⟩
  · have : lp (fun _ _ => b) 0 (padL 155 [(85, 0)]) = [(0, Value.ref b)] := rfl
    rw [this] at hq
    exact hq
  · have : padL 155 [(85, 0)] = [(85, 0), (500, 0), (500, 0), (500, 0)] := rfl
    rw [this] at hv
    simp only [List.mem_cons, List.not_mem_nil, or_false] at hv
    rcases hv with rfl | rfl | rfl | rfl
    · exact Or.inr (Or.inr (Or.inr (Or.inr rfl)))
    · exact Or.inl rfl
    · exact Or.inl rfl
    · exact Or.inl rfl
