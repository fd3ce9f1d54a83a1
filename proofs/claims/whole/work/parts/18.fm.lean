/-! Math.floorMod(int, int): its class is one whose methods may be run by entries; this one is not -/
theorem fq0 : decode (bytesT 153) 0 = .ok (.iload_n 0, 1) := by decide +kernel
theorem fq1 : decode (bytesT 153) 1 = .ok (.iload_n 1, 1) := by decide +kernel
theorem fq2 : decode (bytesT 153) 2 = .ok (.irem, 1) := by decide +kernel
theorem fq3 : decode (bytesT 153) 3 = .ok (.istore_n 2, 1) := by decide +kernel
theorem fq4 : decode (bytesT 153) 4 = .ok (.iload_n 0, 1) := by decide +kernel
theorem fq5 : decode (bytesT 153) 5 = .ok (.iload_n 1, 1) := by decide +kernel
theorem fq6 : decode (bytesT 153) 6 = .ok (.ixor, 1) := by decide +kernel
theorem fq7 : decode (bytesT 153) 7 = .ok (.ifCond .ge 11, 3) := by decide +kernel
theorem fq10 : decode (bytesT 153) 10 = .ok (.iload_n 2, 1) := by decide +kernel
theorem fq11 : decode (bytesT 153) 11 = .ok (.ifCond .eq 7, 3) := by decide +kernel
theorem fq14 : decode (bytesT 153) 14 = .ok (.iload_n 2, 1) := by decide +kernel
theorem fq15 : decode (bytesT 153) 15 = .ok (.iload_n 1, 1) := by decide +kernel
theorem fq16 : decode (bytesT 153) 16 = .ok (.iadd, 1) := by decide +kernel
theorem fq17 : decode (bytesT 153) 17 = .ok (.ireturn, 1) := by decide +kernel
theorem fq18 : decode (bytesT 153) 18 = .ok (.iload_n 2, 1) := by decide +kernel
theorem fq19 : decode (bytesT 153) 19 = .ok (.ireturn, 1) := by decide +kernel
theorem fq_noRow0 : (NativeRow.find? natives (yT 153).cls (yT 153).name (yT 153).desc).isNone = true := by decide +kernel
theorem fq_noRow (p : Program) : NativeRow.find? p.tables.natives (yT 153).cls (yT 153).name (yT 153).desc = none := by
  cases p <;> exact Option.isNone_iff_eq_none.mp fq_noRow0
def fqS (a b : Int32) : Spec := { pre := .and (.code (yT 153) (bytesT 153) 3 (some .int)) (.and (.count 2) (.and (.isInt (.arg 0)) (.and (.isInt (.arg 1)) (.and (.eq (.arg 0) (.int a)) (.eq (.arg 1) (.int b)))))), post := .and .returned (.eq .result (.int (fmd a b))), changes := some [] }
theorem fq_args {args : Array Value} {s : State} {a b : Int32} (h : (fqS a b).pre.before args s = true) : args = #[.int a, .int b] := by
  simp only [fqS, Cond.before_and, Bool.and_eq_true] at h
  obtain ⟨-, h0, h1, h2, h3, h4⟩ := h
  obtain ⟨x, y, rfl⟩ := Cond.two_ints h0 h1 h2
  simp [Cond.before, Cond.holds, Cond.value, Term.eval] at h3 h4
  rw [h3, h4]
set_option maxHeartbeats 4000000 in
theorem fq_meets (l : Launch) (a b : Int32) (hb0 : b ≠ 0) : Meets l (yT 153) (fqS a b) := by
  refine Meets.of_body_ov (code := bytesT 153) (maxLocals := 3) (ret := some .int) fq_noRow ?_ ?_
  · intro args s h
    simp only [fqS, Cond.before_and, Bool.and_eq_true] at h
    exact h.1
  · intro p e s m args below meth c s₁ B
    have hpre := B.pre
    obtain rfl := fq_args hpre
    have hloc : argsToLocals #[.int a, .int b] 3 = #[.val (.int a), .val (.int b), .unset] := rfl
    obtain ⟨fs, hfs⟩ := handOver_isSome (s := s₁) (some (.int (fmd a b))) B.hears₁
    refine ⟨s₁.setFrames fs, .returned (some (.int (fmd a b))), ?_, B.here.running, B.ended hfs (by intro h; cases h), ?_, State.sameBut_nil.mpr ?_⟩
    · unfold entryFrame
      rw [hloc]
      refine Steps.instrAtOv (c := _) (by simpa using B.here) ?_
      simp [jvm, wpRun, exec, B.here.top, B.exec, B.bytes, fq0]
      refine Steps.instrAtOv (c := _) (by simpa using B.here) ?_
      simp [jvm, wpRun, exec, B.here.top, B.exec, B.bytes, fq1]
      refine Steps.instrAtOv (c := _) (by simpa using B.here) ?_
      simp [jvm, wpRun, exec, B.here.top, B.exec, B.bytes, fq2, hb0]
      refine Steps.instrAtOv (c := _) (by simpa using B.here) ?_
      simp [jvm, wpRun, exec, B.here.top, B.exec, B.bytes, fq3, show ∀ x : Int32, storeLocals #[.val (.int a), .val (.int b), .unset] 2 (.int x) = some #[.val (.int a), .val (.int b), .val (.int x)] from fun _ => rfl]
      generalize hrr : a - a / b * b = r
      refine Steps.instrAtOv (c := _) (by simpa using B.here) ?_
      simp [jvm, wpRun, exec, B.here.top, B.exec, B.bytes, fq4]
      refine Steps.instrAtOv (c := _) (by simpa using B.here) ?_
      simp [jvm, wpRun, exec, B.here.top, B.exec, B.bytes, fq5]
      refine Steps.instrAtOv (c := _) (by simpa using B.here) ?_
      simp [jvm, wpRun, exec, B.here.top, B.exec, B.bytes, fq6]
      by_cases h1 : 0 ≤ (a ^^^ b)
      · have hv : fmd a b = r := by unfold fmd; rw [if_pos h1, hrr]
        rw [hv] at hfs
        refine Steps.instrAtOv (c := _) (by simpa using B.here) ?_
        simp [jvm, wpRun, exec, B.here.top, B.exec, B.bytes, fq7, Op.ifCond.holds, h1]
        refine Steps.instrAtOv (c := _) (by simpa using B.here) ?_
        simp [jvm, wpRun, exec, B.here.top, B.exec, B.bytes, fq18]
        refine Steps.instrAtOv (c := _) (by simpa using B.here) ?_
        simp [jvm, wpRun, exec, B.here.top, B.exec, B.bytes, fq19, B.method₁, B.returns, narrow]
        intro acts
        rw [ret_to B.frames₁ B.method₁ B.notSynchronized rfl rfl hfs]
        exact Steps.refl _
      · refine Steps.instrAtOv (c := _) (by simpa using B.here) ?_
        simp [jvm, wpRun, exec, B.here.top, B.exec, B.bytes, fq7, Op.ifCond.holds, h1]
        refine Steps.instrAtOv (c := _) (by simpa using B.here) ?_
        simp [jvm, wpRun, exec, B.here.top, B.exec, B.bytes, fq10]
        by_cases h2 : r = 0
        · have hv : fmd a b = r := by unfold fmd; rw [if_neg h1, hrr, if_pos h2]
          rw [hv] at hfs
          refine Steps.instrAtOv (c := _) (by simpa using B.here) ?_
          simp [jvm, wpRun, exec, B.here.top, B.exec, B.bytes, fq11, Op.ifCond.holds, h2]
          refine Steps.instrAtOv (c := _) (by simpa using B.here) ?_
          simp [jvm, wpRun, exec, B.here.top, B.exec, B.bytes, fq18]
          refine Steps.instrAtOv (c := _) (by simpa using B.here) ?_
          simp [jvm, wpRun, exec, B.here.top, B.exec, B.bytes, fq19, B.method₁, B.returns, narrow]
          intro acts
          rw [h2] at hfs
          rw [ret_to B.frames₁ B.method₁ B.notSynchronized rfl rfl hfs]
          exact Steps.refl _
        · have hv : fmd a b = r + b := by unfold fmd; rw [if_neg h1, hrr, if_neg h2]
          rw [hv] at hfs
          refine Steps.instrAtOv (c := _) (by simpa using B.here) ?_
          simp [jvm, wpRun, exec, B.here.top, B.exec, B.bytes, fq11, Op.ifCond.holds, h2]
          refine Steps.instrAtOv (c := _) (by simpa using B.here) ?_
          simp [jvm, wpRun, exec, B.here.top, B.exec, B.bytes, fq14]
          refine Steps.instrAtOv (c := _) (by simpa using B.here) ?_
          simp [jvm, wpRun, exec, B.here.top, B.exec, B.bytes, fq15]
          refine Steps.instrAtOv (c := _) (by simpa using B.here) ?_
          simp [jvm, wpRun, exec, B.here.top, B.exec, B.bytes, fq16]
          refine Steps.instrAtOv (c := _) (by simpa using B.here) ?_
          simp [jvm, wpRun, exec, B.here.top, B.exec, B.bytes, fq17, B.method₁, B.returns, narrow]
          intro acts
          rw [ret_to B.frames₁ B.method₁ B.notSynchronized rfl rfl hfs]
          exact Steps.refl _
    · simp [fqS, Cond.after, Cond.holds, Cond.value, Term.eval]
    · rw [State.frames_setFrames _ B.cur₁, B.back]
section FM
variable {p : Program} {l : Launch} {e : Env} {R : Room} {s : State} {m : MethodId} {args : Array Value} {below : List Frame} {meth : Method} {c : Code} {H : Heap} {cells slots : Nat} {T : State} {locs : List Loc} {Q : State → Prop}
theorem va_fmodV (X : Stand p l e R s m args below meth c T locs cells slots) (hexec : p.tables.exec = Jvm.exec) {own : String} {index : Nat} (hown : s.vm.findClass own = some m.cls)
    (hlink : (Cond.methodLink own index (yT 153)).before args s = true) (hstat : (Cond.static (yT 153)).before args s = true) (hinit : (Cond.initialized (yT 153).cls).before args s = true)
    (hcode : (Cond.code (yT 153) (bytesT 153) 3 (some .int)).before args s = true)
    {g : JFrame} (hg : g.method = m) (hsize : g.locals.size = c.maxLocals) {a b : Int32} (hb0 : b ≠ 0) {rest : List Value} (hstack : g.stack = .int b :: .int a :: rest) (hdg : decode c.code g.pc = .ok (.invokestatic index, 3))
    (hframes : 1 ≤ R.frames) (hlocals : 2 * g.monitorRoom + (rest.map fun v => v.category).sum + 14 ≤ R.locals) (hcells : cells ≤ R.cells) (hslots : slots ≤ R.slots) :
    ∃ vm', Stand p l e R s m args below meth c (T.setVm vm') locs cells slots ∧
      ∀ target, Steps p.tables e below ((T.setVm vm').setTop { g with pc := g.pc + 3, stack := .int (fmd a b) :: rest }) target → Steps p.tables e below (T.setTop g) target := by
  obtain ⟨v, T', X', ⟨first, t, hpost⟩, hstep⟩ := X.staticByContractV hexec hown hlink hstat hinit hcode (by decide +kernel)
    (Meets.loose_of_no_refs (fq_meets l a b hb0) fun args' s' h => by
      obtain rfl := fq_args h
      intro r hr; simp at hr)
    rfl rfl rfl rfl
    (fun args' first o s₂ h => by
      simp only [fqS, Cond.after_and, Bool.and_eq_true] at h
      cases o with
      | returned r => exact ⟨r, rfl⟩
      | threw y => simp [Cond.after, Cond.holds, Cond.value] at h)
    hg hsize (argsL := [.int a, .int b]) (rest := rest)
    (fun sig hs => by
      have h : parseMethodDescriptor (yT 153).desc = some { parameters := [.int, .int], returnType := some .int } := by decide +kernel
      rw [h] at hs
      rw [← Option.some.inj hs]; rfl)
    hstack hdg
    (fun vm' hW => by
      simp only [fqS, Cond.before_and, Bool.and_eq_true]
      refine ⟨?_, rfl, rfl, rfl, ?_, ?_⟩
      · have q := hcode
        rw [← Cond.code_setVm hW.alike] at q
        simp only [Cond.before, Cond.holds, Cond.value, State.methodNamed?, State.vm_setVm] at q ⊢
        exact q
      · simp [Cond.before, Cond.holds, Cond.value, Term.eval]
      · simp [Cond.before, Cond.holds, Cond.value, Term.eval])
    (by show 0 + 1 ≤ R.frames; omega) (by show 2 * g.monitorRoom + (rest.map fun v => v.category).sum + (3 + 11) + 0 ≤ R.locals; omega) (by show cells + 0 ≤ R.cells; omega) (by show slots + 0 ≤ R.slots; omega)
  refine ⟨T', X', fun target h => hstep target ?_⟩
  obtain rfl : v = some (.int (fmd a b)) := by
    rcases v with _ | w
    · simp [fqS, Cond.after, Cond.holds, Cond.value, Term.eval] at hpost
    · cases w <;> simp [fqS, Cond.after, Cond.holds, Cond.value, Term.eval] at hpost
      rw [hpost]
  exact h
end FM
