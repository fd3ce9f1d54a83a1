/-! a local that isn't set may be anything -/
def LE (ls ls' : List AV) : Prop := ls'.length = ls.length ∧ (∀ (i : Nat) (v : AV), ls[i]? = some v → v.1 ≠ 500 → ls'[i]? = some v) ∧ ∀ n, rawTag (ls.getD n (0, 0)).1 = false → rawTag (ls'.getD n (0, 0)).1 = false
theorem LE.rf {ls : List AV} : LE ls ls := ⟨rfl, fun _ _ h _ => h, fun _ h => h⟩
theorem getD_set {ls : List AV} {n i : Nat} {v : AV} : (ls.set n v).getD i (0, 0) = if n = i ∧ i < ls.length then v else ls.getD i (0, 0) := by
  rw [List.getD_eq_getElem?_getD, List.getD_eq_getElem?_getD, List.getElem?_set]
  by_cases h : n = i
  · subst h
    by_cases h2 : n < ls.length
    · simp [h2]
    · simp [h2, List.getElem?_eq_none (Nat.le_of_not_lt h2)]
  · simp [h]
theorem LE.set {ls ls' : List AV} (q : LE ls ls') (n : Nat) (v : AV) : LE (ls.set n v) (ls'.set n v) := by
  obtain ⟨h1, h2, h3⟩ := q
  refine ⟨by simp [h1], fun i w hw h5 => ?_, fun i hi => ?_⟩
  · rw [List.getElem?_set] at hw ⊢
    by_cases e : n = i
    · subst e
      by_cases hl : n < ls.length
      · rw [if_pos rfl, if_pos hl] at hw
        rw [if_pos rfl, if_pos (by omega)]
        exact hw
      · rw [if_pos rfl, if_neg hl] at hw
        cases hw
    · rw [if_neg e] at hw ⊢
      exact h2 i w hw h5
  · rw [getD_set] at hi ⊢
    by_cases e : n = i ∧ i < ls.length
    · rw [if_pos e] at hi
      rw [if_pos ⟨e.1, by omega⟩]
      exact hi
    · rw [if_neg e] at hi
      rw [if_neg fun z => e ⟨z.1, by omega⟩]
      exact h3 i hi
def noNewI (i : Instr) : Bool := match i with
  | .new _ => false
  | .anewarray _ => false
  | .invokespecial _ => false
  | _ => true
def noNew (m : Nat) : Bool := (List.range (szT m)).all fun pc => match cX m pc with
  | some (_, i) => noNewI i
  | none => true
theorem noNew_at {m pc nx : Nat} {i : Instr} (h : noNew m = true) (hc : cX m pc = some (nx, i)) : noNewI i = true := by
  have hc' := hc
  unfold cX at hc'
  cases hb : (Nat.blt m 156 && Nat.blt pc (szT m)) with
  | false => rw [hb] at hc'; cases hc'
  | true =>
    rw [Bool.and_eq_true] at hb
    have := List.all_eq_true.mp h pc (List.mem_range.mpr (Nat.le_of_ble_eq_true hb.2))
    rw [hc] at this
    exact this
def lsI (i : Instr) : Bool := match i with
  | .iload _ => true
  | .aload _ => true
  | .istore _ => true
  | .astore _ => true
  | .iinc _ _ => true
  | .new _ => true
  | .anewarray _ => true
  | .invokespecial _ => true
  | _ => false
set_option maxHeartbeats 4000000 in
theorem exec1_ls {rt : Nat} {i : Instr} {nx : Nat} (ls ls' : List AV) {st : List AV} {h : HP} {k : Nat → List AV → List AV → HP → Prop} {r : Option AV → HP → Prop} {call : Nat → List AV → HP → (Option AV → HP → Prop) → Prop} (hi : lsI i = false) : exec1 rt i nx ls st h k r call = exec1 rt i nx ls' st h (fun pc _ st h => k pc ls st h) r call := by
  cases i <;> first | rfl | cases hi
set_option maxHeartbeats 4000000 in
theorem exec1_le {rt : Nat} {i : Instr} {nx : Nat} {ls ls' st : List AV} {h : HP} {k k' : Nat → List AV → List AV → HP → Prop} {r : Option AV → HP → Prop} {call call' : Nat → List AV → HP → (Option AV → HP → Prop) → Prop} (hi : noNewI i = true) (hle : LE ls ls')
    (hk : ∀ pc l l' st h, LE l l' → k pc l st h → k' pc l' st h) (hc : ∀ m as h K K', (∀ v h, K v h → K' v h) → call m as h K → call' m as h K') (H : exec1 rt i nx ls st h k r call) : exec1 rt i nx ls' st h k' r call' := by
  have hk0 : ∀ pc st h, k pc ls st h → k' pc ls' st h := fun pc st h => hk pc ls ls' st h hle
  by_cases hls : lsI i = false
  · rw [exec1_ls ls ls' hls] at H
    rw [exec1_ls ls' ls' hls]
    exact exec1_mono (fun pc _ st h q => hk0 pc st h q) (fun _ _ q => q) hc H
  cases i
  case new n => cases hi
  case anewarray n => cases hi
  case invokespecial n => cases hi
  case iload n =>
    simp only [exec1] at H ⊢
    split at H
    · rename_i v hv
      obtain ⟨h1, h2⟩ := cT H
      rw [hle.2.1 n v hv (by rw [Nat.eq_of_beq_eq_true h1]; decide)]
      simp only [h1, cond_true]
      exact hk0 _ _ _ h2
    · exact H.elim
  case aload n =>
    simp only [exec1] at H ⊢
    split at H
    · rename_i v hv
      obtain ⟨h1, h2⟩ := cT H
      rw [hle.2.1 n v hv (fun z => by rw [z] at h1; exact absurd h1 (by decide))]
      simp only [h1, cond_true]
      exact hk0 _ _ _ h2
    · exact H.elim
  case istore n =>
    simp only [exec1] at H ⊢
    refine i1_mono (fun x r q => ?_) H
    obtain ⟨h1, h2⟩ := cT q
    rw [Bool.and_eq_true] at h1
    have e2 : rawTag (ls'.getD n (0, 0)).1 = false := hle.2.2 n (by simpa using h1.2)
    rw [hle.1, h1.1, e2]
    exact hk _ _ _ _ _ (hle.set n _) h2
  case astore n =>
    match st, H with
    | v :: st, H =>
      obtain ⟨h1, h2⟩ := cT H
      simp only [Bool.and_eq_true] at h1
      have e2 : rawTag (ls'.getD n (0, 0)).1 = false := hle.2.2 n (by simpa using h1.2)
      show bif _ then _ else _
      rw [hle.1, h1.1.1.1, h1.1.1.2, h1.1.2, e2]
      exact hk _ _ _ _ _ (hle.set n _) h2
  case iinc n c =>
    simp only [exec1] at H ⊢
    split at H
    · rename_i v hv
      obtain ⟨h1, h2⟩ := cT H
      rw [hle.2.1 n v hv (by rw [Nat.eq_of_beq_eq_true h1]; decide)]
      simp only [h1, cond_true]
      exact hk _ _ _ _ _ (hle.set n _) h2
    · exact H.elim
  all_goals exact absurd rfl hls
theorem WPc.forget {m pc : Nat} {ls ls' st : List AV} {h : HP} {Q : Option AV → HP → Prop} (hm : noNew m = true) (hle : LE ls ls') (H : WPc m pc ls st h Q) : WPc m pc ls' st h Q := by
  intro X hX hs
  have key := H (fun m pc ls st h Q => ∀ ls', (ls' = ls ∨ (noNew m = true ∧ LE ls ls')) → X m pc ls' st h Q) (fun _ _ _ _ _ _ _ hq z ls' hl => hX _ _ _ _ _ _ _ hq (z ls' hl)) (by
    intro m pc ls st h Q z ls' hl
    refine hs _ _ _ _ _ _ ?_
    unfold stepX at z ⊢
    split at z
    · exact z
    · rename_i nx i hc
      rcases hl with rfl | ⟨hm, hle⟩
      · exact exec1_mono (fun _ _ _ _ q => q _ (Or.inl rfl)) (fun _ _ q => q) (fun _ _ _ _ _ hK q => hX _ _ _ _ _ _ _ hK (q _ (Or.inl rfl))) z
      · exact exec1_le (noNew_at hm hc) hle (fun _ _ _ _ _ hl q => q _ (Or.inr ⟨hm, hl⟩)) (fun _ _ _ _ _ hK q => hX _ _ _ _ _ _ _ hK (q _ (Or.inl rfl))) z)
  exact key ls' (Or.inr ⟨hm, hle⟩)
/-- one local is forgotten: its place, and that what stands there is no object under construction -/
theorem LE.one {ls ls' : List AV} (n : Nat) {v : AV} (hv : rawTag v.1 = false) (h : ls = ls'.set n (500, 0)) (h2 : ls'[n]? = some v) : LE ls ls' := by
  subst h
  refine ⟨by simp, fun i w hw h5 => ?_, fun i hi => ?_⟩
  · rw [List.getElem?_set] at hw
    by_cases e : n = i
    · subst e
      by_cases hl : n < ls'.length
      · rw [if_pos rfl, if_pos hl] at hw
        exact absurd (by rw [← Option.some.inj hw]) h5
      · rw [if_pos rfl, if_neg hl] at hw
        cases hw
    · rw [if_neg e] at hw
      exact hw
  · by_cases e : n = i
    · subst e
      rw [List.getD_eq_getElem?_getD, h2]
      exact hv
    · rw [getD_set, if_neg fun z => e z.1] at hi
      exact hi
