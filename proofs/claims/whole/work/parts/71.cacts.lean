/-! 71: the class's acts -/
def agw (w : Nat → Int32 → Prop) (h h' : HP) : Prop := ∀ f x k, (k = -1 ∨ ¬ w f x) → h' f x k = h f x k
theorem agw_rf {w : Nat → Int32 → Prop} {h : HP} : agw w h h := fun _ _ _ _ => rfl
theorem agw_tr {w : Nat → Int32 → Prop} {h h' h'' : HP} (a : agw w h h') (b : agw w h' h'') : agw w h h'' := fun f x k z => (b f x k z).trans (a f x k z)
theorem agw_up {w : Nat → Int32 → Prop} {h h' : HP} {f : Nat} {x k v : Int32} (a : agw w h h') (hw : w f x) (hk : ¬ k = -1) : agw w h (up h' f x k v) := fun f' x' k' z => by
  rw [up_n]
  · exact a f' x' k' z
  · rintro ⟨rfl, rfl, rfl⟩
    exact z.elim hk fun q => q hw
theorem agw_mono {w w' : Nat → Int32 → Prop} {h h' : HP} (a : agw w h h') (q : ∀ f x, w f x → w' f x) : agw w' h h' := fun f x k z => a f x k (z.imp id fun y y' => y (q f x y'))
theorem agw_row {w : Nat → Int32 → Prop} {h h' : HP} (a : agw w h h') {f : Nat} {x : Int32} (n : ¬ w f x) : h' f x = h f x := funext fun k => a f x k (Or.inr n)
theorem ina_n1 {i n : Int32} (h : ina i n) : ¬ i = -1 := fun z => by rw [z] at h; exact absurd h.1 (by decide)
theorem nI_n1 {n : Nat} (h : n < 2147483648) : ¬ nI n = -1 := fun z => by
  have := nJ_nn h
  rw [z] at this; exact absurd this (by decide)
def CZ (z : ZT) (s : Int32) (h : HP) : Prop := (∀ i, ina i 4 → h 39 s i = z.1 i) ∧ h 8 s 1 = z.2.1 ∧ h 8 s 2 = z.2.2
def ZC (w : WK) (j s : Int32) (h : HP) : Prop := (∀ i, ina i 4 → h 39 s i = w.1 i) ∧ h 8 s 1 = w.2.1 ∧ h 8 s 2 = w.2.2.1 ∧ h 1 j 7 = w.2.2.2.1 ∧
  (h 1 j 3 = nI w.2.2.2.2.1.length ∧ LSq (h 21 j) 0 (w.2.2.2.2.1.map fun q => q.1) ∧ LSq (h 22 j) 0 (w.2.2.2.2.1.map fun q => q.2.1) ∧ LSq (h 23 j) 0 (w.2.2.2.2.1.map fun q => q.2.2)) ∧
  h 1 j 6 = nI w.2.2.2.2.2.length ∧ LSq (h 24 j) 0 w.2.2.2.2.2
def PRp (a : AT) (p : Int32) (h : HP) : Prop := h 4 p 3 = a 43 p ∧ (∀ k, 0 ≤ k → k < a 43 p → h 27 p k = a 44 (8 * p + k)) ∧ h 4 p 8 = a 45 p ∧
  ∀ k, 0 ≤ k → k < a 45 p → h 28 p k = a 46 (8 * p + k) ∧ h 29 p k = a 47 (8 * p + k) ∧ h 30 p k = a 48 (8 * p + k) ∧ h 31 p k = a 49 (8 * p + k)
def wD (j s : Int32) (f : Nat) (x : Int32) : Prop := (f = 1 ∧ x = j) ∨ (21 ≤ f ∧ f ≤ 24 ∧ x = j) ∨ ((f = 39 ∨ f = 8) ∧ x = s)
theorem PRp_co {a : AT} {p : Int32} {h h' : HP} (H : PRp a p h) (e : ∀ f, f = 4 ∨ (27 ≤ f ∧ f ≤ 31) → h' f p = h f p) : PRp a p h' := by
  unfold PRp
  rw [e 4 (by omega), e 27 (by omega), e 28 (by omega), e 29 (by omega), e 30 (by omega), e 31 (by omega)]
  exact H
theorem ZC_cell {w : WK} {j s : Int32} {h : HP} (hZ : ZC w j s h) (i x : Int32) : ZC (vpd w.1 i x, w.2) j s (up h 39 s i x) := by
  obtain ⟨c1, c2, c3, c4, c5, c6, c7⟩ := hZ
  refine ⟨fun k hk => ?_, by rw [upfam (by decide)]; exact c2, by rw [upfam (by decide)]; exact c3, by rw [upfam (by decide)]; exact c4, ?_, by rw [upfam (by decide)]; exact c6, by rw [upfam (by decide)]; exact c7⟩
  · rw [uprow]
    show vpd (h 39 s) i x k = vpd w.1 i x k
    unfold vpd
    by_cases q : k = i
    · rw [if_pos q, if_pos q]
    · rw [if_neg q, if_neg q]; exact c1 k hk
  · rw [upfam (by decide), upfam (by decide), upfam (by decide), upfam (by decide)]; exact c5
theorem ZC_fail {w : WK} {j s : Int32} {h : HP} (hZ : ZC w j s h) (x : Int32) : ZC (w.1, w.2.1, w.2.2.1, x, w.2.2.2.2) j s (up h 1 j 7 x) := by
  obtain ⟨c1, c2, c3, c4, c5, c6, c7⟩ := hZ
  refine ⟨fun k hk => by rw [upfam (by decide)]; exact c1 k hk, by rw [upfam (by decide)]; exact c2, by rw [upfam (by decide)]; exact c3, up_at, ⟨by rw [up_n (by simp)]; exact c5.1, ?_⟩, by rw [up_n (by simp)]; exact c6, by rw [upfam (by decide)]; exact c7⟩
  rw [upfam (by decide), upfam (by decide), upfam (by decide)]; exact c5.2
theorem ZC_draw {w : WK} {j s : Int32} {h : HP} (hZ : ZC w j s h) (hf : w.2.2.2.1 = 0) (i x : Int32) : ZC (vpd w.1 i x, w.2.1 + 1, w.2.2.1, 0, w.2.2.2.2) j s (up (up h 39 s i x) 8 s 1 (h 8 s 1 + 1)) := by
  obtain ⟨c1, c2, c3, c4, c5, c6, c7⟩ := ZC_cell hZ i x
  refine ⟨fun k hk => by rw [upfam (by decide)]; exact c1 k hk, ?_, by rw [up_n (by simp)]; exact c3, by rw [upfam (by decide), ← hf]; exact c4, ?_, by rw [upfam (by decide)]; exact c6, by rw [upfam (by decide)]; exact c7⟩
  · rw [up_at, hZ.2.1]
  · rw [upfam (by decide), upfam (by decide), upfam (by decide), upfam (by decide)]; exact c5
theorem ZC_print {w : WK} {j s : Int32} {h : HP} (hZ : ZC w j s h) (ht : w.2.2.2.2.2.length < 8) (x : Int32) : ZC (w.1, w.2.1, w.2.2.1, w.2.2.2.1, w.2.2.2.2.1, w.2.2.2.2.2 ++ [x]) j s (up (up h 24 j (h 1 j 6) x) 1 j 6 (h 1 j 6 + 1)) := by
  obtain ⟨c1, c2, c3, c4, c5, c6, c7⟩ := hZ
  refine ⟨fun k hk => by rw [upfam (by decide), upfam (by decide)]; exact c1 k hk, by rw [upfam (by decide), upfam (by decide)]; exact c2, by rw [upfam (by decide), upfam (by decide)]; exact c3, by rw [up_n (by simp), upfam (by decide)]; exact c4, ⟨by rw [up_n (by simp), upfam (by decide)]; exact c5.1, ?_⟩, ?_, ?_⟩
  · rw [upfam (by decide), upfam (by decide), upfam (by decide), upfam (by decide), upfam (by decide), upfam (by decide)]; exact c5.2
  · rw [up_at, c6, List.length_append]; exact (nJ_s _).symm
  · rw [upfam (by decide), uprow, c6]
    have := LSq_snoc (v := x) (by omega) c7
    rwa [Int32.zero_add] at this
theorem ZC_out {w : WK} {j s : Int32} {h : HP} (hZ : ZC w j s h) (hf : w.2.2.2.1 = 0) (ho : w.2.2.2.2.1.length < 8) (t m x : Int32) : ZC (w.1, w.2.1, w.2.2.1 + 1, 0, w.2.2.2.2.1 ++ [(t, m, x)], w.2.2.2.2.2) j s (up (up (up (up (up h 21 j (h 1 j 3) t) 22 j (h 1 j 3) m) 23 j (h 1 j 3) x) 1 j 3 (h 1 j 3 + 1)) 8 s 2 (h 8 s 2 + 1)) := by
  obtain ⟨c1, c2, c3, c4, ⟨c5, c5a, c5b, c5c⟩, c6, c7⟩ := hZ
  refine ⟨fun k hk => ?_, ?_, ?_, ?_, ⟨?_, ?_, ?_, ?_⟩, ?_, ?_⟩
  · rw [upfam (by decide), upfam (by decide), upfam (by decide), upfam (by decide), upfam (by decide)]; exact c1 k hk
  · rw [up_n (by simp), upfam (by decide), upfam (by decide), upfam (by decide), upfam (by decide)]; exact c2
  · rw [up_at, c3]
  · rw [upfam (by decide), up_n (by simp), upfam (by decide), upfam (by decide), upfam (by decide), ← hf]; exact c4
  · rw [upfam (by decide), up_at, c5, List.length_append]; exact (nJ_s _).symm
  · rw [upfam (by decide), upfam (by decide), upfam (by decide), upfam (by decide), uprow, c5]
    have := LSq_snoc (v := t) (by rw [List.length_map]; omega) c5a
    rwa [Int32.zero_add, List.length_map, ← List.map_singleton (f := fun q : Int32 × Int32 × Int32 => q.1) (a := (t, m, x)), ← List.map_append] at this
  · rw [upfam (by decide), upfam (by decide), upfam (by decide), uprow, upfam (by decide), c5]
    have := LSq_snoc (v := m) (by rw [List.length_map]; omega) c5b
    rwa [Int32.zero_add, List.length_map, ← List.map_singleton (f := fun q : Int32 × Int32 × Int32 => q.2.1) (a := (t, m, x)), ← List.map_append] at this
  · rw [upfam (by decide), upfam (by decide), uprow, upfam (by decide), upfam (by decide), c5]
    have := LSq_snoc (v := x) (by rw [List.length_map]; omega) c5c
    rwa [Int32.zero_add, List.length_map, ← List.map_singleton (f := fun q : Int32 × Int32 × Int32 => q.2.2) (a := (t, m, x)), ← List.map_append] at this
  · rw [upfam (by decide), up_n (by simp), upfam (by decide), upfam (by decide), upfam (by decide)]; exact c6
  · rw [upfam (by decide), upfam (by decide), upfam (by decide), upfam (by decide), upfam (by decide)]; exact c7
theorem s_perfL (a : AT) (j p s e m v n : Int32) (h0 : HP) (Q : Option AV → HP → Prop) (hR : RU a) (hp : ina p 12) (hpn : ina p (a 10 0)) (hn : n = a 10 0) (hs : ¬ s = -1) (he : ¬ e = -1) (hP0 : PRp a p h0) (em : h0 2 e 2 = m) (ex : h0 2 e 6 = v)
    : ∀ (f kk : Nat) (w : WK) (h : HP), 8 ≤ kk + f → kk ≤ 12 → agw (wD j s) h0 h → ZC w j s h → w.2.2.2.2.1.length ≤ kk → w.2.2.2.2.2.length ≤ kk → (0 ≤ w.2.1 ∧ w.2.1 ≤ 8) →
    (∀ h', agw (wD j s) h0 h' → ZC (actsL a p m v f (nI kk) w) j s h' → h' 1 j 4 = h 1 j 4 → Q none h') → WPc 1 14 [(1, j), (4, p), (8, s), (2, e), (0, n), (39, s), (0, nI kk), (500, 0), (500, 0), (500, 0)] [] h Q := by
  have pn := ina_n1 hp
  intro f
  induction f with
  | zero =>
    intro kk w h h1 h1b g hZ ho ht hd H
    have q1 := (hR.2.1 p hp).2
    have hk : nI 8 ≤ nI kk := (nJ_le (by omega) (by omega)).mpr (by omega)
    have hk' : a 45 p ≤ nI kk := Int32.le_trans q1.2 hk
    have hP := PRp_co hP0 (h' := h) fun f hf => agw_row g (by unfold wD; omega)
    refine b1_14 _ _ _ _ _ _ _ h Q ⟨pn, fun _ => H h g hZ rfl, fun z => absurd ?_ z⟩
    rw [hP.2.2.1]; exact hk'
  | succ f ih =>
    intro kk w h h1 h1b g hZ ho ht hd H
    have q1 := (hR.2.1 p hp).2
    have q0 := (hR.2.1 p hp).1
    have hP := PRp_co hP0 (h' := h) fun f hf => agw_row g (by unfold wD; omega)
    have e2 : h 2 e = h0 2 e := agw_row g (by unfold wD; omega)
    have em' : h 2 e 2 = m := by rw [e2]; exact em
    have ex' : h 2 e 6 = v := by rw [e2]; exact ex
    unfold actsL at H
    refine b1_14 _ _ _ _ _ _ _ h Q ⟨pn, fun z => ?_, fun z => ⟨fun z2 => ?_, fun z2 => ?_⟩⟩
    · rw [hP.2.2.1] at z
      rw [if_pos z] at H
      exact H h g hZ rfl
    · rw [hP.2.2.1] at z
      rw [hZ.2.2.2.1] at z2
      rw [if_neg z, if_pos z2] at H
      exact H h g hZ rfl
    · rw [hP.2.2.1] at z
      rw [hZ.2.2.2.1] at z2
      rw [if_neg z, if_neg (fun q => q z2)] at H
      have hlt : nI kk < a 45 p := by grind
      have hk0 : 0 ≤ nI kk := nJ_nn (by omega)
      have hk8 : kk < 8 := by
        have : nI kk < nI 8 := Int32.lt_of_lt_of_le hlt q1.2
        exact (nJ_lt (by omega) (by omega)).mp this
      have ik : ina (nI kk) 8 := nI8 hk8
      obtain ⟨r28, r29, r30, r31⟩ := hP.2.2.2 (nI kk) hk0 hlt
      have rr := hR.2.2 p (nI kk) hp hk0 hlt
      have ia := and3 (a 47 (8 * p + nI kk))
      have ib := and3 (a 48 (8 * p + nI kk))
      have bb := oneF_b (k := nI kk) (m := m) (v := v) (w := w) hR hp hd
      obtain ⟨sN, hsN, hs1, hs2⟩ := stpN a p (nI kk) w
      obtain ⟨c1, c2, c3, c4, ⟨c5, c5a, c5b, c5c⟩, c6, c7⟩ := id hZ
      have next : ∀ h', agw (wD j s) h0 h' → h' 1 j 4 = h 1 j 4 → ZC (oneF a p (nI kk) m v w) j s h' → WPc 1 14 [(1, j), (4, p), (8, s), (2, e), (0, n), (39, s), (0, nI kk + stp a p (nI kk) w), (500, 0), (500, 0), (500, 0)] [] h' Q := fun h' g' e4 z' => by
        rw [hsN, ← nJ_add]
        refine ih (kk + sN) _ h' (by omega) (by omega) g' z' (by omega) (by omega) bb.2.2 fun h'' g2 z3 e5 => H h'' g2 ?_ (e5.trans e4)
        rw [hsN, ← nJ_add]; exact z3
      have n4 : ¬ a 46 (8 * p + nI kk) = 4 → stp a p (nI kk) w = 1 := fun q => by unfold stp; rw [if_neg (fun y => q y.1)]
      have wj : ∀ f, f = 1 ∨ (21 ≤ f ∧ f ≤ 24) → wD j s f j := fun f hf => hf.elim (fun q => Or.inl ⟨q, rfl⟩) (fun q => Or.inr (Or.inl ⟨q.1, q.2, rfl⟩))
      have ws : ∀ f, f = 39 ∨ f = 8 → wD j s f s := fun f hf => Or.inr (Or.inr ⟨hf, rfl⟩)
      have i0 := ina_n1 ia
      rw [r28, r29, r30, r31, rem4 rr.2.1, rem4 rr.2.2.1, em', ex', c1 _ ia, c1 _ ib, c6]
      unfold oneF at next
      refine ⟨pn, ik, by decide, pn, ik, by decide, pn, ik, fun t0 => ⟨ia, he, pn, ik, ia, ?_⟩, fun t0 => ⟨fun t1 => ⟨ib, pn, ik, he, ia, ?_⟩, fun t1 => ⟨fun t2 => ?_, fun t2 => ⟨fun t3 => ?_, fun t3 => ⟨fun t4 => ⟨ia, by decide, fun t5 => ?_, fun t5 => ⟨pn, ik, by decide, ?_⟩⟩, fun t4 => ⟨fun t5 => ⟨ia, nI8 (by omega), ?_⟩, fun t5 => ⟨fun t6 => ?_, fun t6 => ?_⟩⟩⟩⟩⟩⟩⟩
      · rw [if_pos t0] at next
        have := next _ (agw_up g (ws 39 (by omega)) i0) (by rw [upfam (by decide)]) (ZC_cell hZ _ _)
        rw [n4 (by rw [t0]; decide)] at this
        exact b1_285 _ _ _ _ _ _ _ _ _ _ Q this
      · rw [if_neg t0, if_pos t1] at next
        have := next _ (agw_up g (ws 39 (by omega)) i0) (by rw [upfam (by decide)]) (ZC_cell hZ _ _)
        rw [n4 (by rw [t1]; decide)] at this
        exact b1_285 _ _ _ _ _ _ _ _ _ _ Q this
      · rw [if_neg t0, if_neg t1, if_pos t2] at next
        have st := n4 (by rw [t2]; decide)
        rw [st] at next
        have np : ¬ n ≤ 0 := by
          rw [hn]
          have := hpn
          unfold ina at this
          grind
        have np0 : ¬ n = 0 := by intro q; rw [q] at np; exact np (Int32.le_refl _)
        refine ⟨fun q => absurd q np, fun _ => ⟨pn, ik, np0, he, pn, ik, ?_⟩⟩
        refine b3_0 _ _ _ _ _ _ h _ ?_
        rw [c5, c1 _ ia]
        have i3 : ina (nI w.2.2.2.2.1.length) 8 := nI8 (by omega)
        refine ⟨fun y1 => ⟨fun y2 => ⟨i3, i3, hs, ia, i3, hs, hs, b1_190 _ _ _ _ _ _ _ _ _ _ _ Q (b1_285 _ _ _ _ _ _ _ _ _ _ Q ?_)⟩, fun y2 => b1_190 _ _ _ _ _ _ _ _ _ _ _ Q (b1_285 _ _ _ _ _ _ _ _ _ _ Q ?_)⟩, fun y1 => b1_190 _ _ _ _ _ _ _ _ _ _ _ Q (b1_285 _ _ _ _ _ _ _ _ _ _ Q ?_)⟩
        · rw [if_pos y1, if_pos y2] at next
          have zo := ZC_out hZ z2 (by omega) (a 48 (8 * p + nI kk) - a 48 (8 * p + nI kk) / n * n) (m + a 49 (8 * p + nI kk)) (w.1 (a 47 (8 * p + nI kk) &&& 3))
          rw [c5] at zo
          refine next _ (agw_up (agw_up (agw_up (agw_up (agw_up g (wj 21 (by omega)) (ina_n1 i3)) (wj 22 (by omega)) (ina_n1 i3)) (wj 23 (by omega)) (ina_n1 i3)) (wj 1 (by omega)) (by decide)) (ws 8 (by omega)) (by decide)) ?_ (by rw [← hn]; exact zo)
          rw [upfam (by decide), up_n (by simp), upfam (by decide), upfam (by decide), upfam (by decide)]
        · rw [if_pos y1, if_neg y2] at next
          exact next _ (agw_up g (wj 1 (by omega)) (by decide)) (up_n (by simp)) (ZC_fail hZ _)
        · rw [if_neg y1] at next
          exact next _ (agw_up g (wj 1 (by omega)) (by decide)) (up_n (by simp)) (ZC_fail hZ _)
      · rw [if_neg t0, if_neg t1, if_neg t2, if_pos t3] at next
        have st := n4 (by rw [t3]; decide)
        rw [st] at next
        refine b4_0 _ _ _ _ h _ ?_
        rw [hP.1, c2]
        refine ⟨pn, fun y1 => ⟨hs, pn, fun y2 => ⟨hs, pn, hs, ?_, ia, hs, hs, b1_201 _ _ _ _ _ _ _ _ _ _ Q (b1_285 _ _ _ _ _ _ _ _ _ _ Q ?_)⟩, fun y2 => b1_201 _ _ _ _ _ _ _ _ _ _ Q (b1_285 _ _ _ _ _ _ _ _ _ _ Q ?_)⟩, fun y1 => b1_201 _ _ _ _ _ _ _ _ _ _ Q (b1_285 _ _ _ _ _ _ _ _ _ _ Q ?_)⟩
        · exact ⟨hd.1, Int32.lt_of_lt_of_le y2 q0.2⟩
        · rw [if_neg y1, if_pos y2] at next
          have zd := ZC_draw hZ z2 (a 47 (8 * p + nI kk) &&& 3) (a 44 (8 * p + w.2.1))
          rw [c2] at zd
          rw [hP.2.1 w.2.1 hd.1 y2]
          refine next _ (agw_up (agw_up g (ws 39 (by omega)) i0) (ws 8 (by omega)) (by decide)) ?_ zd
          rw [upfam (by decide), upfam (by decide)]
        · rw [if_neg y1, if_neg y2] at next
          exact next _ (agw_up g (wj 1 (by omega)) (by decide)) (up_n (by simp)) (ZC_fail hZ _)
        · rw [if_pos y1] at next
          exact next _ (agw_up g (wj 1 (by omega)) (by decide)) (up_n (by simp)) (ZC_fail hZ _)
      · rw [if_neg t0, if_neg t1, if_neg t2, if_neg t3, if_pos t4] at next
        have := next h g rfl hZ
        unfold stp at this
        rw [if_neg (fun q => t5 ((even_and _).mpr q.2))] at this
        refine b1_285 _ _ _ _ _ _ _ _ _ h Q ?_
        rw [Int32.add_zero]; exact this
      · rw [if_neg t0, if_neg t1, if_neg t2, if_neg t3, if_pos t4] at next
        have := next h g rfl hZ
        unfold stp at this
        rw [if_pos ⟨t4, (even_and _).mp t5⟩] at this
        refine b1_285 _ _ _ _ _ _ _ _ _ h Q ?_
        rw [show nI kk + (a 48 (8 * p + nI kk) &&& 3) + 1 = nI kk + (1 + (a 48 (8 * p + nI kk) &&& 3)) by grind]
        exact this
      · rw [if_neg t0, if_neg t1, if_neg t2, if_neg t3, if_neg t4, if_pos t5] at next
        rw [n4 t4] at next
        have zp := ZC_print hZ (by omega) (w.1 (a 47 (8 * p + nI kk) &&& 3))
        rw [c6] at zp
        refine b1_285 _ _ _ _ _ _ _ _ _ _ Q (next _ (agw_up (agw_up g (wj 24 (by omega)) (nI_n1 (by omega))) (wj 1 (by omega)) (by decide)) ?_ zp)
        rw [up_n (by simp), upfam (by decide)]
      · rw [if_neg t0, if_neg t1, if_neg t2, if_neg t3, if_neg t4, if_neg t5, if_pos t6] at next
        rw [n4 t4] at next
        refine b5_0 _ _ _ _ h _ ?_
        rw [c1 _ ib, c1 _ ia]
        refine ⟨ib, fun y => ⟨ia, ib, y, ia, b1_272 _ _ _ _ _ _ _ _ _ _ Q (b1_285 _ _ _ _ _ _ _ _ _ _ Q ?_)⟩, fun y => b1_272 _ _ _ _ _ _ _ _ _ _ Q (b1_285 _ _ _ _ _ _ _ _ _ _ Q ?_)⟩
        · rw [if_neg y] at next
          exact next _ (agw_up g (ws 39 (by omega)) i0) (by rw [upfam (by decide)]) (ZC_cell hZ _ _)
        · rw [if_pos y] at next
          exact next _ (agw_up g (wj 1 (by omega)) (by decide)) (up_n (by simp)) (ZC_fail hZ _)
      · rw [if_neg t0, if_neg t1, if_neg t2, if_neg t3, if_neg t4, if_neg t5, if_neg t6] at next
        rw [n4 t4] at next
        refine b6_0 _ _ _ _ h _ ?_
        rw [c1 _ ib, fmd_and]
        refine ⟨ib, by decide, by decide, fun y => ⟨ia, b1_285 _ _ _ _ _ _ _ _ _ _ Q ?_⟩, fun y => b1_285 _ _ _ _ _ _ _ _ _ _ Q ?_⟩
        · rw [if_pos y] at next
          have zc := ZC_cell hZ (a 47 (8 * p + nI kk) &&& 3) ((w.1 (a 48 (8 * p + nI kk) &&& 3) &&& 15) - 8)
          refine next _ (agw_up g (ws 39 (by omega)) i0) (by rw [upfam (by decide)]) ?_
          have e0 : ((vpd w.1 (a 47 (8 * p + nI kk) &&& 3) ((w.1 (a 48 (8 * p + nI kk) &&& 3) &&& 15) - 8), w.2) : WK) = (vpd w.1 (a 47 (8 * p + nI kk) &&& 3) ((w.1 (a 48 (8 * p + nI kk) &&& 3) &&& 15) - 8), w.2.1, w.2.2.1, 0, w.2.2.2.2) := by
            rw [← z2]
          rw [← e0]; exact zc
        · rw [if_neg y] at next
          exact next _ (agw_up g (wj 1 (by omega)) (by decide)) (up_n (by simp)) (ZC_fail hZ _)
theorem s_perform (a : AT) (j p s e m v n : Int32) (z : ZT) (h : HP) (Q : Option AV → HP → Prop) (hR : RU a) (hp : ina p 12) (hpn : ina p (a 10 0)) (hn : n = a 10 0) (hs : ¬ s = -1) (he : ¬ e = -1) (hP : PRp a p h) (em : h 2 e 2 = m) (ex : h 2 e 6 = v) (hz : CZ z s h) (hd : 0 ≤ z.2.1 ∧ z.2.1 ≤ 8)
    (H : ∀ h', agw (wD j s) h h' → ZC (actsF a p m v z) j s h' → h' 1 j 4 = z.2.2 → Q none h') : WPm 1 [(1, j), (4, p), (8, s), (2, e), (0, n)] h Q := by
  refine b1_0 _ _ _ _ _ h Q (b2_0 _ _ h _ ⟨hs, b1_5 _ _ _ _ _ _ Q ⟨hs, ?_⟩⟩)
  have g : agw (wD j s) h (up (up (up (up h 1 j 3 0) 1 j 4 (h 8 s 2)) 1 j 6 0) 1 j 7 0) := agw_up (agw_up (agw_up (agw_up agw_rf (Or.inl ⟨rfl, rfl⟩) (by decide)) (Or.inl ⟨rfl, rfl⟩) (by decide)) (Or.inl ⟨rfl, rfl⟩) (by decide)) (Or.inl ⟨rfl, rfl⟩) (by decide)
  refine s_perfL a j p s e m v n h Q hR hp hpn hn hs he hP em ex 8 0 (z.1, z.2.1, z.2.2, 0, [], []) _ (by omega) (by omega) g ?_ (by simp) (by simp) hd fun h' g' z' e4 => H h' g' z' ?_
  · refine ⟨fun i hi => ?_, ?_, ?_, up_at, ⟨?_, trivial, trivial, trivial⟩, ?_, trivial⟩
    · rw [upfam (by decide), upfam (by decide), upfam (by decide), upfam (by decide)]; exact hz.1 i hi
    · rw [upfam (by decide), upfam (by decide), upfam (by decide), upfam (by decide)]; exact hz.2.1
    · rw [upfam (by decide), upfam (by decide), upfam (by decide), upfam (by decide)]; exact hz.2.2
    · rw [up_n (by simp), up_n (by simp), up_n (by simp), up_at]; rfl
    · rw [up_n (by simp), up_at]; rfl
  · rw [e4, up_n (by simp), up_n (by simp), up_at]; exact hz.2.2
theorem ZC_CZ {w : WK} {j s : Int32} {h : HP} (hz : ZC w j s h) : CZ (stF w) s h := ⟨hz.1, hz.2.1, hz.2.2.1⟩
def wS (s : Int32) (f : Nat) (x : Int32) : Prop := (f = 39 ∨ f = 8) ∧ x = s
theorem b33s (s : Int32) (Q : Option AV → HP → Prop) (h0 : HP) (hs : ¬ s = -1) (H : ∀ h', agw (wS s) h0 h' → CZ z0 s h' → Q none h') : ∀ (m c : Nat) (h : HP), c + m = 4 → agw (wS s) h0 h → (∀ i : Nat, i < c → h 39 s (nI i) = 0) → WPc 33 2 [(8, s), (0, nI c)] [] h Q := by
  intro m
  induction m with
  | zero =>
    intro c h e g hc
    have ec : c = 4 := by omega
    subst ec
    refine b33_2 _ _ h Q ⟨fun _ => ⟨hs, hs, H _ (agw_up (agw_up g ⟨Or.inr rfl, rfl⟩ (by decide)) ⟨Or.inr rfl, rfl⟩ (by decide)) ⟨fun i hi => ?_, ?_, ?_⟩⟩, fun z => absurd (by decide) z⟩
    · rw [upfam (by decide), upfam (by decide)]
      obtain ⟨n, rfl, hn⟩ := ina4 hi
      exact hc n hn
    · rw [up_n (by simp), up_at]; rfl
    · rw [up_at]; rfl
  | succ m ih =>
    intro c h e g hc
    have hc4 : c < 4 := by omega
    have ic : ina (nI c) 4 := ⟨nJ_nn (by omega), (nJ_lt (b := 4) (by omega) (by omega)).mpr hc4⟩
    refine b33_2 _ _ h Q ⟨fun z => ?_, fun _ => ⟨hs, ic, ?_⟩⟩
    · exfalso
      have := ic.2
      grind
    · rw [← nJ_s]
      refine ih (c + 1) _ (by omega) (agw_up g ⟨Or.inl rfl, rfl⟩ (ina_n1 ic)) fun i hi => ?_
      rw [uprow]
      by_cases y : i = c
      · subst y; exact vpd_eq _ _ _
      · rw [vpd_ne _ _ (fun q => y (nJ_inj (by omega) (by omega) q))]
        exact hc i (by omega)
theorem s_clear (s : Int32) (h : HP) (Q : Option AV → HP → Prop) (hs : ¬ s = -1) (H : ∀ h', agw (wS s) h h' → CZ z0 s h' → Q none h') : WPm 33 [(8, s)] h Q :=
  b33_0 _ h Q (b33s s Q h hs H 4 0 h (by omega) agw_rf fun i hi => by omega)
