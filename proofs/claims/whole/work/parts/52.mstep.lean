/-! 52: the model's floor, next, step, run, deliver, start -/
def FH (a : AT) (v : Int32) (h : HP) : Prop := (v = -1 ∧ h 10 0 49 = 0) ∨ (¬ v = -1 ∧ h 10 0 49 = 1 ∧ h 10 0 45 = a 55 v ∧ h 10 0 46 = a 56 v ∧ h 10 0 47 = a 57 v ∧ h 10 0 48 = a 58 v)
theorem FH_ag {a : AT} {v : Int32} {s : Nat → Int32 → Bool} {h h' : HP} (H : FH a v h) (g : ag s h h') (z : s 10 45 = false ∧ s 10 46 = false ∧ s 10 47 = false ∧ s 10 48 = false ∧ s 10 49 = false) : FH a v h' := by
  unfold FH
  rw [g 10 0 45 z.1, g 10 0 46 z.2.1, g 10 0 47 z.2.2.1, g 10 0 48 z.2.2.2.1, g 10 0 49 z.2.2.2.2]
  exact H
theorem s_lower (a : AT) (e v : Int32) (h : HP) (Q : Option AV → HP → Prop) (hA : MA a h) (hF : FH a v h) (he : ina e 400) (H1 : (v = -1 ∨ klt a e v) → ∀ h', ag sF h h' → FH a e h' → Q none h') (H2 : ¬ (v = -1 ∨ klt a e v) → Q none h) : WPm 114 [(10, 0), (0, e)] h Q := by
  have en : ¬ e = -1 := fun z => by rw [z] at he; exact absurd he.1 (by decide)
  have take : (v = -1 ∨ klt a e v) → Q none (up (up (up (up (up h 10 0 49 1) 10 0 45 (h 55 0 e)) 10 0 46 (h 56 0 e)) 10 0 47 (h 57 0 e)) 10 0 48 (h 58 0 e)) := fun z => by
    refine H1 z _ (ag_up (ag_up (ag_up (ag_up (ag_up ag_rf (by decide)) (by decide)) (by decide)) (by decide)) (by decide)) ?_
    rw [hA 55 e rfl, hA 56 e rfl, hA 57 e rfl, hA 58 e rfl]
    refine Or.inr ⟨en, ?_, ?_, ?_, ?_, ?_⟩ <;> simp [up]
  rcases hF with ⟨h1, h2⟩ | ⟨h1, h2, h3, h4, h5, h6⟩
  · exact b114_0 e h Q ⟨fun _ => ⟨Or.inr rfl, he, he, he, he, take (Or.inl h1)⟩, fun z => absurd h2 z⟩
  · refine b114_0 e h Q ⟨fun z => by rw [h2] at z; exact absurd z (by decide), fun _ => ?_⟩
    rw [h3, h4, h5, h6]
    refine s_compare _ _ _ _ _ h _ he (b114_28 _ _ h Q ⟨fun z => H2 ?_, fun z => ⟨Or.inr rfl, he, he, he, he, take (Or.inr ?_)⟩⟩)
    · rintro (q | q)
      · exact h1 q
      · exact absurd ((cmpK_lt hA).mpr q) (by grind)
    · exact (cmpK_lt hA).mp (by grind)
theorem nE_nat {A : SY} (hI : YV A) : ∃ N : Nat, nE A = nI N ∧ N ≤ 400 := by
  obtain ⟨N, h1, h2⟩ := nJ_exlt (N := 401) (i := nE A) (by decide) hI.1.2.1.1 (Int32.lt_of_le_of_lt hI.1.2.1.2 (by decide))
  exact ⟨N, h1, by omega⟩
theorem ina_nat {e : Int32} {N : Nat} (hN : N ≤ 400) : ina e (nI N) ↔ ∃ i, i < N ∧ e = nI i := by
  constructor
  · intro h
    obtain ⟨i, h1, h2⟩ := nJ_exlt (N := N) (by omega) h.1 h.2
    exact ⟨i, h2, h1⟩
  · rintro ⟨i, h1, rfl⟩
    exact ⟨nJ_nn (by omega), (nJ_lt (by omega) (by omega)).mpr h1⟩
theorem s_findFloor (A : SY) (h : HP) (Q : Option AV → HP → Prop) (hY : YW A) (hM : MD 0 A h) (H : ∀ v h', ag sF h h' → isFl A v → FH A.1 v h' → Q none h') : WPm 115 [(10, 0)] h Q := by
  obtain ⟨N, hN, hN4⟩ := nE_nat hY.1
  have wl : (wy A).length ≤ 800 := by
    have h1 := pnd_cnt hY.1
    have h2 := cnt_le A
    unfold pnd at h1
    rw [List.length_append] at h1
    omega
  have wi : ∀ q, q ∈ wy A → ina q.1 (nE A) ∧ opn A q.1 := fun q hq => by
    obtain ⟨e, s⟩ := q
    have hp : (e, s) ∈ pnd A := List.mem_append.mpr (Or.inl hq)
    cases s with
    | false =>
      have := (hY.1.2.2.1.2.1 e).mp hp
      exact ⟨this.1, Or.inr (Or.inl this.2)⟩
    | true => exact ⟨(hY.1.2.2.1.2.2.1 e hp).1, Or.inr (Or.inr hq)⟩
  have loop2 : ∀ (rest pre : List PT) (v : Int32) (h' : HP), wy A = pre ++ rest → ag sF h h' → FH A.1 v h' → bst A.1 (fun f => (ina f (nE A) ∧ (hw A f = 0 ∨ hw A f = 3)) ∨ ∃ q, q ∈ pre ∧ q.1 = f) v →
      WPc 115 47 [(10, 0), (0, nI pre.length)] [] h' Q := by
    intro rest
    induction rest with
    | nil =>
      intro pre v h' e g hF hb
      rw [List.append_nil] at e
      have M := MD_ag hM (ag_FS g)
      refine b115_47 _ h' Q ⟨fun _ => H v h' g ?_ hF, fun z => absurd (by rw [M.2.2.2.2.1.1, e]; exact Int32.le_refl _) z⟩
      refine bst_same hb fun f => ?_
      constructor
      · rintro ⟨f1, f2 | f2 | f2⟩
        · exact Or.inl ⟨f1, Or.inl f2⟩
        · exact Or.inl ⟨f1, Or.inr f2⟩
        · exact Or.inr ⟨(f, true), by rw [← e]; exact f2, rfl⟩
      · rintro (⟨f1, f2⟩ | ⟨q, q1, rfl⟩)
        · exact ⟨f1, f2.elim Or.inl fun z => Or.inr (Or.inl z)⟩
        · exact wi q (by rw [e]; exact q1)
    | cons q rest ih =>
      intro pre v h' e g hF hb
      have M := MD_ag hM (ag_FS g)
      have pl : pre.length < (wy A).length := by rw [e]; simp
      have qi := wi q (by rw [e]; simp)
      have gq := ga hY.1 qi.1
      have val : h' 67 0 (nI pre.length) = cd q := by
        have := M.2.2.2.2.1.2
        rw [e, List.map_append] at this
        have := (LSq_app.mp this).2.1
        rwa [Int32.zero_add, List.length_map] at this
      have co := (cd_ok gq.1 q.2).1
      refine b115_47 _ h' Q ⟨fun z => ?_, fun _ => ⟨i900 (by omega), by decide, ?_⟩⟩
      · rw [M.2.2.2.2.1.1, nJ_le (by omega) (by omega)] at z
        exfalso; omega
      · rw [val, show cd q / 2 = q.1 from co]
        have en : ¬ q.1 = -1 := fun z => by rw [z] at gq; exact absurd gq.1.1 (by decide)
        have ba := bst_add (P' := fun f => (ina f (nE A) ∧ (hw A f = 0 ∨ hw A f = 3)) ∨ ∃ q', q' ∈ pre ++ [q] ∧ q'.1 = f) hb en (fun f => by
          constructor
          · rintro (z | ⟨q', z1, z2⟩)
            · exact Or.inl (Or.inl z)
            · rcases List.mem_append.mp z1 with y | y
              · exact Or.inl (Or.inr ⟨q', y, z2⟩)
              · rw [List.mem_singleton] at y
                rw [y] at z2
                exact Or.inr z2.symm
          · rintro ((z | ⟨q', z1, z2⟩) | z)
            · exact Or.inl z
            · exact Or.inr ⟨q', List.mem_append.mpr (Or.inl z1), z2⟩
            · exact Or.inr ⟨q, by simp, z.symm⟩)
        have nx : ∀ v' h'', ag sF h h'' → FH A.1 v' h'' → bst A.1 (fun f => (ina f (nE A) ∧ (hw A f = 0 ∨ hw A f = 3)) ∨ ∃ q', q' ∈ pre ++ [q] ∧ q'.1 = f) v' → WPc 115 67 [(10, 0), (0, nI pre.length)] [] h'' Q := fun v' h'' g' hF' hb' => by
          refine b115_67 _ h'' Q ?_
          have := ih (pre ++ [q]) v' h'' (by rw [e]; simp) g' hF' hb'
          rw [List.length_append] at this
          rw [← nJ_s]; exact this
        exact s_lower A.1 q.1 v h' _ M.1 hF gq.1 (fun z h'' g' hF' => nx q.1 h'' (ag_tr g g') hF' (ba.1 z)) (fun z => nx v h' g hF (ba.2 z))
  have loop1 : ∀ (m k : Nat) (v : Int32) (h' : HP), k + m = N → ag sF h h' → FH A.1 v h' → bst A.1 (fun f => (∃ i, i < k ∧ f = nI i) ∧ (hw A f = 0 ∨ hw A f = 3)) v →
      WPc 115 7 [(10, 0), (0, nI k)] [] h' Q := by
    intro m
    induction m with
    | zero =>
      intro k v h' e g hF hb
      have M := MD_ag hM (ag_FS g)
      have e13 : h' 10 0 13 = nI N := (M.1 10 13 rfl).trans hN
      have ek : k = N := by omega
      subst ek
      refine b115_7 _ h' Q ⟨fun _ => ?_, fun z => absurd (by rw [e13]; exact Int32.le_refl _) z⟩
      refine loop2 (wy A) [] v h' rfl g hF (bst_same hb fun f => ?_)
      constructor
      · rintro (⟨f1, f2⟩ | ⟨q, q1, -⟩)
        · rw [hN] at f1
          exact ⟨(ina_nat hN4).mp f1, f2⟩
        · cases q1
      · rintro ⟨f1, f2⟩
        exact Or.inl ⟨by rw [hN]; exact (ina_nat hN4).mpr f1, f2⟩
    | succ m ih =>
      intro k v h' e g hF hb
      have M := MD_ag hM (ag_FS g)
      have e13 : h' 10 0 13 = nI N := (M.1 10 13 rfl).trans hN
      have ki : ina (nI k) (nE A) := by rw [hN]; exact (ina_nat hN4).mpr ⟨k, by omega, rfl⟩
      have gk := ga hY.1 ki
      have e60 : h' 60 0 (nI k) = hw A (nI k) := M.1 60 _ rfl
      have en : ¬ nI k = -1 := fun z => by rw [z] at gk; exact absurd gk.1.1 (by decide)
      have nx : ∀ v' h'', ag sF h h'' → FH A.1 v' h'' → bst A.1 (fun f => (∃ i, i < k + 1 ∧ f = nI i) ∧ (hw A f = 0 ∨ hw A f = 3)) v' → WPc 115 39 [(10, 0), (0, nI k)] [] h'' Q := fun v' h'' g' hF' hb' => by
        refine b115_39 _ h'' Q ?_
        rw [← nJ_s]
        exact ih (k + 1) v' h'' (by omega) g' hF' hb'
      have lo : (hw A (nI k) = 0 ∨ hw A (nI k) = 3) → WPm 114 [(10, 0), (0, nI k)] h' (fun w h' => WPc 115 39 [(10, 0), (0, nI k)] (w.toList ++ []) h' Q) := fun ho => by
        have ba := bst_add (P' := fun f => (∃ i, i < k + 1 ∧ f = nI i) ∧ (hw A f = 0 ∨ hw A f = 3)) hb en (fun f => by
          constructor
          · rintro ⟨⟨i, i1, i2⟩, z⟩
            by_cases y : i = k
            · right; rw [i2, y]
            · exact Or.inl ⟨⟨i, by omega, i2⟩, z⟩
          · rintro (⟨⟨i, i1, i2⟩, z⟩ | z)
            · exact ⟨⟨i, by omega, i2⟩, z⟩
            · exact ⟨⟨k, by omega, z⟩, by rw [z]; exact ho⟩)
        exact s_lower A.1 (nI k) v h' _ M.1 hF gk.1 (fun z h'' g' hF' => nx _ h'' (ag_tr g g') hF' (ba.1 z)) (fun z => nx v h' g hF (ba.2 z))
      refine b115_7 _ h' Q ⟨fun z => ?_, fun _ => ⟨gk.1, fun z => ?_, fun z => ⟨gk.1, fun z2 => ?_, fun z2 => ?_⟩⟩⟩
      · rw [e13, nJ_le (by omega) (by omega)] at z
        exfalso; omega
      · exact lo (Or.inl (by rw [← e60]; exact z))
      · refine nx v h' g hF (bst_same hb fun f => ?_)
        constructor
        · rintro ⟨⟨i, i1, i2⟩, y⟩
          by_cases w : i = k
          · rw [i2, w, ← e60] at y
            exact absurd y (fun q => q.elim z z2)
          · exact ⟨⟨i, by omega, i2⟩, y⟩
        · rintro ⟨⟨i, i1, i2⟩, y⟩
          exact ⟨⟨i, by omega, i2⟩, y⟩
      · exact lo (Or.inr (by rw [← e60]; exact z2))
  refine b115_0 h Q ⟨Or.inl rfl, ?_⟩
  refine loop1 N 0 (-1) (up h 10 0 49 0) (by omega) (ag_up ag_rf (by decide)) (Or.inl ⟨rfl, by simp [up]⟩) (Or.inl ⟨rfl, fun f z => ?_⟩)
  obtain ⟨⟨i, i1, -⟩, -⟩ := z
  omega
theorem s_nextOf (A : SY) (l : Int32) (h : HP) (Q : Option AV → HP → Prop) (hY : YW A) (hM : MD 0 A h) (H : ∀ v, nxt A l v → Q (some (0, v)) h) : WPm 118 [(10, 0), (0, l)] h Q := by
  obtain ⟨N, hN, hN4⟩ := nE_nat hY.1
  have e13 : h 10 0 13 = nI N := (hM.1 10 13 rfl).trans hN
  have loop : ∀ (m k : Nat) (v : Int32), k + m = N → ((v = -1 ∧ ∀ i, i < k → hw A (nI i) = 0 → ¬ A.1 42 (pa A (nI i)) = l) ∨ (¬ v = -1 ∧ (ina v (nE A) ∧ hw A v = 0 ∧ A.1 42 (pa A v) = l) ∧ ∀ i, i < k → hw A (nI i) = 0 → A.1 42 (pa A (nI i)) = l → ¬ bel A.1 (nI i) v)) →
      WPc 118 4 [(10, 0), (0, l), (0, v), (0, nI k), (500, 0)] [] h Q := by
    intro m
    induction m with
    | zero =>
      intro k v e hv
      have ek : k = N := by omega
      subst ek
      refine b118_4 _ _ _ h Q ⟨fun _ => H v ?_, fun z => absurd (by rw [e13]; exact Int32.le_refl _) z⟩
      rcases hv with ⟨v1, v2⟩ | ⟨v1, v2, v3⟩
      · refine Or.inl ⟨v1, fun f f1 f2 => ?_⟩
        rw [hN] at f1
        obtain ⟨i, i1, rfl⟩ := (ina_nat hN4).mp f1
        exact v2 i i1 f2
      · refine Or.inr ⟨v1, v2, fun f f1 f2 => ?_⟩
        rw [hN] at f1
        obtain ⟨i, i1, rfl⟩ := (ina_nat hN4).mp f1
        exact v3 i i1 f2
    | succ m ih =>
      intro k v e hv
      have ki : ina (nI k) (nE A) := by rw [hN]; exact (ina_nat hN4).mpr ⟨k, by omega, rfl⟩
      have gk := ga hY.1 ki
      have en : ¬ nI k = -1 := fun z => by rw [z] at gk; exact absurd gk.1.1 (by decide)
      have e60 : h 60 0 (nI k) = hw A (nI k) := hM.1 60 _ rfl
      have e54 : h 54 0 (nI k) = pa A (nI k) := hM.1 54 _ rfl
      have e42 : h 42 0 (pa A (nI k)) = A.1 42 (pa A (nI k)) := hM.1 42 _ rfl
      have keep : (¬ (hw A (nI k) = 0 ∧ A.1 42 (pa A (nI k)) = l) ∨ (¬ v = -1 ∧ ¬ bel A.1 (nI k) v)) → WPc 118 4 [(10, 0), (0, l), (0, v), (0, nI k + 1), (500, 0)] [] h Q := fun z => by
        rw [← nJ_s]
        refine ih (k + 1) v (by omega) ?_
        rcases hv with ⟨v1, v2⟩ | ⟨v1, v2, v3⟩
        · refine Or.inl ⟨v1, fun i hi hi2 hi3 => ?_⟩
          by_cases y : i = k
          · subst y
            rcases z with z | z
            · exact z ⟨hi2, hi3⟩
            · exact z.1 v1
          · exact v2 i (by omega) hi2 hi3
        · refine Or.inr ⟨v1, v2, fun i hi hi2 hi3 => ?_⟩
          by_cases y : i = k
          · subst y
            rcases z with z | z
            · exact absurd ⟨hi2, hi3⟩ z
            · exact z.2
          · exact v3 i (by omega) hi2 hi3
      have take : hw A (nI k) = 0 → A.1 42 (pa A (nI k)) = l → (v = -1 ∨ bel A.1 (nI k) v) → WPc 118 4 [(10, 0), (0, l), (0, nI k), (0, nI k + 1), (500, 0)] [] h Q := fun k1 k2 z => by
        rw [← nJ_s]
        refine ih (k + 1) (nI k) (by omega) (Or.inr ⟨en, ⟨ki, k1, k2⟩, fun i hi hi2 hi3 hb => ?_⟩)
        by_cases y : i = k
        · subst y; exact bel_irr hb
        · rcases hv with ⟨v1, v2⟩ | ⟨v1, v2, v3⟩
          · exact v2 i (by omega) hi2 hi3
          · rcases z with z | z
            · exact v1 z
            · exact v3 i (by omega) hi2 hi3 (bel_tr hb z)
      refine b118_4 _ _ _ h Q ⟨fun z => ?_, fun _ => ?_⟩
      · rw [e13, nJ_le (by omega) (by omega)] at z
        exfalso; omega
      · rw [e60, e54, e42]
        refine ⟨gk.1, fun z => ⟨fun _ => keep (Or.inl fun y => z y.1), fun y => absurd rfl y⟩, fun z => ⟨gk.1, gk.2.1, fun z2 => ⟨fun _ => keep (Or.inl fun y => z2 y.2), fun y => absurd rfl y⟩, fun z2 => ⟨fun y => absurd y (by decide), fun _ => ⟨fun z3 => take z z2 (Or.inl z3), fun z3 => ?_⟩⟩⟩⟩
        have hv3 : ina v 400 := by
          rcases hv with ⟨v1, -⟩ | ⟨-, v2, -⟩
          · exact absurd v1 z3
          · exact (ga hY.1 v2.1).1
        exact s_bel A.1 (nI k) v h _ hM.1 gk.1 hv3 (fun b => b118_59 _ _ _ _ _ h Q ⟨fun y => absurd y (by decide), fun _ => take z z2 (Or.inr b)⟩) (fun b => b118_59 _ _ _ _ _ h Q ⟨fun _ => keep (Or.inr ⟨z3, b⟩), fun y => absurd rfl y⟩)
  exact b118_0 _ h Q (loop N 0 (-1) (by omega) (Or.inl ⟨rfl, fun i hi => by omega⟩))
theorem nxt_ex {A : SY} (hI : YV A) (l : Int32) : ∃ v, nxt A l v := by
  obtain ⟨N, hN, hN4⟩ := nE_nat hI
  have key : ∀ k, k ≤ N → ∃ v, ((v = -1 ∧ ∀ i, i < k → hw A (nI i) = 0 → ¬ A.1 42 (pa A (nI i)) = l) ∨ (¬ v = -1 ∧ (ina v (nE A) ∧ hw A v = 0 ∧ A.1 42 (pa A v) = l) ∧ ∀ i, i < k → hw A (nI i) = 0 → A.1 42 (pa A (nI i)) = l → ¬ bel A.1 (nI i) v)) := by
    intro k
    induction k with
    | zero => intro _; exact ⟨-1, Or.inl ⟨rfl, fun i hi => by omega⟩⟩
    | succ k ih =>
      intro hk
      obtain ⟨v, hv⟩ := ih (by omega)
      have ki : ina (nI k) (nE A) := by rw [hN]; exact (ina_nat hN4).mpr ⟨k, by omega, rfl⟩
      have en : ¬ nI k = -1 := fun z => by rw [z] at ki; exact absurd ki.1 (by decide)
      by_cases c : hw A (nI k) = 0 ∧ A.1 42 (pa A (nI k)) = l
      · rcases hv with ⟨v1, v2⟩ | ⟨v1, v2, v3⟩
        · refine ⟨nI k, Or.inr ⟨en, ⟨ki, c⟩, fun i hi h1 h2 hb => ?_⟩⟩
          by_cases y : i = k
          · subst y; exact bel_irr hb
          · exact v2 i (by omega) h1 h2
        · by_cases b : bel A.1 (nI k) v
          · refine ⟨nI k, Or.inr ⟨en, ⟨ki, c⟩, fun i hi h1 h2 hb => ?_⟩⟩
            by_cases y : i = k
            · subst y; exact bel_irr hb
            · exact v3 i (by omega) h1 h2 (bel_tr hb b)
          · refine ⟨v, Or.inr ⟨v1, v2, fun i hi h1 h2 => ?_⟩⟩
            by_cases y : i = k
            · subst y; exact b
            · exact v3 i (by omega) h1 h2
      · refine ⟨v, ?_⟩
        rcases hv with ⟨v1, v2⟩ | ⟨v1, v2, v3⟩
        · refine Or.inl ⟨v1, fun i hi h1 h2 => ?_⟩
          by_cases y : i = k
          · subst y; exact c ⟨h1, h2⟩
          · exact v2 i (by omega) h1 h2
        · refine Or.inr ⟨v1, v2, fun i hi h1 h2 => ?_⟩
          by_cases y : i = k
          · subst y; exact absurd ⟨h1, h2⟩ c
          · exact v3 i (by omega) h1 h2
  obtain ⟨v, hv⟩ := key N (by omega)
  refine ⟨v, ?_⟩
  rcases hv with ⟨v1, v2⟩ | ⟨v1, v2, v3⟩
  · refine Or.inl ⟨v1, fun f f1 f2 => ?_⟩
    rw [hN] at f1
    obtain ⟨i, i1, rfl⟩ := (ina_nat hN4).mp f1
    exact v2 i i1 f2
  · refine Or.inr ⟨v1, v2, fun f f1 f2 => ?_⟩
    rw [hN] at f1
    obtain ⟨i, i1, rfl⟩ := (ina_nat hN4).mp f1
    exact v3 i i1 f2
