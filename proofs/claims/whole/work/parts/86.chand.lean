/-! 86: the class: posts handed over -/
theorem ers_true {l : List PT} {k : Nat} {q : PT} {y : Int32} (hk : k < l.length) (hq : l[k] = q) (hy : ¬ (y, true) = q) : (y, true) ∈ l.eraseIdx k ↔ (y, true) ∈ l := by
  have p : (q :: l.eraseIdx k).Perm l := by rw [← hq]; exact ers_perm l k hk
  rw [← p.mem_iff, List.mem_cons]
  exact ⟨Or.inr, fun z => z.resolve_left hy⟩
theorem s_hand (A : SY) (od : List Int32) (k : Nat) (q : PT) (h : HP) (Q : Option AV → HP → Prop) (hY : YW A) (R : RC A [] (Zst A) od h) (hk : k < (wy A).length) (hq : (wy A)[k] = q)
    (H : ∀ h', ag sC h h' → (∀ Q' : Option AV → HP → Prop, (∀ h'', ag sC h' h'' → RC (wrk 800 (hoA A k q)) [] (Zst (wrk 800 (hoA A k q))) od h'' → Q' none h'') → WPm 71 [(9, 0)] h' Q') → Q none h') : WPm 70 [(9, 0), (0, nI k)] h Q := by
  have hI := hY.1
  have hI' := YV_hoA hI hk hq
  have wl := (wl800 hI).1
  have ew : wy A = (wy A).take k ++ q :: (wy A).drop (k + 1) := by
    rw [← hq, List.getElem_cons_drop, List.take_append_drop]
  have el : ((wy A).take k).length = k := by rw [List.length_take]; omega
  have er : (wy A).eraseIdx k = (wy A).take k ++ (wy A).drop (k + 1) := List.eraseIdx_eq_take_drop_succ _ _
  have c0 := R.2.2.2.2.2.1.1
  have c1 := R.2.2.2.2.2.1.2
  have i8 : ina (nI k) 800 := ⟨nJ_nn (by omega), (nJ_lt (b := 800) (by omega) (by omega)).mpr (by omega)⟩
  have v34 : h 34 0 (nI k) = q.1 := by
    have := LSq_get c0.2.1 k (by rw [List.length_map]; exact hk)
    rw [Int32.zero_add] at this
    rw [this, List.getElem_map, hq]
  have v35 : h 35 0 (nI k) = bN q.2 := by
    have := LSq_get c0.2.2 k (by rw [List.length_map]; exact hk)
    rw [Int32.zero_add] at this
    rw [this, List.getElem_map, hq]
  have qm : q ∈ pnd A := List.mem_append.mpr (Or.inl (by rw [← hq]; exact List.getElem_mem hk))
  have qin := (NC_in hI qm).1
  have rn : ∀ x, x ∈ (wy A).drop (k + 1) → ¬ x.1 = -1 := fun x hx => ina_n1 (NC_in hI (q := x) (List.mem_append.mpr (Or.inl (List.mem_of_mem_drop hx)))).1
  refine b70_0 _ h Q ?_
  rw [v34, v35]
  refine ⟨i8, i8, s_pAdd 1 q.1 q.2 (cm A) h _ c1 (by rw [hY.2.2]; decide) (ina_n1 qin) fun h1 g1 p1 => b70_25 _ h1 Q ?_⟩
  rw [hY.2.2] at p1
  have c01 : CPs 0 ((wy A).take k ++ q :: (wy A).drop (k + 1)) h1 := by
    rw [← ew]
    exact CPs_co c0 fun f hf => agw_row g1 fun z => absurd z.2 (by decide)
  have go := s_pRem 0 ((wy A).take k) ((wy A).drop (k + 1)) q h1 (fun w h' => WPc 70 33 [(9, 0), (0, nI k)] (w.toList ++ []) h' Q) c01 (by rw [← ew]; exact wl) rn ?_
  · rw [el] at go; exact go
  intro h2 g2 p2
  refine b70_33 _ h2 Q (H h2 (ag_tr (wPC g1) (wPC g2)) fun Q' HQ => ?_)
  have p1' : CPs 1 [q] h2 := CPs_co p1 fun f hf => agw_row g2 fun z => absurd z.2 (by decide)
  have fr : ∀ f x, ¬ f = 6 → ¬ f = 34 → ¬ f = 35 → h2 f x = h f x := fun f x f1 f2 f3 => by rw [wPfr g2 f x f1 f2 f3, wPfr g1 f x f1 f2 f3]
  have em : ∀ f x, h2 f x (-1) = h f x (-1) := fun f x => by rw [g2 f x (-1) (Or.inl rfl), g1 f x (-1) (Or.inl rfl)]
  have hc : cm (hoA A k q) = q :: [] := by show cm A ++ [q] = _; rw [hY.2.2]; rfl
  have wyH : wy (hoA A k q) = (wy A).take k ++ (wy A).drop (k + 1) := er
  have zH : Zst (hoA A k q) = Zst A := rfl
  obtain ⟨e, s⟩ := q
  cases s with
  | false =>
    refine s_workOffM (hoA A k (e, false)) od h2 Q' hI' ?_ HQ
    rw [zH]
    refine RC_posts R rfl rfl rfl rfl (fun y _ => ?_) fr em (by rw [wyH]; exact p2) (by rw [hc]; exact p1')
    unfold shd
    have : (y, true) ∈ wy (hoA A k (e, false)) ↔ (y, true) ∈ wy A := ers_true hk hq (fun z => by cases z)
    simp only [this]
    rfl
  | true =>
    have hw : wrk 800 (hoA A k (e, true)) = wrk 799 (cmQ (scm (hoA A k (e, true)) []) (e, true)) := by
      show wrk (799 + 1) _ = _
      rw [wrk, hc]
    rw [hw] at HQ
    have hIc := YV_cmQ hI' hc
    have c := cnt_cmQ hI' hc
    have cl := cnt_le (hoA A k (e, true))
    have e6 : h2 6 1 2 = 1 := p1'.1
    have w34 : h2 34 1 0 = e := p1'.2.1.1
    have w35 : h2 35 1 0 = 1 := p1'.2.2.1
    refine b71_0 h2 Q' (b71_2 _ h2 Q' ⟨fun z => absurd z (by decide), fun _ => ⟨fun z => ?_, fun _ => ⟨⟨by decide, by decide⟩, ⟨by decide, by decide⟩, ?_⟩⟩⟩)
    · rw [e6] at z; exact absurd z (by decide)
    rw [w34, w35]
    refine s_pRem 1 [] [] (e, true) h2 _ p1' (by simp) (fun x hx => by cases hx) fun h3 g3 p3 => b71_47 _ _ _ h3 Q' ⟨fun z => absurd z (by decide), fun _ => ?_⟩
    have t0 := hI.2.2.1.2.2.1 e qm
    -- the mark
    have sM1 : SA A (sa A.1 61 e 5, A.2) := ⟨fun f h1 h2 h3 h4 => sa_fam h4, by simp [nP, sa], by simp [nE, sa], by simp [sa], by simp [sa]⟩
    have mw : (e, true) ∈ wy A := by rw [← hq]; exact List.getElem_mem hk
    have RM1 : RC (sa A.1 61 e 5, A.2) [] (Zst A) od h := by
      refine RC_one (e := e) R sM1 rfl (by show sa A.1 61 e 5 51 = _; exact sa_fam (by decide)) (by simp [sa]) (fun y ye => ⟨by show sa A.1 61 e 5 60 y = _; exact sa_ne (by simp), by show sa A.1 61 e 5 61 y = _; exact sa_ne fun z => ye z.2⟩) (fun _ _ => Iff.rfl) (fun _ _ _ _ => rfl) (fun _ _ => rfl) rfl (fun _ _ => rfl) (fun _ _ => rfl) (by rw [R.1.2.2.2.1]; simp [sa]) fun he => ?_
      refine EV_co (R.2.2.2.1 e he) rfl rfl rfl rfl rfl (fun f f1 f2 f3 => by show sa A.1 61 e 5 f e = _; rw [sa_fam f3]) ?_ rfl rfl (fun _ => Iff.rfl) (fun _ pre post hp => ⟨post, hp⟩) (fun pre => SA_rp sM1 _ _)
      unfold shd
      rw [show (sa A.1 61 e 5, A.2).1 61 e = 5 from sa_eq, if_neg (by decide), if_pos (Or.inr rfl), t0.2.1, if_neg (by decide), if_pos (Or.inl mw)]
    have R3 : RC (sa (hoA A k (e, true)).1 61 e 5, (scm (hoA A k (e, true)) []).2) [] (Zst (hoA A k (e, true))) od h3 := by
      rw [zH]
      refine RC_posts RM1 rfl rfl rfl rfl (fun y _ => ?_) (fun f x f1 f2 f3 => by rw [wPfr g3 f x f1 f2 f3, fr f x f1 f2 f3]) (fun f x => by rw [g3 f x (-1) (Or.inl rfl), em]) ?_ p3
      · unfold shd
        by_cases ye : y = e
        · subst ye
          have e5 : sa A.1 61 y 5 61 y = 5 := sa_eq
          show (if sa A.1 61 y 5 61 y = 1 then (2 : Int32) else if (y, true) ∈ (wy A).eraseIdx k ∨ sa A.1 61 y 5 61 y = 5 then 1 else 0) = if sa A.1 61 y 5 61 y = 1 then (2 : Int32) else if (y, true) ∈ wy A ∨ sa A.1 61 y 5 61 y = 5 then 1 else 0
          rw [if_pos (Or.inr e5), if_pos (Or.inr e5)]
        · have : (y, true) ∈ (wy A).eraseIdx k ↔ (y, true) ∈ wy A := ers_true hk hq (fun z => ye (congrArg Prod.fst z))
          show (if sa A.1 61 e 5 61 y = 1 then (2 : Int32) else if (y, true) ∈ (wy A).eraseIdx k ∨ sa A.1 61 e 5 61 y = 5 then 1 else 0) = if sa A.1 61 e 5 61 y = 1 then (2 : Int32) else if (y, true) ∈ wy A ∨ sa A.1 61 e 5 61 y = 5 then 1 else 0
          simp only [this]
      · show CPs 0 (wy (hoA A k (e, true))) h3
        rw [wyH]
        exact CPs_co p2 fun f hf => agw_row g3 fun z => absurd z.2 (by decide)
    refine s_shadowComesX (hoA A k (e, true)) e 5 [] od h3 _ hI' hc R3 fun h4 g4 R4 => b71_56 _ _ _ h4 Q' (b71_64 _ _ _ h4 Q' ?_)
    have fin := s_workOff od Q' 799 1 (cmQ (scm (hoA A k (e, true)) []) (e, true)) h4 hIc (by omega) (by omega) R4 fun h5 g5 R5 => HQ h5 (ag_tr (ag_tr (wPC g3) g4) g5) R5
    exact fin
