/-! 49: what comes, in the model -/
theorem tkB_nil {A : SY} {p : Int32} {l : List Int32} (h : dn A p = l) : tkB A p l [] = A := by
  unfold tkB
  have e1 : (fun f j => if f = 60 ∧ j ∈ ([] : List Int32) then (0 : Int32) else if f = 51 ∧ j = p then A.1 51 p + nI ([] : List Int32).length else A.1 f j) = A.1 := by
    funext f j
    simp only [List.not_mem_nil, and_false, if_false]
    split
    · rename_i q; rw [q.1, q.2]; show A.1 51 p + 0 = _; grind
    · rfl
  have e2 : ul (dn A) p l = dn A := by
    funext q; unfold ul; split
    · rename_i z; rw [z, h]
    · rfl
  rw [e1, e2]
theorem tkB_step (A : SY) (p d : Int32) (l l' t2 : List Int32) : tkB (tkB A p l' t2) p l [d] = tkB A p l (d :: t2) := by
  unfold tkB
  have e1 : ∀ (f : Nat) (j : Int32), (if f = 60 ∧ j ∈ [d] then (0 : Int32) else if f = 51 ∧ j = p then (if (51 : Nat) = 60 ∧ p ∈ t2 then (0 : Int32) else if (51 : Nat) = 51 ∧ p = p then A.1 51 p + nI t2.length else A.1 51 p) + nI [d].length else if f = 60 ∧ j ∈ t2 then 0 else if f = 51 ∧ j = p then A.1 51 p + nI t2.length else A.1 f j) = if f = 60 ∧ j ∈ d :: t2 then 0 else if f = 51 ∧ j = p then A.1 51 p + nI (d :: t2).length else A.1 f j := by
    intro f j
    by_cases h1 : f = 60
    · subst h1
      by_cases h2 : j = d
      · simp [h2]
      · simp [h2]
    · by_cases h2 : f = 51 ∧ j = p
      · simp only [h2, h1, false_and, if_false, List.length_cons, List.length_nil]
        simp only [show ¬ (51 : Nat) = 60 by decide, false_and, if_false, and_self, if_true]
        show A.1 51 p + nI t2.length + 1 = A.1 51 p + nI (t2.length + 1)
        rw [nJ_s]; grind
      · simp [h1, h2]
  have e2 : ul (ul (dn A) p l') p l = ul (dn A) p l := by
    funext q; unfold ul; split
    · rfl
    · rfl
  show ((fun f j => _, ul (ul (dn A) p l') p l, A.2.2) : SY) = _
  rw [e2]
  congr 1
  funext f j
  exact e1 f j
theorem ga {A : SY} (hI : YV A) {e : Int32} (h : ina e (nE A)) : ina e 400 ∧ ina (pa A e) 12 ∧ ina (pa A e) (nP A) :=
  ⟨⟨h.1, Int32.lt_of_lt_of_le h.2 hI.1.2.1.2⟩, ⟨(hI.1.2.2.1 e h).1.1, Int32.lt_of_lt_of_le (hI.1.2.2.1 e h).1.2 hI.1.1.1.2⟩, (hI.1.2.2.1 e h).1⟩
theorem se_len {A : SY} (hI : YV A) {p d : Int32} (h : d ∈ dn A p) : (se A d).length ≤ 8 ∧ (pr A d).length ≤ 8 := by
  obtain ⟨pre, post, e⟩ := dn_split h
  obtain ⟨c1, c2, c3⟩ := hI.2.2.2.2.1 p pre d post e
  have dp := dn_p hI h
  have fb := actsF_b (m := A.1 55 d) (v := A.1 59 d) hI.1.1 dp.2.1 (rp_d hI.1.1 dp.2.1 pre)
  rw [SNT_len c3, c2]
  exact ⟨fb.1, fb.2.1⟩
theorem MD_scm {n : Nat} {A : SY} {q : PT} {r : List PT} {h : HP} (hM : MD n A h) (hc : cm A = q :: r) : MD (n + 1) (scm A r) h := by
  obtain ⟨m1, m2, m3, m4, m5, m6⟩ := hM
  refine ⟨m1, m2, m3, m4, m5, ?_⟩
  unfold MDc at *
  rw [hc] at m6
  refine ⟨?_, ?_⟩
  · rw [m6.1]
    show nI (n + (r.length + 1)) = nI (n + 1 + r.length)
    rw [show n + (r.length + 1) = n + 1 + r.length by omega]
  · rw [nJ_s]; exact m6.2.2
/-- the rows of what is taken back -/
theorem tk_ok {A : SY} (hI : YV A) {e : Int32} (t : List Int32) (hs : ∀ d, d ∈ t → d ∈ dn A (pa A e)) : ∀ d, d ∈ t → ina d 400 ∧ (se A d).length ≤ 8 ∧ ∀ f, f ∈ se A d → ina f 400 ∧ ina (pa A f) 12 := fun d hd => by
  have m := hs d hd
  have dp := dn_p hI m
  refine ⟨(ga hI dp.2.2.1).1, (se_len hI m).1, fun f hf => ?_⟩
  have := (hI.2.2.2.1.2 d dp.2.2.1 dp.2.2.2.1 f hf).1
  exact ⟨(ga hI this).1, (ga hI this).2.1⟩
theorem s_eventComes (n : Nat) (A : SY) (e : Int32) (r : List PT) (h : HP) (Q : Option AV → HP → Prop) (hI : YV A) (hc : cm A = (e, false) :: r) (hn : n + cnt (cmE (scm A r) e) ≤ 800) (hM : MD n (scm A r) h)
    (H : ∀ h', ag sM h h' → MD n (cmE (scm A r) e) h' → Q none h') : WPm 110 [(10, 0), (0, e)] h Q := by
  have hP := scm_pnd hc
  have q2 := (hI.2.2.1.2.1 e).mp (hP.mem_iff.mpr (by simp))
  have gg := ga hI q2.1
  have hI' : YV (cmE (scm A r) e) := YV_STP hI (STP_cmE hI hc)
  have pc := pnd_cnt hI'
  have e61 : h 61 0 e = A.1 61 e := hM.1 61 e rfl
  have e54 : h 54 0 e = pa A e := hM.1 54 e rfl
  have e52 : h 52 0 (pa A e) = nI (dn A (pa A e)).length := (hM.2.1 (pa A e) gg.2.1).1
  refine b110_0 e h Q ?_
  rw [e61, e54, e52]
  refine ⟨gg.1, fun h0 => ⟨gg.1, gg.1, gg.2.1, ?_⟩, fun h0 => ?_⟩
  · have ecm : cmE (scm A r) e = shF (tkB (sa A.1 60 e 0, (scm A r).2) (pa A e) (kpt A e) (tkn A e)) (A.1 42 (pa A e)) (snts A (tkn A e)) := by
      unfold cmE
      rw [if_pos (show (scm A r).1 61 e = 0 from h0)]
      rfl
    rw [ecm] at pc H hn
    have M0 : MD n (sa A.1 60 e 0, (scm A r).2) (up h 60 0 e 0) := MD_at hM 60 e 0 (by first | decide | simp)
    have row : LSq (h 53 0) (400 * pa A e) (kpt A e ++ tkn A e) := by
      have := (hM.2.1 (pa A e) gg.2.1).2
      rw [← kt]; exact this
    have hlen : (kpt A e ++ tkn A e).length ≤ 400 := by rw [← kt]; exact dn_len hI _
    have exit : ∀ h', ag sM h h' → h' 53 = h 53 → MD n (tkB (sa A.1 60 e 0, (scm A r).2) (pa A e) (kpt A e) (tkn A e)) h' → WPm 113 [(10, 0), (0, pa A e), (0, nI (dn A (pa A e)).length)] h' (fun w h' => WPc 110 86 [(10, 0), (0, e), (0, pa A e), (0, nI (dn A (pa A e)).length)] (w.toList ++ []) h' Q) := by
      intro h' g r5 M
      have l1 : (tkB (sa A.1 60 e 0, (scm A r).2) (pa A e) (kpt A e) (tkn A e)).1 42 (pa A e) = A.1 42 (pa A e) := by simp [tkB, sa]
      rw [show dn A (pa A e) = kpt A e ++ tkn A e from kt]
      refine s_shadowsOf n _ (pa A e) (kpt A e) (tkn A e) h' _ M gg.2.1 (by show ul _ (pa A e) _ (pa A e) = _; rw [ul_eq]) (by rw [r5]; exact row) hlen (fun d hd => ?_) (fun S1 S2 eS => ?_) (fun h'' g2 M2 => b110_86 _ _ _ h'' Q (H h'' (ag_tr g g2) ?_))
      · have := tk_ok hI (e := e) (tkn A e) (fun d hd => tkn_in hd) d hd
        refine ⟨this.1, this.2.1, fun f hf => ?_⟩
        have y := this.2.2 f hf
        exact ⟨y.1, by simpa [pa, tkB, sa] using y.2⟩
      · have eS' : snts A (tkn A e) = S1 ++ S2 := eS
        rw [l1]
        rw [eS'] at pc hn
        have mo := shF_mono (A := tkB (sa A.1 60 e 0, (scm A r).2) (pa A e) (kpt A e) (tkn A e)) (l := A.1 42 (pa A e)) (S := S1) (T := S2)
        unfold pnd at pc
        rw [List.length_append] at pc
        omega
      · rw [l1] at M2; exact M2
    have loop : ∀ (m : Nat) (t1 t2 : List Int32) (h' : HP), t1.length = m → tkn A e = t1 ++ t2 → ag sM h h' → h' 53 = h 53 → MD n (tkB (sa A.1 60 e 0, (scm A r).2) (pa A e) (kpt A e ++ t1) t2) h' →
        WPc 110 36 [(10, 0), (0, e), (0, pa A e), (0, nI (dn A (pa A e)).length)] [] h' Q := by
      intro m
      induction m with
      | zero =>
        intro t1 t2 h' hl et g r5 M
        have : t1 = [] := List.eq_nil_of_length_eq_zero hl
        subst this
        rw [List.nil_append] at et
        rw [List.append_nil] at M
        rw [← et] at M
        have e52' : h' 52 0 (pa A e) = nI (kpt A e).length := by
          have := (M.2.1 (pa A e) gg.2.1).1
          rw [this]
          show nI (ul _ (pa A e) _ (pa A e)).length = _
          rw [ul_eq]
        have hk4 : (kpt A e).length ≤ 400 := by simp at hlen; omega
        refine b110_36 _ _ _ h' Q ⟨gg.2.1, fun _ => exit h' g r5 M, fun z => ?_⟩
        rw [e52'] at z ⊢
        rcases snocC (kpt A e) with hk | ⟨k', d, hk⟩
        · rw [hk] at z; exact absurd (by decide) z
        · have hd : d ∈ kpt A e := by rw [hk]; simp
          have hdn := dn_p hI (kpt_in hd)
          have ix : 400 * pa A e + nI (kpt A e).length - 1 = 400 * pa A e + nI k'.length := by
            rw [hk, List.length_append]
            show 400 * pa A e + nI (k'.length + 1) - 1 = _
            rw [nJ_s]; grind
          have val : h' 53 0 (400 * pa A e + nI k'.length) = d := by
            rw [r5]
            rw [hk, show k' ++ [d] ++ tkn A e = k' ++ (d :: tkn A e) by simp] at row
            exact (LSq_app.mp row).2.1
          have hkl : k'.length < 400 := by rw [hk] at hk4; simp at hk4; omega
          rw [ix, val]
          refine ⟨gg.2.1, i400 gg.2.1 hkl, s_bel _ e d h' _ M.1 gg.1 (ga hI hdn.2.2.1).1 (fun b => ?_) (fun _ => ?_)⟩
          · exfalso
            have b' : bel A.1 e d := by
              rw [bel_co (a := A.1)] at b
              · exact b
              · intro f h1 h2; funext j; simp [tkB, sa, show ¬ f = 60 by omega, show ¬ f = 51 by omega]
            exact bel_irr (bel_tr b' (kpt_b hd))
          · exact b110_69 _ _ _ _ h' Q ⟨fun _ => exit h' g r5 M, fun z => absurd rfl z⟩
      | succ m ih =>
        intro t1 t2 h' hl et g r5 M
        obtain ⟨u, d, rfl⟩ : ∃ u d, t1 = u ++ [d] := by
          rcases snocC t1 with q | ⟨u, f, q⟩
          · rw [q] at hl; simp at hl
          · exact ⟨u, f, q⟩
        have hu : u.length = m := by simpa using hl
        have hd : d ∈ tkn A e := by rw [et]; simp
        have hdn := dn_p hI (tkn_in hd)
        have e52' : h' 52 0 (pa A e) = nI ((kpt A e ++ u).length + 1) := by
          have := (M.2.1 (pa A e) gg.2.1).1
          rw [this]
          show nI (ul _ (pa A e) _ (pa A e)).length = _
          rw [ul_eq]
          simp; rfl
        have hkl : (kpt A e ++ u).length < 400 := by rw [et] at hlen; simp at hlen ⊢; omega
        have val : h' 53 0 (400 * pa A e + nI (kpt A e ++ u).length) = d := by
          rw [r5]
          rw [et, show kpt A e ++ (u ++ [d] ++ t2) = (kpt A e ++ u) ++ (d :: t2) by simp] at row
          exact (LSq_app.mp row).2.1
        have ix : 400 * pa A e + nI ((kpt A e ++ u).length + 1) - 1 = 400 * pa A e + nI (kpt A e ++ u).length := by rw [nJ_s]; grind
        refine b110_36 _ _ _ h' Q ⟨gg.2.1, fun z => ?_, fun _ => ?_⟩
        · rw [e52'] at z
          have : nI 0 < nI ((kpt A e ++ u).length + 1) := (nJ_lt (by omega) (by omega)).mpr (by omega)
          rw [nJ_0] at this
          exfalso; grind
        · rw [e52', ix, val]
          refine ⟨gg.2.1, i400 gg.2.1 hkl, s_bel _ e d h' _ M.1 gg.1 (ga hI hdn.2.2.1).1 (fun _ => ?_) (fun b => ?_)⟩
          · refine b110_69 _ _ _ _ h' Q ⟨fun z => absurd z (by decide), fun _ => ?_⟩
            have hdn' : dn (tkB (sa A.1 60 e 0, (scm A r).2) (pa A e) (kpt A e ++ (u ++ [d])) t2) (pa A e) = (kpt A e ++ u) ++ [d] := by
              show ul _ (pa A e) _ (pa A e) = _
              rw [ul_eq]; simp
            refine s_back n _ (pa A e) d (kpt A e ++ u) h' _ M gg.2.1 hdn' (ga hI hdn.2.2.1).1 hkl (b110_77 _ _ _ _ Q ?_)
            have M2 := MD_back M gg.2.1 hdn'
            rw [tkB_step] at M2
            exact ih u (d :: t2) _ hu (by rw [et]; simp) (ag_tr g (ag_up (ag_up (ag_up ag_rf rfl) rfl) rfl)) (by rw [upfam (by decide), upfam (by decide), upfam (by decide), r5]) M2
          · exfalso
            have b' : ¬ bel A.1 e d := by
              rw [bel_co (a := A.1)] at b
              · exact b
              · intro f h1 h2; funext j; simp [tkB, sa, show ¬ f = 60 by omega, show ¬ f = 51 by omega]
            rcases bel_tot (a := A.1) (e := e) (f := d) with q | q | q
            · exact b' q
            · have := hdn.2.2.2.1
              rw [← q, q2.2] at this
              exact absurd this (by decide)
            · exact tkn_b hI hd q
    refine loop (tkn A e).length (tkn A e) [] (up h 60 0 e 0) rfl (by simp) (ag_up ag_rf rfl) (by rw [upfam (by decide)]) ?_
    rw [tkB_nil]
    · exact M0
    · exact kt
  · have ecm : cmE (scm A r) e = mtF (scm A r) e := by
      unfold cmE
      rw [if_neg (show ¬ (scm A r).1 61 e = 0 from h0)]
    rw [ecm] at H
    exact s_meet n _ e h _ hM gg.1 fun h' g _ M => b110_14 _ h' Q (H h' g M)
theorem s_shadowComes (n : Nat) (A : SY) (e : Int32) (r : List PT) (h : HP) (Q : Option AV → HP → Prop) (hI : YV A) (hc : cm A = (e, true) :: r) (hn : n + cnt (cmS (scm A r) e) ≤ 800) (hM : MD n (scm A r) h)
    (H : ∀ h', ag sM h h' → MD n (cmS (scm A r) e) h' → Q none h') : WPm 111 [(10, 0), (0, e)] h Q := by
  have hP := scm_pnd hc
  have q2 := hI.2.2.1.2.2.1 e (hP.mem_iff.mpr (by simp))
  have gg := ga hI q2.1
  have hI' : YV (cmS (scm A r) e) := YV_STP hI (STP_cmS hI hc)
  have pc := pnd_cnt hI'
  have e60 : h 60 0 e = hw A e := hM.1 60 e rfl
  have e54 : h 54 0 e = pa A e := hM.1 54 e rfl
  have e52 : h 52 0 (pa A e) = nI (dn A (pa A e)).length := (hM.2.1 (pa A e) gg.2.1).1
  refine b111_0 e h Q ?_
  rw [e60, e54, e52]
  refine ⟨gg.1, gg.1, fun h0 => ⟨gg.2.1, ?_⟩, fun h0 => ⟨gg.1, Or.inr rfl, ?_⟩⟩
  · have ecm : cmS (scm A r) e = shF (mtF (tkB (scm A r) (pa A e) (kpt A e) (tkn A e)) e) (A.1 42 (pa A e)) (snts A (tkn A e)) := by
      unfold cmS
      rw [if_neg (show ¬ hw (scm A r) e = 3 from h0)]
      rfl
    rw [ecm] at pc H hn
    have row : LSq (h 53 0) (400 * pa A e) (kpt A e ++ tkn A e) := by
      have := (hM.2.1 (pa A e) gg.2.1).2
      rw [← kt]; exact this
    have hlen : (kpt A e ++ tkn A e).length ≤ 400 := by rw [← kt]; exact dn_len hI _
    have h01 : hw A e = 0 ∨ hw A e = 1 := by
      rcases (hI.1.2.2.1 e q2.1).2.2.1 with z | z | z | z
      · exact Or.inl z
      · exact Or.inr z
      · exact absurd z h0
      · exact absurd z q2.2.2.1
    have pw := hI.2.1.2.2.1 (pa A e)
    rw [kt] at pw
    have hw' : ∀ t1 t2, tkn A e = t1 ++ t2 → (hw (tkB (scm A r) (pa A e) (kpt A e ++ t1) t2) e = 1 → ¬ t1 = []) ∧ (¬ hw (tkB (scm A r) (pa A e) (kpt A e ++ t1) t2) e = 1 → t1 = []) := fun t1 t2 et => by
      have hv : hw (tkB (scm A r) (pa A e) (kpt A e ++ t1) t2) e = if e ∈ t2 then 0 else hw A e := by
        simp [hw, tkB, scm]
      rw [hv]
      constructor
      · intro z zt
        split at z
        · exact absurd z (by decide)
        · rename_i ne
          have := hI.2.1.2.1 e q2.1 z
          rw [kt] at this
          rcases List.mem_append.mp this with y | y
          · exact bel_irr (kpt_b y)
          · rw [et, zt, List.nil_append] at y
            exact ne y
      · intro z
        cases t1 with
        | nil => rfl
        | cons d t1 =>
          exfalso
          have hd : d ∈ tkn A e := by rw [et]; simp
          have nb := tkn_b hI hd
          split at z
          · rename_i ie
            rw [et] at pw
            have := (List.pairwise_append.mp (List.pairwise_append.mp pw).2.1).2.2 d (by simp) e ie
            exact nb this
          · rcases h01 with y | y
            · exact nb (hI.2.1.2.2.2 e q2.1 y d (tkn_in hd))
            · exact z y
    have exit : ∀ h', ag sM h h' → h' 53 = h 53 → MD n (tkB (scm A r) (pa A e) (kpt A e) (tkn A e)) h' → WPm 109 [(10, 0), (0, e)] h' (fun w h' => WPc 111 55 [(10, 0), (0, e), (0, pa A e), (0, nI (dn A (pa A e)).length)] (w.toList ++ []) h' Q) := by
      intro h' g r5 M
      refine s_meet n _ e h' _ M gg.1 fun h1 g1 r6 M1 => b111_55 _ _ _ h1 Q ?_
      have l1 : (mtF (tkB (scm A r) (pa A e) (kpt A e) (tkn A e)) e).1 42 (pa A e) = A.1 42 (pa A e) := by simp [mtF, tkB, sa, scm]
      rw [show dn A (pa A e) = kpt A e ++ tkn A e from kt]
      refine s_shadowsOf n _ (pa A e) (kpt A e) (tkn A e) h1 _ M1 gg.2.1 (by show ul _ (pa A e) _ (pa A e) = _; rw [ul_eq]) (by rw [r6, r5]; exact row) hlen (fun d hd => ?_) (fun S1 S2 eS => ?_) (fun h'' g2 M2 => b111_61 _ _ _ h'' Q (H h'' (ag_tr (ag_tr g g1) g2) ?_))
      · have := tk_ok hI (e := e) (tkn A e) (fun d hd => tkn_in hd) d hd
        refine ⟨this.1, this.2.1, fun f hf => ?_⟩
        have y := this.2.2 f hf
        exact ⟨y.1, by simpa [pa, mtF, tkB, sa, scm] using y.2⟩
      · have eS' : snts A (tkn A e) = S1 ++ S2 := eS
        rw [l1]
        rw [eS'] at pc hn
        have mo := shF_mono (A := mtF (tkB (scm A r) (pa A e) (kpt A e) (tkn A e)) e) (l := A.1 42 (pa A e)) (S := S1) (T := S2)
        unfold pnd at pc
        rw [List.length_append] at pc
        omega
      · rw [l1] at M2; exact M2
    have loop : ∀ (m : Nat) (t1 t2 : List Int32) (h' : HP), t1.length = m → tkn A e = t1 ++ t2 → ag sM h h' → h' 53 = h 53 → MD n (tkB (scm A r) (pa A e) (kpt A e ++ t1) t2) h' →
        WPc 111 32 [(10, 0), (0, e), (0, pa A e), (0, nI (dn A (pa A e)).length)] [] h' Q := by
      intro m
      induction m with
      | zero =>
        intro t1 t2 h' hl et g r5 M
        have : t1 = [] := List.eq_nil_of_length_eq_zero hl
        have w := hw' t1 t2 et
        have e60' : h' 60 0 e = hw (tkB (scm A r) (pa A e) (kpt A e ++ t1) t2) e := M.1 60 e rfl
        refine b111_32 _ _ _ h' Q ⟨gg.1, fun _ => ?_, fun z => absurd this (w.1 (by rw [← e60']; exact z))⟩
        subst this
        rw [List.nil_append] at et
        rw [List.append_nil, ← et] at M
        exact exit h' g r5 M
      | succ m ih =>
        intro t1 t2 h' hl et g r5 M
        have w := hw' t1 t2 et
        have e60' : h' 60 0 e = hw (tkB (scm A r) (pa A e) (kpt A e ++ t1) t2) e := M.1 60 e rfl
        refine b111_32 _ _ _ h' Q ⟨gg.1, fun z => ?_, fun z => ?_⟩
        · have := w.2 (by rw [← e60']; exact z)
          rw [this] at hl; simp at hl
        · obtain ⟨u, d, rfl⟩ : ∃ u d, t1 = u ++ [d] := by
            rcases snocC t1 with q | ⟨u, f, q⟩
            · rw [q] at hl; simp at hl
            · exact ⟨u, f, q⟩
          have hu : u.length = m := by simpa using hl
          have hd : d ∈ tkn A e := by rw [et]; simp
          have hdn := dn_p hI (tkn_in hd)
          have hkl : (kpt A e ++ u).length < 400 := by rw [et] at hlen; simp at hlen ⊢; omega
          have hdn' : dn (tkB (scm A r) (pa A e) (kpt A e ++ (u ++ [d])) t2) (pa A e) = (kpt A e ++ u) ++ [d] := by
            show ul _ (pa A e) _ (pa A e) = _
            rw [ul_eq]; simp
          refine s_back n _ (pa A e) d (kpt A e ++ u) h' _ M gg.2.1 hdn' (ga hI hdn.2.2.1).1 hkl (b111_47 _ _ _ _ Q ?_)
          have M2 := MD_back M gg.2.1 hdn'
          rw [tkB_step] at M2
          exact ih u (d :: t2) _ hu (by rw [et]; simp) (ag_tr g (ag_up (ag_up (ag_up ag_rf rfl) rfl) rfl)) (by rw [upfam (by decide), upfam (by decide), upfam (by decide), r5]) M2
    refine loop (tkn A e).length (tkn A e) [] h rfl (by simp) ag_rf rfl ?_
    rw [tkB_nil]
    · exact hM
    · exact kt
  · have ecm : cmS (scm A r) e = (sa A.1 61 e 1, (scm A r).2) := by
      unfold cmS
      rw [if_pos (show hw (scm A r) e = 3 from h0)]
      rfl
    rw [ecm] at H
    exact H _ (ag_up ag_rf rfl) (MD_at hM 61 e 1 (by first | decide | simp))
theorem cd_ok {e : Int32} (h : ina e 400) (s : Bool) : cd (e, s) / 2 = e ∧ cd (e, s) - cd (e, s) / 2 * 2 = (if s then 1 else 0) := by
  have key : ∀ n : Fin 400, ∀ s : Bool, cd (nI n.val, s) / 2 = nI n.val ∧ cd (nI n.val, s) - cd (nI n.val, s) / 2 * 2 = (if s then 1 else 0) := by decide +kernel
  obtain ⟨n, rfl, hn⟩ := nJ_exlt (N := 400) (by decide) h.1 h.2
  exact key ⟨n, hn⟩ s
theorem s_come (Q : Option AV → HP → Prop) : ∀ (m n : Nat) (A : SY) (h : HP), YV A → n + cnt A ≤ 800 → cnt A ≤ m → MD n A h → (∀ h', ag sM h h' → MD 0 (wrk m A) h' → Q none h') → WPc 108 2 [(10, 0), (0, nI n), (500, 0)] [] h Q := by
  have fin : ∀ (m n : Nat) (A : SY) (h : HP), n ≤ 800 → cm A = [] → wrk m A = A → MD n A h → (∀ h', ag sM h h' → MD 0 (wrk m A) h' → Q none h') → WPc 108 2 [(10, 0), (0, nI n), (500, 0)] [] h Q := by
    intro m n A h hn hc hw M H
    have e30 : h 10 0 30 = nI n := by rw [M.2.2.2.2.2.1, hc]; simp
    refine b108_2 _ h Q ⟨fun _ => H _ (ag_up ag_rf rfl) ?_, fun z => absurd (by rw [e30]; exact Int32.le_refl _) z⟩
    rw [hw]
    obtain ⟨m1, m2, m3, m4, m5, m6⟩ := M
    refine ⟨MA_sk m1 _ _ _ _ (by decide), MDp_sk m2 _ _ _ _ (by decide), MDr_sk m3 _ _ _ _ (by decide), MDr_sk m4 _ _ _ _ (by decide), MDw_sk m5 _ _ _ _ (by decide), ?_⟩
    unfold MDc
    rw [hc, up_at]
    exact ⟨rfl, trivial⟩
  intro m
  induction m with
  | zero =>
    intro n A h hI hn hm M H
    have := pnd_cnt hI
    have hc : cm A = [] := by
      have : (pnd A).length = 0 := by omega
      have : pnd A = [] := List.eq_nil_of_length_eq_zero this
      unfold pnd at this
      exact (List.append_eq_nil_iff.mp this).2
    exact fin 0 n A h (by omega) hc rfl M H
  | succ m ih =>
    intro n A h hI hn hm M H
    cases hc : cm A with
    | nil =>
      have hw : wrk (m + 1) A = A := by unfold wrk; rw [hc]
      exact fin (m + 1) n A h (by omega) hc hw M H
    | cons q r =>
      have hw : wrk (m + 1) A = wrk m (cmQ (scm A r) q) := by
        rw [wrk, hc]
      rw [hw] at H
      have hI' := YV_cmQ hI hc
      have c := cnt_cmQ hI hc
      have M1 := MD_scm M hc
      have ip := NC_in hI ((scm_pnd hc).mem_iff.mpr (by simp) : q ∈ pnd A)
      have gg := ga hI ip.1
      obtain ⟨e, s⟩ := q
      have co : cd (e, s) / 2 = e ∧ cd (e, s) - cd (e, s) / 2 * 2 = (if s then 1 else 0) := cd_ok gg.1 s
      have e30 : h 10 0 30 = nI (n + (r.length + 1)) := by rw [M.2.2.2.2.2.1, hc]; simp
      have pl : r.length + 1 ≤ 800 := by
        have := pnd_cnt hI
        unfold pnd at this
        rw [hc] at this
        simp at this; omega
      have val : h 68 0 (nI n) = cd (e, s) := by
        have := M.2.2.2.2.2.2
        rw [hc] at this
        exact this.1
      refine b108_2 _ h Q ⟨fun z => ?_, fun _ => ?_⟩
      · rw [e30, nJ_le (by omega) (by omega)] at z
        exfalso; omega
      · rw [val, co.2, co.1]
        refine ⟨i900 (by omega), by decide, i900 (by omega), by decide, fun z => ?_, fun z => ?_⟩
        · cases s with
          | false => exact absurd rfl z
          | true =>
            have ee : cmQ (scm A r) (e, true) = cmS (scm A r) e := rfl
            rw [ee] at H hI' c
            refine s_shadowComes (n + 1) A e r h _ hI hc (by omega) M1 fun h' g M2 => b108_43 _ _ h' Q ?_
            rw [← nJ_s]
            exact ih (n + 1) _ h' hI' (by omega) (by omega) M2 fun h'' g2 M3 => H h'' (ag_tr g g2) M3
        · cases s with
          | true => exact absurd z (by decide)
          | false =>
            have ee : cmQ (scm A r) (e, false) = cmE (scm A r) e := rfl
            rw [ee] at H hI' c
            refine s_eventComes (n + 1) A e r h _ hI hc (by omega) M1 fun h' g M2 => b108_35 _ _ h' Q (b108_43 _ _ h' Q ?_)
            rw [← nJ_s]
            exact ih (n + 1) _ h' hI' (by omega) (by omega) M2 fun h'' g2 M3 => H h'' (ag_tr g g2) M3
