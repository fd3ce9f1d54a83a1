/-! 50: the model does an event -/
theorem ZS0 (h : HP) : ZS z0 (up (up (cl0 h) 10 0 36 0) 10 0 37 0) := by
  refine ⟨fun j hj => ?_, by simp [up, z0], by simp [up, z0]⟩
  obtain ⟨k, rfl, hk⟩ := nJ_exlt (N := 4) (by decide) hj.1 hj.2
  show _ = (0 : Int32)
  rw [upfam (by decide), upfam (by decide)]
  unfold cl0
  have : k = 0 ∨ k = 1 ∨ k = 2 ∨ k = 3 := by omega
  rcases this with rfl | rfl | rfl | rfl
  · rw [show nI 0 = 0 from rfl]; simp [up]
  · rw [show nI 1 = 1 from rfl]; simp [up]
  · rw [show nI 2 = 2 from rfl]; simp [up]
  · rw [show nI 3 = 3 from rfl]; simp [up]
theorem s_state (a : AT) (p : Int32) (l : List Int32) (h : HP) (Q : Option AV → HP → Prop) (hR : RU a) (hA : MA a h) (hp : ina p 12) (hn : ¬ a 10 0 = 0) (row : LSq (h 53 0) (400 * p) l) (hl : l.length ≤ 400) (he : ∀ e, e ∈ l → ina e 400)
    (H : ∀ h', ag sA h h' → ZS (rp a p l) h' → Q none h') : WPm 105 [(10, 0), (0, p), (0, nI l.length)] h Q := by
  have loop : ∀ (rest pre : List Int32) (z : ZT) (h' : HP), l = pre ++ rest → ag sA h h' → ZS z h' → (0 ≤ z.2.1 ∧ z.2.1 ≤ 8) → (∀ h'', ag sA h h'' → ZS (rpF a p z rest) h'' → Q none h'') →
      WPc 105 6 [(10, 0), (0, p), (0, nI l.length), (0, nI pre.length), (500, 0)] [] h' Q := by
    intro rest
    induction rest with
    | nil =>
      intro pre z h' e g hz hd H
      rw [List.append_nil] at e
      exact b105_6 _ _ _ h' Q ⟨fun _ => H h' g hz, fun q => absurd (by rw [e]; exact Int32.le_refl _) q⟩
    | cons x rest ih =>
      intro pre z h' e g hz hd H
      have hx := he x (by rw [e]; simp)
      have hpl : pre.length < l.length := by rw [e]; simp
      have val : h' 53 0 (400 * p + nI pre.length) = x := by
        rw [g 53 0 _ rfl]
        rw [e] at row
        exact (LSq_app.mp row).2.1
      have hA' := MA_ag hA (ag_AS g)
      refine b105_6 _ _ _ h' Q ⟨fun q => ?_, fun _ => ?_⟩
      · rw [nJ_le (by omega) (by omega)] at q
        exfalso; omega
      · rw [val, hA' 55 x rfl, hA' 59 x rfl]
        refine ⟨i400 hp (by omega), hx, hx, s_acts a p (a 55 x) (a 59 x) z h' _ hR hA' hp hn hz hd fun h'' g2 zm => b105_44 _ _ _ _ h'' Q ?_⟩
        have := ih (pre ++ [x]) (stF (actsF a p (a 55 x) (a 59 x) z)) h'' (by rw [e]; simp) (ag_tr g g2) (ZM_S zm) (actsF_b hR hp hd).2.2 (fun h3 g3 z3 => H h3 g3 (by rw [rpF_cons]; exact z3))
        rw [List.length_append] at this
        rw [← nJ_s]; exact this
  refine b105_0 _ _ h Q (s_nothing h _ (b105_4 _ _ _ Q ?_))
  have g : ag sA h (up (up (cl0 h) 10 0 36 0) 10 0 37 0) := ag_up (ag_up (ag_up (ag_up (ag_up (ag_up ag_rf rfl) rfl) rfl) rfl) (by decide)) (by decide)
  exact loop l [] z0 _ rfl g (ZS0 h) ⟨by decide, by decide⟩ H
theorem MD_mk {n : Nat} {A : SY} {h : HP} (hM : MD n A h) (p m b s c x : Int32) :
    MD n (mkF A p m b s c x) (up (up (up (up (up (up (up (up h 10 0 13 (nE A + 1)) 54 0 (nE A) p) 55 0 (nE A) m) 56 0 (nE A) b) 57 0 (nE A) s) 58 0 (nE A) c) 60 0 (nE A) 3) 59 0 (nE A) x) :=
  MD_at (MD_at (MD_at (MD_at (MD_at (MD_at (MD_at (MD_at hM 10 13 _ (by decide)) 54 _ _ (by first | decide | simp)) 55 _ _ (by first | decide | simp)) 56 _ _ (by first | decide | simp)) 57 _ _ (by first | decide | simp)) 58 _ _ (by first | decide | simp)) 60 _ _ (by first | decide | simp)) 59 _ _ (by first | decide | simp)
theorem ar_10 {x e k n : Int32} (hx : ina x 400) (he : ina e 400) (h1 : 0 ≤ k) (h2 : k < 8) (h3 : 0 ≤ n) (h4 : n < 8) (q : 8 * x + k = 8 * e + n) : x = e := by
  obtain ⟨a, rfl, ha⟩ := nJ_exlt (N := 400) (by decide) hx.1 hx.2
  obtain ⟨b, rfl, hb⟩ := nJ_exlt (N := 400) (by decide) he.1 he.2
  obtain ⟨c, rfl, hc⟩ := nJ_exlt (N := 8) (by decide) h1 h2
  obtain ⟨d, rfl, hd⟩ := nJ_exlt (N := 8) (by decide) h3 h4
  have e1 : ∀ m : Nat, (8 : Int32) * nI m = nI (8 * m) := fun m => by
    unfold nI
    rw [Int32.ofNat_mul]
    rfl
  rw [e1, e1, ← nJ_add, ← nJ_add] at q
  have := nJ_inj (by omega) (by omega) q
  congr 1
  omega
/-- a row of eight gets a new value -/
theorem MDr_set {r : Int32 → List Int32} {f g : Nat} {h : HP} {e : Int32} {N S : List Int32} {s v : Int32} (m : MDr r f g h) (hfg : ¬ f = g) (he : ina e 400) (h8 : (r e).length ≤ 8) (hr8 : ∀ e, ina e 400 → (r e).length ≤ 8) (hr : r e = N ++ s :: S) :
    MDr (ul r e (N ++ v :: S)) f g (up h g 0 (8 * e + nI N.length) v) := by
  intro x hx
  rw [upfam hfg, uprow]
  have mx := m x hx
  have hN : N.length < 8 := by rw [hr] at h8; simp at h8; omega
  by_cases z : x = e
  · subst z
    rw [ul_eq, mx.1, hr]
    refine ⟨by simp, ?_⟩
    have l := mx.2
    rw [hr] at l
    have l2 := LSq_app.mp l
    refine LSq_app.mpr ⟨LSq_congr (fun k hk => vpd_ne _ _ (o_ne hk (by omega))) l2.1, vpd_eq _ _ _, LSq_congr (fun k hk => vpd_ne _ _ ?_) l2.2.2⟩
    have hk8 : N.length + (k + 1) < 8 := by rw [hr] at h8; simp at h8; omega
    intro q
    have : nI N.length = nI (N.length + (k + 1)) := by rw [nJ_add, nJ_s]; grind
    have := nJ_inj (by omega) (by omega) this
    omega
  · rw [ul_ne z]
    refine ⟨mx.1, LSq_congr (fun k hk => vpd_ne _ _ ?_) mx.2⟩
    have hk8 : k < 8 := by have := hr8 x hx; omega
    intro q
    have h1 := nJ_nn (n := k) (by omega)
    have h2 : nI k < nI 8 := (nJ_lt (by omega) (by omega)).mpr hk8
    have h3 := nJ_nn (n := N.length) (by omega)
    have h4 : nI N.length < nI 8 := (nJ_lt (by omega) (by omega)).mpr hN
    exact z (ar_10 hx he h1 h2 h3 h4 q)
theorem LSq_any (g : Int32 → Int32) : ∀ (n : Nat) (o : Int32), ∃ S : List Int32, S.length = n ∧ LSq g o S
  | 0, _ => ⟨[], rfl, trivial⟩
  | n + 1, o => by
    obtain ⟨S, h1, h2⟩ := LSq_any g n (o + 1)
    exact ⟨g o :: S, by simp [h1], rfl, h2⟩
theorem ZM_co {w : WK} {h h' : HP} (hz : ZM w h) (h1 : ∀ f, 69 ≤ f → f ≤ 73 → h' f = h f) (h2 : ∀ k : Int32, 36 ≤ k → k ≤ 43 → h' 10 0 k = h 10 0 k) : ZM w h' := by
  unfold ZM
  rw [h1 69 (by decide) (by decide), h1 70 (by decide) (by decide), h1 71 (by decide) (by decide), h1 72 (by decide) (by decide), h1 73 (by decide) (by decide), h2 36 (by decide) (by decide), h2 37 (by decide) (by decide), h2 38 (by decide) (by decide), h2 39 (by decide) (by decide), h2 43 (by decide) (by decide)]
  exact hz
theorem ZM_sk {w : WK} {h : HP} (hz : ZM w h) (f : Nat) (j k v : Int32) (e : (f < 69 ∨ 73 < f) ∧ ¬ f = 10) : ZM w (up h f j k v) :=
  ZM_co hz (fun f' h1 h2 => upfam (by omega)) (fun k' _ _ => by rw [upfam (fun z => e.2 z.symm)])
def L8 (A : SY) : Prop := ∀ e, (pr A e).length ≤ 8 ∧ (se A e).length ≤ 8
theorem s_doesP (A : SY) (e p f : Int32) (w : WK) (h0 : HP) (Q : Option AV → HP → Prop) (he : ina e 400) (hl8 : L8 A) (hp8 : w.2.2.2.2.2.length ≤ 8)
    (K : ∀ h', ag sM h0 h' → ZM w h' → MD 0 (A.1, dn A, ul (pr A) e w.2.2.2.2.2, se A, wy A, cm A) h' → WPc 120 155 [(10, 0), (0, e), (0, p), (0, f), (0, 0), (500, 0)] [] (up h' 65 0 e (h' 10 0 39)) Q) :
    ∀ (rest N S : List Int32) (h : HP), w.2.2.2.2.2 = N ++ rest → S.length = rest.length → ag sM h0 h → ZM w h → MD 0 (A.1, dn A, ul (pr A) e (N ++ S), se A, wy A, cm A) h →
      WPc 120 108 [(10, 0), (0, e), (0, p), (0, f), (0, nI N.length), (500, 0)] [] h Q := by
  intro rest
  induction rest with
  | nil =>
    intro N S h e1 e2 g hz M
    have : S = [] := List.eq_nil_of_length_eq_zero e2
    subst this
    rw [List.append_nil] at e1 M
    rw [← e1] at M
    refine b120_108 _ _ _ _ h Q ⟨fun _ => ⟨he, K h g hz M⟩, fun z => absurd ?_ z⟩
    rw [hz.2.2.2.2.2.1, e1]; exact Int32.le_refl _
  | cons x rest ih =>
    intro N S h e1 e2 g hz M
    obtain ⟨s, S', rfl⟩ : ∃ s S', S = s :: S' := by
      cases S with
      | nil => simp at e2
      | cons s S' => exact ⟨s, S', rfl⟩
    have hN : N.length < 8 := by rw [e1] at hp8; simp at hp8; omega
    have e43 : h 10 0 43 = nI w.2.2.2.2.2.length := hz.2.2.2.2.2.1
    have val : h 73 0 (nI N.length) = x := by
      have := hz.2.2.2.2.2.2
      rw [e1] at this
      have := (LSq_app.mp this).2.1
      rwa [Int32.zero_add] at this
    refine b120_108 _ _ _ _ h Q ⟨fun z => ?_, fun _ => ⟨nI8 hN, i8 he hN, ?_⟩⟩
    · rw [e43, e1, nJ_le (by rw [e1] at hp8; omega) (by omega)] at z
      simp at z
      exfalso; omega
    · rw [val]
      obtain ⟨m1, m2, m3, m4, m5, m6⟩ := id M
      have r8 : ∀ e', ina e' 400 → (ul (pr A) e (N ++ s :: S') e').length ≤ 8 := fun e' _ => by
        unfold ul; split
        · rw [e1] at hp8; simp at hp8 e2 ⊢; omega
        · exact (hl8 e').1
      have m3' := MDr_set (N := N) (S := S') (s := s) (v := x) m3 (by decide) he (r8 e he) r8 ul_eq
      have e3 : ul (ul (pr A) e (N ++ s :: S')) e (N ++ x :: S') = ul (pr A) e ((N ++ [x]) ++ S') := by
        funext q; unfold ul; split
        · simp
        · rfl
      have M2 : MD 0 (A.1, dn A, ul (pr A) e ((N ++ [x]) ++ S'), se A, wy A, cm A) (up h 64 0 (8 * e + nI N.length) x) := by
        refine ⟨MA_sk m1 _ _ _ _ rfl, MDp_sk m2 _ _ _ _ (by decide), ?_, MDr_sk m4 _ _ _ _ (by decide), MDw_sk m5 _ _ _ _ (by first | decide | simp), MDc_sk m6 _ _ _ _ (by first | decide | simp)⟩
        show MDr (ul (pr A) e ((N ++ [x]) ++ S')) 63 64 _
        rw [← e3]; exact m3'
      have := ih (N ++ [x]) S' _ (by rw [e1]; simp) (by simpa using e2) (ag_tr g (ag_up ag_rf rfl)) (ZM_sk hz _ _ _ _ (by decide)) M2
      rw [List.length_append] at this
      rw [← nJ_s]; exact this
theorem sndF_mono : ∀ (os : List (Int32 × Int32 × Int32)) (A : SY) (l p m c : Int32), (wy A).length ≤ (wy (sndF A l p m c os)).length ∧ (cm A).length ≤ (cm (sndF A l p m c os)).length
  | [], A, l, p, m, c => ⟨Nat.le_refl _, Nat.le_refl _⟩
  | o :: os, A, l, p, m, c => by
    have h1 := sndF_mono os (psA (mkF A o.1 o.2.1 m p c o.2.2) l [(nE A, false)]) l p m (c + 1)
    have h2 := psA_1 (mkF A o.1 o.2.1 m p c o.2.2) l (nE A, false)
    unfold sndF
    have h3 : (wy A).length ≤ (wy (psA (mkF A o.1 o.2.1 m p c o.2.2) l [(nE A, false)])).length := by
      rw [h2]; show _ ≤ (wy A ++ _).length; rw [List.length_append]; omega
    have h4 : (cm A).length ≤ (cm (psA (mkF A o.1 o.2.1 m p c o.2.2) l [(nE A, false)])).length := by
      rw [h2]; show _ ≤ (cm A ++ _).length; rw [List.length_append]; omega
    omega
def wse (B : SY) (e : Int32) (l : List Int32) : SY := (B.1, dn B, pr B, ul (se B) e l, wy B, cm B)
theorem sndF_wse : ∀ (os : List (Int32 × Int32 × Int32)) (B : SY) (e : Int32) (r : List Int32) (l p m c : Int32), sndF (wse B e r) l p m c os = wse (sndF B l p m c os) e r
  | [], _, _, _, _, _, _, _ => rfl
  | o :: os, B, e, r, l, p, m, c => by
    have := sndF_wse os (psA (mkF B o.1 o.2.1 m p c o.2.2) l [(nE B, false)]) e r l p m (c + 1)
    exact this
theorem ar_11 {n L : Int32} (h1 : 0 ≤ n) (h2 : n + (L + 1) ≤ 400) (h3 : 0 ≤ L) (h4 : L ≤ 7) (h5 : n ≤ 400) : ina n 400 ∧ 0 ≤ n + 1 ∧ n + 1 + L ≤ 400 := by unfold ina; grind
theorem ar_12 {n e : Int32} (h1 : 0 ≤ n) (h2 : e < n) (h3 : ina n 400) : e < n + 1 := by unfold ina at h3; grind
theorem ar_13 {n : Int32} (h : ina n 400) : n + 1 ≤ 400 := by unfold ina at h; grind
theorem s_doesO (e p f l m : Int32) (w : WK) (h0 : HP) (Q : Option AV → HP → Prop) (he : ina e 400) (hp : ina p 12) (ho8 : w.2.2.2.2.1.length ≤ 8) :
    ∀ (os N8 : List (Int32 × Int32 × Int32)) (N S : List Int32) (B : SY) (h : HP), w.2.2.2.2.1 = N8 ++ os → N.length = N8.length → S.length = os.length → se B e = N ++ S → L8 B → ag sM h0 h → ZM w h → MD 0 B h →
      B.1 42 p = l → B.1 55 e = m → (∀ o, o ∈ os → ina o.1 12) → (0 ≤ nE B ∧ nE B + nI os.length ≤ 400 ∧ e < nE B ∧ nE B ≤ 400) →
      (wy (sndF B l p m (f + nI N.length) os)).length ≤ 800 → (cm (sndF B l p m (f + nI N.length) os)).length ≤ 800 →
      (∀ h' x4, ag sM h0 h' → MD 0 (wse (sndF B l p m (f + nI N.length) os) e (N ++ nums (nE B) os.length)) h' → WPm 108 [(10, 0)] h' (fun w h' => WPc 120 241 [(10, 0), (0, e), (0, p), (0, f), (0, x4), (500, 0)] (w.toList ++ []) h' Q)) →
      WPc 120 155 [(10, 0), (0, e), (0, p), (0, f), (0, nI N.length), (500, 0)] [] h Q := by
  intro os
  induction os with
  | nil =>
    intro N8 N S B h e1 eN e2 eS l8 g hz M hl hm hpa hr hb1 hb2 K
    have : S = [] := List.eq_nil_of_length_eq_zero e2
    subst this
    rw [List.append_nil] at e1 eS
    have e39 : h 10 0 39 = nI N.length := by rw [hz.2.2.2.2.1.1, e1, eN]
    refine b120_155 _ _ _ _ h Q ⟨fun _ => K h _ g ?_, fun z => absurd (by rw [e39]; exact Int32.le_refl _) z⟩
    have : wse B e N = B := by
      unfold wse
      have : ul (se B) e N = se B := by
        funext q; unfold ul; split
        · rename_i z; rw [z, eS]
        · rfl
      rw [this]
    show MD 0 (wse B e (N ++ [])) h
    rw [List.append_nil, this]; exact M
  | cons o os ih =>
    intro N8 N S B h e1 eN e2 eS l8 g hz M hl hm hpa hr hb1 hb2 K
    obtain ⟨s, S', rfl⟩ : ∃ s S', S = s :: S' := by
      cases S with
      | nil => simp at e2
      | cons s S' => exact ⟨s, S', rfl⟩
    have hN8 : N.length < 8 := by rw [e1] at ho8; simp at ho8; omega
    have e39 : h 10 0 39 = nI (N.length + (os.length + 1)) := by rw [hz.2.2.2.2.1.1, e1, eN]; simp
    have v70 : h 70 0 (nI N.length) = o.1 := by
      have := hz.2.2.2.2.1.2.1
      rw [e1, List.map_append] at this
      have := (LSq_app.mp this).2.1
      rwa [Int32.zero_add, List.length_map, ← eN] at this
    have v71 : h 71 0 (nI N.length) = o.2.1 := by
      have := hz.2.2.2.2.1.2.2.1
      rw [e1, List.map_append] at this
      have := (LSq_app.mp this).2.1
      rwa [Int32.zero_add, List.length_map, ← eN] at this
    have v72 : h 72 0 (nI N.length) = o.2.2 := by
      have := hz.2.2.2.2.1.2.2.2
      rw [e1, List.map_append] at this
      have := (LSq_app.mp this).2.1
      rwa [Int32.zero_add, List.length_map, ← eN] at this
    have e55 : h 55 0 e = m := by rw [M.1 55 e rfl]; exact hm
    have e13 : h 10 0 13 = nE B := M.1 10 13 rfl
    obtain ⟨hr1, hr2, hr3, hr4⟩ := hr
    have hos : os.length ≤ 7 := by rw [e1] at ho8; simp at ho8; omega
    have ln1 : nI (os.length + 1) = nI os.length + 1 := nJ_s _
    have ln0 : 0 ≤ nI os.length := nJ_nn (by omega)
    have ln8 : nI os.length ≤ nI 7 := (nJ_le (by omega) (by omega)).mpr hos
    rw [List.length_cons, ln1] at hr2
    have ar := ar_11 hr1 hr2 ln0 ln8 hr4
    refine b120_155 _ _ _ _ h Q ⟨fun z => ?_, fun _ => ⟨nI8 hN8, nI8 hN8, he, ?_⟩⟩
    · rw [e39, nJ_le (by omega) (by omega)] at z
      exfalso; omega
    · rw [v70, v71, e55]
      refine b106_0 _ _ _ _ _ h _ ?_
      rw [e13]
      refine ⟨ar.1, ar.1, ar.1, ar.1, ar.1, ar.1, b120_193 _ _ _ _ _ _ Q ⟨nI8 hN8, ar.1, i8 he hN8, ?_⟩⟩
      have v72' : (up (up (up (up (up (up (up h 10 0 13 (nE B + 1)) 54 0 (nE B) o.1) 55 0 (nE B) o.2.1) 56 0 (nE B) m) 57 0 (nE B) p) 58 0 (nE B) (f + nI N.length)) 60 0 (nE B) 3) 72 0 (nI N.length) = o.2.2 := by
        rw [upfam (by decide), upfam (by decide), upfam (by decide), upfam (by decide), upfam (by decide), upfam (by decide), upfam (by decide)]; exact v72
      rw [v72']
      have M1 := MD_mk M o.1 o.2.1 m p (f + nI N.length) o.2.2
      obtain ⟨m1, m2, m3, m4, m5, m6⟩ := id M1
      have m4' := MDr_set (N := N) (S := S') (s := s) (v := nE B) m4 (by decide) he (l8 e).2 (fun e' _ => (l8 e').2) eS
      have M2 : MD 0 (wse (mkF B o.1 o.2.1 m p (f + nI N.length) o.2.2) e (N ++ nE B :: S')) (up (up (up (up (up (up (up (up (up h 10 0 13 (nE B + 1)) 54 0 (nE B) o.1) 55 0 (nE B) o.2.1) 56 0 (nE B) m) 57 0 (nE B) p) 58 0 (nE B) (f + nI N.length)) 60 0 (nE B) 3) 59 0 (nE B) o.2.2) 66 0 (8 * e + nI N.length) (nE B)) :=
        ⟨MA_sk m1 _ _ _ _ rfl, MDp_sk m2 _ _ _ _ (by decide), MDr_sk m3 _ _ _ _ (by decide), m4', MDw_sk m5 _ _ _ _ (by first | decide | simp), MDc_sk m6 _ _ _ _ (by first | decide | simp)⟩
      have l42 : (wse (mkF B o.1 o.2.1 m p (f + nI N.length) o.2.2) e (N ++ nE B :: S')).1 42 p = l := by
        show mk1 B.1 (nE B) o.1 o.2.1 m p (f + nI N.length) o.2.2 42 p = l
        rw [mk1_fam (by decide) (by decide)]; exact hl
      have p54 : pa (wse (mkF B o.1 o.2.1 m p (f + nI N.length) o.2.2) e (N ++ nE B :: S')) (nE B) = o.1 := (mk1_new (a := B.1) (n := nE B) (p := o.1) (m := o.2.1) (b := m) (s := p) (c := f + nI N.length) (x := o.2.2)).1
      have mo := sndF_mono (o :: os) B l p m (f + nI N.length)
      have z1 : ZM w (up (up (up (up (up (up (up (up (up h 10 0 13 (nE B + 1)) 54 0 (nE B) o.1) 55 0 (nE B) o.2.1) 56 0 (nE B) m) 57 0 (nE B) p) 58 0 (nE B) (f + nI N.length)) 60 0 (nE B) 3) 59 0 (nE B) o.2.2) 66 0 (8 * e + nI N.length) (nE B)) := by
        refine ZM_sk (ZM_sk (ZM_sk (ZM_sk (ZM_sk (ZM_sk (ZM_sk (ZM_sk ?_ _ _ _ _ (by decide)) _ _ _ _ (by decide)) _ _ _ _ (by decide)) _ _ _ _ (by decide)) _ _ _ _ (by decide)) _ _ _ _ (by decide)) _ _ _ _ (by decide)) _ _ _ _ (by decide)
        exact ZM_co hz (fun f h1 h2 => upfam (by omega)) (fun k h1 h2 => up_n fun z => by rw [z.2.2] at h1; exact absurd h1 (by decide))
      have gup : ag sM h (up (up (up (up (up (up (up (up (up h 10 0 13 (nE B + 1)) 54 0 (nE B) o.1) 55 0 (nE B) o.2.1) 56 0 (nE B) m) 57 0 (nE B) p) 58 0 (nE B) (f + nI N.length)) 60 0 (nE B) 3) 59 0 (nE B) o.2.2) 66 0 (8 * e + nI N.length) (nE B)) :=
        ag_up (ag_up (ag_up (ag_up (ag_up (ag_up (ag_up (ag_up (ag_up ag_rf rfl) rfl) rfl) rfl) rfl) rfl) rfl) rfl) rfl
      refine s_goes 0 _ p (nE B) false _ _ M2 hp ar.1 (by rw [p54]; exact hpa o (by simp)) (by show (wy B).length < 900; omega) (by show 0 + (cm B).length < 900; omega) fun h' g2 fr M3 => ?_
      refine b120_231 _ _ _ _ _ h' Q ?_
      rw [l42] at M3
      have hz' : ZM w h' := ZM_co z1 (fun f h1 h2 => fr.1 f (by omega) (by omega) (by omega)) (fun k h1 h2 => fr.2 k (fun z => by rw [z] at h1; exact absurd h1 (by decide)) (fun z => by rw [z] at h1; exact absurd h1 (by decide)))
      have eB : psA (wse (mkF B o.1 o.2.1 m p (f + nI N.length) o.2.2) e (N ++ nE B :: S')) l [(nE B, false)] = wse (psA (mkF B o.1 o.2.1 m p (f + nI N.length) o.2.2) l [(nE B, false)]) e ((N ++ [nE B]) ++ S') := by
        show wse (psA (mkF B o.1 o.2.1 m p (f + nI N.length) o.2.2) l [(nE B, false)]) e (N ++ nE B :: S') = _
        congr 1; simp
      rw [eB] at M3
      have nB : nE (wse (psA (mkF B o.1 o.2.1 m p (f + nI N.length) o.2.2) l [(nE B, false)]) e ((N ++ [nE B]) ++ S')) = nE B + 1 := by
        show mk1 B.1 (nE B) o.1 o.2.1 m p (f + nI N.length) o.2.2 10 13 = _
        rw [mk1_10, if_pos rfl]
      have cN : f + nI (N ++ [nE B]).length = f + nI N.length + 1 := by
        rw [List.length_append]
        show f + nI (N.length + 1) = _
        rw [nJ_s]; grind
      have sn : sndF (wse (psA (mkF B o.1 o.2.1 m p (f + nI N.length) o.2.2) l [(nE B, false)]) e ((N ++ [nE B]) ++ S')) l p m (f + nI (N ++ [nE B]).length) os = wse (sndF B l p m (f + nI N.length) (o :: os)) e ((N ++ [nE B]) ++ S') := by
        rw [cN, sndF_wse]; rfl
      have := ih (N8 ++ [o]) (N ++ [nE B]) S' (wse (psA (mkF B o.1 o.2.1 m p (f + nI N.length) o.2.2) l [(nE B, false)]) e ((N ++ [nE B]) ++ S')) h' (by rw [e1]; simp) (by simp [eN]) (by simpa using e2) (by show ul _ e _ e = _; rw [ul_eq]) (fun e' => ⟨(l8 e').1, ?_⟩) (ag_tr (ag_tr g gup) g2) hz' M3 ?_ ?_ (fun o' ho' => hpa o' (by simp [ho'])) ?_ ?_ ?_ ?_
      · rw [List.length_append] at this
        rw [← nJ_s]; exact this
      · show (ul (se B) e ((N ++ [nE B]) ++ S') e').length ≤ 8
        unfold ul; split
        · have := (l8 e).2
          rw [eS] at this
          simp at this ⊢; omega
        · exact (l8 e').2
      · show mk1 B.1 (nE B) o.1 o.2.1 m p (f + nI N.length) o.2.2 42 p = l
        rw [mk1_fam (by decide) (by decide)]; exact hl
      · show mk1 B.1 (nE B) o.1 o.2.1 m p (f + nI N.length) o.2.2 55 e = m
        rw [mk1_old (by decide) (fun z => by rw [z] at hr3; exact absurd hr3 (by grind))]; exact hm
      · rw [nB]
        exact ⟨ar.2.1, ar.2.2, ar_12 hr1 hr3 ar.1, ar_13 ar.1⟩
      · rw [sn]; exact hb1
      · rw [sn]; exact hb2
      · intro h'' x4 g3 M4
        refine K h'' x4 g3 ?_
        rw [sn, nB] at M4
        have : wse (wse (sndF B l p m (f + nI N.length) (o :: os)) e ((N ++ [nE B]) ++ S')) e ((N ++ [nE B]) ++ nums (nE B + 1) os.length) = wse (sndF B l p m (f + nI N.length) (o :: os)) e (N ++ nums (nE B) (o :: os).length) := by
          unfold wse
          have : ul (ul (se (sndF B l p m (f + nI N.length) (o :: os))) e ((N ++ [nE B]) ++ S')) e ((N ++ [nE B]) ++ nums (nE B + 1) os.length) = ul (se (sndF B l p m (f + nI N.length) (o :: os))) e (N ++ nums (nE B) (o :: os).length) := by
            funext q; unfold ul; split
            · simp [nums]
            · rfl
          show (_, _, _, ul (ul (se (sndF B l p m (f + nI N.length) (o :: os))) e ((N ++ [nE B]) ++ S')) e ((N ++ [nE B]) ++ nums (nE B + 1) os.length), _, _) = _
          rw [this]
        rw [this] at M4
        exact M4
theorem ar_14 {q p : Int32} {k n : Nat} (hq : ina q 12) (hp : ina p 12) (hk : k < 400) (hn : n < 400) (z : 400 * q + nI k = 400 * p + nI n) : q = p := by
  obtain ⟨a, rfl, ha⟩ := nJ_exlt (N := 12) (by decide) hq.1 hq.2
  obtain ⟨b, rfl, hb⟩ := nJ_exlt (N := 12) (by decide) hp.1 hp.2
  have e1 : ∀ m : Nat, (400 : Int32) * nI m = nI (400 * m) := fun m => by
    unfold nI
    rw [Int32.ofNat_mul]
    rfl
  rw [e1, e1, ← nJ_add, ← nJ_add] at z
  have := nJ_inj (by omega) (by omega) z
  congr 1
  omega
theorem s_does (A : SY) (e : Int32) (h : HP) (Q : Option AV → HP → Prop) (hI : YV A) (hl8 : L8 A) (hcm : cm A = []) (ine : ina e (nE A)) (h0 : hw A e = 0) (hn : nE A ≤ 392)
    (hmin : ∀ f, ina f (nE A) → hw A f = 0 → pa A f = pa A e → ¬ f = e → bel A.1 e f) (hM : MD 0 A h) (H : ∀ h', ag sM h h' → MD 0 (wrk 800 (dsF A e)) h' → Q none h') : WPm 120 [(10, 0), (0, e)] h Q := by
  have gg := ga hI ine
  have hI' := YV_dsF hI ine h0 hn hmin
  have pc := pnd_cnt hI'
  have cl := cnt_le (dsF A e)
  have r1 := hI.1.1
  have np : ¬ A.1 10 0 = 0 := fun z => by have := gg.2.2; rw [show nP A = 0 from z] at this; exact absurd (Int32.lt_of_le_of_lt this.1 this.2) (by decide)
  have fb := actsF_b (m := A.1 55 e) (v := A.1 59 e) r1 gg.2.1 (rp_d r1 gg.2.1 (dn A (pa A e)))
  have fo := actsF_o (v := A.1 59 e) (z := rp A.1 (pa A e) (dn A (pa A e))) r1 gg.2.2 (hI.1.2.2.1 e ine).2.1
  have ho8 : (wOf A e).2.2.2.2.1.length ≤ 8 := fb.1
  have hp8 : (wOf A e).2.2.2.2.2.length ≤ 8 := fb.2.1
  have dl := dn_len hI (pa A e)
  have ndl : (dn A (pa A e)).length < 400 := by
    have nd : (e :: dn A (pa A e)).Nodup := List.nodup_cons.mpr ⟨fun z => by have := (hI.2.1.1 _ e z).2.1; rw [h0] at this; exact absurd this (by decide), pw_nd (hI.2.1.2.2.1 _)⟩
    have := rng_len hI.1.2.1.2 (fun d hd => by
      rcases List.mem_cons.mp hd with rfl | hd
      · exact ine
      · exact (hI.2.1.1 _ d hd).1) nd
    rw [List.length_cons] at this
    omega
  have e54 : h 54 0 e = pa A e := hM.1 54 e rfl
  have mp := hM.2.1 (pa A e) gg.2.1
  refine b120_0 e h Q ?_
  rw [e54, mp.1]
  refine ⟨gg.1, gg.2.1, s_state A.1 (pa A e) (dn A (pa A e)) h _ r1 hM.1 gg.2.1 np mp.2 dl (fun d hd => (ga hI (hI.2.1.1 _ d hd).1).1) fun h1 g1 z1 => ?_⟩
  have M1 := MD_ag hM (ag_AS g1)
  refine b120_18 _ _ h1 Q ?_
  rw [M1.1 55 e rfl, M1.1 59 e rfl, z1.2.2]
  refine ⟨gg.1, gg.1, s_acts A.1 (pa A e) (A.1 55 e) (A.1 59 e) (rp A.1 (pa A e) (dn A (pa A e))) h1 _ r1 M1.1 gg.2.1 np z1 (rp_d r1 gg.2.1 _) fun h2 g2 z2 => ?_⟩
  have M2 := MD_ag M1 (ag_AS g2)
  have z2 : ZM (wOf A e) h2 := z2
  refine b120_40 _ _ _ h2 Q ?_
  obtain ⟨m1, m2, m3, m4, m5, m6⟩ := id M2
  have mp2 := m2 (pa A e) gg.2.1
  rw [mp2.1, m1 50 (pa A e) rfl, z2.2.2.2.1, z2.2.2.2.2.2.1]
  refine ⟨gg.2.1, i400 gg.2.1 ndl, gg.2.1, gg.2.1, gg.2.1, gg.2.1, gg.1, gg.1, gg.1, ?_⟩
  obtain ⟨S0, s1, s2⟩ := LSq_any (h2 64 0) (wOf A e).2.2.2.2.2.length (8 * e)
  -- the yard after the marks
  have M3 : MD 0 (sa (sa (sa A.1 60 e 1) 50 (pa A e) (A.1 50 (pa A e) + 1)) 62 e (wOf A e).2.2.2.1, ul (dn A) (pa A e) (dn A (pa A e) ++ [e]), ul (pr A) e ([] ++ S0), se A, wy A, cm A)
      (up (up (up (up (up (up h2 53 0 (400 * pa A e + nI (dn A (pa A e)).length) e) 52 0 (pa A e) (nI (dn A (pa A e)).length + 1)) 50 0 (pa A e) (A.1 50 (pa A e) + 1)) 60 0 e 1) 62 0 e (wOf A e).2.2.2.1) 63 0 e (nI (wOf A e).2.2.2.2.2.length)) := by
    refine ⟨?_, ?_, ?_, ?_, ?_, ?_⟩
    · have q := MA_sk (MA_up (MA_up (MA_up (MA_sk (MA_sk m1 53 0 (400 * pa A e + nI (dn A (pa A e)).length) e rfl) 52 0 (pa A e) (nI (dn A (pa A e)).length + 1) rfl) 50 (pa A e) (A.1 50 (pa A e) + 1)) 60 e 1) 62 e (wOf A e).2.2.2.1) 63 0 e (nI (wOf A e).2.2.2.2.2.length) rfl
      have c : sa (sa (sa A.1 50 (pa A e) (A.1 50 (pa A e) + 1)) 60 e 1) 62 e (wOf A e).2.2.2.1 = sa (sa (sa A.1 60 e 1) 50 (pa A e) (A.1 50 (pa A e) + 1)) 62 e (wOf A e).2.2.2.1 := by
        congr 1
        funext f j
        unfold sa
        by_cases y : f = 60
        · simp [y]
        · simp [y]
      rw [c] at q; exact q
    · refine MDp_sk (MDp_sk (MDp_sk (MDp_sk ?_ _ _ _ _ (by decide)) _ _ _ _ (by decide)) _ _ _ _ (by decide)) _ _ _ _ (by decide)
      intro q hq
      rw [upfam (show ¬ 53 = 52 by decide), show (up h2 53 0 (400 * pa A e + nI (dn A (pa A e)).length) e) 53 0 = vpd (h2 53 0) (400 * pa A e + nI (dn A (pa A e)).length) e from uprow]
      show up (up h2 53 0 (400 * pa A e + nI (dn A (pa A e)).length) e) 52 0 (pa A e) (nI (dn A (pa A e)).length + 1) 52 0 q = nI (ul (dn A) (pa A e) (dn A (pa A e) ++ [e]) q).length ∧ LSq _ (400 * q) (ul (dn A) (pa A e) (dn A (pa A e) ++ [e]) q)
      by_cases y : q = pa A e
      · subst y
        rw [ul_eq, up_at, List.length_append]
        exact ⟨(nJ_s _).symm, LSq_snoc (by omega) mp2.2⟩
      · rw [ul_ne y, up_n (fun z => y z.2.2), up_n (fun z => absurd z.1 (by decide))]
        have mq := m2 q hq
        refine ⟨mq.1, LSq_congr (fun k hk => vpd_ne _ _ fun z => y ?_) mq.2⟩
        have := dn_len hI q
        have hk : k < (dn A q).length := hk
        exact ar_14 hq gg.2.1 (by omega) ndl z
    · intro x hx
      rw [upfam (show ¬ 64 = 63 by decide), upfam (show ¬ 64 = 62 by decide), upfam (show ¬ 64 = 60 by decide), upfam (show ¬ 64 = 50 by decide), upfam (show ¬ 64 = 52 by decide), upfam (show ¬ 64 = 53 by decide)]
      show up _ 63 0 e (nI (wOf A e).2.2.2.2.2.length) 63 0 x = nI (ul (pr A) e ([] ++ S0) x).length ∧ LSq (h2 64 0) (8 * x) (ul (pr A) e ([] ++ S0) x)
      by_cases y : x = e
      · subst y
        rw [ul_eq, up_at, List.nil_append, s1]
        exact ⟨rfl, s2⟩
      · rw [ul_ne y, up_n (fun z => y z.2.2), upfam (by decide), upfam (by decide), upfam (by decide), upfam (by decide), upfam (by decide)]
        exact m3 x hx
    · exact MDr_sk (MDr_sk (MDr_sk (MDr_sk (MDr_sk (MDr_sk m4 _ _ _ _ (by decide)) _ _ _ _ (by decide)) _ _ _ _ (by decide)) _ _ _ _ (by decide)) _ _ _ _ (by decide)) _ _ _ _ (by decide)
    · exact MDw_sk (MDw_sk (MDw_sk (MDw_sk (MDw_sk (MDw_sk m5 _ _ _ _ (by first | decide | simp)) _ _ _ _ (by first | decide | simp)) _ _ _ _ (by first | decide | simp)) _ _ _ _ (by first | decide | simp)) _ _ _ _ (by first | decide | simp)) _ _ _ _ (by first | decide | simp)
    · exact MDc_sk (MDc_sk (MDc_sk (MDc_sk (MDc_sk (MDc_sk m6 _ _ _ _ (by first | decide | simp)) _ _ _ _ (by first | decide | simp)) _ _ _ _ (by first | decide | simp)) _ _ _ _ (by first | decide | simp)) _ _ _ _ (by first | decide | simp)) _ _ _ _ (by first | decide | simp)
  have z3 := ZM_sk (ZM_sk (ZM_sk (ZM_sk (ZM_sk (ZM_sk z2 53 0 (400 * pa A e + nI (dn A (pa A e)).length) e (by decide)) 52 0 (pa A e) (nI (dn A (pa A e)).length + 1) (by decide)) 50 0 (pa A e) (A.1 50 (pa A e) + 1) (by decide)) 60 0 e 1 (by decide)) 62 0 e (wOf A e).2.2.2.1 (by decide)) 63 0 e (nI (wOf A e).2.2.2.2.2.length) (by decide)
  have g3 : ag sM h (up (up (up (up (up (up h2 53 0 (400 * pa A e + nI (dn A (pa A e)).length) e) 52 0 (pa A e) (nI (dn A (pa A e)).length + 1)) 50 0 (pa A e) (A.1 50 (pa A e) + 1)) 60 0 e 1) 62 0 e (wOf A e).2.2.2.1) 63 0 e (nI (wOf A e).2.2.2.2.2.length)) :=
    ag_tr (ag_SM (ag_AS (ag_tr g1 g2))) (ag_up (ag_up (ag_up (ag_up (ag_up (ag_up ag_rf rfl) rfl) rfl) rfl) rfl) rfl)
  refine s_doesP (sa (sa (sa A.1 60 e 1) 50 (pa A e) (A.1 50 (pa A e) + 1)) 62 e (wOf A e).2.2.2.1, ul (dn A) (pa A e) (dn A (pa A e) ++ [e]), pr A, se A, wy A, cm A) e (pa A e) _ (wOf A e) h Q gg.1 hl8 hp8 (fun h4 g4 z4 M4 => ?_) (wOf A e).2.2.2.2.2 [] S0 _ rfl s1 g3 z3 M3
  obtain ⟨T0, t1, t2⟩ := LSq_any (h4 66 0) (wOf A e).2.2.2.2.1.length (8 * e)
  rw [z4.2.2.2.2.1.1]
  obtain ⟨k1, k2, k3, k4, k5, k6⟩ := id M4
  have M5 : MD 0 (sa (sa (sa A.1 60 e 1) 50 (pa A e) (A.1 50 (pa A e) + 1)) 62 e (wOf A e).2.2.2.1, ul (dn A) (pa A e) (dn A (pa A e) ++ [e]), ul (pr A) e (wOf A e).2.2.2.2.2, ul (se A) e T0, wy A, cm A) (up h4 65 0 e (nI (wOf A e).2.2.2.2.1.length)) := by
    refine ⟨MA_sk k1 _ _ _ _ rfl, MDp_sk k2 _ _ _ _ (by decide), MDr_sk k3 _ _ _ _ (by decide), ?_, MDw_sk k5 _ _ _ _ (by first | decide | simp), MDc_sk k6 _ _ _ _ (by first | decide | simp)⟩
    intro x hx
    rw [upfam (show ¬ 66 = 65 by decide)]
    show up _ 65 0 e _ 65 0 x = nI (ul (se A) e T0 x).length ∧ LSq (h4 66 0) (8 * x) (ul (se A) e T0 x)
    by_cases y : x = e
    · subst y
      rw [ul_eq, up_at, t1]
      exact ⟨rfl, t2⟩
    · rw [ul_ne y, up_n (fun z => y z.2.2)]
      exact k4 x hx
  have eds : ∀ T : List Int32, wse (sndF (sa (sa (sa A.1 60 e 1) 50 (pa A e) (A.1 50 (pa A e) + 1)) 62 e (wOf A e).2.2.2.1, ul (dn A) (pa A e) (dn A (pa A e) ++ [e]), ul (pr A) e (wOf A e).2.2.2.2.2, ul (se A) e T, wy A, cm A) (A.1 42 (pa A e)) (pa A e) (A.1 55 e) ((zOf A e).2.2 + nI ([] : List Int32).length) (wOf A e).2.2.2.2.1) e ([] ++ nums (nE A) (wOf A e).2.2.2.2.1.length) = dsF A e := fun T => by
    rw [← sndF_wse]
    unfold dsF wse
    have c : ul (ul (se A) e T) e ([] ++ nums (nE A) (wOf A e).2.2.2.2.1.length) = ul (se A) e (nums (nE A) (wOf A e).2.2.2.2.1.length) := by
      funext q; unfold ul; split
      · rw [List.nil_append]
      · rfl
    have c0 : (zOf A e).2.2 + nI ([] : List Int32).length = (zOf A e).2.2 := by
      show (zOf A e).2.2 + 0 = _
      rw [Int32.add_zero]
    show sndF (_, _, _, ul (ul (se A) e T) e ([] ++ nums (nE A) (wOf A e).2.2.2.2.1.length), _, _) _ _ _ ((zOf A e).2.2 + nI ([] : List Int32).length) _ = _
    rw [c, c0]
  have nEq : nE (sa (sa (sa A.1 60 e 1) 50 (pa A e) (A.1 50 (pa A e) + 1)) 62 e (wOf A e).2.2.2.1, ul (dn A) (pa A e) (dn A (pa A e) ++ [e]), ul (pr A) e (wOf A e).2.2.2.2.2, ul (se A) e T0, wy A, cm A) = nE A := by simp [nE, sa]
  have hlI : nI (wOf A e).2.2.2.2.1.length ≤ 8 := (nJ_le (b := 8) (by omega) (by omega)).mpr ho8
  have hl0 : 0 ≤ nI (wOf A e).2.2.2.2.1.length := nJ_nn (by omega)
  have bnd : (wy (dsF A e)).length ≤ 800 ∧ (cm (dsF A e)).length ≤ 800 := by
    unfold pnd at pc
    rw [List.length_append] at pc
    omega
  refine s_doesO e (pa A e) (zOf A e).2.2 (A.1 42 (pa A e)) (A.1 55 e) (wOf A e) h Q gg.1 gg.2.1 ho8 (wOf A e).2.2.2.2.1 [] [] T0 _ _ rfl rfl t1 (by show ul _ e _ e = _; rw [ul_eq, List.nil_append]) (fun e' => ⟨?_, ?_⟩) (ag_tr g4 (ag_up ag_rf rfl)) (ZM_sk z4 _ _ _ _ (by decide)) M5 (by simp [sa]) (by simp [sa]) (fun o ho => ?_) ?_ ?_ ?_ (fun h5 x4 g5 M6 => ?_)
  · show (ul (pr A) e _ e').length ≤ 8
    unfold ul; split
    · exact hp8
    · exact (hl8 e').1
  · show (ul (se A) e _ e').length ≤ 8
    unfold ul; split
    · rw [t1]; exact ho8
    · exact (hl8 e').2
  · have := (fo.1 o ho).1
    exact ⟨this.1, Int32.lt_of_lt_of_le this.2 r1.1.2⟩
  · rw [nEq]
    exact ⟨hI.1.2.1.1, (ar_6 hI.1.2.1.1 hn hl0 hlI).2, ine.2, hI.1.2.1.2⟩
  · have := eds T0
    rw [← this] at bnd
    exact bnd.1
  · have := eds T0
    rw [← this] at bnd
    exact bnd.2
  · rw [nEq, eds T0] at M6
    refine b108_0 h5 _ (s_come _ 800 0 (dsF A e) h5 hI' (by omega) cl M6 fun h6 g6 M7 => b120_241 _ _ _ _ h6 Q (H h6 (ag_tr g5 g6) M7))
