/-! 98a: the class: Plain.add -/
def ixN : List Int32 → Int32 → Nat
  | [], _ => 0
  | x :: l, f => if f = x then 0 else ixN l f + 1
theorem ixN_lt : ∀ {L : List Int32} {f : Int32}, f ∈ L → ixN L f < L.length
  | x :: l, f, h => by
    unfold ixN
    by_cases z : f = x
    · rw [if_pos z]; simp
    · rw [if_neg z, List.length_cons]
      have := ixN_lt ((List.mem_cons.mp h).resolve_left z)
      omega
theorem ixN_get (d : Int32) : ∀ {L : List Int32} {f : Int32}, f ∈ L → L.getD (ixN L f) d = f
  | x :: l, f, h => by
    unfold ixN
    by_cases z : f = x
    · rw [if_pos z]; simp [z]
    · rw [if_neg z, List.getD_cons_succ]
      exact ixN_get d ((List.mem_cons.mp h).resolve_left z)
theorem ixN_app (M : List Int32) : ∀ {L : List Int32} {f : Int32}, f ∈ L → ixN (L ++ M) f = ixN L f
  | x :: l, f, h => by
    rw [List.cons_append]
    unfold ixN
    by_cases z : f = x
    · rw [if_pos z, if_pos z]
    · rw [if_neg z, if_neg z, ixN_app M ((List.mem_cons.mp h).resolve_left z)]
theorem ixN_new : ∀ {L : List Int32} {f : Int32}, ¬ f ∈ L → ixN (L ++ [f]) f = L.length
  | [], f, _ => by simp [ixN]
  | x :: l, f, h => by
    rw [List.cons_append]
    unfold ixN
    rw [if_neg (fun q => h (by rw [q]; simp)), ixN_new (fun q => h (by simp [q])), List.length_cons]
def ixP (L : List Int32) (f : Int32) : Int32 := 400 + nI (ixN L f)
def PE (A : SY) (x f : Int32) (h : HP) : Prop := KY A.1 f x h ∧ h 2 x 1 = pa A f ∧ h 2 x 6 = A.1 59 f
theorem PE_co {A : SY} {x f : Int32} {h h' : HP} (P : PE A x f h) (e : h' 2 x = h 2 x) : PE A x f h' := by unfold PE KY; rw [e]; exact P
/-- Plain's pool holds the events L, its order names them by their keys: N -/
def PN (A : SY) (L N : List Int32) (h : HP) : Prop := h 3 1 1 = nI L.length ∧ (∀ f, f ∈ L → PE A (ixP L f) f h) ∧ LSq (h 26 1) 0 (N.map (ixP L)) ∧ N.Pairwise (klt A.1) ∧ (∀ f, f ∈ N ↔ f ∈ L) ∧ N.length = L.length
theorem ar_28 {n e k m : Int32} (hn : ina n 400) (hm : m ≤ 400) : ¬ 400 + n = -1 ∧ 400 ≤ 400 + n ∧ (ina e m → ¬ e = 400 + n) ∧ (¬ k = n → ¬ 400 + k = 400 + n) ∧ 400 + n - 400 = n := by unfold ina at *; grind
theorem RC_newV {A : SY} {T : List Int32} {Z : Int32 → ZT} {od : List Int32} {h : HP} {i : Int32} (hI : YV A) (R : RC A T Z od h) (hi : ina i 400) (z : h 33 0 i = -1) : RC A T Z od (up (nV (400 + i) i h) 33 0 i (400 + i)) := by
  have fr : ∀ f x k, ¬ (f = 2 ∧ x = 400 + i) → ¬ (f = 12 ∧ x = 400 + i) → ¬ (f = 25 ∧ x = 400 + i) → ¬ (f = 0 ∧ x = 0) → ¬ f = 33 → (up (nV (400 + i) i h) 33 0 i (400 + i)) f x k = h f x k := fun f x k a1 a2 a3 a4 a5 => by
    rw [upfam a5, nV_n a1 a2 a3 a4]
  have e33 : ∀ j, (up (nV (400 + i) i h) 33 0 i (400 + i)) 33 0 j = if j = i then 400 + i else h 33 0 j := fun j => by
    by_cases y : j = i
    · rw [y, up_at, if_pos rfl]
    · rw [up_n (fun q => y q.2.2), if_neg y, nV_n (by simp) (by simp) (by simp) (by simp)]
  have e00 : (up (nV (400 + i) i h) 33 0 i (400 + i)) 0 0 0 = h 0 0 0 + 1 + 1 ∧ (up (nV (400 + i) i h) 33 0 i (400 + i)) 0 0 1 = h 0 0 1 + 16 + 8 := by rw [upfam (by decide)]; exact nV_0
  have A0 := ar_28 (k := 0) (e := 0) (m := 400) hi (by decide)
  have g7 := R.2.2.2.2.2.2
  have n4 := CO_4 R.2.2.2.2.1
  have sm := RM_sm g7.2.2.2.2.2 ⟨hI.1.2.1.1, n4⟩ hI.1.1.1
  generalize (up (nV (400 + i) i h) 33 0 i (400 + i)) = h' at fr e33 e00 ⊢
  have f3q : ∀ s, f3 s h → f3 s h' := fun s o => by
    unfold f3 at o ⊢
    rw [fr 18 s _ (by simp) (by simp) (by simp) (by simp) (by simp), fr 8 s _ (by simp) (by simp) (by simp) (by simp) (by simp), fr 39 s _ (by simp) (by simp) (by simp) (by simp) (by simp)]
    exact o
  have fEq : ∀ s, ¬ s = 400 + i → fE s h → fE s h' := fun s hs o => by
    unfold fE at o ⊢
    rw [fr 12 s _ (by simp) (by simp [hs]) (by simp) (by simp) (by simp), fr 2 s _ (by simp [hs]) (by simp) (by simp) (by simp) (by simp), fr 25 s _ (by simp) (by simp) (by simp [hs]) (by simp) (by simp)]
    exact o
  have e2 : ∀ e, ina e (nE A) → h' 2 e 14 = h 2 e 14 := fun e he => fr 2 e 14 (fun q => (ar_28 (k := 0) (e := e) (m := nE A) hi n4).2.2.1 he q.2) (by simp) (by simp) (by simp) (by simp)
  refine RC_fr hI.1.1.1.2 R (fun f x q => funext fun k => fr f x k (fun y => q ?_) (fun y => q ?_) (fun y => q ?_) (fun y => q ?_) (fun y => q ?_)) ⟨?_, ?_, ?_, ?_, ?_, ?_⟩
  · rw [y.1, y.2]; unfold plX; simp only [A0.2.1]; simp
  · rw [y.1, y.2]; unfold plX; simp
  · rw [y.1, y.2]; unfold plX; simp only [A0.2.1]; simp
  · rw [y.1, y.2]; unfold plX; simp
  · rw [y]; unfold plX; simp
  · intro e he hn
    have o := g7.1 e he hn
    exact ⟨fEq e ((ar_28 (k := 0) (e := e) (m := 400) hi (by decide)).2.2.1 he) o.1, f3q _ o.2⟩
  · intro e he q
    rw [e2 e he] at q
    exact f3q _ (g7.2.1 e he q)
  · intro p hp hn
    have o := g7.2.2.1 p hp hn
    unfold fP at o ⊢
    rw [fr 14 p _ (by simp) (by simp) (by simp) (by simp) (by simp), fr 4 p _ (by simp) (by simp) (by simp) (by simp) (by simp), fr 27 p _ (by simp) (by simp) (by simp) (by simp) (by simp), fr 28 p _ (by simp) (by simp) (by simp) (by simp) (by simp), fr 29 p _ (by simp) (by simp) (by simp) (by simp) (by simp), fr 30 p _ (by simp) (by simp) (by simp) (by simp) (by simp), fr 31 p _ (by simp) (by simp) (by simp) (by simp) (by simp)]
    exact ⟨o.1, o.2.1, f3q p o.2.2.1, o.2.2.2⟩
  · intro n hn
    rw [e33]
    by_cases y : n = i
    · right; rw [if_pos y, y]
    · rw [if_neg y]
      exact (g7.2.2.2.1 n hn).imp (fun q => ⟨q.1, fEq _ ((ar_28 (k := n) (e := 0) (m := 400) hi (by decide)).2.2.2.1 y) q.2⟩) id
  · intro j hj
    rw [fr 32 0 j (by simp) (by simp) (by simp) (by simp) (by simp)]
    exact (g7.2.2.2.2.1 j hj).imp (fun q => ⟨q.1, f3q _ q.2⟩) id
  · have rm := g7.2.2.2.2.2
    have hah : ahN A h' = ahN A h := ahN_co e2 rfl n4
    have hso : soN h' = soN h := by
      unfold soN
      congr 1
      exact List.filter_congr fun n _ => by rw [fr 32 0 _ (by simp) (by simp) (by simp) (by simp) (by simp)]
    have hpo : poN h' = poN h + 1 := by
      obtain ⟨m, hm, hm2⟩ := nJ_exlt (N := 400) (by decide) hi.1 hi.2
      unfold poN
      refine flt_1 hm2 (fun n hn y => ?_) ?_ ?_
      · rw [e33, if_neg (fun q => y (nJ_inj (by omega) (by omega) (by rw [q, hm])))]
      · rw [← hm, z]; rfl
      · rw [← hm, e33, if_pos rfl]; simp [A0.1]
    obtain ⟨⟨s1, s2⟩, s3, s4⟩ := sm
    have a0 := (le6 s1 (by omega)).2
    have a1 := (le6 (a := h 0 0 0 + 1) (by omega) (by omega)).2
    have b1 := (le7 (b := h 0 0 1) (c := 16) (m := 16) rfl (by omega) (by omega) (by omega)).2
    have b2 := (le7 (b := h 0 0 1 + 16) (c := 8) (m := 8) rfl (by omega) (by omega) (by omega)).2
    unfold RM at rm ⊢
    rw [hah, hpo, hso, e00.1, e00.2]
    omega
theorem nVC {e y : Int32} {h : HP} : ag sC h (nV e y h) := fun f x k z => nV_n (fun q => by rw [q.1] at z; exact absurd z (by simp [sC])) (fun q => by rw [q.1] at z; exact absurd z (by simp [sC])) (fun q => by rw [q.1] at z; exact absurd z (by simp [sC])) (fun q => by rw [q.1] at z; exact absurd z (by simp [sC]))
theorem s_plAdd (A : SY) (od L N : List Int32) (f : Int32) (h0 : HP) (Q : Option AV → HP → Prop) (hI : YV A) (R : RC A [] (Zst A) od h0) (hl : L.length < 400) (nf : ¬ f ∈ L) (hk : ∀ g, g ∈ L → ¬ keq A.1 f g) (P : PN A L N h0)
    (H : ∀ N1 N2 h', N = N1 ++ N2 → (∀ g, g ∈ N1 → klt A.1 g f) → (∀ g, g ∈ N2 → klt A.1 f g) → ag sC h0 h' → RC A [] (Zst A) od h' → (∀ f y, ¬ f = 0 → ¬ f = 2 → ¬ f = 12 → ¬ f = 25 → ¬ f = 3 → ¬ f = 26 → ¬ f = 33 → h' f y = h0 f y) → PN A (L ++ [f]) (N1 ++ f :: N2) h' → (∀ g, g ∈ L → h' 2 (ixP L g) = h0 2 (ixP L g) ∧ h' 25 (ixP L g) = h0 25 (ixP L g)) → Q none h') :
    WPm 24 [(5, 0), (0, pa A f), (0, A.1 55 f), (0, A.1 56 f), (0, A.1 57 f), (0, A.1 58 f), (0, A.1 59 f)] h0 Q := by
  have i4 : ina (nI L.length) 400 := ⟨nJ_nn (by omega), (nJ_lt (b := 400) (by omega) (by omega)).mpr hl⟩
  have A0 := ar_28 (k := 0) (e := 0) (m := 400) i4 (by decide)
  have ixne : ∀ g, g ∈ L → ¬ ixP L g = 400 + nI L.length := fun g hg q => by
    have := ixN_lt hg
    have q2 : nI (ixN L g) = nI L.length := by unfold ixP at q; grind
    have := nJ_inj (by omega) (by omega) q2
    omega
  have next : ∀ h1, ag sC h0 h1 → RC A [] (Zst A) od h1 → (∀ f y, ¬ f = 0 → ¬ f = 2 → ¬ f = 12 → ¬ f = 25 → ¬ f = 3 → ¬ f = 26 → ¬ f = 33 → h1 f y = h0 f y) → h1 33 0 (nI L.length) = 400 + nI L.length → PN A L N h1 → (∀ g, g ∈ L → h1 2 (ixP L g) = h0 2 (ixP L g) ∧ h1 25 (ixP L g) = h0 25 (ixP L g)) →
      WPm 8 [(2, 400 + nI L.length), (0, pa A f), (0, A.1 55 f), (0, A.1 56 f), (0, A.1 57 f), (0, A.1 58 f), (0, A.1 59 f)] h1 (fun w h' => WPc 24 68 [(5, 0), (0, pa A f), (0, A.1 55 f), (0, A.1 56 f), (0, A.1 57 f), (0, A.1 58 f), (0, A.1 59 f), (0, nI L.length)] (w.toList ++ []) h' Q) := fun h1 g1 R1 fr1 e33 P1 D1 => by
    refine b8_0 _ _ _ _ _ _ _ h1 _ ⟨A0.1, A0.1, A0.1, A0.1, A0.1, A0.1, b24_68 _ _ _ _ _ _ _ _ Q ⟨i4, ?_⟩⟩
    have w : agw (fun g x => g = 2 ∧ x = 400 + nI L.length) h1 (up (up (up (up (up (up h1 2 (400 + nI L.length) 1 (pa A f)) 2 (400 + nI L.length) 2 (A.1 55 f)) 2 (400 + nI L.length) 3 (A.1 56 f)) 2 (400 + nI L.length) 4 (A.1 57 f)) 2 (400 + nI L.length) 5 (A.1 58 f)) 2 (400 + nI L.length) 6 (A.1 59 f)) :=
      agw_up (agw_up (agw_up (agw_up (agw_up (agw_up agw_rf ⟨rfl, rfl⟩ (by decide)) ⟨rfl, rfl⟩ (by decide)) ⟨rfl, rfl⟩ (by decide)) ⟨rfl, rfl⟩ (by decide)) ⟨rfl, rfl⟩ (by decide)) ⟨rfl, rfl⟩ (by decide)
    have g2 : ag sC h1 (up (up (up (up (up (up h1 2 (400 + nI L.length) 1 (pa A f)) 2 (400 + nI L.length) 2 (A.1 55 f)) 2 (400 + nI L.length) 3 (A.1 56 f)) 2 (400 + nI L.length) 4 (A.1 57 f)) 2 (400 + nI L.length) 5 (A.1 58 f)) 2 (400 + nI L.length) 6 (A.1 59 f)) := ag_up (ag_up (ag_up (ag_up (ag_up (ag_up ag_rf rfl) rfl) rfl) rfl) rfl) rfl
    have pf : PE A (400 + nI L.length) f (up (up (up (up (up (up h1 2 (400 + nI L.length) 1 (pa A f)) 2 (400 + nI L.length) 2 (A.1 55 f)) 2 (400 + nI L.length) 3 (A.1 56 f)) 2 (400 + nI L.length) 4 (A.1 57 f)) 2 (400 + nI L.length) 5 (A.1 58 f)) 2 (400 + nI L.length) 6 (A.1 59 f)) := by
      refine ⟨⟨?_, ?_, ?_, ?_⟩, ?_, ?_⟩
      · rw [up_n (by simp), up_n (by simp), up_n (by simp), up_n (by simp), up_at]
      · rw [up_n (by simp), up_n (by simp), up_n (by simp), up_at]
      · rw [up_n (by simp), up_n (by simp), up_at]
      · rw [up_n (by simp), up_at]
      · rw [up_n (by simp), up_n (by simp), up_n (by simp), up_n (by simp), up_n (by simp), up_at]
      · rw [up_at]
    generalize (up (up (up (up (up (up h1 2 (400 + nI L.length) 1 (pa A f)) 2 (400 + nI L.length) 2 (A.1 55 f)) 2 (400 + nI L.length) 3 (A.1 56 f)) 2 (400 + nI L.length) 4 (A.1 57 f)) 2 (400 + nI L.length) 5 (A.1 58 f)) 2 (400 + nI L.length) 6 (A.1 59 f)) = h2 at w g2 pf ⊢
    have R2 : RC A [] (Zst A) od h2 := RC_pw hI R1 w fun g x q => by
      rw [q.1, q.2]; unfold plX; simp only [A0.2.1]; simp
    have r2 : ∀ g x, ¬ g = 2 → h2 g x = h1 g x := fun g x hg => agw_row w fun q => hg q.1
    have pL : ∀ g, g ∈ L → PE A (ixP L g) g h2 := fun g hg => PE_co (P1.2.1 g hg) (agw_row w fun q => ixne g hg q.2)
    rw [r2 33 0 (by decide), e33]
    have kfe : ∀ g, g ∈ L → L.getD (ixP L g - 400).toNatClampNeg 0 = g := fun g hg => by
      have e : ixP L g - 400 = nI (ixN L g) := by unfold ixP; grind
      have := ixN_lt hg
      rw [e, show (nI (ixN L g)).toNatClampNeg = ixN L g from Int32.toNatClampNeg_ofNat_of_lt (by omega)]
      exact ixN_get 0 hg
    have nl : (N.map (ixP L)).length = L.length := by rw [List.length_map, P1.2.2.2.2.2]
    refine s_insert A.1 1 f (400 + nI L.length) (N.map (ixP L)) (fun y => L.getD (y - 400).toNatClampNeg 0) h2 _ (by rw [nl]; exact hl) (by rw [r2 3 1 (by decide), nl]; exact P1.1) (by rw [r2 26 1 (by decide)]; exact P1.2.2.1) A0.1 (fun y hy => ?_) pf.1 ?_ fun L1 L2 h3 eL c1 c2 w3 e3 row => b24_82 _ _ _ _ _ _ _ h3 Q ?_
    · obtain ⟨g, hg, rfl⟩ := List.mem_map.mp hy
      have hg := (P1.2.2.2.2.1 g).mp hg
      rw [kfe g hg]
      have := ixN_lt hg
      refine ⟨(ar_28 (k := 0) (e := 0) (m := 400) (n := nI (ixN L g)) ⟨nJ_nn (by omega), (nJ_lt (b := 400) (by omega) (by omega)).mpr (by omega)⟩ (by decide)).1, (pL g hg).1⟩
    · refine List.pairwise_map.mpr (P1.2.2.2.1.imp_of_mem fun {u v} hu hv q => ?_)
      rw [kfe u ((P1.2.2.2.2.1 u).mp hu), kfe v ((P1.2.2.2.2.1 v).mp hv)]
      exact fun y => klt_irr (klt_tr q y)
    · obtain ⟨N1, N2, eN, m1, m2⟩ := List.map_eq_append_iff.mp eL
      have inL : ∀ g, g ∈ N1 ∨ g ∈ N2 → g ∈ L := fun g hg => (P1.2.2.2.2.1 g).mp (by rw [eN]; exact List.mem_append.mpr hg)
      have k1 : ∀ g, g ∈ N1 → klt A.1 g f := fun g hg => by
        have := c1 (ixP L g) (by rw [← m1]; exact List.mem_map.mpr ⟨g, hg, rfl⟩)
        rw [kfe g (inL g (Or.inl hg))] at this
        rcases klt_tot (a := A.1) (e := f) (f := g) with q | q | q
        · exact absurd q this
        · exact absurd q (hk g (inL g (Or.inl hg)))
        · exact q
      have k2 : ∀ g, g ∈ N2 → klt A.1 f g := fun g hg => by
        have := c2 (ixP L g) (by rw [← m2]; exact List.mem_map.mpr ⟨g, hg, rfl⟩)
        rw [kfe g (inL g (Or.inr hg))] at this
        exact this
      have ixL : ∀ g, g ∈ L → ixP (L ++ [f]) g = ixP L g := fun g hg => by unfold ixP; rw [ixN_app _ hg]
      have ixf : ixP (L ++ [f]) f = 400 + nI L.length := by unfold ixP; rw [ixN_new nf]
      refine H N1 N2 h3 eN k1 k2 (ag_tr (ag_tr g1 g2) fun g x k z => w3 g x k (Or.inr fun q => ?_)) (RC_pw hI R2 w3 fun g x q => ?_) (fun g y a1 a2 a3 a4 a5 a6 a7 => ?_) ⟨?_, fun g hg => ?_, ?_, ?_, fun g => ?_, ?_⟩ (fun g hg => ?_)
      · rcases q.1 with q | q <;> (subst q; exact absurd z (by simp [sC]))
      · rcases q with ⟨q | q, y⟩ <;> (rw [q, y]; unfold plX; simp)
      · rw [agw_row w3 (by omega), r2 g y a2, fr1 g y a1 a2 a3 a4 a5 a6 a7]
      · rw [e3, nl, List.length_append]; rfl
      · have r3 : ∀ x, h3 2 x = h2 2 x := fun x => agw_row w3 (by omega)
        rcases List.mem_append.mp hg with hg | hg
        · rw [ixL g hg]; exact PE_co (pL g hg) (r3 _)
        · rw [List.mem_singleton.mp hg, ixf]; exact PE_co pf (r3 _)
      · rw [List.map_append, List.map_cons, ixf]
        rw [show N1.map (ixP (L ++ [f])) = L1 by rw [← m1]; exact List.map_congr_left fun g hg => ixL g (inL g (Or.inl hg)), show N2.map (ixP (L ++ [f])) = L2 by rw [← m2]; exact List.map_congr_left fun g hg => ixL g (inL g (Or.inr hg))]
        exact row
      · have pw := P1.2.2.2.1
        rw [eN] at pw
        have pa := List.pairwise_append.mp pw
        refine List.pairwise_append.mpr ⟨pa.1, List.pairwise_cons.mpr ⟨k2, pa.2.1⟩, fun x hx y hy => ?_⟩
        rcases List.mem_cons.mp hy with q | q
        · rw [q]; exact k1 x hx
        · exact pa.2.2 x hx y q
      · rw [List.mem_append, List.mem_cons, List.mem_append, List.mem_singleton, ← P1.2.2.2.2.1 g, eN, List.mem_append]
        constructor
        · rintro (q | q | q)
          · exact Or.inl (Or.inl q)
          · exact Or.inr q
          · exact Or.inl (Or.inr q)
        · rintro ((q | q) | q)
          · exact Or.inl q
          · exact Or.inr (Or.inr q)
          · exact Or.inr (Or.inl q)
      · have := P1.2.2.2.2.2
        rw [eN, List.length_append] at this
        rw [List.length_append, List.length_cons, List.length_append, List.length_singleton]; omega
      · have r3 : ∀ x, h3 2 x = h2 2 x := fun x => agw_row w3 (by omega)
        have r25 : ∀ x, h3 25 x = h2 25 x := fun x => agw_row w3 (by omega)
        have rp2 : h2 2 (ixP L g) = h1 2 (ixP L g) := agw_row w fun q => ixne g hg q.2
        exact ⟨by rw [r3, rp2]; exact (D1 g hg).1, by rw [r25, r2 25 _ (by decide)]; exact (D1 g hg).2⟩
  have e3 := P.1
  refine b24_0 _ _ _ _ _ _ h0 Q ?_
  rw [e3]
  refine ⟨fun _ => ⟨i4, fun z => ⟨i4, z, ?_⟩, fun z => ?_⟩, fun z => absurd i4.2 z⟩
  · have e1 := (R.2.2.2.2.2.2.2.2.2.1 _ i4).resolve_left fun q => z q.1
    rw [e1]
    exact next h0 ag_rf R (fun _ _ _ _ _ _ _ _ _ => rfl) e1 P (fun _ _ => ⟨rfl, rfl⟩)
  · have fe := (((R.2.2.2.2.2.2.2.2.2.1 _ i4).resolve_right fun q => by rw [z] at q; exact A0.1 q.symm)).2
    have rl := RM_RL R.2.2.2.2.2.2.2.2.2.2.2 ⟨hI.1.2.1.1, CO_4 R.2.2.2.2.1⟩ hI.1.1.1
    refine s_newEvent (400 + nI L.length) (nI L.length) h0 (fun h' => WPc 24 48 [(5, 0), (0, pa A f), (0, A.1 55 f), (0, A.1 56 f), (0, A.1 57 f), (0, A.1 58 f), (0, A.1 59 f), (0, nI L.length)] [(2, (400 + nI L.length)), (0, nI L.length), (33, 0)] h' Q) A0.1 fe rl (b24_48 _ _ _ _ _ _ _ _ _ _ Q ⟨i4, A0.1, i4, ?_⟩)
    rw [up_at]
    refine ⟨A0.1, next _ (ag_up (ag_tr ag_rf nVC) rfl) (RC_newV hI R i4 z) (fun g y a1 a2 a3 a4 a5 a6 a7 => ?_) up_at ⟨?_, fun g hg => PE_co (P.2.1 g hg) ?_, ?_, P.2.2.2⟩ (fun g hg => ⟨?_, ?_⟩)⟩
    · rw [upfam a7]; exact funext fun k => nV_n (fun q => a2 q.1) (fun q => a3 q.1) (fun q => a4 q.1) (fun q => a1 q.1)
    · rw [upfam (by decide), nV_n (by simp) (by simp) (by simp) (by simp)]; exact P.1
    · rw [upfam (by decide)]; exact funext fun k => nV_n (fun q => ixne g hg q.2) (by simp) (by simp) (by simp)
    · rw [upfam (by decide)]
      have : nV (400 + nI L.length) (nI L.length) h0 26 1 = h0 26 1 := funext fun k => nV_n (by simp) (by simp) (by simp) (by simp)
      rw [this]; exact P.2.2.1
    · rw [upfam (by decide)]; exact funext fun k => nV_n (fun q => ixne g hg q.2) (by simp) (by simp) (by simp)
    · rw [upfam (by decide)]; exact funext fun k => nV_n (by simp) (by simp) (fun q => ixne g hg q.2) (by simp)
