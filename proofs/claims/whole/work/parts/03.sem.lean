/-! The abstract machine: values are a tag (0: int, 500: unset, else a family) and an Int32; the heap is family, index, slot. -/
def up (h : HP) (f : Nat) (j k v : Int32) : HP := fun f' j' k' => if f' = f ∧ j' = j ∧ k' = k then v else h f' j' k'
def dfl (f : Nat) (k : Int32) : Int32 := bif Nat.beq (styT f k.toNatClampNeg).1 3 then -1 else 0
def zap (h : HP) (f : Nat) (j : Int32) (n : Int32) : HP := fun f' j' k' =>
  if f' = f ∧ j' = j then (if k' = -1 then 1 else dfl f k')
  else if f' = 0 ∧ j' = 0 ∧ k' = 0 then h 0 0 0 + 1
  else if f' = 0 ∧ j' = 0 ∧ k' = 1 then h 0 0 1 + n
  else h f' j' k'
def slz (h : HP) (f : Nat) (j : Int32) : HP := fun f' j' k' =>
  if f' + 10 = f ∧ j' = j then h f j k' else if f' = f ∧ j' = j then 0 else h f' j' k'
def refTag (t : Nat) : Bool := Nat.blt 0 t && Nat.blt t 500
def rawTag (t : Nat) : Bool := Nat.beq (famT t).1 2
def nulT (f : Nat) : Bool := Nat.beq f 2 || Nat.beq f 4 || Nat.beq f 8
def nn (f : Nat) (j : Int32) (P : Prop) : Prop := bif nulT f then ¬ j = -1 ∧ P else P
def lenT (f : Nat) : Int32 := nI (famT f).2.2
def clT (c : Nat) : u_T := fun k => ((vwCl.getD c ("", (fun _ => ("", "", "", false)), 0)).2.1) k
def okF (f c : Nat) : Bool := Nat.beq (famT f).1 1 && Nat.beq (famT f).2.1 c
def okR (f c : Nat) : Bool := Nat.beq (famT f).1 2 && Nat.beq (famT f).2.1 c
def arT (f c : Nat) : Bool := Nat.beq (famT f).1 3 && Nat.beq (famT f).2.1 c
def arR (f : Nat) : Bool := Nat.beq (famT f).1 3 && Nat.ble 2 (famT f).2.1
def isScr (f : Nat) : Bool := Nat.beq (famT f).1 4
def gv (f k : Nat) (j : Int32) (h : HP) (K : AV → Prop) : Prop := match styT f k with
  | (0, _, _) => K (0, h f j (nI k))
  | (1, _, _) => K (0, h f j (nI k))
  | (2, f', _) => K (f', j)
  | (3, f', _) => K (f', h f j (nI k))
  | (5, f', o) => K (f', o)
  | _ => False
def pv (f k : Nat) (j : Int32) (v : AV) (h : HP) (K : HP → Prop) : Prop := match styT f k with
  | (0, _, _) => bif Nat.beq v.1 0 then K (up h f j (nI k) v.2) else False
  | (1, _, _) => bif Nat.beq v.1 0 then (v.2 = 0 ∨ v.2 = 1) ∧ K (up h f j (nI k) v.2) else False
  | (3, f', _) => bif Nat.beq v.1 f' then K (up h f j (nI k) v.2) else False
  | (4, f', _) => bif Nat.beq v.1 f' then v.2 = j ∧ K (up h f j (nI k) 1) else False
  | (6, f', o) => bif Nat.beq v.1 f' then v.2 = o ∧ K (up h f j (nI k) 1) else False
  | _ => False
def ina (i n : Int32) : Prop := 0 ≤ i ∧ i < n
def swc (x : Int32) (K : Nat → Prop) (d : Int) : List (Int × Int) → Prop
  | [] => K d.toNat
  | (a, t) :: r => (x = Int32.ofInt a → K t.toNat) ∧ (¬ x = Int32.ofInt a → swc x K d r)
def fresh (h : HP) (f : Nat) (j n : Int32) (P : Prop) : Prop := ¬ j = -1 ∧ ¬ h f j (-1) = 1 ∧ h 0 0 0 + 1 ≤ 600000 ∧ h 0 0 1 + n ≤ 7302250 ∧ P
def slzOK (h : HP) (f : Nat) (j : Int32) (P : Prop) : Prop := ¬ h (f - 10) j (-1) = 1 ∧ (fixL f).foldr (fun k P => h f j (nI k) = 1 ∧ P) P
def cmpI (c : ClassFile.Cond) (x y : Int32) (A B : Prop) : Prop := match c with
  | .eq => (x = y → A) ∧ (¬ x = y → B)
  | .ne => (¬ x = y → A) ∧ (x = y → B)
  | .lt => (x < y → A) ∧ (¬ x < y → B)
  | .ge => (y ≤ x → A) ∧ (¬ y ≤ x → B)
  | .gt => (y < x → A) ∧ (¬ y < x → B)
  | .le => (x ≤ y → A) ∧ (¬ x ≤ y → B)
def ii (st : List AV) (K : Int32 → Int32 → List AV → Prop) : Prop := match st with
  | y :: x :: r => bif Nat.beq y.1 0 && Nat.beq x.1 0 then K x.2 y.2 r else False
  | _ => False
def i1 (st : List AV) (K : Int32 → List AV → Prop) : Prop := match st with
  | x :: r => bif Nat.beq x.1 0 then K x.2 r else False
  | _ => False
/-- Math.floorMod, as its bytes have it -/
def fmd (x y : Int32) : Int32 := if 0 ≤ (x ^^^ y) then x - x / y * y else if x - x / y * y = 0 then x - x / y * y else x - x / y * y + y
def plainArgs (as : List AV) : Bool := as.all fun v => Nat.blt v.1 500 && !rawTag v.1
def exec1 (rt : Nat) (i : Instr) (nx : Nat) (ls st : List AV) (h : HP) (k : Nat → List AV → List AV → HP → Prop) (r : Option AV → HP → Prop) (call : Nat → List AV → HP → (Option AV → HP → Prop) → Prop) : Prop :=
  match i with
  | .iconst v => k nx ls ((0, Int32.ofInt v) :: st) h
  | .aconst_null => k nx ls ((2, -1) :: st) h
  | .iload n => (match ls[n]? with
    | some v => bif Nat.beq v.1 0 then k nx ls (v :: st) h else False
    | none => False)
  | .aload n => (match ls[n]? with
    | some v => bif refTag v.1 then k nx ls (v :: st) h else False
    | none => False)
  | .istore n => i1 st fun x st => bif Nat.blt n ls.length && !rawTag (ls.getD n (0, 0)).1 then k nx (ls.set n (0, x)) st h else False
  | .astore n => (match st with
    | v :: st => bif refTag v.1 && !rawTag v.1 && Nat.blt n ls.length && !rawTag (ls.getD n (0, 0)).1 then k nx (ls.set n v) st h else False
    | _ => False)
  | .iinc n c => (match ls[n]? with
    | some v => bif Nat.beq v.1 0 then k nx (ls.set n (0, v.2 + Int32.ofInt c)) st h else False
    | none => False)
  | .dup => (match st with
    | v :: st => k nx ls (v :: v :: st) h
    | _ => False)
  | .dup2 => (match st with
    | v :: w :: st => k nx ls (v :: w :: v :: w :: st) h
    | _ => False)
  | .pop => (match st with
    | _ :: st => k nx ls st h
    | _ => False)
  | .iadd => ii st fun x y st => k nx ls ((0, x + y) :: st) h
  | .isub => ii st fun x y st => k nx ls ((0, x - y) :: st) h
  | .imul => ii st fun x y st => k nx ls ((0, x * y) :: st) h
  | .iand => ii st fun x y st => k nx ls ((0, x &&& y) :: st) h
  | .ixor => ii st fun x y st => k nx ls ((0, x ^^^ y) :: st) h
  | .ior => ii st fun x y st => st.length ≤ 8 ∧ k nx ls ((0, if x < y then y else x) :: st) h
  | .ishl => ii st fun x y st => st.length ≤ 8 ∧ ¬ y = 0 ∧ k nx ls ((0, fmd x y) :: st) h
  | .idiv => ii st fun x y st => ¬ y = 0 ∧ k nx ls ((0, x / y) :: st) h
  | .irem => ii st fun x y st => ¬ y = 0 ∧ k nx ls ((0, x - x / y * y) :: st) h
  | .if_icmp c t => ii st fun x y st => cmpI c x y (k t.toNat ls st h) (k nx ls st h)
  | .ifCond c t => i1 st fun x st => cmpI c x 0 (k t.toNat ls st h) (k nx ls st h)
  | .goto t => k t.toNat ls st h
  | .ifnull t => (match st with
    | v :: st => bif refTag v.1 then (v.2 = -1 → k t.toNat ls st h) ∧ (¬ v.2 = -1 → k nx ls st h) else False
    | _ => False)
  | .ifnonnull t => (match st with
    | v :: st => bif refTag v.1 then (¬ v.2 = -1 → k t.toNat ls st h) ∧ (v.2 = -1 → k nx ls st h) else False
    | _ => False)
  | .if_acmp c t => (match st with
    | y :: x :: st => bif refTag x.1 && Nat.beq x.1 y.1 then (match c with
      | .eq => (x.2 = y.2 → k t.toNat ls st h) ∧ (¬ x.2 = y.2 → k nx ls st h)
      | .ne => (¬ x.2 = y.2 → k t.toNat ls st h) ∧ (x.2 = y.2 → k nx ls st h)) else False
    | _ => False)
  | .lookupswitch d ps => i1 st fun x st => swc x (fun t => k t ls st h) d ps.toList
  | .getfield n => (match st with
    | v :: st => bif okF v.1 (n / 100) then nn v.1 v.2 (gv v.1 (n % 100) v.2 h fun w => k nx ls (w :: st) h) else False
    | _ => False)
  | .putfield n => (match st with
    | w :: v :: st => bif okF v.1 (n / 100) && !(clT (n / 100) (n % 100)).2.2.2 then nn v.1 v.2 (pv v.1 (n % 100) v.2 w h fun h => k nx ls st h)
      else bif okR v.1 (n / 100) then pv v.1 (n % 100) v.2 w h fun h => k nx ls st h else False
    | _ => False)
  | .iaload => (match st with
    | x :: v :: st => bif Nat.beq x.1 0 && arT v.1 0 then ina x.2 (lenT v.1) ∧ k nx ls ((0, h v.1 v.2 x.2) :: st) h
      else bif Nat.beq x.1 0 && isScr v.1 then ina x.2 (h v.1 v.2 (-2)) ∧ k nx ls ((0, h v.1 v.2 x.2) :: st) h else False
    | _ => False)
  | .baload => (match st with
    | x :: v :: st => bif Nat.beq x.1 0 && arT v.1 1 then ina x.2 (lenT v.1) ∧ k nx ls ((0, h v.1 v.2 x.2) :: st) h else False
    | _ => False)
  | .aaload => (match st with
    | x :: v :: st => bif Nat.beq x.1 0 && arR v.1 then ina x.2 (lenT v.1) ∧ k nx ls (((styT v.1 0).2.1, h v.1 v.2 x.2) :: st) h else False
    | _ => False)
  | .iastore => (match st with
    | w :: x :: v :: st => bif Nat.beq w.1 0 && Nat.beq x.1 0 && arT v.1 0 then ina x.2 (lenT v.1) ∧ k nx ls st (up h v.1 v.2 x.2 w.2) else False
    | _ => False)
  | .bastore => (match st with
    | w :: x :: v :: st => bif Nat.beq w.1 0 && Nat.beq x.1 0 && arT v.1 1 then ina x.2 (lenT v.1) ∧ (w.2 = 0 ∨ w.2 = 1) ∧ k nx ls st (up h v.1 v.2 x.2 w.2) else False
    | _ => False)
  | .aastore => (match st with
    | w :: x :: v :: st => bif Nat.beq x.1 0 && arR v.1 && Nat.beq w.1 (styT v.1 0).2.1 then ina x.2 (lenT v.1) ∧ ¬ w.2 = -1 ∧ k nx ls st (up h v.1 v.2 x.2 w.2) else False
    | _ => False)
  | .arraylength => (match st with
    | v :: st => bif isScr v.1 then k nx ls ((0, h v.1 v.2 (-2)) :: st) h else False
    | _ => False)
  | .new n => fresh h (siteF n + 10) (siteP n ls h) (nI (famT (siteF n + 10)).2.2) (k nx ls ((siteF n + 10, siteP n ls h) :: st) (zap h (siteF n + 10) (siteP n ls h) (nI (famT (siteF n + 10)).2.2)))
  | .anewarray f => i1 st fun x st => bif Nat.beq (famT f).1 3 then x = lenT f ∧ fresh h f (lv0 ls) (lenT f) (k nx ls ((f, lv0 ls) :: st) (zap h f (lv0 ls) (lenT f))) else False
  | .pop2 => (match st with
    | [v] => bif rawTag v.1 then k nx ls [] h else False
    | _ => False)
  | .invokevirtual m => (match (st.take (nargsT m)).reverse with
    | v :: as => bif Nat.beq v.1 (rcvT m) && Nat.beq (kindT m) 1 && Nat.beq (v :: as).length (nargsT m) && plainArgs (v :: as) && Nat.ble (st.drop (nargsT m)).length 8 then
        nn v.1 v.2 (call m (v :: as) h fun w h' => k nx ls (w.toList ++ st.drop (nargsT m)) h') else False
    | _ => False)
  | .invokestatic m => bif Nat.beq (kindT m) 0 && Nat.beq (st.take (nargsT m)).length (nargsT m) && plainArgs (st.take (nargsT m)) && Nat.ble (st.drop (nargsT m)).length 8 then
        call m (st.take (nargsT m)).reverse h fun w h' => k nx ls (w.toList ++ st.drop (nargsT m)) h' else False
  | .invokespecial m => (match (st.take (nargsT m)).reverse, st.drop (nargsT m) with
    | v :: as, u :: rest => bif Nat.beq v.1 (rcvT m) && Nat.beq u.1 v.1 && Nat.beq (kindT m) 2 && Nat.beq (v :: as).length (nargsT m) && plainArgs as && Nat.ble (u :: rest).length 8 && rawTag v.1 && rest.all (fun w => !Nat.beq w.1 v.1) && ls.all (fun w => !Nat.beq w.1 v.1) then
        u.2 = v.2 ∧ call m (v :: as) h fun w h' => w = none ∧ slzOK h' v.1 v.2 (k nx ls ((v.1 - 10, v.2) :: rest) (slz h' v.1 v.2)) else False
    | _, _ => False)
  | .ireturn => (match st with
    | [v] => bif Nat.beq v.1 0 && Nat.beq rt 1 then r (some v) h else bif Nat.beq v.1 0 && Nat.beq rt 2 then (v.2 = 0 ∨ v.2 = 1) ∧ r (some v) h else False
    | _ => False)
  | .areturn => (match st with
    | [v] => bif refTag v.1 && !rawTag v.1 && Nat.beq rt 3 then r (some v) h else False
    | _ => False)
  | .return_ => (match st with
    | [] => bif Nat.beq rt 0 then r none h else False
    | _ => False)
  | _ => False
def padL (m : Nat) (as : List AV) : List AV := as ++ List.replicate (maxLT m - as.length) (500, 0)
abbrev XT : Type := Nat → Nat → List AV → List AV → HP → (Option AV → HP → Prop) → Prop
def stepX (X : XT) (m pc : Nat) (ls st : List AV) (h : HP) (Q : Option AV → HP → Prop) : Prop := match cX m pc with
  | none => False
  | some (nx, i) => exec1 (rtyT m) i nx ls st h (fun pc ls st h => X m pc ls st h Q) Q (fun m' as h K => X m' 0 (padL m' as) [] h K)
def XMon (X : XT) : Prop := ∀ m pc ls st h Q Q', (∀ v h, Q v h → Q' v h) → X m pc ls st h Q → X m pc ls st h Q'
/-- the least relation that is closed under steps: the method comes to an end with Q -/
def WPc (m pc : Nat) (ls st : List AV) (h : HP) (Q : Option AV → HP → Prop) : Prop := ∀ X : XT, XMon X → (∀ m pc ls st h Q, stepX X m pc ls st h Q → X m pc ls st h Q) → X m pc ls st h Q
def WPm (m : Nat) (as : List AV) (h : HP) (Q : Option AV → HP → Prop) : Prop := WPc m 0 (padL m as) [] h Q
theorem WPc.mono {m pc : Nat} {ls st : List AV} {h : HP} {Q Q' : Option AV → HP → Prop} (H : WPc m pc ls st h Q) (hq : ∀ v h, Q v h → Q' v h) : WPc m pc ls st h Q' := fun X hm hs => hm _ _ _ _ _ _ _ hq (H X hm hs)
theorem WPm.mono {m : Nat} {as : List AV} {h : HP} {Q Q' : Option AV → HP → Prop} (H : WPm m as h Q) (hq : ∀ v h, Q v h → Q' v h) : WPm m as h Q' := WPc.mono H hq
theorem cF {b : Bool} {P P' : Prop} (f : P → P') (H : bif b then P else False) : bif b then P' else False := by
  cases b with
  | true => exact f H
  | false => exact H
theorem i1_mono {st : List AV} {K K' : Int32 → List AV → Prop} (f : ∀ x r, K x r → K' x r) (H : i1 st K) : i1 st K' := by
  match st, H with
  | x :: r, H => exact cF (f _ _) H
theorem ii_mono {st : List AV} {K K' : Int32 → Int32 → List AV → Prop} (f : ∀ x y r, K x y r → K' x y r) (H : ii st K) : ii st K' := by
  match st, H with
  | y :: x :: r, H => exact cF (f _ _ _) H
theorem cmpI_mono {c : ClassFile.Cond} {x y : Int32} {A B A' B' : Prop} (f : A → A') (g : B → B') (H : cmpI c x y A B) : cmpI c x y A' B' := by
  cases c <;> exact ⟨fun q => f (H.1 q), fun q => g (H.2 q)⟩
theorem nn_mono {f : Nat} {j : Int32} {P P' : Prop} (g : P → P') (H : nn f j P) : nn f j P' := by
  unfold nn at *
  cases h : nulT f with
  | true => rw [h] at H; exact ⟨H.1, g H.2⟩
  | false => rw [h] at H; exact g H
theorem gv_mono {f k : Nat} {j : Int32} {h : HP} {K K' : AV → Prop} (g : ∀ v, K v → K' v) (H : gv f k j h K) : gv f k j h K' := by
  unfold gv at *
  split at H <;> first | exact g _ H | exact H
theorem pv_mono {f k : Nat} {j : Int32} {v : AV} {h : HP} {K K' : HP → Prop} (g : ∀ v, K v → K' v) (H : pv f k j v h K) : pv f k j v h K' := by
  unfold pv at *
  split at H <;> first | exact cF (fun q => g _ q) H | exact cF (fun q => ⟨q.1, g _ q.2⟩) H | exact H
theorem swc_mono {x : Int32} {K K' : Nat → Prop} {d : Int} (g : ∀ v, K v → K' v) : ∀ {l : List (Int × Int)}, swc x K d l → swc x K' d l
  | [], H => g _ H
  | (a, t) :: r, H => ⟨fun q => g _ (H.1 q), fun q => swc_mono g (H.2 q)⟩
theorem fresh_mono {h : HP} {f : Nat} {j n : Int32} {P P' : Prop} (g : P → P') (H : fresh h f j n P) : fresh h f j n P' := ⟨H.1, H.2.1, H.2.2.1, H.2.2.2.1, g H.2.2.2.2⟩
theorem fold_mono {A : Nat → Prop} {P P' : Prop} (g : P → P') : ∀ {l : List Nat}, l.foldr (fun k P => A k ∧ P) P → l.foldr (fun k P => A k ∧ P) P'
  | [], H => g H
  | _ :: _, H => ⟨H.1, fold_mono g H.2⟩
theorem slzOK_mono {h : HP} {f : Nat} {j : Int32} {P P' : Prop} (g : P → P') (H : slzOK h f j P) : slzOK h f j P' := ⟨H.1, fold_mono g H.2⟩
set_option maxHeartbeats 4000000 in
theorem exec1_mono {rt : Nat} {i : Instr} {nx : Nat} {ls st : List AV} {h : HP} {k k' : Nat → List AV → List AV → HP → Prop} {r r' : Option AV → HP → Prop} {call call' : Nat → List AV → HP → (Option AV → HP → Prop) → Prop}
    (hk : ∀ pc ls st h, k pc ls st h → k' pc ls st h) (hr : ∀ v h, r v h → r' v h) (hc : ∀ m as h K K', (∀ v h, K v h → K' v h) → call m as h K → call' m as h K') (H : exec1 rt i nx ls st h k r call) : exec1 rt i nx ls st h k' r' call' := by
  cases i
  case iconst v => exact hk _ _ _ _ H
  case aconst_null => exact hk _ _ _ _ H
  case iload n =>
    simp only [exec1] at H ⊢
    split at H
    · exact cF (hk _ _ _ _) H
    · exact H
  case aload n =>
    simp only [exec1] at H ⊢
    split at H
    · exact cF (hk _ _ _ _) H
    · exact H
  case istore n =>
    simp only [exec1] at H ⊢
    exact i1_mono (fun _ _ => cF (hk _ _ _ _)) H
  case astore n =>
    match st, H with
    | v :: st, H => exact cF (hk _ _ _ _) H
  case iinc n c =>
    simp only [exec1] at H ⊢
    split at H
    · exact cF (hk _ _ _ _) H
    · exact H
  case dup =>
    match st, H with
    | v :: st, H => exact hk _ _ _ _ H
  case dup2 =>
    match st, H with
    | v :: w :: st, H => exact hk _ _ _ _ H
  case pop =>
    match st, H with
    | v :: st, H => exact hk _ _ _ _ H
  case iadd =>
    simp only [exec1] at H ⊢
    exact ii_mono (fun _ _ _ => hk _ _ _ _) H
  case isub =>
    simp only [exec1] at H ⊢
    exact ii_mono (fun _ _ _ => hk _ _ _ _) H
  case imul =>
    simp only [exec1] at H ⊢
    exact ii_mono (fun _ _ _ => hk _ _ _ _) H
  case iand =>
    simp only [exec1] at H ⊢
    exact ii_mono (fun _ _ _ => hk _ _ _ _) H
  case ixor =>
    simp only [exec1] at H ⊢
    exact ii_mono (fun _ _ _ => hk _ _ _ _) H
  case ior =>
    simp only [exec1] at H ⊢
    exact ii_mono (fun _ _ _ q => ⟨q.1, hk _ _ _ _ q.2⟩) H
  case ishl =>
    simp only [exec1] at H ⊢
    exact ii_mono (fun _ _ _ q => ⟨q.1, q.2.1, hk _ _ _ _ q.2.2⟩) H
  case idiv =>
    simp only [exec1] at H ⊢
    exact ii_mono (fun _ _ _ q => ⟨q.1, hk _ _ _ _ q.2⟩) H
  case irem =>
    simp only [exec1] at H ⊢
    exact ii_mono (fun _ _ _ q => ⟨q.1, hk _ _ _ _ q.2⟩) H
  case if_icmp c t =>
    simp only [exec1] at H ⊢
    exact ii_mono (fun _ _ _ => cmpI_mono (hk _ _ _ _) (hk _ _ _ _)) H
  case ifCond c t =>
    simp only [exec1] at H ⊢
    exact i1_mono (fun _ _ => cmpI_mono (hk _ _ _ _) (hk _ _ _ _)) H
  case goto t => exact hk _ _ _ _ H
  case ifnull t =>
    match st, H with
    | v :: st, H => exact cF (fun q => ⟨fun a => hk _ _ _ _ (q.1 a), fun a => hk _ _ _ _ (q.2 a)⟩) H
  case ifnonnull t =>
    match st, H with
    | v :: st, H => exact cF (fun q => ⟨fun a => hk _ _ _ _ (q.1 a), fun a => hk _ _ _ _ (q.2 a)⟩) H
  case if_acmp c t =>
    match st, H with
    | y :: x :: st, H =>
      cases c with
      | eq => exact cF (fun q => ⟨fun a => hk _ _ _ _ (q.1 a), fun a => hk _ _ _ _ (q.2 a)⟩) H
      | ne => exact cF (fun q => ⟨fun a => hk _ _ _ _ (q.1 a), fun a => hk _ _ _ _ (q.2 a)⟩) H
  case lookupswitch d ps =>
    simp only [exec1] at H ⊢
    exact i1_mono (fun _ _ => swc_mono (fun _ => hk _ _ _ _)) H
  case getfield n =>
    match st, H with
    | v :: st, H => exact cF (nn_mono (gv_mono fun _ => hk _ _ _ _)) H
  case putfield n =>
    match st, H with
    | w :: v :: st, H =>
      simp only [exec1] at H ⊢
      cases hb : (okF v.1 (n / 100) && !(clT (n / 100) (n % 100)).2.2.2) with
      | true =>
        simp only [hb, cond_true] at H ⊢
        exact nn_mono (pv_mono fun _ => hk _ _ _ _) H
      | false =>
        simp only [hb, cond_false] at H ⊢
        exact cF (pv_mono fun _ => hk _ _ _ _) H
  case iaload =>
    match st, H with
    | x :: v :: st, H =>
      simp only [exec1] at H ⊢
      cases hb : (Nat.beq x.1 0 && arT v.1 0) with
      | true =>
        simp only [hb, cond_true] at H ⊢
        exact ⟨H.1, hk _ _ _ _ H.2⟩
      | false =>
        simp only [hb, cond_false] at H ⊢
        exact cF (fun q => ⟨q.1, hk _ _ _ _ q.2⟩) H
  case baload =>
    match st, H with
    | x :: v :: st, H => exact cF (fun q => ⟨q.1, hk _ _ _ _ q.2⟩) H
  case aaload =>
    match st, H with
    | x :: v :: st, H => exact cF (fun q => ⟨q.1, hk _ _ _ _ q.2⟩) H
  case iastore =>
    match st, H with
    | w :: x :: v :: st, H => exact cF (fun q => ⟨q.1, hk _ _ _ _ q.2⟩) H
  case bastore =>
    match st, H with
    | w :: x :: v :: st, H => exact cF (fun q => ⟨q.1, q.2.1, hk _ _ _ _ q.2.2⟩) H
  case aastore =>
    match st, H with
    | w :: x :: v :: st, H => exact cF (fun q => ⟨q.1, q.2.1, hk _ _ _ _ q.2.2⟩) H
  case arraylength =>
    match st, H with
    | v :: st, H => exact cF (hk _ _ _ _) H
  case new n =>
    simp only [exec1] at H ⊢
    exact fresh_mono (hk _ _ _ _) H
  case anewarray f =>
    simp only [exec1] at H ⊢
    exact i1_mono (fun _ _ => cF fun q => ⟨q.1, fresh_mono (hk _ _ _ _) q.2⟩) H
  case pop2 =>
    match st, H with
    | [v], H => exact cF (hk _ _ _ _) H
  case invokevirtual m =>
    simp only [exec1] at H ⊢
    split at H
    · exact cF (nn_mono (hc _ _ _ _ _ fun _ _ => hk _ _ _ _)) H
    · exact H
  case invokestatic m => exact cF (hc _ _ _ _ _ fun _ _ => hk _ _ _ _) H
  case invokespecial m =>
    simp only [exec1] at H ⊢
    split at H
    · exact cF (fun q => ⟨q.1, hc _ _ _ _ _ (fun _ _ z => ⟨z.1, slzOK_mono (hk _ _ _ _) z.2⟩) q.2⟩) H
    · exact H
  case ireturn =>
    match st, H with
    | [v], H =>
      simp only [exec1] at H ⊢
      cases hb : (Nat.beq v.1 0 && Nat.beq rt 1) with
      | true =>
        simp only [hb, cond_true] at H ⊢
        exact hr _ _ H
      | false =>
        simp only [hb, cond_false] at H ⊢
        exact cF (fun q => ⟨q.1, hr _ _ q.2⟩) H
  case areturn =>
    match st, H with
    | [v], H => exact cF (hr _ _) H
  case return_ =>
    match st, H with
    | [], H => exact cF (hr _ _) H
  all_goals exact H
theorem stepX_mono {X Y : XT} (hY : XMon Y) (h : ∀ m pc ls st h Q, X m pc ls st h Q → Y m pc ls st h Q) {m pc : Nat} {ls st : List AV} {hp : HP} {Q : Option AV → HP → Prop} (H : stepX X m pc ls st hp Q) : stepX Y m pc ls st hp Q := by
  unfold stepX at *
  split at H
  · exact H
  · exact exec1_mono (fun _ _ _ _ => h _ _ _ _ _ _) (fun _ _ q => q) (fun _ _ _ _ _ hK q => hY _ _ _ _ _ _ _ hK (h _ _ _ _ _ _ q)) H
theorem WPc.fold {m pc : Nat} {ls st : List AV} {h : HP} {Q : Option AV → HP → Prop} (H : stepX WPc m pc ls st h Q) : WPc m pc ls st h Q := fun X hm hs => hs _ _ _ _ _ _ (stepX_mono hm (fun _ _ _ _ _ _ q => q X hm hs) H)
def wpB (cuts : List Nat) : Nat → XT
  | 0, m, pc, ls, st, h, Q => WPc m pc ls st h Q
  | n + 1, m, pc, ls, st, h, Q => bif cuts.contains pc then WPc m pc ls st h Q else match cX m pc with
    | none => False
    | some (nx, i) => exec1 (rtyT m) i nx ls st h (fun pc ls st h => wpB cuts n m pc ls st h Q) Q WPm
theorem wpB_sound (cuts : List Nat) : ∀ (n : Nat) {m pc : Nat} {ls st : List AV} {h : HP} {Q : Option AV → HP → Prop}, wpB cuts n m pc ls st h Q → WPc m pc ls st h Q
  | 0, _, _, _, _, _, _, H => H
  | n + 1, m, pc, ls, st, h, Q, H => by
    unfold wpB at H
    cases hb : cuts.contains pc with
    | true => rw [hb] at H; exact H
    | false =>
      rw [hb] at H
      refine WPc.fold ?_
      unfold stepX
      simp only [cond_false] at H
      split at H
      · exact H
      · exact exec1_mono (fun _ _ _ _ => wpB_sound cuts n) (fun _ _ q => q) (fun _ _ _ _ _ hK q => WPm.mono q hK) H
/-- a step first, then blocks up to the cuts -/
def wpS (cuts : List Nat) (n m pc : Nat) (ls st : List AV) (h : HP) (Q : Option AV → HP → Prop) : Prop := match cX m pc with
  | none => False
  | some (nx, i) => exec1 (rtyT m) i nx ls st h (fun pc ls st h => wpB cuts n m pc ls st h Q) Q WPm
theorem wpS_sound (cuts : List Nat) (n : Nat) {m pc : Nat} {ls st : List AV} {h : HP} {Q : Option AV → HP → Prop} (H : wpS cuts n m pc ls st h Q) : WPc m pc ls st h Q := by
  refine WPc.fold ?_
  unfold wpS at H
  unfold stepX
  split at H
  · exact H
  · exact exec1_mono (fun _ _ _ _ => wpB_sound cuts n) (fun _ _ q => q) (fun _ _ _ _ _ hK q => WPm.mono q hK) H
