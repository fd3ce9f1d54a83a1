/-! The abstract machine: values are a tag (0: int, 500: unset, else a family) and an Int32; the heap is family, index, slot. -/
def up (h : HP) (f : Nat) (j k v : Int32) : HP := fun f' j' k' => if f' = f ∧ j' = j ∧ k' = k then v else h f' j' k'
def dfl (f : Nat) (k : Int32) : Int32 := bif Nat.beq (styT f k.toNatClampNeg).1 3 then -1 else 0
def zap (h : HP) (f : Nat) (j : Int32) (n : Int32) : HP := fun f' j' k' =>
  if f' = f ∧ j' = j then (if k' = -1 then 1 else dfl f k')
  else if f' = 0 ∧ j' = 0 ∧ k' = 0 then h 0 0 0 + 1
  else if f' = 0 ∧ j' = 0 ∧ k' = 1 then h 0 0 1 + n
  else h f' j' k'
def slz (h : HP) (f : Nat) (j : Int32) : HP := fun f' j' k' =>
  if f' + 10 = f ∧ j' = j then h f j k' else if f' = f ∧ j' = j then 0 else h f' j' k'
def refTag (t : Nat) : Bool := Nat.blt 0 t && Nat.blt t 500
def rawTag (t : Nat) : Bool := Nat.beq (famT t).1 2
def nulT (f : Nat) : Bool := Nat.beq f 2 || Nat.beq f 4 || Nat.beq f 8
def nn (f : Nat) (j : Int32) (P : Prop) : Prop := bif nulT f then ¬ j = -1 ∧ P else P
def lenT (f : Nat) : Int32 := nI (famT f).2.2
def clT (c : Nat) : u_T := fun k => ((vwCl.getD c ("", (fun _ => ("", "", "", false)), 0)).2.1) k
def okF (f c : Nat) : Bool := Nat.beq (famT f).1 1 && Nat.beq (famT f).2.1 c
def okR (f c : Nat) : Bool := Nat.beq (famT f).1 2 && Nat.beq (famT f).2.1 c
def arT (f c : Nat) : Bool := Nat.beq (famT f).1 3 && Nat.beq (famT f).2.1 c
def arR (f : Nat) : Bool := Nat.beq (famT f).1 3 && Nat.ble 2 (famT f).2.1
def isScr (f : Nat) : Bool := Nat.beq (famT f).1 4
def gv (f k : Nat) (j : Int32) (h : HP) (K : AV → Prop) : Prop := match styT f k with
  | (0, _, _) => K (0, h f j (nI k))
  | (1, _, _) => K (0, h f j (nI k))
  | (2, f', _) => K (f', j)
  | (3, f', _) => K (f', h f j (nI k))
  | (5, f', o) => K (f', o)
  | _ => False
def pv (f k : Nat) (j : Int32) (v : AV) (h : HP) (K : HP → Prop) : Prop := match styT f k with
  | (0, _, _) => bif Nat.beq v.1 0 then K (up h f j (nI k) v.2) else False
  | (1, _, _) => bif Nat.beq v.1 0 then (v.2 = 0 ∨ v.2 = 1) ∧ K (up h f j (nI k) v.2) else False
  | (3, f', _) => bif Nat.beq v.1 f' then K (up h f j (nI k) v.2) else False
  | (4, f', _) => bif Nat.beq v.1 f' then v.2 = j ∧ K (up h f j (nI k) 1) else False
  | (6, f', o) => bif Nat.beq v.1 f' then v.2 = o ∧ K (up h f j (nI k) 1) else False
  | _ => False
def ina (i n : Int32) : Prop := 0 ≤ i ∧ i < n
def swc (x : Int32) (K : Nat → Prop) (d : Int) : List (Int × Int) → Prop
  | [] => K d.toNat
  | (a, t) :: r => (x = Int32.ofInt a → K t.toNat) ∧ (¬ x = Int32.ofInt a → swc x K d r)
def fresh (h : HP) (f : Nat) (j n : Int32) (P : Prop) : Prop := ¬ j = -1 ∧ ¬ h f j (-1) = 1 ∧ h 0 0 0 + 1 ≤ 600000 ∧ h 0 0 1 + n ≤ 7302250 ∧ P
def slzOK (h : HP) (f : Nat) (j : Int32) (P : Prop) : Prop := ¬ h (f - 10) j (-1) = 1 ∧ (fixL f).foldr (fun k P => h f j (nI k) = 1 ∧ P) P
def cmpI (c : ClassFile.Cond) (x y : Int32) (A B : Prop) : Prop := match c with
  | .eq => (x = y → A) ∧ (¬ x = y → B)
  | .ne => (¬ x = y → A) ∧ (x = y → B)
  | .lt => (x < y → A) ∧ (¬ x < y → B)
  | .ge => (y ≤ x → A) ∧ (¬ y ≤ x → B)
  | .gt => (y < x → A) ∧ (¬ y < x → B)
  | .le => (x ≤ y → A) ∧ (¬ x ≤ y → B)
def ii (st : List AV) (K : Int32 → Int32 → List AV → Prop) : Prop := match st with
  | y :: x :: r => bif Nat.beq y.1 0 && Nat.beq x.1 0 then K x.2 y.2 r else False
  | _ => False
def i1 (st : List AV) (K : Int32 → List AV → Prop) : Prop := match st with
  | x :: r => bif Nat.beq x.1 0 then K x.2 r else False
  | _ => False
def plainArgs (as : List AV) : Bool := as.all fun v => Nat.blt v.1 500 && !rawTag v.1
def exec1 (rt : Nat) (i : Instr) (nx : Nat) (ls st : List AV) (h : HP) (k : Nat → List AV → List AV → HP → Prop) (r : Option AV → HP → Prop) (call : Nat → List AV → HP → (Option AV → HP → Prop) → Prop) : Prop :=
  match i with
  | .iconst v => k nx ls ((0, Int32.ofInt v) :: st) h
  | .aconst_null => k nx ls ((2, -1) :: st) h
  | .iload n => (match ls[n]? with
    | some v => bif Nat.beq v.1 0 then k nx ls (v :: st) h else False
    | none => False)
  | .aload n => (match ls[n]? with
    | some v => bif refTag v.1 then k nx ls (v :: st) h else False
    | none => False)
  | .istore n => i1 st fun x st => bif Nat.blt n ls.length then k nx (ls.set n (0, x)) st h else False
  | .astore n => (match st with
    | v :: st => bif refTag v.1 && !rawTag v.1 && Nat.blt n ls.length then k nx (ls.set n v) st h else False
    | _ => False)
  | .iinc n c => (match ls[n]? with
    | some v => bif Nat.beq v.1 0 then k nx (ls.set n (0, v.2 + Int32.ofInt c)) st h else False
    | none => False)
  | .dup => (match st with
    | v :: st => k nx ls (v :: v :: st) h
    | _ => False)
  | .dup2 => (match st with
    | v :: w :: st => k nx ls (v :: w :: v :: w :: st) h
    | _ => False)
  | .pop => (match st with
    | _ :: st => k nx ls st h
    | _ => False)
  | .iadd => ii st fun x y st => k nx ls ((0, x + y) :: st) h
  | .isub => ii st fun x y st => k nx ls ((0, x - y) :: st) h
  | .imul => ii st fun x y st => k nx ls ((0, x * y) :: st) h
  | .iand => ii st fun x y st => k nx ls ((0, x &&& y) :: st) h
  | .ixor => ii st fun x y st => k nx ls ((0, x ^^^ y) :: st) h
  | .idiv => ii st fun x y st => ¬ y = 0 ∧ k nx ls ((0, x / y) :: st) h
  | .irem => ii st fun x y st => ¬ y = 0 ∧ k nx ls ((0, x - x / y * y) :: st) h
  | .if_icmp c t => ii st fun x y st => cmpI c x y (k t.toNat ls st h) (k nx ls st h)
  | .ifCond c t => i1 st fun x st => cmpI c x 0 (k t.toNat ls st h) (k nx ls st h)
  | .goto t => k t.toNat ls st h
  | .ifnull t => (match st with
    | v :: st => bif refTag v.1 then (v.2 = -1 → k t.toNat ls st h) ∧ (¬ v.2 = -1 → k nx ls st h) else False
    | _ => False)
  | .ifnonnull t => (match st with
    | v :: st => bif refTag v.1 then (¬ v.2 = -1 → k t.toNat ls st h) ∧ (v.2 = -1 → k nx ls st h) else False
    | _ => False)
  | .if_acmp c t => (match st with
    | y :: x :: st => bif refTag x.1 && Nat.beq x.1 y.1 then (match c with
      | .eq => (x.2 = y.2 → k t.toNat ls st h) ∧ (¬ x.2 = y.2 → k nx ls st h)
      | .ne => (¬ x.2 = y.2 → k t.toNat ls st h) ∧ (x.2 = y.2 → k nx ls st h)) else False
    | _ => False)
  | .lookupswitch d ps => i1 st fun x st => swc x (fun t => k t ls st h) d ps.toList
  | .getfield n => (match st with
    | v :: st => bif okF v.1 (n / 100) then nn v.1 v.2 (gv v.1 (n % 100) v.2 h fun w => k nx ls (w :: st) h) else False
    | _ => False)
  | .putfield n => (match st with
    | w :: v :: st => bif okF v.1 (n / 100) && !(clT (n / 100) (n % 100)).2.2.2 then nn v.1 v.2 (pv v.1 (n % 100) v.2 w h fun h => k nx ls st h)
      else bif okR v.1 (n / 100) then pv v.1 (n % 100) v.2 w h fun h => k nx ls st h else False
    | _ => False)
  | .iaload => (match st with
    | x :: v :: st => bif Nat.beq x.1 0 && arT v.1 0 then ina x.2 (lenT v.1) ∧ k nx ls ((0, h v.1 v.2 x.2) :: st) h
      else bif Nat.beq x.1 0 && isScr v.1 then ina x.2 (h v.1 v.2 (-2)) ∧ k nx ls ((0, h v.1 v.2 x.2) :: st) h else False
    | _ => False)
  | .baload => (match st with
    | x :: v :: st => bif Nat.beq x.1 0 && arT v.1 1 then ina x.2 (lenT v.1) ∧ k nx ls ((0, h v.1 v.2 x.2) :: st) h else False
    | _ => False)
  | .aaload => (match st with
    | x :: v :: st => bif Nat.beq x.1 0 && arR v.1 then ina x.2 (lenT v.1) ∧ k nx ls (((styT v.1 0).2.1, h v.1 v.2 x.2) :: st) h else False
    | _ => False)
  | .iastore => (match st with
    | w :: x :: v :: st => bif Nat.beq w.1 0 && Nat.beq x.1 0 && arT v.1 0 then ina x.2 (lenT v.1) ∧ k nx ls st (up h v.1 v.2 x.2 w.2) else False
    | _ => False)
  | .bastore => (match st with
    | w :: x :: v :: st => bif Nat.beq w.1 0 && Nat.beq x.1 0 && arT v.1 1 then ina x.2 (lenT v.1) ∧ (w.2 = 0 ∨ w.2 = 1) ∧ k nx ls st (up h v.1 v.2 x.2 w.2) else False
    | _ => False)
  | .aastore => (match st with
    | w :: x :: v :: st => bif Nat.beq x.1 0 && arR v.1 && Nat.beq w.1 (styT v.1 0).2.1 then ina x.2 (lenT v.1) ∧ ¬ w.2 = -1 ∧ k nx ls st (up h v.1 v.2 x.2 w.2) else False
    | _ => False)
  | .arraylength => (match st with
    | v :: st => bif isScr v.1 then k nx ls ((0, h v.1 v.2 (-2)) :: st) h else False
    | _ => False)
  | .new n => fresh h (siteF n + 10) (siteP n ls h) (nI (famT (siteF n + 10)).2.2) (k nx ls ((siteF n + 10, siteP n ls h) :: st) (zap h (siteF n + 10) (siteP n ls h) (nI (famT (siteF n + 10)).2.2)))
  | .anewarray f => i1 st fun x st => bif Nat.beq (famT f).1 3 then x = lenT f ∧ fresh h f (lv0 ls) (lenT f) (k nx ls ((f, lv0 ls) :: st) (zap h f (lv0 ls) (lenT f))) else False
  | .pop2 => (match st with
    | [v] => bif rawTag v.1 then k nx ls [] h else False
    | _ => False)
  | .invokevirtual m => (match (st.take (nargsT m)).reverse with
    | v :: as => bif Nat.beq v.1 (rcvT m) && Nat.beq (kindT m) 1 && Nat.beq (v :: as).length (nargsT m) && plainArgs (v :: as) && Nat.ble (st.drop (nargsT m)).length 8 then
        nn v.1 v.2 (call m (v :: as) h fun w h' => k nx ls (w.toList ++ st.drop (nargsT m)) h') else False
    | _ => False)
  | .invokestatic m => bif Nat.beq (kindT m) 0 && Nat.beq (st.take (nargsT m)).length (nargsT m) && plainArgs (st.take (nargsT m)) && Nat.ble (st.drop (nargsT m)).length 8 then
        call m (st.take (nargsT m)).reverse h fun w h' => k nx ls (w.toList ++ st.drop (nargsT m)) h' else False
  | .invokespecial m => (match (st.take (nargsT m)).reverse, st.drop (nargsT m) with
    | v :: as, u :: rest => bif Nat.beq v.1 (rcvT m) && Nat.beq u.1 v.1 && Nat.beq (kindT m) 2 && Nat.beq (v :: as).length (nargsT m) && plainArgs as && Nat.ble (u :: rest).length 8 && rawTag v.1 && rest.all (fun w => !Nat.beq w.1 v.1) && ls.all (fun w => !Nat.beq w.1 v.1) then
        u.2 = v.2 ∧ call m (v :: as) h fun w h' => w = none ∧ slzOK h' v.1 v.2 (k nx ls ((v.1 - 10, v.2) :: rest) (slz h' v.1 v.2)) else False
    | _, _ => False)
  | .ireturn => (match st with
    | [v] => bif Nat.beq v.1 0 && Nat.beq rt 1 then r (some v) h else bif Nat.beq v.1 0 && Nat.beq rt 2 then (v.2 = 0 ∨ v.2 = 1) ∧ r (some v) h else False
    | _ => False)
  | .areturn => (match st with
    | [v] => bif refTag v.1 && !rawTag v.1 && Nat.beq rt 3 then r (some v) h else False
    | _ => False)
  | .return_ => (match st with
    | [] => bif Nat.beq rt 0 then r none h else False
    | _ => False)
  | _ => False
def padL (m : Nat) (as : List AV) : List AV := as ++ List.replicate (maxLT m - as.length) (500, 0)
def wp : Nat → Nat → Nat → List AV → List AV → HP → (Option AV → HP → Prop) → Prop
  | 0, _, _, _, _, _, _ => False
  | n + 1, m, pc, ls, st, h, Q => match cX m pc with
    | none => False
    | some (nx, i) => exec1 (rtyT m) i nx ls st h (fun pc ls st h => wp n m pc ls st h Q) Q (fun m' as h K => wp n m' 0 (padL m' as) [] h K)
