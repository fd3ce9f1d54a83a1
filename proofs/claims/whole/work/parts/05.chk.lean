def fwB (o i n : Nat) : Bool := Nat.blt i 1000 && Nat.blt n 10000 && fwords.contains (o * 10000000 + i * 10000 + n)
def mwB (o i n : Nat) : Bool := Nat.blt i 1000 && Nat.blt n 1000 && mwords.contains (o * 1000000 + i * 1000 + n)
def nwB (o i n : Nat) : Bool := Nat.blt i 1000 && Nat.blt n 1000 && nwords.contains (o * 1000000 + i * 1000 + n)
def cwB (o i n : Nat) : Bool := Nat.blt i 1000 && Nat.blt n 1000 && cwords.contains (o * 1000000 + i * 1000 + n)
def owB (o i : Nat) : Bool := Nat.blt i 1000 && owords.contains (o * 1000 + i)
def lenI (w : Instr) : Nat := match w with
  | .bipush _ => 2
  | .sipush _ => 3
  | .ldc _ => 2
  | .iload _ => 2
  | .aload _ => 2
  | .istore _ => 2
  | .astore _ => 2
  | .iinc _ _ => 3
  | .if_icmp _ _ => 3
  | .ifCond _ _ => 3
  | .if_acmp _ _ => 3
  | .goto _ => 3
  | .ifnull _ => 3
  | .ifnonnull _ => 3
  | .getfield _ => 3
  | .putfield _ => 3
  | .invokevirtual _ => 3
  | .invokestatic _ => 3
  | .invokespecial _ => 3
  | .new _ => 3
  | .newarray _ => 2
  | .anewarray _ => 3
  | _ => 1
def isSw (w : Instr) : Bool := match w with
  | .tableswitch _ _ _ _ => true
  | .lookupswitch _ _ => true
  | _ => false
def tabL (pc : Nat) : Int → List Int → List (Int × Int)
  | _, [] => []
  | lo, o :: r => (lo, (pc : Int) + o) :: tabL pc (lo + 1) r
def ovT (t : Nat) : FieldType := bif Nat.beq t 0 then .int else bif Nat.beq t 1 then .boolean else bif Nat.beq t 2 then .object RX1 else bif Nat.beq t 3 then .object RX3 else .object RX7
def mtc (m pc : Nat) (a w : Instr) : Bool := match a with
  | .iconst v => (match w with
    | .iconst n => decide (n = v)
    | .bipush n => decide ((Int8.ofInt n).toInt32 = Int32.ofInt v)
    | .sipush n => decide ((Int16.ofInt n).toInt32 = Int32.ofInt v)
    | .ldc i => kwords.contains (ownN m, i, v)
    | _ => false)
  | .iload n => (match w with
    | .iload i => Nat.beq i n
    | .iload_n i => Nat.beq i.val n
    | _ => false)
  | .aload n => (match w with
    | .aload i => Nat.beq i n
    | .aload_n i => Nat.beq i.val n
    | _ => false)
  | .istore n => (match w with
    | .istore i => Nat.beq i n
    | .istore_n i => Nat.beq i.val n
    | _ => false)
  | .astore n => (match w with
    | .astore i => Nat.beq i n
    | .astore_n i => Nat.beq i.val n
    | _ => false)
  | .if_icmp c t => (match w with
    | .if_icmp c' o => decide (c' = c ∧ (pc : Int) + o = t ∧ 0 ≤ t)
    | _ => false)
  | .ifCond c t => (match w with
    | .ifCond c' o => decide (c' = c ∧ (pc : Int) + o = t ∧ 0 ≤ t)
    | _ => false)
  | .if_acmp c t => (match w with
    | .if_acmp c' o => decide (c' = c ∧ (pc : Int) + o = t ∧ 0 ≤ t)
    | _ => false)
  | .goto t => (match w with
    | .goto o => decide ((pc : Int) + o = t ∧ 0 ≤ t)
    | _ => false)
  | .ifnull t => (match w with
    | .ifnull o => decide ((pc : Int) + o = t ∧ 0 ≤ t)
    | _ => false)
  | .ifnonnull t => (match w with
    | .ifnonnull o => decide ((pc : Int) + o = t ∧ 0 ≤ t)
    | _ => false)
  | .lookupswitch d ps => (match w with
    | .tableswitch d' lo hi offs => decide ((pc : Int) + d' = d ∧ 0 ≤ d ∧ ps.toList = tabL pc lo offs.toList ∧ hi + 1 = lo + offs.toList.length ∧ -1000 ≤ lo ∧ hi ≤ 1000 ∧ ∀ q ∈ ps.toList, 0 ≤ q.2)
    | .lookupswitch d' ps' => decide ((pc : Int) + d' = d ∧ 0 ≤ d ∧ ps.toList = ps'.toList.map (fun q => (q.1, (pc : Int) + q.2)) ∧ (∀ q ∈ ps.toList, 0 ≤ q.2 ∧ -1000 ≤ q.1 ∧ q.1 ≤ 1000) ∧ (ps'.toList.zip (ps'.toList.drop 1)).all (fun (a, next) => a.1 < next.1) = true)
    | _ => false)
  | .getfield n => (match w with
    | .getfield i => fwB (ownN m) i n
    | _ => false)
  | .putfield n => (match w with
    | .putfield i => fwB (ownN m) i n && (!(clT (n / 100) (n % 100)).2.2.2 || (Nat.beq (ownN m) (n / 100) && Nat.beq (kindT m) 2))
    | _ => false)
  | .invokevirtual n => (match w with
    | .invokevirtual i => mwB (ownN m) i n && Nat.ble (frT n + 1) (frT m) && Nat.ble (19 + maxLT n + loT n) (loT m)
    | _ => false)
  | .invokestatic n => (match w with
    | .invokestatic i => mwB (ownN m) i n && Nat.ble (frT n + 1) (frT m) && Nat.ble (19 + maxLT n + loT n) (loT m)
    | _ => false)
  | .invokespecial n => (match w with
    | .invokespecial i => (mwB (ownN m) i n || nwB (ownN m) i n) && Nat.ble (frT n + 1) (frT m) && Nat.ble (19 + maxLT n + loT n) (loT m)
    | _ => false)
  | .ior => (match w with
    | .invokestatic i => mwB (ownN m) i 154 && Nat.ble 1 (frT m) && Nat.ble 21 (loT m)
    | _ => false)
  | .ishl => (match w with
    | .invokestatic i => mwB (ownN m) i 153 && Nat.ble 1 (frT m) && Nat.ble 22 (loT m)
    | _ => false)
  | .pop2 => (match w with
    | .invokespecial i => owB (ownN m) i && Nat.ble 1 (frT m) && Nat.ble 12 (loT m)
    | _ => false)
  | .new n => (match w with
    | .new i => cwB (ownN m) i (siteF n - 1) && Nat.ble 1 (siteF n) && Nat.ble (siteF n) 10
    | _ => false)
  | .anewarray f => (match w with
    | .newarray t => decide (newarray.typeOf t = ovT (famT f).2.1) && Nat.ble (famT f).2.1 1
    | .anewarray i => Nat.ble 2 (famT f).2.1 && cwB (ownN m) i (bif Nat.beq (famT f).2.1 2 then 1 else bif Nat.beq (famT f).2.1 3 then 3 else 7)
    | _ => false)
  | i => decide (w = i)
def okB (m pc : Nat) : Bool := match cX m pc with
  | none => true
  | some (nx, a) => (match decode (bytesT m) pc with
    | .ok (w, len) => Nat.beq nx (pc + len) && (isSw w || Nat.beq len (lenI w)) && mtc m pc a w
    | _ => false)
set_option maxRecDepth 100000 in
theorem ok_0 : ((List.range' 0 10).all fun m => (List.range (szT m)).all (okB m)) = true := by decide +kernel
set_option maxRecDepth 100000 in
theorem ok_1 : ((List.range' 10 10).all fun m => (List.range (szT m)).all (okB m)) = true := by decide +kernel
set_option maxRecDepth 100000 in
theorem ok_2 : ((List.range' 20 10).all fun m => (List.range (szT m)).all (okB m)) = true := by decide +kernel
set_option maxRecDepth 100000 in
theorem ok_3 : ((List.range' 30 10).all fun m => (List.range (szT m)).all (okB m)) = true := by decide +kernel
set_option maxRecDepth 100000 in
theorem ok_4 : ((List.range' 40 10).all fun m => (List.range (szT m)).all (okB m)) = true := by decide +kernel
set_option maxRecDepth 100000 in
theorem ok_5 : ((List.range' 50 10).all fun m => (List.range (szT m)).all (okB m)) = true := by decide +kernel
