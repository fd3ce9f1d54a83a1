def mok (m : Nat) : Bool := decide ((yT m).cls = ownS (ownN m)) && (plainName (yT m).cls || Nat.ble 153 m) && decide ((yT m).cls ≠ "java/lang/invoke/MethodHandle" ∧ (yT m).cls ≠ "java/lang/invoke/VarHandle") &&
  decide ((parseMethodDescriptor (yT m).desc).map (fun d => d.parameters.length) = some (nargsT m - (bif Nat.beq (kindT m) 0 then 0 else 1))) &&
  (!Nat.beq (kindT m) 2 || decide ((yT m).name = "<init>")) && Nat.ble (nargsT m) (maxLT m) && Nat.ble (ownN m) 12 &&
  (match rtyT m with
    | 0 => decide (retT m = none)
    | 1 => decide (retT m = some .int)
    | 2 => decide (retT m = some .boolean)
    | 3 => (match retT m with
      | some (.object _) => true
      | _ => false)
    | _ => false) &&
  (match kindT m with
    | 0 => statL.contains m || Nat.beq m 155
    | 1 => virtL.contains m && instL.contains m && decide ((famT (rcvT m)).1 = 1 ∧ (famT (rcvT m)).2.1 = ownN m) && Nat.ble 1 (nargsT m)
    | 2 => instL.contains m && decide ((famT (rcvT m)).1 = 2 ∧ (famT (rcvT m)).2.1 = ownN m ∧ retT m = none) && Nat.ble 1 (nargsT m)
    | _ => false)
theorem mok_all : ((List.range 156).all mok) = true := by decide +kernel
def gtbl : List Cond := lw_tbl.filter goodWord
theorem good_fw : (fwords.map fwW).all goodWord = true := by decide +kernel
theorem good_mw : (mwords.map mwW).all goodWord = true := by decide +kernel
theorem good_ow : (owords.map owW).all goodWord = true := by decide +kernel
theorem good_cw : (cwords.map cwW).all goodWord = true := by decide +kernel
theorem good_kw : (kwords.map kwW).all goodWord = true := by decide +kernel
theorem good_ini : ((List.range 13).map (fun c => Cond.initialized (ownS c))).all goodWord = true := by decide +kernel
theorem good_inst : ((List.range 10).map (fun c => Cond.instantiable (ownS c) (famT (c + 1)).2.2)).all goodWord = true := by decide +kernel
theorem good_im : (instL.map (fun m => Cond.instanceMethod (yT m))).all goodWord = true := by decide +kernel
theorem good_sel : (virtL.map (fun m => Cond.selects (yT m).cls (yT m) (yT m))).all goodWord = true := by decide +kernel
theorem good_st : (statL.map (fun m => Cond.static (yT m))).all goodWord = true := by decide +kernel
theorem good_ob : [Cond.instanceMethod objectInit, Cond.arrayClass .int, Cond.arrayClass .boolean].all goodWord = true := by decide +kernel
theorem good_oc : goodWord (Cond.code objectInit ⟨#[0xb1]⟩ 1 none) = true := by decide +kernel
theorem good_cd (m : Nat) : goodWord (cdW m) = true := rfl
theorem good_ty : (vwCl.flatMap (fun q => u_ws q.1 q.2.1 q.2.2)).all goodWord = true := by decide +kernel
