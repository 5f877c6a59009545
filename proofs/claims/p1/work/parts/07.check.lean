def ie_kc (u : Nat) : Nat := if u = 4 then 4 else if u = 5 then 6 else if u = 6 then 7 else 1
def ie_info (m : Nat) : ie_I := ie_ms.getD m I_0
def ie_ret (m : Nat) : Option FieldType := (ie_info m).2.1.2.2
def ie_tm : List Nat := [10, 79, 80, 81, 83, 85, 86, 87, 90, 92, 94, 113, 115, 117, 119, 120, 122, 123, 125, 128, 132]
def ie_q (ci : Nat) : vw_C := ie_cl.getD ci (R_0, T_0, 0)
def ie_oname (o : Nat) : String := ie_own.getD o ""
abbrev ie_fok (own : String) (idx ci k w : Nat) : Prop := ci < 11 ∧ k < (ie_q ci).2.2 ∧ ((ie_q ci).2.1 k).1 = (ie_q ci).1 ∧ (lw_tbl[w]? = some (Jvm.Cond.fieldLink own idx (ie_q ci).1 ((ie_q ci).2.1 k).2.1 ((ie_q ci).2.1 k).2.2.1) ∨ lw_tbl[w]? = some (Jvm.Cond.fieldLinkNest own idx (ie_q ci).1 ((ie_q ci).2.1 k).2.1 ((ie_q ci).2.1 k).2.2.1 "PlayCutter"))
abbrev ie_pok (own : String) (ini : Bool) (idx ci k w : Nat) : Prop := ((ie_q ci).2.1 k).2.2.2 = false ∨ (((ie_q ci).2.1 k).2.2.2 = true ∧ ini = true ∧ own = (ie_q ci).1 ∧ lw_tbl[w]? = some (Jvm.Cond.fieldLink own idx (ie_q ci).1 ((ie_q ci).2.1 k).2.1 ((ie_q ci).2.1 k).2.2.1))
def ie_y (m : Nat) : MethodName := (ie_info m).1.2.2
def ie_by (m : Nat) : ByteArray := (ie_info m).2.1.1
def ie_mx (m : Nat) : Nat := (ie_info m).2.1.2.1
def ie_lg (m : Nat) : List Nat := (ie_info m).2.2.1
def ie_st (m : Nat) : Bool := (ie_info m).1.2.1
def ie_hs (m : Nat) : List (Nat × Nat × Nat × Nat × Nat × Nat) := (ie_info m).2.2.2.1
def ie_h4 (m : Nat) : List (Nat × Nat × Nat × Nat) := (ie_hs m).map (fun x => (x.1, x.2.1, x.2.2.1, x.2.2.2.1))
def ie_wd (m : Nat) : Nat × Nat × Nat × Nat := (ie_info m).2.2.2.2
abbrev ie_lok (own : String) (idx m w : Nat) : Prop := lw_tbl[w]? = some (Jvm.Cond.methodLink own idx (ie_y m)) ∨ lw_tbl[w]? = some (Jvm.Cond.methodLinkNest own idx (ie_y m) "PlayCutter")
abbrev ie_n (m n : Nat) : Prop := (parseMethodDescriptor (ie_y m).desc).map (fun d => d.parameters.length) = some n
abbrev ie_mh (m : Nat) : Prop := (ie_y m).cls ≠ "java/lang/invoke/MethodHandle" ∧ (ie_y m).cls ≠ "java/lang/invoke/VarHandle"
def ie_stk (mx : Nat) (lg : List Nat) (k : Nat) : Bool := decide (k < mx) && !(lg.any (fun j => j + 1 == k)) && !(lg.any (fun j => j == k))
def ie_exn : List (List String) := [["java/lang/RuntimeException", "java/lang/Exception"]]
def ie_ck (m : Nat) (own : String) (ini : Bool) (x : Nat × (Instr × Nat) × (Nat × Nat × Nat)) : Bool := match x with
  | (pc, (i, len), (r1, r2, w)) => match i with
    | .iconst _ | .lconst _ | .aconst_null | .iload_n _ | .lload_n _ | .aload_n _ | .iadd | .isub | .imul | .iand | .ior | .ixor | .idiv | .irem | .ishl | .ishr | .iushr | .land | .lor | .lshl | .lshr | .lushr | .i2l | .i2c | .l2i | .lcmp | .iaload | .caload | .baload | .laload | .aaload | .iastore | .castore | .bastore | .lastore | .aastore | .arraylength | .dup | .dup2 | .pop | .ireturn | .lreturn | .areturn | .return_ | .athrow => decide (len = 1)
    | .bipush _ | .iload _ | .aload _ => decide (len = 2)
    | .sipush _ => decide (len = 3)
    | .istore_n k | .astore_n k => decide (len = 1) && ie_stk (ie_mx m) (ie_lg m) k
    | .istore k | .astore k => decide (len = 2) && ie_stk (ie_mx m) (ie_lg m) k
    | .iinc k _ => decide (len = 3) && ie_stk (ie_mx m) (ie_lg m) k
    | .ldc_w idx => decide (len = 3) && decide (lw_tbl[w]? = some (Jvm.Cond.constant own idx (Int32.ofNat r1)))
    | .ldc2_w idx => decide (len = 3) && decide (lw_tbl[w]? = some (Jvm.Cond.constantLong own idx (Int64.ofNat r1)))
    | .goto off | .ifCond _ off | .if_icmp _ off | .ifnull off | .ifnonnull off => decide (len = 3) && decide ((pc : Int) + off = (r1 : Int))
    | .tableswitch d lo hi offs => decide (0 ≤ (pc : Int) + d) && decide (lo ≤ hi) && decide ((offs.size : Int) = hi - lo + 1) && offs.toList.all (fun o => decide (0 ≤ (pc : Int) + o))
    | .lookupswitch d q => decide (0 ≤ (pc : Int) + d) && q.toList.all (fun o => decide (0 ≤ (pc : Int) + o.2)) && (q.toList.zip (q.toList.drop 1)).all (fun (a, next) => a.1 < next.1)
    | .newarray t => decide (len = 2) && decide (r1 < 4) && decide (ie_kd[r1]? = some (newarray.typeOf t)) && decide (lw_tbl[w]? = some (Jvm.Cond.arrayClass (newarray.typeOf t)))
    | .anewarray idx => decide (len = 3) && decide (4 ≤ r1 ∧ r1 < 8) && decide (ie_kd[r1]? = some (.object (ie_q (ie_kc r1)).1)) && decide (lw_tbl[w]? = some (Jvm.Cond.classLink own idx (ie_q (ie_kc r1)).1))
    | .new idx => decide (len = 3) && decide (r1 < 16) && decide (lw_tbl[w]? = some (Jvm.Cond.classLink own idx (ie_q r1).1))
    | .getfield idx => decide (len = 3) && decide (ie_fok own idx r1 r2 w)
    | .putfield idx => decide (len = 3) && decide (ie_fok own idx r1 r2 w) && decide (ie_pok own ini idx r1 r2 w)
    | .invokevirtual idx => decide (len = 3) && (decide (lw_tbl[w]? = some (Jvm.Cond.methodLink own idx (ie_y r1))) || !(ie_tm.contains r1)) && decide (ie_lok own idx r1 w) && decide (r1 < 222) && decide (ie_n r1 r2) && !(ie_st r1) && decide ((ie_y r1).name ≠ "<init>")
    | .invokespecial idx => decide (len = 3) && (decide (r1 = 10000 ∧ r2 = 0 ∧ lw_tbl[w]? = some (Jvm.Cond.methodLink own idx Lib.objectInit)) || decide (r1 = 10002 ∧ lw_tbl[w]? = some (Jvm.Cond.methodLink own idx ⟨(ie_q r2).1, "<init>", "()V"⟩)) || (decide (ie_lok own idx r1 w) && decide (r1 < 222) && decide (ie_n r1 r2) && !(ie_st r1) && !(ie_tm.contains r1) && decide ((ie_y r1).name = "<init>")))
    | .invokestatic idx => decide (len = 3) && (decide (r1 = 10001 ∧ lw_tbl[w]? = some (Jvm.Cond.methodLink own idx arraycopyName)) || ((decide (lw_tbl[w]? = some (Jvm.Cond.methodLink own idx (ie_y r1))) || !(ie_tm.contains r1)) && decide (ie_lok own idx r1 w) && decide (r1 < 222) && decide (ie_n r1 r2) && ie_st r1))
    | _ => false
def ie_mck (m : Nat) : Bool := decide (plainName (ie_y m).cls = true) && decide (ie_mh m) && decide ((ie_y m).cls = ie_oname (ie_info m).1.1) && decide (ie_mx m ≤ 20)
  && decide (lw_tbl[(ie_wd m).1]? = some (if (ie_hs m).isEmpty then Jvm.Cond.code (ie_y m) (ie_by m) (ie_mx m) (ie_ret m) else Jvm.Cond.codeWith (ie_y m) (ie_by m) (ie_mx m) (ie_ret m) (ie_h4 m)))
  && decide (lw_tbl[(ie_wd m).2.1]? = some (if ie_st m then Jvm.Cond.static (ie_y m) else Jvm.Cond.instanceMethod (ie_y m)))
  && (ie_st m || decide ((ie_y m).name = "<init>") || (decide (lw_tbl[(ie_wd m).2.2.1]? = some (Jvm.Cond.selects (ie_y m).cls (ie_y m) (ie_y m))) && decide ((ie_y m).cls = (ie_q (ie_info m).1.1).1) && decide ((ie_info m).1.1 < 11)))
  && decide (lw_tbl[(ie_wd m).2.2.2]? = some (Jvm.Cond.initialized (ie_y m).cls))
