abbrev ie_C : Type := (Nat × vp_A) ⊕ (Nat × List Value)
abbrev ie_H : Type := List ie_C
abbrev ie_L : Type := List (Option Value)
abbrev ie_F : Type := Nat × ie_L × List Value × ie_H
abbrev ie_T : Type := Nat × List Value × List Value
abbrev ie_O : Type := Option Value ⊕ Nat
abbrev ie_R : Type := Option (ie_F ⊕ (ie_T ⊕ (ie_O × ie_H)))
abbrev ie_X : Type := Nat × (Nat → Int32)
def ie_S : Nat := 1000000000000
def ie_nx (pc : Nat) (ls : ie_L) (st : List Value) (h : ie_H) : ie_R := some (.inl (pc, ls, st, h))
def ie_go (m : Nat) (as rest : List Value) : ie_R := some (.inr (.inl (m, as, rest)))
def ie_end (o : ie_O) (h : ie_H) : ie_R := some (.inr (.inr (o, h)))
def ie_b (f : Int32 → Int32 → Int32) (pc : Nat) (ls : ie_L) (st : List Value) (h : ie_H) : ie_R := match st with
  | .int y :: .int x :: r => ie_nx (pc + 1) ls (.int (f x y) :: r) h
  | _ => none
def ie_d (f : Int32 → Int32 → Int32) (pc : Nat) (ls : ie_L) (st : List Value) (h : ie_H) : ie_R := match st with
  | .int y :: .int x :: r => if y = 0 then none else ie_nx (pc + 1) ls (.int (f x y) :: r) h
  | _ => none
def ie_bl (f : Int64 → Int64 → Int64) (pc : Nat) (ls : ie_L) (st : List Value) (h : ie_H) : ie_R := match st with
  | .long y :: .long x :: r => ie_nx (pc + 1) ls (.long (f x y) :: r) h
  | _ => none
def ie_sl (f : Int64 → Int32 → Int64) (pc : Nat) (ls : ie_L) (st : List Value) (h : ie_H) : ie_R := match st with
  | .int y :: .long x :: r => ie_nx (pc + 1) ls (.long (f x y) :: r) h
  | _ => none
def ie_u (f : Int32 → Value) (pc : Nat) (ls : ie_L) (st : List Value) (h : ie_H) : ie_R := match st with
  | .int x :: r => ie_nx (pc + 1) ls (f x :: r) h
  | _ => none
def ie_ul (f : Int64 → Value) (pc : Nat) (ls : ie_L) (st : List Value) (h : ie_H) : ie_R := match st with
  | .long x :: r => ie_nx (pc + 1) ls (f x :: r) h
  | _ => none
def ie_li (n i pc : Nat) (ls : ie_L) (st : List Value) (h : ie_H) : ie_R := match ls[i]? with
  | some (some (.int x)) => ie_nx (pc + n) ls (.int x :: st) h
  | _ => none
def ie_ll (n i pc : Nat) (ls : ie_L) (st : List Value) (h : ie_H) : ie_R := match ls[i]? with
  | some (some (.long x)) => ie_nx (pc + n) ls (.long x :: st) h
  | _ => none
def ie_la (n i pc : Nat) (ls : ie_L) (st : List Value) (h : ie_H) : ie_R := match ls[i]? with
  | some (some (.ref x)) => ie_nx (pc + n) ls (.ref x :: st) h
  | some (some .null) => ie_nx (pc + n) ls (.null :: st) h
  | _ => none
def ie_si (n i pc : Nat) (ls : ie_L) (st : List Value) (h : ie_H) : ie_R := match st with
  | .int x :: r => ie_nx (pc + n) (ls.set i (some (.int x))) r h
  | _ => none
def ie_sa (n i pc : Nat) (ls : ie_L) (st : List Value) (h : ie_H) : ie_R := match st with
  | .ref x :: r => ie_nx (pc + n) (ls.set i (some (.ref x))) r h
  | .null :: r => ie_nx (pc + n) (ls.set i (some .null)) r h
  | _ => none
def ie_inc (i : Nat) (n : Int) (pc : Nat) (ls : ie_L) (st : List Value) (h : ie_H) : ie_R := match ls[i]? with
  | some (some (.int x)) => ie_nx (pc + 3) (ls.set i (some (.int (x + Int32.ofInt n)))) st h
  | _ => none
def ie_i0 (c : Jvm.ClassFile.Cond) (t pc : Nat) (ls : ie_L) (st : List Value) (h : ie_H) : ie_R := match st with
  | .int x :: r => match c with
    | .eq => ie_nx (if x = 0 then t else pc + 3) ls r h
    | .ne => ie_nx (if x = 0 then pc + 3 else t) ls r h
    | .lt => ie_nx (if x < 0 then t else pc + 3) ls r h
    | .ge => ie_nx (if 0 ≤ x then t else pc + 3) ls r h
    | .gt => ie_nx (if 0 < x then t else pc + 3) ls r h
    | .le => ie_nx (if x ≤ 0 then t else pc + 3) ls r h
  | _ => none
def ie_i2 (c : Jvm.ClassFile.Cond) (t pc : Nat) (ls : ie_L) (st : List Value) (h : ie_H) : ie_R := match st with
  | .int y :: .int x :: r => match c with
    | .eq => ie_nx (if x = y then t else pc + 3) ls r h
    | .ne => ie_nx (if x = y then pc + 3 else t) ls r h
    | .lt => ie_nx (if x < y then t else pc + 3) ls r h
    | .ge => ie_nx (if y ≤ x then t else pc + 3) ls r h
    | .gt => ie_nx (if y < x then t else pc + 3) ls r h
    | .le => ie_nx (if x ≤ y then t else pc + 3) ls r h
  | _ => none
def ie_nu (t1 t2 : Nat) (ls : ie_L) (st : List Value) (h : ie_H) : ie_R := match st with
  | .null :: r => ie_nx t1 ls r h
  | .ref _ :: r => ie_nx t2 ls r h
  | _ => none
def ie_ts (pc : Nat) (d lo hi : Int) (offs : Array Int) (x : Int) : Nat := if x < lo ∨ hi < x then ((pc : Int) + d).toNat else ((pc : Int) + (offs[(x - lo).toNat]?).getD d).toNat
def ie_lk (pc : Nat) (d : Int) (q : List (Int × Int)) (x : Int) : Nat := ((pc : Int) + Op.lookupswitch.offset q d x).toNat
def ie_in (i : Int32) (n : Nat) : Prop := 0 ≤ i.toInt ∧ i.toInt < (n : Int)
def ie_ia (t : Nat) (X : ie_X) (pc : Nat) (ls : ie_L) (st : List Value) (h : ie_H) : ie_R := match st with
  | .int i :: .ref a :: r =>
    if a = ie_S then (if t = 0 then (if 0 ≤ i.toInt ∧ i.toInt < (X.1 : Int) then ie_nx (pc + 1) ls (.int (X.2 i.toNatClampNeg) :: r) h else none) else none)
    else match h[a]? with
      | some (.inl (u, n, .inl f)) => if u = t then (if 0 ≤ i.toInt ∧ i.toInt < (n : Int) then ie_nx (pc + 1) ls (.int (f i.toNatClampNeg) :: r) h else none) else none
      | _ => none
  | _ => none
def ie_lal (pc : Nat) (ls : ie_L) (st : List Value) (h : ie_H) : ie_R := match st with
  | .int i :: .ref a :: r => match h[a]? with
      | some (.inl (u, n, .inr (.inl f))) => if u = 3 then (if 0 ≤ i.toInt ∧ i.toInt < (n : Int) then ie_nx (pc + 1) ls (.long (f i.toNatClampNeg) :: r) h else none) else none
      | _ => none
  | _ => none
def ie_aal (pc : Nat) (ls : ie_L) (st : List Value) (h : ie_H) : ie_R := match st with
  | .int i :: .ref a :: r => match h[a]? with
      | some (.inl (u, n, .inr (.inr (.inr (.inr f))))) => if 4 ≤ u ∧ u < 8 then (if 0 ≤ i.toInt ∧ i.toInt < (n : Int) then ie_nx (pc + 1) ls (va_rf (f i.toNatClampNeg) :: r) h else none) else none
      | _ => none
  | _ => none
def ie_ist (t : Nat) (g : Int32 → Int32) (pc : Nat) (ls : ie_L) (st : List Value) (h : ie_H) : ie_R := match st with
  | .int x :: .int i :: .ref a :: r => match h[a]? with
      | some (.inl (u, n, .inl f)) => if u = t then (if 0 ≤ i.toInt ∧ i.toInt < (n : Int) then ie_nx (pc + 1) ls r (h.set a (.inl (u, n, .inl (upd f i.toNatClampNeg (g x))))) else none) else none
      | _ => none
  | _ => none
def ie_lst (pc : Nat) (ls : ie_L) (st : List Value) (h : ie_H) : ie_R := match st with
  | .long x :: .int i :: .ref a :: r => match h[a]? with
      | some (.inl (u, n, .inr (.inl f))) => if u = 3 then (if 0 ≤ i.toInt ∧ i.toInt < (n : Int) then ie_nx (pc + 1) ls r (h.set a (.inl (u, n, .inr (.inl (vp_updL f i.toNatClampNeg x))))) else none) else none
      | _ => none
  | _ => none
def ie_ast (pc : Nat) (ls : ie_L) (st : List Value) (h : ie_H) : ie_R := match st with
  | .ref b :: .int i :: .ref a :: r => match h[a]? with
      | some (.inl (u, n, .inr (.inr (.inr (.inr f))))) => match h[b]? with
        | some (.inr (ci, _)) => if 4 ≤ u ∧ u < 8 ∧ ci = ie_kc u then (if 0 ≤ i.toInt ∧ i.toInt < (n : Int) then ie_nx (pc + 1) ls r (h.set a (.inl (u, n, .inr (.inr (.inr (.inr (va_up f i.toNatClampNeg (some b)))))))) else none) else none
        | _ => none
      | _ => none
  | .null :: .int i :: .ref a :: r => match h[a]? with
      | some (.inl (u, n, .inr (.inr (.inr (.inr f))))) => if 4 ≤ u ∧ u < 8 then (if 0 ≤ i.toInt ∧ i.toInt < (n : Int) then ie_nx (pc + 1) ls r (h.set a (.inl (u, n, .inr (.inr (.inr (.inr (va_up f i.toNatClampNeg none))))))) else none) else none
      | _ => none
  | _ => none
def ie_len (X : ie_X) (pc : Nat) (ls : ie_L) (st : List Value) (h : ie_H) : ie_R := match st with
  | .ref a :: r => if a = ie_S then ie_nx (pc + 1) ls (.int (Int32.ofNat X.1) :: r) h else match h[a]? with
      | some (.inl (t, n, _)) => if t < 8 then ie_nx (pc + 1) ls (.int (Int32.ofNat n) :: r) h else none
      | _ => none
  | _ => none
def ie_z (t n : Nat) : ie_C := if t < 3 then .inl (t, n, .inl (fun _ => 0)) else if t = 3 then .inl (t, n, .inr (.inl (fun _ => 0))) else .inl (t, n, .inr (.inr (.inr (.inr (fun _ => none)))))
def ie_na (k t pc : Nat) (ls : ie_L) (st : List Value) (h : ie_H) : ie_R := match st with
  | .int n :: r => if 0 ≤ n.toInt ∧ n.toInt ≤ 100000 then ie_nx (pc + k) ls (.ref h.length :: r) (h ++ [ie_z t n.toNatClampNeg]) else none
  | _ => none
def ie_df (ci : Nat) : List Value := match ie_cl[ci]? with
  | some q => (List.range q.2.2).map (fun k => defaultValue ((ie_fl.getD ci (fun _ => .int)) k))
  | none => []
def ie_cat (st : List Value) : Nat := (st.map fun v => v.category).sum
def ie_new (ci pc : Nat) (ls : ie_L) (st : List Value) (h : ie_H) : ie_R := if ci < 11 then ie_nx (pc + 3) ls (.ref h.length :: st) (h ++ [.inr (ci, ie_df ci)]) else if ie_cat st ≤ 8 then ie_end (.inr ci) (h ++ [.inr (ci, [])]) else none
def ie_gf (ci k pc : Nat) (ls : ie_L) (st : List Value) (h : ie_H) : ie_R := match st with
  | .ref a :: r => match h[a]? with
    | some (.inr (c, fs)) => if c = ci then (match fs[k]? with | some v => ie_nx (pc + 3) ls (v :: r) h | none => none) else none
    | _ => none
  | _ => none
def ie_fitb (ty : FieldType) (v : Value) : Bool := match ty, v with
  | .int, .int _ => true
  | .long, .long _ => true
  | .boolean, .int x => decide (x = 0 ∨ x = 1)
  | .char, .int x => decide (0 ≤ x.toInt ∧ x.toInt < 65536)
  | .object _, .ref _ => true
  | .object _, .null => true
  | .array _, .ref _ => true
  | .array _, .null => true
  | _, _ => false
def ie_pf (ci k pc : Nat) (ls : ie_L) (st : List Value) (h : ie_H) : ie_R := match st with
  | v :: .ref a :: r => match h[a]? with
    | some (.inr (c, fs)) => if c = ci then (match fs[k]? with | some _ => (if ie_fitb ((ie_fl.getD ci (fun _ => .int)) k) v = true then ie_nx (pc + 3) ls r (h.set a (.inr (c, fs.set k v))) else none) | none => none) else none
    | _ => none
  | _ => none
def ie_c1 (v : Value) : Bool := match v with
  | .long _ => false
  | .double _ => false
  | _ => true
def ie_dup (pc : Nat) (ls : ie_L) (st : List Value) (h : ie_H) : ie_R := match st with
  | v :: r => if ie_c1 v = true then ie_nx (pc + 1) ls (v :: v :: r) h else none
  | _ => none
def ie_dup2 (pc : Nat) (ls : ie_L) (st : List Value) (h : ie_H) : ie_R := match st with
  | v :: w :: r => if ie_c1 v = true then (if ie_c1 w = true then ie_nx (pc + 1) ls (v :: w :: v :: w :: r) h else none) else none
  | _ => none
def ie_pop (pc : Nat) (ls : ie_L) (st : List Value) (h : ie_H) : ie_R := match st with
  | v :: r => if ie_c1 v = true then ie_nx (pc + 1) ls r h else none
  | _ => none
def ie_iv (m n ci : Nat) (st : List Value) (h : ie_H) : ie_R := match st.drop n with
  | .ref b :: r => match h[b]? with
    | some (.inr (c, _)) => if c = ci then (if ie_cat r ≤ 8 then ie_go m (.ref b :: (st.take n).reverse) r else none) else none
    | _ => none
  | _ => none
def ie_ip (m n pc : Nat) (ls : ie_L) (st : List Value) (h : ie_H) : ie_R := match st.drop n with
  | .ref b :: r => if ie_cat r ≤ 8 then (if m = 10000 then ie_nx (pc + 3) ls r h else ie_go m (.ref b :: (st.take n).reverse) r) else none
  | _ => none
def ie_cp (pc : Nat) (ls : ie_L) (st : List Value) (h : ie_H) : ie_R := match st with
  | .int n :: .int dp :: .ref b :: .int sp :: .ref a :: r => match h[a]?, h[b]? with
    | some (.inl (0, n0, .inl f)), some (.inl (0, n1, .inl g)) =>
      if (0 ≤ sp.toInt ∧ 0 ≤ dp.toInt ∧ 0 ≤ n.toInt) ∧ sp.toNatClampNeg + n.toNatClampNeg ≤ n0 ∧ dp.toNatClampNeg + n.toNatClampNeg ≤ n1 ∧ ie_cat r ≤ 8 then ie_nx (pc + 3) ls r (h.set b (.inl (0, n1, .inl (va_cpy f g sp.toNatClampNeg dp.toNatClampNeg n.toNatClampNeg)))) else none
    | _, _ => none
  | _ => none
def ie_is (m n pc : Nat) (ls : ie_L) (st : List Value) (h : ie_H) : ie_R := if m = 10001 then ie_cp pc ls st h else if n ≤ st.length ∧ ie_cat (st.drop n) ≤ 8 then ie_go m (st.take n).reverse (st.drop n) else none
def ie_kv (k : Nat) (v : Value) : Bool := match v with
  | .int _ => k == 0
  | .long _ => k == 1
  | .ref _ => k == 2
  | .null => k == 2
  | _ => false
def ie_rv (k m : Nat) (st : List Value) (h : ie_H) : ie_R := match st with
  | [v] => match ie_ret m with
    | some ty => if ie_kv k v = true then (if ie_fitb ty v = true then ie_end (.inl (some v)) h else none) else none
    | none => none
  | _ => none
def ie_r0 (m : Nat) (st : List Value) (h : ie_H) : ie_R := match st with
  | [] => match ie_ret m with
    | none => ie_end (.inl none) h
    | some _ => none
  | _ => none
def ie_step (X : ie_X) (m : Nat) (i : Instr) (r : Nat × Nat × Nat) (pc : Nat) (ls : ie_L) (st : List Value) (h : ie_H) : ie_R := match i with
  | .iconst n => ie_nx (pc + 1) ls (.int (Int32.ofInt n) :: st) h
  | .bipush n => ie_nx (pc + 2) ls (.int (Int8.ofInt n).toInt32 :: st) h
  | .sipush n => ie_nx (pc + 3) ls (.int (Int16.ofInt n).toInt32 :: st) h
  | .lconst n => ie_nx (pc + 1) ls (.long (Int64.ofNat (n : Nat)) :: st) h
  | .aconst_null => ie_nx (pc + 1) ls (.null :: st) h
  | .ldc_w _ => ie_nx (pc + 3) ls (.int (Int32.ofNat r.1) :: st) h
  | .ldc2_w _ => ie_nx (pc + 3) ls (.long (Int64.ofNat r.1) :: st) h
  | .iload k => ie_li 2 k pc ls st h
  | .iload_n k => ie_li 1 k pc ls st h
  | .lload_n k => ie_ll 1 k pc ls st h
  | .aload k => ie_la 2 k pc ls st h
  | .aload_n k => ie_la 1 k pc ls st h
  | .istore k => ie_si 2 k pc ls st h
  | .istore_n k => ie_si 1 k pc ls st h
  | .astore k => ie_sa 2 k pc ls st h
  | .astore_n k => ie_sa 1 k pc ls st h
  | .iinc k n => ie_inc k n pc ls st h
  | .iadd => ie_b (fun x y => x + y) pc ls st h
  | .isub => ie_b (fun x y => x - y) pc ls st h
  | .imul => ie_b (fun x y => x * y) pc ls st h
  | .iand => ie_b (fun x y => x &&& y) pc ls st h
  | .ior => ie_b (fun x y => x ||| y) pc ls st h
  | .ixor => ie_b (fun x y => x ^^^ y) pc ls st h
  | .idiv => ie_d (fun x y => x / y) pc ls st h
  | .irem => ie_d (fun x y => x - x / y * y) pc ls st h
  | .ishl => ie_b (fun x y => x <<< (y &&& 31)) pc ls st h
  | .ishr => ie_b (fun x y => x >>> (y &&& 31)) pc ls st h
  | .iushr => ie_b (fun x y => (x.toUInt32 >>> (y.toUInt32 &&& Int32.toUInt32 31)).toInt32) pc ls st h
  | .land => ie_bl (fun x y => x &&& y) pc ls st h
  | .lor => ie_bl (fun x y => x ||| y) pc ls st h
  | .lshl => ie_sl (fun x y => x <<< (y.toInt64 &&& 63)) pc ls st h
  | .lshr => ie_sl (fun x y => x >>> (y.toInt64 &&& 63)) pc ls st h
  | .lushr => ie_sl (fun x y => (x.toUInt64 >>> (y.toInt64.toUInt64 &&& Int64.toUInt64 63)).toInt64) pc ls st h
  | .i2l => ie_u (fun x => .long x.toInt64) pc ls st h
  | .i2c => ie_u (fun x => .int (x.toUInt32 % 65536).toInt32) pc ls st h
  | .l2i => ie_ul (fun x => .int x.toInt32) pc ls st h
  | .lcmp => match st with
    | .long y :: .long x :: q => ie_nx (pc + 1) ls (.int (lg_cmp x y) :: q) h
    | _ => none
  | .goto _ => ie_nx r.1 ls st h
  | .ifCond c _ => ie_i0 c r.1 pc ls st h
  | .if_icmp c _ => ie_i2 c r.1 pc ls st h
  | .ifnull _ => ie_nu r.1 (pc + 3) ls st h
  | .ifnonnull _ => ie_nu (pc + 3) r.1 ls st h
  | .tableswitch d lo hi offs => match st with
    | .int x :: q => ie_nx (ie_ts pc d lo hi offs x.toInt) ls q h
    | _ => none
  | .lookupswitch d q => match st with
    | .int x :: z => ie_nx (ie_lk pc d q.toList x.toInt) ls z h
    | _ => none
  | .iaload => ie_ia 0 X pc ls st h
  | .caload => ie_ia 1 X pc ls st h
  | .baload => ie_ia 2 X pc ls st h
  | .laload => ie_lal pc ls st h
  | .aaload => ie_aal pc ls st h
  | .iastore => ie_ist 0 (fun x => x) pc ls st h
  | .castore => ie_ist 1 (vp_nar .char) pc ls st h
  | .bastore => ie_ist 2 (vp_nar .boolean) pc ls st h
  | .lastore => ie_lst pc ls st h
  | .aastore => ie_ast pc ls st h
  | .arraylength => ie_len X pc ls st h
  | .newarray _ => ie_na 2 r.1 pc ls st h
  | .anewarray _ => ie_na 3 r.1 pc ls st h
  | .new _ => ie_new r.1 pc ls st h
  | .dup => ie_dup pc ls st h
  | .dup2 => ie_dup2 pc ls st h
  | .pop => ie_pop pc ls st h
  | .getfield _ => ie_gf r.1 r.2.1 pc ls st h
  | .putfield _ => ie_pf r.1 r.2.1 pc ls st h
  | .invokevirtual _ => ie_iv r.1 r.2.1 (ie_info r.1).1.1 st h
  | .invokespecial _ => ie_ip r.1 r.2.1 pc ls st h
  | .invokestatic _ => ie_is r.1 r.2.1 pc ls st h
  | .ireturn => ie_rv 0 m st h
  | .lreturn => ie_rv 1 m st h
  | .areturn => ie_rv 2 m st h
  | .return_ => ie_r0 m st h
  | _ => none
def ie_at (m pc : Nat) : Option ((Instr × Nat) × (Nat × Nat × Nat)) := ((ie_K.getD m []).find? (fun x => x.1 == pc)).map (·.2)
def ie_hd (m pc ci : Nat) : Option Nat := ((ie_hs m).find? (fun x => decide (x.1 ≤ pc) && decide (pc < x.2.1) && x.2.2.2.2.1 == ci)).map (·.2.2.1)
def ie_sp (vs : List Value) : ie_L := vs.flatMap (fun v => match v with | .long x => [some (.long x), none] | .double x => [some (.double x), none] | v => [some v])
def ie_en (m : Nat) (vs : List Value) : ie_L := ie_sp vs ++ List.replicate ((ie_info m).2.1.2.1 - (ie_sp vs).length) none
def ie_ca (m t : Nat) (ls : ie_L) : Option (Nat × ie_L) := match ie_at m t with
  | some ((.astore_n k, _), _) => some (t + 1, ls.set k none)
  | some ((.astore k, _), _) => some (t + 2, ls.set k none)
  | _ => none
def ie_lgs : Nat → List Value → List Nat
  | _, [] => []
  | k, .long _ :: vs => k :: ie_lgs (k + 2) vs
  | k, .double _ :: vs => k :: ie_lgs (k + 2) vs
  | k, _ :: vs => ie_lgs (k + 1) vs
def ie_ev (X : ie_X) : Nat → Nat → Nat → ie_F → Option (ie_O × ie_H)
  | 0, _, _, _ => none
  | n + 1, d, m, (pc, ls, st, h) => match ie_at m pc with
    | none => none
    | some ((i, _), r) => match ie_step X m i r pc ls st h with
      | none => none
      | some (.inl F) => ie_ev X n d m F
      | some (.inr (.inr o)) => some o
      | some (.inr (.inl (m', as, rest))) => match d with
        | 0 => none
        | d' + 1 => if ie_lgs 0 as = ie_lg m' ∧ (ie_sp as).length ≤ ie_mx m' then (match ie_ev X n d' m' (0, ie_en m' as, [], h) with
          | none => none
          | some (.inl v, h') => ie_ev X n (d' + 1) m (pc + 3, ls, v.toList ++ rest, h')
          | some (.inr ci, h') => if ie_tm.contains m' = true then (match ie_hd m pc ci with
            | some t => (match ie_ca m t ls with
              | some (t', ls') => ie_ev X n (d' + 1) m (t', ls', [], h')
              | none => none)
            | none => if (ie_hs m).isEmpty = true then some (.inr ci, h') else none) else none) else none
