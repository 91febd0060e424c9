/-! THE ABSTRACT MACHINE: cells by number, final references by table, whole numbers in rows. -/
abbrev St : Type := (Nat → Nat → Int32) × (Nat → Int64)
abbrev En : Type := Instr × Nat × Nat × Nat × Nat × Value
def hk (i : Nat) : Nat × Nat := hkL.getD i (9, 0)
def hr (i k : Nat) : Option Nat := (hrL.getD i []).getD k none
def mN (y : Nat) : MethodName := mNL.getD y ⟨"", "", ""⟩
def mB (y : Nat) : ByteArray := mBL.getD y ⟨#[]⟩
def mL (y : Nat) : Nat := (mML.getD y (0, 0, 0)).1
def mF (y : Nat) : Nat := (mML.getD y (0, 0, 0)).2.1
def mW (y : Nat) : Nat := (mML.getD y (0, 0, 0)).2.2
def mC (y : Nat) : Nat := mCL.getD y 99
def mP (y : Nat) : Nat × Nat × Nat × Nat := mPL.getD y (0, 0, 0, 0)
def mA (y : Nat) : Nat := mAL.getD y 0
def mR (y : Nat) : Option FieldType := mRL.getD y none
def lk : List (Nat × En) → Nat → Option En
  | [], _ => none
  | (q, e) :: r, pc => bif Nat.beq q pc then some e else lk r pc
def clrV (lv : List Value) (a : Nat) : List Value := match a with
  | 0 => lv
  | b + 1 => match lv.getD b .null with
    | .long _ => lv.set b .null
    | .double _ => lv.set b .null
    | _ => lv
def st1V (lv : List Value) (a : Nat) (v : Value) : List Value := (clrV lv a).set a v
def st2V (lv : List Value) (a : Nat) (v : Value) : List Value := ((clrV lv a).set a v).set (a + 1) .null
def setR (σ : St) (c : Nat) (f : Nat → Int32) : St := (fun j => if j = c then f else σ.1 j, σ.2)
def wr (σ : St) (c k : Nat) (v : Int32) : St := setR σ c (upd (σ.1 c) k v)
def wrL (σ : St) (k : Nat) (v : Int64) : St := (σ.1, vp_updL σ.2 k v)
def flatV : List Value → List Value
  | [] => []
  | .long v :: r => .long v :: .null :: flatV r
  | .double v :: r => .double v :: .null :: flatV r
  | v :: r => v :: flatV r
def entL (as : List Value) (n : Nat) : List Value := flatV as ++ List.replicate (n - (flatV as).length) .null
abbrev AP : Type := Nat → Nat → List Value → List Value → St → List Value → St → Prop
def catS : List Value → Nat
  | [] => 0
  | v :: r => v.category + catS r
/-- a call: the callee's way from its entry, then ours -/
def callC (P : AP) (y z n pc : Nat) (lv st : List Value) (σ : St) (R : List Value) (S : St) : Prop :=
  bif Nat.ble n st.length && (Nat.ble (catS (st.drop n)) 8 && Nat.ble (flatV (st.take n).reverse).length (mL z)) then
    match mR z with
    | none => ∃ σ1 : St, P z 0 (entL (st.take n).reverse (mL z)) [] σ [] σ1 ∧ P y pc lv (st.drop n) σ1 R S
    | some .long => ∃ (r : Int64) (σ1 : St), P z 0 (entL (st.take n).reverse (mL z)) [] σ [.long r] σ1 ∧ P y pc lv (.long r :: st.drop n) σ1 R S
    | some _ => ∃ (r : Int32) (σ1 : St), P z 0 (entL (st.take n).reverse (mL z)) [] σ [.int r] σ1 ∧ P y pc lv (.int r :: st.drop n) σ1 R S
  else False
def brC (c : Prop) (A B : Prop) : Prop := (c → A) ∧ (¬ c → B)
/-- one instruction -/
def stepC (P : AP) (y : Nat) (en : En) (pc : Nat) (lv st : List Value) (σ : St) (R : List Value) (S : St) : Prop :=
  match en with
  | (ins, ln, a, b, _, v) => match ins with
    | .iconst _ => P y (pc + ln) lv (v :: st) σ R S
    | .bipush _ => P y (pc + ln) lv (v :: st) σ R S
    | .sipush _ => P y (pc + ln) lv (v :: st) σ R S
    | .lconst _ => P y (pc + ln) lv (v :: st) σ R S
    | .ldc _ => P y (pc + ln) lv (v :: st) σ R S
    | .ldc_w _ => P y (pc + ln) lv (v :: st) σ R S
    | .ldc2_w _ => P y (pc + ln) lv (v :: st) σ R S
    | .iload _ => match lv.getD a .null with | .int x => P y (pc + ln) lv (.int x :: st) σ R S | _ => False
    | .iload_n _ => match lv.getD a .null with | .int x => P y (pc + ln) lv (.int x :: st) σ R S | _ => False
    | .lload _ => match lv.getD a .null with | .long x => P y (pc + ln) lv (.long x :: st) σ R S | _ => False
    | .lload_n _ => match lv.getD a .null with | .long x => P y (pc + ln) lv (.long x :: st) σ R S | _ => False
    | .aload _ => match lv.getD a .null with | .ref x => P y (pc + ln) lv (.ref x :: st) σ R S | _ => False
    | .aload_n _ => match lv.getD a .null with | .ref x => P y (pc + ln) lv (.ref x :: st) σ R S | _ => False
    | .istore _ => match st with | .int x :: r => P y (pc + ln) (st1V lv a (.int x)) r σ R S | _ => False
    | .istore_n _ => match st with | .int x :: r => P y (pc + ln) (st1V lv a (.int x)) r σ R S | _ => False
    | .lstore _ => match st with | .long x :: r => P y (pc + ln) (st2V lv a (.long x)) r σ R S | _ => False
    | .lstore_n _ => match st with | .long x :: r => P y (pc + ln) (st2V lv a (.long x)) r σ R S | _ => False
    | .iinc _ _ => match lv.getD a .null with
      | .int x => match v with
        | .int d => P y (pc + ln) (st1V lv a (.int (x + d))) st σ R S
        | _ => False
      | _ => False
    | .iadd => match st with | .int z :: .int x :: r => P y (pc + ln) lv (.int (x + z) :: r) σ R S | _ => False
    | .isub => match st with | .int z :: .int x :: r => P y (pc + ln) lv (.int (x - z) :: r) σ R S | _ => False
    | .imul => match st with | .int z :: .int x :: r => P y (pc + ln) lv (.int (x * z) :: r) σ R S | _ => False
    | .iand => match st with | .int z :: .int x :: r => P y (pc + ln) lv (.int (x &&& z) :: r) σ R S | _ => False
    | .ior => match st with | .int z :: .int x :: r => P y (pc + ln) lv (.int (x ||| z) :: r) σ R S | _ => False
    | .ixor => match st with | .int z :: .int x :: r => P y (pc + ln) lv (.int (x ^^^ z) :: r) σ R S | _ => False
    | .ishl => match st with | .int z :: .int x :: r => P y (pc + ln) lv (.int (x <<< (z &&& 31)) :: r) σ R S | _ => False
    | .ishr => match st with | .int z :: .int x :: r => P y (pc + ln) lv (.int (x >>> (z &&& 31)) :: r) σ R S | _ => False
    | .iushr => match st with | .int z :: .int x :: r => P y (pc + ln) lv (.int ((x.toUInt32 >>> (z.toUInt32 &&& Int32.toUInt32 31)).toInt32) :: r) σ R S | _ => False
    | .idiv => match st with | .int z :: .int x :: r => ¬ z = 0 ∧ P y (pc + ln) lv (.int (x / z) :: r) σ R S | _ => False
    | .irem => match st with | .int z :: .int x :: r => ¬ z = 0 ∧ P y (pc + ln) lv (.int (x - x / z * z) :: r) σ R S | _ => False
    | .ineg => match st with | .int x :: r => P y (pc + ln) lv (.int (-x) :: r) σ R S | _ => False
    | .ladd => match st with | .long z :: .long x :: r => P y (pc + ln) lv (.long (x + z) :: r) σ R S | _ => False
    | .lsub => match st with | .long z :: .long x :: r => P y (pc + ln) lv (.long (x - z) :: r) σ R S | _ => False
    | .lmul => match st with | .long z :: .long x :: r => P y (pc + ln) lv (.long (x * z) :: r) σ R S | _ => False
    | .land => match st with | .long z :: .long x :: r => P y (pc + ln) lv (.long (x &&& z) :: r) σ R S | _ => False
    | .lor => match st with | .long z :: .long x :: r => P y (pc + ln) lv (.long (x ||| z) :: r) σ R S | _ => False
    | .lxor => match st with | .long z :: .long x :: r => P y (pc + ln) lv (.long (x ^^^ z) :: r) σ R S | _ => False
    | .ldiv => match st with | .long z :: .long x :: r => ¬ z = 0 ∧ P y (pc + ln) lv (.long (x / z) :: r) σ R S | _ => False
    | .lrem => match st with | .long z :: .long x :: r => ¬ z = 0 ∧ P y (pc + ln) lv (.long (x - x / z * z) :: r) σ R S | _ => False
    | .lshl => match st with | .int z :: .long x :: r => P y (pc + ln) lv (.long (x <<< (z.toInt64 &&& 63)) :: r) σ R S | _ => False
    | .lshr => match st with | .int z :: .long x :: r => P y (pc + ln) lv (.long (x >>> (z.toInt64 &&& 63)) :: r) σ R S | _ => False
    | .lushr => match st with | .int z :: .long x :: r => P y (pc + ln) lv (.long ((x.toUInt64 >>> (z.toInt64.toUInt64 &&& Int64.toUInt64 63)).toInt64) :: r) σ R S | _ => False
    | .lcmp => match st with | .long z :: .long x :: r => P y (pc + ln) lv (.int (lg_cmp x z) :: r) σ R S | _ => False
    | .i2l => match st with | .int x :: r => P y (pc + ln) lv (.long x.toInt64 :: r) σ R S | _ => False
    | .l2i => match st with | .long x :: r => P y (pc + ln) lv (.int x.toInt32 :: r) σ R S | _ => False
    | .dup => match st with | .int x :: r => P y (pc + ln) lv (.int x :: .int x :: r) σ R S | .ref x :: r => P y (pc + ln) lv (.ref x :: .ref x :: r) σ R S | _ => False
    | .dup2 => match st with | .int z :: .ref x :: r => P y (pc + ln) lv (.int z :: .ref x :: .int z :: .ref x :: r) σ R S | _ => False
    | .pop => match st with | .int _ :: r => P y (pc + ln) lv r σ R S | _ => False
    | .goto _ => P y a lv st σ R S
    | .ifCond cc _ => match st with
      | .int x :: r => match cc with
        | .eq => brC (x = 0) (P y a lv r σ R S) (P y (pc + ln) lv r σ R S)
        | .ne => brC (x = 0) (P y (pc + ln) lv r σ R S) (P y a lv r σ R S)
        | .lt => brC (x < 0) (P y a lv r σ R S) (P y (pc + ln) lv r σ R S)
        | .ge => brC (x < 0) (P y (pc + ln) lv r σ R S) (P y a lv r σ R S)
        | .gt => brC (x ≤ 0) (P y (pc + ln) lv r σ R S) (P y a lv r σ R S)
        | .le => brC (x ≤ 0) (P y a lv r σ R S) (P y (pc + ln) lv r σ R S)
      | _ => False
    | .if_icmp cc _ => match st with
      | .int z :: .int x :: r => match cc with
        | .eq => brC (x = z) (P y a lv r σ R S) (P y (pc + ln) lv r σ R S)
        | .ne => brC (x = z) (P y (pc + ln) lv r σ R S) (P y a lv r σ R S)
        | .lt => brC (x < z) (P y a lv r σ R S) (P y (pc + ln) lv r σ R S)
        | .ge => brC (x < z) (P y (pc + ln) lv r σ R S) (P y a lv r σ R S)
        | .gt => brC (x ≤ z) (P y (pc + ln) lv r σ R S) (P y a lv r σ R S)
        | .le => brC (x ≤ z) (P y a lv r σ R S) (P y (pc + ln) lv r σ R S)
      | _ => False
    | .tableswitch _ lo hi offs => match st with
      | .int x :: r => brC (x.toInt < lo ∨ hi < x.toInt) (P y a lv r σ R S) (∀ off, offs[(x.toInt - lo).toNat]? = some off → ∀ tgt : Nat, (pc : Int) + off = (tgt : Int) → P y tgt lv r σ R S)
      | _ => False
    | .getfield _ => match st with
      | .ref i :: r => bif Nat.beq i a then (match hr a b with
        | some j => P y (pc + ln) lv (.ref j :: r) σ R S
        | none => P y (pc + ln) lv (.int (σ.1 a b) :: r) σ R S) else False
      | _ => False
    | .putfield _ => match st with
      | .int x :: .ref i :: r => bif Nat.beq i a then (match v with
        | .int _ => (x = 0 ∨ x = 1) ∧ P y (pc + ln) lv r (wr σ a b x) R S
        | _ => P y (pc + ln) lv r (wr σ a b x) R S) else False
      | _ => False
    | .iaload => match st with
      | .int i :: .ref j :: r => bif Nat.beq (hk j).1 0 then vp_in i (hk j).2 ∧ P y (pc + ln) lv (.int (σ.1 j i.toNatClampNeg) :: r) σ R S else False
      | _ => False
    | .baload => match st with
      | .int i :: .ref j :: r => bif Nat.beq (hk j).1 1 then vp_in i (hk j).2 ∧ P y (pc + ln) lv (.int (σ.1 j i.toNatClampNeg) :: r) σ R S else False
      | _ => False
    | .laload => match st with
      | .int i :: .ref j :: r => bif Nat.beq (hk j).1 2 then vp_in i (hk j).2 ∧ P y (pc + ln) lv (.long (σ.2 i.toNatClampNeg) :: r) σ R S else False
      | _ => False
    | .iastore => match st with
      | .int x :: .int i :: .ref j :: r => bif Nat.beq (hk j).1 0 then vp_in i (hk j).2 ∧ P y (pc + ln) lv r (wr σ j i.toNatClampNeg x) R S else False
      | _ => False
    | .bastore => match st with
      | .int x :: .int i :: .ref j :: r => bif Nat.beq (hk j).1 1 then vp_in i (hk j).2 ∧ (x = 0 ∨ x = 1) ∧ P y (pc + ln) lv r (wr σ j i.toNatClampNeg x) R S else False
      | _ => False
    | .lastore => match st with
      | .long x :: .int i :: .ref j :: r => bif Nat.beq (hk j).1 2 then vp_in i (hk j).2 ∧ P y (pc + ln) lv r (wrL σ i.toNatClampNeg x) R S else False
      | _ => False
    | .arraylength => match st with
      | .ref j :: r => bif Nat.ble (hk j).1 2 then P y (pc + ln) lv (.int (Int32.ofNat (hk j).2) :: r) σ R S else False
      | _ => False
    | .invokestatic _ => bif Nat.beq b 100 then (match st with
        | .int n :: .int dp :: .ref d :: .int sp :: .ref s :: r => bif Nat.beq (hk s).1 0 && (Nat.beq (hk d).1 0 && Nat.ble (catS r) 8) then
            (¬ sp < 0 ∧ ¬ dp < 0 ∧ ¬ n < 0 ∧ sp.toNatClampNeg + n.toNatClampNeg ≤ (hk s).2 ∧ dp.toNatClampNeg + n.toNatClampNeg ≤ (hk d).2) ∧ P y (pc + ln) lv r (setR σ d (va_cpy (σ.1 s) (σ.1 d) sp.toNatClampNeg dp.toNatClampNeg n.toNatClampNeg)) R S else False
        | _ => False)
      else bif Nat.beq b 101 then (match st with
        | .int x :: r => bif Nat.ble (catS r) 8 then P y (pc + ln) lv (.int (if 0 ≤ x then x else 0 - x) :: r) σ R S else False
        | _ => False)
      else bif Nat.beq b 102 then (match st with
        | .int z :: .int x :: r => bif Nat.ble (catS r) 8 then P y (pc + ln) lv (.int (if x < z then z else x) :: r) σ R S else False
        | _ => False)
      else bif Nat.beq b 103 then (match st with
        | .int z :: .int x :: r => bif Nat.ble (catS r) 8 then P y (pc + ln) lv (.int (if z < x then z else x) :: r) σ R S else False
        | _ => False)
      else callC P y a b (pc + ln) lv st σ R S
    | .invokevirtual _ => match st.drop b with
      | .ref i :: _ => bif Nat.beq i (mC a) then callC P y a (b + 1) (pc + ln) lv st σ R S else False
      | _ => False
    | .ireturn => match st with
      | [.int x] => match v with
        | .int _ => (x = 0 ∨ x = 1) ∧ R = [.int x] ∧ S = σ
        | _ => R = [.int x] ∧ S = σ
      | _ => False
    | .lreturn => match st with | [.long x] => R = [.long x] ∧ S = σ | _ => False
    | .return_ => match st with | [] => R = [] ∧ S = σ | _ => False
    | _ => False
