/-! The tables hold: each instruction's row against the bytecode and the words. -/
def lw_g : List Cond := lw_tbl.filter goodWord
def inG (c : Nat) (w : Cond) : Bool := decide (lw_tbl[c]? = some w) && goodWord w
theorem inG_mem {c : Nat} {w : Cond} (h : inG c w = true) : w ∈ lw_g := by
  unfold inG at h
  rw [Bool.and_eq_true, decide_eq_true_iff] at h
  exact List.mem_filter.mpr ⟨List.mem_of_getElem? h.1, h.2⟩
def lnI : Instr → Nat
  | .bipush _ => 2
  | .sipush _ => 3
  | .ldc _ => 2
  | .ldc_w _ => 3
  | .ldc2_w _ => 3
  | .iload _ => 2
  | .lload _ => 2
  | .aload _ => 2
  | .istore _ => 2
  | .lstore _ => 2
  | .iinc _ _ => 3
  | .goto _ => 3
  | .ifCond _ _ => 3
  | .if_icmp _ _ => 3
  | .getfield _ => 3
  | .putfield _ => 3
  | .invokestatic _ => 3
  | .invokevirtual _ => 3
  | _ => 1
def okC (y i z n c : Nat) (v : Value) : Bool := Nat.blt z 212 && Nat.beq n (mA z) && Nat.ble (mF z + 1) (mF y) && Nat.ble (8 + (mL z + 11) + mW z) (mW y) && (match v with
  | .int _ => decide (lw_tbl[c]? = some (.methodLinkNest (mN y).cls i (mN z) "AshLines"))
  | _ => inG c (.methodLink (mN y).cls i (mN z)))
def okL (ins : Instr) (ln : Nat) : Bool := match ins with
  | .tableswitch _ _ _ _ => true
  | ins => Nat.beq ln (lnI ins)
def okX (y pc : Nat) (ins : Instr) (a b c : Nat) (v : Value) : Bool := match ins with
      | .tableswitch d lo hi offs => decide ((pc : Int) + d = (a : Int)) && decide (offs.size = (hi - lo + 1).toNat) && offs.toList.all (fun o => decide (0 ≤ (pc : Int) + o))
      | .iconst n => decide (v = .int (Int32.ofInt n))
      | .bipush n => decide (v = .int (Int8.ofInt n).toInt32)
      | .sipush n => decide (v = .int (Int16.ofInt n).toInt32)
      | .lconst n => decide (v = .long (Int64.ofNat (n : Nat)))
      | .ldc i => (match v with | .int x => inG c (.constant (mN y).cls i x) | _ => false)
      | .ldc_w i => (match v with | .int x => inG c (.constant (mN y).cls i x) | _ => false)
      | .ldc2_w i => (match v with | .long x => inG c (.constantLong (mN y).cls i x) | _ => false)
      | .iload i => Nat.beq i a
      | .iload_n i => Nat.beq i a
      | .lload i => Nat.beq i a
      | .lload_n i => Nat.beq i a
      | .aload i => Nat.beq i a
      | .aload_n i => Nat.beq i a
      | .istore i => Nat.beq i a && Nat.blt a (mL y)
      | .istore_n i => Nat.beq i a && Nat.blt a (mL y)
      | .lstore i => Nat.beq i a && Nat.blt (a + 1) (mL y)
      | .lstore_n i => Nat.beq i a && Nat.blt (a + 1) (mL y)
      | .iinc i n => Nat.beq i a && Nat.blt a (mL y) && decide (v = .int (Int32.ofInt n))
      | .goto off => decide ((pc : Int) + off = (a : Int))
      | .ifCond _ off => decide ((pc : Int) + off = (a : Int))
      | .if_icmp _ off => decide ((pc : Int) + off = (a : Int))
      | .getfield i => Nat.blt a 12 && Nat.blt b (nF a) && inG c (.fieldLink (mN y).cls i (RC a) (fld a b).1 (fld a b).2.1)
      | .putfield i => Nat.blt a 12 && Nat.blt b (nF a) && inG c (.fieldLink (mN y).cls i (RC a) (fld a b).1 (fld a b).2.1) && decide (hr a b = none) && decide ((fld a b).2.2.1 = false) && (match v with | .int _ => decide (tyF a b = .boolean) | _ => decide (tyF a b = .int))
      | .invokestatic i => bif Nat.beq b 100 then inG c (.methodLink (mN y).cls i arraycopyName) && Nat.ble 1 (mF y) && Nat.ble 40 (mW y)
        else bif Nat.beq b 101 then inG c (.methodLink (mN y).cls i Lib.Math.abs.name) && Nat.ble 1 (mF y) && Nat.ble 40 (mW y)
        else bif Nat.beq b 102 then inG c (.methodLink (mN y).cls i Lib.Math.max.name) && Nat.ble 1 (mF y) && Nat.ble 40 (mW y)
        else bif Nat.beq b 103 then inG c (.methodLink (mN y).cls i Lib.Math.min.name) && Nat.ble 1 (mF y) && Nat.ble 40 (mW y)
        else okC y i a b c v && Nat.beq (mP a).2.2.2 9999
      | .invokevirtual i => okC y i a b c v && !(Nat.beq (mP a).2.2.2 9999)
      | .ireturn => (match v with | .int _ => decide (mR y = some .boolean) | _ => decide (mR y = some .int))
      | .lreturn => decide (mR y = some .long)
      | .return_ => decide (mR y = none)
      | _ => true
def okE (y pc : Nat) (e : En) : Bool := match e with
  | (ins, ln, a, b, c, v) => decide (decode (mB y) pc = .ok (ins, ln)) && (okL ins ln && okX y pc ins a b c v)
def okM (z : Nat) : Bool := inG (mP z).2.1 (.initialized (mN z).cls) && Jvm.plainName (mN z).cls && decide ((mN z).cls ≠ "java/lang/invoke/MethodHandle") && decide ((mN z).cls ≠ "java/lang/invoke/VarHandle") && decide ((parseMethodDescriptor (mN z).desc).map (fun d => d.parameters.length) = some (mA z)) &&
  (bif Nat.beq (mP z).2.2.2 9999 then inG (mP z).2.2.1 (.static (mN z)) else inG (mP z).2.2.1 (.instanceMethod (mN z)) && inG (mP z).2.2.2 (.selects (mN z).cls (mN z) (mN z)) && Nat.blt (mC z) 12 && decide (RC (mC z) = (mN z).cls))
def okK (y : Nat) : Bool := (codeL.getD y []).all (fun q => okE y q.1 q.2)
