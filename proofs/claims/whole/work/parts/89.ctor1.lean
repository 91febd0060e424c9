/-! THE CONSTRUCTORS: blocks -/
def subW (os : List Nat) (ad : Nat → Nat) (cy : Nat → ClassId) (σ : St) : va_W := os.map fun i => (ad i, ent ad cy σ i)
def wsC (y : MethodName) (b : ByteArray) (n : Nat) : List Cond := Cond.code y b n none :: lw_g
theorem goodC {y : MethodName} {b : ByteArray} {n : Nat} (h : Cond.code y b n none ∈ lw_g) : GoodIn lw_g (wsC y b n) := by
  intro w hw
  have h1 : w ∈ lw_g := by
    rcases List.mem_cons.mp hw with rfl | h2
    · exact h
    · exact h2
  exact ⟨h1, good_of_word (List.mem_filter.mp h1).2⟩
theorem arr_congr {cA : ClassId} {N : Nat} {f g : Nat → Int32} (h : ∀ j, j < N → f j = g j) : vp_cell cA (N, .inl f) = vp_cell cA (N, .inl g) := by
  rw [vp_cell_i, vp_cell_i]
  unfold arrV
  congr 2
  funext j
  show Value.int (f j.val) = Value.int (g j.val)
  rw [h j.val j.isLt]
theorem vaP_one {D : va_G} {a : Nat} {cA : ClassId} {N : Nat} {f g : Nat → Int32} {H : Heap} (hP : va_P D vwCl [(a, .inl (cA, N, .inl f))] H) (h : ∀ j, j < N → f j = g j) : va_P D vwCl [(a, .inl (cA, N, .inl g))] H := by
  intro k q hq
  have hz : k < 1 := (List.getElem?_eq_some_iff.mp hq).1
  rw [show k = 0 by omega] at hq
  cases hq
  have h1 := hP 0 _ rfl
  show H[a]? = some (vp_cell cA (N, .inl g))
  rw [← arr_congr h]
  exact h1
theorem d211_0 : decode (mB 211) 0 = .ok (.iconst 0, 1) := by decide +kernel
theorem d211_1 : decode (mB 211) 1 = .ok (.istore_n 2, 1) := by decide +kernel
theorem d211_2 : decode (mB 211) 2 = .ok (.aload_n 0, 1) := by decide +kernel
theorem d211_3 : decode (mB 211) 3 = .ok (.arraylength, 1) := by decide +kernel
theorem d211_4 : decode (mB 211) 4 = .ok (.istore_n 3, 1) := by decide +kernel
theorem d211_5 : decode (mB 211) 5 = .ok (.iload_n 2, 1) := by decide +kernel
theorem d211_6 : decode (mB 211) 6 = .ok (.iload_n 3, 1) := by decide +kernel
theorem d211_7 : decode (mB 211) 7 = .ok (.if_icmp .ge 13, 3) := by decide +kernel
theorem d211_10 : decode (mB 211) 10 = .ok (.aload_n 0, 1) := by decide +kernel
theorem d211_11 : decode (mB 211) 11 = .ok (.iload_n 2, 1) := by decide +kernel
theorem d211_12 : decode (mB 211) 12 = .ok (.iload_n 1, 1) := by decide +kernel
theorem d211_13 : decode (mB 211) 13 = .ok (.iastore, 1) := by decide +kernel
theorem d211_14 : decode (mB 211) 14 = .ok (.iinc 2 1, 3) := by decide +kernel
theorem d211_17 : decode (mB 211) 17 = .ok (.goto (-12), 3) := by decide +kernel
theorem d211_20 : decode (mB 211) 20 = .ok (.return_, 1) := by decide +kernel
theorem nIof {N : Nat} : Int32.ofNat N = nI N := rfl
theorem vp_of {i N : Nat} (h : i < N) (hN : N < 2 ^ 31) : vp_in (nI i) N := vp_in_nI h hN
def QcF (D : va_G) (cy : Nat → ClassId) (a N : Nat) (v : Int32) : Array Value → State → Outcome → State → Prop := va_Qv (S := Unit) (fun _ => True) (fun _ t => va_P D vwCl [(a, .inl (cy 0, N, .inl fun _ => v))] t.heap) (fun q => q = a)
set_option maxHeartbeats 1000000 in
theorem fill_loop {p : Program} {l : Launch} {e : Env} {s : State} {m : MethodId} {args : Array Value} {below : List Frame} {meth : Method} {c : Code} {Rm : Room} {D : va_G} {cy : Nat → ClassId} {a N : Nat} {v : Int32} (hN : N < 2 ^ 31) (hx : p.tables.exec = Jvm.exec) (hb : c.code = mB 211) (hr : meth.sig.returnType = none) (hlocks : meth.locks = false) (hK : va_K D vwCl (tyW cy) s) :
    ∀ (n i : Nat) (g : Nat → Int32) (H : Heap) (locs : List Loc) (ls : Array Slot), i ≤ N → N - i < n → (∀ j, j < i → g j = v) → va_P D vwCl [(a, .inl (cy 0, N, .inl g))] H → va_S (fun q => q = a) s.heap H locs → lv_has ls 4 [(2, .int (nI i)), (3, .int (nI N)), (0, .ref a), (1, .int v)] →
      W p l e Rm s m args below meth c H locs 0 0 (MQ below (QcF D cy a N v) args s 0 0 (fun q => q = a)) (F0 m 5 ls []) := by
  intro n
  induction n with
  | zero => intro i g H locs ls h1 h2; omega
  | succ n ih =>
    intro i g H locs ls hi hn hg hP hS hl
    have hD : va_D (fun q => q = a) [(a, .inl (cy 0, N, .inl g))] := by
      constructor
      · intro i j x y h1 h2 _
        have z1 : i < 1 := (List.getElem?_eq_some_iff.mp h1).1
        have z2 : j < 1 := (List.getElem?_eq_some_iff.mp h2).1
        omega
      · intro k q hq
        have hz : k < 1 := (List.getElem?_eq_some_iff.mp hq).1
        rw [show k = 0 by omega] at hq
        cases hq
        rfl
    refine lv_iload_n hx hb d211_5 rfl (lv_at hl 0 rfl) ?_
    refine lv_iload_n hx hb d211_6 rfl (lv_at hl 1 rfl) ?_
    refine lv_icmp_ge (tgt := 20) hx hb d211_7 (by decide) (fun h => ?_) (fun h => ?_)
    · have hiN : i = N := by
        have := (nI_leI hN (by omega)).mp h
        omega
      subst hiN
      exact W.vret hx hb hr (fun t ht hW => ⟨⟨(), rfl, trivial, by show va_P D vwCl _ t.heap; rw [ht]; exact vaP_one hP hg⟩, hS.F ht⟩) hS.2.2 d211_20
    · have hlt : i < N := by
        rcases Nat.lt_or_ge i N with q | q
        · exact q
        · exact absurd ((nI_leI hN (by omega)).mpr q) h
      refine lv_aload_n hx hb d211_10 rfl (lv_at hl 2 rfl) ?_
      refine lv_iload_n hx hb d211_11 rfl (lv_at hl 0 rfl) ?_
      refine lv_iload_n hx hb d211_12 rfl (lv_at hl 3 rfl) ?_
      refine va_iast hx hb hK hP hD hS 0 0 rfl rfl (vp_of hlt hN) d211_13 ?_
      intro H1 locs1 hP1 _ hS1
      refine lv_iinc (v := nI (i + 1)) hx hb d211_14 hl (k := 0) rfl (nI_1 i) (by decide) rfl (fun ls1 hl1 => ?_)
      refine lv_goto (tgt := 5) hx hb d211_17 (by decide) ?_
      refine ih (i + 1) _ H1 locs1 ls1 hlt (by omega) ?_ hP1 hS1 hl1
      intro j hj
      rw [nI_clamp (by omega)]
      unfold upd
      split
      · rfl
      · exact hg j (by omega)
set_option maxHeartbeats 1000000 in
theorem c_fill (l : Launch) (D : va_G) (cy : Nat → ClassId) (a N : Nat) (f : Nat → Int32) (v : Int32) (hN : N < 2 ^ 31) : Met l (mN 211) (wsC (mN 211) (mB 211) 4) { frames := 0, cells := 0, slots := 0, locals := 0 } (va_Pc [.ref a, .int v] (fun U => va_P D vwCl [(a, .inl (cy 0, N, .inl f))] U.heap ∧ va_K D vwCl (tyW cy) U)) (QcF D cy a N v) 0 0 (fun q => q = a) := by
  refine Met.ofW (cc := mB 211) (maxL := 4) (ret := none) (by decide +kernel) rfl ?_
  intro p e s m args below meth c s₁ B hml hv
  obtain ⟨rfl, hP, hK⟩ := hv
  have hx := B.exec
  have hb := B.bytes
  have hr := B.returns
  have hlocks := B.notSynchronized
  have hl := lv_entry ([.ref a, .int v]) (n := 4) (Nat.le_of_ble_eq_true rfl)
  rw [lg_entry_eq]
  generalize (lg_sl ([.ref a, .int v]) ++ List.replicate (4 - (lg_sl ([.ref a, .int v])).length) Slot.unset).toArray = ls at hl ⊢
  have hl : lv_has ls 4 [(0, .ref a), (1, .int v)] := hl
  refine lv_iconst (v := nI 0) hx hb d211_0 (by decide) ?_
  refine lv_istore_n hx hb d211_1 rfl hl (by decide) rfl (fun ls hl => ?_)
  refine lv_aload_n hx hb d211_2 rfl (lv_at hl 1 rfl) ?_
  refine va_alen (v := nI N) hx hb hK hP 0 0 rfl rfl nIof d211_3 ?_
  refine lv_istore_n hx hb d211_4 rfl hl (by decide) rfl (fun ls hl => ?_)
  exact fill_loop hN hx hb hr hlocks hK (N + 1) 0 f s.heap [] ls (Nat.zero_le N) (by omega) (fun j hj => absurd hj (Nat.not_lt_zero j)) hP va_S.rf (lv_sub hl [1, 0, 2, 3] rfl)
/-! blocks of a constructor -/
def CtB (D : va_G) (cy : Nat → ClassId) (ci : Nat) (b : ByteArray) (n : Nat) (p : Program) (s : State) (m : MethodId) (args : Array Value) (meth : Method) (c : Code) : Prop :=
  p.tables.exec = Jvm.exec ∧ c.code = b ∧ c.maxLocals = n ∧ s.vm.findClass (RC ci) = some m.cls ∧ (∀ w ∈ lw_g, w.before args s = true) ∧ meth.name = "<init>" ∧ va_K D vwCl (tyW cy) s
def atT (t : Nat) : ArrayType := if t = 0 then .int else if t = 1 then .boolean else .long
def tyT (t : Nat) : FieldType := if t = 0 then .int else if t = 1 then .boolean else .long
def a0T (cy : Nat → ClassId) (t N : Nat) : va_E := if t = 0 then .inl (cy 0, N, .inl fun _ => 0) else if t = 1 then .inl (cy 1, N, .inl fun _ => 0) else .inl (cy 2, N, .inr (.inl fun _ => 0))
theorem aw_i : Cond.arrayClass .int ∈ lw_g := inG_mem (c := 137) (by decide +kernel)
theorem aw_z : Cond.arrayClass .boolean ∈ lw_g := inG_mem (c := 221) (by decide +kernel)
theorem aw_l : Cond.arrayClass .long ∈ lw_g := inG_mem (c := 313) (by decide +kernel)
theorem newaC {p : Program} {l : Launch} {e : Env} {s : State} {m : MethodId} {args : Array Value} {below : List Frame} {meth : Method} {c : Code} {R : Room} {H H0 : Heap} {locs : List Loc} {cells slots : Nat} {Q : State → Prop} {D : va_G} {cy : Nat → ClassId} {A : Nat → Prop} {ws : va_W} {cc : ByteArray} {pc : Nat} {ls : Array Slot} {rest : List Value}
    (hexec : p.tables.exec = Jvm.exec) (hb : c.code = cc) (hts : ∀ w ∈ lw_g, w.before args s = true) (hK : va_K D vwCl (tyW cy) s) (hP : va_P D vwCl ws H) (hD : va_D A ws) (hS : va_S A H0 H locs) (hA : ∀ q, H0.size ≤ q → A q)
    {n : Int32} {N t : Nat} (ht : t < 3) (hn : ¬ n < 0) (hN : n.toNatClampNeg = N) (hbytes : N ≤ 10000) (hcells : cells + 1 ≤ R.cells) (hslots : slots + N ≤ R.slots) (hdg : decode cc pc = .ok (.newarray (atT t), 2))
    (kk : ∀ (q : Nat) (H1 : Heap), va_P D vwCl (ws ++ [(q, a0T cy t N)]) H1 → va_D A (ws ++ [(q, a0T cy t N)]) → va_S A H0 H1 locs →
      W p l e R s m args below meth c H1 locs (cells + 1) (slots + N) Q (F0 m (pc + 2) ls (.ref q :: rest))) : W p l e R s m args below meth c H locs cells slots Q (F0 m pc ls (.int n :: rest)) := by
  have one : ∀ (cA cB : ClassId) (ty : FieldType), (s.vm.findClass ("[" ++ ty.toString) = some cA) → (s.vm.findClass ("[" ++ ty.toString) = some cB) → cA = cB := fun cA cB ty h1 h2 => Option.some.inj (h1.symm.trans h2)
  have last : ∀ (cA : ClassId) (ty : FieldType), va_K D vwCl (tyW cy ++ [(cA, ty)]) s → va_RA s cA ty := fun cA ty h => (h.2 3 (cA, ty) rfl).2
  rcases (show t = 0 ∨ t = 1 ∨ t = 2 by omega) with rfl | rfl | rfl
  · refine va_newa (atype := .int) (ty := .int) (a0 := (N, .inl fun _ => 0)) hexec hb (hts _ aw_i) rfl hK hP hD hS hA (fun _ => rfl) hn hN (Nat.le_trans (Nat.mul_le_mul_right _ hbytes) (by decide)) hcells hslots hdg (fun q cA H1 hK1 hP1 hD1 hS1 => ?_)
    have he := one cA (cy 0) .int (last _ _ hK1) (hK.2 0 _ rfl).2
    subst he
    exact kk q H1 hP1 hD1 hS1
  · refine va_newa (atype := .boolean) (ty := .boolean) (a0 := (N, .inl fun _ => 0)) hexec hb (hts _ aw_z) rfl hK hP hD hS hA (fun _ => rfl) hn hN (Nat.le_trans (Nat.mul_le_mul_right _ hbytes) (by decide)) hcells hslots hdg (fun q cA H1 hK1 hP1 hD1 hS1 => ?_)
    have he := one cA (cy 1) .boolean (last _ _ hK1) (hK.2 1 _ rfl).2
    subst he
    exact kk q H1 hP1 hD1 hS1
  · refine va_newa (atype := .long) (ty := .long) (a0 := (N, .inr (.inl fun _ => 0))) hexec hb (hts _ aw_l) rfl hK hP hD hS hA (fun _ => rfl) hn hN (Nat.le_trans (Nat.mul_le_mul_right _ hbytes) (by decide)) hcells hslots hdg (fun q cA H1 hK1 hP1 hD1 hS1 => ?_)
    have he := one cA (cy 2) .long (last _ _ hK1) (hK.2 2 _ rfl).2
    subst he
    exact kk q H1 hP1 hD1 hS1
/-- a final field gets a reference -/
theorem putR {p : Program} {l : Launch} {e : Env} {s : State} {m : MethodId} {args : Array Value} {below : List Frame} {meth : Method} {c : Code} {R : Room} {H H0 : Heap} {locs : List Loc} {cells slots : Nat} {Q : State → Prop} {D : va_G} {cy : Nat → ClassId} {A : Nat → Prop} {cc : ByteArray} {nl pc : Nat} {ls : Array Slot} {rest : List Value} {ci h0 : Nat} {fs : List Value} {rows : va_W}
    (C : CtB D cy ci cc nl p s m args meth c) (hci : ci < 12) (hP : va_P D vwCl ((h0, .inr (ci, fs)) :: rows) H) (hD : va_D A ((h0, .inr (ci, fs)) :: rows)) (hS : va_S A H0 H locs) {k i w q : Nat} (hk : k < nF ci) (hl : k < fs.length) (hw : inG w (.fieldLink (RC ci) i (RC ci) (fld ci k).1 (fld ci k).2.1) = true) (hf : (fld ci k).2.2.1 = true)
    (hty : ∀ v, narrow (tyF ci k) (.ref v) = .ref v ∧ fits (tyF ci k) (.ref v) = true) (hdg : decode cc pc = .ok (.putfield i, 3))
    (kk : ∀ (H1 : Heap) (locs1 : List Loc), va_P D vwCl ((h0, .inr (ci, fs.set k (.ref q))) :: rows) H1 → va_D A ((h0, .inr (ci, fs.set k (.ref q))) :: rows) → va_S A H0 H1 locs1 → W p l e R s m args below meth c H1 locs1 cells slots Q (F0 m (pc + 3) ls rest)) : W p l e R s m args below meth c H locs cells slots Q (F0 m pc ls (.ref q :: .ref h0 :: rest)) := by
  obtain ⟨hx, hb, hml, hown, hts, hin, hK⟩ := C
  have hc : vwCl[ci]? = some (RC ci, TW ci, nF ci) := by rw [vwCl, List.getElem?_map, List.getElem?_range hci]; rfl
  exact va_putF (D := D) (ty := tyF ci k) (v := .ref q) hx hb hts (u_inW hci) (tyF ci) (fun k hk => (okF_k hci hk).2.1) (fun a1 h1 b1 h2 hne => (okF_k hci h2).2.2.1 a1 h1 hne) hown hK hP hD hS 0 rfl hc k hk (hts _ (inG_mem hw)) (fun _ h9 => h9) hf hin rfl (okF_k hci hk).2.1 (hty q).1 (hty q).2 hl hdg kk
/-- a field gets an int -/
theorem putI {p : Program} {l : Launch} {e : Env} {s : State} {m : MethodId} {args : Array Value} {below : List Frame} {meth : Method} {c : Code} {R : Room} {H H0 : Heap} {locs : List Loc} {cells slots : Nat} {Q : State → Prop} {D : va_G} {cy : Nat → ClassId} {A : Nat → Prop} {cc : ByteArray} {nl pc : Nat} {ls : Array Slot} {rest : List Value} {ci h0 : Nat} {fs : List Value} {rows : va_W}
    (C : CtB D cy ci cc nl p s m args meth c) (hci : ci < 12) (hP : va_P D vwCl ((h0, .inr (ci, fs)) :: rows) H) (hD : va_D A ((h0, .inr (ci, fs)) :: rows)) (hS : va_S A H0 H locs) {k i w : Nat} {x : Int32} (hk : k < nF ci) (hl : k < fs.length) (hw : inG w (.fieldLink (RC ci) i (RC ci) (fld ci k).1 (fld ci k).2.1) = true) (hf : (fld ci k).2.2.1 = false)
    (hty : tyF ci k = .int) (hdg : decode cc pc = .ok (.putfield i, 3))
    (kk : ∀ (H1 : Heap) (locs1 : List Loc), va_P D vwCl ((h0, .inr (ci, fs.set k (.int x))) :: rows) H1 → va_D A ((h0, .inr (ci, fs.set k (.int x))) :: rows) → va_S A H0 H1 locs1 → W p l e R s m args below meth c H1 locs1 cells slots Q (F0 m (pc + 3) ls rest)) : W p l e R s m args below meth c H locs cells slots Q (F0 m pc ls (.int x :: .ref h0 :: rest)) := by
  obtain ⟨hx, hb, hml, hown, hts, hin, hK⟩ := C
  have hc : vwCl[ci]? = some (RC ci, TW ci, nF ci) := by rw [vwCl, List.getElem?_map, List.getElem?_range hci]; rfl
  exact va_put (D := D) (ty := .int) (v := .int x) hx hb hts (u_inW hci) (tyF ci) (fun k hk => (okF_k hci hk).2.1) (fun a1 h1 b1 h2 hne => (okF_k hci h2).2.2.1 a1 h1 hne) hown hK hP hD hS 0 rfl hc k hk (hts _ (inG_mem hw)) (fun _ h9 => h9) hf (by rw [(okF_k hci hk).2.1, hty]) rfl rfl hl hdg kk
theorem getR {p : Program} {l : Launch} {e : Env} {s : State} {m : MethodId} {args : Array Value} {below : List Frame} {meth : Method} {c : Code} {R : Room} {H : Heap} {locs : List Loc} {cells slots : Nat} {Q : State → Prop} {D : va_G} {cy : Nat → ClassId} {cc : ByteArray} {nl pc : Nat} {ls : Array Slot} {rest : List Value} {ci h0 : Nat} {fs : List Value} {rows : va_W}
    (C : CtB D cy ci cc nl p s m args meth c) (hci : ci < 12) (hP : va_P D vwCl ((h0, .inr (ci, fs)) :: rows) H) {k i w : Nat} {v : Value} (hk : k < nF ci) (hv : fs[k]? = some v) (hw : inG w (.fieldLink (RC ci) i (RC ci) (fld ci k).1 (fld ci k).2.1) = true) (hdg : decode cc pc = .ok (.getfield i, 3))
    (kk : W p l e R s m args below meth c H locs cells slots Q (F0 m (pc + 3) ls (v :: rest))) : W p l e R s m args below meth c H locs cells slots Q (F0 m pc ls (.ref h0 :: rest)) := by
  obtain ⟨hx, hb, hml, hown, hts, hin, hK⟩ := C
  have hc : vwCl[ci]? = some (RC ci, TW ci, nF ci) := by rw [vwCl, List.getElem?_map, List.getElem?_range hci]; rfl
  exact va_get (D := D) (v := v) hx hb hts (u_inW hci) hown hK hP 0 rfl hc k hk (hts _ (inG_mem hw)) (fun _ h9 => h9) hv hdg kk
/-! rows: field, link, word, length, kind, width of the push -/
abbrev SpA : Type := Nat × Nat × Nat × Nat × Nat × Nat
def okA (ci : Nat) (b : ByteArray) (pc : Nat) (x : SpA) : Bool := match x with
  | (k, i, cw, N, t, w) => decide (decode b pc = .ok (.aload_n 0, 1)) && (if w = 2 then decide (decode b (pc + 1) = .ok (.bipush N, 2)) && decide ((Int8.ofInt N).toInt32 = nI N) else decide (w = 3) && decide (decode b (pc + 1) = .ok (.sipush N, 3)) && decide ((Int16.ofInt N).toInt32 = nI N))
    && decide (decode b (pc + 1 + w) = .ok (.newarray (atT t), 2)) && decide (decode b (pc + 1 + w + 2) = .ok (.putfield i, 3)) && Nat.blt k (nF ci) && inG cw (.fieldLink (RC ci) i (RC ci) (fld ci k).1 (fld ci k).2.1) && (fld ci k).2.2.1 && decide (tyF ci k = .array (tyT t)) && Nat.ble N 10000 && Nat.blt t 3
def lenA (x : SpA) : Nat := 1 + x.2.2.2.2.2 + 2 + 3
def okAs (ci : Nat) (b : ByteArray) : Nat → List SpA → Bool
  | _, [] => true
  | pc, x :: L => okA ci b pc x && okAs ci b (pc + lenA x) L
def setA (fs : List Value) : List SpA → List Nat → List Value
  | x :: L, q :: qs => setA (fs.set x.1 (.ref q)) L qs
  | _, _ => fs
def rowsA (cy : Nat → ClassId) : List SpA → List Nat → va_W
  | x :: L, q :: qs => (q, a0T cy x.2.2.2.2.1 x.2.2.2.1) :: rowsA cy L qs
  | _, _ => []
def sumA : List SpA → Nat
  | [] => 0
  | x :: L => x.2.2.2.1 + sumA L
def endA : Nat → List SpA → Nat
  | pc, [] => pc
  | pc, x :: L => endA (pc + lenA x) L
theorem blksA {p : Program} {l : Launch} {e : Env} {s : State} {m : MethodId} {args : Array Value} {below : List Frame} {meth : Method} {c : Code} {R : Room} {H0 : Heap} {Q : State → Prop} {D : va_G} {cy : Nat → ClassId} {A : Nat → Prop} {cc : ByteArray} {nl : Nat} {ls : Array Slot} {ci h0 n0 : Nat}
    (C : CtB D cy ci cc nl p s m args meth c) (hci : ci < 12) (hl0 : ls[0]? = some (.val (.ref h0))) (hA : ∀ q, H0.size ≤ q → A q) (hn0 : nF ci = n0) (L : List SpA) :
    ∀ (pc : Nat) (fs : List Value) (rows : va_W) (H : Heap) (locs : List Loc) (cells slots : Nat), okAs ci cc pc L = true → fs.length = n0 → cells + L.length ≤ R.cells → slots + sumA L ≤ R.slots → va_P D vwCl ((h0, .inr (ci, fs)) :: rows) H → va_D A ((h0, .inr (ci, fs)) :: rows) → va_S A H0 H locs →
      (∀ (qs : List Nat) (H1 : Heap) (locs1 : List Loc), qs.length = L.length → va_P D vwCl ((h0, .inr (ci, setA fs L qs)) :: (rows ++ rowsA cy L qs)) H1 → va_D A ((h0, .inr (ci, setA fs L qs)) :: (rows ++ rowsA cy L qs)) → va_S A H0 H1 locs1 → W p l e R s m args below meth c H1 locs1 (cells + L.length) (slots + sumA L) Q (F0 m (endA pc L) ls [])) →
      W p l e R s m args below meth c H locs cells slots Q (F0 m pc ls []) := by
  induction L with
  | nil =>
    intro pc fs rows H locs cells slots _ _ _ _ hP hD hS kk
    have h := kk [] H locs rfl (by rw [show rows ++ rowsA cy [] [] = rows from List.append_nil rows]; exact hP) (by rw [show rows ++ rowsA cy [] [] = rows from List.append_nil rows]; exact hD) hS
    exact h
  | cons x L ih =>
    intro pc fs rows H locs cells slots hok hfl hc hs hP hD hS kk
    obtain ⟨k, i, cw, N, t, w⟩ := x
    obtain ⟨hx, hb, hml, hown, hts, hin, hK⟩ := id C
    simp only [okAs, Bool.and_eq_true] at hok
    obtain ⟨hok, hoks⟩ := hok
    simp only [okA, Bool.and_eq_true, decide_eq_true_iff] at hok
    obtain ⟨⟨⟨⟨⟨⟨⟨⟨⟨h1, h2⟩, h3⟩, h4⟩, h5⟩, h6⟩, h7⟩, h8⟩, h9⟩, h10⟩ := hok
    have hN := Nat.le_of_ble_eq_true h9
    have ht : t < 3 := Nat.le_of_ble_eq_true h10
    have hk : k < nF ci := Nat.le_of_ble_eq_true h5
    have hs1 : slots + N + sumA L ≤ R.slots := by simp only [sumA] at hs; omega
    have hc1 : cells + 1 + L.length ≤ R.cells := by simp only [List.length_cons] at hc; omega
    refine lv_aload_n hx hb h1 rfl hl0 ?_
    have push : W p l e R s m args below meth c H locs cells slots Q (F0 m (pc + 1 + w) ls [.int (nI N), .ref h0]) → W p l e R s m args below meth c H locs cells slots Q (F0 m (pc + 1) ls [.ref h0]) := by
      intro kk
      split at h2
      · rename_i hw
        subst hw
        simp only [Bool.and_eq_true, decide_eq_true_iff] at h2
        exact lv_bipush hx hb h2.1 h2.2 kk
      · simp only [Bool.and_eq_true, decide_eq_true_iff] at h2
        obtain ⟨⟨rfl, h2a⟩, h2b⟩ := h2
        exact lv_sipush hx hb h2a h2b kk
    refine push ?_
    refine newaC hx hb hts hK hP hD hS hA ht (nI_pos (by omega)) (nI_clamp (by omega)) hN (by omega) (by omega) h3 (fun q H1 hP1 hD1 hS1 => ?_)
    refine putR C hci hP1 hD1 hS1 hk (by omega) h6 h7 (fun v => by rw [h8]; exact ⟨rfl, rfl⟩) h4 (fun H2 locs2 hP2 hD2 hS2 => ?_)
    refine ih (pc + 1 + w + 2 + 3) (fs.set k (.ref q)) (rows ++ [(q, a0T cy t N)]) H2 locs2 (cells + 1) (slots + N) ?_ (by rw [List.length_set]; exact hfl) hc1 hs1 hP2 hD2 hS2 ?_
    · rw [show pc + 1 + w + 2 + 3 = pc + lenA (k, i, cw, N, t, w) by simp only [lenA]; omega]
      exact hoks
    · intro qs H3 locs3 hlen hP3 hD3 hS3
      have e1 : rows ++ [(q, a0T cy t N)] ++ rowsA cy L qs = rows ++ rowsA cy ((k, i, cw, N, t, w) :: L) (q :: qs) := by rw [List.append_assoc]; rfl
      rw [e1] at hP3 hD3
      have h := kk (q :: qs) H3 locs3 (by simp only [List.length_cons, hlen]) hP3 hD3 hS3
      have e2 : cells + ((k, i, cw, N, t, w) :: L).length = cells + 1 + L.length := by simp only [List.length_cons]; omega
      have e3 : slots + sumA ((k, i, cw, N, t, w) :: L) = slots + N + sumA L := by simp only [sumA]; omega
      have e4 : endA pc ((k, i, cw, N, t, w) :: L) = endA (pc + 1 + w + 2 + 3) L := by
        show endA (pc + lenA (k, i, cw, N, t, w)) L = _
        rw [show pc + lenA (k, i, cw, N, t, w) = pc + 1 + w + 2 + 3 by simp only [lenA]; omega]
      rw [e2, e3, e4] at h
      exact h
