/-! THE CONSTRUCTORS: a contract's frame, rows that are filled, the state that they make -/
def s0V (i : Nat) : Int32 := bif Nat.beq i 13 || Nat.beq i 71 || Nat.beq i 73 then 9999 else bif Nat.beq i 16 || Nat.beq i 47 || Nat.beq i 49 then -1 else bif Nat.beq i 19 || Nat.beq i 52 then -9 else bif Nat.beq i 20 || Nat.beq i 53 then 9 else bif Nat.beq i 65 || Nat.beq i 74 || Nat.beq i 76 || Nat.beq i 77 then -6 else 0
def s0 : St := (fun i => bif Nat.blt i 12 then (fun k => bif (Nat.beq i 3 && Nat.beq k 10) || (Nat.beq i 11 && Nat.beq k 0) then 1 else 0) else (fun _ => s0V i), fun _ => 0)
def adN (ad : Nat → Nat) (ci h0 c0 r : Nat) (g : Nat → Nat) : Nat → Nat := fun j => bif Nat.beq j ci then h0 else bif Nat.ble c0 j && Nat.blt j (c0 + r) then g (j - c0) else ad j
def osN (ci c0 r : Nat) : List Nat := ci :: (List.range r).map (fun i => c0 + i)
def nulC (ci : Nat) : List Value := (List.range (nF ci)).map fun k => match tyF ci k with
  | .int => .int 0
  | .boolean => .int 0
  | _ => .null
def aA (h0 sz : Nat) : Nat → Prop := fun q => q = h0 ∨ sz ≤ q
def PcC (D : va_G) (cy : Nat → ClassId) (ci h0 sz : Nat) (as : List Value) : Array Value → State → Prop := va_Pc (.ref h0 :: as) (fun U => U.heap.size = sz ∧ va_P D vwCl [(h0, .inr (ci, nulC ci))] U.heap ∧ va_K D vwCl (tyW cy) U ∧ NW U)
def QcC (D : va_G) (cy : Nat → ClassId) (ad : Nat → Nat) (ci c0 r h0 sz : Nat) : Array Value → State → Outcome → State → Prop := va_Qv (S := Nat → Nat) (fun _ => True) (fun g t => va_P D vwCl (subW (osN ci c0 r) (adN ad ci h0 c0 r g) cy s0) t.heap ∧ va_D (aA h0 sz) (subW (osN ci c0 r) (adN ad ci h0 c0 r g) cy s0)) (aA h0 sz)
theorem qs_map {qs : List Nat} {n : Nat} (h : qs.length = n) : ∃ g : Nat → Nat, qs = (List.range n).map g := by
  refine ⟨fun i => qs.getD i 0, ?_⟩
  apply List.ext_getElem
  · simp [h]
  · intro i h1 h2
    simp [h1]
theorem blindC {D : va_G} {cy : Nat → ClassId} {ci h0 sz : Nat} {as : List Value} : FrameBlind (PcC D cy ci h0 sz as) := by
  intro a U g mk q
  obtain ⟨q0, q1, qP, qK, qN⟩ := q
  exact ⟨q0, q1, qP, va_K.moved (u := U) (U := U.calling g mk a) (Vm.Alike.refl U.vm) qK, qN.same rfl⟩
theorem ow_1 : Cond.instanceMethod objectInit ∈ lw_g := inG_mem (c := 85) (by decide +kernel)
theorem ow_2 : Cond.code objectInit ⟨#[0xb1]⟩ 1 none ∈ lw_g := inG_mem (c := 86) (by decide +kernel)
theorem vaD_one {h0 sz : Nat} {x : va_E} : va_D (aA h0 sz) [(h0, x)] := by
  constructor
  · intro i j x y h1 h2 _
    have z1 : i < 1 := (List.getElem?_eq_some_iff.mp h1).1
    have z2 : j < 1 := (List.getElem?_eq_some_iff.mp h2).1
    omega
  · intro k q hq
    have hz : k < 1 := (List.getElem?_eq_some_iff.mp hq).1
    rw [show k = 0 by omega] at hq
    cases hq
    exact Or.inl rfl
set_option maxHeartbeats 1000000 in
/-- a constructor's contract: behind the call of Object's -/
theorem ctorM {l : Launch} {D : va_G} {cy : Nat → ClassId} {Qc : Array Value → State → Outcome → State → Prop} {ci r h0 sz i w S fr lo n : Nat} {y : MethodName} {b : ByteArray} {as : List Value} (hy : plainName y.cls = true) (hcls : y.cls = RC ci) (hnm : y.name = "<init>") (hw : inG w (.methodLink (RC ci) i objectInit) = true) (hd0 : decode b 0 = .ok (.aload_n 0, 1)) (hd1 : decode b 1 = .ok (.invokespecial i, 3))
    (hfr : 1 ≤ fr) (hlo : 12 ≤ lo) (hle : (lg_sl (.ref h0 :: as)).length ≤ n)
    (body : ∀ (p : Program) (e : Env) (s : State) (m : MethodId) (below : List Frame) (meth : Method) (c : Code) (ls : Array Slot), CtB D cy ci b n p s m (Value.ref h0 :: as).toArray meth c → lv_has ls n (lv_args 0 (.ref h0 :: as)) → va_P D vwCl [(h0, .inr (ci, nulC ci))] s.heap → va_D (aA h0 s.heap.size) [(h0, .inr (ci, nulC ci))] → va_S (aA h0 s.heap.size) s.heap s.heap [] → meth.sig.returnType = none → meth.locks = false → NW s → s.heap.size = sz →
      W p l e { frames := fr, cells := r, slots := S, locals := lo } s m (Value.ref h0 :: as).toArray below meth c s.heap [] 0 0 (MQ below Qc (Value.ref h0 :: as).toArray s r S (aA h0 sz)) (F0 m 4 ls [])) :
    Met l y (wsC y b n) { frames := fr, cells := r, slots := S, locals := lo } (PcC D cy ci h0 sz as) Qc r S (aA h0 sz) := by
  refine Met.ofW (cc := b) (maxL := n) (ret := none) hy rfl ?_
  intro p e s m args below meth c s₁ B hml hv
  obtain ⟨rfl, hsz, hP, hK, hN⟩ := hv
  have hx := B.exec
  have hb := B.bytes
  have hr := B.returns
  have hts := atoms_spec (ws := wsC y b n) B.pre
  have hts : ∀ w ∈ lw_g, w.before (Value.ref h0 :: as).toArray s = true := fun w hw => hts w (List.mem_cons_of_mem _ hw)
  have hown : s.vm.findClass y.cls = some m.cls := findClass_of_methodNamed B.named
  rw [hcls] at hown
  have hlocks := B.notSynchronized
  have hin : meth.name = "<init>" := (name_of_methodNamed B.named B.method).1.trans hnm
  have hl := lv_entry (.ref h0 :: as) (n := n) hle
  rw [lg_entry_eq]
  generalize (lg_sl (.ref h0 :: as) ++ List.replicate (n - (lg_sl (.ref h0 :: as)).length) Slot.unset).toArray = ls at hl ⊢
  have hl0 : ls[0]? = some (.val (.ref h0)) := lv_at hl 0 rfl
  refine lv_aload_n hx hb hd0 rfl hl0 ?_
  refine W.objInit hx hb hown (hts _ (inG_mem hw)) (hts _ ow_1) (hts _ ow_2) rfl (by rw [hml]; exact hl.1) rfl hd1 hfr (by show 2 * 0 + 0 + 12 ≤ lo; omega) ?_
  exact body p e s m below meth c ls ⟨hx, hb, hml, hown, hts, hin, hK⟩ hl hP vaD_one va_S.rf hr hlocks hN hsz
theorem fw_1 : Cond.static (mN 211) ∈ lw_g := by
  have h := (okM_spec (z := 211) (by decide)).2.2.2
  rw [if_pos (by decide +kernel)] at h
  exact h
theorem fw_2 : Cond.code (mN 211) (mB 211) 4 none ∈ lw_g := okW_z (z := 211) (by decide)
def okP (b : ByteArray) (pc w : Nat) (v : Int) : Bool := if w = 1 then decide (decode b pc = .ok (.iconst v, 1)) else if w = 2 then decide (decode b pc = .ok (.bipush v, 2)) && decide ((Int8.ofInt v).toInt32 = Int32.ofInt v) else decide (w = 3) && decide (decode b pc = .ok (.sipush v, 3)) && decide ((Int16.ofInt v).toInt32 = Int32.ofInt v)
theorem pushV {p : Program} {l : Launch} {e : Env} {s : State} {m : MethodId} {args : Array Value} {below : List Frame} {meth : Method} {c : Code} {R : Room} {H : Heap} {locs : List Loc} {cells slots : Nat} {Q : State → Prop} {cc : ByteArray} {pc : Nat} {ls : Array Slot} {rest : List Value} (hx : p.tables.exec = Jvm.exec) (hb : c.code = cc) {w : Nat} {v : Int} (h : okP cc pc w v = true)
    (kk : W p l e R s m args below meth c H locs cells slots Q (F0 m (pc + w) ls (.int (Int32.ofInt v) :: rest))) : W p l e R s m args below meth c H locs cells slots Q (F0 m pc ls rest) := by
  unfold okP at h
  split at h
  · rename_i hw
    subst hw
    exact lv_iconst hx hb (of_decide_eq_true h) rfl kk
  · split at h
    · rename_i hw
      subst hw
      simp only [Bool.and_eq_true, decide_eq_true_iff] at h
      exact lv_bipush hx hb h.1 h.2 kk
    · simp only [Bool.and_eq_true, decide_eq_true_iff] at h
      obtain ⟨⟨rfl, h1⟩, h2⟩ := h
      exact lv_sipush hx hb h1 h2 kk
def okFi (ci : Nat) (b : ByteArray) (pc k i cw w j cj : Nat) (v : Int) : Bool := decide (decode b pc = .ok (.aload_n 0, 1)) && decide (decode b (pc + 1) = .ok (.getfield i, 3)) && okP b (pc + 1 + 3) w v && decide (decode b (pc + 1 + 3 + w) = .ok (.invokestatic j, 3)) && Nat.blt k (nF ci) && inG cw (.fieldLink (RC ci) i (RC ci) (fld ci k).1 (fld ci k).2.1) && inG cj (.methodLink (RC ci) j (mN 211))
set_option maxHeartbeats 1000000 in
theorem blkF {p : Program} {l : Launch} {e : Env} {s : State} {m : MethodId} {args : Array Value} {below : List Frame} {meth : Method} {c : Code} {R : Room} {H H0 : Heap} {locs : List Loc} {cells slots : Nat} {Q : State → Prop} {D : va_G} {cy : Nat → ClassId} {A : Nat → Prop} {cc : ByteArray} {nl pc : Nat} {ls : Array Slot} {ci h0 : Nat} {fs : List Value} {rows : va_W}
    (C : CtB D cy ci cc nl p s m args meth c) (hci : ci < 12) (hl0 : ls[0]? = some (.val (.ref h0))) (hls : ls.size = nl) (hP : va_P D vwCl ((h0, .inr (ci, fs)) :: rows) H) (hD : va_D A ((h0, .inr (ci, fs)) :: rows)) (hS : va_S A H0 H locs) (hR : 1 ≤ R.frames ∧ 23 ≤ R.locals) (hf : cells ≤ R.cells ∧ slots ≤ R.slots)
    {k i cw w j cj : Nat} {v : Int} (hok : okFi ci cc pc k i cw w j cj v = true) {a N r : Nat} {f : Nat → Int32} (hv : fs[k]? = some (.ref a)) (hrw : rows[r]? = some (a, .inl (cy 0, N, .inl f))) (hN : N < 2 ^ 31)
    (kk : ∀ (H1 : Heap) (locs1 : List Loc), va_P D vwCl ((h0, .inr (ci, fs)) :: rows.set r (a, .inl (cy 0, N, .inl fun _ => Int32.ofInt v))) H1 → va_D A ((h0, .inr (ci, fs)) :: rows.set r (a, .inl (cy 0, N, .inl fun _ => Int32.ofInt v))) → va_S A H0 H1 locs1 → W p l e R s m args below meth c H1 locs1 cells slots Q (F0 m (pc + 1 + 3 + w + 3) ls [])) : W p l e R s m args below meth c H locs cells slots Q (F0 m pc ls []) := by
  obtain ⟨hx, hb, hml, hown, hts, hin, hK⟩ := id C
  simp only [okFi, Bool.and_eq_true, decide_eq_true_iff] at hok
  obtain ⟨⟨⟨⟨⟨⟨h1, h2⟩, h3⟩, h4⟩, h5⟩, h6⟩, h7⟩ := hok
  refine lv_aload_n hx hb h1 rfl hl0 ?_
  refine getR C hci hP (Nat.le_of_ble_eq_true h5) hv h6 h2 ?_
  refine pushV hx hb h3 ?_
  have hAa : A a := hD.2 (r + 1) _ hrw
  have hPc : va_P D vwCl [(a, .inl (cy 0, N, .inl f))] H := by
    intro k q hq
    have hz : k < 1 := (List.getElem?_eq_some_iff.mp hq).1
    rw [show k = 0 by omega] at hq
    cases hq
    exact hP (r + 1) _ hrw
  have hpre : PreS s H (va_Pc [.ref a, .int (Int32.ofInt v)] (fun U => va_P D vwCl [(a, .inl (cy 0, N, .inl f))] U.heap ∧ va_K D vwCl (tyW cy) U)) [.ref a, .int (Int32.ofInt v)] := ⟨fun b U g mk q => by
    obtain ⟨q0, qP, qK⟩ := q
    exact ⟨q0, qP, va_K.moved (u := U) (U := U.calling g mk b) (Vm.Alike.refl U.vm) qK⟩, fun U hU hW => ⟨rfl, by rw [hU]; exact hPc, va_K.moved hW.alike hK⟩⟩
  refine va_callv (va_runS (As := [.ref a, .int (Int32.ofInt v)]) (rest := []) ⟨hx, hb, hml, hown, hts⟩ (c_fill l D cy a N f (Int32.ofInt v) hN) ⟨callB_of 2 hts (goodC fw_2) rfl rfl rfl (hts _ (okM_spec (z := 211) (by decide)).1) (hts _ (inG_mem h7)) (by decide +kernel) ⟨hR.1, hR.2⟩, hts _ fw_1⟩ hpre rfl rfl hls rfl (lv_room (Nat.le_of_ble_eq_true rfl)) h4 ⟨hf.1, hf.2⟩) hS (fun q _ h => by rw [h]; exact hAa) (fun q h => by rw [h]; exact hAa) ?_
  intro u t H1 locs1 ht hvm _ hB hz1 hk1 hS1
  have hB : va_P D vwCl [(a, .inl (cy 0, N, .inl fun _ => Int32.ofInt v))] H1 := by rw [← ht]; exact hB
  refine kk H1 locs1 ?_ (hD.set (p := r + 1) hrw) hS1
  intro k q hq
  have hq : (((h0, .inr (ci, fs)) :: rows).set (r + 1) (a, .inl (cy 0, N, .inl fun _ => Int32.ofInt v)))[k]? = some q := hq
  rw [List.getElem?_set] at hq
  split at hq
  · split at hq
    · cases hq
      exact hB 0 _ rfl
    · cases hq
  · rename_i hne
    have h9 := hP k q hq
    refine h9.kept (hk1 q.1 h9.lt ?_)
    intro e9
    exact hne (hD.1 (r + 1) k _ q hrw hq e9.symm)
