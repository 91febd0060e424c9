/-! THE REAL MACHINE FOLLOWS THE ABSTRACT ONE -/
def NW (U : State) : Prop := ∀ (a : String) (i : Nat) (x : MethodName) (h : String), Cond.methodLinkNest a i x h ∈ lw_tbl → va_Nw (.methodLinkNest a i x h) U
theorem NW.warm {s U : State} (hW : s.WarmedH U.vm) (h : NW s) : NW U := fun a i x q m => va_Nw.warmM hW (h a i x q m)
theorem NW.same {s U : State} (e : s.vm = U.vm) (h : NW s) : NW U := fun a i x q m => va_Nw.same rfl e (h a i x q m)
def Ctx (D : va_G) (cy : Nat → ClassId) (y : Nat) (p : Program) (s : State) (m : MethodId) (args : Array Value) (c : Code) (Rm : Room) (cells slots : Nat) : Prop :=
  p.tables.exec = Jvm.exec ∧ c.code = mB y ∧ c.maxLocals = mL y ∧ s.vm.findClass (mN y).cls = some m.cls ∧ (∀ w ∈ lw_g, w.before args s = true) ∧ NW s ∧ (mF y ≤ Rm.frames ∧ mW y ≤ Rm.locals ∧ cells ≤ Rm.cells ∧ slots ≤ Rm.slots) ∧ va_K D vwCl (tyW cy) s
def RetAt (y : Nat) (R : List Value) (pc : Nat) : Prop := match R with
  | [.int v] => decode (mB y) pc = .ok (.ireturn, 1) ∧ (mR y = some .int ∨ (mR y = some .boolean ∧ (v = 0 ∨ v = 1)))
  | [.long _] => decode (mB y) pc = .ok (.lreturn, 1) ∧ mR y = some .long
  | [] => decode (mB y) pc = .ok (.return_, 1) ∧ mR y = none
  | _ => False
def PM (l : Launch) (D : va_G) (ad : Nat → Nat) (cy : Nat → ClassId) : AP := fun y pc lv st σ R S => y < 212 → lv.length = mL y →
  ∀ (p : Program) (e : Env) (s : State) (m : MethodId) (args : Array Value) (below : List Frame) (meth : Method) (c : Code) (H : Heap) (locs : List Loc) (ls : Array Slot) (Rm : Room) (cells slots : Nat) (Qf : State → Prop),
    Ctx D cy y p s m args c Rm cells slots → va_P D vwCl (wsW ad cy σ) H → va_S (adA ad) s.heap H locs → LV ad ls lv →
    (∀ (H1 : Heap) (locs1 : List Loc) (ls1 : Array Slot) (pc1 : Nat), va_P D vwCl (wsW ad cy S) H1 → va_S (adA ad) s.heap H1 locs1 → RetAt y R pc1 → W p l e Rm s m args below meth c H1 locs1 cells slots Qf (F0 m pc1 ls1 (R.map (cv ad)))) →
    W p l e Rm s m args below meth c H locs cells slots Qf (F0 m pc ls (st.map (cv ad)))
/-! a method's contract out of its way -/
def wsM (z : Nat) : List Cond := Cond.code (mN z) (mB z) (mL z) (mR z) :: lw_g
def rmM (z : Nat) : Room := { frames := mF z, cells := 0, slots := 0, locals := mW z }
def PcW (D : va_G) (ad : Nat → Nat) (cy : Nat → ClassId) (σ : St) (as : List Value) : Array Value → State → Prop := va_Pc (as.map (cv ad)) (fun U => va_P D vwCl (wsW ad cy σ) U.heap ∧ va_K D vwCl (tyW cy) U ∧ NW U)
def QcW (D : va_G) (ad : Nat → Nat) (cy : Nat → ClassId) (R : List Value) (S : St) : Array Value → State → Outcome → State → Prop := fun _ st o t => (o = .returned (R.map (cv ad)).head? ∧ R.length ≤ 1 ∧ va_P D vwCl (wsW ad cy S) t.heap) ∧ va_F (adA ad) st t
theorem blindW {D : va_G} {ad : Nat → Nat} {cy : Nat → ClassId} {σ : St} {as : List Value} : FrameBlind (PcW D ad cy σ as) := by
  intro a U g mk q
  obtain ⟨q0, qP, qK, qN⟩ := q
  exact ⟨q0, qP, va_K.moved (u := U) (U := U.calling g mk a) (Vm.Alike.refl U.vm) qK, qN.same rfl⟩
theorem goodM {z : Nat} (hz : z < 212) : GoodIn lw_g (wsM z) := by
  intro w hw
  have h1 : w ∈ lw_g := by
    rcases List.mem_cons.mp hw with rfl | h
    · exact okW_z hz
    · exact h
  exact ⟨h1, good_of_word (List.mem_filter.mp h1).2⟩
theorem okM_spec {z : Nat} (hz : z < 212) : Cond.initialized (mN z).cls ∈ lw_g ∧ Jvm.plainName (mN z).cls = true ∧ ((mN z).cls ≠ "java/lang/invoke/MethodHandle" ∧ (mN z).cls ≠ "java/lang/invoke/VarHandle" ∧ (parseMethodDescriptor (mN z).desc).map (fun d => d.parameters.length) = some (mA z)) ∧
    (if (mP z).2.2.2 = 9999 then Cond.static (mN z) ∈ lw_g else Cond.instanceMethod (mN z) ∈ lw_g ∧ Cond.selects (mN z).cls (mN z) (mN z) ∈ lw_g ∧ mC z < 12 ∧ RC (mC z) = (mN z).cls) := by
  have h := okM_all hz
  simp only [okM, Bool.and_eq_true, decide_eq_true_iff] at h
  refine ⟨inG_mem h.1.1.1.1.1, h.1.1.1.1.2, ⟨h.1.1.1.2, h.1.1.2, h.1.2⟩, ?_⟩
  have h2 := h.2
  rw [cond_eq_ite] at h2
  split at h2
  · rename_i q
    rw [if_pos (Nat.eq_of_beq_eq_true q)]
    exact inG_mem h2
  · rename_i q
    rw [if_neg (fun e => q (by rw [e]; rfl))]
    simp only [Bool.and_eq_true, decide_eq_true_iff] at h2
    exact ⟨inG_mem h2.1.1.1, inG_mem h2.1.1.2, Nat.le_of_ble_eq_true h2.1.2, h2.2⟩
theorem metW {l : Launch} {D : va_G} {ad : Nat → Nat} {cy : Nat → ClassId} {z : Nat} {as : List Value} {σ : St} {R : List Value} {S : St} (hz : z < 212) (hfl : (flatV as).length ≤ mL z) (h : PM l D ad cy z 0 (entL as (mL z)) [] σ R S) :
    Met l (mN z) (wsM z) (rmM z) (PcW D ad cy σ as) (QcW D ad cy R S) 0 0 (adA ad) := by
  refine Met.ofW (cc := mB z) (maxL := mL z) (ret := mR z) (okM_spec hz).2.1 rfl ?_
  intro p e s m args below meth c s₁ B hml hv
  obtain ⟨rfl, hP, hK, hN⟩ := hv
  have hts := atoms_spec (ws := wsM z) B.pre
  have hown : s.vm.findClass (mN z).cls = some m.cls := findClass_of_methodNamed B.named
  have hx := B.exec
  have hb := B.bytes
  have hr := B.returns
  have hlocks := B.notSynchronized
  rw [lg_entry_eq]
  refine h hz (entL_len hfl) p e s m _ below meth c s.heap [] _ (headSpec (wsM z) (rmM z)).room 0 0 _ ⟨hx, hb, hml, hown, fun w hw => hts w (List.mem_cons_of_mem _ hw), hN, ⟨Nat.le_refl _, Nat.le_refl _, Nat.le_refl _, Nat.le_refl _⟩, hK⟩ hP va_S.rf (LV.entry hfl) ?_
  intro H1 locs1 ls1 pc1 hP1 hS1 hR
  unfold RetAt at hR
  split at hR
  · rename_i v
    obtain ⟨hd, hty⟩ := hR
    rcases hty with hty | ⟨hty, hv⟩
    · exact W.iret (v := v) hx hb (by rw [hr, hty]) (fun t ht hW => ⟨⟨rfl, Nat.le_refl 1, by rw [ht]; exact hP1⟩, hS1.F ht⟩) hS1.2.2 hd
    · exact W.zret (v := v) (ty := .boolean) hx hb (by rw [hr, hty]) (by rcases hv with rfl | rfl <;> rfl) (fun t ht hW => ⟨⟨rfl, Nat.le_refl 1, by rw [ht]; exact hP1⟩, hS1.F ht⟩) hS1.2.2 hd
  · rename_i v
    obtain ⟨hd, hty⟩ := hR
    exact W.lret (v := v) hx hb (by rw [hr, hty]) (fun t ht hW => ⟨⟨rfl, Nat.le_refl 1, by rw [ht]; exact hP1⟩, hS1.F ht⟩) hS1.2.2 hd
  · obtain ⟨hd, hty⟩ := hR
    exact W.vret hx hb (by rw [hr, hty]) (fun t ht hW => ⟨⟨rfl, Nat.zero_le 1, by rw [ht]; exact hP1⟩, hS1.F ht⟩) hS1.2.2 hd
  · exact hR.elim
/-- behind a call -/
theorem callG {p : Program} {l : Launch} {e : Env} {R0 : Room} {s : State} {m : MethodId} {args : Array Value} {below : List Frame} {meth : Method} {c : Code} {H H0 : Heap} {locs : List Loc} {cells slots : Nat} {Q : State → Prop} {D : va_G} {ad : Nat → Nat} {cy : Nat → ClassId} {rs : List Value} {σ1 : St} {a : Array Value} {pc : Nat} {ls : Array Slot} {st0 rest : List Value}
    (hr : va_Run p l e R0 s m args below meth c H locs cells slots 0 0 (F0 m pc ls st0) rest (QcW D ad cy rs σ1 a) (adA ad)) (hS : va_S (adA ad) H0 H locs)
    (kk : ∀ (H1 : Heap) (locs1 : List Loc), va_P D vwCl (wsW ad cy σ1) H1 → va_S (adA ad) H0 H1 locs1 → W p l e R0 s m args below meth c H1 locs1 cells slots Q (F0 m (pc + 3) ls (rs.map (cv ad) ++ rest))) : W p l e R0 s m args below meth c H locs cells slots Q (F0 m pc ls st0) := by
  intro T hT X
  obtain ⟨v, st₀, t, T', L, h0, X', hL, e1, e2, ⟨⟨hv, hlen, hP⟩, hz, hk⟩, st⟩ := hr T hT X
  cases hv
  rw [h0] at hz hk
  have hS1 : va_S (adA ad) H0 T'.heap (locs ++ L) := ⟨Nat.le_trans hS.1 (by rw [e1]; exact hz), fun q h1 h2 => by rw [e1, hk q (Nat.lt_of_lt_of_le h1 hS.1) h2]; exact hS.2.1 q h1 h2, fun q hq => by
      rcases List.mem_append.mp hq with h | h
      · exact hS.2.2 q h
      · exact hL q h⟩
  obtain ⟨t2, a1, b1⟩ := kk T'.heap (locs ++ L) (by rw [e1]; exact hP) hS1 T' rfl X'
  refine ⟨t2, st t2 ?_, b1⟩
  have hl : ((rs.map (cv ad)).head?).toList = rs.map (cv ad) := by
    rcases rs with _ | ⟨r, _ | ⟨r2, rs⟩⟩
    · rfl
    · rfl
    · simp at hlen
  rw [hl]
  exact a1
/-- the callee's words and room -/
theorem callB_W {y z i n c : Nat} {v : Value} {s : State} {args : Array Value} {Rm : Room} (hz : z < 212) (hts : ∀ w ∈ lw_g, w.before args s = true) (hrm : mF y ≤ Rm.frames ∧ mW y ≤ Rm.locals) (hok : okC y i z n c v = true) :
    (Cond.initialized (mN z).cls).before args s = true ∧ n = mA z ∧ (rmM z).frames + 1 ≤ Rm.frames ∧ 8 + (mL z + 11) + (rmM z).locals ≤ Rm.locals := by
  simp only [okC, Bool.and_eq_true] at hok
  refine ⟨hts _ (okM_spec hz).1, Nat.eq_of_beq_eq_true hok.1.1.1.2, Nat.le_trans (Nat.le_of_ble_eq_true hok.1.1.2) hrm.1, Nat.le_trans (Nat.le_of_ble_eq_true hok.1.2) hrm.2⟩
theorem okC_lt {y z i n c : Nat} {v : Value} (hok : okC y i z n c v = true) : z < 212 := by
  simp only [okC, Bool.and_eq_true] at hok
  exact Nat.le_of_ble_eq_true hok.1.1.1.1
