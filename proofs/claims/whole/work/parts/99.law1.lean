/-! THE LAW: blocks of its loop -/
def LwC (D : va_G) (cy : Nat → ClassId) (p : Program) (s : State) (m : MethodId) (b L : Nat) (xs : Nat → Int32) (meth : Method) (c : Code) : Prop :=
  p.tables.exec = Jvm.exec ∧ c.code = code ∧ c.maxLocals = 4 ∧ s.vm.findClass R_law = some m.cls ∧ (∀ w ∈ lw_g, w.before #[Value.ref b] s = true) ∧ NW s ∧ va_K D vwCl (tyW cy) s
def okArg (pc k : Nat) : Bool := decide (decode code pc = .ok (.aload_n 0, 1)) && decide (decode code (pc + 1) = .ok (.iload_n 3, 1)) && (if k ≤ 5 then decide (decode code (pc + 2) = .ok (.iconst k, 1)) && decide (decode code (pc + 3) = .ok (.iadd, 1)) && decide (decode code (pc + 4) = .ok (.iaload, 1)) else decide (k = 6) && decide (decode code (pc + 2) = .ok (.bipush 6, 2)) && decide (decode code (pc + 4) = .ok (.iadd, 1)) && decide (decode code (pc + 5) = .ok (.iaload, 1)))
def wG (k : Nat) : Nat := if k ≤ 5 then 5 else 6
def okArgs : Nat → List Nat → Bool
  | _, [] => true
  | pc, k :: ks => okArg pc k && Nat.ble k 6 && okArgs (pc + wG k) ks
def endG : Nat → List Nat → Nat
  | pc, [] => pc
  | pc, k :: ks => endG (pc + wG k) ks
section LAW
variable {p : Program} {l : Launch} {e : Env} {s : State} {m : MethodId} {below : List Frame} {meth : Method} {c : Code} {H Hc : Heap} {locs : List Loc} {cells slots : Nat} {Q : State → Prop} {D : va_G} {cy : Nat → ClassId} {A : Nat → Prop} {ls : Array Slot} {b L i : Nat} {xs : Nat → Int32}
theorem argL (C : LwC D cy p s m b L xs meth c) (hX : va_X b L xs s Hc) (hbl : b < Hc.size) (hbA : ¬ A b) (hS : va_S A Hc H locs) (hl0 : ls[0]? = some (.val (.ref b))) (hl3 : ls[3]? = some (.val (.int (nI i)))) (hL : L ≤ 3584) {k pc : Nat} (hk : k ≤ 6) (hik : i + k < L) (hok : okArg pc k = true) {rest : List Value}
    (kk : W p l e room_1 s m #[Value.ref b] below meth c H locs cells slots Q (F0 m (pc + wG k) ls (.int (xs (i + k)) :: rest))) : W p l e room_1 s m #[Value.ref b] below meth c H locs cells slots Q (F0 m pc ls rest) := by
  obtain ⟨hx, hb, hml, hown, hts, hnw, hK⟩ := C
  simp only [okArg, Bool.and_eq_true, decide_eq_true_iff] at hok
  obtain ⟨⟨h1, h2⟩, h3⟩ := hok
  refine lv_aload_n hx hb h1 rfl hl0 ?_
  refine lv_iload_n hx hb h2 rfl hl3 ?_
  have hval : xs (nI (i + k)).toNatClampNeg = xs (i + k) := by rw [nI_clamp (by omega)]
  have hin : vp_in (nI (i + k)) L := vp_of hik (by omega)
  split at h3
  · rename_i h5
    simp only [Bool.and_eq_true, decide_eq_true_iff] at h3
    obtain ⟨⟨a1, a2⟩, a3⟩ := h3
    refine lv_iconst (v := nI k) hx hb a1 rfl ?_
    refine lv_iadd hx hb a2 ?_
    rw [nI_add]
    refine va_sld hx hb hX hbl hbA hS hin a3 ?_
    rw [hval]
    have e1 : wG k = 5 := if_pos h5
    rw [e1] at kk
    exact kk
  · rename_i h5
    simp only [Bool.and_eq_true, decide_eq_true_iff] at h3
    obtain ⟨⟨⟨rfl, a1⟩, a2⟩, a3⟩ := h3
    refine lv_bipush (v := nI 6) hx hb a1 (by decide) ?_
    refine lv_iadd hx hb a2 ?_
    rw [nI_add]
    refine va_sld hx hb hX hbl hbA hS hin a3 ?_
    rw [hval]
    exact kk
theorem argsL (C : LwC D cy p s m b L xs meth c) (hX : va_X b L xs s Hc) (hbl : b < Hc.size) (hbA : ¬ A b) (hS : va_S A Hc H locs) (hl0 : ls[0]? = some (.val (.ref b))) (hl3 : ls[3]? = some (.val (.int (nI i)))) (hL : L ≤ 3584) (hi : i + 7 ≤ L) (ks : List Nat) :
    ∀ (pc : Nat) (rest : List Value), okArgs pc ks = true → W p l e room_1 s m #[Value.ref b] below meth c H locs cells slots Q (F0 m (endG pc ks) ls ((ks.map fun k => Value.int (xs (i + k))).reverse ++ rest)) → W p l e room_1 s m #[Value.ref b] below meth c H locs cells slots Q (F0 m pc ls rest) := by
  induction ks with
  | nil => intro pc rest _ kk; exact kk
  | cons k ks ih =>
    intro pc rest hok kk
    simp only [okArgs, Bool.and_eq_true] at hok
    have hk := Nat.le_of_ble_eq_true hok.1.2
    refine argL C hX hbl hbA hS hl0 hl3 hL hk (by omega) hok.1.1 ?_
    refine ih _ _ hok.2 ?_
    have e1 : ((k :: ks).map fun k => Value.int (xs (i + k))).reverse ++ rest = (ks.map fun k => Value.int (xs (i + k))).reverse ++ (Value.int (xs (i + k)) :: rest) := by simp
    rw [e1] at kk
    exact kk
def okV (z ci n i w : Nat) : Bool := Nat.blt z 212 && Nat.beq n (mA z) && Nat.ble (mF z + 1) 9 && Nat.ble (8 + (mL z + 11) + mW z) 356 && inG w (.methodLink R_law i (mN z)) && !(Nat.beq (mP z).2.2.2 9999) && Nat.beq (mC z) ci && Nat.ble (n + 1) (mL z)
theorem flat_ints (as : List Int32) : flatV (as.map Value.int) = as.map Value.int := by
  induction as with
  | nil => rfl
  | cons a as ih => rw [List.map_cons]; show Value.int a :: flatV _ = _; rw [ih]
theorem cv_ints (ad : Nat → Nat) (as : List Int32) : (as.map Value.int).map (cv ad) = as.map Value.int := by
  rw [List.map_map]; rfl
set_option maxHeartbeats 1000000 in
/-- a method of the class or of the model is called -/
theorem callL {ad : Nat → Nat} (hi : injW ad) (C : LwC D cy p s m b L xs meth c) (hls : ls.size = 4) {σ σ1 : St} (hP : va_P D vwCl (wsW ad cy σ) H) (hS : va_S (adA ad) Hc H locs) {z ci ix w pc : Nat} {as : List Int32} {rs : List Value} {rest : List Value} (hok : okV z ci as.length ix w = true) (hcr : (rest.map fun v => v.category).sum ≤ 8) (hd : decode code pc = .ok (.invokevirtual ix, 3))
    (hret : Ret z (.ref ci :: as.map Value.int) σ rs σ1) (hf : cells ≤ 93 ∧ slots ≤ 9420)
    (kk : ∀ (H1 : Heap) (locs1 : List Loc), va_P D vwCl (wsW ad cy σ1) H1 → va_S (adA ad) Hc H1 locs1 → W p l e room_1 s m #[Value.ref b] below meth c H1 locs1 cells slots Q (F0 m (pc + 3) ls (rs.map (cv ad) ++ rest))) :
    W p l e room_1 s m #[Value.ref b] below meth c H locs cells slots Q (F0 m pc ls ((as.map Value.int).reverse ++ .ref (ad ci) :: rest)) := by
  obtain ⟨hx, hb, hml, hown, hts, hnw, hK⟩ := C
  simp only [okV, Bool.and_eq_true] at hok
  obtain ⟨⟨⟨⟨⟨⟨⟨h1, h2⟩, h3⟩, h4⟩, h5⟩, h6⟩, h7⟩, h8⟩ := hok
  have hz : z < 212 := Nat.le_of_ble_eq_true h1
  have hnine : ¬ (mP z).2.2.2 = 9999 := by
    intro q
    rw [q] at h6
    exact absurd h6 (by decide)
  have hspec := (okM_spec hz).2.2.2
  rw [if_neg hnine] at hspec
  have hci := Nat.eq_of_beq_eq_true h7
  subst hci
  have hA := Nat.eq_of_beq_eq_true h2
  have hfl : (flatV (.ref (mC z) :: as.map Value.int)).length ≤ mL z := by
    show (Value.ref (mC z) :: flatV (as.map Value.int)).length ≤ mL z
    rw [flat_ints, List.length_cons, List.length_map]
    exact Nat.le_of_ble_eq_true h8
  have hM := metG l D ad cy hi hz hfl hret
  have hk3 : (hk (mC z)).1 = 3 := by
    have : ∀ j, j < 12 → (hk j).1 = 3 := by decide +kernel
    exact this _ hspec.2.2.1
  have hrec := va_recv (q := (RC (mC z), TW (mC z), nF (mC z))) hK hP (show vwCl[mC z]? = _ by rw [vwCl, List.getElem?_map, List.getElem?_range hspec.2.2.1]; rfl) (show (wsW ad cy σ)[mC z]? = some (ad (mC z), .inr (mC z, _)) by rw [wsW_get (by have := hspec.2.2.1; omega), ent_o hk3])
  have hpre : PreV s H (mN z).cls (ad (mC z)) (PcW D ad cy σ (.ref (mC z) :: as.map Value.int)) (as.map Value.int) := ⟨blindW, by rw [← hspec.2.2.2]; exact hrec, fun U hU hW => ⟨by rw [List.map_cons, cv_ints]; rfl, by rw [hU]; exact hP, va_K.moved hW.alike hK, hnw.warm hW⟩⟩
  refine callG (rest := rest) (rs := rs) (σ1 := σ1) (a := (Value.ref (ad (mC z)) :: as.map Value.int).toArray) ?_ hS kk
  exact va_runV ⟨hx, hb, hml, hown, hts⟩ hM ⟨callB_of as.length hts (goodM hz) rfl rfl rfl (hts _ (okM_spec hz).1) (hts _ (inG_mem h5)) ⟨(okM_spec hz).2.2.1.1, (okM_spec hz).2.2.1.2.1, by rw [hA]; exact (okM_spec hz).2.2.1.2.2⟩ ⟨Nat.le_of_ble_eq_true h3, Nat.le_of_ble_eq_true h4⟩, hts _ hspec.1, hts _ hspec.2.1⟩ hpre rfl (by rw [List.length_map]) hls rfl (lv_room hcr) hd ⟨hf.1, hf.2⟩
end LAW
