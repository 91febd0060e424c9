/-! THE CLASS'S CONSTRUCTOR: blocks -/
theorem subW_ad {os : List Nat} {ad ad' : Nat → Nat} {cy : Nat → ClassId} {σ : St} (h : ∀ i, i ∈ os → ad' i = ad i ∧ ∀ k j, hr i k = some j → ad' j = ad j) : subW os ad' cy σ = subW os ad cy σ := by
  unfold subW
  apply List.map_congr_left
  intro i hi
  obtain ⟨h1, h2⟩ := h i hi
  have h3 : fv ad' σ i = fv ad σ i := by
    funext k
    unfold fv
    split
    · rename_i j hj
      rw [h2 k j hj]
    · rfl
  unfold ent
  rw [h1, h3]
def osOk (os : List Nat) (ci c0 r : Nat) : Bool := os.all (fun i => !((osN ci c0 r).contains i) && (hrL.getD i []).all (fun o => match o with
  | some j => !((osN ci c0 r).contains j)
  | none => true))
theorem adN_off {ad : Nat → Nat} {ci h0 c0 r j : Nat} {g : Nat → Nat} (h : (osN ci c0 r).contains j = false) : adN ad ci h0 c0 r g j = ad j := by
  have h0 : j ∉ osN ci c0 r := by
    intro hm
    rw [List.contains_iff_mem.mpr hm] at h
    cases h
  have h1 : Nat.beq j ci = false := by
    cases h5 : Nat.beq j ci with
    | true => exact absurd (by rw [Nat.eq_of_beq_eq_true h5]; exact List.mem_cons_self) h0
    | false => rfl
  have h2 : (Nat.ble c0 j && Nat.blt j (c0 + r)) = false := by
    cases h5 : (Nat.ble c0 j && Nat.blt j (c0 + r)) with
    | true =>
      rw [Bool.and_eq_true] at h5
      have a1 := Nat.le_of_ble_eq_true h5.1
      have a2 : j < c0 + r := Nat.le_of_ble_eq_true h5.2
      exact absurd (List.mem_cons_of_mem _ (List.mem_map.mpr ⟨j - c0, List.mem_range.mpr (by omega), by omega⟩)) h0
    | false => rfl
  unfold adN
  rw [h1, h2, cond_false, cond_false]
theorem subW_off {os : List Nat} {ad : Nat → Nat} {cy : Nat → ClassId} {σ : St} {ci h0 c0 r : Nat} {g : Nat → Nat} (h : osOk os ci c0 r = true) : subW os (adN ad ci h0 c0 r g) cy σ = subW os ad cy σ := by
  refine subW_ad (fun i hi => ?_)
  have h1 := List.all_eq_true.mp h i hi
  rw [Bool.and_eq_true] at h1
  refine ⟨adN_off (by simpa using h1.1), fun k j hj => ?_⟩
  have h2 : some j ∈ hrL.getD i [] := by
    unfold hr at hj
    rw [List.getD_eq_getElem?_getD] at hj
    cases h5 : (hrL.getD i [])[k]? with
    | none => rw [h5] at hj; cases hj
    | some o =>
      rw [h5] at hj
      have : o = some j := hj
      rw [← this]
      exact List.mem_of_getElem? h5
  have h3 := List.all_eq_true.mp h1.2 _ h2
  exact adN_off (by simpa using h3)
/-- new, dup -/
theorem newC {p : Program} {l : Launch} {e : Env} {s : State} {m : MethodId} {args : Array Value} {below : List Frame} {meth : Method} {c : Code} {R : Room} {H H0 : Heap} {locs : List Loc} {cells slots : Nat} {Q : State → Prop} {D : va_G} {cy : Nat → ClassId} {A : Nat → Prop} {ws : va_W} {cc : ByteArray} {pc : Nat} {ls : Array Slot} {rest : List Value} {own : String}
    (hx : p.tables.exec = Jvm.exec) (hb : c.code = cc) (hown : s.vm.findClass own = some m.cls) (hts : ∀ w ∈ lw_g, w.before args s = true) (hK : va_K D vwCl (tyW cy) s) {ci idx N w1 w2 w3 : Nat} (hci : ci < 12) (hN : nF ci = N) (hw1 : inG w1 (.classLink own idx (RC ci)) = true) (hw2 : inG w2 (.instantiable (RC ci) (nF ci)) = true) (hw3 : inG w3 (.initialized (RC ci)) = true)
    (hP : va_P D vwCl ws H) (hD : va_D A ws) (hS : va_S A H0 H locs) (hA : ∀ q, H0.size ≤ q → A q) (hfs : ∀ j, j < nF ci → defaultValue (tyF ci j) = vp_V (nulC ci) j) (hcells : cells + 1 ≤ R.cells) (hslots : slots + N ≤ R.slots) (hd : decode cc pc = .ok (.new idx, 3)) (hd2 : decode cc (pc + 3) = .ok (.dup, 1))
    (kk : ∀ (q : Nat) (H1 : Heap), va_P D vwCl (ws ++ [(q, .inr (ci, nulC ci))]) H1 → va_D A (ws ++ [(q, .inr (ci, nulC ci))]) → va_S A H0 H1 locs → W p l e R s m args below meth c H1 locs (cells + 1) (slots + N) Q (F0 m (pc + 3 + 1) ls (.ref q :: .ref q :: rest))) : W p l e R s m args below meth c H locs cells slots Q (F0 m pc ls rest) := by
  subst hN
  have hc : vwCl[ci]? = some (RC ci, TW ci, nF ci) := by rw [vwCl, List.getElem?_map, List.getElem?_range hci]; rfl
  refine va_new (fs := nulC ci) (C := RC ci) (T := TW ci) (N := nF ci) hx hb hts (u_inW hci) (tyF ci) (fun k hk => (okF_k hci hk).2.1) hown (hts _ (inG_mem hw1)) (hts _ (inG_mem hw2)) (hts _ (inG_mem hw3)) hK hP hD hS hA hc hfs hcells hslots hd (fun q H1 hP1 hD1 hS1 => ?_)
  exact lv_dup hx hb hd2 rfl (kk q H1 hP1 hD1 hS1)
theorem nul_ok : (List.range 12).all (fun ci => (List.range (nF ci)).all (fun j => decide (defaultValue (tyF ci j) = vp_V (nulC ci) j))) = true := by decide +kernel
theorem nul_k {ci : Nat} (h : ci < 12) : ∀ j, j < nF ci → defaultValue (tyF ci j) = vp_V (nulC ci) j := fun j hj => of_decide_eq_true (List.all_eq_true.mp (List.all_eq_true.mp nul_ok ci (List.mem_range.mpr h)) j (List.mem_range.mpr hj))
/-- worlds come together behind a constructor -/
theorem joinC {D : va_G} {A : Nat → Prop} {ws w1 : va_W} {q : Nat} {x : va_E} {H H1 H0 : Heap} {locs : List Loc} (hP : va_P D vwCl (ws ++ [(q, x)]) H) (hD : va_D A (ws ++ [(q, x)])) (hS : va_S A H0 H locs) (hA : ∀ q, H0.size ≤ q → A q) (hk : ∀ z : Nat, z < H.size → ¬ aA q H.size z → H1[z]? = H[z]?) (hP1 : va_P D vwCl w1 H1) (hD1 : va_D (aA q H.size) w1) : va_P D vwCl (ws ++ w1) H1 ∧ va_D A (ws ++ w1) := by
  have hq : (ws ++ [(q, x)])[ws.length]? = some (q, x) := by rw [List.getElem?_append_right (Nat.le_refl _)]; simp
  have old : ∀ (k : Nat) (z : Nat × va_E), ws[k]? = some z → (ws ++ [(q, x)])[k]? = some z := fun k z h => by
    rw [List.getElem?_append_left (List.getElem?_eq_some_iff.mp h).1]; exact h
  have lt : ∀ (k : Nat) (z : Nat × va_E), ws[k]? = some z → k < ws.length := fun k z h => (List.getElem?_eq_some_iff.mp h).1
  have off : ∀ (k : Nat) (z : Nat × va_E), ws[k]? = some z → z.1 < H.size ∧ ¬ aA q H.size z.1 := by
    intro k z h
    have hl := (hP k z (old k z h)).lt
    refine ⟨hl, fun ha => ?_⟩
    rcases ha with ha | ha
    · have := hD.1 k ws.length z (q, x) (old k z h) hq ha
      have := lt k z h
      omega
    · omega
  refine ⟨va_P.app (fun k z h => (hP k z (old k z h)).kept (hk z.1 (off k z h).1 (off k z h).2)) hP1, va_D.app ⟨fun i j a b h1 h2 he => hD.1 i j a b (old i a h1) (old j b h2) he, fun k z h => hD.2 k z (old k z h)⟩ (hD1.weaken (fun k z _ h => ?_)) (fun i j a b h1 h2 he => ?_)⟩
  · rcases h with h | h
    · rw [h]; exact hD.2 ws.length (q, x) hq
    · exact hA _ (Nat.le_trans hS.1 h)
  · exact (off i a h1).2 (by rw [he]; exact hD1.2 j b h2)
set_option maxHeartbeats 1000000 in
/-- a constructor is called, and what it made is put into a final field -/
theorem callN {p : Program} {l : Launch} {e : Env} {s : State} {m : MethodId} {args : Array Value} {below : List Frame} {meth : Method} {c : Code} {R : Room} {H H0 : Heap} {locs : List Loc} {cells slots : Nat} {Q : State → Prop} {D : va_G} {cy : Nat → ClassId} {A : Nat → Prop} {cc : ByteArray} {nl pc : Nat} {ls : Array Slot} {h0 q : Nat} {fs : List Value} {os : List Nat} {ad : Nat → Nat} {y : MethodName} {b : ByteArray} {n ci c0 r S i : Nat} {as : List Value}
    (C : CtB D cy 10 cc nl p s m args meth c) (hnw : NW s) (hls : ls.size = nl) (hA : ∀ q, H0.size ≤ q → A q)
    (hP : va_P D vwCl (((h0, .inr (10, fs)) :: subW os ad cy s0) ++ [(q, .inr (ci, nulC ci))]) H) (hD : va_D A (((h0, .inr (10, fs)) :: subW os ad cy s0) ++ [(q, .inr (ci, nulC ci))])) (hS : va_S A H0 H locs)
    (hM : Met l y (wsC y b n) { frames := 1, cells := r, slots := S, locals := 23 } (PcC D cy ci q H.size as) (QcC D cy ad ci c0 r q H.size) r S (aA q H.size)) (hcode : Cond.code y b n none ∈ lw_g) (hnm : y.name = "<init>") (hini : Cond.initialized y.cls ∈ lw_g) (hins : Cond.instanceMethod y ∈ lw_g) (hlink : (Cond.methodLinkNest (RC 10) i y "AshLines" ∈ lw_tbl) ∨ (Cond.methodLink (RC 10) i y ∈ lw_g))
    (hdesc : y.cls ≠ "java/lang/invoke/MethodHandle" ∧ y.cls ≠ "java/lang/invoke/VarHandle" ∧ (parseMethodDescriptor y.desc).map (fun d => d.parameters.length) = some as.length) (hR : 2 ≤ R.frames ∧ 8 + (n + 11) + 23 ≤ R.locals) (hf : cells + r ≤ R.cells ∧ slots + S ≤ R.slots) (hos : osOk os ci c0 r = true) (hd : decode cc pc = .ok (.invokespecial i, 3))
    {k ip w : Nat} (hk : k < nF 10) (hl : k < fs.length) (hw : inG w (.fieldLink (RC 10) ip (RC 10) (fld 10 k).1 (fld 10 k).2.1) = true) (hfi : (fld 10 k).2.2.1 = true) (hty : ∀ v, narrow (tyF 10 k) (.ref v) = .ref v ∧ fits (tyF 10 k) (.ref v) = true) (hdp : decode cc (pc + 3) = .ok (.putfield ip, 3))
    (kk : ∀ (g : Nat → Nat) (H1 : Heap) (locs1 : List Loc), va_P D vwCl ((h0, .inr (10, fs.set k (.ref q))) :: subW (os ++ osN ci c0 r) (adN ad ci q c0 r g) cy s0) H1 → va_D A ((h0, .inr (10, fs.set k (.ref q))) :: subW (os ++ osN ci c0 r) (adN ad ci q c0 r g) cy s0) → va_S A H0 H1 locs1 → W p l e R s m args below meth c H1 locs1 (cells + r) (slots + S) Q (F0 m (pc + 3 + 3) ls [])) :
    W p l e R s m args below meth c H locs cells slots Q (F0 m pc ls (as.reverse ++ [.ref q, .ref q, .ref h0])) := by
  obtain ⟨hx, hb, hml, hown, hts, hin, hK⟩ := id C
  have hq : (((h0, .inr (10, fs)) :: subW os ad cy s0) ++ [(q, .inr (ci, nulC ci))])[((h0, (.inr (10, fs) : va_E)) :: subW os ad cy s0).length]? = some (q, .inr (ci, nulC ci)) := by rw [List.getElem?_append_right (Nat.le_refl _)]; simp
  have hPc : va_P D vwCl [(q, .inr (ci, nulC ci))] H := by
    intro k z hz
    have hz1 : k < 1 := (List.getElem?_eq_some_iff.mp hz).1
    rw [show k = 0 by omega] at hz
    cases hz
    exact hP _ _ hq
  have hAq : A q := hD.2 _ _ hq
  have hF : ∀ z, aA q H.size z → A z := by
    intro z h
    rcases h with h | h
    · rw [h]; exact hAq
    · exact hA _ (Nat.le_trans hS.1 h)
  have hpre : PreS s H (PcC D cy ci q H.size as) (.ref q :: as) := ⟨blindC, fun U hU hW => ⟨rfl, by rw [hU], by rw [hU]; exact hPc, va_K.moved hW.alike hK, hnw.warm hW⟩⟩
  have hrun : va_Run p l e R s m args below meth c H locs cells slots r S (F0 m pc ls (as.reverse ++ [.ref q, .ref q, .ref h0])) [.ref q, .ref h0] (QcC D cy ad ci c0 r q H.size (Value.ref q :: as).toArray) (aA q H.size) := by
    rcases hlink with hlink | hlink
    · exact va_runIN ⟨hx, hb, hml, hown, hts⟩ hM ⟨va_cnB as.length hts (goodC hcode) rfl rfl rfl (hnw _ _ _ _ hlink) (hts _ hini) hdesc hR, hnm, hts _ hins⟩ hpre rfl rfl hls rfl (lv_room (Nat.le_of_ble_eq_true rfl)) hd hf
    · exact va_runI ⟨hx, hb, hml, hown, hts⟩ hM (cwI as.length hts (goodC hcode) rfl rfl rfl (hts _ hini) (hts _ hlink) (hts _ hins) hnm hdesc hR) hpre rfl rfl hls rfl (lv_room (Nat.le_of_ble_eq_true rfl)) hd hf
  refine va_callv hrun hS (fun z _ h => hF z h) hF ?_
  intro g t H1 locs1 ht hvm _ hB hz1 hk1 hS1
  obtain ⟨hP1, hD1⟩ := hB
  rw [ht] at hP1
  obtain ⟨hP2, hD2⟩ := joinC hP hD hS hA hk1 hP1 hD1
  have e1 : ((h0, .inr (10, fs)) :: subW os ad cy s0) ++ subW (osN ci c0 r) (adN ad ci q c0 r g) cy s0 = (h0, .inr (10, fs)) :: subW (os ++ osN ci c0 r) (adN ad ci q c0 r g) cy s0 := by
    rw [← subW_off (h0 := q) (g := g) (ad := ad) (cy := cy) (σ := s0) hos]
    show _ :: (_ ++ _) = _
    unfold subW
    rw [List.map_append]
  rw [e1] at hP2 hD2
  exact putR C (by decide) hP2 hD2 hS1 hk hl hw hfi hty hdp (fun H3 locs3 hP3 hD3 hS3 => kk g H3 locs3 hP3 hD3 hS3)
