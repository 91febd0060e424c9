/-! THE LAW: from its entry to its loop -/
def instL : List Nat := [223, 343, 295, 88, 139, 315, 253, 387, 368, 185, 80, 964]
theorem inst_ok : (List.range 12).all (fun ci => inG (instL.getD ci 0) (.instantiable (RC ci) (nF ci))) = true := by decide +kernel
theorem inst_k {ci : Nat} (h : ci < 12) : Cond.instantiable (RC ci) (nF ci) ∈ lw_g := inG_mem (List.all_eq_true.mp inst_ok ci (List.mem_range.mpr h))
theorem lw_g_sub {w : Cond} (h : w ∈ lw_g) : w ∈ lw_tbl := (List.mem_filter.mp h).1
theorem known_all {s : State} {args : Array Value} (hts : ∀ w ∈ lw_g, w.before args s = true) : ∃ D : va_G, ∀ (k : Nat) (q : vw_C), vwCl[k]? = some q → u_Kn s q.1 q.2.1 q.2.2 (D.1 k) (D.2 k) := by
  have h : ∀ ci : Nat, ∃ z : ClassId × (Nat → Nat), ci < 12 → u_Kn s (RC ci) (TW ci) (nF ci) z.1 z.2 := by
    intro ci
    by_cases hc : ci < 12
    · obtain ⟨cC, iS, hk⟩ := u_known (C := RC ci) (T := TW ci) (N := nF ci) (n := nF ci) hts (u_inW hc) (hts _ (inst_k hc))
      exact ⟨(cC, iS), fun _ => hk⟩
    · exact ⟨(default, fun _ => 0), fun q => absurd q hc⟩
  obtain ⟨f, hf⟩ := Classical.axiomOfChoice h
  refine ⟨(fun k => (f k).1, fun k => (f k).2), fun k q hq => ?_⟩
  have hk : k < 12 := by
    have := (List.getElem?_eq_some_iff.mp hq).1
    simpa [vwCl] using this
  rw [vwCl, List.getElem?_map, List.getElem?_range hk] at hq
  cases hq
  exact hf k hk
theorem arr_one {s : State} {args : Array Value} {ty : FieldType} (h : (Cond.arrayClass ty).before args s = true) (hp : ∀ cA, va_RA s cA ty = (s.vm.findClass ("[" ++ ty.toString) = some cA)) : ∃ cA, ArrOfT s cA ty ∧ va_RA s cA ty := by
  obtain ⟨cA, kA, comp, h1, h2, h3⟩ := Cond.arrayClass_spec h
  exact ⟨cA, fun n z => ⟨fun k h => (by cases h), kA, h2, comp, h3⟩, by rw [hp]; exact h1⟩
theorem kw_all {s : State} {args : Array Value} (hts : ∀ w ∈ lw_g, w.before args s = true) : ∃ (D : va_G) (cy : Nat → ClassId), va_K D vwCl (tyW cy) s := by
  obtain ⟨D, hD⟩ := known_all hts
  obtain ⟨c0, h0⟩ := arr_one (hts _ aw_i) (fun _ => rfl)
  obtain ⟨c1, h1⟩ := arr_one (hts _ aw_z) (fun _ => rfl)
  obtain ⟨c2, h2⟩ := arr_one (hts _ aw_l) (fun _ => rfl)
  refine ⟨D, fun k => if k = 0 then c0 else if k = 1 then c1 else c2, hD, fun k q hq => ?_⟩
  have hk : k < 3 := by
    have := (List.getElem?_eq_some_iff.mp hq).1
    simpa [tyW] using this
  rcases (show k = 0 ∨ k = 1 ∨ k = 2 by omega) with rfl | rfl | rfl
  · cases hq; exact h0
  · cases hq; exact h1
  · cases hq; exact h2
/-! all cells, in the order of their making -/
def osA : List Nat := (10 :: os10) ++ osN 11 52 41
def ixO (k : Nat) : Nat := osA.idxOf k
theorem ix_ok : (List.range 93).all (fun k => decide (osA[ixO k]? = some k)) = true := by decide +kernel
theorem ix_k {k : Nat} (h : k < 93) : osA[ixO k]? = some k := of_decide_eq_true (List.all_eq_true.mp ix_ok k (List.mem_range.mpr h))
theorem subA_get {ad : Nat → Nat} {cy : Nat → ClassId} {σ : St} {k : Nat} (h : k < 93) : (subW osA ad cy σ)[ixO k]? = some (ad k, ent ad cy σ k) := by
  unfold subW
  rw [List.getElem?_map, ix_k h]
  rfl
theorem subA_W {D : va_G} {ad : Nat → Nat} {cy : Nat → ClassId} {σ : St} {H : Heap} (h : va_P D vwCl (subW osA ad cy σ) H) : va_P D vwCl (wsW ad cy σ) H := by
  refine h.by ixO (fun k q hq => ?_)
  have hk : k < 93 := by
    have := (List.getElem?_eq_some_iff.mp hq).1
    simpa [wsW] using this
  rw [wsW_get hk] at hq
  cases hq
  exact subA_get hk
theorem subA_inj {A : Nat → Prop} {ad : Nat → Nat} {cy : Nat → ClassId} {σ : St} (h : va_D A (subW osA ad cy σ)) : injW ad ∧ ∀ j, j < 93 → A (ad j) := by
  refine ⟨fun i j hi hj e => ?_, fun j hj => h.2 (ixO j) _ (subA_get hj)⟩
  have h1 := h.1 (ixO i) (ixO j) _ _ (subA_get hi) (subA_get hj) e
  have h2 := ix_k hi
  rw [h1, ix_k hj] at h2
  exact (Option.some.inj h2).symm
theorem hdC_10 : yC_10.cls ≠ "java/lang/invoke/MethodHandle" ∧ yC_10.cls ≠ "java/lang/invoke/VarHandle" ∧ (parseMethodDescriptor yC_10.desc).map (fun d => d.parameters.length) = some 0 := by decide +kernel
theorem hdC_11 : yC_11.cls ≠ "java/lang/invoke/MethodHandle" ∧ yC_11.cls ≠ "java/lang/invoke/VarHandle" ∧ (parseMethodDescriptor yC_11.desc).map (fun d => d.parameters.length) = some 0 := by decide +kernel
theorem ok_11 : osOk (10 :: os10) 11 52 41 = true := by decide +kernel
theorem dl_0 : decode code 0 = .ok (.new 7, 3) := by decide +kernel
theorem dl_3 : decode code 3 = .ok (.dup, 1) := by decide +kernel
theorem dl_4 : decode code 4 = .ok (.invokespecial 9, 3) := by decide +kernel
theorem dl_7 : decode code 7 = .ok (.astore_n 1, 1) := by decide +kernel
theorem dl_8 : decode code 8 = .ok (.new 10, 3) := by decide +kernel
theorem dl_11 : decode code 11 = .ok (.dup, 1) := by decide +kernel
theorem dl_12 : decode code 12 = .ok (.invokespecial 12, 3) := by decide +kernel
theorem dl_15 : decode code 15 = .ok (.astore_n 2, 1) := by decide +kernel
theorem dl_16 : decode code 16 = .ok (.iconst 0, 1) := by decide +kernel
theorem dl_17 : decode code 17 = .ok (.istore_n 3, 1) := by decide +kernel
theorem sub_app {os1 os2 : List Nat} {ad : Nat → Nat} {cy : Nat → ClassId} {σ : St} : subW os1 ad cy σ ++ subW os2 ad cy σ = subW (os1 ++ os2) ad cy σ := by
  unfold subW
  rw [List.map_append]
set_option maxHeartbeats 2000000 in
/-- THE LAW, from its entry -/
theorem whole_start {p : Program} {e : Env} {s : State} {m : MethodId} {below : List Frame} {meth : Method} {c : Code} (l : Launch) {b L : Nat} {xs : Nat → Int32} (hL : L ≤ 3584) (C0 : lw_At p s m meth c b L xs) : W p l e room_1 s m #[Value.ref b] below meth c s.heap [] 0 0 (lw_Z below #[Value.ref b] s) (entryFrame m ([Value.ref b] : List Value).toArray 4) := by
  obtain ⟨hx, hb, hr, hml, hown, hts0, hX, hbl, hlocks, hgv⟩ := C0
  have hts : ∀ w ∈ lw_g, w.before #[Value.ref b] s = true := fun w hw => hts0 w (lw_g_sub hw)
  have hnw : NW s := fun a i x h hm => va_Nw.of rfl (hts0 _ hm)
  obtain ⟨D, cy, hK⟩ := kw_all hts
  have hA : ∀ q : Nat, s.heap.size ≤ q → (fun q : Nat => s.heap.size ≤ q) q := fun _ h => h
  have hbA : ¬ (fun q : Nat => s.heap.size ≤ q) b := Nat.not_le.mpr hbl
  have hS : va_S (fun q : Nat => s.heap.size ≤ q) s.heap s.heap [] := va_S.rf
  have hP : va_P D vwCl [] s.heap := fun k q h => by simp at h
  have hD : va_D (fun q : Nat => s.heap.size ≤ q) [] := ⟨fun i j p q h => by simp at h, fun k q h => by simp at h⟩
  have hl := lv_entry ([.ref b]) (n := 4) (Nat.le_of_ble_eq_true rfl)
  rw [lg_entry_eq]
  generalize (lg_sl ([.ref b]) ++ List.replicate (4 - (lg_sl ([.ref b])).length) Slot.unset).toArray = ls at hl ⊢
  have hl : lv_has ls 4 [(0, .ref b)] := hl
  refine newC (ci := 10) (idx := 7) (N := 10) (w1 := 79) (w2 := 80) (w3 := 62) (own := R_law) hx hb hown hts hK (by decide) (by decide +kernel) (by decide +kernel) (by decide +kernel) (by decide +kernel) hP hD hS hA (nul_k (by decide)) (Nat.le_of_ble_eq_true rfl) (Nat.le_of_ble_eq_true rfl) dl_0 dl_3 (fun q0 H hP hD hS => ?_)
  have hPc : va_P D vwCl [(q0, .inr (10, nulC 10))] H := hP
  have hAq : s.heap.size ≤ q0 := hD.2 0 _ rfl
  have hF : ∀ z, aA q0 H.size z → s.heap.size ≤ z := by
    intro z h
    rcases h with h | h
    · rw [h]; exact hAq
    · exact Nat.le_trans hS.1 h
  have hpre : PreS s H (PcC D cy 10 q0 H.size []) [.ref q0] := ⟨blindC, fun U hU hW => ⟨rfl, by rw [hU], by rw [hU]; exact hPc, va_K.moved hW.alike hK, hnw.warm hW⟩⟩
  refine va_callv (va_runI (As := []) (rest := [.ref q0]) ⟨hx, hb, hml, hown, hts⟩ (c_10 l D cy q0 H.size) (cwI 0 hts (goodC wC_10) rfl rfl rfl (hts _ (inG_mem (c := 62) (by decide +kernel))) (hts _ (inG_mem (c := 81) (by decide +kernel))) (hts _ (inG_mem (c := 82) (by decide +kernel))) rfl hdC_10 ⟨Nat.le_of_ble_eq_true rfl, Nat.le_of_ble_eq_true rfl⟩) hpre rfl rfl hl.1 rfl (lv_room (Nat.le_of_ble_eq_true rfl)) dl_4 ⟨Nat.le_of_ble_eq_true rfl, Nat.le_of_ble_eq_true rfl⟩) hS (fun z _ h => hF z h) hF ?_
  intro ad1 t H1 locs1 ht hvm had hB hz1 hk1 hS1
  obtain ⟨hP1, hD1⟩ := hB
  rw [ht] at hP1
  obtain ⟨hP2, hD2⟩ := joinC (ws := []) hP hD hS hA hk1 hP1 hD1
  have hP2 : va_P D vwCl (subW (10 :: os10) ad1 cy s0) H1 := hP2
  have hD2 : va_D (fun q : Nat => s.heap.size ≤ q) (subW (10 :: os10) ad1 cy s0) := hD2
  clear hpre hF hPc hk1 hP1 hD1 hP hD
  have had : ad1 10 = q0 := had
  refine W.widen (k := 51) (n := 3531) (Nat.le_of_ble_eq_true rfl) (Nat.le_of_ble_eq_true rfl) ?_
  refine lv_astore_n (i := 1) (lv' := [(1, .ref q0), (0, .ref b)]) hx hb dl_7 rfl hl (by decide) rfl (fun ls hl => ?_)
  refine newC (ci := 11) (idx := 10) (N := 48) (w1 := 963) (w2 := 964) (w3 := 74) (own := R_law) hx hb hown hts hK (by decide) (by decide +kernel) (by decide +kernel) (by decide +kernel) (by decide +kernel) hP2 hD2 hS1 hA (nul_k (by decide)) (Nat.le_of_ble_eq_true rfl) (Nat.le_of_ble_eq_true rfl) dl_8 dl_11 (fun q1 H3 hP3 hD3 hS3 => ?_)
  have hq : (subW (10 :: os10) ad1 cy s0 ++ [(q1, (.inr (11, nulC 11) : va_E))])[(subW (10 :: os10) ad1 cy s0).length]? = some (q1, .inr (11, nulC 11)) := by rw [List.getElem?_append_right (Nat.le_refl _)]; simp
  have hPc : va_P D vwCl [(q1, .inr (11, nulC 11))] H3 := by
    intro k z hz
    have hz1 : k < 1 := (List.getElem?_eq_some_iff.mp hz).1
    rw [show k = 0 by omega] at hz
    cases hz
    exact hP3 _ _ hq
  have hAq1 : s.heap.size ≤ q1 := hD3.2 _ _ hq
  have hF : ∀ z, aA q1 H3.size z → s.heap.size ≤ z := by
    intro z h
    rcases h with h | h
    · rw [h]; exact hAq1
    · exact Nat.le_trans hS3.1 h
  have hpre : PreS s H3 (PcC D cy 11 q1 H3.size []) [.ref q1] := ⟨blindC, fun U hU hW => ⟨rfl, by rw [hU], by rw [hU]; exact hPc, va_K.moved hW.alike hK, hnw.warm hW⟩⟩
  refine va_callv (va_runI (As := []) (rest := [.ref q1]) ⟨hx, hb, hml, hown, hts⟩ (c_11 l D cy ad1 q1 H3.size) (cwI 0 hts (goodC wC_11) rfl rfl rfl (hts _ (inG_mem (c := 74) (by decide +kernel))) (hts _ (inG_mem (c := 965) (by decide +kernel))) (hts _ (inG_mem (c := 966) (by decide +kernel))) rfl hdC_11 ⟨Nat.le_of_ble_eq_true rfl, Nat.le_of_ble_eq_true rfl⟩) hpre rfl rfl hl.1 rfl (lv_room (Nat.le_of_ble_eq_true rfl)) dl_12 ⟨Nat.le_of_ble_eq_true rfl, Nat.le_of_ble_eq_true rfl⟩) hS3 (fun z _ h => hF z h) hF ?_
  intro g t H4 locs4 ht4 hvm4 _ hB hz4 hk4 hS4
  obtain ⟨hP4, hD4⟩ := hB
  rw [ht4] at hP4
  obtain ⟨hP5, hD5⟩ := joinC hP3 hD3 hS3 hA hk4 hP4 hD4
  rw [← subW_off (h0 := q1) (g := g) (ad := ad1) (cy := cy) (σ := s0) ok_11, sub_app] at hP5 hD5
  generalize ha2 : adN ad1 11 q1 52 41 g = ad2 at hP5 hD5
  have h10 : q0 = ad2 10 := by rw [← ha2, adN_off (by decide +kernel), had]
  have h11 : q1 = ad2 11 := by rw [← ha2, adN_c]
  have hP5 : va_P D vwCl (wsW ad2 cy s0) H4 := subA_W hP5
  obtain ⟨hinj, hAd⟩ := subA_inj (σ := s0) (cy := cy) hD5
  refine W.widen (k := 93) (n := 9420) (Nat.le_of_ble_eq_true rfl) (Nat.le_of_ble_eq_true rfl) ?_
  refine lv_astore_n (i := 2) (lv' := [(2, .ref q1), (1, .ref q0), (0, .ref b)]) hx hb dl_15 rfl hl (by decide) rfl (fun ls hl => ?_)
  refine lv_iconst (v := nI 0) hx hb dl_16 (by decide) ?_
  refine lv_istore_n (i := 3) (lv' := [(3, .int (nI 0)), (2, .ref q1), (1, .ref q0), (0, .ref b)]) hx hb dl_17 rfl hl (by decide) rfl (fun ls hl => ?_)
  rw [h10, h11] at hl
  refine va_forget (fun q hq9 => hS4.2.2 q hq9) ?_
  have hX4 : va_X b L xs s H4 := by
    obtain ⟨scr, a1, a2⟩ := hX
    exact ⟨scr, by rw [hS4.2.1 b hbl hbA]; exact a1, a2⟩
  have K : LK D cy p s m b L xs meth c H4 ad2 := by
    refine ⟨hinj, ⟨hx, hb, hml, hown, hts, hnw, hK⟩, hX4, Nat.lt_of_lt_of_le hbl hS4.1, ?_, hL⟩
    rintro ⟨j, hj, e1⟩
    have := hAd j hj
    rw [← e1] at this
    exact hbA this
  exact law_loop K hr hlocks hAd (L + 8) 0 s0 H4 [] ls (Nat.zero_le _) (by omega) rel_0 hP5 va_S.rf (lv_sub hl [0, 3, 2, 1] rfl)
