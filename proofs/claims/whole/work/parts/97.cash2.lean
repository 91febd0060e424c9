/-! THE CLASS'S CONSTRUCTOR (written by wip/whole/cashgen.py) -/
abbrev bC_10 : ByteArray := prog_1_method_1_code
def yC_10 : MethodName := ⟨"AshLines", "<init>", "()V"⟩
theorem wC_10 : Cond.code yC_10 bC_10 1 none ∈ lw_g := inG_mem (c := 83) (by decide +kernel)
theorem hdC_3 : yC_3.cls ≠ "java/lang/invoke/MethodHandle" ∧ yC_3.cls ≠ "java/lang/invoke/VarHandle" ∧ (parseMethodDescriptor yC_3.desc).map (fun d => d.parameters.length) = some 0 := by decide +kernel
theorem hdC_4 : yC_4.cls ≠ "java/lang/invoke/MethodHandle" ∧ yC_4.cls ≠ "java/lang/invoke/VarHandle" ∧ (parseMethodDescriptor yC_4.desc).map (fun d => d.parameters.length) = some 1 := by decide +kernel
theorem hdC_9 : yC_9.cls ≠ "java/lang/invoke/MethodHandle" ∧ yC_9.cls ≠ "java/lang/invoke/VarHandle" ∧ (parseMethodDescriptor yC_9.desc).map (fun d => d.parameters.length) = some 0 := by decide +kernel
theorem hdC_0 : yC_0.cls ≠ "java/lang/invoke/MethodHandle" ∧ yC_0.cls ≠ "java/lang/invoke/VarHandle" ∧ (parseMethodDescriptor yC_0.desc).map (fun d => d.parameters.length) = some 1 := by decide +kernel
theorem hdC_6 : yC_6.cls ≠ "java/lang/invoke/MethodHandle" ∧ yC_6.cls ≠ "java/lang/invoke/VarHandle" ∧ (parseMethodDescriptor yC_6.desc).map (fun d => d.parameters.length) = some 0 := by decide +kernel
theorem hdC_2 : yC_2.cls ≠ "java/lang/invoke/MethodHandle" ∧ yC_2.cls ≠ "java/lang/invoke/VarHandle" ∧ (parseMethodDescriptor yC_2.desc).map (fun d => d.parameters.length) = some 3 := by decide +kernel
theorem hdC_5 : yC_5.cls ≠ "java/lang/invoke/MethodHandle" ∧ yC_5.cls ≠ "java/lang/invoke/VarHandle" ∧ (parseMethodDescriptor yC_5.desc).map (fun d => d.parameters.length) = some 1 := by decide +kernel
theorem hdC_1 : yC_1.cls ≠ "java/lang/invoke/MethodHandle" ∧ yC_1.cls ≠ "java/lang/invoke/VarHandle" ∧ (parseMethodDescriptor yC_1.desc).map (fun d => d.parameters.length) = some 3 := by decide +kernel
theorem hdC_8 : yC_8.cls ≠ "java/lang/invoke/MethodHandle" ∧ yC_8.cls ≠ "java/lang/invoke/VarHandle" ∧ (parseMethodDescriptor yC_8.desc).map (fun d => d.parameters.length) = some 1 := by decide +kernel
theorem hdC_7 : yC_7.cls ≠ "java/lang/invoke/MethodHandle" ∧ yC_7.cls ≠ "java/lang/invoke/VarHandle" ∧ (parseMethodDescriptor yC_7.desc).map (fun d => d.parameters.length) = some 0 := by decide +kernel
def os10 : List Nat := [] ++ osN 3 19 8 ++ osN 4 27 7 ++ osN 9 47 5 ++ osN 0 12 4 ++ osN 6 38 5 ++ osN 2 18 1 ++ osN 5 34 4 ++ osN 1 16 2 ++ osN 8 45 2 ++ osN 7 43 2
def QcX (D : va_G) (cy : Nat → ClassId) (h0 sz : Nat) : Array Value → State → Outcome → State → Prop := va_Qv (S := Nat → Nat) (fun ad => ad 10 = h0) (fun ad t => va_P D vwCl (subW (10 :: os10) ad cy s0) t.heap ∧ va_D (aA h0 sz) (subW (10 :: os10) ad cy s0)) (aA h0 sz)
set_option maxHeartbeats 4000000 in
set_option maxRecDepth 100000 in
theorem c_10 (l : Launch) (D : va_G) (cy : Nat → ClassId) (h0 sz : Nat) : Met l yC_10 (wsC yC_10 bC_10 1) { frames := 2, cells := 50, slots := 3521, locals := 46 } (PcC D cy 10 h0 sz []) (QcX D cy h0 sz) 50 3521 (aA h0 sz) := by
  refine ctorM (i := 3) (w := 84) (by decide +kernel) (by decide +kernel) rfl (by decide +kernel) (by decide +kernel) (by decide +kernel) (by decide) (by decide) (Nat.le_of_ble_eq_true rfl) ?_
  intro p e s m below meth c ls hC hl hP hD hS hret hlocks hN hsz
  obtain ⟨hx, hb, hml, hown, hts, hin, hK⟩ := id hC
  have hl0 : ls[0]? = some (.val (.ref h0)) := lv_at hl 0 rfl
  have hA : ∀ q, s.heap.size ≤ q → aA h0 s.heap.size q := fun q h => Or.inr h
  generalize haA : aA h0 s.heap.size = A at hD hS hA
  generalize had0 : (fun _ => h0 : Nat → Nat) = ad0
  have hP : va_P D vwCl ((h0, .inr (10, [.null, .null, .null, .null, .null, .null, .null, .null, .null, .null])) :: subW [] ad0 cy s0) s.heap := hP
  have hD : va_D A ((h0, .inr (10, [.null, .null, .null, .null, .null, .null, .null, .null, .null, .null])) :: subW [] ad0 cy s0) := hD
  refine lv_aload_n (i := 0) hx hb (show decode bC_10 4 = .ok (.aload_n 0, 1) by decide +kernel) rfl hl0 ?_
  refine newC (ci := 3) (idx := 9) (N := 11) (w1 := 87) (w2 := 88) (w3 := 63) (own := RC 10) hx hb hown hts hK (by decide) (by decide +kernel) (by decide +kernel) (by decide +kernel) (by decide +kernel) hP hD hS hA (nul_k (by decide)) (Nat.le_of_ble_eq_true rfl) (Nat.le_of_ble_eq_true rfl) (show decode bC_10 5 = .ok (.new 9, 3) by decide +kernel) (show decode bC_10 8 = .ok (.dup, 1) by decide +kernel) (fun q0 H hP hD hS => ?_)
  refine W.widen (k := 1) (n := 11) (Nat.le_of_ble_eq_true rfl) (Nat.le_of_ble_eq_true rfl) ?_
  refine W.eq (g2 := F0 m 9 ls [.ref q0, .ref q0, .ref h0]) rfl ?_
  refine callN (os := []) (ad := ad0) (as := []) (y := yC_3) (b := bC_3) (n := 1) (ci := 3) (c0 := 19) (r := 8) (S := 156) (i := 11) (k := 0) (ip := 12) (w := 399) hC hN hl.1 hA hP hD hS (c_3 l D cy ad0 q0 H.size) wC_3 rfl (inG_mem (c := 63) (by decide +kernel)) (inG_mem (c := 90) (by decide +kernel)) (Or.inr (inG_mem (c := 89) (by decide +kernel))) hdC_3 ⟨Nat.le_of_ble_eq_true rfl, Nat.le_of_ble_eq_true rfl⟩ ⟨Nat.le_of_ble_eq_true rfl, Nat.le_of_ble_eq_true rfl⟩ (by decide +kernel) (show decode bC_10 9 = .ok (.invokespecial 11, 3) by decide +kernel) (by decide) (Nat.le_of_ble_eq_true rfl) (by decide +kernel) (by decide +kernel) (fun v => ⟨rfl, rfl⟩) (show decode bC_10 12 = .ok (.putfield 12, 3) by decide +kernel) (fun g0 H locs hP hD hS => ?_)
  refine W.widen (k := 9) (n := 167) (Nat.le_of_ble_eq_true rfl) (Nat.le_of_ble_eq_true rfl) ?_
  refine W.eq (g2 := F0 m 15 ls []) rfl ?_
  generalize had1 : adN ad0 3 q0 19 8 g0 = ad1 at hP hD
  have hv_3 : ad1 3 = q0 := by rw [← had1]; exact adN_c
  have hv_10 : ad1 10 = h0 := by rw [← had1, adN_off (by decide +kernel), ← had0]
  have hP : va_P D vwCl ((h0, .inr (10, [.ref q0, .null, .null, .null, .null, .null, .null, .null, .null, .null])) :: subW ([] ++ osN 3 19 8) ad1 cy s0) H := hP
  have hD : va_D A ((h0, .inr (10, [.ref q0, .null, .null, .null, .null, .null, .null, .null, .null, .null])) :: subW ([] ++ osN 3 19 8) ad1 cy s0) := hD
  clear had1
  refine lv_aload_n (i := 0) hx hb (show decode bC_10 15 = .ok (.aload_n 0, 1) by decide +kernel) rfl hl0 ?_
  refine newC (ci := 4) (idx := 16) (N := 10) (w1 := 138) (w2 := 139) (w3 := 65) (own := RC 10) hx hb hown hts hK (by decide) (by decide +kernel) (by decide +kernel) (by decide +kernel) (by decide +kernel) hP hD hS hA (nul_k (by decide)) (Nat.le_of_ble_eq_true rfl) (Nat.le_of_ble_eq_true rfl) (show decode bC_10 16 = .ok (.new 16, 3) by decide +kernel) (show decode bC_10 19 = .ok (.dup, 1) by decide +kernel) (fun q1 H hP hD hS => ?_)
  refine W.widen (k := 10) (n := 177) (Nat.le_of_ble_eq_true rfl) (Nat.le_of_ble_eq_true rfl) ?_
  refine W.eq (g2 := F0 m 20 ls [.ref q1, .ref q1, .ref h0]) rfl ?_
  refine lv_aload_n (i := 0) hx hb (show decode bC_10 20 = .ok (.aload_n 0, 1) by decide +kernel) rfl hl0 ?_
  refine getR hC (by decide) hP (k := 0) (i := 12) (w := 399) (v := .ref (ad1 3)) (by decide) (congrArg (fun z => some (Value.ref z)) hv_3.symm) (by decide +kernel) (show decode bC_10 21 = .ok (.getfield 12, 3) by decide +kernel) ?_
  refine callN (os := [] ++ osN 3 19 8) (ad := ad1) (as := [.ref (ad1 3)]) (y := yC_4) (b := bC_4) (n := 2) (ci := 4) (c0 := 27) (r := 7) (S := 1452) (i := 18) (k := 1) (ip := 21) (w := 400) hC hN hl.1 hA hP hD hS (c_4 l D cy ad1 q1 H.size) wC_4 rfl (inG_mem (c := 65) (by decide +kernel)) (inG_mem (c := 141) (by decide +kernel)) (Or.inr (inG_mem (c := 140) (by decide +kernel))) hdC_4 ⟨Nat.le_of_ble_eq_true rfl, Nat.le_of_ble_eq_true rfl⟩ ⟨Nat.le_of_ble_eq_true rfl, Nat.le_of_ble_eq_true rfl⟩ (by decide +kernel) (show decode bC_10 24 = .ok (.invokespecial 18, 3) by decide +kernel) (by decide) (Nat.le_of_ble_eq_true rfl) (by decide +kernel) (by decide +kernel) (fun v => ⟨rfl, rfl⟩) (show decode bC_10 27 = .ok (.putfield 21, 3) by decide +kernel) (fun g1 H locs hP hD hS => ?_)
  refine W.widen (k := 17) (n := 1629) (Nat.le_of_ble_eq_true rfl) (Nat.le_of_ble_eq_true rfl) ?_
  refine W.eq (g2 := F0 m 30 ls []) rfl ?_
  generalize had2 : adN ad1 4 q1 27 7 g1 = ad2 at hP hD
  have hv_3 : ad2 3 = q0 := by rw [← had2, adN_off (by decide +kernel)]; exact hv_3
  have hv_4 : ad2 4 = q1 := by rw [← had2]; exact adN_c
  have hv_10 : ad2 10 = h0 := by rw [← had2, adN_off (by decide +kernel)]; exact hv_10
  have hP : va_P D vwCl ((h0, .inr (10, [.ref q0, .ref q1, .null, .null, .null, .null, .null, .null, .null, .null])) :: subW ([] ++ osN 3 19 8 ++ osN 4 27 7) ad2 cy s0) H := hP
  have hD : va_D A ((h0, .inr (10, [.ref q0, .ref q1, .null, .null, .null, .null, .null, .null, .null, .null])) :: subW ([] ++ osN 3 19 8 ++ osN 4 27 7) ad2 cy s0) := hD
  clear had2
  refine lv_aload_n (i := 0) hx hb (show decode bC_10 30 = .ok (.aload_n 0, 1) by decide +kernel) rfl hl0 ?_
  refine newC (ci := 9) (idx := 25) (N := 6) (w1 := 184) (w2 := 185) (w3 := 66) (own := RC 10) hx hb hown hts hK (by decide) (by decide +kernel) (by decide +kernel) (by decide +kernel) (by decide +kernel) hP hD hS hA (nul_k (by decide)) (Nat.le_of_ble_eq_true rfl) (Nat.le_of_ble_eq_true rfl) (show decode bC_10 31 = .ok (.new 25, 3) by decide +kernel) (show decode bC_10 34 = .ok (.dup, 1) by decide +kernel) (fun q2 H hP hD hS => ?_)
  refine W.widen (k := 18) (n := 1635) (Nat.le_of_ble_eq_true rfl) (Nat.le_of_ble_eq_true rfl) ?_
  refine W.eq (g2 := F0 m 35 ls [.ref q2, .ref q2, .ref h0]) rfl ?_
  refine callN (os := [] ++ osN 3 19 8 ++ osN 4 27 7) (ad := ad2) (as := []) (y := yC_9) (b := bC_9) (n := 1) (ci := 9) (c0 := 47) (r := 5) (S := 586) (i := 27) (k := 2) (ip := 28) (w := 401) hC hN hl.1 hA hP hD hS (c_9 l D cy ad2 q2 H.size) wC_9 rfl (inG_mem (c := 66) (by decide +kernel)) (inG_mem (c := 187) (by decide +kernel)) (Or.inr (inG_mem (c := 186) (by decide +kernel))) hdC_9 ⟨Nat.le_of_ble_eq_true rfl, Nat.le_of_ble_eq_true rfl⟩ ⟨Nat.le_of_ble_eq_true rfl, Nat.le_of_ble_eq_true rfl⟩ (by decide +kernel) (show decode bC_10 35 = .ok (.invokespecial 27, 3) by decide +kernel) (by decide) (Nat.le_of_ble_eq_true rfl) (by decide +kernel) (by decide +kernel) (fun v => ⟨rfl, rfl⟩) (show decode bC_10 38 = .ok (.putfield 28, 3) by decide +kernel) (fun g2 H locs hP hD hS => ?_)
  refine W.widen (k := 23) (n := 2221) (Nat.le_of_ble_eq_true rfl) (Nat.le_of_ble_eq_true rfl) ?_
  refine W.eq (g2 := F0 m 41 ls []) rfl ?_
  generalize had3 : adN ad2 9 q2 47 5 g2 = ad3 at hP hD
  have hv_3 : ad3 3 = q0 := by rw [← had3, adN_off (by decide +kernel)]; exact hv_3
  have hv_4 : ad3 4 = q1 := by rw [← had3, adN_off (by decide +kernel)]; exact hv_4
  have hv_9 : ad3 9 = q2 := by rw [← had3]; exact adN_c
  have hv_10 : ad3 10 = h0 := by rw [← had3, adN_off (by decide +kernel)]; exact hv_10
  have hP : va_P D vwCl ((h0, .inr (10, [.ref q0, .ref q1, .ref q2, .null, .null, .null, .null, .null, .null, .null])) :: subW ([] ++ osN 3 19 8 ++ osN 4 27 7 ++ osN 9 47 5) ad3 cy s0) H := hP
  have hD : va_D A ((h0, .inr (10, [.ref q0, .ref q1, .ref q2, .null, .null, .null, .null, .null, .null, .null])) :: subW ([] ++ osN 3 19 8 ++ osN 4 27 7 ++ osN 9 47 5) ad3 cy s0) := hD
  clear had3
  refine lv_aload_n (i := 0) hx hb (show decode bC_10 41 = .ok (.aload_n 0, 1) by decide +kernel) rfl hl0 ?_
  refine newC (ci := 0) (idx := 32) (N := 6) (w1 := 222) (w2 := 223) (w3 := 67) (own := RC 10) hx hb hown hts hK (by decide) (by decide +kernel) (by decide +kernel) (by decide +kernel) (by decide +kernel) hP hD hS hA (nul_k (by decide)) (Nat.le_of_ble_eq_true rfl) (Nat.le_of_ble_eq_true rfl) (show decode bC_10 42 = .ok (.new 32, 3) by decide +kernel) (show decode bC_10 45 = .ok (.dup, 1) by decide +kernel) (fun q3 H hP hD hS => ?_)
  refine W.widen (k := 24) (n := 2227) (Nat.le_of_ble_eq_true rfl) (Nat.le_of_ble_eq_true rfl) ?_
  refine W.eq (g2 := F0 m 46 ls [.ref q3, .ref q3, .ref h0]) rfl ?_
  refine lv_aload_n (i := 0) hx hb (show decode bC_10 46 = .ok (.aload_n 0, 1) by decide +kernel) rfl hl0 ?_
  refine getR hC (by decide) hP (k := 2) (i := 28) (w := 401) (v := .ref (ad3 9)) (by decide) (congrArg (fun z => some (Value.ref z)) hv_9.symm) (by decide +kernel) (show decode bC_10 47 = .ok (.getfield 28, 3) by decide +kernel) ?_
  refine callN (os := [] ++ osN 3 19 8 ++ osN 4 27 7 ++ osN 9 47 5) (ad := ad3) (as := [.ref (ad3 9)]) (y := yC_0) (b := bC_0) (n := 2) (ci := 0) (c0 := 12) (r := 4) (S := 616) (i := 34) (k := 3) (ip := 37) (w := 402) hC hN hl.1 hA hP hD hS (c_0 l D cy ad3 q3 H.size) wC_0 rfl (inG_mem (c := 67) (by decide +kernel)) (inG_mem (c := 225) (by decide +kernel)) (Or.inr (inG_mem (c := 224) (by decide +kernel))) hdC_0 ⟨Nat.le_of_ble_eq_true rfl, Nat.le_of_ble_eq_true rfl⟩ ⟨Nat.le_of_ble_eq_true rfl, Nat.le_of_ble_eq_true rfl⟩ (by decide +kernel) (show decode bC_10 50 = .ok (.invokespecial 34, 3) by decide +kernel) (by decide) (Nat.le_of_ble_eq_true rfl) (by decide +kernel) (by decide +kernel) (fun v => ⟨rfl, rfl⟩) (show decode bC_10 53 = .ok (.putfield 37, 3) by decide +kernel) (fun g3 H locs hP hD hS => ?_)
  refine W.widen (k := 28) (n := 2843) (Nat.le_of_ble_eq_true rfl) (Nat.le_of_ble_eq_true rfl) ?_
  refine W.eq (g2 := F0 m 56 ls []) rfl ?_
  generalize had4 : adN ad3 0 q3 12 4 g3 = ad4 at hP hD
  have hv_3 : ad4 3 = q0 := by rw [← had4, adN_off (by decide +kernel)]; exact hv_3
  have hv_4 : ad4 4 = q1 := by rw [← had4, adN_off (by decide +kernel)]; exact hv_4
  have hv_9 : ad4 9 = q2 := by rw [← had4, adN_off (by decide +kernel)]; exact hv_9
  have hv_0 : ad4 0 = q3 := by rw [← had4]; exact adN_c
  have hv_10 : ad4 10 = h0 := by rw [← had4, adN_off (by decide +kernel)]; exact hv_10
  have hP : va_P D vwCl ((h0, .inr (10, [.ref q0, .ref q1, .ref q2, .ref q3, .null, .null, .null, .null, .null, .null])) :: subW ([] ++ osN 3 19 8 ++ osN 4 27 7 ++ osN 9 47 5 ++ osN 0 12 4) ad4 cy s0) H := hP
  have hD : va_D A ((h0, .inr (10, [.ref q0, .ref q1, .ref q2, .ref q3, .null, .null, .null, .null, .null, .null])) :: subW ([] ++ osN 3 19 8 ++ osN 4 27 7 ++ osN 9 47 5 ++ osN 0 12 4) ad4 cy s0) := hD
  clear had4
  refine lv_aload_n (i := 0) hx hb (show decode bC_10 56 = .ok (.aload_n 0, 1) by decide +kernel) rfl hl0 ?_
  refine newC (ci := 6) (idx := 41) (N := 9) (w1 := 252) (w2 := 253) (w3 := 68) (own := RC 10) hx hb hown hts hK (by decide) (by decide +kernel) (by decide +kernel) (by decide +kernel) (by decide +kernel) hP hD hS hA (nul_k (by decide)) (Nat.le_of_ble_eq_true rfl) (Nat.le_of_ble_eq_true rfl) (show decode bC_10 57 = .ok (.new 41, 3) by decide +kernel) (show decode bC_10 60 = .ok (.dup, 1) by decide +kernel) (fun q4 H hP hD hS => ?_)
  refine W.widen (k := 29) (n := 2852) (Nat.le_of_ble_eq_true rfl) (Nat.le_of_ble_eq_true rfl) ?_
  refine W.eq (g2 := F0 m 61 ls [.ref q4, .ref q4, .ref h0]) rfl ?_
  refine callN (os := [] ++ osN 3 19 8 ++ osN 4 27 7 ++ osN 9 47 5 ++ osN 0 12 4) (ad := ad4) (as := []) (y := yC_6) (b := bC_6) (n := 1) (ci := 6) (c0 := 38) (r := 5) (S := 250) (i := 43) (k := 4) (ip := 44) (w := 403) hC hN hl.1 hA hP hD hS (c_6 l D cy ad4 q4 H.size) wC_6 rfl (inG_mem (c := 68) (by decide +kernel)) (inG_mem (c := 255) (by decide +kernel)) (Or.inl (List.mem_of_getElem? (i := 254) (by decide +kernel))) hdC_6 ⟨Nat.le_of_ble_eq_true rfl, Nat.le_of_ble_eq_true rfl⟩ ⟨Nat.le_of_ble_eq_true rfl, Nat.le_of_ble_eq_true rfl⟩ (by decide +kernel) (show decode bC_10 61 = .ok (.invokespecial 43, 3) by decide +kernel) (by decide) (Nat.le_of_ble_eq_true rfl) (by decide +kernel) (by decide +kernel) (fun v => ⟨rfl, rfl⟩) (show decode bC_10 64 = .ok (.putfield 44, 3) by decide +kernel) (fun g4 H locs hP hD hS => ?_)
  refine W.widen (k := 34) (n := 3102) (Nat.le_of_ble_eq_true rfl) (Nat.le_of_ble_eq_true rfl) ?_
  refine W.eq (g2 := F0 m 67 ls []) rfl ?_
  generalize had5 : adN ad4 6 q4 38 5 g4 = ad5 at hP hD
  have hv_3 : ad5 3 = q0 := by rw [← had5, adN_off (by decide +kernel)]; exact hv_3
  have hv_4 : ad5 4 = q1 := by rw [← had5, adN_off (by decide +kernel)]; exact hv_4
  have hv_9 : ad5 9 = q2 := by rw [← had5, adN_off (by decide +kernel)]; exact hv_9
  have hv_0 : ad5 0 = q3 := by rw [← had5, adN_off (by decide +kernel)]; exact hv_0
  have hv_6 : ad5 6 = q4 := by rw [← had5]; exact adN_c
  have hv_10 : ad5 10 = h0 := by rw [← had5, adN_off (by decide +kernel)]; exact hv_10
  have hP : va_P D vwCl ((h0, .inr (10, [.ref q0, .ref q1, .ref q2, .ref q3, .ref q4, .null, .null, .null, .null, .null])) :: subW ([] ++ osN 3 19 8 ++ osN 4 27 7 ++ osN 9 47 5 ++ osN 0 12 4 ++ osN 6 38 5) ad5 cy s0) H := hP
  have hD : va_D A ((h0, .inr (10, [.ref q0, .ref q1, .ref q2, .ref q3, .ref q4, .null, .null, .null, .null, .null])) :: subW ([] ++ osN 3 19 8 ++ osN 4 27 7 ++ osN 9 47 5 ++ osN 0 12 4 ++ osN 6 38 5) ad5 cy s0) := hD
  clear had5
  refine lv_aload_n (i := 0) hx hb (show decode bC_10 67 = .ok (.aload_n 0, 1) by decide +kernel) rfl hl0 ?_
  refine newC (ci := 2) (idx := 48) (N := 4) (w1 := 294) (w2 := 295) (w3 := 69) (own := RC 10) hx hb hown hts hK (by decide) (by decide +kernel) (by decide +kernel) (by decide +kernel) (by decide +kernel) hP hD hS hA (nul_k (by decide)) (Nat.le_of_ble_eq_true rfl) (Nat.le_of_ble_eq_true rfl) (show decode bC_10 68 = .ok (.new 48, 3) by decide +kernel) (show decode bC_10 71 = .ok (.dup, 1) by decide +kernel) (fun q5 H hP hD hS => ?_)
  refine W.widen (k := 35) (n := 3106) (Nat.le_of_ble_eq_true rfl) (Nat.le_of_ble_eq_true rfl) ?_
  refine W.eq (g2 := F0 m 72 ls [.ref q5, .ref q5, .ref h0]) rfl ?_
  refine lv_aload_n (i := 0) hx hb (show decode bC_10 72 = .ok (.aload_n 0, 1) by decide +kernel) rfl hl0 ?_
  refine getR hC (by decide) hP (k := 1) (i := 21) (w := 400) (v := .ref (ad5 4)) (by decide) (congrArg (fun z => some (Value.ref z)) hv_4.symm) (by decide +kernel) (show decode bC_10 73 = .ok (.getfield 21, 3) by decide +kernel) ?_
  refine lv_aload_n (i := 0) hx hb (show decode bC_10 76 = .ok (.aload_n 0, 1) by decide +kernel) rfl hl0 ?_
  refine getR hC (by decide) hP (k := 3) (i := 37) (w := 402) (v := .ref (ad5 0)) (by decide) (congrArg (fun z => some (Value.ref z)) hv_0.symm) (by decide +kernel) (show decode bC_10 77 = .ok (.getfield 37, 3) by decide +kernel) ?_
  refine lv_aload_n (i := 0) hx hb (show decode bC_10 80 = .ok (.aload_n 0, 1) by decide +kernel) rfl hl0 ?_
  refine getR hC (by decide) hP (k := 4) (i := 44) (w := 403) (v := .ref (ad5 6)) (by decide) (congrArg (fun z => some (Value.ref z)) hv_6.symm) (by decide +kernel) (show decode bC_10 81 = .ok (.getfield 44, 3) by decide +kernel) ?_
  refine callN (os := [] ++ osN 3 19 8 ++ osN 4 27 7 ++ osN 9 47 5 ++ osN 0 12 4 ++ osN 6 38 5) (ad := ad5) (as := [.ref (ad5 4), .ref (ad5 0), .ref (ad5 6)]) (y := yC_2) (b := bC_2) (n := 4) (ci := 2) (c0 := 18) (r := 1) (S := 60) (i := 50) (k := 5) (ip := 53) (w := 404) hC hN hl.1 hA hP hD hS (c_2 l D cy ad5 q5 H.size) wC_2 rfl (inG_mem (c := 69) (by decide +kernel)) (inG_mem (c := 297) (by decide +kernel)) (Or.inr (inG_mem (c := 296) (by decide +kernel))) hdC_2 ⟨Nat.le_of_ble_eq_true rfl, Nat.le_of_ble_eq_true rfl⟩ ⟨Nat.le_of_ble_eq_true rfl, Nat.le_of_ble_eq_true rfl⟩ (by decide +kernel) (show decode bC_10 84 = .ok (.invokespecial 50, 3) by decide +kernel) (by decide) (Nat.le_of_ble_eq_true rfl) (by decide +kernel) (by decide +kernel) (fun v => ⟨rfl, rfl⟩) (show decode bC_10 87 = .ok (.putfield 53, 3) by decide +kernel) (fun g5 H locs hP hD hS => ?_)
  refine W.widen (k := 36) (n := 3166) (Nat.le_of_ble_eq_true rfl) (Nat.le_of_ble_eq_true rfl) ?_
  refine W.eq (g2 := F0 m 90 ls []) rfl ?_
  generalize had6 : adN ad5 2 q5 18 1 g5 = ad6 at hP hD
  have hv_3 : ad6 3 = q0 := by rw [← had6, adN_off (by decide +kernel)]; exact hv_3
  have hv_4 : ad6 4 = q1 := by rw [← had6, adN_off (by decide +kernel)]; exact hv_4
  have hv_9 : ad6 9 = q2 := by rw [← had6, adN_off (by decide +kernel)]; exact hv_9
  have hv_0 : ad6 0 = q3 := by rw [← had6, adN_off (by decide +kernel)]; exact hv_0
  have hv_6 : ad6 6 = q4 := by rw [← had6, adN_off (by decide +kernel)]; exact hv_6
  have hv_2 : ad6 2 = q5 := by rw [← had6]; exact adN_c
  have hv_10 : ad6 10 = h0 := by rw [← had6, adN_off (by decide +kernel)]; exact hv_10
  have hP : va_P D vwCl ((h0, .inr (10, [.ref q0, .ref q1, .ref q2, .ref q3, .ref q4, .ref q5, .null, .null, .null, .null])) :: subW ([] ++ osN 3 19 8 ++ osN 4 27 7 ++ osN 9 47 5 ++ osN 0 12 4 ++ osN 6 38 5 ++ osN 2 18 1) ad6 cy s0) H := hP
  have hD : va_D A ((h0, .inr (10, [.ref q0, .ref q1, .ref q2, .ref q3, .ref q4, .ref q5, .null, .null, .null, .null])) :: subW ([] ++ osN 3 19 8 ++ osN 4 27 7 ++ osN 9 47 5 ++ osN 0 12 4 ++ osN 6 38 5 ++ osN 2 18 1) ad6 cy s0) := hD
  clear had6
  refine lv_aload_n (i := 0) hx hb (show decode bC_10 90 = .ok (.aload_n 0, 1) by decide +kernel) rfl hl0 ?_
  refine newC (ci := 5) (idx := 57) (N := 6) (w1 := 314) (w2 := 315) (w3 := 70) (own := RC 10) hx hb hown hts hK (by decide) (by decide +kernel) (by decide +kernel) (by decide +kernel) (by decide +kernel) hP hD hS hA (nul_k (by decide)) (Nat.le_of_ble_eq_true rfl) (Nat.le_of_ble_eq_true rfl) (show decode bC_10 91 = .ok (.new 57, 3) by decide +kernel) (show decode bC_10 94 = .ok (.dup, 1) by decide +kernel) (fun q6 H hP hD hS => ?_)
  refine W.widen (k := 37) (n := 3172) (Nat.le_of_ble_eq_true rfl) (Nat.le_of_ble_eq_true rfl) ?_
  refine W.eq (g2 := F0 m 95 ls [.ref q6, .ref q6, .ref h0]) rfl ?_
  refine lv_aload_n (i := 0) hx hb (show decode bC_10 95 = .ok (.aload_n 0, 1) by decide +kernel) rfl hl0 ?_
  refine getR hC (by decide) hP (k := 1) (i := 21) (w := 400) (v := .ref (ad6 4)) (by decide) (congrArg (fun z => some (Value.ref z)) hv_4.symm) (by decide +kernel) (show decode bC_10 96 = .ok (.getfield 21, 3) by decide +kernel) ?_
  refine callN (os := [] ++ osN 3 19 8 ++ osN 4 27 7 ++ osN 9 47 5 ++ osN 0 12 4 ++ osN 6 38 5 ++ osN 2 18 1) (ad := ad6) (as := [.ref (ad6 4)]) (y := yC_5) (b := bC_5) (n := 2) (ci := 5) (c0 := 34) (r := 4) (S := 48) (i := 59) (k := 6) (ip := 62) (w := 405) hC hN hl.1 hA hP hD hS (c_5 l D cy ad6 q6 H.size) wC_5 rfl (inG_mem (c := 70) (by decide +kernel)) (inG_mem (c := 317) (by decide +kernel)) (Or.inr (inG_mem (c := 316) (by decide +kernel))) hdC_5 ⟨Nat.le_of_ble_eq_true rfl, Nat.le_of_ble_eq_true rfl⟩ ⟨Nat.le_of_ble_eq_true rfl, Nat.le_of_ble_eq_true rfl⟩ (by decide +kernel) (show decode bC_10 99 = .ok (.invokespecial 59, 3) by decide +kernel) (by decide) (Nat.le_of_ble_eq_true rfl) (by decide +kernel) (by decide +kernel) (fun v => ⟨rfl, rfl⟩) (show decode bC_10 102 = .ok (.putfield 62, 3) by decide +kernel) (fun g6 H locs hP hD hS => ?_)
  refine W.widen (k := 41) (n := 3220) (Nat.le_of_ble_eq_true rfl) (Nat.le_of_ble_eq_true rfl) ?_
  refine W.eq (g2 := F0 m 105 ls []) rfl ?_
  generalize had7 : adN ad6 5 q6 34 4 g6 = ad7 at hP hD
  have hv_3 : ad7 3 = q0 := by rw [← had7, adN_off (by decide +kernel)]; exact hv_3
  have hv_4 : ad7 4 = q1 := by rw [← had7, adN_off (by decide +kernel)]; exact hv_4
  have hv_9 : ad7 9 = q2 := by rw [← had7, adN_off (by decide +kernel)]; exact hv_9
  have hv_0 : ad7 0 = q3 := by rw [← had7, adN_off (by decide +kernel)]; exact hv_0
  have hv_6 : ad7 6 = q4 := by rw [← had7, adN_off (by decide +kernel)]; exact hv_6
  have hv_2 : ad7 2 = q5 := by rw [← had7, adN_off (by decide +kernel)]; exact hv_2
  have hv_5 : ad7 5 = q6 := by rw [← had7]; exact adN_c
  have hv_10 : ad7 10 = h0 := by rw [← had7, adN_off (by decide +kernel)]; exact hv_10
  have hP : va_P D vwCl ((h0, .inr (10, [.ref q0, .ref q1, .ref q2, .ref q3, .ref q4, .ref q5, .ref q6, .null, .null, .null])) :: subW ([] ++ osN 3 19 8 ++ osN 4 27 7 ++ osN 9 47 5 ++ osN 0 12 4 ++ osN 6 38 5 ++ osN 2 18 1 ++ osN 5 34 4) ad7 cy s0) H := hP
  have hD : va_D A ((h0, .inr (10, [.ref q0, .ref q1, .ref q2, .ref q3, .ref q4, .ref q5, .ref q6, .null, .null, .null])) :: subW ([] ++ osN 3 19 8 ++ osN 4 27 7 ++ osN 9 47 5 ++ osN 0 12 4 ++ osN 6 38 5 ++ osN 2 18 1 ++ osN 5 34 4) ad7 cy s0) := hD
  clear had7
  refine lv_aload_n (i := 0) hx hb (show decode bC_10 105 = .ok (.aload_n 0, 1) by decide +kernel) rfl hl0 ?_
  refine newC (ci := 1) (idx := 66) (N := 5) (w1 := 342) (w2 := 343) (w3 := 71) (own := RC 10) hx hb hown hts hK (by decide) (by decide +kernel) (by decide +kernel) (by decide +kernel) (by decide +kernel) hP hD hS hA (nul_k (by decide)) (Nat.le_of_ble_eq_true rfl) (Nat.le_of_ble_eq_true rfl) (show decode bC_10 106 = .ok (.new 66, 3) by decide +kernel) (show decode bC_10 109 = .ok (.dup, 1) by decide +kernel) (fun q7 H hP hD hS => ?_)
  refine W.widen (k := 42) (n := 3225) (Nat.le_of_ble_eq_true rfl) (Nat.le_of_ble_eq_true rfl) ?_
  refine W.eq (g2 := F0 m 110 ls [.ref q7, .ref q7, .ref h0]) rfl ?_
  refine lv_aload_n (i := 0) hx hb (show decode bC_10 110 = .ok (.aload_n 0, 1) by decide +kernel) rfl hl0 ?_
  refine getR hC (by decide) hP (k := 1) (i := 21) (w := 400) (v := .ref (ad7 4)) (by decide) (congrArg (fun z => some (Value.ref z)) hv_4.symm) (by decide +kernel) (show decode bC_10 111 = .ok (.getfield 21, 3) by decide +kernel) ?_
  refine lv_aload_n (i := 0) hx hb (show decode bC_10 114 = .ok (.aload_n 0, 1) by decide +kernel) rfl hl0 ?_
  refine getR hC (by decide) hP (k := 2) (i := 28) (w := 401) (v := .ref (ad7 9)) (by decide) (congrArg (fun z => some (Value.ref z)) hv_9.symm) (by decide +kernel) (show decode bC_10 115 = .ok (.getfield 28, 3) by decide +kernel) ?_
  refine lv_aload_n (i := 0) hx hb (show decode bC_10 118 = .ok (.aload_n 0, 1) by decide +kernel) rfl hl0 ?_
  refine getR hC (by decide) hP (k := 6) (i := 62) (w := 405) (v := .ref (ad7 5)) (by decide) (congrArg (fun z => some (Value.ref z)) hv_5.symm) (by decide +kernel) (show decode bC_10 119 = .ok (.getfield 62, 3) by decide +kernel) ?_
  refine callN (os := [] ++ osN 3 19 8 ++ osN 4 27 7 ++ osN 9 47 5 ++ osN 0 12 4 ++ osN 6 38 5 ++ osN 2 18 1 ++ osN 5 34 4) (ad := ad7) (as := [.ref (ad7 4), .ref (ad7 9), .ref (ad7 5)]) (y := yC_1) (b := bC_1) (n := 4) (ci := 1) (c0 := 16) (r := 2) (S := 70) (i := 68) (k := 7) (ip := 71) (w := 406) hC hN hl.1 hA hP hD hS (c_1 l D cy ad7 q7 H.size) wC_1 rfl (inG_mem (c := 71) (by decide +kernel)) (inG_mem (c := 345) (by decide +kernel)) (Or.inr (inG_mem (c := 344) (by decide +kernel))) hdC_1 ⟨Nat.le_of_ble_eq_true rfl, Nat.le_of_ble_eq_true rfl⟩ ⟨Nat.le_of_ble_eq_true rfl, Nat.le_of_ble_eq_true rfl⟩ (by decide +kernel) (show decode bC_10 122 = .ok (.invokespecial 68, 3) by decide +kernel) (by decide) (Nat.le_of_ble_eq_true rfl) (by decide +kernel) (by decide +kernel) (fun v => ⟨rfl, rfl⟩) (show decode bC_10 125 = .ok (.putfield 71, 3) by decide +kernel) (fun g7 H locs hP hD hS => ?_)
  refine W.widen (k := 44) (n := 3295) (Nat.le_of_ble_eq_true rfl) (Nat.le_of_ble_eq_true rfl) ?_
  refine W.eq (g2 := F0 m 128 ls []) rfl ?_
  generalize had8 : adN ad7 1 q7 16 2 g7 = ad8 at hP hD
  have hv_3 : ad8 3 = q0 := by rw [← had8, adN_off (by decide +kernel)]; exact hv_3
  have hv_4 : ad8 4 = q1 := by rw [← had8, adN_off (by decide +kernel)]; exact hv_4
  have hv_9 : ad8 9 = q2 := by rw [← had8, adN_off (by decide +kernel)]; exact hv_9
  have hv_0 : ad8 0 = q3 := by rw [← had8, adN_off (by decide +kernel)]; exact hv_0
  have hv_6 : ad8 6 = q4 := by rw [← had8, adN_off (by decide +kernel)]; exact hv_6
  have hv_2 : ad8 2 = q5 := by rw [← had8, adN_off (by decide +kernel)]; exact hv_2
  have hv_5 : ad8 5 = q6 := by rw [← had8, adN_off (by decide +kernel)]; exact hv_5
  have hv_1 : ad8 1 = q7 := by rw [← had8]; exact adN_c
  have hv_10 : ad8 10 = h0 := by rw [← had8, adN_off (by decide +kernel)]; exact hv_10
  have hP : va_P D vwCl ((h0, .inr (10, [.ref q0, .ref q1, .ref q2, .ref q3, .ref q4, .ref q5, .ref q6, .ref q7, .null, .null])) :: subW ([] ++ osN 3 19 8 ++ osN 4 27 7 ++ osN 9 47 5 ++ osN 0 12 4 ++ osN 6 38 5 ++ osN 2 18 1 ++ osN 5 34 4 ++ osN 1 16 2) ad8 cy s0) H := hP
  have hD : va_D A ((h0, .inr (10, [.ref q0, .ref q1, .ref q2, .ref q3, .ref q4, .ref q5, .ref q6, .ref q7, .null, .null])) :: subW ([] ++ osN 3 19 8 ++ osN 4 27 7 ++ osN 9 47 5 ++ osN 0 12 4 ++ osN 6 38 5 ++ osN 2 18 1 ++ osN 5 34 4 ++ osN 1 16 2) ad8 cy s0) := hD
  clear had8
  refine lv_aload_n (i := 0) hx hb (show decode bC_10 128 = .ok (.aload_n 0, 1) by decide +kernel) rfl hl0 ?_
  refine newC (ci := 8) (idx := 75) (N := 4) (w1 := 367) (w2 := 368) (w3 := 72) (own := RC 10) hx hb hown hts hK (by decide) (by decide +kernel) (by decide +kernel) (by decide +kernel) (by decide +kernel) hP hD hS hA (nul_k (by decide)) (Nat.le_of_ble_eq_true rfl) (Nat.le_of_ble_eq_true rfl) (show decode bC_10 129 = .ok (.new 75, 3) by decide +kernel) (show decode bC_10 132 = .ok (.dup, 1) by decide +kernel) (fun q8 H hP hD hS => ?_)
  refine W.widen (k := 45) (n := 3299) (Nat.le_of_ble_eq_true rfl) (Nat.le_of_ble_eq_true rfl) ?_
  refine W.eq (g2 := F0 m 133 ls [.ref q8, .ref q8, .ref h0]) rfl ?_
  refine lv_aload_n (i := 0) hx hb (show decode bC_10 133 = .ok (.aload_n 0, 1) by decide +kernel) rfl hl0 ?_
  refine getR hC (by decide) hP (k := 2) (i := 28) (w := 401) (v := .ref (ad8 9)) (by decide) (congrArg (fun z => some (Value.ref z)) hv_9.symm) (by decide +kernel) (show decode bC_10 134 = .ok (.getfield 28, 3) by decide +kernel) ?_
  refine callN (os := [] ++ osN 3 19 8 ++ osN 4 27 7 ++ osN 9 47 5 ++ osN 0 12 4 ++ osN 6 38 5 ++ osN 2 18 1 ++ osN 5 34 4 ++ osN 1 16 2) (ad := ad8) (as := [.ref (ad8 9)]) (y := yC_8) (b := bC_8) (n := 2) (ci := 8) (c0 := 45) (r := 2) (S := 154) (i := 77) (k := 8) (ip := 78) (w := 407) hC hN hl.1 hA hP hD hS (c_8 l D cy ad8 q8 H.size) wC_8 rfl (inG_mem (c := 72) (by decide +kernel)) (inG_mem (c := 370) (by decide +kernel)) (Or.inr (inG_mem (c := 369) (by decide +kernel))) hdC_8 ⟨Nat.le_of_ble_eq_true rfl, Nat.le_of_ble_eq_true rfl⟩ ⟨Nat.le_of_ble_eq_true rfl, Nat.le_of_ble_eq_true rfl⟩ (by decide +kernel) (show decode bC_10 137 = .ok (.invokespecial 77, 3) by decide +kernel) (by decide) (Nat.le_of_ble_eq_true rfl) (by decide +kernel) (by decide +kernel) (fun v => ⟨rfl, rfl⟩) (show decode bC_10 140 = .ok (.putfield 78, 3) by decide +kernel) (fun g8 H locs hP hD hS => ?_)
  refine W.widen (k := 47) (n := 3453) (Nat.le_of_ble_eq_true rfl) (Nat.le_of_ble_eq_true rfl) ?_
  refine W.eq (g2 := F0 m 143 ls []) rfl ?_
  generalize had9 : adN ad8 8 q8 45 2 g8 = ad9 at hP hD
  have hv_3 : ad9 3 = q0 := by rw [← had9, adN_off (by decide +kernel)]; exact hv_3
  have hv_4 : ad9 4 = q1 := by rw [← had9, adN_off (by decide +kernel)]; exact hv_4
  have hv_9 : ad9 9 = q2 := by rw [← had9, adN_off (by decide +kernel)]; exact hv_9
  have hv_0 : ad9 0 = q3 := by rw [← had9, adN_off (by decide +kernel)]; exact hv_0
  have hv_6 : ad9 6 = q4 := by rw [← had9, adN_off (by decide +kernel)]; exact hv_6
  have hv_2 : ad9 2 = q5 := by rw [← had9, adN_off (by decide +kernel)]; exact hv_2
  have hv_5 : ad9 5 = q6 := by rw [← had9, adN_off (by decide +kernel)]; exact hv_5
  have hv_1 : ad9 1 = q7 := by rw [← had9, adN_off (by decide +kernel)]; exact hv_1
  have hv_8 : ad9 8 = q8 := by rw [← had9]; exact adN_c
  have hv_10 : ad9 10 = h0 := by rw [← had9, adN_off (by decide +kernel)]; exact hv_10
  have hP : va_P D vwCl ((h0, .inr (10, [.ref q0, .ref q1, .ref q2, .ref q3, .ref q4, .ref q5, .ref q6, .ref q7, .ref q8, .null])) :: subW ([] ++ osN 3 19 8 ++ osN 4 27 7 ++ osN 9 47 5 ++ osN 0 12 4 ++ osN 6 38 5 ++ osN 2 18 1 ++ osN 5 34 4 ++ osN 1 16 2 ++ osN 8 45 2) ad9 cy s0) H := hP
  have hD : va_D A ((h0, .inr (10, [.ref q0, .ref q1, .ref q2, .ref q3, .ref q4, .ref q5, .ref q6, .ref q7, .ref q8, .null])) :: subW ([] ++ osN 3 19 8 ++ osN 4 27 7 ++ osN 9 47 5 ++ osN 0 12 4 ++ osN 6 38 5 ++ osN 2 18 1 ++ osN 5 34 4 ++ osN 1 16 2 ++ osN 8 45 2) ad9 cy s0) := hD
  clear had9
  refine lv_aload_n (i := 0) hx hb (show decode bC_10 143 = .ok (.aload_n 0, 1) by decide +kernel) rfl hl0 ?_
  refine newC (ci := 7) (idx := 82) (N := 2) (w1 := 386) (w2 := 387) (w3 := 73) (own := RC 10) hx hb hown hts hK (by decide) (by decide +kernel) (by decide +kernel) (by decide +kernel) (by decide +kernel) hP hD hS hA (nul_k (by decide)) (Nat.le_of_ble_eq_true rfl) (Nat.le_of_ble_eq_true rfl) (show decode bC_10 144 = .ok (.new 82, 3) by decide +kernel) (show decode bC_10 147 = .ok (.dup, 1) by decide +kernel) (fun q9 H hP hD hS => ?_)
  refine W.widen (k := 48) (n := 3455) (Nat.le_of_ble_eq_true rfl) (Nat.le_of_ble_eq_true rfl) ?_
  refine W.eq (g2 := F0 m 148 ls [.ref q9, .ref q9, .ref h0]) rfl ?_
  refine callN (os := [] ++ osN 3 19 8 ++ osN 4 27 7 ++ osN 9 47 5 ++ osN 0 12 4 ++ osN 6 38 5 ++ osN 2 18 1 ++ osN 5 34 4 ++ osN 1 16 2 ++ osN 8 45 2) (ad := ad9) (as := []) (y := yC_7) (b := bC_7) (n := 1) (ci := 7) (c0 := 43) (r := 2) (S := 66) (i := 84) (k := 9) (ip := 85) (w := 408) hC hN hl.1 hA hP hD hS (c_7 l D cy ad9 q9 H.size) wC_7 rfl (inG_mem (c := 73) (by decide +kernel)) (inG_mem (c := 389) (by decide +kernel)) (Or.inl (List.mem_of_getElem? (i := 388) (by decide +kernel))) hdC_7 ⟨Nat.le_of_ble_eq_true rfl, Nat.le_of_ble_eq_true rfl⟩ ⟨Nat.le_of_ble_eq_true rfl, Nat.le_of_ble_eq_true rfl⟩ (by decide +kernel) (show decode bC_10 148 = .ok (.invokespecial 84, 3) by decide +kernel) (by decide) (Nat.le_of_ble_eq_true rfl) (by decide +kernel) (by decide +kernel) (fun v => ⟨rfl, rfl⟩) (show decode bC_10 151 = .ok (.putfield 85, 3) by decide +kernel) (fun g9 H locs hP hD hS => ?_)
  refine W.widen (k := 50) (n := 3521) (Nat.le_of_ble_eq_true rfl) (Nat.le_of_ble_eq_true rfl) ?_
  refine W.eq (g2 := F0 m 154 ls []) rfl ?_
  generalize had10 : adN ad9 7 q9 43 2 g9 = ad10 at hP hD
  have hv_3 : ad10 3 = q0 := by rw [← had10, adN_off (by decide +kernel)]; exact hv_3
  have hv_4 : ad10 4 = q1 := by rw [← had10, adN_off (by decide +kernel)]; exact hv_4
  have hv_9 : ad10 9 = q2 := by rw [← had10, adN_off (by decide +kernel)]; exact hv_9
  have hv_0 : ad10 0 = q3 := by rw [← had10, adN_off (by decide +kernel)]; exact hv_0
  have hv_6 : ad10 6 = q4 := by rw [← had10, adN_off (by decide +kernel)]; exact hv_6
  have hv_2 : ad10 2 = q5 := by rw [← had10, adN_off (by decide +kernel)]; exact hv_2
  have hv_5 : ad10 5 = q6 := by rw [← had10, adN_off (by decide +kernel)]; exact hv_5
  have hv_1 : ad10 1 = q7 := by rw [← had10, adN_off (by decide +kernel)]; exact hv_1
  have hv_8 : ad10 8 = q8 := by rw [← had10, adN_off (by decide +kernel)]; exact hv_8
  have hv_7 : ad10 7 = q9 := by rw [← had10]; exact adN_c
  have hv_10 : ad10 10 = h0 := by rw [← had10, adN_off (by decide +kernel)]; exact hv_10
  have hP : va_P D vwCl ((h0, .inr (10, [.ref q0, .ref q1, .ref q2, .ref q3, .ref q4, .ref q5, .ref q6, .ref q7, .ref q8, .ref q9])) :: subW ([] ++ osN 3 19 8 ++ osN 4 27 7 ++ osN 9 47 5 ++ osN 0 12 4 ++ osN 6 38 5 ++ osN 2 18 1 ++ osN 5 34 4 ++ osN 1 16 2 ++ osN 8 45 2 ++ osN 7 43 2) ad10 cy s0) H := hP
  have hD : va_D A ((h0, .inr (10, [.ref q0, .ref q1, .ref q2, .ref q3, .ref q4, .ref q5, .ref q6, .ref q7, .ref q8, .ref q9])) :: subW ([] ++ osN 3 19 8 ++ osN 4 27 7 ++ osN 9 47 5 ++ osN 0 12 4 ++ osN 6 38 5 ++ osN 2 18 1 ++ osN 5 34 4 ++ osN 1 16 2 ++ osN 8 45 2 ++ osN 7 43 2) ad10 cy s0) := hD
  clear had10
  have e9 : (h0, .inr (10, [.ref q0, .ref q1, .ref q2, .ref q3, .ref q4, .ref q5, .ref q6, .ref q7, .ref q8, .ref q9])) :: subW ([] ++ osN 3 19 8 ++ osN 4 27 7 ++ osN 9 47 5 ++ osN 0 12 4 ++ osN 6 38 5 ++ osN 2 18 1 ++ osN 5 34 4 ++ osN 1 16 2 ++ osN 8 45 2 ++ osN 7 43 2) ad10 cy s0 = subW (10 :: os10) ad10 cy s0 := by
    show _ = (ad10 10, ent ad10 cy s0 10) :: subW os10 ad10 cy s0
    rw [ent_o (by decide +kernel)]
    have e8 : (List.range (hk 10).2).map (fv ad10 s0 10) = [.ref (ad10 3), .ref (ad10 4), .ref (ad10 9), .ref (ad10 0), .ref (ad10 6), .ref (ad10 2), .ref (ad10 5), .ref (ad10 1), .ref (ad10 8), .ref (ad10 7)] := rfl
    rw [e8, hv_3, hv_4, hv_9, hv_0, hv_6, hv_2, hv_5, hv_1, hv_8, hv_7, hv_10]
    rfl
  rw [e9] at hP hD
  subst haA
  rw [hsz] at hD hS
  exact W.vret hx hb hret (fun t ht hW => ⟨⟨ad10, rfl, hv_10, by rw [ht]; exact hP, hD⟩, hS.F ht⟩) hS.2.2 (by decide +kernel)
