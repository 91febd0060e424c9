/-! THE TEN SMALL CONSTRUCTORS (written by wip/whole/ctgen.py) -/
abbrev bC_0 : ByteArray := prog_2_method_1_code
def yC_0 : MethodName := ⟨"AshLines$Ages", "<init>", "(LAshLines$Ties;)V"⟩
theorem wC_0 : Cond.code yC_0 bC_0 2 none ∈ lw_g := inG_mem (c := 226) (by decide +kernel)
def LA_0 : List SpA := [(1, 11, 230, 154, 0, 3), (2, 15, 232, 154, 0, 3), (3, 18, 234, 154, 0, 3), (4, 21, 236, 154, 0, 3)]
set_option maxRecDepth 100000 in
theorem oA_0 : okAs 0 bC_0 4 LA_0 = true := by decide +kernel
set_option maxHeartbeats 1000000 in
set_option maxRecDepth 100000 in
theorem c_0 (l : Launch) (D : va_G) (cy : Nat → ClassId) (ad : Nat → Nat) (h0 sz : Nat) : Met l yC_0 (wsC yC_0 bC_0 2) { frames := 1, cells := 4, slots := 616, locals := 23 } (PcC D cy 0 h0 sz [.ref (ad 9)]) (QcC D cy ad 0 12 4 h0 sz) 4 616 (aA h0 sz) := by
  refine ctorM (i := 3) (w := 227) (by decide +kernel) (by decide +kernel) rfl (by decide +kernel) (by decide +kernel) (by decide +kernel) (by decide) (by decide) (Nat.le_of_ble_eq_true rfl) ?_
  intro p e s m below meth c ls hC hl hP hD hS hret hlocks hN hsz
  obtain ⟨hx, hb, hml, hown, hts, hin, hK⟩ := id hC
  have hl0 : ls[0]? = some (.val (.ref h0)) := lv_at hl 0 rfl
  refine blksA hC (by decide) hl0 (fun q h => Or.inr h) rfl LA_0 4 (nulC 0) [] s.heap [] 0 0 oA_0 (by decide +kernel) (Nat.le_of_ble_eq_true rfl) (Nat.le_of_ble_eq_true rfl) hP hD hS ?_
  intro qs H locs hlen hP hD hS
  obtain ⟨g, rfl⟩ := qs_map (n := 4) hlen
  refine W.eq (g2 := F0 m 40 ls []) rfl ?_
  have hP : va_P D vwCl ((h0, .inr (0, [.null, .ref (g 0), .ref (g 1), .ref (g 2), .ref (g 3), .int 0])) :: [(g 0, .inl (cy 0, 154, .inl fun _ => 0)), (g 1, .inl (cy 0, 154, .inl fun _ => 0)), (g 2, .inl (cy 0, 154, .inl fun _ => 0)), (g 3, .inl (cy 0, 154, .inl fun _ => 0))]) H := hP
  have hD : va_D (aA h0 s.heap.size) ((h0, .inr (0, [.null, .ref (g 0), .ref (g 1), .ref (g 2), .ref (g 3), .int 0])) :: [(g 0, .inl (cy 0, 154, .inl fun _ => 0)), (g 1, .inl (cy 0, 154, .inl fun _ => 0)), (g 2, .inl (cy 0, 154, .inl fun _ => 0)), (g 3, .inl (cy 0, 154, .inl fun _ => 0))]) := hD
  refine lv_aload_n (i := 0) hx hb (show decode bC_0 40 = .ok (.aload_n 0, 1) by decide +kernel) rfl hl0 ?_
  refine lv_aload_n (i := 1) hx hb (show decode bC_0 41 = .ok (.aload_n 1, 1) by decide +kernel) rfl (lv_at hl 1 rfl) ?_
  refine putR hC (by decide) hP hD hS (k := 0) (i := 24) (w := 229) (by decide) (Nat.le_of_ble_eq_true rfl) (by decide +kernel) (by decide +kernel) (fun v => ⟨rfl, rfl⟩) (by decide +kernel) (fun H locs hP hD hS => ?_)
  refine W.eq (g2 := F0 m 45 ls []) rfl ?_
  have hP : va_P D vwCl ((h0, .inr (0, [.ref (ad 9), .ref (g 0), .ref (g 1), .ref (g 2), .ref (g 3), .int 0])) :: [(g 0, .inl (cy 0, 154, .inl fun _ => 0)), (g 1, .inl (cy 0, 154, .inl fun _ => 0)), (g 2, .inl (cy 0, 154, .inl fun _ => 0)), (g 3, .inl (cy 0, 154, .inl fun _ => 0))]) H := hP
  have hD : va_D (aA h0 s.heap.size) ((h0, .inr (0, [.ref (ad 9), .ref (g 0), .ref (g 1), .ref (g 2), .ref (g 3), .int 0])) :: [(g 0, .inl (cy 0, 154, .inl fun _ => 0)), (g 1, .inl (cy 0, 154, .inl fun _ => 0)), (g 2, .inl (cy 0, 154, .inl fun _ => 0)), (g 3, .inl (cy 0, 154, .inl fun _ => 0))]) := hD
  refine blkF hC (by decide) hl0 hl.1 hP hD hS ⟨Nat.le_of_ble_eq_true rfl, Nat.le_of_ble_eq_true rfl⟩ ⟨Nat.le_of_ble_eq_true rfl, Nat.le_of_ble_eq_true rfl⟩ (k := 2) (i := 15) (cw := 232) (w := 3) (j := 28) (cj := 228) (v := 9999) (by decide +kernel) (r := 1) rfl rfl (by decide) (fun H locs hP hD hS => ?_)
  refine W.eq (g2 := F0 m 55 ls []) rfl ?_
  have hP : va_P D vwCl ((h0, .inr (0, [.ref (ad 9), .ref (g 0), .ref (g 1), .ref (g 2), .ref (g 3), .int 0])) :: [(g 0, .inl (cy 0, 154, .inl fun _ => 0)), (g 1, .inl (cy 0, 154, .inl fun _ => Int32.ofInt (9999))), (g 2, .inl (cy 0, 154, .inl fun _ => 0)), (g 3, .inl (cy 0, 154, .inl fun _ => 0))]) H := hP
  have hD : va_D (aA h0 s.heap.size) ((h0, .inr (0, [.ref (ad 9), .ref (g 0), .ref (g 1), .ref (g 2), .ref (g 3), .int 0])) :: [(g 0, .inl (cy 0, 154, .inl fun _ => 0)), (g 1, .inl (cy 0, 154, .inl fun _ => Int32.ofInt (9999))), (g 2, .inl (cy 0, 154, .inl fun _ => 0)), (g 3, .inl (cy 0, 154, .inl fun _ => 0))]) := hD
  have e9 : (h0, .inr (0, [.ref (ad 9), .ref (g 0), .ref (g 1), .ref (g 2), .ref (g 3), .int 0])) :: [(g 0, .inl (cy 0, 154, .inl fun _ => 0)), (g 1, .inl (cy 0, 154, .inl fun _ => Int32.ofInt (9999))), (g 2, .inl (cy 0, 154, .inl fun _ => 0)), (g 3, .inl (cy 0, 154, .inl fun _ => 0))] = subW (osN 0 12 4) (adN ad 0 h0 12 4 g) cy s0 := rfl
  rw [e9] at hP hD
  rw [hsz] at hD hS
  refine W.widen (k := 4) (n := 616) (Nat.le_of_ble_eq_true rfl) (Nat.le_of_ble_eq_true rfl) ?_
  exact W.vret hx hb hret (fun t ht hW => ⟨⟨g, rfl, trivial, by rw [ht]; exact hP, hD⟩, hS.F ht⟩) hS.2.2 (by decide +kernel)
abbrev bC_1 : ByteArray := prog_3_method_1_code
def yC_1 : MethodName := ⟨"AshLines$Days", "<init>", "(LAshLines$Lines;LAshLines$Ties;LAshLines$Mountains;)V"⟩
theorem wC_1 : Cond.code yC_1 bC_1 4 none ∈ lw_g := inG_mem (c := 346) (by decide +kernel)
def LA_1 : List SpA := [(3, 9, 352, 10, 0, 2), (4, 15, 354, 60, 0, 2)]
set_option maxRecDepth 100000 in
theorem oA_1 : okAs 1 bC_1 4 LA_1 = true := by decide +kernel
set_option maxHeartbeats 1000000 in
set_option maxRecDepth 100000 in
theorem c_1 (l : Launch) (D : va_G) (cy : Nat → ClassId) (ad : Nat → Nat) (h0 sz : Nat) : Met l yC_1 (wsC yC_1 bC_1 4) { frames := 1, cells := 2, slots := 70, locals := 23 } (PcC D cy 1 h0 sz [.ref (ad 4), .ref (ad 9), .ref (ad 5)]) (QcC D cy ad 1 16 2 h0 sz) 2 70 (aA h0 sz) := by
  refine ctorM (i := 3) (w := 347) (by decide +kernel) (by decide +kernel) rfl (by decide +kernel) (by decide +kernel) (by decide +kernel) (by decide) (by decide) (Nat.le_of_ble_eq_true rfl) ?_
  intro p e s m below meth c ls hC hl hP hD hS hret hlocks hN hsz
  obtain ⟨hx, hb, hml, hown, hts, hin, hK⟩ := id hC
  have hl0 : ls[0]? = some (.val (.ref h0)) := lv_at hl 0 rfl
  refine blksA hC (by decide) hl0 (fun q h => Or.inr h) rfl LA_1 4 (nulC 1) [] s.heap [] 0 0 oA_1 (by decide +kernel) (Nat.le_of_ble_eq_true rfl) (Nat.le_of_ble_eq_true rfl) hP hD hS ?_
  intro qs H locs hlen hP hD hS
  obtain ⟨g, rfl⟩ := qs_map (n := 2) hlen
  refine W.eq (g2 := F0 m 20 ls []) rfl ?_
  have hP : va_P D vwCl ((h0, .inr (1, [.null, .null, .null, .ref (g 0), .ref (g 1)])) :: [(g 0, .inl (cy 0, 10, .inl fun _ => 0)), (g 1, .inl (cy 0, 60, .inl fun _ => 0))]) H := hP
  have hD : va_D (aA h0 s.heap.size) ((h0, .inr (1, [.null, .null, .null, .ref (g 0), .ref (g 1)])) :: [(g 0, .inl (cy 0, 10, .inl fun _ => 0)), (g 1, .inl (cy 0, 60, .inl fun _ => 0))]) := hD
  refine lv_aload_n (i := 0) hx hb (show decode bC_1 20 = .ok (.aload_n 0, 1) by decide +kernel) rfl hl0 ?_
  refine lv_aload_n (i := 1) hx hb (show decode bC_1 21 = .ok (.aload_n 1, 1) by decide +kernel) rfl (lv_at hl 1 rfl) ?_
  refine putR hC (by decide) hP hD hS (k := 0) (i := 18) (w := 349) (by decide) (Nat.le_of_ble_eq_true rfl) (by decide +kernel) (by decide +kernel) (fun v => ⟨rfl, rfl⟩) (by decide +kernel) (fun H locs hP hD hS => ?_)
  refine W.eq (g2 := F0 m 25 ls []) rfl ?_
  have hP : va_P D vwCl ((h0, .inr (1, [.ref (ad 4), .null, .null, .ref (g 0), .ref (g 1)])) :: [(g 0, .inl (cy 0, 10, .inl fun _ => 0)), (g 1, .inl (cy 0, 60, .inl fun _ => 0))]) H := hP
  have hD : va_D (aA h0 s.heap.size) ((h0, .inr (1, [.ref (ad 4), .null, .null, .ref (g 0), .ref (g 1)])) :: [(g 0, .inl (cy 0, 10, .inl fun _ => 0)), (g 1, .inl (cy 0, 60, .inl fun _ => 0))]) := hD
  refine lv_aload_n (i := 0) hx hb (show decode bC_1 25 = .ok (.aload_n 0, 1) by decide +kernel) rfl hl0 ?_
  refine lv_aload_n (i := 2) hx hb (show decode bC_1 26 = .ok (.aload_n 2, 1) by decide +kernel) rfl (lv_at hl 2 rfl) ?_
  refine putR hC (by decide) hP hD hS (k := 1) (i := 22) (w := 350) (by decide) (Nat.le_of_ble_eq_true rfl) (by decide +kernel) (by decide +kernel) (fun v => ⟨rfl, rfl⟩) (by decide +kernel) (fun H locs hP hD hS => ?_)
  refine W.eq (g2 := F0 m 30 ls []) rfl ?_
  have hP : va_P D vwCl ((h0, .inr (1, [.ref (ad 4), .ref (ad 9), .null, .ref (g 0), .ref (g 1)])) :: [(g 0, .inl (cy 0, 10, .inl fun _ => 0)), (g 1, .inl (cy 0, 60, .inl fun _ => 0))]) H := hP
  have hD : va_D (aA h0 s.heap.size) ((h0, .inr (1, [.ref (ad 4), .ref (ad 9), .null, .ref (g 0), .ref (g 1)])) :: [(g 0, .inl (cy 0, 10, .inl fun _ => 0)), (g 1, .inl (cy 0, 60, .inl fun _ => 0))]) := hD
  refine lv_aload_n (i := 0) hx hb (show decode bC_1 30 = .ok (.aload_n 0, 1) by decide +kernel) rfl hl0 ?_
  refine lv_aload_n (i := 3) hx hb (show decode bC_1 31 = .ok (.aload_n 3, 1) by decide +kernel) rfl (lv_at hl 3 rfl) ?_
  refine putR hC (by decide) hP hD hS (k := 2) (i := 26) (w := 351) (by decide) (Nat.le_of_ble_eq_true rfl) (by decide +kernel) (by decide +kernel) (fun v => ⟨rfl, rfl⟩) (by decide +kernel) (fun H locs hP hD hS => ?_)
  refine W.eq (g2 := F0 m 35 ls []) rfl ?_
  have hP : va_P D vwCl ((h0, .inr (1, [.ref (ad 4), .ref (ad 9), .ref (ad 5), .ref (g 0), .ref (g 1)])) :: [(g 0, .inl (cy 0, 10, .inl fun _ => 0)), (g 1, .inl (cy 0, 60, .inl fun _ => 0))]) H := hP
  have hD : va_D (aA h0 s.heap.size) ((h0, .inr (1, [.ref (ad 4), .ref (ad 9), .ref (ad 5), .ref (g 0), .ref (g 1)])) :: [(g 0, .inl (cy 0, 10, .inl fun _ => 0)), (g 1, .inl (cy 0, 60, .inl fun _ => 0))]) := hD
  refine blkF hC (by decide) hl0 hl.1 hP hD hS ⟨Nat.le_of_ble_eq_true rfl, Nat.le_of_ble_eq_true rfl⟩ ⟨Nat.le_of_ble_eq_true rfl, Nat.le_of_ble_eq_true rfl⟩ (k := 3) (i := 9) (cw := 352) (w := 1) (j := 30) (cj := 348) (v := -1) (by decide +kernel) (r := 0) rfl rfl (by decide) (fun H locs hP hD hS => ?_)
  refine W.eq (g2 := F0 m 43 ls []) rfl ?_
  have hP : va_P D vwCl ((h0, .inr (1, [.ref (ad 4), .ref (ad 9), .ref (ad 5), .ref (g 0), .ref (g 1)])) :: [(g 0, .inl (cy 0, 10, .inl fun _ => Int32.ofInt (-1))), (g 1, .inl (cy 0, 60, .inl fun _ => 0))]) H := hP
  have hD : va_D (aA h0 s.heap.size) ((h0, .inr (1, [.ref (ad 4), .ref (ad 9), .ref (ad 5), .ref (g 0), .ref (g 1)])) :: [(g 0, .inl (cy 0, 10, .inl fun _ => Int32.ofInt (-1))), (g 1, .inl (cy 0, 60, .inl fun _ => 0))]) := hD
  have e9 : (h0, .inr (1, [.ref (ad 4), .ref (ad 9), .ref (ad 5), .ref (g 0), .ref (g 1)])) :: [(g 0, .inl (cy 0, 10, .inl fun _ => Int32.ofInt (-1))), (g 1, .inl (cy 0, 60, .inl fun _ => 0))] = subW (osN 1 16 2) (adN ad 1 h0 16 2 g) cy s0 := rfl
  rw [e9] at hP hD
  rw [hsz] at hD hS
  refine W.widen (k := 2) (n := 70) (Nat.le_of_ble_eq_true rfl) (Nat.le_of_ble_eq_true rfl) ?_
  exact W.vret hx hb hret (fun t ht hW => ⟨⟨g, rfl, trivial, by rw [ht]; exact hP, hD⟩, hS.F ht⟩) hS.2.2 (by decide +kernel)
abbrev bC_2 : ByteArray := prog_4_method_1_code
def yC_2 : MethodName := ⟨"AshLines$Kin", "<init>", "(LAshLines$Lines;LAshLines$Ages;LAshLines$Rule;)V"⟩
theorem wC_2 : Cond.code yC_2 bC_2 4 none ∈ lw_g := inG_mem (c := 298) (by decide +kernel)
def LA_2 : List SpA := [(3, 9, 303, 60, 2, 2)]
set_option maxRecDepth 100000 in
theorem oA_2 : okAs 2 bC_2 4 LA_2 = true := by decide +kernel
set_option maxHeartbeats 1000000 in
set_option maxRecDepth 100000 in
theorem c_2 (l : Launch) (D : va_G) (cy : Nat → ClassId) (ad : Nat → Nat) (h0 sz : Nat) : Met l yC_2 (wsC yC_2 bC_2 4) { frames := 1, cells := 1, slots := 60, locals := 23 } (PcC D cy 2 h0 sz [.ref (ad 4), .ref (ad 0), .ref (ad 6)]) (QcC D cy ad 2 18 1 h0 sz) 1 60 (aA h0 sz) := by
  refine ctorM (i := 3) (w := 299) (by decide +kernel) (by decide +kernel) rfl (by decide +kernel) (by decide +kernel) (by decide +kernel) (by decide) (by decide) (Nat.le_of_ble_eq_true rfl) ?_
  intro p e s m below meth c ls hC hl hP hD hS hret hlocks hN hsz
  obtain ⟨hx, hb, hml, hown, hts, hin, hK⟩ := id hC
  have hl0 : ls[0]? = some (.val (.ref h0)) := lv_at hl 0 rfl
  refine blksA hC (by decide) hl0 (fun q h => Or.inr h) rfl LA_2 4 (nulC 2) [] s.heap [] 0 0 oA_2 (by decide +kernel) (Nat.le_of_ble_eq_true rfl) (Nat.le_of_ble_eq_true rfl) hP hD hS ?_
  intro qs H locs hlen hP hD hS
  obtain ⟨g, rfl⟩ := qs_map (n := 1) hlen
  refine W.eq (g2 := F0 m 12 ls []) rfl ?_
  have hP : va_P D vwCl ((h0, .inr (2, [.null, .null, .null, .ref (g 0)])) :: [(g 0, .inl (cy 2, 60, .inr (.inl fun _ => 0)))]) H := hP
  have hD : va_D (aA h0 s.heap.size) ((h0, .inr (2, [.null, .null, .null, .ref (g 0)])) :: [(g 0, .inl (cy 2, 60, .inr (.inl fun _ => 0)))]) := hD
  refine lv_aload_n (i := 0) hx hb (show decode bC_2 12 = .ok (.aload_n 0, 1) by decide +kernel) rfl hl0 ?_
  refine lv_aload_n (i := 1) hx hb (show decode bC_2 13 = .ok (.aload_n 1, 1) by decide +kernel) rfl (lv_at hl 1 rfl) ?_
  refine putR hC (by decide) hP hD hS (k := 0) (i := 15) (w := 300) (by decide) (Nat.le_of_ble_eq_true rfl) (by decide +kernel) (by decide +kernel) (fun v => ⟨rfl, rfl⟩) (by decide +kernel) (fun H locs hP hD hS => ?_)
  refine W.eq (g2 := F0 m 17 ls []) rfl ?_
  have hP : va_P D vwCl ((h0, .inr (2, [.ref (ad 4), .null, .null, .ref (g 0)])) :: [(g 0, .inl (cy 2, 60, .inr (.inl fun _ => 0)))]) H := hP
  have hD : va_D (aA h0 s.heap.size) ((h0, .inr (2, [.ref (ad 4), .null, .null, .ref (g 0)])) :: [(g 0, .inl (cy 2, 60, .inr (.inl fun _ => 0)))]) := hD
  refine lv_aload_n (i := 0) hx hb (show decode bC_2 17 = .ok (.aload_n 0, 1) by decide +kernel) rfl hl0 ?_
  refine lv_aload_n (i := 2) hx hb (show decode bC_2 18 = .ok (.aload_n 2, 1) by decide +kernel) rfl (lv_at hl 2 rfl) ?_
  refine putR hC (by decide) hP hD hS (k := 1) (i := 19) (w := 301) (by decide) (Nat.le_of_ble_eq_true rfl) (by decide +kernel) (by decide +kernel) (fun v => ⟨rfl, rfl⟩) (by decide +kernel) (fun H locs hP hD hS => ?_)
  refine W.eq (g2 := F0 m 22 ls []) rfl ?_
  have hP : va_P D vwCl ((h0, .inr (2, [.ref (ad 4), .ref (ad 0), .null, .ref (g 0)])) :: [(g 0, .inl (cy 2, 60, .inr (.inl fun _ => 0)))]) H := hP
  have hD : va_D (aA h0 s.heap.size) ((h0, .inr (2, [.ref (ad 4), .ref (ad 0), .null, .ref (g 0)])) :: [(g 0, .inl (cy 2, 60, .inr (.inl fun _ => 0)))]) := hD
  refine lv_aload_n (i := 0) hx hb (show decode bC_2 22 = .ok (.aload_n 0, 1) by decide +kernel) rfl hl0 ?_
  refine lv_aload_n (i := 3) hx hb (show decode bC_2 23 = .ok (.aload_n 3, 1) by decide +kernel) rfl (lv_at hl 3 rfl) ?_
  refine putR hC (by decide) hP hD hS (k := 2) (i := 23) (w := 302) (by decide) (Nat.le_of_ble_eq_true rfl) (by decide +kernel) (by decide +kernel) (fun v => ⟨rfl, rfl⟩) (by decide +kernel) (fun H locs hP hD hS => ?_)
  refine W.eq (g2 := F0 m 27 ls []) rfl ?_
  have hP : va_P D vwCl ((h0, .inr (2, [.ref (ad 4), .ref (ad 0), .ref (ad 6), .ref (g 0)])) :: [(g 0, .inl (cy 2, 60, .inr (.inl fun _ => 0)))]) H := hP
  have hD : va_D (aA h0 s.heap.size) ((h0, .inr (2, [.ref (ad 4), .ref (ad 0), .ref (ad 6), .ref (g 0)])) :: [(g 0, .inl (cy 2, 60, .inr (.inl fun _ => 0)))]) := hD
  have e9 : (h0, .inr (2, [.ref (ad 4), .ref (ad 0), .ref (ad 6), .ref (g 0)])) :: [(g 0, .inl (cy 2, 60, .inr (.inl fun _ => 0)))] = subW (osN 2 18 1) (adN ad 2 h0 18 1 g) cy s0 := rfl
  rw [e9] at hP hD
  rw [hsz] at hD hS
  refine W.widen (k := 1) (n := 60) (Nat.le_of_ble_eq_true rfl) (Nat.le_of_ble_eq_true rfl) ?_
  exact W.vret hx hb hret (fun t ht hW => ⟨⟨g, rfl, trivial, by rw [ht]; exact hP, hD⟩, hS.F ht⟩) hS.2.2 (by decide +kernel)
abbrev bC_3 : ByteArray := prog_5_method_1_code
def yC_3 : MethodName := ⟨"AshLines$Leans", "<init>", "()V"⟩
theorem wC_3 : Cond.code yC_3 bC_3 1 none ∈ lw_g := inG_mem (c := 91) (by decide +kernel)
def LA_3 : List SpA := [(0, 11, 96, 9, 0, 2), (1, 15, 99, 9, 0, 2), (2, 18, 102, 9, 0, 2), (3, 21, 103, 9, 0, 2), (4, 24, 104, 30, 0, 2), (5, 27, 105, 30, 0, 2), (6, 30, 106, 30, 0, 2), (7, 33, 107, 30, 0, 2)]
set_option maxRecDepth 100000 in
theorem oA_3 : okAs 3 bC_3 4 LA_3 = true := by decide +kernel
set_option maxHeartbeats 1000000 in
set_option maxRecDepth 100000 in
theorem c_3 (l : Launch) (D : va_G) (cy : Nat → ClassId) (ad : Nat → Nat) (h0 sz : Nat) : Met l yC_3 (wsC yC_3 bC_3 1) { frames := 1, cells := 8, slots := 156, locals := 23 } (PcC D cy 3 h0 sz []) (QcC D cy ad 3 19 8 h0 sz) 8 156 (aA h0 sz) := by
  refine ctorM (i := 3) (w := 92) (by decide +kernel) (by decide +kernel) rfl (by decide +kernel) (by decide +kernel) (by decide +kernel) (by decide) (by decide) (Nat.le_of_ble_eq_true rfl) ?_
  intro p e s m below meth c ls hC hl hP hD hS hret hlocks hN hsz
  obtain ⟨hx, hb, hml, hown, hts, hin, hK⟩ := id hC
  have hl0 : ls[0]? = some (.val (.ref h0)) := lv_at hl 0 rfl
  refine blksA hC (by decide) hl0 (fun q h => Or.inr h) rfl LA_3 4 (nulC 3) [] s.heap [] 0 0 oA_3 (by decide +kernel) (Nat.le_of_ble_eq_true rfl) (Nat.le_of_ble_eq_true rfl) hP hD hS ?_
  intro qs H locs hlen hP hD hS
  obtain ⟨g, rfl⟩ := qs_map (n := 8) hlen
  refine W.eq (g2 := F0 m 68 ls []) rfl ?_
  have hP : va_P D vwCl ((h0, .inr (3, [.ref (g 0), .ref (g 1), .ref (g 2), .ref (g 3), .ref (g 4), .ref (g 5), .ref (g 6), .ref (g 7), .int 0, .int 0, .int 0])) :: [(g 0, .inl (cy 0, 9, .inl fun _ => 0)), (g 1, .inl (cy 0, 9, .inl fun _ => 0)), (g 2, .inl (cy 0, 9, .inl fun _ => 0)), (g 3, .inl (cy 0, 9, .inl fun _ => 0)), (g 4, .inl (cy 0, 30, .inl fun _ => 0)), (g 5, .inl (cy 0, 30, .inl fun _ => 0)), (g 6, .inl (cy 0, 30, .inl fun _ => 0)), (g 7, .inl (cy 0, 30, .inl fun _ => 0))]) H := hP
  have hD : va_D (aA h0 s.heap.size) ((h0, .inr (3, [.ref (g 0), .ref (g 1), .ref (g 2), .ref (g 3), .ref (g 4), .ref (g 5), .ref (g 6), .ref (g 7), .int 0, .int 0, .int 0])) :: [(g 0, .inl (cy 0, 9, .inl fun _ => 0)), (g 1, .inl (cy 0, 9, .inl fun _ => 0)), (g 2, .inl (cy 0, 9, .inl fun _ => 0)), (g 3, .inl (cy 0, 9, .inl fun _ => 0)), (g 4, .inl (cy 0, 30, .inl fun _ => 0)), (g 5, .inl (cy 0, 30, .inl fun _ => 0)), (g 6, .inl (cy 0, 30, .inl fun _ => 0)), (g 7, .inl (cy 0, 30, .inl fun _ => 0))]) := hD
  refine lv_aload_n (i := 0) hx hb (show decode bC_3 68 = .ok (.aload_n 0, 1) by decide +kernel) rfl hl0 ?_
  refine lv_iconst (v := 1) hx hb (show decode bC_3 69 = .ok (.iconst 1, 1) by decide +kernel) (by decide) ?_
  refine putI hC (by decide) hP hD hS (k := 10) (i := 36) (w := 111) (by decide) (Nat.le_of_ble_eq_true rfl) (by decide +kernel) (by decide +kernel) (by decide +kernel) (by decide +kernel) (fun H locs hP hD hS => ?_)
  refine W.eq (g2 := F0 m 73 ls []) rfl ?_
  have hP : va_P D vwCl ((h0, .inr (3, [.ref (g 0), .ref (g 1), .ref (g 2), .ref (g 3), .ref (g 4), .ref (g 5), .ref (g 6), .ref (g 7), .int 0, .int 0, .int 1])) :: [(g 0, .inl (cy 0, 9, .inl fun _ => 0)), (g 1, .inl (cy 0, 9, .inl fun _ => 0)), (g 2, .inl (cy 0, 9, .inl fun _ => 0)), (g 3, .inl (cy 0, 9, .inl fun _ => 0)), (g 4, .inl (cy 0, 30, .inl fun _ => 0)), (g 5, .inl (cy 0, 30, .inl fun _ => 0)), (g 6, .inl (cy 0, 30, .inl fun _ => 0)), (g 7, .inl (cy 0, 30, .inl fun _ => 0))]) H := hP
  have hD : va_D (aA h0 s.heap.size) ((h0, .inr (3, [.ref (g 0), .ref (g 1), .ref (g 2), .ref (g 3), .ref (g 4), .ref (g 5), .ref (g 6), .ref (g 7), .int 0, .int 0, .int 1])) :: [(g 0, .inl (cy 0, 9, .inl fun _ => 0)), (g 1, .inl (cy 0, 9, .inl fun _ => 0)), (g 2, .inl (cy 0, 9, .inl fun _ => 0)), (g 3, .inl (cy 0, 9, .inl fun _ => 0)), (g 4, .inl (cy 0, 30, .inl fun _ => 0)), (g 5, .inl (cy 0, 30, .inl fun _ => 0)), (g 6, .inl (cy 0, 30, .inl fun _ => 0)), (g 7, .inl (cy 0, 30, .inl fun _ => 0))]) := hD
  refine blkF hC (by decide) hl0 hl.1 hP hD hS ⟨Nat.le_of_ble_eq_true rfl, Nat.le_of_ble_eq_true rfl⟩ ⟨Nat.le_of_ble_eq_true rfl, Nat.le_of_ble_eq_true rfl⟩ (k := 0) (i := 11) (cw := 96) (w := 2) (j := 40) (cj := 93) (v := -9) (by decide +kernel) (r := 0) rfl rfl (by decide) (fun H locs hP hD hS => ?_)
  refine W.eq (g2 := F0 m 82 ls []) rfl ?_
  have hP : va_P D vwCl ((h0, .inr (3, [.ref (g 0), .ref (g 1), .ref (g 2), .ref (g 3), .ref (g 4), .ref (g 5), .ref (g 6), .ref (g 7), .int 0, .int 0, .int 1])) :: [(g 0, .inl (cy 0, 9, .inl fun _ => Int32.ofInt (-9))), (g 1, .inl (cy 0, 9, .inl fun _ => 0)), (g 2, .inl (cy 0, 9, .inl fun _ => 0)), (g 3, .inl (cy 0, 9, .inl fun _ => 0)), (g 4, .inl (cy 0, 30, .inl fun _ => 0)), (g 5, .inl (cy 0, 30, .inl fun _ => 0)), (g 6, .inl (cy 0, 30, .inl fun _ => 0)), (g 7, .inl (cy 0, 30, .inl fun _ => 0))]) H := hP
  have hD : va_D (aA h0 s.heap.size) ((h0, .inr (3, [.ref (g 0), .ref (g 1), .ref (g 2), .ref (g 3), .ref (g 4), .ref (g 5), .ref (g 6), .ref (g 7), .int 0, .int 0, .int 1])) :: [(g 0, .inl (cy 0, 9, .inl fun _ => Int32.ofInt (-9))), (g 1, .inl (cy 0, 9, .inl fun _ => 0)), (g 2, .inl (cy 0, 9, .inl fun _ => 0)), (g 3, .inl (cy 0, 9, .inl fun _ => 0)), (g 4, .inl (cy 0, 30, .inl fun _ => 0)), (g 5, .inl (cy 0, 30, .inl fun _ => 0)), (g 6, .inl (cy 0, 30, .inl fun _ => 0)), (g 7, .inl (cy 0, 30, .inl fun _ => 0))]) := hD
  refine blkF hC (by decide) hl0 hl.1 hP hD hS ⟨Nat.le_of_ble_eq_true rfl, Nat.le_of_ble_eq_true rfl⟩ ⟨Nat.le_of_ble_eq_true rfl, Nat.le_of_ble_eq_true rfl⟩ (k := 1) (i := 15) (cw := 99) (w := 2) (j := 40) (cj := 93) (v := 9) (by decide +kernel) (r := 1) rfl rfl (by decide) (fun H locs hP hD hS => ?_)
  refine W.eq (g2 := F0 m 91 ls []) rfl ?_
  have hP : va_P D vwCl ((h0, .inr (3, [.ref (g 0), .ref (g 1), .ref (g 2), .ref (g 3), .ref (g 4), .ref (g 5), .ref (g 6), .ref (g 7), .int 0, .int 0, .int 1])) :: [(g 0, .inl (cy 0, 9, .inl fun _ => Int32.ofInt (-9))), (g 1, .inl (cy 0, 9, .inl fun _ => Int32.ofInt (9))), (g 2, .inl (cy 0, 9, .inl fun _ => 0)), (g 3, .inl (cy 0, 9, .inl fun _ => 0)), (g 4, .inl (cy 0, 30, .inl fun _ => 0)), (g 5, .inl (cy 0, 30, .inl fun _ => 0)), (g 6, .inl (cy 0, 30, .inl fun _ => 0)), (g 7, .inl (cy 0, 30, .inl fun _ => 0))]) H := hP
  have hD : va_D (aA h0 s.heap.size) ((h0, .inr (3, [.ref (g 0), .ref (g 1), .ref (g 2), .ref (g 3), .ref (g 4), .ref (g 5), .ref (g 6), .ref (g 7), .int 0, .int 0, .int 1])) :: [(g 0, .inl (cy 0, 9, .inl fun _ => Int32.ofInt (-9))), (g 1, .inl (cy 0, 9, .inl fun _ => Int32.ofInt (9))), (g 2, .inl (cy 0, 9, .inl fun _ => 0)), (g 3, .inl (cy 0, 9, .inl fun _ => 0)), (g 4, .inl (cy 0, 30, .inl fun _ => 0)), (g 5, .inl (cy 0, 30, .inl fun _ => 0)), (g 6, .inl (cy 0, 30, .inl fun _ => 0)), (g 7, .inl (cy 0, 30, .inl fun _ => 0))]) := hD
  have e9 : (h0, .inr (3, [.ref (g 0), .ref (g 1), .ref (g 2), .ref (g 3), .ref (g 4), .ref (g 5), .ref (g 6), .ref (g 7), .int 0, .int 0, .int 1])) :: [(g 0, .inl (cy 0, 9, .inl fun _ => Int32.ofInt (-9))), (g 1, .inl (cy 0, 9, .inl fun _ => Int32.ofInt (9))), (g 2, .inl (cy 0, 9, .inl fun _ => 0)), (g 3, .inl (cy 0, 9, .inl fun _ => 0)), (g 4, .inl (cy 0, 30, .inl fun _ => 0)), (g 5, .inl (cy 0, 30, .inl fun _ => 0)), (g 6, .inl (cy 0, 30, .inl fun _ => 0)), (g 7, .inl (cy 0, 30, .inl fun _ => 0))] = subW (osN 3 19 8) (adN ad 3 h0 19 8 g) cy s0 := rfl
  rw [e9] at hP hD
  rw [hsz] at hD hS
  refine W.widen (k := 8) (n := 156) (Nat.le_of_ble_eq_true rfl) (Nat.le_of_ble_eq_true rfl) ?_
  exact W.vret hx hb hret (fun t ht hW => ⟨⟨g, rfl, trivial, by rw [ht]; exact hP, hD⟩, hS.F ht⟩) hS.2.2 (by decide +kernel)
abbrev bC_4 : ByteArray := prog_6_method_1_code
def yC_4 : MethodName := ⟨"AshLines$Lines", "<init>", "(LAshLines$Leans;)V"⟩
theorem wC_4 : Cond.code yC_4 bC_4 2 none ∈ lw_g := inG_mem (c := 142) (by decide +kernel)
def LA_4 : List SpA := [(1, 9, 145, 60, 0, 2), (2, 15, 147, 60, 0, 2), (3, 18, 148, 180, 0, 3), (4, 21, 149, 144, 0, 3), (5, 24, 152, 432, 0, 3), (6, 27, 154, 432, 0, 3), (8, 30, 159, 144, 0, 3)]
set_option maxRecDepth 100000 in
theorem oA_4 : okAs 4 bC_4 4 LA_4 = true := by decide +kernel
set_option maxHeartbeats 1000000 in
set_option maxRecDepth 100000 in
theorem c_4 (l : Launch) (D : va_G) (cy : Nat → ClassId) (ad : Nat → Nat) (h0 sz : Nat) : Met l yC_4 (wsC yC_4 bC_4 2) { frames := 1, cells := 7, slots := 1452, locals := 23 } (PcC D cy 4 h0 sz [.ref (ad 3)]) (QcC D cy ad 4 27 7 h0 sz) 7 1452 (aA h0 sz) := by
  refine ctorM (i := 3) (w := 143) (by decide +kernel) (by decide +kernel) rfl (by decide +kernel) (by decide +kernel) (by decide +kernel) (by decide) (by decide) (Nat.le_of_ble_eq_true rfl) ?_
  intro p e s m below meth c ls hC hl hP hD hS hret hlocks hN hsz
  obtain ⟨hx, hb, hml, hown, hts, hin, hK⟩ := id hC
  have hl0 : ls[0]? = some (.val (.ref h0)) := lv_at hl 0 rfl
  refine blksA hC (by decide) hl0 (fun q h => Or.inr h) rfl LA_4 4 (nulC 4) [] s.heap [] 0 0 oA_4 (by decide +kernel) (Nat.le_of_ble_eq_true rfl) (Nat.le_of_ble_eq_true rfl) hP hD hS ?_
  intro qs H locs hlen hP hD hS
  obtain ⟨g, rfl⟩ := qs_map (n := 7) hlen
  refine W.eq (g2 := F0 m 65 ls []) rfl ?_
  have hP : va_P D vwCl ((h0, .inr (4, [.null, .ref (g 0), .ref (g 1), .ref (g 2), .ref (g 3), .ref (g 4), .ref (g 5), .int 0, .ref (g 6), .int 0])) :: [(g 0, .inl (cy 0, 60, .inl fun _ => 0)), (g 1, .inl (cy 0, 60, .inl fun _ => 0)), (g 2, .inl (cy 0, 180, .inl fun _ => 0)), (g 3, .inl (cy 0, 144, .inl fun _ => 0)), (g 4, .inl (cy 0, 432, .inl fun _ => 0)), (g 5, .inl (cy 0, 432, .inl fun _ => 0)), (g 6, .inl (cy 0, 144, .inl fun _ => 0))]) H := hP
  have hD : va_D (aA h0 s.heap.size) ((h0, .inr (4, [.null, .ref (g 0), .ref (g 1), .ref (g 2), .ref (g 3), .ref (g 4), .ref (g 5), .int 0, .ref (g 6), .int 0])) :: [(g 0, .inl (cy 0, 60, .inl fun _ => 0)), (g 1, .inl (cy 0, 60, .inl fun _ => 0)), (g 2, .inl (cy 0, 180, .inl fun _ => 0)), (g 3, .inl (cy 0, 144, .inl fun _ => 0)), (g 4, .inl (cy 0, 432, .inl fun _ => 0)), (g 5, .inl (cy 0, 432, .inl fun _ => 0)), (g 6, .inl (cy 0, 144, .inl fun _ => 0))]) := hD
  refine lv_aload_n (i := 0) hx hb (show decode bC_4 65 = .ok (.aload_n 0, 1) by decide +kernel) rfl hl0 ?_
  refine lv_aload_n (i := 1) hx hb (show decode bC_4 66 = .ok (.aload_n 1, 1) by decide +kernel) rfl (lv_at hl 1 rfl) ?_
  refine putR hC (by decide) hP hD hS (k := 0) (i := 33) (w := 144) (by decide) (Nat.le_of_ble_eq_true rfl) (by decide +kernel) (by decide +kernel) (fun v => ⟨rfl, rfl⟩) (by decide +kernel) (fun H locs hP hD hS => ?_)
  refine W.eq (g2 := F0 m 70 ls []) rfl ?_
  have hP : va_P D vwCl ((h0, .inr (4, [.ref (ad 3), .ref (g 0), .ref (g 1), .ref (g 2), .ref (g 3), .ref (g 4), .ref (g 5), .int 0, .ref (g 6), .int 0])) :: [(g 0, .inl (cy 0, 60, .inl fun _ => 0)), (g 1, .inl (cy 0, 60, .inl fun _ => 0)), (g 2, .inl (cy 0, 180, .inl fun _ => 0)), (g 3, .inl (cy 0, 144, .inl fun _ => 0)), (g 4, .inl (cy 0, 432, .inl fun _ => 0)), (g 5, .inl (cy 0, 432, .inl fun _ => 0)), (g 6, .inl (cy 0, 144, .inl fun _ => 0))]) H := hP
  have hD : va_D (aA h0 s.heap.size) ((h0, .inr (4, [.ref (ad 3), .ref (g 0), .ref (g 1), .ref (g 2), .ref (g 3), .ref (g 4), .ref (g 5), .int 0, .ref (g 6), .int 0])) :: [(g 0, .inl (cy 0, 60, .inl fun _ => 0)), (g 1, .inl (cy 0, 60, .inl fun _ => 0)), (g 2, .inl (cy 0, 180, .inl fun _ => 0)), (g 3, .inl (cy 0, 144, .inl fun _ => 0)), (g 4, .inl (cy 0, 432, .inl fun _ => 0)), (g 5, .inl (cy 0, 432, .inl fun _ => 0)), (g 6, .inl (cy 0, 144, .inl fun _ => 0))]) := hD
  have e9 : (h0, .inr (4, [.ref (ad 3), .ref (g 0), .ref (g 1), .ref (g 2), .ref (g 3), .ref (g 4), .ref (g 5), .int 0, .ref (g 6), .int 0])) :: [(g 0, .inl (cy 0, 60, .inl fun _ => 0)), (g 1, .inl (cy 0, 60, .inl fun _ => 0)), (g 2, .inl (cy 0, 180, .inl fun _ => 0)), (g 3, .inl (cy 0, 144, .inl fun _ => 0)), (g 4, .inl (cy 0, 432, .inl fun _ => 0)), (g 5, .inl (cy 0, 432, .inl fun _ => 0)), (g 6, .inl (cy 0, 144, .inl fun _ => 0))] = subW (osN 4 27 7) (adN ad 4 h0 27 7 g) cy s0 := rfl
  rw [e9] at hP hD
  rw [hsz] at hD hS
  refine W.widen (k := 7) (n := 1452) (Nat.le_of_ble_eq_true rfl) (Nat.le_of_ble_eq_true rfl) ?_
  exact W.vret hx hb hret (fun t ht hW => ⟨⟨g, rfl, trivial, by rw [ht]; exact hP, hD⟩, hS.F ht⟩) hS.2.2 (by decide +kernel)
abbrev bC_5 : ByteArray := prog_7_method_1_code
def yC_5 : MethodName := ⟨"AshLines$Mountains", "<init>", "(LAshLines$Lines;)V"⟩
theorem wC_5 : Cond.code yC_5 bC_5 2 none ∈ lw_g := inG_mem (c := 318) (by decide +kernel)
def LA_5 : List SpA := [(1, 9, 321, 18, 0, 2), (2, 15, 322, 6, 0, 2), (3, 18, 323, 12, 0, 2), (4, 21, 325, 12, 0, 2)]
set_option maxRecDepth 100000 in
theorem oA_5 : okAs 5 bC_5 4 LA_5 = true := by decide +kernel
set_option maxHeartbeats 1000000 in
set_option maxRecDepth 100000 in
theorem c_5 (l : Launch) (D : va_G) (cy : Nat → ClassId) (ad : Nat → Nat) (h0 sz : Nat) : Met l yC_5 (wsC yC_5 bC_5 2) { frames := 1, cells := 4, slots := 48, locals := 23 } (PcC D cy 5 h0 sz [.ref (ad 4)]) (QcC D cy ad 5 34 4 h0 sz) 4 48 (aA h0 sz) := by
  refine ctorM (i := 3) (w := 319) (by decide +kernel) (by decide +kernel) rfl (by decide +kernel) (by decide +kernel) (by decide +kernel) (by decide) (by decide) (Nat.le_of_ble_eq_true rfl) ?_
  intro p e s m below meth c ls hC hl hP hD hS hret hlocks hN hsz
  obtain ⟨hx, hb, hml, hown, hts, hin, hK⟩ := id hC
  have hl0 : ls[0]? = some (.val (.ref h0)) := lv_at hl 0 rfl
  refine blksA hC (by decide) hl0 (fun q h => Or.inr h) rfl LA_5 4 (nulC 5) [] s.heap [] 0 0 oA_5 (by decide +kernel) (Nat.le_of_ble_eq_true rfl) (Nat.le_of_ble_eq_true rfl) hP hD hS ?_
  intro qs H locs hlen hP hD hS
  obtain ⟨g, rfl⟩ := qs_map (n := 4) hlen
  refine W.eq (g2 := F0 m 36 ls []) rfl ?_
  have hP : va_P D vwCl ((h0, .inr (5, [.null, .ref (g 0), .ref (g 1), .ref (g 2), .ref (g 3), .int 0])) :: [(g 0, .inl (cy 0, 18, .inl fun _ => 0)), (g 1, .inl (cy 0, 6, .inl fun _ => 0)), (g 2, .inl (cy 0, 12, .inl fun _ => 0)), (g 3, .inl (cy 0, 12, .inl fun _ => 0))]) H := hP
  have hD : va_D (aA h0 s.heap.size) ((h0, .inr (5, [.null, .ref (g 0), .ref (g 1), .ref (g 2), .ref (g 3), .int 0])) :: [(g 0, .inl (cy 0, 18, .inl fun _ => 0)), (g 1, .inl (cy 0, 6, .inl fun _ => 0)), (g 2, .inl (cy 0, 12, .inl fun _ => 0)), (g 3, .inl (cy 0, 12, .inl fun _ => 0))]) := hD
  refine lv_aload_n (i := 0) hx hb (show decode bC_5 36 = .ok (.aload_n 0, 1) by decide +kernel) rfl hl0 ?_
  refine lv_aload_n (i := 1) hx hb (show decode bC_5 37 = .ok (.aload_n 1, 1) by decide +kernel) rfl (lv_at hl 1 rfl) ?_
  refine putR hC (by decide) hP hD hS (k := 0) (i := 24) (w := 320) (by decide) (Nat.le_of_ble_eq_true rfl) (by decide +kernel) (by decide +kernel) (fun v => ⟨rfl, rfl⟩) (by decide +kernel) (fun H locs hP hD hS => ?_)
  refine W.eq (g2 := F0 m 41 ls []) rfl ?_
  have hP : va_P D vwCl ((h0, .inr (5, [.ref (ad 4), .ref (g 0), .ref (g 1), .ref (g 2), .ref (g 3), .int 0])) :: [(g 0, .inl (cy 0, 18, .inl fun _ => 0)), (g 1, .inl (cy 0, 6, .inl fun _ => 0)), (g 2, .inl (cy 0, 12, .inl fun _ => 0)), (g 3, .inl (cy 0, 12, .inl fun _ => 0))]) H := hP
  have hD : va_D (aA h0 s.heap.size) ((h0, .inr (5, [.ref (ad 4), .ref (g 0), .ref (g 1), .ref (g 2), .ref (g 3), .int 0])) :: [(g 0, .inl (cy 0, 18, .inl fun _ => 0)), (g 1, .inl (cy 0, 6, .inl fun _ => 0)), (g 2, .inl (cy 0, 12, .inl fun _ => 0)), (g 3, .inl (cy 0, 12, .inl fun _ => 0))]) := hD
  have e9 : (h0, .inr (5, [.ref (ad 4), .ref (g 0), .ref (g 1), .ref (g 2), .ref (g 3), .int 0])) :: [(g 0, .inl (cy 0, 18, .inl fun _ => 0)), (g 1, .inl (cy 0, 6, .inl fun _ => 0)), (g 2, .inl (cy 0, 12, .inl fun _ => 0)), (g 3, .inl (cy 0, 12, .inl fun _ => 0))] = subW (osN 5 34 4) (adN ad 5 h0 34 4 g) cy s0 := rfl
  rw [e9] at hP hD
  rw [hsz] at hD hS
  refine W.widen (k := 4) (n := 48) (Nat.le_of_ble_eq_true rfl) (Nat.le_of_ble_eq_true rfl) ?_
  exact W.vret hx hb hret (fun t ht hW => ⟨⟨g, rfl, trivial, by rw [ht]; exact hP, hD⟩, hS.F ht⟩) hS.2.2 (by decide +kernel)
abbrev bC_6 : ByteArray := prog_8_method_1_code
def yC_6 : MethodName := ⟨"AshLines$Rule", "<init>", "()V"⟩
theorem wC_6 : Cond.code yC_6 bC_6 1 none ∈ lw_g := inG_mem (c := 256) (by decide +kernel)
def LA_6 : List SpA := [(0, 9, 258, 50, 0, 2), (2, 15, 262, 50, 0, 2), (3, 18, 264, 50, 0, 2), (4, 21, 265, 50, 0, 2), (5, 24, 266, 50, 0, 2)]
set_option maxRecDepth 100000 in
theorem oA_6 : okAs 6 bC_6 4 LA_6 = true := by decide +kernel
set_option maxHeartbeats 1000000 in
set_option maxRecDepth 100000 in
theorem c_6 (l : Launch) (D : va_G) (cy : Nat → ClassId) (ad : Nat → Nat) (h0 sz : Nat) : Met l yC_6 (wsC yC_6 bC_6 1) { frames := 1, cells := 5, slots := 250, locals := 23 } (PcC D cy 6 h0 sz []) (QcC D cy ad 6 38 5 h0 sz) 5 250 (aA h0 sz) := by
  refine ctorM (i := 3) (w := 257) (by decide +kernel) (by decide +kernel) rfl (by decide +kernel) (by decide +kernel) (by decide +kernel) (by decide) (by decide) (Nat.le_of_ble_eq_true rfl) ?_
  intro p e s m below meth c ls hC hl hP hD hS hret hlocks hN hsz
  obtain ⟨hx, hb, hml, hown, hts, hin, hK⟩ := id hC
  have hl0 : ls[0]? = some (.val (.ref h0)) := lv_at hl 0 rfl
  refine blksA hC (by decide) hl0 (fun q h => Or.inr h) rfl LA_6 4 (nulC 6) [] s.heap [] 0 0 oA_6 (by decide +kernel) (Nat.le_of_ble_eq_true rfl) (Nat.le_of_ble_eq_true rfl) hP hD hS ?_
  intro qs H locs hlen hP hD hS
  obtain ⟨g, rfl⟩ := qs_map (n := 5) hlen
  refine W.eq (g2 := F0 m 44 ls []) rfl ?_
  have hP : va_P D vwCl ((h0, .inr (6, [.ref (g 0), .int 0, .ref (g 1), .ref (g 2), .ref (g 3), .ref (g 4), .int 0, .int 0, .int 0])) :: [(g 0, .inl (cy 0, 50, .inl fun _ => 0)), (g 1, .inl (cy 0, 50, .inl fun _ => 0)), (g 2, .inl (cy 0, 50, .inl fun _ => 0)), (g 3, .inl (cy 0, 50, .inl fun _ => 0)), (g 4, .inl (cy 0, 50, .inl fun _ => 0))]) H := hP
  have hD : va_D (aA h0 s.heap.size) ((h0, .inr (6, [.ref (g 0), .int 0, .ref (g 1), .ref (g 2), .ref (g 3), .ref (g 4), .int 0, .int 0, .int 0])) :: [(g 0, .inl (cy 0, 50, .inl fun _ => 0)), (g 1, .inl (cy 0, 50, .inl fun _ => 0)), (g 2, .inl (cy 0, 50, .inl fun _ => 0)), (g 3, .inl (cy 0, 50, .inl fun _ => 0)), (g 4, .inl (cy 0, 50, .inl fun _ => 0))]) := hD
  have e9 : (h0, .inr (6, [.ref (g 0), .int 0, .ref (g 1), .ref (g 2), .ref (g 3), .ref (g 4), .int 0, .int 0, .int 0])) :: [(g 0, .inl (cy 0, 50, .inl fun _ => 0)), (g 1, .inl (cy 0, 50, .inl fun _ => 0)), (g 2, .inl (cy 0, 50, .inl fun _ => 0)), (g 3, .inl (cy 0, 50, .inl fun _ => 0)), (g 4, .inl (cy 0, 50, .inl fun _ => 0))] = subW (osN 6 38 5) (adN ad 6 h0 38 5 g) cy s0 := rfl
  rw [e9] at hP hD
  rw [hsz] at hD hS
  refine W.widen (k := 5) (n := 250) (Nat.le_of_ble_eq_true rfl) (Nat.le_of_ble_eq_true rfl) ?_
  exact W.vret hx hb hret (fun t ht hW => ⟨⟨g, rfl, trivial, by rw [ht]; exact hP, hD⟩, hS.F ht⟩) hS.2.2 (by decide +kernel)
abbrev bC_7 : ByteArray := prog_9_method_1_code
def yC_7 : MethodName := ⟨"AshLines$Search", "<init>", "()V"⟩
theorem wC_7 : Cond.code yC_7 bC_7 1 none ∈ lw_g := inG_mem (c := 390) (by decide +kernel)
def LA_7 : List SpA := [(0, 9, 392, 60, 0, 2), (1, 15, 393, 6, 0, 2)]
set_option maxRecDepth 100000 in
theorem oA_7 : okAs 7 bC_7 4 LA_7 = true := by decide +kernel
set_option maxHeartbeats 1000000 in
set_option maxRecDepth 100000 in
theorem c_7 (l : Launch) (D : va_G) (cy : Nat → ClassId) (ad : Nat → Nat) (h0 sz : Nat) : Met l yC_7 (wsC yC_7 bC_7 1) { frames := 1, cells := 2, slots := 66, locals := 23 } (PcC D cy 7 h0 sz []) (QcC D cy ad 7 43 2 h0 sz) 2 66 (aA h0 sz) := by
  refine ctorM (i := 3) (w := 391) (by decide +kernel) (by decide +kernel) rfl (by decide +kernel) (by decide +kernel) (by decide +kernel) (by decide) (by decide) (Nat.le_of_ble_eq_true rfl) ?_
  intro p e s m below meth c ls hC hl hP hD hS hret hlocks hN hsz
  obtain ⟨hx, hb, hml, hown, hts, hin, hK⟩ := id hC
  have hl0 : ls[0]? = some (.val (.ref h0)) := lv_at hl 0 rfl
  refine blksA hC (by decide) hl0 (fun q h => Or.inr h) rfl LA_7 4 (nulC 7) [] s.heap [] 0 0 oA_7 (by decide +kernel) (Nat.le_of_ble_eq_true rfl) (Nat.le_of_ble_eq_true rfl) hP hD hS ?_
  intro qs H locs hlen hP hD hS
  obtain ⟨g, rfl⟩ := qs_map (n := 2) hlen
  refine W.eq (g2 := F0 m 20 ls []) rfl ?_
  have hP : va_P D vwCl ((h0, .inr (7, [.ref (g 0), .ref (g 1)])) :: [(g 0, .inl (cy 0, 60, .inl fun _ => 0)), (g 1, .inl (cy 0, 6, .inl fun _ => 0))]) H := hP
  have hD : va_D (aA h0 s.heap.size) ((h0, .inr (7, [.ref (g 0), .ref (g 1)])) :: [(g 0, .inl (cy 0, 60, .inl fun _ => 0)), (g 1, .inl (cy 0, 6, .inl fun _ => 0))]) := hD
  have e9 : (h0, .inr (7, [.ref (g 0), .ref (g 1)])) :: [(g 0, .inl (cy 0, 60, .inl fun _ => 0)), (g 1, .inl (cy 0, 6, .inl fun _ => 0))] = subW (osN 7 43 2) (adN ad 7 h0 43 2 g) cy s0 := rfl
  rw [e9] at hP hD
  rw [hsz] at hD hS
  refine W.widen (k := 2) (n := 66) (Nat.le_of_ble_eq_true rfl) (Nat.le_of_ble_eq_true rfl) ?_
  exact W.vret hx hb hret (fun t ht hW => ⟨⟨g, rfl, trivial, by rw [ht]; exact hP, hD⟩, hS.F ht⟩) hS.2.2 (by decide +kernel)
abbrev bC_8 : ByteArray := prog_10_method_1_code
def yC_8 : MethodName := ⟨"AshLines$Steps", "<init>", "(LAshLines$Ties;)V"⟩
theorem wC_8 : Cond.code yC_8 bC_8 2 none ∈ lw_g := inG_mem (c := 371) (by decide +kernel)
def LA_8 : List SpA := [(1, 9, 374, 144, 0, 3), (2, 15, 375, 10, 0, 2)]
set_option maxRecDepth 100000 in
theorem oA_8 : okAs 8 bC_8 4 LA_8 = true := by decide +kernel
set_option maxHeartbeats 1000000 in
set_option maxRecDepth 100000 in
theorem c_8 (l : Launch) (D : va_G) (cy : Nat → ClassId) (ad : Nat → Nat) (h0 sz : Nat) : Met l yC_8 (wsC yC_8 bC_8 2) { frames := 1, cells := 2, slots := 154, locals := 23 } (PcC D cy 8 h0 sz [.ref (ad 9)]) (QcC D cy ad 8 45 2 h0 sz) 2 154 (aA h0 sz) := by
  refine ctorM (i := 3) (w := 372) (by decide +kernel) (by decide +kernel) rfl (by decide +kernel) (by decide +kernel) (by decide +kernel) (by decide) (by decide) (Nat.le_of_ble_eq_true rfl) ?_
  intro p e s m below meth c ls hC hl hP hD hS hret hlocks hN hsz
  obtain ⟨hx, hb, hml, hown, hts, hin, hK⟩ := id hC
  have hl0 : ls[0]? = some (.val (.ref h0)) := lv_at hl 0 rfl
  refine blksA hC (by decide) hl0 (fun q h => Or.inr h) rfl LA_8 4 (nulC 8) [] s.heap [] 0 0 oA_8 (by decide +kernel) (Nat.le_of_ble_eq_true rfl) (Nat.le_of_ble_eq_true rfl) hP hD hS ?_
  intro qs H locs hlen hP hD hS
  obtain ⟨g, rfl⟩ := qs_map (n := 2) hlen
  refine W.eq (g2 := F0 m 21 ls []) rfl ?_
  have hP : va_P D vwCl ((h0, .inr (8, [.null, .ref (g 0), .ref (g 1), .int 0])) :: [(g 0, .inl (cy 0, 144, .inl fun _ => 0)), (g 1, .inl (cy 0, 10, .inl fun _ => 0))]) H := hP
  have hD : va_D (aA h0 s.heap.size) ((h0, .inr (8, [.null, .ref (g 0), .ref (g 1), .int 0])) :: [(g 0, .inl (cy 0, 144, .inl fun _ => 0)), (g 1, .inl (cy 0, 10, .inl fun _ => 0))]) := hD
  refine lv_aload_n (i := 0) hx hb (show decode bC_8 21 = .ok (.aload_n 0, 1) by decide +kernel) rfl hl0 ?_
  refine lv_aload_n (i := 1) hx hb (show decode bC_8 22 = .ok (.aload_n 1, 1) by decide +kernel) rfl (lv_at hl 1 rfl) ?_
  refine putR hC (by decide) hP hD hS (k := 0) (i := 18) (w := 373) (by decide) (Nat.le_of_ble_eq_true rfl) (by decide +kernel) (by decide +kernel) (fun v => ⟨rfl, rfl⟩) (by decide +kernel) (fun H locs hP hD hS => ?_)
  refine W.eq (g2 := F0 m 26 ls []) rfl ?_
  have hP : va_P D vwCl ((h0, .inr (8, [.ref (ad 9), .ref (g 0), .ref (g 1), .int 0])) :: [(g 0, .inl (cy 0, 144, .inl fun _ => 0)), (g 1, .inl (cy 0, 10, .inl fun _ => 0))]) H := hP
  have hD : va_D (aA h0 s.heap.size) ((h0, .inr (8, [.ref (ad 9), .ref (g 0), .ref (g 1), .int 0])) :: [(g 0, .inl (cy 0, 144, .inl fun _ => 0)), (g 1, .inl (cy 0, 10, .inl fun _ => 0))]) := hD
  have e9 : (h0, .inr (8, [.ref (ad 9), .ref (g 0), .ref (g 1), .int 0])) :: [(g 0, .inl (cy 0, 144, .inl fun _ => 0)), (g 1, .inl (cy 0, 10, .inl fun _ => 0))] = subW (osN 8 45 2) (adN ad 8 h0 45 2 g) cy s0 := rfl
  rw [e9] at hP hD
  rw [hsz] at hD hS
  refine W.widen (k := 2) (n := 154) (Nat.le_of_ble_eq_true rfl) (Nat.le_of_ble_eq_true rfl) ?_
  exact W.vret hx hb hret (fun t ht hW => ⟨⟨g, rfl, trivial, by rw [ht]; exact hP, hD⟩, hS.F ht⟩) hS.2.2 (by decide +kernel)
abbrev bC_9 : ByteArray := prog_11_method_1_code
def yC_9 : MethodName := ⟨"AshLines$Ties", "<init>", "()V"⟩
theorem wC_9 : Cond.code yC_9 bC_9 1 none ∈ lw_g := inG_mem (c := 188) (by decide +kernel)
def LA_9 : List SpA := [(0, 9, 191, 144, 0, 3), (1, 15, 196, 144, 1, 3), (2, 19, 200, 144, 0, 3), (3, 22, 202, 144, 0, 3), (5, 25, 206, 10, 0, 2)]
set_option maxRecDepth 100000 in
theorem oA_9 : okAs 9 bC_9 4 LA_9 = true := by decide +kernel
set_option maxHeartbeats 1000000 in
set_option maxRecDepth 100000 in
theorem c_9 (l : Launch) (D : va_G) (cy : Nat → ClassId) (ad : Nat → Nat) (h0 sz : Nat) : Met l yC_9 (wsC yC_9 bC_9 1) { frames := 1, cells := 5, slots := 586, locals := 23 } (PcC D cy 9 h0 sz []) (QcC D cy ad 9 47 5 h0 sz) 5 586 (aA h0 sz) := by
  refine ctorM (i := 3) (w := 189) (by decide +kernel) (by decide +kernel) rfl (by decide +kernel) (by decide +kernel) (by decide +kernel) (by decide) (by decide) (Nat.le_of_ble_eq_true rfl) ?_
  intro p e s m below meth c ls hC hl hP hD hS hret hlocks hN hsz
  obtain ⟨hx, hb, hml, hown, hts, hin, hK⟩ := id hC
  have hl0 : ls[0]? = some (.val (.ref h0)) := lv_at hl 0 rfl
  refine blksA hC (by decide) hl0 (fun q h => Or.inr h) rfl LA_9 4 (nulC 9) [] s.heap [] 0 0 oA_9 (by decide +kernel) (Nat.le_of_ble_eq_true rfl) (Nat.le_of_ble_eq_true rfl) hP hD hS ?_
  intro qs H locs hlen hP hD hS
  obtain ⟨g, rfl⟩ := qs_map (n := 5) hlen
  refine W.eq (g2 := F0 m 48 ls []) rfl ?_
  have hP : va_P D vwCl ((h0, .inr (9, [.ref (g 0), .ref (g 1), .ref (g 2), .ref (g 3), .int 0, .ref (g 4)])) :: [(g 0, .inl (cy 0, 144, .inl fun _ => 0)), (g 1, .inl (cy 1, 144, .inl fun _ => 0)), (g 2, .inl (cy 0, 144, .inl fun _ => 0)), (g 3, .inl (cy 0, 144, .inl fun _ => 0)), (g 4, .inl (cy 0, 10, .inl fun _ => 0))]) H := hP
  have hD : va_D (aA h0 s.heap.size) ((h0, .inr (9, [.ref (g 0), .ref (g 1), .ref (g 2), .ref (g 3), .int 0, .ref (g 4)])) :: [(g 0, .inl (cy 0, 144, .inl fun _ => 0)), (g 1, .inl (cy 1, 144, .inl fun _ => 0)), (g 2, .inl (cy 0, 144, .inl fun _ => 0)), (g 3, .inl (cy 0, 144, .inl fun _ => 0)), (g 4, .inl (cy 0, 10, .inl fun _ => 0))]) := hD
  refine blkF hC (by decide) hl0 hl.1 hP hD hS ⟨Nat.le_of_ble_eq_true rfl, Nat.le_of_ble_eq_true rfl⟩ ⟨Nat.le_of_ble_eq_true rfl, Nat.le_of_ble_eq_true rfl⟩ (k := 0) (i := 9) (cw := 191) (w := 1) (j := 28) (cj := 190) (v := -1) (by decide +kernel) (r := 0) rfl rfl (by decide) (fun H locs hP hD hS => ?_)
  refine W.eq (g2 := F0 m 56 ls []) rfl ?_
  have hP : va_P D vwCl ((h0, .inr (9, [.ref (g 0), .ref (g 1), .ref (g 2), .ref (g 3), .int 0, .ref (g 4)])) :: [(g 0, .inl (cy 0, 144, .inl fun _ => Int32.ofInt (-1))), (g 1, .inl (cy 1, 144, .inl fun _ => 0)), (g 2, .inl (cy 0, 144, .inl fun _ => 0)), (g 3, .inl (cy 0, 144, .inl fun _ => 0)), (g 4, .inl (cy 0, 10, .inl fun _ => 0))]) H := hP
  have hD : va_D (aA h0 s.heap.size) ((h0, .inr (9, [.ref (g 0), .ref (g 1), .ref (g 2), .ref (g 3), .int 0, .ref (g 4)])) :: [(g 0, .inl (cy 0, 144, .inl fun _ => Int32.ofInt (-1))), (g 1, .inl (cy 1, 144, .inl fun _ => 0)), (g 2, .inl (cy 0, 144, .inl fun _ => 0)), (g 3, .inl (cy 0, 144, .inl fun _ => 0)), (g 4, .inl (cy 0, 10, .inl fun _ => 0))]) := hD
  refine blkF hC (by decide) hl0 hl.1 hP hD hS ⟨Nat.le_of_ble_eq_true rfl, Nat.le_of_ble_eq_true rfl⟩ ⟨Nat.le_of_ble_eq_true rfl, Nat.le_of_ble_eq_true rfl⟩ (k := 2) (i := 19) (cw := 200) (w := 1) (j := 28) (cj := 190) (v := -1) (by decide +kernel) (r := 2) rfl rfl (by decide) (fun H locs hP hD hS => ?_)
  refine W.eq (g2 := F0 m 64 ls []) rfl ?_
  have hP : va_P D vwCl ((h0, .inr (9, [.ref (g 0), .ref (g 1), .ref (g 2), .ref (g 3), .int 0, .ref (g 4)])) :: [(g 0, .inl (cy 0, 144, .inl fun _ => Int32.ofInt (-1))), (g 1, .inl (cy 1, 144, .inl fun _ => 0)), (g 2, .inl (cy 0, 144, .inl fun _ => Int32.ofInt (-1))), (g 3, .inl (cy 0, 144, .inl fun _ => 0)), (g 4, .inl (cy 0, 10, .inl fun _ => 0))]) H := hP
  have hD : va_D (aA h0 s.heap.size) ((h0, .inr (9, [.ref (g 0), .ref (g 1), .ref (g 2), .ref (g 3), .int 0, .ref (g 4)])) :: [(g 0, .inl (cy 0, 144, .inl fun _ => Int32.ofInt (-1))), (g 1, .inl (cy 1, 144, .inl fun _ => 0)), (g 2, .inl (cy 0, 144, .inl fun _ => Int32.ofInt (-1))), (g 3, .inl (cy 0, 144, .inl fun _ => 0)), (g 4, .inl (cy 0, 10, .inl fun _ => 0))]) := hD
  have e9 : (h0, .inr (9, [.ref (g 0), .ref (g 1), .ref (g 2), .ref (g 3), .int 0, .ref (g 4)])) :: [(g 0, .inl (cy 0, 144, .inl fun _ => Int32.ofInt (-1))), (g 1, .inl (cy 1, 144, .inl fun _ => 0)), (g 2, .inl (cy 0, 144, .inl fun _ => Int32.ofInt (-1))), (g 3, .inl (cy 0, 144, .inl fun _ => 0)), (g 4, .inl (cy 0, 10, .inl fun _ => 0))] = subW (osN 9 47 5) (adN ad 9 h0 47 5 g) cy s0 := rfl
  rw [e9] at hP hD
  rw [hsz] at hD hS
  refine W.widen (k := 5) (n := 586) (Nat.le_of_ble_eq_true rfl) (Nat.le_of_ble_eq_true rfl) ?_
  exact W.vret hx hb hret (fun t ht hW => ⟨⟨g, rfl, trivial, by rw [ht]; exact hP, hD⟩, hS.F ht⟩) hS.2.2 (by decide +kernel)
