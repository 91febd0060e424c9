/-! the model's constructor: its contract -/
set_option maxHeartbeats 2000000 in
set_option maxRecDepth 100000 in
theorem c_11 (l : Launch) (D : va_G) (cy : Nat → ClassId) (ad : Nat → Nat) (h0 sz : Nat) : Met l yC_11 (wsC yC_11 bC_11 2) { frames := 1, cells := 41, slots := 5841, locals := 23 } (PcC D cy 11 h0 sz []) (QcC D cy ad 11 52 41 h0 sz) 41 5841 (aA h0 sz) := by
  refine ctorM (i := 1) (w := 968) (by decide +kernel) (by decide +kernel) rfl (by decide +kernel) (by decide +kernel) (by decide +kernel) (by decide) (by decide) (Nat.le_of_ble_eq_true rfl) ?_
  intro p e s m below meth c ls hC hl hP hD hS hret hlocks hN hsz
  obtain ⟨hx, hb, hml, hown, hts, hin, hK⟩ := id hC
  have hl0 : ls[0]? = some (.val (.ref h0)) := lv_at hl 0 rfl
  refine lv_aload_n (i := 0) hx hb d11_4 rfl hl0 ?_
  refine lv_iconst (v := 1) hx hb d11_5 (by decide) ?_
  refine putI hC (by decide) hP hD hS (k := 0) (i := 7) (w := 969) (by decide) (Nat.le_of_ble_eq_true rfl) (by decide +kernel) (by decide +kernel) (by decide +kernel) (by decide +kernel) (fun H locs hP hD hS => ?_)
  refine W.eq (g2 := F0 m 9 ls []) rfl ?_
  refine blksA hC (by decide) hl0 (fun q h => Or.inr h) (n0 := 48) (by decide +kernel) LA_11 9 ((nulC 11).set 0 (.int 1)) [] H locs 0 0 oA_11 nul_11 (by rw [len_11]; exact Nat.le_refl 41) (by rw [sum_11]; exact Nat.le_refl 5841) hP hD hS ?_
  intro qs H locs hlen hP hD hS
  rw [len_11] at hlen
  obtain ⟨g, rfl⟩ := qs_map (n := 41) hlen
  rw [end_11, len_11, sum_11]
  have hP := Eq.mp (congrArg (fun w => va_P D vwCl w H) (w_11 cy ad h0 g)) hP
  have hD := Eq.mp (congrArg (fun w => va_D (aA h0 s.heap.size) w) (w_11 cy ad h0 g)) hD
  have hl : lv_has ls 2 [(0, .ref h0)] := hl
  generalize ha : adN ad 11 h0 52 41 g = ad1 at hP hD
  have hh : h0 = ad1 11 := by rw [← ha]; rfl
  have hl : lv_has ls 2 [(0, .ref (ad1 11))] := by rw [← hh]; exact hl
  clear hl0
  refine lv_iconst (v := nI 0) hx hb (show decode bC_11 348 = .ok (.iconst 0, 1) by decide +kernel) (by decide) ?_
  refine lv_istore_n (i := 1) hx hb (show decode bC_11 349 = .ok (.istore_n 1, 1) by decide +kernel) rfl hl (by decide) rfl (fun ls hl => ?_)
  refine loopS (N := 9) (pc := 350) (w := 2) (out := 378) (st := st_0) (σ := s1) hC oL_0 ?_ 10 0 H locs ls (by decide) (by decide) (by rw [loopF_0]; exact hP) (by rw [loopF_0]; exact hD) hS hl
  intro H locs ls hP hD hS hl
  refine lv_iconst (v := nI 0) hx hb (show decode bC_11 378 = .ok (.iconst 0, 1) by decide +kernel) (by decide) ?_
  refine lv_istore_n (i := 1) hx hb (show decode bC_11 379 = .ok (.istore_n 1, 1) by decide +kernel) rfl hl (by decide) rfl (fun ls hl => ?_)
  refine loopS (N := 6) (pc := 380) (w := 2) (out := 400) (st := st_1) (σ := loopF s1 st_0 9) hC oL_1 ?_ 7 0 H locs ls (by decide) (by decide) (by rw [loopF_0]; exact hP) (by rw [loopF_0]; exact hD) hS hl
  intro H locs ls hP hD hS hl
  refine lv_iconst (v := nI 0) hx hb (show decode bC_11 400 = .ok (.iconst 0, 1) by decide +kernel) (by decide) ?_
  refine lv_istore_n (i := 1) hx hb (show decode bC_11 401 = .ok (.istore_n 1, 1) by decide +kernel) rfl hl (by decide) rfl (fun ls hl => ?_)
  refine loopS (N := 10) (pc := 402) (w := 2) (out := 431) (st := st_2) (σ := loopF (loopF s1 st_0 9) st_1 6) hC oL_2 ?_ 11 0 H locs ls (by decide) (by decide) (by rw [loopF_0]; exact hP) (by rw [loopF_0]; exact hD) hS hl
  intro H locs ls hP hD hS hl
  refine lv_iconst (v := nI 0) hx hb (show decode bC_11 431 = .ok (.iconst 0, 1) by decide +kernel) (by decide) ?_
  refine lv_istore_n (i := 1) hx hb (show decode bC_11 432 = .ok (.istore_n 1, 1) by decide +kernel) rfl hl (by decide) rfl (fun ls hl => ?_)
  refine loopS (N := 144) (pc := 433) (w := 3) (out := 471) (st := st_3) (σ := loopF (loopF (loopF s1 st_0 9) st_1 6) st_2 10) hC oL_3 ?_ 145 0 H locs ls (by decide) (by decide) (by rw [loopF_0]; exact hP) (by rw [loopF_0]; exact hD) hS hl
  intro H locs ls hP hD hS hl
  have hP : va_P D vwCl (subW (osN 11 52 41) ad1 cy s0) H := subW_at (σ := sE) rfl sE_s0 hP
  have hD : va_D (aA h0 s.heap.size) (subW (osN 11 52 41) ad1 cy s0) := subW_D hD
  rw [hsz] at hD hS
  subst ha
  refine W.widen (k := 41) (n := 5841) (Nat.le_of_ble_eq_true rfl) (Nat.le_of_ble_eq_true rfl) ?_
  exact W.vret hx hb hret (fun t ht hW => ⟨⟨g, rfl, trivial, by rw [ht]; exact hP, hD⟩, hS.F ht⟩) hS.2.2 (by decide +kernel)
