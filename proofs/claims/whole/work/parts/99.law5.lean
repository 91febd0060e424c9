/-! THE LAW: its loop -/
theorem and63 (a : Int32) : ∃ k, k < 64 ∧ a &&& 63 = nI k := by
  refine ⟨(a &&& 63).toBitVec.toNat, ?_, ?_⟩
  · have h : (a &&& 63).toBitVec = a.toBitVec &&& (63#32) := rfl
    rw [h, BitVec.toNat_and]
    have : a.toBitVec.toNat &&& (63#32).toNat ≤ (63#32).toNat := Nat.and_le_right
    have h63 : (63#32).toNat = 63 := rfl
    omega
  · apply Int32.toBitVec_inj.mp
    show (a &&& 63).toBitVec = BitVec.ofNat 32 _
    rw [BitVec.ofNat_toNat]
    simp
theorem len7 {i L : Nat} (hi : i ≤ 3591) (hL : L ≤ 3584) : ¬ nI L - 7 < nI i ↔ i + 7 ≤ L := by
  by_cases h7 : 7 ≤ L
  · obtain ⟨q, rfl⟩ : ∃ q, L = q + 7 := ⟨L - 7, by omega⟩
    have e1 : nI (q + 7) - 7 = nI q := by
      rw [← nI_add, show nI 7 = (7 : Int32) from rfl]
      grind
    rw [e1, nI_ltI (by omega) (by omega)]
    omega
  · have h : nI L - 7 < 0 := by
      have hL : L = 0 ∨ L = 1 ∨ L = 2 ∨ L = 3 ∨ L = 4 ∨ L = 5 ∨ L = 6 := by omega
      rcases hL with rfl | rfl | rfl | rfl | rfl | rfl | rfl <;> decide
    have h2 : 0 ≤ nI i := nI0 (by omega)
    constructor
    · intro h3; exact absurd (Int32.lt_of_lt_of_le h h2) h3
    · intro h3; omega
theorem dl_18 : decode code 18 = .ok (.iload_n 3, 1) := by decide +kernel
theorem dl_19 : decode code 19 = .ok (.aload_n 0, 1) := by decide +kernel
theorem dl_20 : decode code 20 = .ok (.arraylength, 1) := by decide +kernel
theorem dl_21 : decode code 21 = .ok (.bipush 7, 2) := by decide +kernel
theorem dl_23 : decode code 23 = .ok (.isub, 1) := by decide +kernel
theorem dl_24 : decode code 24 = .ok (.if_icmp .gt 1644, 3) := by decide +kernel
theorem dl_27 : decode code 27 = .ok (.aload_n 0, 1) := by decide +kernel
theorem dl_28 : decode code 28 = .ok (.iload_n 3, 1) := by decide +kernel
theorem dl_29 : decode code 29 = .ok (.iaload, 1) := by decide +kernel
theorem dl_30 : decode code 30 = .ok (.bipush 63, 2) := by decide +kernel
theorem dl_32 : decode code 32 = .ok (.iand, 1) := by decide +kernel
theorem dl_1662 : decode code 1662 = .ok (.iinc 3 7, 3) := by decide +kernel
theorem dl_1665 : decode code 1665 = .ok (.goto (-1647), 3) := by decide +kernel
theorem dl_1668 : decode code 1668 = .ok (.iconst 1, 1) := by decide +kernel
theorem dl_1669 : decode code 1669 = .ok (.ireturn, 1) := by decide +kernel
set_option maxHeartbeats 1000000 in
theorem law_loop {p : Program} {l : Launch} {e : Env} {s : State} {m : MethodId} {below : List Frame} {meth : Method} {c : Code} {Hc : Heap} {D : va_G} {cy : Nat → ClassId} {b L : Nat} {xs : Nat → Int32} {ad : Nat → Nat} (K : LK D cy p s m b L xs meth c Hc ad) (hr : meth.sig.returnType = ret) (hlocks : meth.locks = false) (hAd : ∀ j, j < 93 → s.heap.size ≤ ad j) :
    ∀ (n i : Nat) (σ : St) (H : Heap) (locs : List Loc) (ls : Array Slot), i ≤ L + 7 → L + 7 - i < n → Rel σ → va_P D vwCl (wsW ad cy σ) H → va_S (adA ad) Hc H locs → lv_has ls 4 [(3, .int (nI i)), (0, .ref b), (1, .ref (ad 10)), (2, .ref (ad 11))] →
      W p l e room_1 s m #[Value.ref b] below meth c H locs 93 9420 (lw_Z below #[Value.ref b] s) (F0 m 18 ls []) := by
  obtain ⟨hinj, C, hX, hbl, hbA, hL⟩ := id K
  obtain ⟨hx, hb, -⟩ := id C
  intro n
  induction n with
  | zero => intro i σ H locs ls h1 h2; omega
  | succ n ih =>
    intro i σ H locs ls hi hn hR hP hS hl
    refine lv_iload_n (i := 3) hx hb dl_18 rfl (lv_at hl 0 rfl) ?_
    refine lv_aload_n (i := 0) hx hb dl_19 rfl (lv_at hl 1 rfl) ?_
    refine va_slen hx hb hX hbl hbA hS dl_20 ?_
    refine lv_bipush (v := 7) hx hb dl_21 (by decide) ?_
    refine lv_isub hx hb dl_23 ?_
    refine lv_icmp_gt (tgt := 1668) hx hb dl_24 (by decide) (fun h => ?_) (fun h => ?_)
    · refine lv_iconst (v := 1) hx hb dl_1668 (by decide) ?_
      refine va_forget (fun q hq => ?_) ?_
      · obtain ⟨j, hj, e1⟩ := hS.2.2 q hq
        rw [e1]
        exact hAd j hj
      · exact lw_ret hx hb hr hlocks dl_1669
    · have hi7 : i + 7 ≤ L := (len7 (by omega) hL).mp h
      refine lv_aload_n (i := 0) hx hb dl_27 rfl (lv_at hl 1 rfl) ?_
      refine lv_iload_n (i := 3) hx hb dl_28 rfl (lv_at hl 0 rfl) ?_
      refine va_sld hx hb hX hbl hbA hS (vp_of (show i < L by omega) (by omega)) dl_29 ?_
      refine lv_bipush (v := 63) hx hb dl_30 (by decide) ?_
      refine lv_iand hx hb dl_32 ?_
      have kk : LG p l e s m below meth c Hc (lw_Z below #[Value.ref b] s) D cy ls b ad 1662 := by
        intro σ2 H2 locs2 hR2 hP2 hS2
        refine lv_iinc (v := nI (i + 7)) hx hb dl_1662 hl (k := 0) rfl (by rw [← nI_add]; rfl) (by decide) rfl (fun ls1 hl1 => ?_)
        refine lv_goto (tgt := 18) hx hb dl_1665 (by decide) ?_
        exact ih (i + 7) σ2 H2 locs2 ls1 (by omega) (by omega) hR2 hP2 hS2 hl1
      obtain ⟨k, hk, ek⟩ := and63 (xs (nI i).toNatClampNeg)
      rw [ek]
      by_cases h42 : k < 42
      · refine lv_tableIn (tgt := tgL.getD k 0) (off := (tgL.getD k 0 : Int) - 33) hx hb d_l33 (by rw [nI_toInt (by omega)]; omega) (by rw [nI_toInt (by omega)]; omega) ?_ (by omega) ?_
        · rw [nI_toInt (by omega), show ((k : Int) - 0).toNat = k by omega]
          exact sw_t k h42
        · exact row K hl hi7 kk k h42 σ H locs hR hP hS
      · refine lv_tableOut (tgt := 1662) hx hb d_l33 (Or.inr (by rw [nI_toInt (by omega)]; omega)) (by decide) ?_
        exact kk σ H locs hR hP hS
