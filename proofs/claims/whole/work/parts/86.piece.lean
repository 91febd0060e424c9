/-! the pairs piece, round -/
def Rg (r54 r55 r56 r57 r58 : Nat → Int32) (n : Nat) : Prop := ∀ p, p < n → (0 ≤ r54 p ∧ r54 p < 3) ∧ (0 ≤ r56 p ∧ r56 p < 3) ∧ (-99 ≤ r57 p ∧ r57 p ≤ 99) ∧ (0 ≤ r58 p ∧ r58 p ≤ 3) ∧ (r55 p = -6 ∨ (0 ≤ r55 p ∧ r55 p < 3 ∧ r55 p ≠ r54 p))
def Mt (r23 r24 r25 r26 r54 r55 r56 r57 r58 : Nat → Int32) (n k : Nat) : Prop := (∀ p, p < n → 0 ≤ r55 p → ∃ j, j < k ∧ rmatch r23 r24 r25 r26 r54 r55 r56 r57 r58 p j) ∧ (∀ j, j < k → ∃ p, p < n ∧ 0 ≤ r55 p ∧ rmatch r23 r24 r25 r26 r54 r55 r56 r57 r58 p j)
def hx (r54 r56 : Nat → Int32) (p : Nat) : Nat := (3 * r54 p + r56 p).toNatClampNeg
theorem idx9 {x y : Int32} (hx : 0 ≤ x ∧ x < 3) (hy : 0 ≤ y ∧ y < 3) : (3 * x + y).toNatClampNeg < 9 ∧ 3 * x + y = nI (3 * x + y).toNatClampNeg := by
  obtain ⟨k, hk, e⟩ := inR (x := 3 * x + y) (m := 9) (n := 9) rfl (by decide) (by grind) (by grind)
  rw [e, clN (by omega)]
  exact ⟨hk, rfl⟩
theorem rg_far {b s : Int32} (hb : -99 ≤ b ∧ b ≤ 99) (hs : 0 ≤ s ∧ s ≤ 3) : (-105 ≤ b - 2 * s ∧ b - 2 * s ≤ 105) ∧ (-105 ≤ b + 2 * s ∧ b + 2 * s ≤ 105) := by
  refine ⟨⟨?_, ?_⟩, ?_, ?_⟩ <;> grind
/-- rounds and round pieces want the same -/
theorem cr_iff {r23 r24 r25 r26 r54 r55 r56 r57 r58 : Nat → Int32} {n k : Nat} {X Y : Nat → Int32} (h : Mt r23 r24 r25 r26 r54 r55 r56 r57 r58 n k) : CR (fun j => (r23 j).toNatClampNeg) (fun j => (r24 j).toNatClampNeg) r25 r26 k X Y ↔ ∀ p, p < n → 0 ≤ r55 p → X (hx r55 r56 p) + r57 p - 2 * r58 p ≤ X (hx r54 r56 p) ∧ Y (hx r54 r56 p) ≤ Y (hx r55 r56 p) + r57 p + 2 * r58 p ∧ X (hx r54 r56 p) - r57 p - 2 * r58 p ≤ X (hx r55 r56 p) ∧ Y (hx r55 r56 p) ≤ Y (hx r54 r56 p) - r57 p + 2 * r58 p := by
  have one : ∀ p j, rmatch r23 r24 r25 r26 r54 r55 r56 r57 r58 p j → ((X (r24 j).toNatClampNeg + r25 j ≤ X (r23 j).toNatClampNeg ∧ Y (r23 j).toNatClampNeg ≤ Y (r24 j).toNatClampNeg + r26 j ∧ X (r23 j).toNatClampNeg - r26 j ≤ X (r24 j).toNatClampNeg ∧ Y (r24 j).toNatClampNeg ≤ Y (r23 j).toNatClampNeg - r25 j) ↔ (X (hx r55 r56 p) + r57 p - 2 * r58 p ≤ X (hx r54 r56 p) ∧ Y (hx r54 r56 p) ≤ Y (hx r55 r56 p) + r57 p + 2 * r58 p ∧ X (hx r54 r56 p) - r57 p - 2 * r58 p ≤ X (hx r55 r56 p) ∧ Y (hx r55 r56 p) ≤ Y (hx r54 r56 p) - r57 p + 2 * r58 p)) := by
    rintro p j ⟨e1, e2, e3, e4⟩
    rw [e1, e2, e3, e4]
    unfold hx
    generalize X (3 * r55 p + r56 p).toNatClampNeg = a
    generalize X (3 * r54 p + r56 p).toNatClampNeg = b
    generalize Y (3 * r55 p + r56 p).toNatClampNeg = c
    generalize Y (3 * r54 p + r56 p).toNatClampNeg = d
    rw [show a + (r57 p - 2 * r58 p) = a + r57 p - 2 * r58 p by grind, show c + (r57 p + 2 * r58 p) = c + r57 p + 2 * r58 p by grind, show b - (r57 p + 2 * r58 p) = b - r57 p - 2 * r58 p by grind, show d - (r57 p - 2 * r58 p) = d - r57 p + 2 * r58 p by grind]
  constructor
  · intro hc p hp hr
    obtain ⟨j, hj, hm⟩ := h.1 p hp hr
    exact (one p j hm).mp (hc j hj)
  · intro hc j hj
    obtain ⟨p, hp, hr, hm⟩ := h.2 j hj
    exact (one p j hm).mpr (hc p hp hr)
theorem rdq {σ : St} {r54 r55 r56 r57 r58 : Nat → Int32} {n k : Nat} (hk : k ≤ 30) (e38 : σ.1 3 8 = nI k) (hg : Rg r54 r55 r56 r57 r58 n) (h : Mt (σ.1 23) (σ.1 24) (σ.1 25) (σ.1 26) r54 r55 r56 r57 r58 n k) : RdQ σ (fun j => (σ.1 23 j).toNatClampNeg) (fun j => (σ.1 24 j).toNatClampNeg) (σ.1 25) (σ.1 26) k := by
  refine ⟨hk, e38, fun j hj => ?_⟩
  obtain ⟨p, hp, hr, e1, e2, e3, e4⟩ := h.2 j hj
  obtain ⟨g1, g2, g3, g4, g5⟩ := hg p hp
  have g6 : 0 ≤ r55 p ∧ r55 p < 3 := by
    rcases g5 with g5 | g5
    · rw [g5] at hr; exact absurd hr (by decide)
    · exact ⟨g5.1, g5.2.1⟩
  have i1 := idx9 g1 g2
  have i2 := idx9 g6 g2
  have f := rg_far g3 g4
  show ((σ.1 23 j).toNatClampNeg < 9 ∧ σ.1 23 j = nI (σ.1 23 j).toNatClampNeg) ∧ ((σ.1 24 j).toNatClampNeg < 9 ∧ σ.1 24 j = nI (σ.1 24 j).toNatClampNeg) ∧ (σ.1 25 j = σ.1 25 j ∧ _) ∧ (σ.1 26 j = σ.1 26 j ∧ _)
  rw [e1, e2, e3, e4]
  exact ⟨i1, i2, ⟨rfl, f.1⟩, ⟨rfl, f.2⟩⟩
theorem pcr {σ : St} {n : Nat} (hn : n ≤ 31) (e3 : σ.1 11 3 = nI n) (hg : Rg (σ.1 54) (σ.1 55) (σ.1 56) (σ.1 57) (σ.1 58) n) : PcR σ n (hx (σ.1 54) (σ.1 56)) (hx (σ.1 55) (σ.1 56)) := by
  refine ⟨hn, e3, fun p hp => ?_⟩
  obtain ⟨g1, g2, g3, g4, g5⟩ := hg p hp
  refine ⟨idx9 g1 g2, fun hr => ?_, g3, g4⟩
  rcases g5 with g5 | g5
  · rw [g5] at hr; exact absurd hr (by decide)
  · exact idx9 ⟨g5.1, g5.2.1⟩ g2
theorem Rg.step {r54 r55 r56 r57 r58 : Nat → Int32} {n : Nat} {h o s b f : Int32} (hg : Rg r54 r55 r56 r57 r58 n) (h1 : 0 ≤ h ∧ h < 3) (h2 : 0 ≤ s ∧ s < 3) (h3 : -99 ≤ b ∧ b ≤ 99) (h4 : 0 ≤ f ∧ f ≤ 3) (h5 : o = -6 ∨ (0 ≤ o ∧ o < 3 ∧ o ≠ h)) : Rg (upd r54 n h) (upd r55 n o) (upd r56 n s) (upd r57 n b) (upd r58 n f) (n + 1) := by
  intro p hp
  by_cases e : p = n
  · subst e
    rw [upd_at, upd_at, upd_at, upd_at, upd_at]
    exact ⟨h1, h2, h3, h4, h5⟩
  · rw [upd_n e, upd_n e, upd_n e, upd_n e, upd_n e]
    exact hg p (by omega)
theorem rm_upd {r23 r24 r25 r26 r54 r55 r56 r57 r58 : Nat → Int32} {n p j : Nat} {h o s b f : Int32} (e : p ≠ n) : rmatch r23 r24 r25 r26 (upd r54 n h) (upd r55 n o) (upd r56 n s) (upd r57 n b) (upd r58 n f) p j ↔ rmatch r23 r24 r25 r26 r54 r55 r56 r57 r58 p j := by
  unfold rmatch
  rw [upd_n e, upd_n e, upd_n e, upd_n e, upd_n e]
theorem rm_upd2 {r23 r24 r25 r26 r54 r55 r56 r57 r58 : Nat → Int32} {k p j : Nat} {x y z w : Int32} (e : j ≠ k) : rmatch (upd r23 k x) (upd r24 k y) (upd r25 k z) (upd r26 k w) r54 r55 r56 r57 r58 p j ↔ rmatch r23 r24 r25 r26 r54 r55 r56 r57 r58 p j := by
  unfold rmatch
  rw [upd_n e, upd_n e, upd_n e, upd_n e]
theorem Mt.piece {r23 r24 r25 r26 r54 r55 r56 r57 r58 : Nat → Int32} {n k : Nat} {h s b f : Int32} (hm : Mt r23 r24 r25 r26 r54 r55 r56 r57 r58 n k) : Mt r23 r24 r25 r26 (upd r54 n h) (upd r55 n (-6)) (upd r56 n s) (upd r57 n b) (upd r58 n f) (n + 1) k := by
  refine ⟨fun p hp hr => ?_, fun j hj => ?_⟩
  · by_cases e : p = n
    · subst e; rw [upd_at] at hr; exact absurd hr (by decide)
    · rw [upd_n e] at hr
      obtain ⟨j, hj, q⟩ := hm.1 p (by omega) hr
      exact ⟨j, hj, (rm_upd e).mpr q⟩
  · obtain ⟨p, hp, hr, q⟩ := hm.2 j hj
    have e : p ≠ n := by omega
    exact ⟨p, by omega, by rw [upd_n e]; exact hr, (rm_upd e).mpr q⟩
theorem Mt.round {r23 r24 r25 r26 r54 r55 r56 r57 r58 : Nat → Int32} {n k : Nat} {h o s b f : Int32} (hm : Mt r23 r24 r25 r26 r54 r55 r56 r57 r58 n k) (ho : 0 ≤ o) : Mt (upd r23 k (3 * h + s)) (upd r24 k (3 * o + s)) (upd r25 k (b - 2 * f)) (upd r26 k (b + 2 * f)) (upd r54 n h) (upd r55 n o) (upd r56 n s) (upd r57 n b) (upd r58 n f) (n + 1) (k + 1) := by
  have new : rmatch (upd r23 k (3 * h + s)) (upd r24 k (3 * o + s)) (upd r25 k (b - 2 * f)) (upd r26 k (b + 2 * f)) (upd r54 n h) (upd r55 n o) (upd r56 n s) (upd r57 n b) (upd r58 n f) n k := by
    unfold rmatch
    rw [upd_at, upd_at, upd_at, upd_at, upd_at, upd_at, upd_at, upd_at, upd_at]
    exact ⟨rfl, rfl, rfl, rfl⟩
  refine ⟨fun p hp hr => ?_, fun j hj => ?_⟩
  · by_cases e : p = n
    · subst e; exact ⟨k, by omega, new⟩
    · rw [upd_n e] at hr
      obtain ⟨j, hj, q⟩ := hm.1 p (by omega) hr
      exact ⟨j, by omega, (rm_upd e).mpr ((rm_upd2 (by omega)).mpr q)⟩
  · by_cases e : j = k
    · subst e
      exact ⟨n, by omega, by rw [upd_at]; exact ho, new⟩
    · obtain ⟨p, hp, hr, q⟩ := hm.2 j (by omega)
      have e2 : p ≠ n := by omega
      exact ⟨p, by omega, by rw [upd_n e2]; exact hr, (rm_upd e2).mpr ((rm_upd2 e).mpr q)⟩
/-! the class's pieces -/
theorem cpy9 {f g : Nat → Int32} : va_cpy f g 0 0 9 = fun u => if u < 9 then f u else g u := by
  funext u
  unfold va_cpy
  by_cases h : u < 9
  · rw [if_pos h, if_pos ⟨Nat.zero_le _, by omega⟩]
    simp
  · rw [if_neg h, if_neg (fun z => h (by have := z.2; omega))]
def kc (σ : St) : St := setR (setR σ 21 (va_cpy (σ.1 19) (σ.1 21) 0 0 9)) 22 (va_cpy (σ.1 20) (σ.1 22) 0 0 9)
theorem s_22 {σ : St} : Ret 22 [.ref 3] σ [] (kc σ) := g_22_0 ⟨by decide, rfl, rfl⟩
theorem cst_self {σ : St} : cst σ (σ.1 19) (σ.1 20) = σ := by
  unfold cst
  rw [setR_self]
  exact setR_self
theorem cst2 {σ : St} {L H L' H' : Nat → Int32} : setR (setR (cst σ L H) 19 L') 20 H' = cst σ L' H' := by
  unfold cst
  rw [setR_comm (c := 20) (d := 19) (by decide), setR2, setR2]
/-- put back, what was kept -/
theorem s_23 {σ : St} {L H A B : Nat → Int32} (h21 : ∀ u, u < 9 → σ.1 21 u = A u) (h22 : ∀ u, u < 9 → σ.1 22 u = B u) (hL : ∀ u, 9 ≤ u → L u = A u ∧ H u = B u) : Ret 23 [.ref 3] (cst σ L H) [] (cst σ A B) := by
  refine g_23_0 ⟨by decide, rfl, ?_⟩
  show cst σ A B = setR (setR (cst σ L H) 19 (va_cpy (σ.1 21) L 0 0 9)) 20 (va_cpy (σ.1 22) H 0 0 9)
  rw [cst2, cpy9, cpy9]
  have e1 : (fun u => if u < 9 then σ.1 21 u else L u) = A := by
    funext u
    by_cases h : u < 9
    · rw [if_pos h, h21 u h]
    · rw [if_neg h, (hL u (by omega)).1]
  have e2 : (fun u => if u < 9 then σ.1 22 u else H u) = B := by
    funext u
    by_cases h : u < 9
    · rw [if_pos h, h22 u h]
    · rw [if_neg h, (hL u (by omega)).2]
  rw [e1, e2]
theorem kept {σ : St} : (∀ u, u < 9 → (kc σ).1 21 u = σ.1 19 u) ∧ (∀ u, u < 9 → (kc σ).1 22 u = σ.1 20 u) := by
  constructor
  · intro u hu
    show va_cpy (σ.1 19) (σ.1 21) 0 0 9 u = _
    rw [cpy9]
    exact if_pos hu
  · intro u hu
    show va_cpy (σ.1 20) (σ.1 22) 0 0 9 u = _
    rw [cpy9]
    exact if_pos hu
theorem s_20 {σ : St} {a b : Nat → Nat} {c d : Nat → Int32} {k h : Nat} {off : Int32} (hh : h < 9) (hq : RdQ σ a b c d k) (hL : ∀ u, u < 9 → -9 ≤ σ.1 19 u ∧ σ.1 20 u ≤ 9) : ∃ (L' H' : Nat → Int32) (ans : Int32), NarQ (SolC a b c d k (rz (σ.1 19) h (off - σ.1 3 10)) (lz (σ.1 20) h (off + σ.1 3 10))) L' H' ans ∧
    (ans = 1 → Ret 20 [.ref 3, .int (nI h), .int off] σ [.int 1] (wr (cst (kc σ) L' H') 3 9 (σ.1 3 9 + 1))) ∧ (ans = 0 → Ret 20 [.ref 3, .int (nI h), .int off] σ [.int 0] (kc σ)) := by
  obtain ⟨⟨L', H', ans⟩, ⟨hN, h9⟩, hgo⟩ := s_24 (σ := kc σ) (L := rz (σ.1 19) h (off - σ.1 3 10)) (H := lz (σ.1 20) h (off + σ.1 3 10)) hq (fun u hu => ⟨Int32.le_trans (hL u hu).1 (rz_ge u), Int32.le_trans (lz_le u) (hL u hu).2⟩)
  have hgo : Ret 24 [.ref 3] (cst (kc σ) (rz (σ.1 19) h (off - σ.1 3 10)) (lz (σ.1 20) h (off + σ.1 3 10))) [.int ans] (cst (kc σ) L' H') := hgo
  have x27 : Ret 27 [.ref 3, .int (nI h), .int (off - σ.1 3 10)] (kc σ) [.int (rzm (σ.1 19) h (off - σ.1 3 10) 0)] (cst (kc σ) (rz (σ.1 19) h (off - σ.1 3 10)) (σ.1 20)) := by
    have := s_27 (σ := kc σ) (L := σ.1 19) (H := σ.1 20) (v := off - σ.1 3 10) hh
    rw [show cst (kc σ) (σ.1 19) (σ.1 20) = kc σ from cst_self (σ := kc σ)] at this
    exact this
  have x28 := s_28 (σ := kc σ) (L := rz (σ.1 19) h (off - σ.1 3 10)) (H := σ.1 20) (v := off + σ.1 3 10) hh
  refine ⟨L', H', ans, hN, fun ha => ?_, fun ha => ?_⟩
  · subst ha
    exact g_20_0 ⟨_, s_22, _, _, x27, _, _, x28, _, _, hgo, br_f (by decide) ⟨rfl, rfl⟩⟩
  · subst ha
    refine g_20_0 ⟨_, s_22, _, _, x27, _, _, x28, _, _, hgo, br_t rfl ⟨_, s_23 (A := σ.1 19) (B := σ.1 20) kept.1 kept.2 (fun u hu => ?_), rfl, ?_⟩⟩
    · have := h9 u hu
      exact ⟨this.1.trans (rz_ne (by omega)), this.2.trans (lz_ne (by omega))⟩
    · exact (cst_self (σ := kc σ)).symm
def rc (σ : St) (k : Nat) (o t x y : Int32) : St := wr (wr (wr (wr (wr (kc σ) 23 k o) 24 k t) 25 k x) 26 k y) 3 8 (nI (k + 1))
theorem s_21 {σ : St} {a b : Nat → Nat} {c d : Nat → Int32} {k : Nat} {o t off : Int32} (hk : k < 30) (e38 : σ.1 3 8 = nI k) (hq : RdQ (rc σ k o t (off - 2 * σ.1 3 10) (off + 2 * σ.1 3 10)) a b c d (k + 1)) (hL : ∀ u, u < 9 → -9 ≤ σ.1 19 u ∧ σ.1 20 u ≤ 9) : ∃ (L' H' : Nat → Int32) (ans : Int32), NarQ (SolC a b c d (k + 1) (σ.1 19) (σ.1 20)) L' H' ans ∧
    (ans = 1 → Ret 21 [.ref 3, .int o, .int t, .int off] σ [.int 1] (wr (cst (rc σ k o t (off - 2 * σ.1 3 10) (off + 2 * σ.1 3 10)) L' H') 3 9 (σ.1 3 9 + 1))) ∧ (ans = 0 → Ret 21 [.ref 3, .int o, .int t, .int off] σ [.int 0] (cst (wr (rc σ k o t (off - 2 * σ.1 3 10) (off + 2 * σ.1 3 10)) 3 8 (nI k)) (σ.1 19) (σ.1 20))) := by
  obtain ⟨⟨L', H', ans⟩, ⟨hN, h9⟩, hgo⟩ := s_24 (σ := rc σ k o t (off - 2 * σ.1 3 10) (off + 2 * σ.1 3 10)) (L := σ.1 19) (H := σ.1 20) hq hL
  have hgo : Ret 24 [.ref 3] (cst (rc σ k o t (off - 2 * σ.1 3 10) (off + 2 * σ.1 3 10)) (σ.1 19) (σ.1 20)) [.int ans] (cst (rc σ k o t (off - 2 * σ.1 3 10) (off + 2 * σ.1 3 10)) L' H') := hgo
  rw [show cst (rc σ k o t (off - 2 * σ.1 3 10) (off + 2 * σ.1 3 10)) (σ.1 19) (σ.1 20) = rc σ k o t (off - 2 * σ.1 3 10) (off + 2 * σ.1 3 10) from cst_self (σ := rc σ k o t (off - 2 * σ.1 3 10) (off + 2 * σ.1 3 10))] at hgo
  have lt : σ.1 3 8 < 30 := by rw [e38]; exact (nI_ltL (n := 30) rfl (by omega) (by decide)).mpr hk
  have ek : (nI k).toNatClampNeg = k := clN (by omega)
  have f38 : (kc σ).1 3 8 = nI k := e38
  have pre : ∀ R S, ((ans = 0 → (∃ σ3 : St, Ret 23 [.ref 3] (wr (cst (rc σ k o t (off - 2 * σ.1 3 10) (off + 2 * σ.1 3 10)) L' H') 3 8 (nI k)) [] σ3 ∧ (R = [.int 0] ∧ S = σ3))) ∧ (¬ ans = 0 → (R = [.int 1] ∧ S = wr (cst (rc σ k o t (off - 2 * σ.1 3 10) (off + 2 * σ.1 3 10)) L' H') 3 9 (σ.1 3 9 + 1)))) → Ret 21 [.ref 3, .int o, .int t, .int off] σ R S := by
    intro R S hK
    refine g_21_0 (br_t lt ⟨_, s_22, ?_⟩)
    rw [f38, ek, nI_S]
    refine ⟨vp_in_nI hk (by decide), _, _, hgo, ?_⟩
    have g38 : (cst (rc σ k o t (off - 2 * σ.1 3 10) (off + 2 * σ.1 3 10)) L' H').1 3 8 = nI (k + 1) := rfl
    rw [g38, show nI (k + 1) - 1 = nI k by rw [← nI_S]; grind]
    exact hK
  refine ⟨L', H', ans, hN, fun ha => pre _ _ ⟨fun z => absurd (z.symm.trans ha) (by decide), fun _ => ⟨rfl, rfl⟩⟩, fun ha => pre _ _ ⟨fun _ => ?_, fun z => absurd ha z⟩⟩
  have ew : wr (cst (rc σ k o t (off - 2 * σ.1 3 10) (off + 2 * σ.1 3 10)) L' H') 3 8 (nI k) = cst (wr (rc σ k o t (off - 2 * σ.1 3 10) (off + 2 * σ.1 3 10)) 3 8 (nI k)) L' H' := by
    unfold cst
    rw [wr_setR_ne (by decide), wr_setR_ne (by decide)]
  rw [ew]
  exact ⟨_, s_23 (A := σ.1 19) (B := σ.1 20) kept.1 kept.2 h9, rfl, rfl⟩
