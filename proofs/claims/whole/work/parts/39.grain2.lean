theorem rkc_congr {f g : Nat → Int32} : ∀ {k : Nat}, (∀ l, l < k → f l = g l) → rkc f k = rkc g k
  | 0, _ => rfl
  | k + 1, h => by
    unfold rkc
    rw [rkc_congr (k := k) (fun l hl => h l (by omega)), h k (by omega)]
theorem nI_pos_iff {k : Nat} (hk : k < 2 ^ 31) : ¬ nI k ≤ 0 ↔ 0 < k := by
  have := nI_leI (a := k) (b := 0) hk (by decide)
  rw [nI_0] at this
  rw [this]
  omega
/-- the class's own rows behind a new grain -/
theorem relH_new {r27 r28 r29 r30 r33 r19 r20 : Nat → Int32} {gv : Int32} {n : Nat} {f31 f32 : Nat → Int32} (hn : n ≤ 60) (h27 : ∀ g, g < n → ∃ l, l < 144 ∧ r27 g = nI l) (h30 : ∀ l, l < 144 → r30 l = nI (gCt r27 (nI l) n))
    (h3 : ∀ l s, l < 144 → s < 3 → f31 (3 * l + s) = gLo r27 (fun g => tLo r29 r28 r20 gv g s) (nI l) n ∧ f32 (3 * l + s) = gHi r27 (fun g => tHi r29 r28 r19 gv g s) (nI l) n) :
    RelH (nI n) r27 r28 r29 r30 f31 f32 (rkr r30 r33 144) r19 r20 (nI (rkc r30 144)) gv := by
  have hle : rkc r30 144 ≤ n := by
    rw [rkc_congr h30]
    exact rk_ct n hn h27
  have pos : ∀ l, l < 144 → (¬ r30 l ≤ 0 ↔ 0 < gCt r27 (nI l) n) := by
    intro l hl
    rw [h30 l hl]
    have := gCt_le (ln := r27) (l := nI l) n
    exact nI_pos_iff (by omega)
  obtain ⟨a1, a2, a3⟩ := rk_spec (f := r30) (o := r33) 144 (by decide)
  refine ⟨n, hn, rfl, h30, fun l s hl hs _ => h3 l s hl hs, rkc r30 144, hle, rfl, fun i hi => ?_, a2, fun l hl hc => a3 l hl ((pos l hl).mpr hc)⟩
  obtain ⟨l, b1, b2, b3⟩ := a1 i hi
  exact ⟨l, b1, b2, (pos l b1).mp b3⟩
theorem mul24 {a b : Nat} : nI a * 24 + nI b = nI (24 * a + b) := by
  rw [show (24 : Int32) = nI 24 from rfl, pk_mul, nI_add, Nat.mul_comm]
theorem mul24' {a b : Nat} : 24 * nI a + nI b = nI (24 * a + b) := by
  rw [show (24 : Int32) = nI 24 from rfl, pk_mul, nI_add]
theorem p_grain {σ : St} {a b c d e f : Int32} (hR : Rel σ) : PairI 73 135 [.int a, .int b, .int c, .int d, .int e, .int f] σ := by
  obtain ⟨n, hg⟩ := hR.gf
  obtain ⟨hS, hG, hH, hL, hP, hM, hA, hT, hD, hF, hU⟩ := id hR
  rcases (Classical.em ((0 ≤ a ∧ a < 6) ∧ (0 ≤ b ∧ b < 24) ∧ (0 ≤ c ∧ c < 3))).symm with h1 | h1
  · exact ⟨-1, σ, σ, by (refine g_73_0 ⟨_, _, s_114, ⟨fun q1 => ?_, fun q1 => ⟨_, _, s_114, ⟨fun q2 => ?_, fun q2 => ⟨_, _, s_114, ⟨fun q3 => ?_, fun q3 => ?_⟩⟩⟩⟩⟩⟩ <;> first | exact ⟨rfl, rfl⟩ | (exfalso; (try simp only [bI_0, vp_6, vp_9, vp_10, vp_12, vp_18, vp_30, vp_31, vp_50, vp_60, vp_144, vp_154, vp_180, vp_432, vp_3600] at *) <;> grind) | ((try simp only [bI_0, vp_6, vp_9, vp_10, vp_12, vp_18, vp_30, vp_31, vp_50, vp_60, vp_144, vp_154, vp_180, vp_432, vp_3600] at *) <;> grind)), by (refine g_135_0 ⟨_, _, s_123, ⟨fun q1 => ?_, fun q1 => ⟨_, _, s_120, ⟨fun q2 => ?_, fun q2 => ⟨_, _, s_122, ⟨fun q3 => ?_, fun q3 => ?_⟩⟩⟩⟩⟩⟩ <;> first | exact ⟨rfl, rfl⟩ | (exfalso; (try simp only [bI_0, vp_6, vp_9, vp_10, vp_12, vp_18, vp_30, vp_31, vp_50, vp_60, vp_144, vp_154, vp_180, vp_432, vp_3600] at *) <;> grind) | ((try simp only [bI_0, vp_6, vp_9, vp_10, vp_12, vp_18, vp_30, vp_31, vp_50, vp_60, vp_144, vp_154, vp_180, vp_432, vp_3600] at *) <;> grind)), hR⟩
  rcases (Classical.em ((0 ≤ d ∧ d ≤ 99) ∧ (0 ≤ e ∧ e ≤ 99) ∧ (0 ≤ f ∧ f ≤ 99))).symm with h2 | h2
  · exact ⟨-2, σ, σ, by (refine g_73_0 ⟨_, _, s_114, ⟨fun q1 => ?_, fun q1 => ⟨_, _, s_114, ⟨fun q2 => ?_, fun q2 => ⟨_, _, s_114, ⟨fun q3 => ?_, fun q3 => ⟨_, _, s_115, ⟨fun q4 => ?_, fun q4 => ⟨_, _, s_115, ⟨fun q5 => ?_, fun q5 => ⟨_, _, s_115, ⟨fun q6 => ?_, fun q6 => ?_⟩⟩⟩⟩⟩⟩⟩⟩⟩⟩⟩⟩ <;> first | exact ⟨rfl, rfl⟩ | (exfalso; (try simp only [bI_0, vp_6, vp_9, vp_10, vp_12, vp_18, vp_30, vp_31, vp_50, vp_60, vp_144, vp_154, vp_180, vp_432, vp_3600] at *) <;> grind) | ((try simp only [bI_0, vp_6, vp_9, vp_10, vp_12, vp_18, vp_30, vp_31, vp_50, vp_60, vp_144, vp_154, vp_180, vp_432, vp_3600] at *) <;> grind)), by (refine g_135_0 ⟨_, _, s_123, ⟨fun q1 => ?_, fun q1 => ⟨_, _, s_120, ⟨fun q2 => ?_, fun q2 => ⟨_, _, s_122, ⟨fun q3 => ?_, fun q3 => ⟨_, _, s_121, ⟨fun q4 => ?_, fun q4 => ⟨_, _, s_121, ⟨fun q5 => ?_, fun q5 => ⟨_, _, s_121, ⟨fun q6 => ?_, fun q6 => ?_⟩⟩⟩⟩⟩⟩⟩⟩⟩⟩⟩⟩ <;> first | exact ⟨rfl, rfl⟩ | (exfalso; (try simp only [bI_0, vp_6, vp_9, vp_10, vp_12, vp_18, vp_30, vp_31, vp_50, vp_60, vp_144, vp_154, vp_180, vp_432, vp_3600] at *) <;> grind) | ((try simp only [bI_0, vp_6, vp_9, vp_10, vp_12, vp_18, vp_30, vp_31, vp_50, vp_60, vp_144, vp_154, vp_180, vp_432, vp_3600] at *) <;> grind)), hR⟩
  have e47 := hg.1.2.1
  have e119 := hg.2.1
  have hn := hg.1.1
  rcases (Classical.em (n < 60)).symm with h3 | h3
  · have n60 : n = 60 := by omega
    have c1 : σ.1 4 7 = 60 := by rw [e47, n60]; rfl
    have c2 : σ.1 11 9 = 60 := by rw [e119, n60]; rfl
    exact ⟨-4, σ, σ, by (refine g_73_0 ⟨_, _, s_114, ⟨fun q1 => ?_, fun q1 => ⟨_, _, s_114, ⟨fun q2 => ?_, fun q2 => ⟨_, _, s_114, ⟨fun q3 => ?_, fun q3 => ⟨_, _, s_115, ⟨fun q4 => ?_, fun q4 => ⟨_, _, s_115, ⟨fun q5 => ?_, fun q5 => ⟨_, _, s_115, ⟨fun q6 => ?_, fun q6 => ⟨fun q7 => ?_, fun q7 => ?_⟩⟩⟩⟩⟩⟩⟩⟩⟩⟩⟩⟩⟩ <;> first | exact ⟨rfl, rfl⟩ | (exfalso; (try simp only [bI_0, vp_6, vp_9, vp_10, vp_12, vp_18, vp_30, vp_31, vp_50, vp_60, vp_144, vp_154, vp_180, vp_432, vp_3600] at *) <;> grind) | ((try simp only [bI_0, vp_6, vp_9, vp_10, vp_12, vp_18, vp_30, vp_31, vp_50, vp_60, vp_144, vp_154, vp_180, vp_432, vp_3600] at *) <;> grind)), by (refine g_135_0 ⟨_, _, s_123, ⟨fun q1 => ?_, fun q1 => ⟨_, _, s_120, ⟨fun q2 => ?_, fun q2 => ⟨_, _, s_122, ⟨fun q3 => ?_, fun q3 => ⟨_, _, s_121, ⟨fun q4 => ?_, fun q4 => ⟨_, _, s_121, ⟨fun q5 => ?_, fun q5 => ⟨_, _, s_121, ⟨fun q6 => ?_, fun q6 => ⟨fun q7 => ?_, fun q7 => ?_⟩⟩⟩⟩⟩⟩⟩⟩⟩⟩⟩⟩⟩ <;> first | exact ⟨rfl, rfl⟩ | (exfalso; (try simp only [bI_0, vp_6, vp_9, vp_10, vp_12, vp_18, vp_30, vp_31, vp_50, vp_60, vp_144, vp_154, vp_180, vp_432, vp_3600] at *) <;> grind) | ((try simp only [bI_0, vp_6, vp_9, vp_10, vp_12, vp_18, vp_30, vp_31, vp_50, vp_60, vp_144, vp_154, vp_180, vp_432, vp_3600] at *) <;> grind)), hR⟩
  obtain ⟨ca, hca, rfl⟩ := inR (x := a) (m := 6) (n := 6) rfl (by decide) h1.1.1 h1.1.2
  obtain ⟨ib, hib, rfl⟩ := inR (x := b) (m := 24) (n := 24) rfl (by decide) h1.2.1.1 h1.2.1.2
  obtain ⟨hc, hhc, rfl⟩ := inR (x := c) (m := 3) (n := 3) rfl (by decide) h1.2.2.1 h1.2.2.2
  obtain ⟨l, el0⟩ : ∃ l, l = 24 * ca + ib := ⟨_, rfl⟩
  have hl : l < 144 := by omega
  have el : nI ca * 24 + nI ib = nI l := by rw [mul24, el0]
  have el' : 24 * nI ca + nI ib = nI l := by rw [mul24', el0]
  have elc : (nI l).toNatClampNeg = l := clN (by omega)
  have en : (nI n).toNatClampNeg = n := clN (by omega)
  have e1 : (nI n * 3).toNatClampNeg = 3 * n := by rw [show nI n * 3 = nI n * 3 + nI 0 by rw [nI_0]; grind, mul3]; exact clN (by omega)
  have e2 : (nI n * 3 + 1).toNatClampNeg = 3 * n + 1 := by rw [show (1 : Int32) = nI 1 from rfl, mul3]; exact clN (by omega)
  have e3 : (nI n * 3 + 2).toNatClampNeg = 3 * n + 2 := by rw [show (2 : Int32) = nI 2 from rfl, mul3]; exact clN (by omega)
  have f1 : (3 * nI n).toNatClampNeg = 3 * n := by rw [show 3 * nI n = 3 * nI n + nI 0 by rw [nI_0]; grind, mul3']; exact clN (by omega)
  have f2 : (3 * nI n + 1).toNatClampNeg = 3 * n + 1 := by rw [show (1 : Int32) = nI 1 from rfl, mul3']; exact clN (by omega)
  have f3 : (3 * nI n + 2).toNatClampNeg = 3 * n + 2 := by rw [show (2 : Int32) = nI 2 from rfl, mul3']; exact clN (by omega)
  have n0 : 0 ≤ nI n := nI0 (by omega)
  have n60 : nI n < 60 := (nI_ltL (n := 60) rfl (by omega) (by decide)).mpr h3
  -- the class
  obtain ⟨τ, eτ⟩ : ∃ τ, τ = (wr (wr (wr (wr (wr (wr (wr σ 27 n (nI l)) 28 n (nI hc)) 29 (3 * n) d) 29 (3 * n + 1) e) 29 (3 * n + 2) f) 4 7 (nI (n + 1))) 30 l (σ.1 30 l + 1)) := ⟨_, rfl⟩
  have s30 : Ret 30 [.ref 4, .int (nI l), .int (nI hc), .int d, .int e, .int f] σ [.int (nI n)] (wr (setR τ 33 (rkr (τ.1 30) (τ.1 33) 144)) 4 9 (nI (rkc (τ.1 30) 144))) := by
    refine g_30_0 ?_
    rw [e47, en, e1, e2, e3, elc, nI_S, ← eτ]
    exact br_t n60 ⟨vp_60.mpr ⟨n0, n60⟩, vp_180.mpr ⟨by grind, by grind⟩, vp_180.mpr ⟨by grind, by grind⟩, vp_180.mpr ⟨by grind, by grind⟩, vp_in_nI hl (by decide), _, s_31, rfl, rfl⟩
  have gw : GW (wr (setR τ 33 (rkr (τ.1 30) (τ.1 33) 144)) 4 9 (nI (rkc (τ.1 30) 144))) (n + 1) := by
    subst eτ
    refine ⟨by omega, rfl, fun g hgn => ?_, fun g hgn => ?_⟩
    · show ∃ l1, l1 < 144 ∧ upd (σ.1 27) n (nI l) g = nI l1
      by_cases hgn' : g = n
      · subst hgn'; rw [upd_s]; exact ⟨l, hl, rfl⟩
      · rw [upd_n hgn']; exact hg.1.2.2.1 g (by omega)
    · show ∃ h, h < 3 ∧ upd (σ.1 28) n (nI hc) g = nI h
      by_cases hgn' : g = n
      · subst hgn'; rw [upd_s]; exact ⟨hc, hhc, rfl⟩
      · rw [upd_n hgn']; exact hg.1.2.2.2 g (by omega)
  have s35 := s_35 gw
  obtain ⟨υ, eυ⟩ : ∃ υ, υ = (wr (setR τ 33 (rkr (τ.1 30) (τ.1 33) 144)) 4 9 (nI (rkc (τ.1 30) 144))) := ⟨_, rfl⟩
  rw [← eυ] at s35 s30 gw
  have X : Ret 73 [.ref 10, .int (nI ca), .int (nI ib), .int (nI hc), .int d, .int e, .int f] σ [.int (nI n)] (setR (setR υ 31 (wgL υ (n + 1) 0)) 32 (wgH υ (n + 1) 0)) := (g_73_0 ⟨_, _, s_114, (br_f (by (try simp only [bI_0, vp_6, vp_9, vp_10, vp_12, vp_18, vp_30, vp_31, vp_50, vp_60, vp_144, vp_154, vp_180, vp_432, vp_3600]) <;> grind) ⟨_, _, s_114, (br_f (by (try simp only [bI_0, vp_6, vp_9, vp_10, vp_12, vp_18, vp_30, vp_31, vp_50, vp_60, vp_144, vp_154, vp_180, vp_432, vp_3600]) <;> grind) ⟨_, _, s_114, (br_f (by (try simp only [bI_0, vp_6, vp_9, vp_10, vp_12, vp_18, vp_30, vp_31, vp_50, vp_60, vp_144, vp_154, vp_180, vp_432, vp_3600]) <;> grind) ⟨_, _, s_115, (br_f (by (try simp only [bI_0, vp_6, vp_9, vp_10, vp_12, vp_18, vp_30, vp_31, vp_50, vp_60, vp_144, vp_154, vp_180, vp_432, vp_3600]) <;> grind) ⟨_, _, s_115, (br_f (by (try simp only [bI_0, vp_6, vp_9, vp_10, vp_12, vp_18, vp_30, vp_31, vp_50, vp_60, vp_144, vp_154, vp_180, vp_432, vp_3600]) <;> grind) ⟨_, _, s_115, (br_f (by (try simp only [bI_0, vp_6, vp_9, vp_10, vp_12, vp_18, vp_30, vp_31, vp_50, vp_60, vp_144, vp_154, vp_180, vp_432, vp_3600]) <;> grind) (br_t (show σ.1 4 7 < 60 by rw [e47]; exact n60) ⟨_, _, (by rw [el]; exact s30), ⟨_, s35, ⟨rfl, rfl⟩⟩⟩))⟩)⟩)⟩)⟩)⟩)⟩)
  refine ⟨_, _, wr (wr (wr (wr (wr (wr (setR (setR υ 31 (wgL υ (n + 1) 0)) 32 (wgH υ (n + 1) 0)) 59 n (nI l)) 60 n (nI hc)) 61 (3 * n) d) 61 (3 * n + 1) e) 61 (3 * n + 2) f) 11 9 (nI (n + 1)), X, ?_, ?_⟩
  · have c9 : (setR (setR υ 31 (wgL υ (n + 1) 0)) 32 (wgH υ (n + 1) 0)).1 11 9 = nI n := by subst eυ eτ; exact e119
    refine (g_135_0 ⟨_, _, s_123, (br_f (by (try simp only [bI_0, vp_6, vp_9, vp_10, vp_12, vp_18, vp_30, vp_31, vp_50, vp_60, vp_144, vp_154, vp_180, vp_432, vp_3600]) <;> grind) ⟨_, _, s_120, (br_f (by (try simp only [bI_0, vp_6, vp_9, vp_10, vp_12, vp_18, vp_30, vp_31, vp_50, vp_60, vp_144, vp_154, vp_180, vp_432, vp_3600]) <;> grind) ⟨_, _, s_122, (br_f (by (try simp only [bI_0, vp_6, vp_9, vp_10, vp_12, vp_18, vp_30, vp_31, vp_50, vp_60, vp_144, vp_154, vp_180, vp_432, vp_3600]) <;> grind) ⟨_, _, s_121, (br_f (by (try simp only [bI_0, vp_6, vp_9, vp_10, vp_12, vp_18, vp_30, vp_31, vp_50, vp_60, vp_144, vp_154, vp_180, vp_432, vp_3600]) <;> grind) ⟨_, _, s_121, (br_f (by (try simp only [bI_0, vp_6, vp_9, vp_10, vp_12, vp_18, vp_30, vp_31, vp_50, vp_60, vp_144, vp_154, vp_180, vp_432, vp_3600]) <;> grind) ⟨_, _, s_121, (br_f (by (try simp only [bI_0, vp_6, vp_9, vp_10, vp_12, vp_18, vp_30, vp_31, vp_50, vp_60, vp_144, vp_154, vp_180, vp_432, vp_3600]) <;> grind) (br_f (by rw [c9]; grind) ⟨(by rw [c9]; exact vp_60.mpr ⟨n0, n60⟩), ⟨(by rw [c9]; exact vp_180.mpr ⟨by grind, by grind⟩), ⟨(by rw [c9]; exact vp_180.mpr ⟨by grind, by grind⟩), ⟨(by rw [c9]; exact vp_180.mpr ⟨by grind, by grind⟩), ⟨?_, ?_⟩⟩⟩⟩⟩))⟩)⟩)⟩)⟩)⟩)⟩)
    · rw [c9, show nI n + 1 - 1 = nI n by grind]
    · rw [c9, en, f1, f2, f3, el', nI_S]
  · subst eυ eτ
    have q30 : ∀ l1, l1 < 144 → upd (σ.1 30) l (σ.1 30 l + 1) l1 = nI (gCt (upd (σ.1 27) n (nI l)) (nI l1) (n + 1)) := by
      intro l1 hl1
      have cg : gCt (upd (σ.1 27) n (nI l)) (nI l1) n = gCt (σ.1 27) (nI l1) n := gCt_congr (fun g hgn => upd_n (by omega))
      rw [gCt, upd_s, cg]
      by_cases hll : l1 = l
      · subst hll
        rw [upd_s, if_pos rfl, hg.2.2.2.1 l1 hl1, nI_S]
      · rw [upd_n hll, if_neg (nI_ne (by omega) (by omega) (Ne.symm hll)), hg.2.2.2.1 l1 hl1]
        rfl
    refine ⟨hS, ?_, ?_, hL, hP, hM, hA, ?_, hD, hF, hU⟩
    · show RelG (nI (n + 1)) (nI (n + 1)) (upd (σ.1 27) n (nI l)) (upd (σ.1 28) n (nI hc)) (upd (upd (upd (σ.1 29) (3 * n) d) (3 * n + 1) e) (3 * n + 2) f) (upd (σ.1 59) n (nI l)) (upd (σ.1 60) n (nI hc)) (upd (upd (upd (σ.1 61) (3 * n) d) (3 * n + 1) e) (3 * n + 2) f)
      refine ⟨n + 1, by omega, rfl, rfl, fun g hgn => ?_, fun g hgn => ?_, fun j hj => ?_⟩
      · by_cases hgn' : g = n
        · subst hgn'; rw [upd_s, upd_s]; exact ⟨rfl, l, hl, rfl⟩
        · rw [upd_n hgn', upd_n hgn']; exact ⟨(hg.2.2.1 g (by omega)).1, hg.1.2.2.1 g (by omega)⟩
      · by_cases hgn' : g = n
        · subst hgn'; rw [upd_s, upd_s]; exact ⟨rfl, hc, hhc, rfl⟩
        · rw [upd_n hgn', upd_n hgn']; exact ⟨(hg.2.2.1 g (by omega)).2.1, hg.1.2.2.2 g (by omega)⟩
      · rw [upd3, upd3]
        by_cases j1 : j = 3 * n
        · rw [if_pos j1, if_pos j1]; exact ⟨rfl, h2.1⟩
        · rw [if_neg j1, if_neg j1]
          by_cases j2 : j = 3 * n + 1
          · rw [if_pos j2, if_pos j2]; exact ⟨rfl, h2.2.1⟩
          · rw [if_neg j2, if_neg j2]
            by_cases j3 : j = 3 * n + 2
            · rw [if_pos j3, if_pos j3]; exact ⟨rfl, h2.2.2⟩
            · rw [if_neg j3, if_neg j3]
              have := (hg.2.2.1 (j / 3) (by omega)).2.2 (j % 3) (by omega)
              rw [show 3 * (j / 3) + j % 3 = j by omega] at this
              exact this
    · exact relH_new (by omega) gw.2.2.1 q30 (fun l s hl hs => wg_at hl hs)
    · intro j hj
      refine ⟨?_, (hT j hj).2⟩
      rcases (hT j hj).1 with q | ⟨dd, q1, q2, q3, q4⟩
      · exact Or.inl q
      · refine Or.inr ⟨dd, q1, q2, q3, ?_⟩
        show 0 < upd (σ.1 30) l (σ.1 30 l + 1) j
        by_cases hjl : j = l
        · subst hjl
          rw [upd_s, hg.2.2.2.1 j hj, nI_S]
          have := gCt_le (ln := σ.1 27) (l := nI j) n
          exact (nI_ltI (a := 0) (by decide) (by omega)).mpr (by omega)
        · rw [upd_n hjl]; exact q4
