/-! bits -/
theorem nI_or (a b : Nat) : nI a ||| nI b = nI (a ||| b) := by
  apply Int32.toBitVec_inj.1
  show BitVec.ofNat 32 a ||| BitVec.ofNat 32 b = BitVec.ofNat 32 (a ||| b)
  apply BitVec.eq_of_getLsbD_eq
  intro i hi
  simp [hi]
theorem nI_and (a b : Nat) : nI a &&& nI b = nI (a &&& b) := by
  apply Int32.toBitVec_inj.1
  show BitVec.ofNat 32 a &&& BitVec.ofNat 32 b = BitVec.ofNat 32 (a &&& b)
  apply BitVec.eq_of_getLsbD_eq
  intro i hi
  simp [hi]
theorem sh_l : ∀ n, n < 32 → ((nI n &&& 31).toBitVec.smod 32).toNat = n := by decide +kernel
theorem nI_shl1 : ∀ m, m < 31 → (1 : Int32) <<< (nI m &&& 31) = nI (2 ^ m) := by decide +kernel
theorem nI_bit {K m : Nat} (hK : K < 2 ^ 31) (hm : m < 31) : ((nI K >>> (nI m &&& 31)) &&& 1) = nI (K / 2 ^ m % 2) := by
  rw [pk_shrN hK (nI m &&& 31) m (sh_l m (by omega))]
  have h1 : K / 2 ^ m < 2 ^ 32 := Nat.lt_of_le_of_lt (Nat.div_le_self _ _) (by omega)
  exact pk_andN h1 1 rfl
theorem bit_iff {K m : Nat} (hK : K < 2 ^ 31) (hm : m < 31) : ((nI K >>> (nI m &&& 31)) &&& 1) = 0 ↔ K.testBit m = false := by
  rw [nI_bit hK hm, Nat.testBit_eq_decide_div_mod_eq]
  have h2 : K / 2 ^ m % 2 = 0 ∨ K / 2 ^ m % 2 = 1 := by omega
  rcases h2 with h | h <;> rw [h] <;> simp [nI]
theorem bit_iff1 {K m : Nat} (hK : K < 2 ^ 31) (hm : m < 31) : ((nI K >>> (nI m &&& 31)) &&& 1) = 1 ↔ K.testBit m = true := by
  rw [nI_bit hK hm, Nat.testBit_eq_decide_div_mod_eq]
  have h2 : K / 2 ^ m % 2 = 0 ∨ K / 2 ^ m % 2 = 1 := by omega
  rcases h2 with h | h <;> rw [h] <;> simp [nI]
theorem tb_or {K m i : Nat} : (K ||| 2 ^ m).testBit i = (K.testBit i || decide (m = i)) := by
  rw [Nat.testBit_or, Nat.testBit_two_pow]
theorem or_lt {K m n : Nat} (hK : K < 2 ^ n) (hm : m < n) : K ||| 2 ^ m < 2 ^ n := Nat.or_lt_two_pow hK (Nat.pow_lt_pow_right (by decide) hm)
theorem mul3 {a b : Nat} : nI a * 3 + nI b = nI (3 * a + b) := by
  rw [show (3 : Int32) = nI 3 from rfl, pk_mul, nI_add, Nat.mul_comm]
theorem mul3' {a b : Nat} : 3 * nI a + nI b = nI (3 * a + b) := by
  rw [show (3 : Int32) = nI 3 from rfl, pk_mul, nI_add]
/-! say, wipe -/
theorem p_say {σ : St} {a : Int32} (hR : Rel σ) : PairI 77 144 [.int a] σ := by
  obtain ⟨hS, hG, hH, hL, hP, hM, hA, hT, hD, hF, hU⟩ := id hR
  obtain ⟨n, hn, e1, e2, hs⟩ := id hS
  rcases (Classical.em (33 ≤ a ∧ a ≤ 126)).symm with h1 | h1
  · exact ⟨-2, σ, σ, by (refine g_77_0 ⟨fun q1 => ?_, fun q1 => ⟨fun q2 => ?_, fun q2 => ?_⟩⟩ <;> first | exact ⟨rfl, rfl⟩ | (exfalso; (try simp only [bI_0, vp_6, vp_9, vp_10, vp_12, vp_18, vp_30, vp_31, vp_50, vp_60, vp_144, vp_154, vp_180, vp_432, vp_3600] at *) <;> grind) | ((try simp only [bI_0, vp_6, vp_9, vp_10, vp_12, vp_18, vp_30, vp_31, vp_50, vp_60, vp_144, vp_154, vp_180, vp_432, vp_3600]) <;> grind)), by (refine g_144_0 ⟨_, _, s_120, ⟨fun q1 => ?_, fun q1 => ?_⟩⟩ <;> first | exact ⟨rfl, rfl⟩ | (exfalso; (try simp only [bI_0, vp_6, vp_9, vp_10, vp_12, vp_18, vp_30, vp_31, vp_50, vp_60, vp_144, vp_154, vp_180, vp_432, vp_3600] at *) <;> grind) | ((try simp only [bI_0, vp_6, vp_9, vp_10, vp_12, vp_18, vp_30, vp_31, vp_50, vp_60, vp_144, vp_154, vp_180, vp_432, vp_3600]) <;> grind)), hR⟩
  rcases (Classical.em (n < 50)).symm with h2 | h2
  · have h3 : σ.1 6 1 = 50 := by rw [e1, show n = 50 by omega]; rfl
    have h4 : σ.1 11 13 = 50 := by rw [e2, show n = 50 by omega]; rfl
    exact ⟨-4, σ, σ, by (refine g_77_0 ⟨fun q1 => ?_, fun q1 => ⟨fun q2 => ⟨fun q3 => ?_, fun q3 => ?_⟩, fun q2 => ?_⟩⟩ <;> first | exact ⟨rfl, rfl⟩ | (exfalso; (try simp only [bI_0, vp_6, vp_9, vp_10, vp_12, vp_18, vp_30, vp_31, vp_50, vp_60, vp_144, vp_154, vp_180, vp_432, vp_3600] at *) <;> grind) | ((try simp only [bI_0, vp_6, vp_9, vp_10, vp_12, vp_18, vp_30, vp_31, vp_50, vp_60, vp_144, vp_154, vp_180, vp_432, vp_3600]) <;> grind)), by (refine g_144_0 ⟨_, _, s_120, ⟨fun q1 => ?_, fun q1 => ⟨fun q2 => ?_, fun q2 => ?_⟩⟩⟩ <;> first | exact ⟨rfl, rfl⟩ | (exfalso; (try simp only [bI_0, vp_6, vp_9, vp_10, vp_12, vp_18, vp_30, vp_31, vp_50, vp_60, vp_144, vp_154, vp_180, vp_432, vp_3600] at *) <;> grind) | ((try simp only [bI_0, vp_6, vp_9, vp_10, vp_12, vp_18, vp_30, vp_31, vp_50, vp_60, vp_144, vp_154, vp_180, vp_432, vp_3600]) <;> grind)), hR⟩
  have h3 : σ.1 6 1 < 50 := by rw [e1]; exact (nI_ltL (n := 50) rfl (by omega) (by decide)).mpr h2
  have h3' : 0 ≤ σ.1 6 1 := by rw [e1]; exact nI0 (by omega)
  have h4 : σ.1 11 13 = σ.1 6 1 := by rw [e1, e2]
  have k1 : (σ.1 6 1).toNatClampNeg = n := by rw [e1]; exact clN (by omega)
  refine ⟨_, _, _, (g_77_0 (br_f (by (try simp only [bI_0, vp_6, vp_9, vp_10, vp_12, vp_18, vp_30, vp_31, vp_50, vp_60, vp_144, vp_154, vp_180, vp_432, vp_3600]) <;> grind) (br_t (by (try simp only [bI_0, vp_6, vp_9, vp_10, vp_12, vp_18, vp_30, vp_31, vp_50, vp_60, vp_144, vp_154, vp_180, vp_432, vp_3600]) <;> grind) (br_t (by (try simp only [bI_0, vp_6, vp_9, vp_10, vp_12, vp_18, vp_30, vp_31, vp_50, vp_60, vp_144, vp_154, vp_180, vp_432, vp_3600]) <;> grind) ⟨(by (try simp only [bI_0, vp_6, vp_9, vp_10, vp_12, vp_18, vp_30, vp_31, vp_50, vp_60, vp_144, vp_154, vp_180, vp_432, vp_3600]) <;> grind), ⟨rfl, rfl⟩⟩)))), (g_144_0 ⟨_, _, s_120, (br_f (by (try simp only [bI_0, vp_6, vp_9, vp_10, vp_12, vp_18, vp_30, vp_31, vp_50, vp_60, vp_144, vp_154, vp_180, vp_432, vp_3600]) <;> grind) (br_f (show ¬ σ.1 11 13 = 50 by grind) ⟨(show vp_in (σ.1 11 13) 50 by rw [vp_50]; grind), ⟨?_, rfl⟩⟩))⟩), ?_, hG, hH, hL, hP, hM, hA, hT, hD, hF, hU⟩
  · show [Value.int (σ.1 6 1 + 1)] = [Value.int (σ.1 11 13 + 1)]
    rw [h4]
  · show RelS (σ.1 6 1 + 1) (σ.1 11 13 + 1) (upd (σ.1 38) (σ.1 6 1).toNatClampNeg a) (upd (σ.1 62) (σ.1 11 13).toNatClampNeg a)
    refine ⟨n + 1, by omega, by rw [e1]; exact nI_1 n, by rw [e2]; exact nI_1 n, fun k hk => ?_⟩
    rw [h4, k1]
    unfold upd
    have := hs k
    split <;> grind
theorem p_wipe {σ : St} (hR : Rel σ) : PairI 78 145 [] σ := by
  obtain ⟨hS, hG, hH, hL, hP, hM, hA, hT, hD, hF, hU⟩ := id hR
  obtain ⟨n, hn, e1, e2, hs⟩ := id hS
  refine ⟨_, _, _, (g_78_0 ⟨rfl, rfl⟩), (g_145_0 ⟨?_, rfl⟩), ⟨0, by decide, rfl, rfl, fun k hk => by omega⟩, hG, hH, hL, hP, hM, hA, hT, hD, hF, hU⟩
  show [Value.int (σ.1 6 1)] = [Value.int (σ.1 11 13)]
  rw [e1, e2]
/-! lean -/
theorem p_lean {σ : St} {a b c : Int32} (hR : Rel σ) : PairI 71 133 [.int a, .int b, .int c] σ := by
  obtain ⟨hS, hG, hH, hL, hP, hM, hA, hT, hD, hF, hU⟩ := id hR
  rcases (Classical.em (0 ≤ a ∧ a < 3)).symm with h1 | h1
  · exact ⟨-1000001, σ, σ, by (refine g_71_0 ⟨_, _, s_114, ⟨fun q1 => ?_, fun q1 => ?_⟩⟩ <;> first | exact ⟨rfl, rfl⟩ | (exfalso; (try simp only [bI_0, vp_6, vp_9, vp_10, vp_12, vp_18, vp_30, vp_31, vp_50, vp_60, vp_144, vp_154, vp_180, vp_432, vp_3600] at *) <;> grind) | ((try simp only [bI_0, vp_6, vp_9, vp_10, vp_12, vp_18, vp_30, vp_31, vp_50, vp_60, vp_144, vp_154, vp_180, vp_432, vp_3600]) <;> grind)), by (refine g_133_0 ⟨_, _, s_122, ⟨fun q1 => ?_, fun q1 => ?_⟩⟩ <;> first | exact ⟨rfl, rfl⟩ | (exfalso; (try simp only [bI_0, vp_6, vp_9, vp_10, vp_12, vp_18, vp_30, vp_31, vp_50, vp_60, vp_144, vp_154, vp_180, vp_432, vp_3600] at *) <;> grind) | ((try simp only [bI_0, vp_6, vp_9, vp_10, vp_12, vp_18, vp_30, vp_31, vp_50, vp_60, vp_144, vp_154, vp_180, vp_432, vp_3600]) <;> grind)), hR⟩
  rcases (Classical.em (0 ≤ b ∧ b < 3)).symm with h2 | h2
  · exact ⟨-1000002, σ, σ, by (refine g_71_0 ⟨_, _, s_114, ⟨fun q1 => ?_, fun q1 => ⟨_, _, s_114, ⟨fun q2 => ?_, fun q2 => ⟨_, _, s_114, ⟨fun q3 => ?_, fun q3 => ?_⟩⟩⟩⟩⟩⟩ <;> first | exact ⟨rfl, rfl⟩ | (exfalso; (try simp only [bI_0, vp_6, vp_9, vp_10, vp_12, vp_18, vp_30, vp_31, vp_50, vp_60, vp_144, vp_154, vp_180, vp_432, vp_3600] at *) <;> grind) | ((try simp only [bI_0, vp_6, vp_9, vp_10, vp_12, vp_18, vp_30, vp_31, vp_50, vp_60, vp_144, vp_154, vp_180, vp_432, vp_3600]) <;> grind)), by (refine g_133_0 ⟨_, _, s_122, ⟨fun q1 => ?_, fun q1 => ⟨_, _, s_120, ⟨fun q2 => ?_, fun q2 => ⟨_, _, s_126, ⟨fun q3 => ?_, fun q3 => ?_⟩⟩⟩⟩⟩⟩ <;> first | exact ⟨rfl, rfl⟩ | (exfalso; (try simp only [bI_0, vp_6, vp_9, vp_10, vp_12, vp_18, vp_30, vp_31, vp_50, vp_60, vp_144, vp_154, vp_180, vp_432, vp_3600] at *) <;> grind) | ((try simp only [bI_0, vp_6, vp_9, vp_10, vp_12, vp_18, vp_30, vp_31, vp_50, vp_60, vp_144, vp_154, vp_180, vp_432, vp_3600]) <;> grind)), hR⟩
  rcases (Classical.em (0 ≤ c ∧ c < 2)).symm with h3 | h3
  · exact ⟨-1000002, σ, σ, by (refine g_71_0 ⟨_, _, s_114, ⟨fun q1 => ?_, fun q1 => ⟨_, _, s_114, ⟨fun q2 => ?_, fun q2 => ⟨_, _, s_114, ⟨fun q3 => ?_, fun q3 => ?_⟩⟩⟩⟩⟩⟩ <;> first | exact ⟨rfl, rfl⟩ | (exfalso; (try simp only [bI_0, vp_6, vp_9, vp_10, vp_12, vp_18, vp_30, vp_31, vp_50, vp_60, vp_144, vp_154, vp_180, vp_432, vp_3600] at *) <;> grind) | ((try simp only [bI_0, vp_6, vp_9, vp_10, vp_12, vp_18, vp_30, vp_31, vp_50, vp_60, vp_144, vp_154, vp_180, vp_432, vp_3600]) <;> grind)), by (refine g_133_0 ⟨_, _, s_122, ⟨fun q1 => ?_, fun q1 => ⟨_, _, s_120, ⟨fun q2 => ?_, fun q2 => ⟨_, _, s_126, ⟨fun q3 => ?_, fun q3 => ?_⟩⟩⟩⟩⟩⟩ <;> first | exact ⟨rfl, rfl⟩ | (exfalso; (try simp only [bI_0, vp_6, vp_9, vp_10, vp_12, vp_18, vp_30, vp_31, vp_50, vp_60, vp_144, vp_154, vp_180, vp_432, vp_3600] at *) <;> grind) | ((try simp only [bI_0, vp_6, vp_9, vp_10, vp_12, vp_18, vp_30, vp_31, vp_50, vp_60, vp_144, vp_154, vp_180, vp_432, vp_3600]) <;> grind)), hR⟩
  obtain ⟨k, hk, e⟩ := inR (x := a * 3 + b) (m := 9) (n := 9) rfl (by decide) (by grind) (by grind)
  have e1 : (a * 3 + b).toNatClampNeg = k := by rw [e]; exact clN (by omega)
  have e2 : (3 * a + b).toNatClampNeg = k := by rw [show 3 * a + b = a * 3 + b by grind]; exact e1
  have hk9 := hL.2.2.2 k hk
  by_cases h4 : c = 0
  · refine ⟨_, _, _, (g_71_0 ⟨_, _, s_114, (br_f (by (try simp only [bI_0, vp_6, vp_9, vp_10, vp_12, vp_18, vp_30, vp_31, vp_50, vp_60, vp_144, vp_154, vp_180, vp_432, vp_3600]) <;> grind) ⟨_, _, s_114, (br_f (by (try simp only [bI_0, vp_6, vp_9, vp_10, vp_12, vp_18, vp_30, vp_31, vp_50, vp_60, vp_144, vp_154, vp_180, vp_432, vp_3600]) <;> grind) ⟨_, _, s_114, (br_f (by (try simp only [bI_0, vp_6, vp_9, vp_10, vp_12, vp_18, vp_30, vp_31, vp_50, vp_60, vp_144, vp_154, vp_180, vp_432, vp_3600]) <;> grind) (br_t (by (try simp only [bI_0, vp_6, vp_9, vp_10, vp_12, vp_18, vp_30, vp_31, vp_50, vp_60, vp_144, vp_154, vp_180, vp_432, vp_3600]) <;> grind) ⟨(by (try simp only [bI_0, vp_6, vp_9, vp_10, vp_12, vp_18, vp_30, vp_31, vp_50, vp_60, vp_144, vp_154, vp_180, vp_432, vp_3600]) <;> grind), ⟨rfl, rfl⟩⟩))⟩)⟩)⟩), (g_133_0 ⟨_, _, s_122, (br_f (by (try simp only [bI_0, vp_6, vp_9, vp_10, vp_12, vp_18, vp_30, vp_31, vp_50, vp_60, vp_144, vp_154, vp_180, vp_432, vp_3600]) <;> grind) ⟨_, _, s_120, (br_f (by (try simp only [bI_0, vp_6, vp_9, vp_10, vp_12, vp_18, vp_30, vp_31, vp_50, vp_60, vp_144, vp_154, vp_180, vp_432, vp_3600]) <;> grind) ⟨_, _, s_126, (br_f (by (try simp only [bI_0, vp_6, vp_9, vp_10, vp_12, vp_18, vp_30, vp_31, vp_50, vp_60, vp_144, vp_154, vp_180, vp_432, vp_3600]) <;> grind) (br_t (by (try simp only [bI_0, vp_6, vp_9, vp_10, vp_12, vp_18, vp_30, vp_31, vp_50, vp_60, vp_144, vp_154, vp_180, vp_432, vp_3600]) <;> grind) ⟨(by (try simp only [bI_0, vp_6, vp_9, vp_10, vp_12, vp_18, vp_30, vp_31, vp_50, vp_60, vp_144, vp_154, vp_180, vp_432, vp_3600]) <;> grind), ⟨?_, rfl⟩⟩))⟩)⟩)⟩), hR⟩
    rw [e1, e2, hk9.1]
  · refine ⟨_, _, _, (g_71_0 ⟨_, _, s_114, (br_f (by (try simp only [bI_0, vp_6, vp_9, vp_10, vp_12, vp_18, vp_30, vp_31, vp_50, vp_60, vp_144, vp_154, vp_180, vp_432, vp_3600]) <;> grind) ⟨_, _, s_114, (br_f (by (try simp only [bI_0, vp_6, vp_9, vp_10, vp_12, vp_18, vp_30, vp_31, vp_50, vp_60, vp_144, vp_154, vp_180, vp_432, vp_3600]) <;> grind) ⟨_, _, s_114, (br_f (by (try simp only [bI_0, vp_6, vp_9, vp_10, vp_12, vp_18, vp_30, vp_31, vp_50, vp_60, vp_144, vp_154, vp_180, vp_432, vp_3600]) <;> grind) (br_f (by (try simp only [bI_0, vp_6, vp_9, vp_10, vp_12, vp_18, vp_30, vp_31, vp_50, vp_60, vp_144, vp_154, vp_180, vp_432, vp_3600]) <;> grind) ⟨(by (try simp only [bI_0, vp_6, vp_9, vp_10, vp_12, vp_18, vp_30, vp_31, vp_50, vp_60, vp_144, vp_154, vp_180, vp_432, vp_3600]) <;> grind), ⟨rfl, rfl⟩⟩))⟩)⟩)⟩), (g_133_0 ⟨_, _, s_122, (br_f (by (try simp only [bI_0, vp_6, vp_9, vp_10, vp_12, vp_18, vp_30, vp_31, vp_50, vp_60, vp_144, vp_154, vp_180, vp_432, vp_3600]) <;> grind) ⟨_, _, s_120, (br_f (by (try simp only [bI_0, vp_6, vp_9, vp_10, vp_12, vp_18, vp_30, vp_31, vp_50, vp_60, vp_144, vp_154, vp_180, vp_432, vp_3600]) <;> grind) ⟨_, _, s_126, (br_f (by (try simp only [bI_0, vp_6, vp_9, vp_10, vp_12, vp_18, vp_30, vp_31, vp_50, vp_60, vp_144, vp_154, vp_180, vp_432, vp_3600]) <;> grind) (br_f (by (try simp only [bI_0, vp_6, vp_9, vp_10, vp_12, vp_18, vp_30, vp_31, vp_50, vp_60, vp_144, vp_154, vp_180, vp_432, vp_3600]) <;> grind) ⟨(by (try simp only [bI_0, vp_6, vp_9, vp_10, vp_12, vp_18, vp_30, vp_31, vp_50, vp_60, vp_144, vp_154, vp_180, vp_432, vp_3600]) <;> grind), ⟨?_, rfl⟩⟩))⟩)⟩)⟩), hR⟩
    rw [e1, e2, hk9.2.1]
/-! shade -/
theorem s_8 {σ : St} {a b c : Int32} : Ret 8 [.ref 1, .int a, .int b, .int c] σ [.int ((a * 2 + b) * 3 + c)] σ := (g_8_0 ⟨rfl, rfl⟩)
theorem p_shade {σ : St} {a b c d : Int32} (hR : Rel σ) : PairI 100 189 [.int a, .int b, .int c, .int d] σ := by
  obtain ⟨hS, hG, hH, hL, hP, hM, hA, hT, hD, hF, hU⟩ := id hR
  rcases (Classical.em (0 ≤ a ∧ a < 10)).symm with h1 | h1
  · exact ⟨-1, σ, σ, by (refine g_100_0 ⟨_, _, s_114, ⟨fun q1 => ?_, fun q1 => ?_⟩⟩ <;> first | exact ⟨rfl, rfl⟩ | (exfalso; (try simp only [bI_0, vp_6, vp_9, vp_10, vp_12, vp_18, vp_30, vp_31, vp_50, vp_60, vp_144, vp_154, vp_180, vp_432, vp_3600] at *) <;> grind) | ((try simp only [bI_0, vp_6, vp_9, vp_10, vp_12, vp_18, vp_30, vp_31, vp_50, vp_60, vp_144, vp_154, vp_180, vp_432, vp_3600]) <;> grind)), by (refine g_189_0 ⟨_, _, s_125, ⟨fun q1 => ?_, fun q1 => ?_⟩⟩ <;> first | exact ⟨rfl, rfl⟩ | (exfalso; (try simp only [bI_0, vp_6, vp_9, vp_10, vp_12, vp_18, vp_30, vp_31, vp_50, vp_60, vp_144, vp_154, vp_180, vp_432, vp_3600] at *) <;> grind) | ((try simp only [bI_0, vp_6, vp_9, vp_10, vp_12, vp_18, vp_30, vp_31, vp_50, vp_60, vp_144, vp_154, vp_180, vp_432, vp_3600]) <;> grind)), hR⟩
  rcases (Classical.em ((0 ≤ b ∧ b < 2) ∧ (0 ≤ c ∧ c < 3) ∧ (0 ≤ d ∧ d ≤ 99))).symm with h2 | h2
  · exact ⟨-2, σ, σ, by (refine g_100_0 ⟨_, _, s_114, ⟨fun q1 => ?_, fun q1 => ⟨_, _, s_114, ⟨fun q2 => ?_, fun q2 => ⟨_, _, s_114, ⟨fun q3 => ?_, fun q3 => ⟨_, _, s_115, ⟨fun q4 => ?_, fun q4 => ?_⟩⟩⟩⟩⟩⟩⟩⟩ <;> first | exact ⟨rfl, rfl⟩ | (exfalso; (try simp only [bI_0, vp_6, vp_9, vp_10, vp_12, vp_18, vp_30, vp_31, vp_50, vp_60, vp_144, vp_154, vp_180, vp_432, vp_3600] at *) <;> grind) | ((try simp only [bI_0, vp_6, vp_9, vp_10, vp_12, vp_18, vp_30, vp_31, vp_50, vp_60, vp_144, vp_154, vp_180, vp_432, vp_3600]) <;> grind)), by (refine g_189_0 ⟨_, _, s_125, ⟨fun q1 => ?_, fun q1 => ⟨_, _, s_126, ⟨fun q2 => ?_, fun q2 => ⟨_, _, s_120, ⟨fun q3 => ?_, fun q3 => ⟨_, _, s_121, ⟨fun q4 => ?_, fun q4 => ?_⟩⟩⟩⟩⟩⟩⟩⟩ <;> first | exact ⟨rfl, rfl⟩ | (exfalso; (try simp only [bI_0, vp_6, vp_9, vp_10, vp_12, vp_18, vp_30, vp_31, vp_50, vp_60, vp_144, vp_154, vp_180, vp_432, vp_3600] at *) <;> grind) | ((try simp only [bI_0, vp_6, vp_9, vp_10, vp_12, vp_18, vp_30, vp_31, vp_50, vp_60, vp_144, vp_154, vp_180, vp_432, vp_3600]) <;> grind)), hR⟩
  obtain ⟨k, hk, e⟩ := inR (x := (a * 2 + b) * 3 + c) (m := 60) (n := 60) rfl (by decide) (by grind) (by grind)
  have e1 : ((a * 2 + b) * 3 + c).toNatClampNeg = k := by rw [e]; exact clN (by omega)
  have e2 : (6 * a + 3 * b + c).toNatClampNeg = k := by rw [show 6 * a + 3 * b + c = (a * 2 + b) * 3 + c by grind]; exact e1
  refine ⟨_, _, _, (g_100_0 ⟨_, _, s_114, (br_f (by (try simp only [bI_0, vp_6, vp_9, vp_10, vp_12, vp_18, vp_30, vp_31, vp_50, vp_60, vp_144, vp_154, vp_180, vp_432, vp_3600]) <;> grind) ⟨_, _, s_114, (br_f (by (try simp only [bI_0, vp_6, vp_9, vp_10, vp_12, vp_18, vp_30, vp_31, vp_50, vp_60, vp_144, vp_154, vp_180, vp_432, vp_3600]) <;> grind) ⟨_, _, s_114, (br_f (by (try simp only [bI_0, vp_6, vp_9, vp_10, vp_12, vp_18, vp_30, vp_31, vp_50, vp_60, vp_144, vp_154, vp_180, vp_432, vp_3600]) <;> grind) ⟨_, _, s_115, (br_f (by (try simp only [bI_0, vp_6, vp_9, vp_10, vp_12, vp_18, vp_30, vp_31, vp_50, vp_60, vp_144, vp_154, vp_180, vp_432, vp_3600]) <;> grind) ⟨_, _, s_8, ⟨(by (try simp only [bI_0, vp_6, vp_9, vp_10, vp_12, vp_18, vp_30, vp_31, vp_50, vp_60, vp_144, vp_154, vp_180, vp_432, vp_3600]) <;> grind), ⟨rfl, rfl⟩⟩⟩)⟩)⟩)⟩)⟩), (g_189_0 ⟨_, _, s_125, (br_f (by (try simp only [bI_0, vp_6, vp_9, vp_10, vp_12, vp_18, vp_30, vp_31, vp_50, vp_60, vp_144, vp_154, vp_180, vp_432, vp_3600]) <;> grind) ⟨_, _, s_126, (br_f (by (try simp only [bI_0, vp_6, vp_9, vp_10, vp_12, vp_18, vp_30, vp_31, vp_50, vp_60, vp_144, vp_154, vp_180, vp_432, vp_3600]) <;> grind) ⟨_, _, s_120, (br_f (by (try simp only [bI_0, vp_6, vp_9, vp_10, vp_12, vp_18, vp_30, vp_31, vp_50, vp_60, vp_144, vp_154, vp_180, vp_432, vp_3600]) <;> grind) ⟨_, _, s_121, (br_f (by (try simp only [bI_0, vp_6, vp_9, vp_10, vp_12, vp_18, vp_30, vp_31, vp_50, vp_60, vp_144, vp_154, vp_180, vp_432, vp_3600]) <;> grind) ⟨(by (try simp only [bI_0, vp_6, vp_9, vp_10, vp_12, vp_18, vp_30, vp_31, vp_50, vp_60, vp_144, vp_154, vp_180, vp_432, vp_3600]) <;> grind), ⟨?_, rfl⟩⟩)⟩)⟩)⟩)⟩), hS, hG, hH, hL, hP, hM, hA, hT, ⟨hD.1, fun j hj => ?_⟩, hF, hU⟩
  · show [Value.int (σ.1 17 _)] = [Value.int (σ.1 78 _)]
    rw [e1, e2, (hD.2 k hk).1]
  · show upd (σ.1 17) _ d j = upd (σ.1 78) _ d j ∧ 0 ≤ upd (σ.1 17) _ d j ∧ upd (σ.1 17) _ d j ≤ 99
    have := hD.2 j hj
    rw [e1, e2]
    unfold upd
    split <;> grind
/-! age -/
theorem p_age {σ : St} {a b c d : Int32} (hR : Rel σ) : PairI 91 173 [.int a, .int b, .int c, .int d] σ := by
  obtain ⟨hS, hG, hH, hL, hP, hM, hA, hT, hD, hF, hU⟩ := id hR
  rcases (Classical.em (a = 0 ∨ a = 1)).symm with h0 | h0
  · exact ⟨-2, σ, σ, by (refine g_91_0 ⟨fun q1 => ⟨_, _, s_114, ⟨fun q2 => ?_, fun q2 => ⟨fun q3 => ?_, fun q3 => ⟨fun q4 => ⟨fun q5 => ?_, fun q5 => ?_⟩, fun q4 => ?_⟩⟩⟩⟩, fun q1 => ⟨fun q6 => ⟨_, _, s_114, ⟨fun q7 => ?_, fun q7 => ⟨fun q8 => ?_, fun q8 => ⟨fun q9 => ⟨fun q10 => ?_, fun q10 => ?_⟩, fun q9 => ?_⟩⟩⟩⟩, fun q6 => ?_⟩⟩ <;> first | exact ⟨rfl, rfl⟩ | (exfalso; (try simp only [bI_0, vp_6, vp_9, vp_10, vp_12, vp_18, vp_30, vp_31, vp_50, vp_60, vp_144, vp_154, vp_180, vp_432, vp_3600] at *) <;> grind) | ((try simp only [bI_0, vp_6, vp_9, vp_10, vp_12, vp_18, vp_30, vp_31, vp_50, vp_60, vp_144, vp_154, vp_180, vp_432, vp_3600]) <;> grind)), by (refine g_173_0 ⟨_, _, s_126, ⟨fun q1 => ?_, fun q1 => ⟨fun q2 => ⟨_, _, s_125, ⟨fun q3 => ?_, fun q3 => ⟨_, _, s_120, ⟨fun q4 => ?_, fun q4 => ⟨_, _, s_120, ⟨fun q5 => ?_, fun q5 => ⟨fun q6 => ?_, fun q6 => ?_⟩⟩⟩⟩⟩⟩⟩, fun q2 => ⟨_, _, s_124, ⟨fun q7 => ?_, fun q7 => ⟨_, _, s_120, ⟨fun q8 => ?_, fun q8 => ⟨_, _, s_120, ⟨fun q9 => ?_, fun q9 => ⟨fun q10 => ?_, fun q10 => ?_⟩⟩⟩⟩⟩⟩⟩⟩⟩⟩ <;> first | exact ⟨rfl, rfl⟩ | (exfalso; (try simp only [bI_0, vp_6, vp_9, vp_10, vp_12, vp_18, vp_30, vp_31, vp_50, vp_60, vp_144, vp_154, vp_180, vp_432, vp_3600] at *) <;> grind) | ((try simp only [bI_0, vp_6, vp_9, vp_10, vp_12, vp_18, vp_30, vp_31, vp_50, vp_60, vp_144, vp_154, vp_180, vp_432, vp_3600]) <;> grind)), hR⟩
  rcases h0 with h0 | h0
  · rcases (Classical.em (0 ≤ b ∧ b < 10)).symm with h1 | h1
    · exact ⟨-1, σ, σ, by (refine g_91_0 ⟨fun q1 => ⟨_, _, s_114, ⟨fun q2 => ?_, fun q2 => ?_⟩⟩, fun q1 => ⟨fun q3 => ⟨_, _, s_114, ⟨fun q4 => ?_, fun q4 => ?_⟩⟩, fun q3 => ?_⟩⟩ <;> first | exact ⟨rfl, rfl⟩ | (exfalso; (try simp only [bI_0, vp_6, vp_9, vp_10, vp_12, vp_18, vp_30, vp_31, vp_50, vp_60, vp_144, vp_154, vp_180, vp_432, vp_3600] at *) <;> grind) | ((try simp only [bI_0, vp_6, vp_9, vp_10, vp_12, vp_18, vp_30, vp_31, vp_50, vp_60, vp_144, vp_154, vp_180, vp_432, vp_3600]) <;> grind)), by (refine g_173_0 ⟨_, _, s_126, ⟨fun q1 => ?_, fun q1 => ⟨fun q2 => ⟨_, _, s_125, ⟨fun q3 => ?_, fun q3 => ?_⟩⟩, fun q2 => ⟨_, _, s_124, ⟨fun q4 => ?_, fun q4 => ?_⟩⟩⟩⟩⟩ <;> first | exact ⟨rfl, rfl⟩ | (exfalso; (try simp only [bI_0, vp_6, vp_9, vp_10, vp_12, vp_18, vp_30, vp_31, vp_50, vp_60, vp_144, vp_154, vp_180, vp_432, vp_3600] at *) <;> grind) | ((try simp only [bI_0, vp_6, vp_9, vp_10, vp_12, vp_18, vp_30, vp_31, vp_50, vp_60, vp_144, vp_154, vp_180, vp_432, vp_3600]) <;> grind)), hR⟩
    rcases (Classical.em (0 ≤ c ∧ c ≤ d ∧ d ≤ 9999)).symm with h2 | h2
    · exact ⟨-2, σ, σ, by (refine g_91_0 ⟨fun q1 => ⟨_, _, s_114, ⟨fun q2 => ?_, fun q2 => ⟨fun q3 => ?_, fun q3 => ⟨fun q4 => ⟨fun q5 => ?_, fun q5 => ?_⟩, fun q4 => ?_⟩⟩⟩⟩, fun q1 => ⟨fun q6 => ⟨_, _, s_114, ⟨fun q7 => ?_, fun q7 => ⟨fun q8 => ?_, fun q8 => ⟨fun q9 => ⟨fun q10 => ?_, fun q10 => ?_⟩, fun q9 => ?_⟩⟩⟩⟩, fun q6 => ?_⟩⟩ <;> first | exact ⟨rfl, rfl⟩ | (exfalso; (try simp only [bI_0, vp_6, vp_9, vp_10, vp_12, vp_18, vp_30, vp_31, vp_50, vp_60, vp_144, vp_154, vp_180, vp_432, vp_3600] at *) <;> grind) | ((try simp only [bI_0, vp_6, vp_9, vp_10, vp_12, vp_18, vp_30, vp_31, vp_50, vp_60, vp_144, vp_154, vp_180, vp_432, vp_3600]) <;> grind)), by (refine g_173_0 ⟨_, _, s_126, ⟨fun q1 => ?_, fun q1 => ⟨fun q2 => ⟨_, _, s_125, ⟨fun q3 => ?_, fun q3 => ⟨_, _, s_120, ⟨fun q4 => ?_, fun q4 => ⟨_, _, s_120, ⟨fun q5 => ?_, fun q5 => ⟨fun q6 => ?_, fun q6 => ?_⟩⟩⟩⟩⟩⟩⟩, fun q2 => ⟨_, _, s_124, ⟨fun q7 => ?_, fun q7 => ⟨_, _, s_120, ⟨fun q8 => ?_, fun q8 => ⟨_, _, s_120, ⟨fun q9 => ?_, fun q9 => ⟨fun q10 => ?_, fun q10 => ?_⟩⟩⟩⟩⟩⟩⟩⟩⟩⟩ <;> first | exact ⟨rfl, rfl⟩ | (exfalso; (try simp only [bI_0, vp_6, vp_9, vp_10, vp_12, vp_18, vp_30, vp_31, vp_50, vp_60, vp_144, vp_154, vp_180, vp_432, vp_3600] at *) <;> grind) | ((try simp only [bI_0, vp_6, vp_9, vp_10, vp_12, vp_18, vp_30, vp_31, vp_50, vp_60, vp_144, vp_154, vp_180, vp_432, vp_3600]) <;> grind)), hR⟩
    obtain ⟨k, hk, rfl⟩ := inR (x := b) (m := 10) (n := 10) rfl (by decide) h1.1 h1.2
    have e1 : (nI k).toNatClampNeg = k := clN (by omega)
    have e2 : (144 + nI k).toNatClampNeg = 144 + k := by rw [show (144 : Int32) = nI 144 from rfl, nI_add]; exact clN (by omega)
    refine ⟨_, _, _, (g_91_0 (br_t (by (try simp only [bI_0, vp_6, vp_9, vp_10, vp_12, vp_18, vp_30, vp_31, vp_50, vp_60, vp_144, vp_154, vp_180, vp_432, vp_3600]) <;> grind) ⟨_, _, s_114, (br_f (by (try simp only [bI_0, vp_6, vp_9, vp_10, vp_12, vp_18, vp_30, vp_31, vp_50, vp_60, vp_144, vp_154, vp_180, vp_432, vp_3600]) <;> grind) (br_f (by (try simp only [bI_0, vp_6, vp_9, vp_10, vp_12, vp_18, vp_30, vp_31, vp_50, vp_60, vp_144, vp_154, vp_180, vp_432, vp_3600]) <;> grind) (br_t (by (try simp only [bI_0, vp_6, vp_9, vp_10, vp_12, vp_18, vp_30, vp_31, vp_50, vp_60, vp_144, vp_154, vp_180, vp_432, vp_3600]) <;> grind) (br_t (by (try simp only [bI_0, vp_6, vp_9, vp_10, vp_12, vp_18, vp_30, vp_31, vp_50, vp_60, vp_144, vp_154, vp_180, vp_432, vp_3600]) <;> grind) ⟨(by (try simp only [bI_0, vp_6, vp_9, vp_10, vp_12, vp_18, vp_30, vp_31, vp_50, vp_60, vp_144, vp_154, vp_180, vp_432, vp_3600]) <;> grind), ⟨rfl, rfl⟩⟩))))⟩)), (g_173_0 ⟨_, _, s_126, (br_f (by (try simp only [bI_0, vp_6, vp_9, vp_10, vp_12, vp_18, vp_30, vp_31, vp_50, vp_60, vp_144, vp_154, vp_180, vp_432, vp_3600]) <;> grind) (br_t (by (try simp only [bI_0, vp_6, vp_9, vp_10, vp_12, vp_18, vp_30, vp_31, vp_50, vp_60, vp_144, vp_154, vp_180, vp_432, vp_3600]) <;> grind) ⟨_, _, s_125, (br_f (by (try simp only [bI_0, vp_6, vp_9, vp_10, vp_12, vp_18, vp_30, vp_31, vp_50, vp_60, vp_144, vp_154, vp_180, vp_432, vp_3600]) <;> grind) ⟨_, _, s_120, (br_f (by (try simp only [bI_0, vp_6, vp_9, vp_10, vp_12, vp_18, vp_30, vp_31, vp_50, vp_60, vp_144, vp_154, vp_180, vp_432, vp_3600]) <;> grind) ⟨_, _, s_120, (br_f (by (try simp only [bI_0, vp_6, vp_9, vp_10, vp_12, vp_18, vp_30, vp_31, vp_50, vp_60, vp_144, vp_154, vp_180, vp_432, vp_3600]) <;> grind) (br_t (by (try simp only [bI_0, vp_6, vp_9, vp_10, vp_12, vp_18, vp_30, vp_31, vp_50, vp_60, vp_144, vp_154, vp_180, vp_432, vp_3600]) <;> grind) ⟨(by (try simp only [bI_0, vp_6, vp_9, vp_10, vp_12, vp_18, vp_30, vp_31, vp_50, vp_60, vp_144, vp_154, vp_180, vp_432, vp_3600]) <;> grind), ⟨rfl, rfl⟩⟩))⟩)⟩)⟩))⟩), hS, hG, hH, hL, hP, hM, ⟨fun i hi => ?_, fun i hi => ?_⟩, hT, hD, hF, hU⟩
    · show upd (σ.1 12) _ c i = σ.1 72 i ∧ upd (σ.1 13) _ d i = σ.1 73 i ∧ 0 ≤ upd (σ.1 12) _ c i ∧ upd (σ.1 12) _ c i ≤ upd (σ.1 13) _ d i ∧ upd (σ.1 13) _ d i ≤ 9999
      have := hA.1 i hi
      rw [e2]
      unfold upd
      rw [if_neg (by omega), if_neg (by omega)]
      exact this
    · show upd (σ.1 12) _ c (144 + i) = upd (σ.1 70) _ c i ∧ upd (σ.1 13) _ d (144 + i) = upd (σ.1 71) _ d i ∧ 0 ≤ upd (σ.1 12) _ c (144 + i) ∧ upd (σ.1 12) _ c (144 + i) ≤ upd (σ.1 13) _ d (144 + i) ∧ upd (σ.1 13) _ d (144 + i) ≤ 9999
      have := hA.2 i hi
      rw [e2, e1]
      unfold upd
      by_cases hik : i = k
      · subst hik
        simp only [if_true, true_and]
        exact h2
      · have h9 : ¬ (144 + i = 144 + k) := by omega
        simp only [hik, h9, if_false]
        exact this
  · rcases (Classical.em (0 ≤ b ∧ b < 144)).symm with h1 | h1
    · exact ⟨-1, σ, σ, by (refine g_91_0 ⟨fun q1 => ⟨_, _, s_114, ⟨fun q2 => ?_, fun q2 => ?_⟩⟩, fun q1 => ⟨fun q3 => ⟨_, _, s_114, ⟨fun q4 => ?_, fun q4 => ?_⟩⟩, fun q3 => ?_⟩⟩ <;> first | exact ⟨rfl, rfl⟩ | (exfalso; (try simp only [bI_0, vp_6, vp_9, vp_10, vp_12, vp_18, vp_30, vp_31, vp_50, vp_60, vp_144, vp_154, vp_180, vp_432, vp_3600] at *) <;> grind) | ((try simp only [bI_0, vp_6, vp_9, vp_10, vp_12, vp_18, vp_30, vp_31, vp_50, vp_60, vp_144, vp_154, vp_180, vp_432, vp_3600]) <;> grind)), by (refine g_173_0 ⟨_, _, s_126, ⟨fun q1 => ?_, fun q1 => ⟨fun q2 => ⟨_, _, s_125, ⟨fun q3 => ?_, fun q3 => ?_⟩⟩, fun q2 => ⟨_, _, s_124, ⟨fun q4 => ?_, fun q4 => ?_⟩⟩⟩⟩⟩ <;> first | exact ⟨rfl, rfl⟩ | (exfalso; (try simp only [bI_0, vp_6, vp_9, vp_10, vp_12, vp_18, vp_30, vp_31, vp_50, vp_60, vp_144, vp_154, vp_180, vp_432, vp_3600] at *) <;> grind) | ((try simp only [bI_0, vp_6, vp_9, vp_10, vp_12, vp_18, vp_30, vp_31, vp_50, vp_60, vp_144, vp_154, vp_180, vp_432, vp_3600]) <;> grind)), hR⟩
    rcases (Classical.em (0 ≤ c ∧ c ≤ d ∧ d ≤ 9999)).symm with h2 | h2
    · exact ⟨-2, σ, σ, by (refine g_91_0 ⟨fun q1 => ⟨_, _, s_114, ⟨fun q2 => ?_, fun q2 => ⟨fun q3 => ?_, fun q3 => ⟨fun q4 => ⟨fun q5 => ?_, fun q5 => ?_⟩, fun q4 => ?_⟩⟩⟩⟩, fun q1 => ⟨fun q6 => ⟨_, _, s_114, ⟨fun q7 => ?_, fun q7 => ⟨fun q8 => ?_, fun q8 => ⟨fun q9 => ⟨fun q10 => ?_, fun q10 => ?_⟩, fun q9 => ?_⟩⟩⟩⟩, fun q6 => ?_⟩⟩ <;> first | exact ⟨rfl, rfl⟩ | (exfalso; (try simp only [bI_0, vp_6, vp_9, vp_10, vp_12, vp_18, vp_30, vp_31, vp_50, vp_60, vp_144, vp_154, vp_180, vp_432, vp_3600] at *) <;> grind) | ((try simp only [bI_0, vp_6, vp_9, vp_10, vp_12, vp_18, vp_30, vp_31, vp_50, vp_60, vp_144, vp_154, vp_180, vp_432, vp_3600]) <;> grind)), by (refine g_173_0 ⟨_, _, s_126, ⟨fun q1 => ?_, fun q1 => ⟨fun q2 => ⟨_, _, s_125, ⟨fun q3 => ?_, fun q3 => ⟨_, _, s_120, ⟨fun q4 => ?_, fun q4 => ⟨_, _, s_120, ⟨fun q5 => ?_, fun q5 => ⟨fun q6 => ?_, fun q6 => ?_⟩⟩⟩⟩⟩⟩⟩, fun q2 => ⟨_, _, s_124, ⟨fun q7 => ?_, fun q7 => ⟨_, _, s_120, ⟨fun q8 => ?_, fun q8 => ⟨_, _, s_120, ⟨fun q9 => ?_, fun q9 => ⟨fun q10 => ?_, fun q10 => ?_⟩⟩⟩⟩⟩⟩⟩⟩⟩⟩ <;> first | exact ⟨rfl, rfl⟩ | (exfalso; (try simp only [bI_0, vp_6, vp_9, vp_10, vp_12, vp_18, vp_30, vp_31, vp_50, vp_60, vp_144, vp_154, vp_180, vp_432, vp_3600] at *) <;> grind) | ((try simp only [bI_0, vp_6, vp_9, vp_10, vp_12, vp_18, vp_30, vp_31, vp_50, vp_60, vp_144, vp_154, vp_180, vp_432, vp_3600]) <;> grind)), hR⟩
    obtain ⟨k, hk, rfl⟩ := inR (x := b) (m := 144) (n := 144) rfl (by decide) h1.1 h1.2
    have e1 : (nI k).toNatClampNeg = k := clN (by omega)
    refine ⟨_, _, _, (g_91_0 (br_f (by (try simp only [bI_0, vp_6, vp_9, vp_10, vp_12, vp_18, vp_30, vp_31, vp_50, vp_60, vp_144, vp_154, vp_180, vp_432, vp_3600]) <;> grind) (br_t (by (try simp only [bI_0, vp_6, vp_9, vp_10, vp_12, vp_18, vp_30, vp_31, vp_50, vp_60, vp_144, vp_154, vp_180, vp_432, vp_3600]) <;> grind) ⟨_, _, s_114, (br_f (by (try simp only [bI_0, vp_6, vp_9, vp_10, vp_12, vp_18, vp_30, vp_31, vp_50, vp_60, vp_144, vp_154, vp_180, vp_432, vp_3600]) <;> grind) (br_f (by (try simp only [bI_0, vp_6, vp_9, vp_10, vp_12, vp_18, vp_30, vp_31, vp_50, vp_60, vp_144, vp_154, vp_180, vp_432, vp_3600]) <;> grind) (br_t (by (try simp only [bI_0, vp_6, vp_9, vp_10, vp_12, vp_18, vp_30, vp_31, vp_50, vp_60, vp_144, vp_154, vp_180, vp_432, vp_3600]) <;> grind) (br_t (by (try simp only [bI_0, vp_6, vp_9, vp_10, vp_12, vp_18, vp_30, vp_31, vp_50, vp_60, vp_144, vp_154, vp_180, vp_432, vp_3600]) <;> grind) ⟨(by (try simp only [bI_0, vp_6, vp_9, vp_10, vp_12, vp_18, vp_30, vp_31, vp_50, vp_60, vp_144, vp_154, vp_180, vp_432, vp_3600]) <;> grind), ⟨rfl, rfl⟩⟩))))⟩))), (g_173_0 ⟨_, _, s_126, (br_f (by (try simp only [bI_0, vp_6, vp_9, vp_10, vp_12, vp_18, vp_30, vp_31, vp_50, vp_60, vp_144, vp_154, vp_180, vp_432, vp_3600]) <;> grind) (br_f (by (try simp only [bI_0, vp_6, vp_9, vp_10, vp_12, vp_18, vp_30, vp_31, vp_50, vp_60, vp_144, vp_154, vp_180, vp_432, vp_3600]) <;> grind) ⟨_, _, s_124, (br_f (by (try simp only [bI_0, vp_6, vp_9, vp_10, vp_12, vp_18, vp_30, vp_31, vp_50, vp_60, vp_144, vp_154, vp_180, vp_432, vp_3600]) <;> grind) ⟨_, _, s_120, (br_f (by (try simp only [bI_0, vp_6, vp_9, vp_10, vp_12, vp_18, vp_30, vp_31, vp_50, vp_60, vp_144, vp_154, vp_180, vp_432, vp_3600]) <;> grind) ⟨_, _, s_120, (br_f (by (try simp only [bI_0, vp_6, vp_9, vp_10, vp_12, vp_18, vp_30, vp_31, vp_50, vp_60, vp_144, vp_154, vp_180, vp_432, vp_3600]) <;> grind) (br_t (by (try simp only [bI_0, vp_6, vp_9, vp_10, vp_12, vp_18, vp_30, vp_31, vp_50, vp_60, vp_144, vp_154, vp_180, vp_432, vp_3600]) <;> grind) ⟨(by (try simp only [bI_0, vp_6, vp_9, vp_10, vp_12, vp_18, vp_30, vp_31, vp_50, vp_60, vp_144, vp_154, vp_180, vp_432, vp_3600]) <;> grind), ⟨rfl, rfl⟩⟩))⟩)⟩)⟩))⟩), hS, hG, hH, hL, hP, hM, ⟨fun i hi => ?_, fun i hi => ?_⟩, hT, hD, hF, hU⟩
    · show upd (σ.1 12) _ c i = upd (σ.1 72) _ c i ∧ upd (σ.1 13) _ d i = upd (σ.1 73) _ d i ∧ 0 ≤ upd (σ.1 12) _ c i ∧ upd (σ.1 12) _ c i ≤ upd (σ.1 13) _ d i ∧ upd (σ.1 13) _ d i ≤ 9999
      have := hA.1 i hi
      rw [e1]
      unfold upd
      by_cases hik : i = k
      · subst hik
        simp only [if_true, true_and]
        exact h2
      · rw [if_neg hik, if_neg hik, if_neg hik, if_neg hik]
        exact this
    · show upd (σ.1 12) _ c (144 + i) = σ.1 70 i ∧ upd (σ.1 13) _ d (144 + i) = σ.1 71 i ∧ 0 ≤ upd (σ.1 12) _ c (144 + i) ∧ upd (σ.1 12) _ c (144 + i) ≤ upd (σ.1 13) _ d (144 + i) ∧ upd (σ.1 13) _ d (144 + i) ≤ 9999
      have := hA.2 i hi
      rw [e1]
      unfold upd
      rw [if_neg (by omega), if_neg (by omega)]
      exact this
