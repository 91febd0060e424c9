/-! told -/
def ctT (f : Nat → Int32) : Nat → Nat
  | 0 => 0
  | i + 1 => ctT f i + (if f i = -1 then 0 else 1)
theorem s_61 {σ : St} : Ret 61 [.ref 9] σ [.int (nI (ctT (σ.1 47) 144))] σ := by
  refine g_61_0 (loopN 144 (fun i => Go 61 4 [.ref 9, .int (nI (ctT (σ.1 47) i)), .int (nI i)] [] σ [.int (nI (ctT (σ.1 47) 144))] σ) (fun i hi h => ?_) (g_61_4 (br_f (by decide) ⟨rfl, rfl⟩)) 0 (by omega))
  have ei : (nI i).toNatClampNeg = i := clN (by omega)
  have h : Go 61 4 [.ref 9, .int (nI (ctT (σ.1 47) i + (if σ.1 47 i = -1 then 0 else 1))), .int (nI (i + 1))] [] σ [.int (nI (ctT (σ.1 47) 144))] σ := h
  refine g_61_4 (br_t ((nI_ltL (n := 144) rfl (by omega) (by decide)).mpr hi) ⟨vp_in_nI hi (by decide), ?_⟩)
  rw [ei, nI_S (i := i)]
  by_cases q : σ.1 47 i = -1
  · rw [if_pos q, Nat.add_zero] at h
    exact br_t q h
  · rw [if_neg q, ← nI_S (i := ctT (σ.1 47) i)] at h
    exact br_f q h
theorem mod_bits : ∀ K, K < 64 → ∀ m, m < 6 → (if K.testBit m = true then K % 2 ^ m ||| 2 ^ m else K % 2 ^ m) = K % 2 ^ (m + 1) := by decide +kernel
theorem told_m {σ : St} {K : Nat} {a : Int32} (hK : K < 64) (hT : TmQ (σ.1 47) (σ.1 48) (σ.1 74) (σ.1 75)) (hb : ∀ m, m < 6 → (K.testBit m = true ↔ 0 ≤ σ.1 65 m)) {R : List Value} {S : St} (h : Go 208 76 [.ref 11, .null, .int (nI (ctT (σ.1 47) 144)), .int (nI K), .null] [.int a] σ R S) : Ret 208 [.ref 11, .int a] σ R S := by
  have second : Go 208 42 [.ref 11, .int a, .int (nI (ctT (σ.1 47) 144)), .int 0, .int 0] [] σ R S := by
    have k0 : nI (K % 2 ^ 0) = 0 := by rw [Nat.pow_zero, Nat.mod_one]; rfl
    have e0 : Go 208 42 [.ref 11, .int a, .int (nI (ctT (σ.1 47) 144)), .int (nI (K % 2 ^ 0)), .int (nI 0)] [] σ R S → Go 208 42 [.ref 11, .int a, .int (nI (ctT (σ.1 47) 144)), .int 0, .int 0] [] σ R S := by rw [k0]; exact id
    refine e0 ?_
    refine loopN 6 (fun m => Go 208 42 [.ref 11, .int a, .int (nI (ctT (σ.1 47) 144)), .int (nI (K % 2 ^ m)), .int (nI m)] [] σ R S) (fun m hm h => ?_) ?_ 0 (by omega)
    · have lt : nI m < 6 := (nI_ltL (n := 6) rfl (by omega) (by decide)).mpr hm
      have em : (nI m).toNatClampNeg = m := clN (by omega)
      have hkn : knP σ (nI m) ↔ K.testBit m = true := by
        rw [hb m hm, knP_def, em]
        exact ⟨fun z => z.2.2, fun z => ⟨nI0 (by omega), lt, z⟩⟩
      have h : Go 208 42 [.ref 11, .int a, .int (nI (ctT (σ.1 47) 144)), .int (nI (K % 2 ^ (m + 1))), .int (nI (m + 1))] [] σ R S := h
      rw [← mod_bits K hK m hm] at h
      by_cases q : K.testBit m = true
      · rw [if_pos q] at h
        refine g_208_42 (br_t lt ⟨_, _, s_164t (hkn.mpr q), br_f (by decide) ?_⟩)
        rw [nI_shl1 m (by omega), nI_or, nI_S]
        exact h
      · rw [if_neg q] at h
        refine g_208_42 (br_t lt ⟨_, _, s_164f (fun z => q (hkn.mp z)), br_t rfl ?_⟩)
        rw [or_0, nI_S]
        exact h
    · have e : K % 2 ^ 6 = K := Nat.mod_eq_of_lt hK
      show Go 208 42 [.ref 11, .int a, .int (nI (ctT (σ.1 47) 144)), .int (nI (K % 2 ^ 6)), .int (nI 6)] [] σ R S
      rw [e]
      exact g_208_42 (br_f (by decide) h)
  refine g_208_0 (loopN 144 (fun i => Go 208 7 [.ref 11, .int a, .int (nI (ctT (σ.1 47) i)), .int 0, .int (nI i)] [] σ R S) (fun i hi h => ?_) (g_208_7 (br_f (by decide) second)) 0 (by omega))
  have ei : (nI i).toNatClampNeg = i := clN (by omega)
  have h : Go 208 7 [.ref 11, .int a, .int (nI (ctT (σ.1 47) i + (if σ.1 47 i = -1 then 0 else 1))), .int 0, .int (nI (i + 1))] [] σ R S := h
  refine g_208_7 (br_t ((nI_ltL (n := 144) rfl (by omega) (by decide)).mpr hi) ⟨vp_in_nI hi (by decide), ?_⟩)
  rw [ei, nI_S (i := i)]
  rcases (hT i hi).1 with ⟨q1, q2⟩ | ⟨d, hd, q1, q2⟩
  · rw [if_pos q1, Nat.add_zero] at h
    refine br_t (by rw [q2]; decide) ?_
    rw [Int32.add_zero]
    exact h
  · rw [if_neg (by rw [q1]; exact neg1_nI (by omega)), ← nI_S (i := ctT (σ.1 47) i)] at h
    exact br_f (by rw [q2]; exact Int32.not_lt.mpr (nI0 (by omega))) h
theorem p_told {σ : St} {a : Int32} (hR : Rel σ) : PairI 113 208 [.int a] σ := by
  obtain ⟨hS, hG, hH, hL, hP, hM, hA, hT, hD, hF, hU⟩ := id hR
  obtain ⟨⟨K, hK, eK, hb⟩, _⟩ := hM
  rcases (Classical.em (0 ≤ a ∧ a ≤ 7)).symm with h7 | h7
  · have hx : a.toInt < 0 ∨ 7 < a.toInt := by
      rw [Int32.le_iff_toInt_le, Int32.le_iff_toInt_le] at h7
      have e1 : (0 : Int32).toInt = 0 := rfl
      have e2 : (7 : Int32).toInt = 7 := rfl
      omega
    exact ⟨-2, _, _, g_113_0 (w_113_d hx (g_113_121 ⟨rfl, rfl⟩)), told_m hK hR.tmq hb (w_208_d hx (g_208_168 ⟨rfl, rfl⟩)), hR⟩
  have h8 : a = 0 ∨ a = 1 ∨ a = 2 ∨ a = 3 ∨ a = 4 ∨ a = 5 ∨ a = 6 ∨ a = 7 := by grind
  rcases h8 with rfl | rfl | rfl | rfl | rfl | rfl | rfl | rfl
  · obtain ⟨n, hn, e1, e2, _⟩ := hG
    exact ⟨_, _, _, g_113_0 (w_113_0 (g_113_48 ⟨rfl, rfl⟩)), told_m hK hR.tmq hb (w_208_0 (g_208_124 ⟨by rw [e1, e2], rfl⟩)), hR⟩
  · obtain ⟨n, k, _, _, e1, e2, _⟩ := hP
    exact ⟨_, _, _, g_113_0 (w_113_1 (g_113_56 ⟨rfl, rfl⟩)), told_m hK hR.tmq hb (w_208_1 (g_208_129 ⟨by rw [e1, e2], rfl⟩)), hR⟩
  · obtain ⟨n, _, e1, e2, _⟩ := hS
    exact ⟨_, _, _, g_113_0 (w_113_2 (g_113_64 ⟨rfl, rfl⟩)), told_m hK hR.tmq hb (w_208_2 (g_208_134 ⟨by rw [e1, e2], rfl⟩)), hR⟩
  · exact ⟨_, _, _, g_113_0 (w_113_3 (g_113_72 ⟨rfl, rfl⟩)), told_m hK hR.tmq hb (w_208_3 (g_208_139 ⟨by rw [hL.1], rfl⟩)), hR⟩
  · exact ⟨_, _, _, g_113_0 (w_113_4 (g_113_80 ⟨_, _, s_61, rfl, rfl⟩)), told_m hK hR.tmq hb (w_208_4 (g_208_144 ⟨rfl, rfl⟩)), hR⟩
  · exact ⟨_, _, _, g_113_0 (w_113_5 (g_113_88 ⟨rfl, rfl⟩)), told_m hK hR.tmq hb (w_208_5 (g_208_146 ⟨by rw [eK], rfl⟩)), hR⟩
  · obtain ⟨w, n, ps, dl, hw, ew, _, _, _, _, _, _, _, _, _, _, _, _, _, eb⟩ := hU
    exact ⟨_, _, _, g_113_0 (w_113_6 (g_113_96 ⟨rfl, rfl⟩)), told_m hK hR.tmq hb (w_208_6 (g_208_148 ⟨_, _, s_148 hw ew, by rw [eb], rfl⟩)), hR⟩
  · obtain ⟨L, H, hq⟩ := hR.net0 (-1)
    obtain ⟨L1, H1, mv, hx, ex⟩ := net_x (τ := σ) hR hq ⟨rfl, rfl, rfl, rfl⟩
    obtain ⟨L2, H2, hm, em⟩ := net_m (τ := nst σ L1 H1 mv) hR w_none hq ⟨rfl, rfl, rfl, rfl, rfl, rfl⟩
    by_cases hc : clP L H
    · rw [pI_t hc] at hx
      rw [pI_f (fun z => z hc)] at hm
      exact ⟨1, _, _, g_113_0 (w_113_7 (g_113_104 ⟨_, _, hx, br_f (by decide) ⟨rfl, rfl⟩⟩)), told_m (σ := nst σ L1 H1 mv) hK hR.tmq hb (w_208_7 (g_208_153 ⟨_, _, hm, br_t rfl ⟨rfl, rfl⟩⟩)), hR.nst.mst⟩
    · rw [pI_f hc] at hx
      rw [pI_t hc] at hm
      exact ⟨0, _, _, g_113_0 (w_113_7 (g_113_104 ⟨_, _, hx, br_t rfl ⟨rfl, rfl⟩⟩)), told_m (σ := nst σ L1 H1 mv) hK hR.tmq hb (w_208_7 (g_208_153 ⟨_, _, hm, br_f (by decide) ⟨rfl, rfl⟩⟩)), hR.nst.mst⟩
