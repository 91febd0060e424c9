/-! mountains -/
def knP (σ : St) (a : Int32) : Prop := 0 ≤ a ∧ a < 6 ∧ 0 ≤ σ.1 65 a.toNatClampNeg
theorem knP_def {σ : St} {a : Int32} : knP σ a ↔ (0 ≤ a ∧ a < 6 ∧ 0 ≤ σ.1 65 a.toNatClampNeg) := Iff.rfl
theorem s_164t {σ : St} {a : Int32} (h : knP σ a) : Ret 164 [.ref 11, .int a] σ [.int 1] σ := (g_164_0 ⟨_, _, s_120, (br_f (by have := knP_def.mp h; (try simp only [bI_0, vp_6]) <;> grind) ⟨(by have := knP_def.mp h; (try simp only [bI_0, vp_6]) <;> grind), (br_f (by have := knP_def.mp h; (try simp only [bI_0, vp_6]) <;> grind) ⟨rfl, rfl⟩)⟩)⟩)
theorem s_164f {σ : St} {a : Int32} (h : ¬ knP σ a) : Ret 164 [.ref 11, .int a] σ [.int 0] σ := by
  rw [knP_def] at h
  (refine g_164_0 ⟨_, _, s_120, ⟨fun q1 => ?_, fun q1 => ⟨?_, ⟨fun q2 => ?_, fun q2 => ?_⟩⟩⟩⟩ <;> first | exact ⟨rfl, rfl⟩ | (exfalso; (try simp only [bI_0, vp_6, vp_9, vp_10, vp_12, vp_18, vp_30, vp_31, vp_50, vp_60, vp_144, vp_154, vp_180, vp_432, vp_3600] at *) <;> grind) | ((try simp only [bI_0, vp_6, vp_9, vp_10, vp_12, vp_18, vp_30, vp_31, vp_50, vp_60, vp_144, vp_154, vp_180, vp_432, vp_3600] at *) <;> grind))
theorem s_39t {σ : St} {a : Int32} (hR : Rel σ) (h : knP σ a) : Ret 39 [.ref 5, .int a] σ [.int 1] σ := by
  obtain ⟨hS, hG, hH, hL, hP, hM, hA, hT, hD, hF, hU⟩ := id hR
  obtain ⟨K, hK, eK, hb⟩ := hM.1
  rw [knP_def] at h
  obtain ⟨k, hk, rfl⟩ := inR (x := a) (m := 6) (n := 6) rfl (by decide) h.1 h.2.1
  have e1 : (nI k).toNatClampNeg = k := clN (by omega)
  have h3 := (hb k hk).mpr (by rw [← e1]; exact h.2.2)
  have h4 : ¬ ((σ.1 5 5 >>> (nI k &&& 31)) &&& 1) = 0 := by
    rw [eK, bit_iff (by omega) (by omega), h3]
    simp
  exact (g_39_0 ⟨_, _, s_114, (br_f (by (try simp only [bI_0, vp_6, vp_9, vp_10, vp_12, vp_18, vp_30, vp_31, vp_50, vp_60, vp_144, vp_154, vp_180, vp_432, vp_3600]) <;> grind) (br_f h4 ⟨rfl, rfl⟩))⟩)
theorem s_39f {σ : St} {a : Int32} (hR : Rel σ) (h : ¬ knP σ a) : Ret 39 [.ref 5, .int a] σ [.int 0] σ := by
  obtain ⟨hS, hG, hH, hL, hP, hM, hA, hT, hD, hF, hU⟩ := id hR
  obtain ⟨K, hK, eK, hb⟩ := hM.1
  rw [knP_def] at h
  by_cases h1 : 0 ≤ a ∧ a < 6
  · obtain ⟨k, hk, rfl⟩ := inR (x := a) (m := 6) (n := 6) rfl (by decide) h1.1 h1.2
    have e1 : (nI k).toNatClampNeg = k := clN (by omega)
    have h4 : ((σ.1 5 5 >>> (nI k &&& 31)) &&& 1) = 0 := by
      rw [eK, bit_iff (by omega) (by omega)]
      cases hq : K.testBit k
      · rfl
      · exact absurd ⟨h1.1, h1.2, by rw [e1]; exact (hb k hk).mp hq⟩ h
    exact (g_39_0 ⟨_, _, s_114, (br_f (by (try simp only [bI_0, vp_6, vp_9, vp_10, vp_12, vp_18, vp_30, vp_31, vp_50, vp_60, vp_144, vp_154, vp_180, vp_432, vp_3600]) <;> grind) (br_t h4 ⟨rfl, rfl⟩))⟩)
  · exact (g_39_0 ⟨_, _, s_114, (br_t (by (try simp only [bI_0, vp_6, vp_9, vp_10, vp_12, vp_18, vp_30, vp_31, vp_50, vp_60, vp_144, vp_154, vp_180, vp_432, vp_3600]) <;> grind) ⟨rfl, rfl⟩)⟩)
theorem s_40 {σ : St} {v1 v2 v3 v4 v5 : Int32} (h : 0 ≤ v1 ∧ v1 < 6) : Ret 40 [.ref 5, .int v1, .int v2, .int v3, .int v4, .int v5] σ [] (wr (wr (wr (wr (wr σ 34 (v1 * 3 : Int32).toNatClampNeg v2) 34 ((v1 * 3) + 1 : Int32).toNatClampNeg v3) 34 ((v1 * 3) + 2 : Int32).toNatClampNeg v4) 35 v1.toNatClampNeg v5) 5 5 ((σ.1 5 5) ||| ((1 : Int32) <<< (v1 &&& 31)))) := (g_40_0 ⟨(by (try simp only [bI_0, vp_6, vp_9, vp_10, vp_12, vp_18, vp_30, vp_31, vp_50, vp_60, vp_144, vp_154, vp_180, vp_432, vp_3600]) <;> grind), ⟨(by (try simp only [bI_0, vp_6, vp_9, vp_10, vp_12, vp_18, vp_30, vp_31, vp_50, vp_60, vp_144, vp_154, vp_180, vp_432, vp_3600]) <;> grind), ⟨(by (try simp only [bI_0, vp_6, vp_9, vp_10, vp_12, vp_18, vp_30, vp_31, vp_50, vp_60, vp_144, vp_154, vp_180, vp_432, vp_3600]) <;> grind), ⟨(by (try simp only [bI_0, vp_6, vp_9, vp_10, vp_12, vp_18, vp_30, vp_31, vp_50, vp_60, vp_144, vp_154, vp_180, vp_432, vp_3600]) <;> grind), ⟨rfl, rfl⟩⟩⟩⟩⟩)
theorem upd3 {f : Nat → Int32} {k j : Nat} {x y z : Int32} : upd (upd (upd f (3 * k) x) (3 * k + 1) y) (3 * k + 2) z j = if j = 3 * k then x else if j = 3 * k + 1 then y else if j = 3 * k + 2 then z else f j := by
  unfold upd
  split <;> (try split) <;> (try split) <;> simp_all <;> omega
theorem p_mountain {σ : St} {a b c d e : Int32} (hR : Rel σ) : PairI 87 165 [.int a, .int b, .int c, .int d, .int e] σ := by
  obtain ⟨hS, hG, hH, hL, hP, hM, hA, hT, hD, hF, hU⟩ := id hR
  rcases (Classical.em (0 ≤ a ∧ a < 6)).symm with h1 | h1
  · exact ⟨-1, σ, σ, by (refine g_87_0 ⟨_, _, s_114, ⟨fun q1 => ?_, fun q1 => ?_⟩⟩ <;> first | exact ⟨rfl, rfl⟩ | (exfalso; (try simp only [bI_0, vp_6, vp_9, vp_10, vp_12, vp_18, vp_30, vp_31, vp_50, vp_60, vp_144, vp_154, vp_180, vp_432, vp_3600] at *) <;> grind) | ((try simp only [bI_0, vp_6, vp_9, vp_10, vp_12, vp_18, vp_30, vp_31, vp_50, vp_60, vp_144, vp_154, vp_180, vp_432, vp_3600] at *) <;> grind)), by (refine g_165_0 ⟨_, _, s_120, ⟨fun q1 => ?_, fun q1 => ?_⟩⟩ <;> first | exact ⟨rfl, rfl⟩ | (exfalso; (try simp only [bI_0, vp_6, vp_9, vp_10, vp_12, vp_18, vp_30, vp_31, vp_50, vp_60, vp_144, vp_154, vp_180, vp_432, vp_3600] at *) <;> grind) | ((try simp only [bI_0, vp_6, vp_9, vp_10, vp_12, vp_18, vp_30, vp_31, vp_50, vp_60, vp_144, vp_154, vp_180, vp_432, vp_3600] at *) <;> grind)), hR⟩
  rcases (Classical.em ((0 ≤ b ∧ b ≤ 99) ∧ (0 ≤ c ∧ c ≤ 99) ∧ (0 ≤ d ∧ d ≤ 99) ∧ (0 ≤ e ∧ e ≤ 5))).symm with h2 | h2
  · exact ⟨-2, σ, σ, by (refine g_87_0 ⟨_, _, s_114, ⟨fun q1 => ?_, fun q1 => ⟨_, _, s_115, ⟨fun q2 => ?_, fun q2 => ⟨_, _, s_115, ⟨fun q3 => ?_, fun q3 => ⟨_, _, s_115, ⟨fun q4 => ?_, fun q4 => ⟨fun q5 => ?_, fun q5 => ⟨fun q6 => ?_, fun q6 => ?_⟩⟩⟩⟩⟩⟩⟩⟩⟩⟩ <;> first | exact ⟨rfl, rfl⟩ | (exfalso; (try simp only [bI_0, vp_6, vp_9, vp_10, vp_12, vp_18, vp_30, vp_31, vp_50, vp_60, vp_144, vp_154, vp_180, vp_432, vp_3600] at *) <;> grind) | ((try simp only [bI_0, vp_6, vp_9, vp_10, vp_12, vp_18, vp_30, vp_31, vp_50, vp_60, vp_144, vp_154, vp_180, vp_432, vp_3600] at *) <;> grind)), by (refine g_165_0 ⟨_, _, s_120, ⟨fun q1 => ?_, fun q1 => ⟨_, _, s_121, ⟨fun q2 => ?_, fun q2 => ⟨_, _, s_121, ⟨fun q3 => ?_, fun q3 => ⟨_, _, s_121, ⟨fun q4 => ?_, fun q4 => ⟨_, _, s_120, ⟨fun q5 => ?_, fun q5 => ?_⟩⟩⟩⟩⟩⟩⟩⟩⟩⟩ <;> first | exact ⟨rfl, rfl⟩ | (exfalso; (try simp only [bI_0, vp_6, vp_9, vp_10, vp_12, vp_18, vp_30, vp_31, vp_50, vp_60, vp_144, vp_154, vp_180, vp_432, vp_3600] at *) <;> grind) | ((try simp only [bI_0, vp_6, vp_9, vp_10, vp_12, vp_18, vp_30, vp_31, vp_50, vp_60, vp_144, vp_154, vp_180, vp_432, vp_3600] at *) <;> grind)), hR⟩
  obtain ⟨k, hk, rfl⟩ := inR (x := a) (m := 6) (n := 6) rfl (by decide) h1.1 h1.2
  have e0 : (nI k).toNatClampNeg = k := clN (by omega)
  have e1 : (nI k * 3).toNatClampNeg = 3 * k := by rw [show nI k * 3 = nI k * 3 + nI 0 by rw [nI_0]; grind, mul3]; exact clN (by omega)
  have e2 : (nI k * 3 + 1).toNatClampNeg = 3 * k + 1 := by rw [show (1 : Int32) = nI 1 from rfl, mul3]; exact clN (by omega)
  have e3 : (nI k * 3 + 2).toNatClampNeg = 3 * k + 2 := by rw [show (2 : Int32) = nI 2 from rfl, mul3]; exact clN (by omega)
  have f1 : (3 * nI k).toNatClampNeg = 3 * k := by rw [show 3 * nI k = 3 * nI k + nI 0 by rw [nI_0]; grind, mul3']; exact clN (by omega)
  have f2 : (3 * nI k + 1).toNatClampNeg = 3 * k + 1 := by rw [show (1 : Int32) = nI 1 from rfl, mul3']; exact clN (by omega)
  have f3 : (3 * nI k + 2).toNatClampNeg = 3 * k + 2 := by rw [show (2 : Int32) = nI 2 from rfl, mul3']; exact clN (by omega)
  have fin : Rel (wr (wr (wr (wr (wr (wr (wr (wr (wr σ 34 (nI k * 3 : Int32).toNatClampNeg b) 34 ((nI k * 3) + 1 : Int32).toNatClampNeg c) 34 ((nI k * 3) + 2 : Int32).toNatClampNeg d) 35 (nI k).toNatClampNeg e) 5 5 ((σ.1 5 5) ||| ((1 : Int32) <<< (nI k &&& 31)))) 64 (3 * nI k : Int32).toNatClampNeg b) 64 ((3 * nI k) + 1 : Int32).toNatClampNeg c) 64 ((3 * nI k) + 2 : Int32).toNatClampNeg d) 65 (nI k).toNatClampNeg e) := by
    refine ⟨hS, hG, hH, hL, hP, ?_, hA, hT, ?_, hF, hU⟩
    · show RelM (σ.1 5 5 ||| ((1 : Int32) <<< (nI k &&& 31))) (upd (upd (upd (σ.1 34) _ b) _ c) _ d) (upd (σ.1 35) _ e) (σ.1 36) (σ.1 37) (upd (upd (upd (σ.1 64) _ b) _ c) _ d) (upd (σ.1 65) _ e) (σ.1 66) (σ.1 67) (σ.1 68) (σ.1 69)
      rw [e0, e1, e2, e3, f1, f2, f3]
      obtain ⟨K, hK, eK, hb⟩ := hM.1
      refine ⟨⟨K ||| 2 ^ k, or_lt (n := 6) hK hk, by rw [eK, nI_shl1 k (by omega), nI_or], fun m hm => ?_⟩, fun m hm => ?_, hM.2.2⟩
      · rw [tb_or]
        unfold upd
        have := hb m hm
        by_cases hmk : m = k
        · subst hmk; simp; exact h2.2.2.2.1
        · have : ¬ k = m := fun q => hmk q.symm
          simp [hmk, this]; exact hb m hm
      · intro h0
        by_cases hmk : m = k
        · subst hmk
          refine ⟨by simp [upd], ?_, fun s hs => ?_⟩
          · simp [upd]; exact h2.2.2.2.2
          · rw [upd3, upd3]
            have : s = 0 ∨ s = 1 ∨ s = 2 := by omega
            rcases this with rfl | rfl | rfl
            · simp; exact h2.1
            · simp; exact h2.2.1
            · have q1 : ¬ (3 * m + 2 = 3 * m + 1) := by omega
              simp [q1]; exact h2.2.2.1
        · have h5 : upd (σ.1 65) k e m = σ.1 65 m := by unfold upd; rw [if_neg hmk]
          have h6 : upd (σ.1 35) k e m = σ.1 35 m := by unfold upd; rw [if_neg hmk]
          rw [h5] at h0
          have := hM.2.1 m hm h0
          refine ⟨by rw [h5, h6]; exact this.1, by rw [h5]; exact this.2.1, fun s hs => ?_⟩
          rw [upd3, upd3, if_neg (by omega), if_neg (by omega), if_neg (by omega), if_neg (by omega), if_neg (by omega), if_neg (by omega)]
          exact this.2.2 s hs
    · refine ⟨fun j hj => ?_, hD.2⟩
      rcases hD.1 j hj with h | ⟨m, hm, h3, h4, h5⟩
      · exact Or.inl h
      · refine Or.inr ⟨m, hm, h3, h4, ?_⟩
        show 0 ≤ upd (σ.1 65) _ e m
        unfold upd
        split
        · exact h2.2.2.2.1
        · exact h5
  by_cases hk2 : knP σ (nI k)
  · have h9 : 0 ≤ σ.1 65 (nI k).toNatClampNeg := hk2.2.2
    refine ⟨0, _, _, (g_87_0 ⟨_, _, s_114, (br_f (by (try simp only [bI_0, vp_6, vp_9, vp_10, vp_12, vp_18, vp_30, vp_31, vp_50, vp_60, vp_144, vp_154, vp_180, vp_432, vp_3600]) <;> grind) ⟨_, _, s_115, (br_f (by (try simp only [bI_0, vp_6, vp_9, vp_10, vp_12, vp_18, vp_30, vp_31, vp_50, vp_60, vp_144, vp_154, vp_180, vp_432, vp_3600]) <;> grind) ⟨_, _, s_115, (br_f (by (try simp only [bI_0, vp_6, vp_9, vp_10, vp_12, vp_18, vp_30, vp_31, vp_50, vp_60, vp_144, vp_154, vp_180, vp_432, vp_3600]) <;> grind) ⟨_, _, s_115, (br_f (by (try simp only [bI_0, vp_6, vp_9, vp_10, vp_12, vp_18, vp_30, vp_31, vp_50, vp_60, vp_144, vp_154, vp_180, vp_432, vp_3600]) <;> grind) (br_f (by (try simp only [bI_0, vp_6, vp_9, vp_10, vp_12, vp_18, vp_30, vp_31, vp_50, vp_60, vp_144, vp_154, vp_180, vp_432, vp_3600]) <;> grind) (br_t (by (try simp only [bI_0, vp_6, vp_9, vp_10, vp_12, vp_18, vp_30, vp_31, vp_50, vp_60, vp_144, vp_154, vp_180, vp_432, vp_3600]) <;> grind) ⟨_, _, (s_39t hR hk2), ⟨_, (s_40 h1), (br_f (by (try simp only [bI_0, vp_6, vp_9, vp_10, vp_12, vp_18, vp_30, vp_31, vp_50, vp_60, vp_144, vp_154, vp_180, vp_432, vp_3600]) <;> grind) ⟨rfl, rfl⟩)⟩⟩)))⟩)⟩)⟩)⟩), (g_165_0 ⟨_, _, s_120, (br_f (by (try simp only [bI_0, vp_6, vp_9, vp_10, vp_12, vp_18, vp_30, vp_31, vp_50, vp_60, vp_144, vp_154, vp_180, vp_432, vp_3600]) <;> grind) ⟨_, _, s_121, (br_f (by (try simp only [bI_0, vp_6, vp_9, vp_10, vp_12, vp_18, vp_30, vp_31, vp_50, vp_60, vp_144, vp_154, vp_180, vp_432, vp_3600]) <;> grind) ⟨_, _, s_121, (br_f (by (try simp only [bI_0, vp_6, vp_9, vp_10, vp_12, vp_18, vp_30, vp_31, vp_50, vp_60, vp_144, vp_154, vp_180, vp_432, vp_3600]) <;> grind) ⟨_, _, s_121, (br_f (by (try simp only [bI_0, vp_6, vp_9, vp_10, vp_12, vp_18, vp_30, vp_31, vp_50, vp_60, vp_144, vp_154, vp_180, vp_432, vp_3600]) <;> grind) ⟨_, _, s_120, (br_f (by (try simp only [bI_0, vp_6, vp_9, vp_10, vp_12, vp_18, vp_30, vp_31, vp_50, vp_60, vp_144, vp_154, vp_180, vp_432, vp_3600]) <;> grind) ⟨(by (try simp only [bI_0, vp_6, vp_9, vp_10, vp_12, vp_18, vp_30, vp_31, vp_50, vp_60, vp_144, vp_154, vp_180, vp_432, vp_3600]) <;> grind), (br_f (show ¬ σ.1 65 (nI k).toNatClampNeg < 0 by grind) ⟨(by (try simp only [bI_0, vp_6, vp_9, vp_10, vp_12, vp_18, vp_30, vp_31, vp_50, vp_60, vp_144, vp_154, vp_180, vp_432, vp_3600]) <;> grind), ⟨(by (try simp only [bI_0, vp_6, vp_9, vp_10, vp_12, vp_18, vp_30, vp_31, vp_50, vp_60, vp_144, vp_154, vp_180, vp_432, vp_3600]) <;> grind), ⟨(by (try simp only [bI_0, vp_6, vp_9, vp_10, vp_12, vp_18, vp_30, vp_31, vp_50, vp_60, vp_144, vp_154, vp_180, vp_432, vp_3600]) <;> grind), ⟨rfl, rfl⟩⟩⟩⟩)⟩)⟩)⟩)⟩)⟩)⟩), fin⟩
  · have h9 : σ.1 65 (nI k).toNatClampNeg < 0 := by rw [knP_def] at hk2; grind
    refine ⟨1, _, _, (g_87_0 ⟨_, _, s_114, (br_f (by (try simp only [bI_0, vp_6, vp_9, vp_10, vp_12, vp_18, vp_30, vp_31, vp_50, vp_60, vp_144, vp_154, vp_180, vp_432, vp_3600]) <;> grind) ⟨_, _, s_115, (br_f (by (try simp only [bI_0, vp_6, vp_9, vp_10, vp_12, vp_18, vp_30, vp_31, vp_50, vp_60, vp_144, vp_154, vp_180, vp_432, vp_3600]) <;> grind) ⟨_, _, s_115, (br_f (by (try simp only [bI_0, vp_6, vp_9, vp_10, vp_12, vp_18, vp_30, vp_31, vp_50, vp_60, vp_144, vp_154, vp_180, vp_432, vp_3600]) <;> grind) ⟨_, _, s_115, (br_f (by (try simp only [bI_0, vp_6, vp_9, vp_10, vp_12, vp_18, vp_30, vp_31, vp_50, vp_60, vp_144, vp_154, vp_180, vp_432, vp_3600]) <;> grind) (br_f (by (try simp only [bI_0, vp_6, vp_9, vp_10, vp_12, vp_18, vp_30, vp_31, vp_50, vp_60, vp_144, vp_154, vp_180, vp_432, vp_3600]) <;> grind) (br_t (by (try simp only [bI_0, vp_6, vp_9, vp_10, vp_12, vp_18, vp_30, vp_31, vp_50, vp_60, vp_144, vp_154, vp_180, vp_432, vp_3600]) <;> grind) ⟨_, _, (s_39f hR hk2), ⟨_, (s_40 h1), (br_t (by (try simp only [bI_0, vp_6, vp_9, vp_10, vp_12, vp_18, vp_30, vp_31, vp_50, vp_60, vp_144, vp_154, vp_180, vp_432, vp_3600]) <;> grind) ⟨rfl, rfl⟩)⟩⟩)))⟩)⟩)⟩)⟩), (g_165_0 ⟨_, _, s_120, (br_f (by (try simp only [bI_0, vp_6, vp_9, vp_10, vp_12, vp_18, vp_30, vp_31, vp_50, vp_60, vp_144, vp_154, vp_180, vp_432, vp_3600]) <;> grind) ⟨_, _, s_121, (br_f (by (try simp only [bI_0, vp_6, vp_9, vp_10, vp_12, vp_18, vp_30, vp_31, vp_50, vp_60, vp_144, vp_154, vp_180, vp_432, vp_3600]) <;> grind) ⟨_, _, s_121, (br_f (by (try simp only [bI_0, vp_6, vp_9, vp_10, vp_12, vp_18, vp_30, vp_31, vp_50, vp_60, vp_144, vp_154, vp_180, vp_432, vp_3600]) <;> grind) ⟨_, _, s_121, (br_f (by (try simp only [bI_0, vp_6, vp_9, vp_10, vp_12, vp_18, vp_30, vp_31, vp_50, vp_60, vp_144, vp_154, vp_180, vp_432, vp_3600]) <;> grind) ⟨_, _, s_120, (br_f (by (try simp only [bI_0, vp_6, vp_9, vp_10, vp_12, vp_18, vp_30, vp_31, vp_50, vp_60, vp_144, vp_154, vp_180, vp_432, vp_3600]) <;> grind) ⟨(by (try simp only [bI_0, vp_6, vp_9, vp_10, vp_12, vp_18, vp_30, vp_31, vp_50, vp_60, vp_144, vp_154, vp_180, vp_432, vp_3600]) <;> grind), (br_t h9 ⟨(by (try simp only [bI_0, vp_6, vp_9, vp_10, vp_12, vp_18, vp_30, vp_31, vp_50, vp_60, vp_144, vp_154, vp_180, vp_432, vp_3600]) <;> grind), ⟨(by (try simp only [bI_0, vp_6, vp_9, vp_10, vp_12, vp_18, vp_30, vp_31, vp_50, vp_60, vp_144, vp_154, vp_180, vp_432, vp_3600]) <;> grind), ⟨(by (try simp only [bI_0, vp_6, vp_9, vp_10, vp_12, vp_18, vp_30, vp_31, vp_50, vp_60, vp_144, vp_154, vp_180, vp_432, vp_3600]) <;> grind), ⟨rfl, rfl⟩⟩⟩⟩)⟩)⟩)⟩)⟩)⟩)⟩), fin⟩
/-! place -/
theorem p_place {σ : St} {a b c d : Int32} (hR : Rel σ) : PairI 88 166 [.int a, .int b, .int c, .int d] σ := by
  obtain ⟨hS, hG, hH, hL, hP, hM, hA, hT, hD, hF, hU⟩ := id hR
  rcases (Classical.em (a = 0 ∨ a = 1)).symm with h0 | h0
  · exact ⟨-2, σ, σ, by (refine g_88_0 ⟨fun q1 => ⟨_, _, s_114, ⟨fun q2 => ?_, fun q2 => ⟨fun q3 => ?_, fun q3 => ⟨fun q4 => ⟨fun q5 => ?_, fun q5 => ⟨fun q6 => ?_, fun q6 => ?_⟩⟩, fun q4 => ?_⟩⟩⟩⟩, fun q1 => ⟨fun q7 => ⟨_, _, s_114, ⟨fun q8 => ?_, fun q8 => ⟨fun q9 => ?_, fun q9 => ⟨fun q10 => ⟨fun q11 => ?_, fun q11 => ⟨fun q12 => ?_, fun q12 => ?_⟩⟩, fun q10 => ?_⟩⟩⟩⟩, fun q7 => ?_⟩⟩ <;> first | exact ⟨rfl, rfl⟩ | (exfalso; (try simp only [bI_0, vp_6, vp_9, vp_10, vp_12, vp_18, vp_30, vp_31, vp_50, vp_60, vp_144, vp_154, vp_180, vp_432, vp_3600] at *) <;> grind) | ((try simp only [bI_0, vp_6, vp_9, vp_10, vp_12, vp_18, vp_30, vp_31, vp_50, vp_60, vp_144, vp_154, vp_180, vp_432, vp_3600] at *) <;> grind)), by (refine g_166_0 ⟨_, _, s_120, ⟨fun q1 => ?_, fun q1 => ⟨_, _, s_120, ⟨fun q2 => ?_, fun q2 => ⟨_, _, s_120, ⟨fun q3 => ?_, fun q3 => ⟨_, _, s_120, ⟨fun q4 => ?_, fun q4 => ?_⟩⟩⟩⟩⟩⟩⟩⟩ <;> first | exact ⟨rfl, rfl⟩ | (exfalso; (try simp only [bI_0, vp_6, vp_9, vp_10, vp_12, vp_18, vp_30, vp_31, vp_50, vp_60, vp_144, vp_154, vp_180, vp_432, vp_3600] at *) <;> grind) | ((try simp only [bI_0, vp_6, vp_9, vp_10, vp_12, vp_18, vp_30, vp_31, vp_50, vp_60, vp_144, vp_154, vp_180, vp_432, vp_3600] at *) <;> grind)), hR⟩
  rcases (Classical.em (0 ≤ b ∧ b < 6)).symm with h1 | h1
  · exact ⟨-1, σ, σ, by (refine g_88_0 ⟨fun q1 => ⟨_, _, s_114, ⟨fun q2 => ?_, fun q2 => ?_⟩⟩, fun q1 => ⟨fun q3 => ⟨_, _, s_114, ⟨fun q4 => ?_, fun q4 => ?_⟩⟩, fun q3 => ?_⟩⟩ <;> first | exact ⟨rfl, rfl⟩ | (exfalso; (try simp only [bI_0, vp_6, vp_9, vp_10, vp_12, vp_18, vp_30, vp_31, vp_50, vp_60, vp_144, vp_154, vp_180, vp_432, vp_3600] at *) <;> grind) | ((try simp only [bI_0, vp_6, vp_9, vp_10, vp_12, vp_18, vp_30, vp_31, vp_50, vp_60, vp_144, vp_154, vp_180, vp_432, vp_3600] at *) <;> grind)), by (refine g_166_0 ⟨_, _, s_120, ⟨fun q1 => ?_, fun q1 => ⟨_, _, s_120, ⟨fun q2 => ?_, fun q2 => ?_⟩⟩⟩⟩ <;> first | exact ⟨rfl, rfl⟩ | (exfalso; (try simp only [bI_0, vp_6, vp_9, vp_10, vp_12, vp_18, vp_30, vp_31, vp_50, vp_60, vp_144, vp_154, vp_180, vp_432, vp_3600] at *) <;> grind) | ((try simp only [bI_0, vp_6, vp_9, vp_10, vp_12, vp_18, vp_30, vp_31, vp_50, vp_60, vp_144, vp_154, vp_180, vp_432, vp_3600] at *) <;> grind)), hR⟩
  rcases (Classical.em ((0 ≤ c ∧ c ≤ 20) ∧ (0 ≤ d ∧ d ≤ 20))).symm with h2 | h2
  · exact ⟨-2, σ, σ, by (refine g_88_0 ⟨fun q1 => ⟨_, _, s_114, ⟨fun q2 => ?_, fun q2 => ⟨fun q3 => ?_, fun q3 => ⟨fun q4 => ⟨fun q5 => ?_, fun q5 => ⟨fun q6 => ?_, fun q6 => ?_⟩⟩, fun q4 => ?_⟩⟩⟩⟩, fun q1 => ⟨fun q7 => ⟨_, _, s_114, ⟨fun q8 => ?_, fun q8 => ⟨fun q9 => ?_, fun q9 => ⟨fun q10 => ⟨fun q11 => ?_, fun q11 => ⟨fun q12 => ?_, fun q12 => ?_⟩⟩, fun q10 => ?_⟩⟩⟩⟩, fun q7 => ?_⟩⟩ <;> first | exact ⟨rfl, rfl⟩ | (exfalso; (try simp only [bI_0, vp_6, vp_9, vp_10, vp_12, vp_18, vp_30, vp_31, vp_50, vp_60, vp_144, vp_154, vp_180, vp_432, vp_3600] at *) <;> grind) | ((try simp only [bI_0, vp_6, vp_9, vp_10, vp_12, vp_18, vp_30, vp_31, vp_50, vp_60, vp_144, vp_154, vp_180, vp_432, vp_3600] at *) <;> grind)), by (refine g_166_0 ⟨_, _, s_120, ⟨fun q1 => ?_, fun q1 => ⟨_, _, s_120, ⟨fun q2 => ?_, fun q2 => ⟨_, _, s_120, ⟨fun q3 => ?_, fun q3 => ⟨_, _, s_120, ⟨fun q4 => ?_, fun q4 => ?_⟩⟩⟩⟩⟩⟩⟩⟩ <;> first | exact ⟨rfl, rfl⟩ | (exfalso; (try simp only [bI_0, vp_6, vp_9, vp_10, vp_12, vp_18, vp_30, vp_31, vp_50, vp_60, vp_144, vp_154, vp_180, vp_432, vp_3600] at *) <;> grind) | ((try simp only [bI_0, vp_6, vp_9, vp_10, vp_12, vp_18, vp_30, vp_31, vp_50, vp_60, vp_144, vp_154, vp_180, vp_432, vp_3600] at *) <;> grind)), hR⟩
  obtain ⟨k, hk, rfl⟩ := inR (x := b) (m := 6) (n := 6) rfl (by decide) h1.1 h1.2
  have e0 : (nI k).toNatClampNeg = k := clN (by omega)
  rcases h0 with rfl | rfl
  · have e1 : (0 * 6 + nI k : Int32).toNatClampNeg = k := by rw [show (0 * 6 + nI k : Int32) = nI k by grind]; exact e0
    refine ⟨_, _, _, (g_88_0 (br_t (by (try simp only [bI_0, vp_6, vp_9, vp_10, vp_12, vp_18, vp_30, vp_31, vp_50, vp_60, vp_144, vp_154, vp_180, vp_432, vp_3600]) <;> grind) ⟨_, _, s_114, (br_f (by (try simp only [bI_0, vp_6, vp_9, vp_10, vp_12, vp_18, vp_30, vp_31, vp_50, vp_60, vp_144, vp_154, vp_180, vp_432, vp_3600]) <;> grind) (br_f (by (try simp only [bI_0, vp_6, vp_9, vp_10, vp_12, vp_18, vp_30, vp_31, vp_50, vp_60, vp_144, vp_154, vp_180, vp_432, vp_3600]) <;> grind) (br_t (by (try simp only [bI_0, vp_6, vp_9, vp_10, vp_12, vp_18, vp_30, vp_31, vp_50, vp_60, vp_144, vp_154, vp_180, vp_432, vp_3600]) <;> grind) (br_f (by (try simp only [bI_0, vp_6, vp_9, vp_10, vp_12, vp_18, vp_30, vp_31, vp_50, vp_60, vp_144, vp_154, vp_180, vp_432, vp_3600]) <;> grind) (br_t (by (try simp only [bI_0, vp_6, vp_9, vp_10, vp_12, vp_18, vp_30, vp_31, vp_50, vp_60, vp_144, vp_154, vp_180, vp_432, vp_3600]) <;> grind) ⟨(by (try simp only [bI_0, vp_6, vp_9, vp_10, vp_12, vp_18, vp_30, vp_31, vp_50, vp_60, vp_144, vp_154, vp_180, vp_432, vp_3600]) <;> grind), ⟨rfl, rfl⟩⟩)))))⟩)), (g_166_0 ⟨_, _, s_120, (br_f (by (try simp only [bI_0, vp_6, vp_9, vp_10, vp_12, vp_18, vp_30, vp_31, vp_50, vp_60, vp_144, vp_154, vp_180, vp_432, vp_3600]) <;> grind) ⟨_, _, s_120, (br_f (by (try simp only [bI_0, vp_6, vp_9, vp_10, vp_12, vp_18, vp_30, vp_31, vp_50, vp_60, vp_144, vp_154, vp_180, vp_432, vp_3600]) <;> grind) ⟨_, _, s_120, (br_f (by (try simp only [bI_0, vp_6, vp_9, vp_10, vp_12, vp_18, vp_30, vp_31, vp_50, vp_60, vp_144, vp_154, vp_180, vp_432, vp_3600]) <;> grind) ⟨_, _, s_120, (br_f (by (try simp only [bI_0, vp_6, vp_9, vp_10, vp_12, vp_18, vp_30, vp_31, vp_50, vp_60, vp_144, vp_154, vp_180, vp_432, vp_3600]) <;> grind) (br_t (by (try simp only [bI_0, vp_6, vp_9, vp_10, vp_12, vp_18, vp_30, vp_31, vp_50, vp_60, vp_144, vp_154, vp_180, vp_432, vp_3600]) <;> grind) ⟨(by (try simp only [bI_0, vp_6, vp_9, vp_10, vp_12, vp_18, vp_30, vp_31, vp_50, vp_60, vp_144, vp_154, vp_180, vp_432, vp_3600]) <;> grind), ⟨?_, rfl⟩⟩))⟩)⟩)⟩)⟩), hS, hG, hH, hL, hP, ?_, hA, hT, hD, hF, hU⟩
    · show [Value.int (100 * σ.1 36 _ + σ.1 37 _)] = [Value.int (100 * σ.1 66 _ + σ.1 67 _)]
      rw [e0, e1, (hM.2.2 k hk).1.1, (hM.2.2 k hk).1.2.1]
    · show RelM (σ.1 5 5) (σ.1 34) (σ.1 35) (upd (σ.1 36) _ c) (upd (σ.1 37) _ d) (σ.1 64) (σ.1 65) (upd (σ.1 66) _ c) (upd (σ.1 67) _ d) (σ.1 68) (σ.1 69)
      rw [e0, e1]
      refine ⟨hM.1, hM.2.1, fun i hi => ?_⟩
      have := hM.2.2 i hi
      unfold upd
      rw [if_neg (show ¬ 6 + i = k by omega), if_neg (show ¬ 6 + i = k by omega)]
      by_cases hik : i = k <;> simp only [hik, if_true, if_false] <;> grind
  · have e1 : (1 * 6 + nI k : Int32).toNatClampNeg = 6 + k := by rw [show (1 * 6 + nI k : Int32) = nI 6 + nI k by rw [show nI 6 = (6 : Int32) from rfl]; grind, nI_add]; exact clN (by omega)
    have g1 : vp_in (1 * 6 + nI k) 12 := by rw [vp_12]; grind
    refine ⟨_, _, _, (g_88_0 (br_f (by (try simp only [bI_0, vp_6, vp_9, vp_10, vp_12, vp_18, vp_30, vp_31, vp_50, vp_60, vp_144, vp_154, vp_180, vp_432, vp_3600]) <;> grind) (br_t (by (try simp only [bI_0, vp_6, vp_9, vp_10, vp_12, vp_18, vp_30, vp_31, vp_50, vp_60, vp_144, vp_154, vp_180, vp_432, vp_3600]) <;> grind) ⟨_, _, s_114, (br_f (by (try simp only [bI_0, vp_6, vp_9, vp_10, vp_12, vp_18, vp_30, vp_31, vp_50, vp_60, vp_144, vp_154, vp_180, vp_432, vp_3600]) <;> grind) (br_f (by (try simp only [bI_0, vp_6, vp_9, vp_10, vp_12, vp_18, vp_30, vp_31, vp_50, vp_60, vp_144, vp_154, vp_180, vp_432, vp_3600]) <;> grind) (br_t (by (try simp only [bI_0, vp_6, vp_9, vp_10, vp_12, vp_18, vp_30, vp_31, vp_50, vp_60, vp_144, vp_154, vp_180, vp_432, vp_3600]) <;> grind) (br_f (by (try simp only [bI_0, vp_6, vp_9, vp_10, vp_12, vp_18, vp_30, vp_31, vp_50, vp_60, vp_144, vp_154, vp_180, vp_432, vp_3600]) <;> grind) (br_t (by (try simp only [bI_0, vp_6, vp_9, vp_10, vp_12, vp_18, vp_30, vp_31, vp_50, vp_60, vp_144, vp_154, vp_180, vp_432, vp_3600]) <;> grind) ⟨g1, ⟨rfl, rfl⟩⟩)))))⟩))), (g_166_0 ⟨_, _, s_120, (br_f (by (try simp only [bI_0, vp_6, vp_9, vp_10, vp_12, vp_18, vp_30, vp_31, vp_50, vp_60, vp_144, vp_154, vp_180, vp_432, vp_3600]) <;> grind) ⟨_, _, s_120, (br_f (by (try simp only [bI_0, vp_6, vp_9, vp_10, vp_12, vp_18, vp_30, vp_31, vp_50, vp_60, vp_144, vp_154, vp_180, vp_432, vp_3600]) <;> grind) ⟨_, _, s_120, (br_f (by (try simp only [bI_0, vp_6, vp_9, vp_10, vp_12, vp_18, vp_30, vp_31, vp_50, vp_60, vp_144, vp_154, vp_180, vp_432, vp_3600]) <;> grind) ⟨_, _, s_120, (br_f (by (try simp only [bI_0, vp_6, vp_9, vp_10, vp_12, vp_18, vp_30, vp_31, vp_50, vp_60, vp_144, vp_154, vp_180, vp_432, vp_3600]) <;> grind) (br_f (by (try simp only [bI_0, vp_6, vp_9, vp_10, vp_12, vp_18, vp_30, vp_31, vp_50, vp_60, vp_144, vp_154, vp_180, vp_432, vp_3600]) <;> grind) ⟨(by (try simp only [bI_0, vp_6, vp_9, vp_10, vp_12, vp_18, vp_30, vp_31, vp_50, vp_60, vp_144, vp_154, vp_180, vp_432, vp_3600]) <;> grind), ⟨?_, rfl⟩⟩))⟩)⟩)⟩)⟩), hS, hG, hH, hL, hP, ?_, hA, hT, hD, hF, hU⟩
    · show [Value.int (100 * σ.1 36 _ + σ.1 37 _)] = [Value.int (100 * σ.1 68 _ + σ.1 69 _)]
      rw [e0, e1, (hM.2.2 k hk).1.2.2.1, (hM.2.2 k hk).1.2.2.2]
    · show RelM (σ.1 5 5) (σ.1 34) (σ.1 35) (upd (σ.1 36) _ c) (upd (σ.1 37) _ d) (σ.1 64) (σ.1 65) (σ.1 66) (σ.1 67) (upd (σ.1 68) _ c) (upd (σ.1 69) _ d)
      rw [e0, e1]
      refine ⟨hM.1, hM.2.1, fun i hi => ?_⟩
      have := hM.2.2 i hi
      unfold upd
      rw [if_neg (show ¬ i = 6 + k by omega), if_neg (show ¬ i = 6 + k by omega)]
      by_cases hik : i = k
      · subst hik
        simp only [if_true]
        grind
      · have h9 : ¬ (6 + i = 6 + k) := by omega
        simp only [hik, h9, if_false]
        exact this
/-! way -/
def absI (x : Int32) : Int32 := if 0 ≤ x then x else 0 - x
def wayF (e s : Int32) : Int32 := if e = 0 ∧ s = 0 then -6 else if 2 * absI e < absI s then (if s < 0 then 0 else 4) else if 2 * absI s < absI e then (if 0 < e then 2 else 6) else if 0 < e then (if s < 0 then 1 else 3) else if s < 0 then 7 else 5
theorem s_43 {σ : St} {a b e s : Int32} (ha : 0 ≤ a ∧ a < 6) (hb : 0 ≤ b ∧ b < 6) (he : σ.1 36 (6 + b).toNatClampNeg - σ.1 36 a.toNatClampNeg = e) (hs : σ.1 37 (6 + b).toNatClampNeg - σ.1 37 a.toNatClampNeg = s) : Ret 43 [.ref 5, .int a, .int b] σ [.int (wayF e s)] σ := by
  refine g_43_0 ⟨?_, ⟨?_, ⟨fun q1 => ⟨fun q2 => ?_, fun q2 => ⟨fun q3 => ⟨fun q4 => ⟨fun q5 => ⟨fun q6 => ?_, fun q6 => ?_⟩, fun q5 => ⟨fun q7 => ?_, fun q7 => ?_⟩⟩, fun q4 => ⟨fun q8 => ?_, fun q8 => ?_⟩⟩, fun q3 => ⟨fun q9 => ?_, fun q9 => ?_⟩⟩⟩, fun q1 => ⟨fun q10 => ⟨fun q11 => ⟨fun q12 => ⟨fun q13 => ?_, fun q13 => ?_⟩, fun q12 => ⟨fun q14 => ?_, fun q14 => ?_⟩⟩, fun q11 => ⟨fun q15 => ?_, fun q15 => ?_⟩⟩, fun q10 => ⟨fun q16 => ?_, fun q16 => ?_⟩⟩⟩⟩⟩
  all_goals (try rw [vp_12])
  all_goals (try simp only [he, hs] at *)
  all_goals (try unfold wayF absI)
  all_goals grind
theorem s_167 {σ : St} {a : Int32} : Ret 167 [.int a] σ [.int (absI a)] σ := by
  refine g_167_0 ⟨fun q1 => ?_, fun q1 => ?_⟩
  · refine ⟨?_, rfl⟩
    unfold absI
    rw [if_neg (by grind), show 0 - a = -a by grind]
  · refine ⟨?_, rfl⟩
    unfold absI
    rw [if_pos (by grind)]
def wayN (e s : Int32) : Int32 := if absI e ≤ 2 * absI s then (if absI s ≤ 2 * absI e then (if e ≤ 0 then (if s ≤ 0 then 7 else 5) else if s ≤ 0 then 1 else 3) else if s ≤ 0 then 0 else 4) else if e ≤ 0 then 6 else 2
def wayM (e s : Int32) : Int32 := if e = 0 then (if s = 0 then -6 else wayN e s) else wayN e s
theorem way_grid : ∀ i, i < 41 → ∀ j, j < 41 → wayM (nI i - 20) (nI j - 20) = wayF (nI i - 20) (nI j - 20) := by decide +kernel
theorem way_same {e s : Int32} (h1 : -20 ≤ e ∧ e ≤ 20) (h2 : -20 ≤ s ∧ s ≤ 20) : wayM e s = wayF e s := by
  obtain ⟨i, hi, e1⟩ := inR (x := e + 20) (m := 41) (n := 41) rfl (by decide) (by grind) (by grind)
  obtain ⟨j, hj, e2⟩ := inR (x := s + 20) (m := 41) (n := 41) rfl (by decide) (by grind) (by grind)
  rw [show e = nI i - 20 by rw [← e1]; grind, show s = nI j - 20 by rw [← e2]; grind]
  exact way_grid i hi j hj
theorem s_193 {σ : St} {a b e s : Int32} (ha : 0 ≤ a ∧ a < 6) (hb : 0 ≤ b ∧ b < 6) (he : σ.1 68 b.toNatClampNeg - σ.1 66 a.toNatClampNeg = e) (hs : σ.1 69 b.toNatClampNeg - σ.1 67 a.toNatClampNeg = s) (h1 : -20 ≤ e ∧ e ≤ 20) (h2 : -20 ≤ s ∧ s ≤ 20) : Ret 193 [.ref 11, .int a, .int b] σ [.int (wayF e s)] σ := by
  have g1 : vp_in b 6 := vp_6.mpr hb
  have g2 : vp_in a 6 := vp_6.mpr ha
  rw [← way_same h1 h2]
  refine g_193_0 ?_
  rw [he, hs]
  refine ⟨g1, g2, fun q1 => ⟨fun q2 => ?_, fun q2 => ⟨_, _, s_167, _, _, s_167, fun q3 => ⟨_, _, s_167, _, _, s_167, fun q4 => ⟨fun q5 => ⟨fun q6 => ?_, fun q6 => ?_⟩, fun q5 => ⟨fun q6 => ?_, fun q6 => ?_⟩⟩, fun q4 => ⟨fun q5 => ?_, fun q5 => ?_⟩⟩, fun q3 => ⟨fun q4 => ?_, fun q4 => ?_⟩⟩⟩, fun q1 => ⟨_, _, s_167, _, _, s_167, fun q3 => ⟨_, _, s_167, _, _, s_167, fun q4 => ⟨fun q5 => ⟨fun q6 => ?_, fun q6 => ?_⟩, fun q5 => ⟨fun q6 => ?_, fun q6 => ?_⟩⟩, fun q4 => ⟨fun q5 => ?_, fun q5 => ?_⟩⟩, fun q3 => ⟨fun q4 => ?_, fun q4 => ?_⟩⟩⟩
  all_goals (refine ⟨?_, rfl⟩; unfold wayM; (first | rw [if_pos q1] | rw [if_neg q1]); (try first | rw [if_pos q2] | rw [if_neg q2]); (try unfold wayN); (try first | rw [if_pos q3] | rw [if_neg q3]); (try first | rw [if_pos q4] | rw [if_neg q4]); (try first | rw [if_pos q5] | rw [if_neg q5]); (try first | rw [if_pos q6] | rw [if_neg q6]))
/-- how a core lies from a mountain -/
theorem way_eq {σ : St} (hR : Rel σ) {a b : Nat} (ha : a < 6) (hb : b < 6) : ∃ e s : Int32, (∀ τ : St, τ.1 36 = σ.1 36 → τ.1 37 = σ.1 37 → Ret 43 [.ref 5, .int (nI a), .int (nI b)] τ [.int (wayF e s)] τ) ∧ (∀ τ : St, τ.1 66 = σ.1 66 → τ.1 67 = σ.1 67 → τ.1 68 = σ.1 68 → τ.1 69 = σ.1 69 → Ret 193 [.ref 11, .int (nI a), .int (nI b)] τ [.int (wayF e s)] τ) := by
  obtain ⟨hS, hG, hH, hL, hP, hM, hA, hT, hD, hF, hU⟩ := id hR
  have e0 : (nI a).toNatClampNeg = a := clN (by omega)
  have e1 : (nI b).toNatClampNeg = b := clN (by omega)
  have e2 : (6 + nI b : Int32).toNatClampNeg = 6 + b := by rw [show (6 : Int32) = nI 6 from rfl, nI_add]; exact clN (by omega)
  have la : 0 ≤ nI a ∧ nI a < 6 := ⟨nI0 (by omega), (nI_ltL (n := 6) rfl (by omega) (by decide)).mpr ha⟩
  have lb : 0 ≤ nI b ∧ nI b < 6 := ⟨nI0 (by omega), (nI_ltL (n := 6) rfl (by omega) (by decide)).mpr hb⟩
  have qa := hM.2.2 a ha
  have qb := hM.2.2 b hb
  refine ⟨σ.1 36 (6 + b) - σ.1 36 a, σ.1 37 (6 + b) - σ.1 37 a, fun τ h1 h2 => s_43 la lb (by rw [h1, e0, e2]) (by rw [h2, e0, e2]), fun τ h1 h2 h3 h4 => s_193 la lb (by rw [h1, h3, e0, e1, qa.1.1, qb.1.2.2.1]) (by rw [h2, h4, e0, e1, qa.1.2.1, qb.1.2.2.2]) (by grind) (by grind)⟩
theorem p_way {σ : St} {a b : Int32} (hR : Rel σ) : PairI 102 194 [.int a, .int b] σ := by
  rcases (Classical.em (knP σ a)).symm with h1 | h1
  · exact ⟨-1, σ, σ, (g_102_0 ⟨_, _, (s_39f hR h1), (br_t (by (try simp only [bI_0, vp_6, vp_9, vp_10, vp_12, vp_18, vp_30, vp_31, vp_50, vp_60, vp_144, vp_154, vp_180, vp_432, vp_3600]) <;> grind) ⟨rfl, rfl⟩)⟩), (g_194_0 ⟨_, _, (s_164f h1), (br_t (by (try simp only [bI_0, vp_6, vp_9, vp_10, vp_12, vp_18, vp_30, vp_31, vp_50, vp_60, vp_144, vp_154, vp_180, vp_432, vp_3600]) <;> grind) ⟨rfl, rfl⟩)⟩), hR⟩
  rcases (Classical.em (0 ≤ b ∧ b < 6)).symm with h2 | h2
  · exact ⟨-1, σ, σ, (g_102_0 ⟨_, _, (s_39t hR h1), (br_f (by (try simp only [bI_0, vp_6, vp_9, vp_10, vp_12, vp_18, vp_30, vp_31, vp_50, vp_60, vp_144, vp_154, vp_180, vp_432, vp_3600]) <;> grind) ⟨_, _, s_114, (br_t (by (try simp only [bI_0, vp_6, vp_9, vp_10, vp_12, vp_18, vp_30, vp_31, vp_50, vp_60, vp_144, vp_154, vp_180, vp_432, vp_3600]) <;> grind) ⟨rfl, rfl⟩)⟩)⟩), (g_194_0 ⟨_, _, (s_164t h1), (br_f (by (try simp only [bI_0, vp_6, vp_9, vp_10, vp_12, vp_18, vp_30, vp_31, vp_50, vp_60, vp_144, vp_154, vp_180, vp_432, vp_3600]) <;> grind) ⟨_, _, s_123, (br_t (by (try simp only [bI_0, vp_6, vp_9, vp_10, vp_12, vp_18, vp_30, vp_31, vp_50, vp_60, vp_144, vp_154, vp_180, vp_432, vp_3600]) <;> grind) ⟨rfl, rfl⟩)⟩)⟩), hR⟩
  obtain ⟨k, hk, rfl⟩ := inR (x := a) (m := 6) (n := 6) rfl (by decide) h1.1 h1.2.1
  obtain ⟨j, hj, rfl⟩ := inR (x := b) (m := 6) (n := 6) rfl (by decide) h2.1 h2.2
  obtain ⟨e, s, w1, w2⟩ := way_eq hR hk hj
  exact ⟨_, σ, σ, (g_102_0 ⟨_, _, (s_39t hR h1), (br_f (by (try simp only [bI_0, vp_6, vp_9, vp_10, vp_12, vp_18, vp_30, vp_31, vp_50, vp_60, vp_144, vp_154, vp_180, vp_432, vp_3600]) <;> grind) ⟨_, _, s_114, (br_f (by (try simp only [bI_0, vp_6, vp_9, vp_10, vp_12, vp_18, vp_30, vp_31, vp_50, vp_60, vp_144, vp_154, vp_180, vp_432, vp_3600]) <;> grind) ⟨_, _, (w1 σ rfl rfl), ⟨rfl, rfl⟩⟩)⟩)⟩), (g_194_0 ⟨_, _, (s_164t h1), (br_f (by (try simp only [bI_0, vp_6, vp_9, vp_10, vp_12, vp_18, vp_30, vp_31, vp_50, vp_60, vp_144, vp_154, vp_180, vp_432, vp_3600]) <;> grind) ⟨_, _, s_123, (br_f (by (try simp only [bI_0, vp_6, vp_9, vp_10, vp_12, vp_18, vp_30, vp_31, vp_50, vp_60, vp_144, vp_154, vp_180, vp_432, vp_3600]) <;> grind) ⟨_, _, (w2 σ rfl rfl rfl rfl), ⟨rfl, rfl⟩⟩)⟩)⟩), hR⟩
/-! born -/
theorem p_born {σ : St} {a b : Int32} (hR : Rel σ) : PairI 99 188 [.int a, .int b] σ := by
  obtain ⟨hS, hG, hH, hL, hP, hM, hA, hT, hD, hF, hU⟩ := id hR
  rcases (Classical.em (0 ≤ a ∧ a < 10)).symm with h1 | h1
  · exact ⟨-1, σ, σ, (g_99_0 ⟨_, _, s_114, (br_t (by (try simp only [bI_0, vp_6, vp_9, vp_10, vp_12, vp_18, vp_30, vp_31, vp_50, vp_60, vp_144, vp_154, vp_180, vp_432, vp_3600]) <;> grind) ⟨rfl, rfl⟩)⟩), (g_188_0 ⟨_, _, s_125, (br_t (by (try simp only [bI_0, vp_6, vp_9, vp_10, vp_12, vp_18, vp_30, vp_31, vp_50, vp_60, vp_144, vp_154, vp_180, vp_432, vp_3600]) <;> grind) ⟨rfl, rfl⟩)⟩), hR⟩
  obtain ⟨k, hk, rfl⟩ := inR (x := a) (m := 10) (n := 10) rfl (by decide) h1.1 h1.2
  have e0 : (nI k).toNatClampNeg = k := clN (by omega)
  have was : (if σ.1 16 k = -1 then -6 else σ.1 16 k) = σ.1 77 k := by
    rcases hD.1 k hk with h | ⟨m, hm, h3, h4, h5⟩
    · rw [if_pos h.1, h.2]
    · rw [h3, h4, if_neg (by intro q; have := nI0 (k := m) (by omega); rw [q] at this; exact absurd this (by decide))]
  by_cases h2 : b = -1
  · subst h2
    refine ⟨_, _, _, (g_99_0 ⟨_, _, s_114, (br_f (by (try simp only [bI_0, vp_6, vp_9, vp_10, vp_12, vp_18, vp_30, vp_31, vp_50, vp_60, vp_144, vp_154, vp_180, vp_432, vp_3600]) <;> grind) (br_t (by (try simp only [bI_0, vp_6, vp_9, vp_10, vp_12, vp_18, vp_30, vp_31, vp_50, vp_60, vp_144, vp_154, vp_180, vp_432, vp_3600]) <;> grind) ⟨(by (try simp only [bI_0, vp_6, vp_9, vp_10, vp_12, vp_18, vp_30, vp_31, vp_50, vp_60, vp_144, vp_154, vp_180, vp_432, vp_3600]) <;> grind), ⟨_, _, s_116, ⟨rfl, rfl⟩⟩⟩))⟩), (g_188_0 ⟨_, _, s_125, (br_f (by (try simp only [bI_0, vp_6, vp_9, vp_10, vp_12, vp_18, vp_30, vp_31, vp_50, vp_60, vp_144, vp_154, vp_180, vp_432, vp_3600]) <;> grind) (br_t (by (try simp only [bI_0, vp_6, vp_9, vp_10, vp_12, vp_18, vp_30, vp_31, vp_50, vp_60, vp_144, vp_154, vp_180, vp_432, vp_3600]) <;> grind) ⟨(by (try simp only [bI_0, vp_6, vp_9, vp_10, vp_12, vp_18, vp_30, vp_31, vp_50, vp_60, vp_144, vp_154, vp_180, vp_432, vp_3600]) <;> grind), (br_t (by (try simp only [bI_0, vp_6, vp_9, vp_10, vp_12, vp_18, vp_30, vp_31, vp_50, vp_60, vp_144, vp_154, vp_180, vp_432, vp_3600]) <;> grind) ⟨?_, rfl⟩)⟩))⟩), hS, hG, hH, hL, hP, hM, hA, hT, ⟨fun j hj => ?_, hD.2⟩, hF, hU⟩
    · show [Value.int (if σ.1 16 _ = -1 then -6 else σ.1 16 _)] = [Value.int (σ.1 77 _)]
      rw [e0, was]
    · show (upd (σ.1 16) _ (-1) j = -1 ∧ upd (σ.1 77) _ (-6) j = -6) ∨ ∃ m : Nat, m < 6 ∧ upd (σ.1 16) _ (-1) j = nI m ∧ upd (σ.1 77) _ (-6) j = nI m ∧ 0 ≤ σ.1 65 m
      have := hD.1 j hj
      unfold upd
      split
      · exact Or.inl ⟨rfl, rfl⟩
      · exact this
  · rcases (Classical.em (knP σ b)).symm with h3 | h3
    · exact ⟨-1, σ, σ, (g_99_0 ⟨_, _, s_114, (br_f (by (try simp only [bI_0, vp_6, vp_9, vp_10, vp_12, vp_18, vp_30, vp_31, vp_50, vp_60, vp_144, vp_154, vp_180, vp_432, vp_3600]) <;> grind) (br_f (by (try simp only [bI_0, vp_6, vp_9, vp_10, vp_12, vp_18, vp_30, vp_31, vp_50, vp_60, vp_144, vp_154, vp_180, vp_432, vp_3600]) <;> grind) ⟨_, _, (s_39f hR h3), (br_t (by (try simp only [bI_0, vp_6, vp_9, vp_10, vp_12, vp_18, vp_30, vp_31, vp_50, vp_60, vp_144, vp_154, vp_180, vp_432, vp_3600]) <;> grind) ⟨rfl, rfl⟩)⟩))⟩), (g_188_0 ⟨_, _, s_125, (br_f (by (try simp only [bI_0, vp_6, vp_9, vp_10, vp_12, vp_18, vp_30, vp_31, vp_50, vp_60, vp_144, vp_154, vp_180, vp_432, vp_3600]) <;> grind) (br_f (by (try simp only [bI_0, vp_6, vp_9, vp_10, vp_12, vp_18, vp_30, vp_31, vp_50, vp_60, vp_144, vp_154, vp_180, vp_432, vp_3600]) <;> grind) ⟨_, _, (s_164f h3), (br_t (by (try simp only [bI_0, vp_6, vp_9, vp_10, vp_12, vp_18, vp_30, vp_31, vp_50, vp_60, vp_144, vp_154, vp_180, vp_432, vp_3600]) <;> grind) ⟨rfl, rfl⟩)⟩))⟩), hR⟩
    have h4 := knP_def.mp h3
    obtain ⟨m, hm, rfl⟩ := inR (x := b) (m := 6) (n := 6) rfl (by decide) h3.1 h3.2.1
    have e1 : (nI m).toNatClampNeg = m := clN (by omega)
    refine ⟨_, _, _, (g_99_0 ⟨_, _, s_114, (br_f (by (try simp only [bI_0, vp_6, vp_9, vp_10, vp_12, vp_18, vp_30, vp_31, vp_50, vp_60, vp_144, vp_154, vp_180, vp_432, vp_3600]) <;> grind) (br_f (by (try simp only [bI_0, vp_6, vp_9, vp_10, vp_12, vp_18, vp_30, vp_31, vp_50, vp_60, vp_144, vp_154, vp_180, vp_432, vp_3600]) <;> grind) ⟨_, _, (s_39t hR h3), (br_f (by (try simp only [bI_0, vp_6, vp_9, vp_10, vp_12, vp_18, vp_30, vp_31, vp_50, vp_60, vp_144, vp_154, vp_180, vp_432, vp_3600]) <;> grind) ⟨(by (try simp only [bI_0, vp_6, vp_9, vp_10, vp_12, vp_18, vp_30, vp_31, vp_50, vp_60, vp_144, vp_154, vp_180, vp_432, vp_3600]) <;> grind), ⟨_, _, s_116, ⟨rfl, rfl⟩⟩⟩)⟩))⟩), (g_188_0 ⟨_, _, s_125, (br_f (by (try simp only [bI_0, vp_6, vp_9, vp_10, vp_12, vp_18, vp_30, vp_31, vp_50, vp_60, vp_144, vp_154, vp_180, vp_432, vp_3600]) <;> grind) (br_f (by (try simp only [bI_0, vp_6, vp_9, vp_10, vp_12, vp_18, vp_30, vp_31, vp_50, vp_60, vp_144, vp_154, vp_180, vp_432, vp_3600]) <;> grind) ⟨_, _, (s_164t h3), (br_f (by (try simp only [bI_0, vp_6, vp_9, vp_10, vp_12, vp_18, vp_30, vp_31, vp_50, vp_60, vp_144, vp_154, vp_180, vp_432, vp_3600]) <;> grind) ⟨(by (try simp only [bI_0, vp_6, vp_9, vp_10, vp_12, vp_18, vp_30, vp_31, vp_50, vp_60, vp_144, vp_154, vp_180, vp_432, vp_3600]) <;> grind), (br_f (by (try simp only [bI_0, vp_6, vp_9, vp_10, vp_12, vp_18, vp_30, vp_31, vp_50, vp_60, vp_144, vp_154, vp_180, vp_432, vp_3600]) <;> grind) ⟨?_, rfl⟩)⟩)⟩))⟩), hS, hG, hH, hL, hP, hM, hA, hT, ⟨fun j hj => ?_, hD.2⟩, hF, hU⟩
    · show [Value.int (if σ.1 16 _ = -1 then -6 else σ.1 16 _)] = [Value.int (σ.1 77 _)]
      rw [e0, was]
    · show (upd (σ.1 16) _ (nI m) j = -1 ∧ upd (σ.1 77) _ (nI m) j = -6) ∨ ∃ m1 : Nat, m1 < 6 ∧ upd (σ.1 16) _ (nI m) j = nI m1 ∧ upd (σ.1 77) _ (nI m) j = nI m1 ∧ 0 ≤ σ.1 65 m1
      have := hD.1 j hj
      unfold upd
      split
      · exact Or.inr ⟨m, hm, rfl, rfl, by rw [← e1]; exact h4.2.2⟩
      · exact this
