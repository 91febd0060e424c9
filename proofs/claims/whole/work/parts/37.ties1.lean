theorem neg1_nI {d : Nat} (hd : d < 2 ^ 31) : ¬ nI d = -1 := by intro q; have := nI0 hd; rw [q] at this; exact absurd this (by decide)
theorem p_tie {σ : St} {a b : Int32} (hR : Rel σ) : PairI 92 174 [.int a, .int b] σ := by
  obtain ⟨n, hg⟩ := hR.gf
  obtain ⟨hS, hG, hH, hL, hP, hM, hA, hT, hD, hF, hU⟩ := id hR
  rcases (Classical.em (lnP σ a)).symm with h1 | h1
  · exact ⟨-1, σ, σ, (g_92_0 ⟨_, _, (s_29f h1), (br_t (by (try simp only [bI_0, vp_6, vp_9, vp_10, vp_12, vp_18, vp_30, vp_31, vp_50, vp_60, vp_144, vp_154, vp_180, vp_432, vp_3600]) <;> grind) ⟨rfl, rfl⟩)⟩), (g_174_0 ⟨_, _, (s_140f hg h1), (br_t (by (try simp only [bI_0, vp_6, vp_9, vp_10, vp_12, vp_18, vp_30, vp_31, vp_50, vp_60, vp_144, vp_154, vp_180, vp_432, vp_3600]) <;> grind) ⟨rfl, rfl⟩)⟩), hR⟩
  rcases (Classical.em (-1 ≤ b ∧ b < 10)).symm with h2 | h2
  · refine ⟨-1, σ, σ, ?_, (g_174_0 ⟨_, _, (s_140t hg h1), (br_f (by (try simp only [bI_0, vp_6, vp_9, vp_10, vp_12, vp_18, vp_30, vp_31, vp_50, vp_60, vp_144, vp_154, vp_180, vp_432, vp_3600]) <;> grind) ⟨_, _, s_120, (br_t (by (try simp only [bI_0, vp_6, vp_9, vp_10, vp_12, vp_18, vp_30, vp_31, vp_50, vp_60, vp_144, vp_154, vp_180, vp_432, vp_3600]) <;> grind) ⟨rfl, rfl⟩)⟩)⟩), hR⟩
    by_cases h3 : b < -1
    · exact (g_92_0 ⟨_, _, (s_29t h1), (br_f (by (try simp only [bI_0, vp_6, vp_9, vp_10, vp_12, vp_18, vp_30, vp_31, vp_50, vp_60, vp_144, vp_154, vp_180, vp_432, vp_3600]) <;> grind) (br_t (by (try simp only [bI_0, vp_6, vp_9, vp_10, vp_12, vp_18, vp_30, vp_31, vp_50, vp_60, vp_144, vp_154, vp_180, vp_432, vp_3600]) <;> grind) ⟨rfl, rfl⟩))⟩)
    · exact (g_92_0 ⟨_, _, (s_29t h1), (br_f (by (try simp only [bI_0, vp_6, vp_9, vp_10, vp_12, vp_18, vp_30, vp_31, vp_50, vp_60, vp_144, vp_154, vp_180, vp_432, vp_3600]) <;> grind) (br_f (by (try simp only [bI_0, vp_6, vp_9, vp_10, vp_12, vp_18, vp_30, vp_31, vp_50, vp_60, vp_144, vp_154, vp_180, vp_432, vp_3600]) <;> grind) (br_f (by (try simp only [bI_0, vp_6, vp_9, vp_10, vp_12, vp_18, vp_30, vp_31, vp_50, vp_60, vp_144, vp_154, vp_180, vp_432, vp_3600]) <;> grind) ⟨rfl, rfl⟩)))⟩)
  have h1' := lnP_def.mp h1
  obtain ⟨l, hl, rfl⟩ := inR (x := a) (m := 144) (n := 144) rfl (by decide) h1.1 h1.2.1
  have e0 : (nI l).toNatClampNeg = l := clN (by omega)
  rw [e0] at h1'
  have g1 : vp_in (nI l) 144 := vp_in_nI hl (by decide)
  have was : (if σ.1 47 l = -1 then -6 else σ.1 47 l) = σ.1 74 l := by
    rcases (hT l hl).1 with h | ⟨d, hd, h3, h4, h5⟩
    · rw [if_pos h.1, h.2]
    · rw [h3, h4, if_neg (neg1_nI (by omega))]
  by_cases h3 : b < 0
  · have hb : b = -1 := by grind
    subst hb
    refine ⟨_, _, _, (g_92_0 ⟨_, _, (s_29t h1), (br_f (by (try simp only [bI_0, vp_6, vp_9, vp_10, vp_12, vp_18, vp_30, vp_31, vp_50, vp_60, vp_144, vp_154, vp_180, vp_432, vp_3600]) <;> grind) (br_f (by (try simp only [bI_0, vp_6, vp_9, vp_10, vp_12, vp_18, vp_30, vp_31, vp_50, vp_60, vp_144, vp_154, vp_180, vp_432, vp_3600]) <;> grind) (br_t (by (try simp only [bI_0, vp_6, vp_9, vp_10, vp_12, vp_18, vp_30, vp_31, vp_50, vp_60, vp_144, vp_154, vp_180, vp_432, vp_3600]) <;> grind) ⟨g1, ⟨_, _, s_116, ⟨rfl, rfl⟩⟩⟩)))⟩), (g_174_0 ⟨_, _, (s_140t (n := n) hg h1), (br_f (by (try simp only [bI_0, vp_6, vp_9, vp_10, vp_12, vp_18, vp_30, vp_31, vp_50, vp_60, vp_144, vp_154, vp_180, vp_432, vp_3600]) <;> grind) ⟨_, _, s_120, (br_f (by (try simp only [bI_0, vp_6, vp_9, vp_10, vp_12, vp_18, vp_30, vp_31, vp_50, vp_60, vp_144, vp_154, vp_180, vp_432, vp_3600]) <;> grind) ⟨g1, (br_t (by (try simp only [bI_0, vp_6, vp_9, vp_10, vp_12, vp_18, vp_30, vp_31, vp_50, vp_60, vp_144, vp_154, vp_180, vp_432, vp_3600]) <;> grind) ⟨?_, rfl⟩)⟩)⟩)⟩), hS, hG, hH, hL, hP, hM, hA, fun j hj => ?_, hD, hF, hU⟩
    · show [Value.int (if σ.1 47 _ = -1 then -6 else σ.1 47 _)] = [Value.int (σ.1 74 _)]
      rw [e0, was]
    · refine ⟨?_, (hT j hj).2⟩
      show (upd (σ.1 47) _ (-1) j = -1 ∧ upd (σ.1 74) _ (-6) j = -6) ∨ ∃ d : Nat, d < 10 ∧ upd (σ.1 47) _ (-1) j = nI d ∧ upd (σ.1 74) _ (-6) j = nI d ∧ 0 < σ.1 30 j
      have := (hT j hj).1
      rw [e0]
      by_cases hjl : j = l
      · subst hjl; rw [upd_s, upd_s]; exact Or.inl ⟨rfl, rfl⟩
      · rw [upd_n hjl, upd_n hjl]; exact this
  · obtain ⟨d, hd, rfl⟩ := inR (x := b) (m := 10) (n := 10) rfl (by decide) (by grind) h2.2
    refine ⟨_, _, _, (g_92_0 ⟨_, _, (s_29t h1), (br_f (by (try simp only [bI_0, vp_6, vp_9, vp_10, vp_12, vp_18, vp_30, vp_31, vp_50, vp_60, vp_144, vp_154, vp_180, vp_432, vp_3600]) <;> grind) (br_f (by (try simp only [bI_0, vp_6, vp_9, vp_10, vp_12, vp_18, vp_30, vp_31, vp_50, vp_60, vp_144, vp_154, vp_180, vp_432, vp_3600]) <;> grind) (br_t (by (try simp only [bI_0, vp_6, vp_9, vp_10, vp_12, vp_18, vp_30, vp_31, vp_50, vp_60, vp_144, vp_154, vp_180, vp_432, vp_3600]) <;> grind) ⟨g1, ⟨_, _, s_116, ⟨rfl, rfl⟩⟩⟩)))⟩), (g_174_0 ⟨_, _, (s_140t (n := n) hg h1), (br_f (by (try simp only [bI_0, vp_6, vp_9, vp_10, vp_12, vp_18, vp_30, vp_31, vp_50, vp_60, vp_144, vp_154, vp_180, vp_432, vp_3600]) <;> grind) ⟨_, _, s_120, (br_f (by (try simp only [bI_0, vp_6, vp_9, vp_10, vp_12, vp_18, vp_30, vp_31, vp_50, vp_60, vp_144, vp_154, vp_180, vp_432, vp_3600]) <;> grind) ⟨g1, (br_f (by (try simp only [bI_0, vp_6, vp_9, vp_10, vp_12, vp_18, vp_30, vp_31, vp_50, vp_60, vp_144, vp_154, vp_180, vp_432, vp_3600]) <;> grind) ⟨?_, rfl⟩)⟩)⟩)⟩), hS, hG, hH, hL, hP, hM, hA, fun j hj => ?_, hD, hF, hU⟩
    · show [Value.int (if σ.1 47 _ = -1 then -6 else σ.1 47 _)] = [Value.int (σ.1 74 _)]
      rw [e0, was]
    · refine ⟨?_, (hT j hj).2⟩
      show (upd (σ.1 47) _ (nI d) j = -1 ∧ upd (σ.1 74) _ (nI d) j = -6) ∨ ∃ d1 : Nat, d1 < 10 ∧ upd (σ.1 47) _ (nI d) j = nI d1 ∧ upd (σ.1 74) _ (nI d) j = nI d1 ∧ 0 < σ.1 30 j
      have := (hT j hj).1
      rw [e0]
      by_cases hjl : j = l
      · subst hjl; rw [upd_s, upd_s]; exact Or.inr ⟨d, hd, rfl, rfl, h1'.2.2⟩
      · rw [upd_n hjl, upd_n hjl]; exact this
theorem p_name {σ : St} {a b : Int32} (hR : Rel σ) : PairI 104 196 [.int a, .int b] σ := by
  obtain ⟨n, hg⟩ := hR.gf
  obtain ⟨hS, hG, hH, hL, hP, hM, hA, hT, hD, hF, hU⟩ := id hR
  rcases (Classical.em (lnP σ a)).symm with h1 | h1
  · exact ⟨-1, σ, σ, (g_104_0 ⟨_, _, (s_29f h1), (br_t (by (try simp only [bI_0, vp_6, vp_9, vp_10, vp_12, vp_18, vp_30, vp_31, vp_50, vp_60, vp_144, vp_154, vp_180, vp_432, vp_3600]) <;> grind) ⟨rfl, rfl⟩)⟩), (g_196_0 ⟨_, _, (s_140f hg h1), (br_t (by (try simp only [bI_0, vp_6, vp_9, vp_10, vp_12, vp_18, vp_30, vp_31, vp_50, vp_60, vp_144, vp_154, vp_180, vp_432, vp_3600]) <;> grind) ⟨rfl, rfl⟩)⟩), hR⟩
  rcases (Classical.em (-1 ≤ b ∧ b < 8)).symm with h2 | h2
  · refine ⟨-1, σ, σ, ?_, (g_196_0 ⟨_, _, (s_140t hg h1), (br_f (by (try simp only [bI_0, vp_6, vp_9, vp_10, vp_12, vp_18, vp_30, vp_31, vp_50, vp_60, vp_144, vp_154, vp_180, vp_432, vp_3600]) <;> grind) ⟨_, _, s_120, (br_t (by (try simp only [bI_0, vp_6, vp_9, vp_10, vp_12, vp_18, vp_30, vp_31, vp_50, vp_60, vp_144, vp_154, vp_180, vp_432, vp_3600]) <;> grind) ⟨rfl, rfl⟩)⟩)⟩), hR⟩
    by_cases h3 : b < -1
    · exact (g_104_0 ⟨_, _, (s_29t h1), (br_f (by (try simp only [bI_0, vp_6, vp_9, vp_10, vp_12, vp_18, vp_30, vp_31, vp_50, vp_60, vp_144, vp_154, vp_180, vp_432, vp_3600]) <;> grind) (br_t (by (try simp only [bI_0, vp_6, vp_9, vp_10, vp_12, vp_18, vp_30, vp_31, vp_50, vp_60, vp_144, vp_154, vp_180, vp_432, vp_3600]) <;> grind) ⟨rfl, rfl⟩))⟩)
    · exact (g_104_0 ⟨_, _, (s_29t h1), (br_f (by (try simp only [bI_0, vp_6, vp_9, vp_10, vp_12, vp_18, vp_30, vp_31, vp_50, vp_60, vp_144, vp_154, vp_180, vp_432, vp_3600]) <;> grind) (br_f (by (try simp only [bI_0, vp_6, vp_9, vp_10, vp_12, vp_18, vp_30, vp_31, vp_50, vp_60, vp_144, vp_154, vp_180, vp_432, vp_3600]) <;> grind) (br_f (by (try simp only [bI_0, vp_6, vp_9, vp_10, vp_12, vp_18, vp_30, vp_31, vp_50, vp_60, vp_144, vp_154, vp_180, vp_432, vp_3600]) <;> grind) ⟨rfl, rfl⟩)))⟩)
  obtain ⟨l, hl, rfl⟩ := inR (x := a) (m := 144) (n := 144) rfl (by decide) h1.1 h1.2.1
  have e0 : (nI l).toNatClampNeg = l := clN (by omega)
  have g1 : vp_in (nI l) 144 := vp_in_nI hl (by decide)
  have was : (if σ.1 49 l = -1 then -6 else σ.1 49 l) = σ.1 76 l := by
    rcases (hT l hl).2.2 with h | ⟨d, hd, h3, h4⟩
    · rw [if_pos h.1, h.2]
    · rw [h3, h4, if_neg (neg1_nI (by omega))]
  by_cases h3 : b < 0
  · have hb : b = -1 := by grind
    subst hb
    refine ⟨_, _, _, (g_104_0 ⟨_, _, (s_29t h1), (br_f (by (try simp only [bI_0, vp_6, vp_9, vp_10, vp_12, vp_18, vp_30, vp_31, vp_50, vp_60, vp_144, vp_154, vp_180, vp_432, vp_3600]) <;> grind) (br_f (by (try simp only [bI_0, vp_6, vp_9, vp_10, vp_12, vp_18, vp_30, vp_31, vp_50, vp_60, vp_144, vp_154, vp_180, vp_432, vp_3600]) <;> grind) (br_t (by (try simp only [bI_0, vp_6, vp_9, vp_10, vp_12, vp_18, vp_30, vp_31, vp_50, vp_60, vp_144, vp_154, vp_180, vp_432, vp_3600]) <;> grind) ⟨g1, ⟨_, _, s_116, ⟨rfl, rfl⟩⟩⟩)))⟩), (g_196_0 ⟨_, _, (s_140t (n := n) hg h1), (br_f (by (try simp only [bI_0, vp_6, vp_9, vp_10, vp_12, vp_18, vp_30, vp_31, vp_50, vp_60, vp_144, vp_154, vp_180, vp_432, vp_3600]) <;> grind) ⟨_, _, s_120, (br_f (by (try simp only [bI_0, vp_6, vp_9, vp_10, vp_12, vp_18, vp_30, vp_31, vp_50, vp_60, vp_144, vp_154, vp_180, vp_432, vp_3600]) <;> grind) ⟨g1, (br_t (by (try simp only [bI_0, vp_6, vp_9, vp_10, vp_12, vp_18, vp_30, vp_31, vp_50, vp_60, vp_144, vp_154, vp_180, vp_432, vp_3600]) <;> grind) ⟨?_, rfl⟩)⟩)⟩)⟩), hS, hG, hH, hL, hP, hM, hA, fun j hj => ?_, hD, hF, hU⟩
    · show [Value.int (if σ.1 49 _ = -1 then -6 else σ.1 49 _)] = [Value.int (σ.1 76 _)]
      rw [e0, was]
    · refine ⟨(hT j hj).1, (hT j hj).2.1, ?_⟩
      show (upd (σ.1 49) _ (-1) j = -1 ∧ upd (σ.1 76) _ (-6) j = -6) ∨ ∃ d : Nat, d < 8 ∧ upd (σ.1 49) _ (-1) j = nI d ∧ upd (σ.1 76) _ (-6) j = nI d
      have := (hT j hj).2.2
      rw [e0]
      by_cases hjl : j = l
      · subst hjl; rw [upd_s, upd_s]; exact Or.inl ⟨rfl, rfl⟩
      · rw [upd_n hjl, upd_n hjl]; exact this
  · obtain ⟨d, hd, rfl⟩ := inR (x := b) (m := 8) (n := 8) rfl (by decide) (by grind) h2.2
    refine ⟨_, _, _, (g_104_0 ⟨_, _, (s_29t h1), (br_f (by (try simp only [bI_0, vp_6, vp_9, vp_10, vp_12, vp_18, vp_30, vp_31, vp_50, vp_60, vp_144, vp_154, vp_180, vp_432, vp_3600]) <;> grind) (br_f (by (try simp only [bI_0, vp_6, vp_9, vp_10, vp_12, vp_18, vp_30, vp_31, vp_50, vp_60, vp_144, vp_154, vp_180, vp_432, vp_3600]) <;> grind) (br_t (by (try simp only [bI_0, vp_6, vp_9, vp_10, vp_12, vp_18, vp_30, vp_31, vp_50, vp_60, vp_144, vp_154, vp_180, vp_432, vp_3600]) <;> grind) ⟨g1, ⟨_, _, s_116, ⟨rfl, rfl⟩⟩⟩)))⟩), (g_196_0 ⟨_, _, (s_140t (n := n) hg h1), (br_f (by (try simp only [bI_0, vp_6, vp_9, vp_10, vp_12, vp_18, vp_30, vp_31, vp_50, vp_60, vp_144, vp_154, vp_180, vp_432, vp_3600]) <;> grind) ⟨_, _, s_120, (br_f (by (try simp only [bI_0, vp_6, vp_9, vp_10, vp_12, vp_18, vp_30, vp_31, vp_50, vp_60, vp_144, vp_154, vp_180, vp_432, vp_3600]) <;> grind) ⟨g1, (br_f (by (try simp only [bI_0, vp_6, vp_9, vp_10, vp_12, vp_18, vp_30, vp_31, vp_50, vp_60, vp_144, vp_154, vp_180, vp_432, vp_3600]) <;> grind) ⟨?_, rfl⟩)⟩)⟩)⟩), hS, hG, hH, hL, hP, hM, hA, fun j hj => ?_, hD, hF, hU⟩
    · show [Value.int (if σ.1 49 _ = -1 then -6 else σ.1 49 _)] = [Value.int (σ.1 76 _)]
      rw [e0, was]
    · refine ⟨(hT j hj).1, (hT j hj).2.1, ?_⟩
      show (upd (σ.1 49) _ (nI d) j = -1 ∧ upd (σ.1 76) _ (nI d) j = -6) ∨ ∃ d1 : Nat, d1 < 8 ∧ upd (σ.1 49) _ (nI d) j = nI d1 ∧ upd (σ.1 76) _ (nI d) j = nI d1
      have := (hT j hj).2.2
      rw [e0]
      by_cases hjl : j = l
      · subst hjl; rw [upd_s, upd_s]; exact Or.inr ⟨d, hd, rfl, rfl⟩
      · rw [upd_n hjl, upd_n hjl]; exact this
theorem p_sunk {σ : St} {a b : Int32} (hb : b = 0 ∨ b = 1) (hR : Rel σ) : PairI 93 175 [.int a, .int b] σ := by
  obtain ⟨n, hg⟩ := hR.gf
  obtain ⟨hS, hG, hH, hL, hP, hM, hA, hT, hD, hF, hU⟩ := id hR
  rcases (Classical.em (lnP σ a)).symm with h1 | h1
  · exact ⟨-1, σ, σ, (g_93_0 ⟨_, _, (s_29f h1), (br_t (by (try simp only [bI_0, vp_6, vp_9, vp_10, vp_12, vp_18, vp_30, vp_31, vp_50, vp_60, vp_144, vp_154, vp_180, vp_432, vp_3600]) <;> grind) ⟨rfl, rfl⟩)⟩), (g_175_0 ⟨_, _, (s_140f hg h1), (br_t (by (try simp only [bI_0, vp_6, vp_9, vp_10, vp_12, vp_18, vp_30, vp_31, vp_50, vp_60, vp_144, vp_154, vp_180, vp_432, vp_3600]) <;> grind) ⟨rfl, rfl⟩)⟩), hR⟩
  obtain ⟨l, hl, rfl⟩ := inR (x := a) (m := 144) (n := 144) rfl (by decide) h1.1 h1.2.1
  have e0 : (nI l).toNatClampNeg = l := clN (by omega)
  have g1 : vp_in (nI l) 144 := vp_in_nI hl (by decide)
  have q := (hT l hl).2.1
  have fin : Rel (wr (wr σ 48 (nI l).toNatClampNeg b) 75 (nI l).toNatClampNeg b) := by
    refine ⟨hS, hG, hH, hL, hP, hM, hA, fun j hj => ⟨(hT j hj).1, ?_, (hT j hj).2.2⟩, hD, hF, hU⟩
    show upd (σ.1 48) _ b j = upd (σ.1 75) _ b j ∧ (upd (σ.1 48) _ b j = 0 ∨ upd (σ.1 48) _ b j = 1)
    have := (hT j hj).2.1
    rw [e0]
    by_cases hjl : j = l
    · subst hjl; rw [upd_s, upd_s]; exact ⟨rfl, hb⟩
    · rw [upd_n hjl, upd_n hjl]; exact this
  by_cases h3 : σ.1 48 l = 0
  · exact ⟨0, _, _, (g_93_0 ⟨_, _, (s_29t h1), (br_f (by (try simp only [bI_0, vp_6, vp_9, vp_10, vp_12, vp_18, vp_30, vp_31, vp_50, vp_60, vp_144, vp_154, vp_180, vp_432, vp_3600]) <;> grind) ⟨g1, ⟨hb, (br_t (by rw [e0]; exact h3) ⟨rfl, rfl⟩)⟩⟩)⟩), (g_175_0 ⟨_, _, (s_140t (n := n) hg h1), (br_f (by (try simp only [bI_0, vp_6, vp_9, vp_10, vp_12, vp_18, vp_30, vp_31, vp_50, vp_60, vp_144, vp_154, vp_180, vp_432, vp_3600]) <;> grind) ⟨g1, (br_t (show σ.1 75 (nI l).toNatClampNeg = 0 by rw [e0, ← q.1]; exact h3) ⟨hb, ⟨rfl, rfl⟩⟩)⟩)⟩), fin⟩
  · exact ⟨1, _, _, (g_93_0 ⟨_, _, (s_29t h1), (br_f (by (try simp only [bI_0, vp_6, vp_9, vp_10, vp_12, vp_18, vp_30, vp_31, vp_50, vp_60, vp_144, vp_154, vp_180, vp_432, vp_3600]) <;> grind) ⟨g1, ⟨hb, (br_f (by rw [e0]; exact h3) ⟨rfl, rfl⟩)⟩⟩)⟩), (g_175_0 ⟨_, _, (s_140t (n := n) hg h1), (br_f (by (try simp only [bI_0, vp_6, vp_9, vp_10, vp_12, vp_18, vp_30, vp_31, vp_50, vp_60, vp_144, vp_154, vp_180, vp_432, vp_3600]) <;> grind) ⟨g1, (br_f (show ¬ σ.1 75 (nI l).toNatClampNeg = 0 by rw [e0, ← q.1]; exact h3) ⟨hb, ⟨rfl, rfl⟩⟩)⟩)⟩), fin⟩
/-! slack -/
theorem wg_at {σ : St} {n l s : Nat} (hl : l < 144) (hs : s < 3) : wgL σ n 0 (3 * l + s) = gLo (σ.1 27) (fun g => tLo (σ.1 29) (σ.1 28) (σ.1 20) (σ.1 3 10) g s) (nI l) n ∧ wgH σ n 0 (3 * l + s) = gHi (σ.1 27) (fun g => tHi (σ.1 29) (σ.1 28) (σ.1 19) (σ.1 3 10) g s) (nI l) n := by
  unfold wgL wgH FM FH
  rw [if_pos (show 3 * l + s < 432 by omega), if_pos (show 3 * l + s < 432 by omega), show (3 * l + s) % 3 = s by omega, show (3 * l + s) / 3 = l by omega, if_neg (show ¬ s < 0 by omega)]
  exact ⟨rfl, rfl⟩
theorem p_slack {σ : St} {a : Int32} (hR : Rel σ) : PairI 72 134 [.int a] σ := by
  obtain ⟨n, hg⟩ := hR.gf
  obtain ⟨hS, hG, hH, hL, hP, hM, hA, hT, hD, hF, hU⟩ := id hR
  rcases (Classical.em (0 ≤ a ∧ a ≤ 3)).symm with h1 | h1
  · refine ⟨-2, σ, σ, ?_, (g_134_0 ⟨_, _, s_120, (br_t (by (try simp only [bI_0, vp_6, vp_9, vp_10, vp_12, vp_18, vp_30, vp_31, vp_50, vp_60, vp_144, vp_154, vp_180, vp_432, vp_3600]) <;> grind) ⟨rfl, rfl⟩)⟩), hR⟩
    by_cases h3 : a < 0
    · exact (g_72_0 (br_t (by (try simp only [bI_0, vp_6, vp_9, vp_10, vp_12, vp_18, vp_30, vp_31, vp_50, vp_60, vp_144, vp_154, vp_180, vp_432, vp_3600]) <;> grind) ⟨rfl, rfl⟩))
    · exact (g_72_0 (br_f (by (try simp only [bI_0, vp_6, vp_9, vp_10, vp_12, vp_18, vp_30, vp_31, vp_50, vp_60, vp_144, vp_154, vp_180, vp_432, vp_3600]) <;> grind) (br_f (by (try simp only [bI_0, vp_6, vp_9, vp_10, vp_12, vp_18, vp_30, vp_31, vp_50, vp_60, vp_144, vp_154, vp_180, vp_432, vp_3600]) <;> grind) ⟨rfl, rfl⟩)))
  have hgw : GW (wr σ 3 10 a) n := hg.1
  refine ⟨_, _, _, (g_72_0 (br_f (by (try simp only [bI_0, vp_6, vp_9, vp_10, vp_12, vp_18, vp_30, vp_31, vp_50, vp_60, vp_144, vp_154, vp_180, vp_432, vp_3600]) <;> grind) (br_t (by (try simp only [bI_0, vp_6, vp_9, vp_10, vp_12, vp_18, vp_30, vp_31, vp_50, vp_60, vp_144, vp_154, vp_180, vp_432, vp_3600]) <;> grind) ⟨_, (s_35 hgw), ⟨rfl, rfl⟩⟩))), (g_134_0 ⟨_, _, s_120, (br_f (by (try simp only [bI_0, vp_6, vp_9, vp_10, vp_12, vp_18, vp_30, vp_31, vp_50, vp_60, vp_144, vp_154, vp_180, vp_432, vp_3600]) <;> grind) ⟨?_, rfl⟩)⟩), hS, hG, ?_, ?_, hP, hM, hA, hT, hD, hF, hU⟩
  · show [Value.int (σ.1 3 10)] = [Value.int (σ.1 11 0)]
    rw [hL.1]
  · obtain ⟨n', hn', e1', k1, k2, k3⟩ := hH
    have : n' = n := (nI_eq (by omega) (by have := hg.1.1; omega)).mp (by rw [← e1', hg.1.2.1])
    subst this
    refine ⟨n', hn', e1', k1, fun l s hl hs _ => ?_, k3⟩
    exact wg_at (σ := wr σ 3 10 a) hl hs
  · exact ⟨rfl, h1.1, h1.2, hL.2.2.2⟩
