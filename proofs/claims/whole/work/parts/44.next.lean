/-! next -/
def coN (f : Nat → Int32) (K : Nat) : Nat → Nat
  | 0 => 0
  | c + 1 => coN f K c + (if K.testBit c then fdN f c else 0)
theorem co_nI {f : Nat → Int32} {j : Nat} (h : 0 ≤ f j ∧ f j ≤ 99) : f j = nI (fdN f j) ∧ fdN f j ≤ 99 := by
  obtain ⟨k, hk, e⟩ := inR (x := f j) (m := 100) (n := 100) rfl (by decide) h.1 (by grind)
  unfold fdN
  rw [e, clN (by omega)]
  exact ⟨rfl, by omega⟩
theorem coN_le {f : Nat → Int32} {K : Nat} (h : ∀ c, c < 6 → fdN f c ≤ 99) : ∀ c, c ≤ 6 → coN f K c ≤ c * 99
  | 0, _ => by simp [coN]
  | c + 1, hc => by
    have := coN_le (f := f) (K := K) h c (by omega)
    have := h c (by omega)
    unfold coN
    split <;> omega
theorem coN_congr {f g : Nat → Int32} {K : Nat} (h : ∀ j, j < 6 → f j = g j) : ∀ c, c ≤ 6 → coN f K c = coN g K c
  | 0, _ => rfl
  | c + 1, hc => by
    unfold coN fdN
    rw [coN_congr h c (by omega), h c (by omega)]
theorem s_54 {σ : St} {K : Nat} (hK : K < 64) (hf : ∀ j, j < 6 → 0 ≤ σ.1 44 j ∧ σ.1 44 j ≤ 99) : Ret 54 [.ref 7, .int (nI K)] σ [.int (nI (coN (σ.1 44) K 6))] σ := by
  refine g_54_0 ?_
  refine loopN 6 (fun c => Go 54 4 [.ref 7, .int (nI K), .int (nI (coN (σ.1 44) K c)), .int (nI c)] [] σ [.int (nI (coN (σ.1 44) K 6))] σ) ?_ ?_ 0 (by omega)
  · intro c hc hy
    have lt : nI c < 6 := (nI_ltL (n := 6) rfl (by omega) (by decide)).mpr hc
    rw [← nI_S, coN] at hy
    by_cases hb : K.testBit c = true
    · rw [if_pos hb] at hy
      have fd := co_nI (hf c hc)
      refine g_54_4 (br_t lt (br_f (by rw [bit_iff (by omega) (by omega), hb]; decide) ⟨vp_in_nI hc (by decide), ?_⟩))
      rw [clN (by omega), fd.1, nI_add]
      exact hy
    · rw [if_neg hb] at hy
      exact g_54_4 (br_t lt (br_t ((bit_iff (by omega) (by omega)).mpr (by simpa using hb)) hy))
  · exact g_54_4 (br_f (by decide) ⟨rfl, rfl⟩)
theorem s_206 {σ : St} {K : Nat} (hK : K < 64) (hf : ∀ j, j < 6 → 0 ≤ σ.1 80 j ∧ σ.1 80 j ≤ 99) : Ret 206 [.ref 11, .int (nI K)] σ [.int (nI (coN (σ.1 80) K 6))] σ := by
  refine g_206_0 ?_
  refine loopN 6 (fun c => Go 206 4 [.ref 11, .int (nI K), .int (nI (coN (σ.1 80) K c)), .int (nI c)] [] σ [.int (nI (coN (σ.1 80) K 6))] σ) ?_ ?_ 0 (by omega)
  · intro c hc hy
    have lt : nI c < 6 := (nI_ltL (n := 6) rfl (by omega) (by decide)).mpr hc
    rw [← nI_S, coN] at hy
    have fd := co_nI (hf c hc)
    refine g_206_4 (br_t lt ⟨vp_in_nI hc (by decide), ?_⟩)
    rw [clN (by omega), fd.1]
    by_cases hb : K.testBit c = true
    · rw [if_pos hb] at hy
      rw [(bit_iff1 (by omega) (by omega)).mpr hb, show 1 * nI (fdN (σ.1 80) c) = nI (fdN (σ.1 80) c) by grind, nI_add]
      exact hy
    · rw [if_neg hb] at hy
      rw [(bit_iff (by omega) (by omega)).mpr (by simpa using hb), show 0 * nI (fdN (σ.1 80) c) = 0 by grind, show ∀ x : Int32, x + 0 = x by intro x; grind]
      exact hy
  · exact g_206_4 (br_f (by decide) ⟨rfl, rfl⟩)
/-- the best of the first sets -/
def btC (f g : Nat → Int32) (P i b : Nat) : Prop := coN g i 6 ≤ P ∧ (woN f b 10 < woN f i 10 ∨ (woN f i 10 = woN f b 10 ∧ coN g i 6 < coN g b 6))
noncomputable def bsN (f g : Nat → Int32) (P : Nat) : Nat → Nat
  | 0 => 0
  | i + 1 => @ite _ (btC f g P i (bsN f g P i)) (Classical.propDecidable _) i (bsN f g P i)
theorem bsN_lt {f g : Nat → Int32} {P : Nat} : ∀ i, bsN f g P i ≤ i
  | 0 => Nat.le_refl 0
  | i + 1 => by
    have := bsN_lt (f := f) (g := g) (P := P) i
    unfold bsN
    split <;> omega
theorem bsN_1 {f g : Nat → Int32} {P : Nat} : bsN f g P 1 = 0 := by
  unfold bsN
  split <;> rfl
theorem wo_0 {f : Nat → Int32} : ∀ d, woN f 0 d = 0
  | 0 => rfl
  | d + 1 => by
    unfold woN
    rw [wo_0 d]
    have : msN f 0 d 6 = 1000000 := by
      simp [msN]
    rw [this]
theorem co_0 {g : Nat → Int32} : ∀ c, coN g 0 c = 0
  | 0 => rfl
  | c + 1 => by
    unfold coN
    rw [co_0 c]
    simp
theorem s_55 {σ : St} {P : Nat} (hP : P ≤ 600) (hf : ∀ j, j < 60 → 0 ≤ σ.1 43 j ∧ σ.1 43 j ≤ 10) (hc : ∀ j, j < 6 → 0 ≤ σ.1 44 j ∧ σ.1 44 j ≤ 99) : Ret 55 [.ref 7, .int (nI P)] σ [.int (nI (bsN (σ.1 43) (σ.1 44) P 64))] σ := by
  refine g_55_0 ?_
  have key := loopN 64 (fun i => 1 ≤ i → Go 55 10 [.ref 7, .int (nI P), .int (nI (bsN (σ.1 43) (σ.1 44) P i)), .int (nI (woN (σ.1 43) (bsN (σ.1 43) (σ.1 44) P i) 10)), .int (nI (coN (σ.1 44) (bsN (σ.1 43) (σ.1 44) P i) 6)), .int (nI i), .null, .null] [] σ [.int (nI (bsN (σ.1 43) (σ.1 44) P 64))] σ) ?_ ?_ 1 (by omega) (by omega)
  · rw [bsN_1, wo_0, co_0] at key
    exact key
  · intro i hi hx h1
    have hx := hx (by omega)
    have lt : nI i < 64 := (nI_ltL (n := 64) rfl (by omega) (by decide)).mpr hi
    have bl := bsN_lt (f := σ.1 43) (g := σ.1 44) (P := P) i
    obtain ⟨b, eb⟩ : ∃ b, b = bsN (σ.1 43) (σ.1 44) P i := ⟨_, rfl⟩
    rw [bsN, ← nI_S, ← eb] at hx
    rw [← eb] at bl ⊢
    have x1 := s_54 (σ := σ) (K := i) (by omega) hc
    have x2 := s_53 (σ := σ) (K := i) (by omega) hf
    have w1 := woN_le (f := σ.1 43) (K := i) 10
    have w2 := woN_le (f := σ.1 43) (K := b) 10
    have hc9 : ∀ c, c < 6 → fdN (σ.1 44) c ≤ 99 := fun c h => (co_nI (hc c h)).2
    have c1 := coN_le (K := i) hc9 6 (by decide)
    have c2 := coN_le (K := b) hc9 6 (by decide)
    rcases (Classical.em (coN (σ.1 44) i 6 ≤ P)).symm with q1 | q1
    · rw [if_neg (fun z => q1 z.1)] at hx
      exact g_55_10 (br_t lt ⟨_, _, x1, br_f (by rw [nI_leI (by omega) (by omega)]; exact q1) hx⟩)
    have q1' : nI (coN (σ.1 44) i 6) ≤ nI P := (nI_leI (by omega) (by omega)).mpr q1
    by_cases q2 : woN (σ.1 43) b 10 < woN (σ.1 43) i 10
    · rw [if_pos ⟨q1, Or.inl q2⟩] at hx
      exact g_55_10 (br_t lt ⟨_, _, x1, br_t q1' ⟨_, _, x2, br_f (by rw [nI_leI (by omega) (by omega)]; omega) hx⟩⟩)
    have q2' : nI (woN (σ.1 43) i 10) ≤ nI (woN (σ.1 43) b 10) := (nI_leI (by omega) (by omega)).mpr (by omega)
    by_cases q3 : woN (σ.1 43) i 10 = woN (σ.1 43) b 10
    · by_cases q4 : coN (σ.1 44) i 6 < coN (σ.1 44) b 6
      · rw [if_pos ⟨q1, Or.inr ⟨q3, q4⟩⟩] at hx
        exact g_55_10 (br_t lt ⟨_, _, x1, br_t q1' ⟨_, _, x2, br_t q2' (br_t (by rw [q3]) (br_t ((nI_ltI (by omega) (by omega)).mpr q4) hx))⟩⟩)
      · rw [if_neg (fun z => z.2.elim q2 (fun y => q4 y.2))] at hx
        exact g_55_10 (br_t lt ⟨_, _, x1, br_t q1' ⟨_, _, x2, br_t q2' (br_t (by rw [q3]) (br_f (by rw [nI_ltI (by omega) (by omega)]; exact q4) hx))⟩⟩)
    · rw [if_neg (fun z => z.2.elim q2 (fun y => q3 y.1))] at hx
      exact g_55_10 (br_t lt ⟨_, _, x1, br_t q1' ⟨_, _, x2, br_t q2' (br_f (nI_ne (by omega) (by omega) q3) hx)⟩⟩)
  · intro _
    exact g_55_10 (br_f (by decide) ⟨rfl, rfl⟩)
theorem lg_sub {a b : Nat} (ha : a < 2 ^ 31) (hb : b < 2 ^ 31) : lg_cmp (lN a - lN b) 0 = if b < a then 1 else if a = b then 0 else -1 := by
  unfold lg_cmp
  have t1 : (lN a - lN b).toInt = (a : Int) - b := by
    rw [Int64.toInt_sub, lN_toInt ha, lN_toInt hb]
    rw [Int.bmod_eq_of_le (by omega) (by omega)]
  have g : lN a - lN b > 0 ↔ b < a := by
    show 0 < lN a - lN b ↔ _
    rw [Int64.lt_iff_toInt_lt, t1]
    show (0 : Int) < _ ↔ _
    omega
  have e : lN a - lN b = 0 ↔ a = b := by
    rw [← Int64.toInt_inj, t1]
    show _ = (0 : Int) ↔ _
    omega
  by_cases h1 : b < a
  · rw [if_pos (g.mpr h1), if_pos h1]
  · rw [if_neg (fun z => h1 (g.mp z)), if_neg h1]
    by_cases h2 : a = b
    · rw [if_pos (e.mpr h2), if_pos h2]
    · rw [if_neg (fun z => h2 (e.mp z)), if_neg h2]
theorem p_next {σ : St} {a b : Int32} (hR : Rel σ) : PairI 112 207 [.int a, .int b] σ := by
  obtain ⟨hS, hG, hH, hL, hP, hM, hA, hT, hD, hF, hU⟩ := id hR
  rcases (Classical.em (0 ≤ a ∧ a ≤ 600)).symm with h1 | h1
  · exact ⟨-2, σ, σ, by (refine g_112_0 ⟨fun q1 => ?_, fun q1 => ⟨fun q2 => ⟨fun q3 => ?_, fun q3 => ⟨fun q4 => ?_, fun q4 => ?_⟩⟩, fun q2 => ?_⟩⟩ <;> first | exact ⟨rfl, rfl⟩ | (exfalso; (try simp only [bI_0, vp_6, vp_9, vp_10, vp_12, vp_18, vp_30, vp_31, vp_50, vp_60, vp_144, vp_154, vp_180, vp_432, vp_3600] at *) <;> grind) | ((try simp only [bI_0, vp_6, vp_9, vp_10, vp_12, vp_18, vp_30, vp_31, vp_50, vp_60, vp_144, vp_154, vp_180, vp_432, vp_3600] at *) <;> grind)), by (refine g_207_0 ⟨_, _, s_120, ⟨fun q1 => ?_, fun q1 => ⟨_, _, s_126, ⟨fun q2 => ?_, fun q2 => ?_⟩⟩⟩⟩ <;> first | exact ⟨rfl, rfl⟩ | (exfalso; (try simp only [bI_0, vp_6, vp_9, vp_10, vp_12, vp_18, vp_30, vp_31, vp_50, vp_60, vp_144, vp_154, vp_180, vp_432, vp_3600] at *) <;> grind) | ((try simp only [bI_0, vp_6, vp_9, vp_10, vp_12, vp_18, vp_30, vp_31, vp_50, vp_60, vp_144, vp_154, vp_180, vp_432, vp_3600] at *) <;> grind)), hR⟩
  rcases (Classical.em (b = 0 ∨ b = 1)).symm with h2 | h2
  · exact ⟨-2, σ, σ, by (refine g_112_0 ⟨fun q1 => ?_, fun q1 => ⟨fun q2 => ⟨fun q3 => ?_, fun q3 => ⟨fun q4 => ?_, fun q4 => ?_⟩⟩, fun q2 => ?_⟩⟩ <;> first | exact ⟨rfl, rfl⟩ | (exfalso; (try simp only [bI_0, vp_6, vp_9, vp_10, vp_12, vp_18, vp_30, vp_31, vp_50, vp_60, vp_144, vp_154, vp_180, vp_432, vp_3600] at *) <;> grind) | ((try simp only [bI_0, vp_6, vp_9, vp_10, vp_12, vp_18, vp_30, vp_31, vp_50, vp_60, vp_144, vp_154, vp_180, vp_432, vp_3600] at *) <;> grind)), by (refine g_207_0 ⟨_, _, s_120, ⟨fun q1 => ?_, fun q1 => ⟨_, _, s_126, ⟨fun q2 => ?_, fun q2 => ?_⟩⟩⟩⟩ <;> first | exact ⟨rfl, rfl⟩ | (exfalso; (try simp only [bI_0, vp_6, vp_9, vp_10, vp_12, vp_18, vp_30, vp_31, vp_50, vp_60, vp_144, vp_154, vp_180, vp_432, vp_3600] at *) <;> grind) | ((try simp only [bI_0, vp_6, vp_9, vp_10, vp_12, vp_18, vp_30, vp_31, vp_50, vp_60, vp_144, vp_154, vp_180, vp_432, vp_3600] at *) <;> grind)), hR⟩
  obtain ⟨P, hP6, rfl⟩ := inR (x := a) (m := 601) (n := 601) rfl (by decide) h1.1 (by grind)
  have hf : ∀ j, j < 60 → 0 ≤ σ.1 43 j ∧ σ.1 43 j ≤ 10 := fun j hj => (hF.1 j hj).2
  have hc : ∀ j, j < 6 → 0 ≤ σ.1 44 j ∧ σ.1 44 j ≤ 99 := fun j hj => (hF.2 j hj).2
  have hf' : ∀ j, j < 60 → 0 ≤ σ.1 79 j ∧ σ.1 79 j ≤ 10 := fun j hj => by rw [← (hF.1 j hj).1]; exact hf j hj
  have hc' : ∀ j, j < 6 → 0 ≤ σ.1 80 j ∧ σ.1 80 j ≤ 99 := fun j hj => by rw [← (hF.2 j hj).1]; exact hc j hj
  have x := s_55 (σ := σ) (P := P) (by omega) hf hc
  have bl := bsN_lt (f := σ.1 43) (g := σ.1 44) (P := P) 64
  have bl64 : bsN (σ.1 43) (σ.1 44) P 64 < 64 := by
    have : bsN (σ.1 43) (σ.1 44) P 64 ≤ 63 := by
      rw [show (64 : Nat) = 63 + 1 from rfl, bsN]
      have := bsN_lt (f := σ.1 43) (g := σ.1 44) (P := P) 63
      split <;> omega
    omega
  have m206 : ∀ K, K < 64 → Ret 206 [.ref 11, .int (nI K)] σ [.int (nI (coN (σ.1 44) K 6))] σ := fun K hK => by
    rw [coN_congr (fun j hj => (hF.2 j hj).1) 6 (by decide)]
    exact s_206 hK hc'
  have m204 : ∀ K, K < 64 → Ret 204 [.ref 11, .int (nI K)] σ [.long (lN (woN (σ.1 43) K 10))] σ := fun K hK => by
    rw [woN_congr (fun j hj => (hF.1 j hj).1) 10 (by decide)]
    exact s_204 hK hf'
  have hc9 : ∀ c, c < 6 → fdN (σ.1 44) c ≤ 99 := fun c h => (co_nI (hc c h)).2
  have loop : ∀ r, (b = 0 → r = nI (bsN (σ.1 43) (σ.1 44) P 64)) → (b = 1 → r = nI (coN (σ.1 44) (bsN (σ.1 43) (σ.1 44) P 64) 6)) → Go 207 26 [.ref 11, .int (nI P), .int b, .int 0, .int 1, .null, .null, .null] [] σ [.int r] σ := by
    intro r hr0 hr1
    have key := loopN 64 (fun i => 1 ≤ i → Go 207 26 [.ref 11, .int (nI P), .int b, .int (nI (bsN (σ.1 43) (σ.1 44) P i)), .int (nI i), .null, .null, .null] [] σ [.int r] σ) ?_ ?_ 1 (by omega) (by omega)
    · rw [bsN_1] at key
      exact key
    · intro i hi hx h1
      have hx := hx (by omega)
      have lt : nI i < 64 := (nI_ltL (n := 64) rfl (by omega) (by decide)).mpr hi
      have bl := bsN_lt (f := σ.1 43) (g := σ.1 44) (P := P) i
      obtain ⟨bb, eb⟩ : ∃ bb, bb = bsN (σ.1 43) (σ.1 44) P i := ⟨_, rfl⟩
      rw [bsN, ← nI_S, ← eb] at hx
      rw [← eb] at bl ⊢
      have w1 := woN_le (f := σ.1 43) (K := i) 10
      have w2 := woN_le (f := σ.1 43) (K := bb) 10
      have c1 := coN_le (K := i) hc9 6 (by decide)
      have c2 := coN_le (K := bb) hc9 6 (by decide)
      have lg := lg_sub (a := woN (σ.1 43) i 10) (b := woN (σ.1 43) bb 10) (by omega) (by omega)
      have y1 := m204 i hi
      have y2 := m204 bb (by omega)
      have z1 := m206 i hi
      have z2 := m206 bb (by omega)
      by_cases q2 : woN (σ.1 43) bb 10 < woN (σ.1 43) i 10
      · rw [if_pos q2] at lg
        by_cases q1 : coN (σ.1 44) i 6 ≤ P
        · rw [if_pos ⟨q1, Or.inl q2⟩] at hx
          exact g_207_26 (br_t lt ⟨_, _, y1, _, _, y2, br_f (by rw [lg]; decide) ⟨_, _, z1, br_t ((nI_leI (by omega) (by omega)).mpr q1) hx⟩⟩)
        · rw [if_neg (fun z => q1 z.1)] at hx
          exact g_207_26 (br_t lt ⟨_, _, y1, _, _, y2, br_f (by rw [lg]; decide) ⟨_, _, z1, br_f (by rw [nI_leI (by omega) (by omega)]; exact q1) hx⟩⟩)
      · rw [if_neg q2] at lg
        by_cases q3 : woN (σ.1 43) i 10 = woN (σ.1 43) bb 10
        · rw [if_pos q3] at lg
          by_cases q4 : coN (σ.1 44) i 6 < coN (σ.1 44) bb 6
          · by_cases q1 : coN (σ.1 44) i 6 ≤ P
            · rw [if_pos ⟨q1, Or.inr ⟨q3, q4⟩⟩] at hx
              exact g_207_26 (br_t lt ⟨_, _, y1, _, _, y2, br_t (by rw [lg]; decide) (br_t lg ⟨_, _, z1, _, _, z2, br_t ((nI_ltI (by omega) (by omega)).mpr q4) ⟨_, _, z1, br_t ((nI_leI (by omega) (by omega)).mpr q1) hx⟩⟩)⟩)
            · rw [if_neg (fun z => q1 z.1)] at hx
              exact g_207_26 (br_t lt ⟨_, _, y1, _, _, y2, br_t (by rw [lg]; decide) (br_t lg ⟨_, _, z1, _, _, z2, br_t ((nI_ltI (by omega) (by omega)).mpr q4) ⟨_, _, z1, br_f (by rw [nI_leI (by omega) (by omega)]; exact q1) hx⟩⟩)⟩)
          · rw [if_neg (fun z => z.2.elim q2 (fun y => q4 y.2))] at hx
            exact g_207_26 (br_t lt ⟨_, _, y1, _, _, y2, br_t (by rw [lg]; decide) (br_t lg ⟨_, _, z1, _, _, z2, br_f (by rw [nI_ltI (by omega) (by omega)]; exact q4) hx⟩)⟩)
        · rw [if_neg q3] at lg
          rw [if_neg (fun z => z.2.elim q2 (fun y => q3 y.1))] at hx
          exact g_207_26 (br_t lt ⟨_, _, y1, _, _, y2, br_t (by rw [lg]; decide) (br_f (by rw [lg]; decide) hx)⟩)
    · intro _
      refine g_207_26 (br_f (by decide) ⟨fun q => ⟨?_, rfl⟩, fun q => ⟨_, _, m206 _ bl64, ?_, rfl⟩⟩)
      · rw [hr0 q]
      · rw [hr1 (by grind)]
  rcases h2 with rfl | rfl
  · exact ⟨_, σ, σ, (g_112_0 (br_f (by (try simp only [bI_0, vp_6, vp_9, vp_10, vp_12, vp_18, vp_30, vp_31, vp_50, vp_60, vp_144, vp_154, vp_180, vp_432, vp_3600]) <;> grind) (br_t (by (try simp only [bI_0, vp_6, vp_9, vp_10, vp_12, vp_18, vp_30, vp_31, vp_50, vp_60, vp_144, vp_154, vp_180, vp_432, vp_3600]) <;> grind) (br_t (by (try simp only [bI_0, vp_6, vp_9, vp_10, vp_12, vp_18, vp_30, vp_31, vp_50, vp_60, vp_144, vp_154, vp_180, vp_432, vp_3600]) <;> grind) ⟨_, _, x, ⟨rfl, rfl⟩⟩)))), (g_207_0 ⟨_, _, s_120, (br_f (by (try simp only [bI_0, vp_6, vp_9, vp_10, vp_12, vp_18, vp_30, vp_31, vp_50, vp_60, vp_144, vp_154, vp_180, vp_432, vp_3600]) <;> grind) ⟨_, _, s_126, (br_f (by (try simp only [bI_0, vp_6, vp_9, vp_10, vp_12, vp_18, vp_30, vp_31, vp_50, vp_60, vp_144, vp_154, vp_180, vp_432, vp_3600]) <;> grind) (loop _ (fun _ => rfl) (fun h => absurd h (by decide))))⟩)⟩), hR⟩
  · exact ⟨_, σ, σ, (g_112_0 (br_f (by (try simp only [bI_0, vp_6, vp_9, vp_10, vp_12, vp_18, vp_30, vp_31, vp_50, vp_60, vp_144, vp_154, vp_180, vp_432, vp_3600]) <;> grind) (br_t (by (try simp only [bI_0, vp_6, vp_9, vp_10, vp_12, vp_18, vp_30, vp_31, vp_50, vp_60, vp_144, vp_154, vp_180, vp_432, vp_3600]) <;> grind) (br_f (by (try simp only [bI_0, vp_6, vp_9, vp_10, vp_12, vp_18, vp_30, vp_31, vp_50, vp_60, vp_144, vp_154, vp_180, vp_432, vp_3600]) <;> grind) (br_t (by (try simp only [bI_0, vp_6, vp_9, vp_10, vp_12, vp_18, vp_30, vp_31, vp_50, vp_60, vp_144, vp_154, vp_180, vp_432, vp_3600]) <;> grind) ⟨_, _, x, ⟨_, _, (s_54 bl64 hc), ⟨rfl, rfl⟩⟩⟩))))), (g_207_0 ⟨_, _, s_120, (br_f (by (try simp only [bI_0, vp_6, vp_9, vp_10, vp_12, vp_18, vp_30, vp_31, vp_50, vp_60, vp_144, vp_154, vp_180, vp_432, vp_3600]) <;> grind) ⟨_, _, s_126, (br_f (by (try simp only [bI_0, vp_6, vp_9, vp_10, vp_12, vp_18, vp_30, vp_31, vp_50, vp_60, vp_144, vp_154, vp_180, vp_432, vp_3600]) <;> grind) (loop _ (fun h => absurd h (by decide)) (fun _ => rfl)))⟩)⟩), hR⟩
