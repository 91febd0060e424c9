/-! several -/
def twoB (K : Nat) : Bool := (List.range 10).any fun d => (List.range 10).any fun e => decide (d ≠ e) && (K.testBit d && K.testBit e)
theorem two_dec : ∀ K, K < 1024 → decide (¬ pcN K 12 ≤ 1) = twoB K := by decide +kernel
theorem two_bits {K : Nat} (hK : K < 1024) : ¬ pcN K 12 ≤ 1 ↔ ∃ d e, d < 10 ∧ e < 10 ∧ d ≠ e ∧ K.testBit d = true ∧ K.testBit e = true := by
  have h := two_dec K hK
  rw [← decide_eq_true_iff (p := ¬ pcN K 12 ≤ 1), h]
  unfold twoB
  simp only [List.any_eq_true, List.mem_range, Bool.and_eq_true, decide_eq_true_iff]
  constructor
  · rintro ⟨d, h1, e, h2, h3, h4, h5⟩
    exact ⟨d, e, h1, h2, h3, h4, h5⟩
  · rintro ⟨d, e, h1, h2, h3, h4, h5⟩
    exact ⟨d, h1, e, h2, h3, h4, h5⟩
def sB (σ : St) : Nat → Nat
  | 0 => 0
  | k + 1 => if ¬ pcN (bN (σ.1 49) (σ.1 47) (nI k) 144) 12 ≤ 1 then sB σ k ||| 2 ^ k else sB σ k
theorem sB_lt {σ : St} : ∀ k, k ≤ 8 → sB σ k < 2 ^ 8
  | 0, _ => show 0 < 2 ^ 8 by decide
  | k + 1, hk => by
    have ih := sB_lt (σ := σ) k (by omega)
    unfold sB
    split
    · exact or_lt ih (by omega)
    · exact ih
theorem sB_bit {σ : St} {m : Nat} : ∀ k, ((sB σ k).testBit m = true ↔ m < k ∧ ¬ pcN (bN (σ.1 49) (σ.1 47) (nI m) 144) 12 ≤ 1)
  | 0 => by simp [sB]
  | k + 1 => by
    have ih := sB_bit (σ := σ) (m := m) k
    unfold sB
    by_cases q : ¬ pcN (bN (σ.1 49) (σ.1 47) (nI k) 144) 12 ≤ 1
    · rw [if_pos q, tb_or, Bool.or_eq_true, ih, decide_eq_true_iff]
      constructor
      · rintro (⟨h1, h2⟩ | rfl)
        · exact ⟨by omega, h2⟩
        · exact ⟨by omega, q⟩
      · rintro ⟨h1, h2⟩
        by_cases e : k = m
        · exact Or.inr e
        · exact Or.inl ⟨by omega, h2⟩
    · rw [if_neg q, ih]
      constructor
      · rintro ⟨h1, h2⟩
        exact ⟨by omega, h2⟩
      · rintro ⟨h1, h2⟩
        by_cases e : k = m
        · subst e; exact absurd h2 q
        · exact ⟨by omega, h2⟩
def svC (r s : Nat → Int32) (a b : Nat) : Prop := ¬ r a < 0 ∧ r a = r b ∧ ¬ s a < 0 ∧ ¬ s b < 0 ∧ ¬ s a = s b
noncomputable def svI (r s : Nat → Int32) (a base : Nat) : Nat → Nat
  | 0 => base
  | b + 1 => @ite _ (svC r s a b) (Classical.propDecidable _) (svI r s a base b ||| 2 ^ (r a).toNatClampNeg) (svI r s a base b)
noncomputable def svN (r s : Nat → Int32) : Nat → Nat
  | 0 => 0
  | a + 1 => svI r s a (svN r s a) a
theorem svI_lt {r s : Nat → Int32} {a base : Nat} (h : r a = -6 ∨ ∃ d, d < 8 ∧ r a = nI d) (hb : base < 2 ^ 8) : ∀ b, svI r s a base b < 2 ^ 8
  | 0 => hb
  | b + 1 => by
    have ih := svI_lt (s := s) h hb b
    unfold svI
    split
    · rename_i q
      rcases h with z | ⟨d, hd, e⟩
      · exact absurd (show r a < 0 by rw [z]; decide) q.1
      · rw [e, clN (by omega)]
        exact or_lt ih hd
    · exact ih
theorem svN_lt {r s : Nat → Int32} : ∀ {k : Nat}, (∀ i, i < k → r i = -6 ∨ ∃ d, d < 8 ∧ r i = nI d) → svN r s k < 2 ^ 8
  | 0, _ => show 0 < 2 ^ 8 by decide
  | k + 1, h => svI_lt (h k (by omega)) (svN_lt (fun i hi => h i (by omega))) k
theorem svI_bit {r s : Nat → Int32} {a base m : Nat} (hm : m < 8) (h : r a = -6 ∨ ∃ d, d < 8 ∧ r a = nI d) : ∀ b, ((svI r s a base b).testBit m = true ↔ base.testBit m = true ∨ ∃ c, c < b ∧ svC r s a c ∧ r a = nI m)
  | 0 => by simp [svI]
  | b + 1 => by
    have ih := svI_bit (s := s) (base := base) hm h b
    unfold svI
    by_cases q : svC r s a b
    · rw [if_pos q]
      rcases h with z | ⟨d, hd, e⟩
      · exact absurd (show r a < 0 by rw [z]; decide) q.1
      · rw [e, clN (by omega), tb_or, Bool.or_eq_true, ih, decide_eq_true_iff]
        constructor
        · rintro ((h1 | ⟨c, h1, h2⟩) | rfl)
          · exact Or.inl h1
          · exact Or.inr ⟨c, by omega, h2.1, by rw [← e]; exact h2.2⟩
          · exact Or.inr ⟨b, by omega, q, rfl⟩
        · rintro (h1 | ⟨c, h1, h2, h3⟩)
          · exact Or.inl (Or.inl h1)
          · exact Or.inr ((nI_eq (by omega) (by omega)).mp h3)
    · rw [if_neg q, ih]
      constructor
      · rintro (h1 | ⟨c, h1, h2⟩)
        · exact Or.inl h1
        · exact Or.inr ⟨c, by omega, h2⟩
      · rintro (h1 | ⟨c, h1, h2, h3⟩)
        · exact Or.inl h1
        · by_cases e : c = b
          · subst e; exact absurd h2 q
          · exact Or.inr ⟨c, by omega, h2, h3⟩
theorem svN_bit {r s : Nat → Int32} {m : Nat} (hm : m < 8) : ∀ {k : Nat}, (∀ i, i < k → r i = -6 ∨ ∃ d, d < 8 ∧ r i = nI d) → ((svN r s k).testBit m = true ↔ ∃ a c, a < k ∧ c < a ∧ svC r s a c ∧ r a = nI m)
  | 0, _ => by simp [svN]
  | k + 1, h => by
    have ih := svN_bit (s := s) hm (k := k) (fun i hi => h i (by omega))
    have e : svN r s (k + 1) = svI r s k (svN r s k) k := rfl
    rw [e, svI_bit hm (h k (by omega)), ih]
    constructor
    · rintro (⟨a, c, h1, h2⟩ | ⟨c, h1, h2⟩)
      · exact ⟨a, c, by omega, h2⟩
      · exact ⟨k, c, by omega, h1, h2⟩
    · rintro ⟨a, c, h1, h2, h3⟩
      by_cases q : a = k
      · subst q; exact Or.inr ⟨c, h2, h3⟩
      · exact Or.inl ⟨a, c, by omega, h2, h3⟩
theorem several_eq {σ : St} (hR : Rel σ) : sB σ 8 = svN (σ.1 76) (σ.1 74) 144 := by
  obtain ⟨hS, hG, hH, hL, hP, hM, hA, hT, hD, hF, hU⟩ := id hR
  have hn : ∀ i, i < 144 → σ.1 76 i = -6 ∨ ∃ d, d < 8 ∧ σ.1 76 i = nI d := fun i hi => by
    rcases (hT i hi).2.2 with q | ⟨d, hd, _, q2⟩
    · exact Or.inl q.2
    · exact Or.inr ⟨d, hd, q2⟩
  have nm : ∀ i, i < 144 → ∀ m, m < 8 → (σ.1 49 i = nI m ↔ σ.1 76 i = nI m) := fun i hi m hm => by
    rcases (hT i hi).2.2 with q | ⟨d, hd, q1, q2⟩
    · rw [q.1, q.2]
      constructor
      · intro h; exact absurd h.symm (neg1_nI (by omega))
      · intro h; have := nI0 (k := m) (by omega); rw [← h] at this; exact absurd this (by decide)
    · rw [q1, q2]
  apply Nat.eq_of_testBit_eq
  intro m
  rcases (Classical.em (m < 8)).symm with hm | hm
  · rw [Nat.testBit_lt_two_pow (Nat.lt_of_lt_of_le (sB_lt 8 (by decide)) (Nat.pow_le_pow_right (by decide) (by omega))), Nat.testBit_lt_two_pow (Nat.lt_of_lt_of_le (svN_lt hn) (Nat.pow_le_pow_right (by decide) (by omega)))]
  rw [Bool.eq_iff_iff, sB_bit, svN_bit hm hn]
  have hK : bN (σ.1 49) (σ.1 47) (nI m) 144 < 1024 := bN_lt (N := 10) (rT_day hR) (by decide)
  rw [two_bits hK]
  constructor
  · rintro ⟨_, d, e, hd, he, hne, b1, b2⟩
    obtain ⟨i, hi, i1, i2⟩ := (bN_bit hd (rT_day hR) (by decide)).mp b1
    obtain ⟨j, hj, j1, j2⟩ := (bN_bit he (rT_day hR) (by decide)).mp b2
    have dn : ¬ (nI d : Int32) = nI e := nI_ne (by omega) (by omega) hne
    have ti : σ.1 74 i = nI d := by
      rcases (hT i hi).1 with z | ⟨_, _, z1, z2, _⟩
      · exact absurd (i2.symm.trans z.1) (neg1_nI (by omega))
      · rw [z2, ← z1, i2]
    have tj : σ.1 74 j = nI e := by
      rcases (hT j hj).1 with z | ⟨_, _, z1, z2, _⟩
      · exact absurd (j2.symm.trans z.1) (neg1_nI (by omega))
      · rw [z2, ← z1, j2]
    have ni := (nm i hi m hm).mp i1
    have nj := (nm j hj m hm).mp j1
    have hij : i ≠ j := fun q => dn (by rw [← ti, ← tj, q])
    rcases Nat.lt_or_ge j i with q | q
    · exact ⟨i, j, hi, q, ⟨by rw [ni]; exact nI_pos (by omega), by rw [ni, nj], by rw [ti]; exact nI_pos (by omega), by rw [tj]; exact nI_pos (by omega), by rw [ti, tj]; exact dn⟩, ni⟩
    · exact ⟨j, i, hj, by omega, ⟨by rw [nj]; exact nI_pos (by omega), by rw [ni, nj], by rw [tj]; exact nI_pos (by omega), by rw [ti]; exact nI_pos (by omega), by rw [ti, tj]; exact fun z => dn z.symm⟩, nj⟩
  · rintro ⟨a, c, ha, hc, ⟨_, c2, c3, c4, c5⟩, hna⟩
    have dayOf : ∀ x, x < 144 → ¬ σ.1 74 x < 0 → ∃ d, d < 10 ∧ σ.1 74 x = nI d ∧ σ.1 47 x = nI d := fun x hx q => by
      rcases (hT x hx).1 with z | ⟨d, hd, z1, z2, _⟩
      · exact absurd (show σ.1 74 x < 0 by rw [z.2]; decide) q
      · exact ⟨d, hd, z2, z1⟩
    obtain ⟨d, hd, d1, d2⟩ := dayOf a ha c3
    obtain ⟨e, he, e1, e2⟩ := dayOf c (by omega) c4
    refine ⟨hm, d, e, hd, he, fun q => c5 (by rw [d1, e1, q]), ?_, ?_⟩
    · exact (bN_bit hd (rT_day hR) (by decide)).mpr ⟨a, ha, (nm a ha m hm).mpr hna, d2⟩
    · exact (bN_bit he (rT_day hR) (by decide)).mpr ⟨c, by omega, (nm c (by omega) m hm).mpr (by rw [← c2]; exact hna), e2⟩
theorem p_several {σ : St} (hR : Rel σ) : PairI 105 197 [] σ := by
  obtain ⟨hS, hG, hH, hL, hP, hM, hA, hT, hD, hF, hU⟩ := id hR
  refine ⟨nI (sB σ 8), σ, σ, g_105_0 ?_, g_197_0 ?_, hR⟩
  · refine loopN 8 (fun k => Go 105 4 [.ref 10, .int (nI (sB σ k)), .int (nI k)] [] σ [.int (nI (sB σ 8))] σ) ?_ ?_ 0 (by omega)
    · intro k hk hx
      have lt : nI k < 8 := (nI_ltL (n := 8) rfl (by omega) (by decide)).mpr hk
      have hK : bN (σ.1 49) (σ.1 47) (nI k) 144 < 1024 := bN_lt (N := 10) (rT_day hR) (by decide)
      have b209 : Ret 209 [.int (nI (bN (σ.1 49) (σ.1 47) (nI k) 144))] σ [.int (nI (pcN (bN (σ.1 49) (σ.1 47) (nI k) 144) 12))] σ := by
        rw [← bc_pc _ hK]
        exact s_209
      have pl := pc_le (K := bN (σ.1 49) (σ.1 47) (nI k) 144) 12
      rw [← nI_S, sB] at hx
      by_cases q : pcN (bN (σ.1 49) (σ.1 47) (nI k) 144) 12 ≤ 1
      · rw [if_neg (fun z => z q)] at hx
        exact g_105_4 (br_t lt ⟨_, _, s_67 hR, _, _, b209, br_t ((nI_leL (n := 1) rfl (by omega) (by decide)).mpr q) hx⟩)
      · rw [if_pos q, ← nI_or, ← nI_shl1 k (by omega)] at hx
        exact g_105_4 (br_t lt ⟨_, _, s_67 hR, _, _, b209, br_f (fun z => q ((nI_leL (n := 1) rfl (by omega) (by decide)).mp z)) hx⟩)
    · exact g_105_4 (br_f (by decide) ⟨rfl, rfl⟩)
  · rw [several_eq hR]
    refine loopN 144 (fun a => Go 197 4 [.ref 11, .int (nI (svN (σ.1 76) (σ.1 74) a)), .int (nI a), .null, .null] [] σ [.int (nI (svN (σ.1 76) (σ.1 74) 144))] σ) ?_ ?_ 0 (by omega)
    · intro a ha hx
      have ea : (nI a).toNatClampNeg = a := clN (by omega)
      have ga : vp_in (nI a) 144 := vp_in_nI ha (by decide)
      refine g_197_4 (br_t ((nI_ltL (n := 144) rfl (by omega) (by decide)).mpr ha) ?_)
      refine loopN a (fun b => Go 197 13 [.ref 11, .int (nI (svI (σ.1 76) (σ.1 74) a (svN (σ.1 76) (σ.1 74) a) b)), .int (nI a), .int (nI b), .null] [] σ [.int (nI (svN (σ.1 76) (σ.1 74) 144))] σ) ?_ ?_ 0 (by omega)
      · intro b hb hy
        have eb : (nI b).toNatClampNeg = b := clN (by omega)
        have gb : vp_in (nI b) 144 := vp_in_nI (by omega) (by decide)
        have lt : nI b < nI a := (nI_ltI (by omega) (by omega)).mpr hb
        rw [← nI_S, svI] at hy
        by_cases q : svC (σ.1 76) (σ.1 74) a b
        · rw [if_pos q] at hy
          obtain ⟨q1, q2, q3, q4, q5⟩ := q
          rcases (hT a ha).2.2 with z | ⟨d, hd, _, z2⟩
          · exact absurd (show σ.1 76 a < 0 by rw [z.2]; decide) q1
          · rw [z2, clN (by omega), ← nI_or, ← nI_shl1 d (by omega), ← z2] at hy
            exact g_197_13 (br_t lt ⟨ga, br_f (by rw [ea]; exact q1) ⟨gb, br_t (by rw [ea, eb]; exact q2) (br_f (by rw [ea]; exact q3) (br_f (by rw [eb]; exact q4) (br_f (by rw [ea, eb]; exact q5) (by rw [ea]; exact hy))))⟩⟩)
        · rw [if_neg q] at hy
          have hy' : Go 197 13 [.ref 11, .int (nI (svI (σ.1 76) (σ.1 74) a (svN (σ.1 76) (σ.1 74) a) b) ||| 0), .int (nI a), .int (nI b + 1), .null] [] σ [.int (nI (svN (σ.1 76) (σ.1 74) 144))] σ := by rw [or_0]; exact hy
          by_cases q1 : σ.1 76 a < 0
          · exact g_197_13 (br_t lt ⟨ga, br_t (by rw [ea]; exact q1) hy'⟩)
          rcases (Classical.em (σ.1 76 a = σ.1 76 b)).symm with q2 | q2
          · exact g_197_13 (br_t lt ⟨ga, br_f (by rw [ea]; exact q1) ⟨gb, br_f (by rw [ea, eb]; exact q2) hy'⟩⟩)
          by_cases q3 : σ.1 74 a < 0
          · exact g_197_13 (br_t lt ⟨ga, br_f (by rw [ea]; exact q1) ⟨gb, br_t (by rw [ea, eb]; exact q2) (br_t (by rw [ea]; exact q3) hy')⟩⟩)
          by_cases q4 : σ.1 74 b < 0
          · exact g_197_13 (br_t lt ⟨ga, br_f (by rw [ea]; exact q1) ⟨gb, br_t (by rw [ea, eb]; exact q2) (br_f (by rw [ea]; exact q3) (br_t (by rw [eb]; exact q4) hy'))⟩⟩)
          by_cases q5 : σ.1 74 a = σ.1 74 b
          · exact g_197_13 (br_t lt ⟨ga, br_f (by rw [ea]; exact q1) ⟨gb, br_t (by rw [ea, eb]; exact q2) (br_f (by rw [ea]; exact q3) (br_f (by rw [eb]; exact q4) (br_t (by rw [ea, eb]; exact q5) hy')))⟩⟩)
          · exact absurd ⟨q1, q2, q3, q4, q5⟩ q
      · refine g_197_13 (br_f Int32.lt_irrefl ?_)
        rw [nI_S]
        exact hx
    · exact g_197_4 (br_f (by decide) ⟨rfl, rfl⟩)
