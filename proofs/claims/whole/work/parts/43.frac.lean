/-! fractions -/
theorem lgc {b : Nat} (hb : b < 2 ^ 63) : lg_cmp (lN b) 0 = if b = 0 then 0 else 1 := by
  unfold lg_cmp
  have h0 : (0 : Int64) = lN 0 := rfl
  by_cases h : b = 0
  · subst h; decide
  · rw [if_neg h, if_pos]
    rw [h0]
    exact (pk_lLT (by decide) hb).mpr (by omega)
theorem lN_ne0 {b : Nat} (hb : b < 2 ^ 63) (h : b ≠ 0) : ¬ lN b = 0 := by
  rw [show (0 : Int64) = lN 0 from rfl, pk_lEQ hb (by decide)]
  exact h
theorem mod2 {a b : Nat} (hr : a % b ≠ 0) (hb : b ≠ 0) : 2 * (b % (a % b)) < b := by
  have h1 : a % b < b := Nat.mod_lt _ (by omega)
  have h2 : b % (a % b) < a % b := Nat.mod_lt _ (by omega)
  have h3 := Nat.div_add_mod b (a % b)
  have h4 : 1 ≤ b / (a % b) := (Nat.one_le_div_iff (by omega)).mpr (by omega)
  have h5 : a % b ≤ (a % b) * (b / (a % b)) := Nat.le_mul_of_pos_right _ h4
  omega
theorem gs_loop {σ : St} : ∀ (k a b t : Nat), b < 2 ^ k → k ≤ 62 → t + 2 * k + 2 < 1000 → a < 2 ^ 62 → Go 119 9 [.null, .null, .null, .null, .long (lN a), .null, .long (lN b), .null, .int (nI t), .null, .null] [] σ [.long (lN (Nat.gcd a b))] σ
  | 0, a, b, t, hb, hk, ht, ha => by
    have : b = 0 := by omega
    subst this
    rw [Nat.gcd_zero_right]
    exact g_119_9 (br_t ((nI_ltL (n := 1000) rfl (by omega) (by decide)).mpr (by omega)) (br_t (by rw [lgc (by decide)]; rfl) ⟨rfl, rfl⟩))
  | k + 1, a, b, t, hb, hk, ht, ha => by
    have hb62 : b < 2 ^ 62 := Nat.lt_of_lt_of_le hb (Nat.pow_le_pow_right (by decide) hk)
    have lt : nI t < 1000 := (nI_ltL (n := 1000) rfl (by omega) (by decide)).mpr (by omega)
    have lt1 : nI (t + 1) < 1000 := (nI_ltL (n := 1000) rfl (by omega) (by decide)).mpr (by omega)
    by_cases h0 : b = 0
    · subst h0
      rw [Nat.gcd_zero_right]
      exact g_119_9 (br_t lt (br_t (by rw [lgc (by decide)]; rfl) ⟨rfl, rfl⟩))
    have n0 : ¬ lN b = 0 := lN_ne0 (by omega) h0
    have c0 : ¬ lg_cmp (lN b) 0 = 0 := by rw [lgc (by omega), if_neg h0]; decide
    refine g_119_9 (br_t lt (br_f c0 ⟨n0, ?_⟩))
    rw [pk_lRem (by omega) (by omega) (by omega), nI_S]
    have hr : a % b < b := Nat.mod_lt _ (by omega)
    have eg : Nat.gcd a b = Nat.gcd b (a % b) := by rw [Nat.gcd_comm a b, Nat.gcd_rec b a, Nat.gcd_comm]
    rw [eg]
    by_cases h1 : a % b = 0
    · rw [h1, Nat.gcd_zero_right]
      exact g_119_9 (br_t lt1 (br_t (by rw [lgc (by decide)]; rfl) ⟨rfl, rfl⟩))
    have n1 : ¬ lN (a % b) = 0 := lN_ne0 (by omega) h1
    have c1 : ¬ lg_cmp (lN (a % b)) 0 = 0 := by rw [lgc (by omega), if_neg h1]; decide
    refine g_119_9 (br_t lt1 (br_f c1 ⟨n1, ?_⟩))
    rw [pk_lRem (by omega) (by omega) (by omega), nI_S]
    have eg2 : Nat.gcd b (a % b) = Nat.gcd (a % b) (b % (a % b)) := by rw [Nat.gcd_comm b (a % b), Nat.gcd_rec (a % b) b, Nat.gcd_comm]
    rw [eg2]
    have h2 := mod2 h1 h0
    exact gs_loop k (a % b) (b % (a % b)) (t + 1 + 1) (by rw [Nat.pow_succ] at hb; omega) (by omega) (by omega) (by omega)
theorem s_119 {σ : St} {p q : Nat} (hp : p < 2 ^ 62) (hq : q < 2 ^ 62) : Ret 119 [.long (lN p), .long (lN q)] σ [.long (lN (Nat.gcd p q))] σ := g_119_0 (gs_loop 62 p q 0 hq (by decide) (by decide) hp)
def frN (p q : Nat) (v : Int32) : Int64 := if p = 0 ∨ q = 0 then (if v = 0 then 0 else 1) else (if v = 0 then lN (p / Nat.gcd p q) else lN (q / Nat.gcd p q))
theorem s_118 {σ : St} {p q : Nat} {v : Int32} (hp : p < 2 ^ 62) (hq : q < 2 ^ 62) : Ret 118 [.long (lN p), .long (lN q), .int v] σ [.long (frN p q v)] σ := by
  unfold frN
  by_cases h1 : p = 0
  · have c : lg_cmp (lN p) 0 ≤ 0 := by rw [lgc (by omega), if_pos h1]; decide
    rw [if_pos (Or.inl h1)]
    refine g_118_0 (br_t c ⟨fun q1 => ?_, fun q1 => ?_⟩)
    · rw [if_pos q1]; exact ⟨rfl, rfl⟩
    · rw [if_neg q1]; exact ⟨rfl, rfl⟩
  have c : ¬ lg_cmp (lN p) 0 ≤ 0 := by rw [lgc (by omega), if_neg h1]; decide
  by_cases h2 : q = 0
  · have c2 : lg_cmp (lN q) 0 ≤ 0 := by rw [lgc (by omega), if_pos h2]; decide
    rw [if_pos (Or.inr h2)]
    refine g_118_0 (br_f c (br_t c2 ⟨fun q1 => ?_, fun q1 => ?_⟩))
    · rw [if_pos q1]; exact ⟨rfl, rfl⟩
    · rw [if_neg q1]; exact ⟨rfl, rfl⟩
  have c2 : ¬ lg_cmp (lN q) 0 ≤ 0 := by rw [lgc (by omega), if_neg h2]; decide
  have g0 : 0 < Nat.gcd p q := Nat.gcd_pos_of_pos_left _ (by omega)
  have gle : Nat.gcd p q ≤ p := Nat.gcd_le_left _ (by omega)
  have c3 : ¬ lg_cmp (lN (Nat.gcd p q)) 0 ≤ 0 := by rw [lgc (by omega), if_neg (by omega)]; decide
  have n3 : ¬ lN (Nat.gcd p q) = 0 := lN_ne0 (by omega) (by omega)
  rw [if_neg (fun z => z.elim h1 h2)]
  refine g_118_0 (br_f c (br_f c2 ⟨_, _, s_119 hp hq, br_f c3 ⟨fun q1 => ⟨n3, ?_⟩, fun q1 => ⟨n3, ?_⟩⟩⟩))
  · rw [if_pos q1, pk_lDiv (by omega) g0 (by omega)]; exact ⟨rfl, rfl⟩
  · rw [if_neg q1, pk_lDiv (by omega) g0 (by omega)]; exact ⟨rfl, rfl⟩
theorem tm_loop {σ : St} {p q : Nat} {v : Int32} {x : Int64} (hp : p < 2 ^ 62) (hq : q < 2 ^ 62) (h0 : 0 < Nat.gcd p q) (hx : x = if v = 0 then lN (p / Nat.gcd p q) else lN (q / Nat.gcd p q)) : ∀ (k a b : Nat), b ≤ k → a < 2 ^ 62 → b < 2 ^ 62 → Nat.gcd a b = Nat.gcd p q → Go 171 16 [.long (lN p), .null, .long (lN q), .null, .int v, .long (lN a), .null, .long (lN b), .null, .null, .null] [] σ [.long x] σ := by
  intro k
  induction k with
  | zero =>
    intro a b hb ha hb2 eg
    have : b = 0 := by omega
    subst this
    rw [Nat.gcd_zero_right] at eg
    subst eg
    have n3 : ¬ lN (Nat.gcd p q) = 0 := lN_ne0 (by omega) (by omega)
    refine g_171_16 (br_t (by rw [lgc (by decide)]; rfl) ⟨fun q1 => ⟨n3, ?_⟩, fun q1 => ⟨n3, ?_⟩⟩)
    · rw [hx, if_pos q1, pk_lDiv (by omega) h0 (by omega)]; exact ⟨rfl, rfl⟩
    · rw [hx, if_neg q1, pk_lDiv (by omega) h0 (by omega)]; exact ⟨rfl, rfl⟩
  | succ k ih =>
    intro a b hb ha hb2 eg
    by_cases hb0 : b = 0
    · exact ih a b (by omega) ha hb2 eg
    · have n0 : ¬ lN b = 0 := lN_ne0 (by omega) hb0
      have c0 : ¬ lg_cmp (lN b) 0 = 0 := by rw [lgc (by omega), if_neg hb0]; decide
      have hr : a % b < b := Nat.mod_lt _ (by omega)
      refine g_171_16 (br_f c0 ⟨n0, ?_⟩)
      rw [pk_lRem (by omega) (by omega) (by omega)]
      exact ih b (a % b) (by omega) hb2 (by omega) (by rw [← eg, Nat.gcd_comm a b, Nat.gcd_rec b a, Nat.gcd_comm])
theorem s_171 {σ : St} {p q : Nat} {v : Int32} (hv : v = 0 ∨ v = 1) (hp : p < 2 ^ 62) (hq : q < 2 ^ 62) (hpq : q = 0 → p = 0) : Ret 171 [.long (lN p), .long (lN q), .int v] σ [.long (frN p q v)] σ := by
  by_cases h2 : q = 0
  · have c2 : lg_cmp (lN q) 0 = 0 := by rw [lgc (by omega), if_pos h2]
    unfold frN
    rw [if_pos (Or.inr h2)]
    refine g_171_0 (br_t c2 ⟨?_, rfl⟩)
    rcases hv with rfl | rfl <;> rfl
  have c2 : ¬ lg_cmp (lN q) 0 = 0 := by rw [lgc (by omega), if_neg h2]; decide
  have g0 : 0 < Nat.gcd p q := Nat.gcd_pos_of_pos_right _ (by omega)
  refine g_171_0 (br_f c2 (tm_loop hp hq g0 ?_ q p q (Nat.le_refl _) hp hq rfl))
  unfold frN
  by_cases h1 : p = 0
  · subst h1
    rw [if_pos (Or.inl rfl), Nat.gcd_zero_left, Nat.div_self (by omega), Nat.zero_div]
    rfl
  · rw [if_neg (fun z => z.elim h1 h2)]
/-! worth -/
def fdN (f : Nat → Int32) (j : Nat) : Nat := (f j).toNatClampNeg
def msN (f : Nat → Int32) (K d : Nat) : Nat → Nat
  | 0 => 1
  | c + 1 => msN f K d c * (if K.testBit c then 10 - fdN f (10 * c + d) else 10)
def woN (f : Nat → Int32) (K : Nat) : Nat → Nat
  | 0 => 0
  | d + 1 => woN f K d + (1000000 - msN f K d 6)
theorem msN_le {f : Nat → Int32} {K d : Nat} : ∀ c, msN f K d c ≤ 10 ^ c
  | 0 => Nat.le_refl 1
  | c + 1 => by
    have := msN_le (f := f) (K := K) (d := d) c
    unfold msN
    rw [Nat.pow_succ]
    refine Nat.mul_le_mul this ?_
    split <;> omega
theorem woN_le {f : Nat → Int32} {K : Nat} : ∀ d, woN f K d ≤ d * 1000000
  | 0 => by simp [woN]
  | d + 1 => by
    have := woN_le (f := f) (K := K) d
    unfold woN
    omega
theorem msN_congr {f g : Nat → Int32} {K d : Nat} (hd : d < 10) (h : ∀ j, j < 60 → f j = g j) : ∀ c, c ≤ 6 → msN f K d c = msN g K d c
  | 0, _ => rfl
  | c + 1, hc => by
    unfold msN fdN
    rw [msN_congr hd h c (by omega), h (10 * c + d) (by omega)]
theorem woN_congr {f g : Nat → Int32} {K : Nat} (h : ∀ j, j < 60 → f j = g j) : ∀ d, d ≤ 10 → woN f K d = woN g K d
  | 0, _ => rfl
  | d + 1, hd => by
    unfold woN
    rw [woN_congr h d (by omega), msN_congr (by omega) h 6 (by decide)]
theorem fd_nI {f : Nat → Int32} {j : Nat} (h : 0 ≤ f j ∧ f j ≤ 10) : f j = nI (fdN f j) ∧ fdN f j ≤ 10 := by
  obtain ⟨k, hk, e⟩ := inR (x := f j) (m := 11) (n := 11) rfl (by decide) h.1 (by grind)
  unfold fdN
  rw [e, clN (by omega)]
  exact ⟨rfl, by omega⟩
theorem s_53 {σ : St} {K : Nat} (hK : K < 64) (hf : ∀ j, j < 60 → 0 ≤ σ.1 43 j ∧ σ.1 43 j ≤ 10) : Ret 53 [.ref 7, .int (nI K)] σ [.int (nI (woN (σ.1 43) K 10))] σ := by
  refine g_53_0 ?_
  refine loopN 10 (fun d => Go 53 4 [.ref 7, .int (nI K), .int (nI (woN (σ.1 43) K d)), .int (nI d), .null, .null, .null] [] σ [.int (nI (woN (σ.1 43) K 10))] σ) ?_ ?_ 0 (by omega)
  · intro d hd hx
    refine g_53_4 (br_t ((nI_ltL (n := 10) rfl (by omega) (by decide)).mpr hd) ?_)
    refine loopN 6 (fun c => Go 53 16 [.ref 7, .int (nI K), .int (nI (woN (σ.1 43) K d)), .int (nI d), .int (nI (msN (σ.1 43) K d c)), .int (nI c), .null] [] σ [.int (nI (woN (σ.1 43) K 10))] σ) ?_ ?_ 0 (by omega)
    · intro c hc hy
      have lt : nI c < 6 := (nI_ltL (n := 6) rfl (by omega) (by decide)).mpr hc
      rw [← nI_S, msN] at hy
      by_cases hb : K.testBit c = true
      · rw [if_pos hb] at hy
        have e1 : nI c * 10 + nI d = nI (10 * c + d) := by rw [show (10 : Int32) = nI 10 from rfl, pk_mul, nI_add, Nat.mul_comm]
        have fd := fd_nI (hf (10 * c + d) (by omega))
        refine g_53_16 (br_t lt (br_f (by rw [bit_iff (by omega) (by omega), hb]; decide) ⟨by rw [e1]; exact vp_in_nI (by omega) (by decide), ?_⟩))
        rw [e1, clN (by omega), fd.1, show (10 : Int32) = nI 10 from rfl, pk_sub fd.2, pk_mul]
        exact hy
      · rw [if_neg hb] at hy
        refine g_53_16 (br_t lt (br_t ((bit_iff (by omega) (by omega)).mpr (by simpa using hb)) ?_))
        rw [show (10 : Int32) = nI 10 from rfl, pk_mul]
        exact hy
    · refine g_53_16 (br_f (by decide) ?_)
      have := msN_le (f := σ.1 43) (K := K) (d := d) 6
      rw [show (1000000 : Int32) = nI 1000000 from rfl, pk_sub (by omega), nI_add, nI_S]
      exact hx
  · exact g_53_4 (br_f (by decide) ⟨rfl, rfl⟩)
theorem s_204 {σ : St} {K : Nat} (hK : K < 64) (hf : ∀ j, j < 60 → 0 ≤ σ.1 79 j ∧ σ.1 79 j ≤ 10) : Ret 204 [.ref 11, .int (nI K)] σ [.long (lN (woN (σ.1 79) K 10))] σ := by
  refine g_204_0 ?_
  refine loopN 10 (fun d => Go 204 5 [.ref 11, .int (nI K), .long (lN (woN (σ.1 79) K d)), .null, .int (nI d), .null, .null, .null] [] σ [.long (lN (woN (σ.1 79) K 10))] σ) ?_ ?_ 0 (by omega)
  · intro d hd hx
    refine g_204_5 (br_t ((nI_ltL (n := 10) rfl (by omega) (by decide)).mpr hd) ?_)
    refine loopN 6 (fun c => Go 204 18 [.ref 11, .int (nI K), .long (lN (woN (σ.1 79) K d)), .null, .int (nI d), .long (lN (msN (σ.1 79) K d c)), .null, .int (nI c)] [] σ [.long (lN (woN (σ.1 79) K 10))] σ) ?_ ?_ 0 (by omega)
    · intro c hc hy
      have lt : nI c < 6 := (nI_ltL (n := 6) rfl (by omega) (by decide)).mpr hc
      rw [← nI_S, msN] at hy
      by_cases hb : K.testBit c = true
      · rw [if_pos hb] at hy
        have e1 : 10 * nI c + nI d = nI (10 * c + d) := by rw [show (10 : Int32) = nI 10 from rfl, pk_mul, nI_add]
        have fd := fd_nI (hf (10 * c + d) (by omega))
        refine g_204_18 (br_t lt (br_t ((bit_iff1 (by omega) (by omega)).mpr hb) ⟨by rw [e1]; exact vp_in_nI (by omega) (by decide), ?_⟩))
        rw [e1, clN (by omega), fd.1, nI_l (by omega), show (10 : Int64) = lN 10 from rfl, lN_sub fd.2, lN_mul]
        exact hy
      · rw [if_neg hb] at hy
        refine g_204_18 (br_t lt (br_f (by rw [bit_iff1 (by omega) (by omega)]; exact hb) ?_))
        rw [show (10 : Int64) = lN 10 from rfl, lN_mul]
        exact hy
    · refine g_204_18 (br_f (by decide) ?_)
      have := msN_le (f := σ.1 79) (K := K) (d := d) 6
      rw [show (1000000 : Int64) = lN 1000000 from rfl, lN_sub (by omega), lN_add, nI_S]
      exact hx
  · exact g_204_5 (br_f (by decide) ⟨rfl, rfl⟩)
theorem p_worth {σ : St} {a b : Int32} (hR : Rel σ) : PairJ 111 205 [.int a, .int b] σ := by
  obtain ⟨hS, hG, hH, hL, hP, hM, hA, hT, hD, hF, hU⟩ := id hR
  rcases (Classical.em (0 ≤ a ∧ a < 64)).symm with h1 | h1
  · exact ⟨-1000000000000000002, σ, σ, (g_111_0 ⟨_, _, s_114, (br_t (by (try simp only [bI_0, vp_6, vp_9, vp_10, vp_12, vp_18, vp_30, vp_31, vp_50, vp_60, vp_144, vp_154, vp_180, vp_432, vp_3600]) <;> grind) ⟨rfl, rfl⟩)⟩), (g_205_0 ⟨_, _, s_120, (br_t (by (try simp only [bI_0, vp_6, vp_9, vp_10, vp_12, vp_18, vp_30, vp_31, vp_50, vp_60, vp_144, vp_154, vp_180, vp_432, vp_3600]) <;> grind) ⟨rfl, rfl⟩)⟩), hR⟩
  rcases (Classical.em (0 ≤ b ∧ b < 2)).symm with h2 | h2
  · exact ⟨-1000000000000000002, σ, σ, (g_111_0 ⟨_, _, s_114, (br_f (by (try simp only [bI_0, vp_6, vp_9, vp_10, vp_12, vp_18, vp_30, vp_31, vp_50, vp_60, vp_144, vp_154, vp_180, vp_432, vp_3600]) <;> grind) ⟨_, _, s_114, (br_t (by (try simp only [bI_0, vp_6, vp_9, vp_10, vp_12, vp_18, vp_30, vp_31, vp_50, vp_60, vp_144, vp_154, vp_180, vp_432, vp_3600]) <;> grind) ⟨rfl, rfl⟩)⟩)⟩), (g_205_0 ⟨_, _, s_120, (br_f (by (try simp only [bI_0, vp_6, vp_9, vp_10, vp_12, vp_18, vp_30, vp_31, vp_50, vp_60, vp_144, vp_154, vp_180, vp_432, vp_3600]) <;> grind) ⟨_, _, s_126, (br_t (by (try simp only [bI_0, vp_6, vp_9, vp_10, vp_12, vp_18, vp_30, vp_31, vp_50, vp_60, vp_144, vp_154, vp_180, vp_432, vp_3600]) <;> grind) ⟨rfl, rfl⟩)⟩)⟩), hR⟩
  obtain ⟨K, hK, rfl⟩ := inR (x := a) (m := 64) (n := 64) rfl (by decide) h1.1 h1.2
  have x := s_53 (σ := σ) hK (fun j hj => (hF.1 j hj).2)
  have m := s_204 (σ := σ) hK (fun j hj => by rw [← (hF.1 j hj).1]; exact (hF.1 j hj).2)
  rw [← woN_congr (fun j hj => (hF.1 j hj).1) 10 (by decide)] at m
  have le := woN_le (f := σ.1 43) (K := K) 10
  have x2 : Ret 118 [.long (nI (woN (σ.1 43) K 10)).toInt64, .long 1000000, .int b] σ [.long (frN (woN (σ.1 43) K 10) 1000000 b)] σ := by
    rw [nI_l (by omega)]
    exact s_118 (q := 1000000) (by omega) (by decide)
  exact ⟨_, σ, σ, (g_111_0 ⟨_, _, s_114, (br_f (by (try simp only [bI_0, vp_6, vp_9, vp_10, vp_12, vp_18, vp_30, vp_31, vp_50, vp_60, vp_144, vp_154, vp_180, vp_432, vp_3600]) <;> grind) ⟨_, _, s_114, (br_f (by (try simp only [bI_0, vp_6, vp_9, vp_10, vp_12, vp_18, vp_30, vp_31, vp_50, vp_60, vp_144, vp_154, vp_180, vp_432, vp_3600]) <;> grind) ⟨_, _, x, ⟨_, _, x2, ⟨rfl, rfl⟩⟩⟩)⟩)⟩), (g_205_0 ⟨_, _, s_120, (br_f (by (try simp only [bI_0, vp_6, vp_9, vp_10, vp_12, vp_18, vp_30, vp_31, vp_50, vp_60, vp_144, vp_154, vp_180, vp_432, vp_3600]) <;> grind) ⟨_, _, s_126, (br_f (by (try simp only [bI_0, vp_6, vp_9, vp_10, vp_12, vp_18, vp_30, vp_31, vp_50, vp_60, vp_144, vp_154, vp_180, vp_432, vp_3600]) <;> grind) ⟨_, _, m, ⟨_, _, (s_171 (q := 1000000) (by grind) (by omega) (by decide) (by intro h; omega)), ⟨rfl, rfl⟩⟩⟩)⟩)⟩), hR⟩
