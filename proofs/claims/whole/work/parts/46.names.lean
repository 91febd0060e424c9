/-! counting bits -/
def sr (x k : Int32) : Int32 := (x.toUInt32 >>> (k.toUInt32 &&& Int32.toUInt32 31)).toInt32
def bc1 (x : Int32) : Int32 := x - (sr x 1 &&& 1431655765)
def bc2 (y : Int32) : Int32 := (y &&& 858993459) + (sr y 2 &&& 858993459)
def bc3 (y : Int32) : Int32 := (y + sr y 4) &&& 252645135
def bc4 (y : Int32) : Int32 := y + sr y 8
def bc5 (y : Int32) : Int32 := y + sr y 16
def bcI (x : Int32) : Int32 := bc5 (bc4 (bc3 (bc2 (bc1 x)))) &&& 63
theorem s_209 {σ : St} {x : Int32} : Ret 209 [.int x] σ [.int (bcI x)] σ := g_209_0 ⟨rfl, rfl⟩
def pcN (K : Nat) : Nat → Nat
  | 0 => 0
  | i + 1 => pcN K i + K / 2 ^ i % 2
theorem bc_pc : ∀ K, K < 1024 → bcI (nI K) = nI (pcN K 12) := by decide +kernel
theorem pc_le {K : Nat} : ∀ i, pcN K i ≤ i
  | 0 => Nat.le_refl 0
  | i + 1 => by
    have := pc_le (K := K) i
    unfold pcN
    omega
theorem s_181 {σ : St} {K : Nat} (hK : K < 2 ^ 31) : Ret 181 [.int (nI K)] σ [.int (nI (pcN K 12))] σ := by
  refine g_181_0 ?_
  refine loopN 12 (fun i => Go 181 4 [.int (nI K), .int (nI (pcN K i)), .int (nI i)] [] σ [.int (nI (pcN K 12))] σ) ?_ ?_ 0 (by omega)
  · intro i hi hx
    rw [← nI_S, pcN, ← nI_add] at hx
    refine g_181_4 (br_t ((nI_ltL (n := 12) rfl (by omega) (by decide)).mpr hi) ?_)
    rw [nI_bit hK (by omega)]
    exact hx
  · exact g_181_4 (br_f (by decide) ⟨rfl, rfl⟩)
/-! sets of days of a name, of names of a day -/
def bN (r s : Nat → Int32) (v : Int32) : Nat → Nat
  | 0 => 0
  | i + 1 => if r i = v ∧ ¬ s i = -1 then bN r s v i ||| 2 ^ (s i).toNatClampNeg else bN r s v i
theorem bN_lt {r s : Nat → Int32} {v : Int32} {N : Nat} : ∀ {k : Nat}, (∀ i, i < k → s i = -1 ∨ ∃ d, d < N ∧ s i = nI d) → N < 31 → bN r s v k < 2 ^ N
  | 0, _, _ => Nat.pow_pos (by decide)
  | k + 1, h, hN => by
    have ih := bN_lt (r := r) (v := v) (k := k) (fun i hi => h i (by omega)) hN
    unfold bN
    split
    · rename_i q
      rcases h k (by omega) with z | ⟨d, hd, e⟩
      · exact absurd z q.2
      · rw [e, clN (by omega)]
        exact or_lt ih hd
    · exact ih
theorem bN_bit {r s : Nat → Int32} {v : Int32} {N d : Nat} (hd : d < N) : ∀ {k : Nat}, (∀ i, i < k → s i = -1 ∨ ∃ d, d < N ∧ s i = nI d) → N < 31 → ((bN r s v k).testBit d = true ↔ ∃ i, i < k ∧ r i = v ∧ s i = nI d)
  | 0, _, _ => by simp [bN]
  | k + 1, h, hN => by
    have ih := bN_bit (r := r) (v := v) hd (k := k) (fun i hi => h i (by omega)) hN
    unfold bN
    by_cases q : r k = v ∧ ¬ s k = -1
    · rw [if_pos q]
      rcases h k (by omega) with z | ⟨e, he, ee⟩
      · exact absurd z q.2
      · rw [ee, clN (by omega), tb_or, Bool.or_eq_true, ih, decide_eq_true_iff]
        constructor
        · rintro (⟨i, h1, h2⟩ | rfl)
          · exact ⟨i, by omega, h2⟩
          · exact ⟨k, by omega, q.1, ee⟩
        · rintro ⟨i, h1, h2, h3⟩
          by_cases hik : i = k
          · subst hik
            exact Or.inr ((nI_eq (by omega) (by omega)).mp (by rw [← ee, h3]))
          · exact Or.inl ⟨i, by omega, h2, h3⟩
    · rw [if_neg q, ih]
      constructor
      · rintro ⟨i, h1, h2⟩
        exact ⟨i, by omega, h2⟩
      · rintro ⟨i, h1, h2, h3⟩
        by_cases hik : i = k
        · subst hik
          exact absurd ⟨h2, by rw [h3]; exact neg1_nI (by omega)⟩ q
        · exact ⟨i, by omega, h2, h3⟩
theorem rT_day {σ : St} (hR : Rel σ) : ∀ i, i < 144 → σ.1 47 i = -1 ∨ ∃ d, d < 10 ∧ σ.1 47 i = nI d := by
  obtain ⟨hS, hG, hH, hL, hP, hM, hA, hT, hD, hF, hU⟩ := hR
  intro i hi
  rcases (hT i hi).1 with q | ⟨d, hd, q1, _⟩
  · exact Or.inl q.1
  · exact Or.inr ⟨d, hd, q1⟩
theorem rT_nam {σ : St} (hR : Rel σ) : ∀ i, i < 144 → σ.1 49 i = -1 ∨ ∃ d, d < 8 ∧ σ.1 49 i = nI d := by
  obtain ⟨hS, hG, hH, hL, hP, hM, hA, hT, hD, hF, hU⟩ := hR
  intro i hi
  rcases (hT i hi).2.2 with q | ⟨d, hd, q1, _⟩
  · exact Or.inl q.1
  · exact Or.inr ⟨d, hd, q1⟩
theorem s_67 {σ : St} {v : Int32} (hR : Rel σ) : Ret 67 [.ref 9, .int v] σ [.int (nI (bN (σ.1 49) (σ.1 47) v 144))] σ := by
  refine g_67_0 ?_
  refine loopN 144 (fun i => Go 67 4 [.ref 9, .int v, .int (nI (bN (σ.1 49) (σ.1 47) v i)), .int (nI i)] [] σ [.int (nI (bN (σ.1 49) (σ.1 47) v 144))] σ) ?_ ?_ 0 (by omega)
  · intro i hi hx
    have ei : (nI i).toNatClampNeg = i := clN (by omega)
    have lt : nI i < 144 := (nI_ltL (n := 144) rfl (by omega) (by decide)).mpr hi
    have gi : vp_in (nI i) 144 := vp_in_nI hi (by decide)
    rw [← nI_S, bN] at hx
    by_cases q1 : σ.1 49 i = v
    · by_cases q2 : σ.1 47 i = -1
      · rw [if_neg (fun z => z.2 q2)] at hx
        exact g_67_4 (br_t lt ⟨gi, br_t (by rw [ei]; exact q1) (br_t (by rw [ei]; exact q2) hx)⟩)
      · rw [if_pos ⟨q1, q2⟩] at hx
        rcases rT_day hR i hi with z | ⟨d, hd, e⟩
        · exact absurd z q2
        · refine g_67_4 (br_t lt ⟨gi, br_t (by rw [ei]; exact q1) (br_f (by rw [ei]; exact q2) ?_)⟩)
          rw [e, clN (by omega)] at hx
          rw [ei, e, nI_shl1 d (by omega), nI_or]
          exact hx
    · rw [if_neg (fun z => q1 z.1)] at hx
      exact g_67_4 (br_t lt ⟨gi, br_f (by rw [ei]; exact q1) hx⟩)
  · exact g_67_4 (br_f (by decide) ⟨rfl, rfl⟩)
theorem s_68 {σ : St} {v : Int32} (hR : Rel σ) : Ret 68 [.ref 9, .int v] σ [.int (nI (bN (σ.1 47) (σ.1 49) v 144))] σ := by
  refine g_68_0 ?_
  refine loopN 144 (fun i => Go 68 4 [.ref 9, .int v, .int (nI (bN (σ.1 47) (σ.1 49) v i)), .int (nI i)] [] σ [.int (nI (bN (σ.1 47) (σ.1 49) v 144))] σ) ?_ ?_ 0 (by omega)
  · intro i hi hx
    have ei : (nI i).toNatClampNeg = i := clN (by omega)
    have lt : nI i < 144 := (nI_ltL (n := 144) rfl (by omega) (by decide)).mpr hi
    have gi : vp_in (nI i) 144 := vp_in_nI hi (by decide)
    rw [← nI_S, bN] at hx
    by_cases q1 : σ.1 47 i = v
    · by_cases q2 : σ.1 49 i = -1
      · rw [if_neg (fun z => z.2 q2)] at hx
        exact g_68_4 (br_t lt ⟨gi, br_t (by rw [ei]; exact q1) (br_t (by rw [ei]; exact q2) hx)⟩)
      · rw [if_pos ⟨q1, q2⟩] at hx
        rcases rT_nam hR i hi with z | ⟨d, hd, e⟩
        · exact absurd z q2
        · refine g_68_4 (br_t lt ⟨gi, br_t (by rw [ei]; exact q1) (br_f (by rw [ei]; exact q2) ?_)⟩)
          rw [e, clN (by omega)] at hx
          rw [ei, e, nI_shl1 d (by omega), nI_or]
          exact hx
    · rw [if_neg (fun z => q1 z.1)] at hx
      exact g_68_4 (br_t lt ⟨gi, br_f (by rw [ei]; exact q1) hx⟩)
  · exact g_68_4 (br_f (by decide) ⟨rfl, rfl⟩)
theorem or_0 (x : Int32) : x ||| 0 = x := by simp
theorem p_called {σ : St} {a : Int32} (hR : Rel σ) : PairI 106 198 [.int a] σ := by
  obtain ⟨hS, hG, hH, hL, hP, hM, hA, hT, hD, hF, hU⟩ := id hR
  rcases (Classical.em (0 ≤ a ∧ a < 10)).symm with h1 | h1
  · exact ⟨-1, σ, σ, (g_106_0 ⟨_, _, s_114, (br_t (by (try simp only [bI_0, vp_6, vp_9, vp_10, vp_12, vp_18, vp_30, vp_31, vp_50, vp_60, vp_144, vp_154, vp_180, vp_432, vp_3600]) <;> grind) ⟨rfl, rfl⟩)⟩), (g_198_0 ⟨_, _, s_125, (br_t (by (try simp only [bI_0, vp_6, vp_9, vp_10, vp_12, vp_18, vp_30, vp_31, vp_50, vp_60, vp_144, vp_154, vp_180, vp_432, vp_3600]) <;> grind) ⟨rfl, rfl⟩)⟩), hR⟩
  obtain ⟨d, hd, rfl⟩ := inR (x := a) (m := 10) (n := 10) rfl (by decide) h1.1 h1.2
  have lt8 : bN (σ.1 47) (σ.1 49) (nI d) 144 < 2 ^ 8 := bN_lt (rT_nam hR) (by decide)
  have b209 : Ret 209 [.int (nI (bN (σ.1 47) (σ.1 49) (nI d) 144))] σ [.int (nI (pcN (bN (σ.1 47) (σ.1 49) (nI d) 144) 12))] σ := by
    rw [← bc_pc _ (by omega)]
    exact s_209
  refine ⟨_, σ, σ, (g_106_0 ⟨_, _, s_114, (br_f (by (try simp only [bI_0, vp_6, vp_9, vp_10, vp_12, vp_18, vp_30, vp_31, vp_50, vp_60, vp_144, vp_154, vp_180, vp_432, vp_3600]) <;> grind) ⟨_, _, (s_68 hR), ⟨_, _, b209, ⟨rfl, rfl⟩⟩⟩)⟩), (g_198_0 ⟨_, _, s_125, (br_f (by (try simp only [bI_0, vp_6, vp_9, vp_10, vp_12, vp_18, vp_30, vp_31, vp_50, vp_60, vp_144, vp_154, vp_180, vp_432, vp_3600]) <;> grind) ?_)⟩), hR⟩
  refine loopN 144 (fun i => Go 198 13 [.ref 11, .int (nI d), .int (nI (bN (σ.1 47) (σ.1 49) (nI d) i)), .int (nI i)] [] σ [.int (nI (pcN (bN (σ.1 47) (σ.1 49) (nI d) 144) 12))] σ) ?_ ?_ 0 (by omega)
  · intro i hi hx
    have ei : (nI i).toNatClampNeg = i := clN (by omega)
    have lt : nI i < 144 := (nI_ltL (n := 144) rfl (by omega) (by decide)).mpr hi
    have gi : vp_in (nI i) 144 := vp_in_nI hi (by decide)
    rw [← nI_S, bN] at hx
    by_cases q1 : σ.1 47 i = nI d
    · have q1' : σ.1 74 i = nI d := by
        rcases (hT i hi).1 with z | ⟨e, he, z1, z2, _⟩
        · exact absurd (z.1.symm.trans q1) (fun w => neg1_nI (d := d) (by omega) w.symm)
        · rw [z2, ← z1, q1]
      rcases (hT i hi).2.2 with z | ⟨e, he, z1, z2⟩
      · rw [if_neg (fun w => w.2 z.1)] at hx
        exact g_198_13 (br_t lt ⟨gi, br_t (by rw [ei]; exact q1') (br_t (by rw [ei, z.2]; decide) (by rw [or_0]; exact hx))⟩)
      · rw [if_pos ⟨q1, by rw [z1]; exact neg1_nI (by omega)⟩, z1, clN (by omega)] at hx
        refine g_198_13 (br_t lt ⟨gi, br_t (by rw [ei]; exact q1') (br_f (by rw [ei, z2]; exact nI_pos (by omega)) ?_)⟩)
        rw [ei, z2, nI_shl1 e (by omega), nI_or]
        exact hx
    · have q1' : ¬ σ.1 74 i = nI d := by
        rcases (hT i hi).1 with z | ⟨e, he, z1, z2, _⟩
        · rw [z.2]; intro w; have := nI0 (k := d) (by omega); rw [← w] at this; exact absurd this (by decide)
        · rw [z2, ← z1]; exact q1
      rw [if_neg (fun w => q1 w.1)] at hx
      exact g_198_13 (br_t lt ⟨gi, br_f (by rw [ei]; exact q1') (by rw [or_0]; exact hx)⟩)
  · exact g_198_13 (br_f (by decide) ⟨_, _, s_181 (by omega), rfl, rfl⟩)
