/-! PURE: small helps -/
def bI (p : Prop) [Decidable p] : Int32 := if p then 1 else 0
theorem bI_0 {p : Prop} [Decidable p] : bI p = 0 ↔ ¬ p := by unfold bI; split <;> simp_all
theorem bI_1 {p : Prop} [Decidable p] : bI p = 1 ↔ p := by unfold bI; split <;> simp_all
theorem bI_01 {p : Prop} [Decidable p] : bI p = 0 ∨ bI p = 1 := by unfold bI; split <;> simp
theorem bI_t {p : Prop} [Decidable p] (h : p) : bI p = 1 := bI_1.mpr h
theorem bI_f {p : Prop} [Decidable p] (h : ¬ p) : bI p = 0 := bI_0.mpr h
theorem vpI {x : Int32} {n : Nat} (hn : n < 2 ^ 31) (h0 : 0 ≤ x) (h1 : x < nI n) : vp_in x n := by
  rw [vp_in_iff]
  rw [Int32.le_iff_toInt_le] at h0
  rw [Int32.lt_iff_toInt_lt, nI_toInt hn] at h1
  exact ⟨h0, h1⟩
theorem clampI {x : Int32} {n : Nat} (hn : n < 2 ^ 31) (h0 : 0 ≤ x) (h1 : x < nI n) : x.toNatClampNeg < n := by
  have h := vpI hn h0 h1
  unfold vp_in at h
  omega
theorem nI_of_lt {x : Int32} {n : Nat} (hn : n < 2 ^ 31) (h0 : 0 ≤ x) (h1 : x < nI n) : ∃ k, k < n ∧ x = nI k := vp_in_of (vpI hn h0 h1) hn
theorem wr_get {σ : St} {c k c' k' : Nat} {v : Int32} : (wr σ c k v).1 c' k' = if c' = c ∧ k' = k then v else σ.1 c' k' := by
  unfold wr setR upd
  by_cases h : c' = c
  · subst h; by_cases h2 : k' = k <;> simp [h2]
  · simp [h]
theorem wr_row {σ : St} {c k c' : Nat} {v : Int32} (h : c' ≠ c) : (wr σ c k v).1 c' = σ.1 c' := by
  funext j; rw [wr_get]; simp [h]
theorem wr_2 {σ : St} {c k : Nat} {v : Int32} : (wr σ c k v).2 = σ.2 := rfl
theorem setR_get {σ : St} {c c' : Nat} {f : Nat → Int32} : (setR σ c f).1 c' = if c' = c then f else σ.1 c' := rfl
/-! the small questions about arguments -/
theorem s_114 {σ : St} {a b : Int32} : Ret 114 [.int a, .int b] σ [.int (bI (0 ≤ a ∧ a < b))] σ := by
  apply g_114_0; unfold bI; grind
theorem s_115 {σ : St} {a : Int32} : Ret 115 [.int a] σ [.int (bI (0 ≤ a ∧ a ≤ 99))] σ := by
  apply g_115_0; unfold bI; grind
theorem s_116 {σ : St} {a : Int32} : Ret 116 [.int a] σ [.int (if a = -1 then -6 else a)] σ := by
  apply g_116_0; grind
theorem s_120 {σ : St} {a b c : Int32} : Ret 120 [.int a, .int b, .int c] σ [.int (bI (b ≤ a ∧ a ≤ c))] σ := by
  apply g_120_0; unfold bI; grind
theorem s_121 {σ : St} {a : Int32} : Ret 121 [.int a] σ [.int (bI (0 ≤ a ∧ a ≤ 99))] σ := g_121_0 ⟨_, _, s_120, bI_01, rfl, rfl⟩
theorem s_122 {σ : St} {a : Int32} : Ret 122 [.int a] σ [.int (bI (0 ≤ a ∧ a ≤ 2))] σ := g_122_0 ⟨_, _, s_120, bI_01, rfl, rfl⟩
theorem s_123 {σ : St} {a : Int32} : Ret 123 [.int a] σ [.int (bI (0 ≤ a ∧ a ≤ 5))] σ := g_123_0 ⟨_, _, s_120, bI_01, rfl, rfl⟩
theorem s_124 {σ : St} {a : Int32} : Ret 124 [.int a] σ [.int (bI (0 ≤ a ∧ a ≤ 143))] σ := g_124_0 ⟨_, _, s_120, bI_01, rfl, rfl⟩
theorem s_125 {σ : St} {a : Int32} : Ret 125 [.int a] σ [.int (bI (0 ≤ a ∧ a ≤ 9))] σ := g_125_0 ⟨_, _, s_120, bI_01, rfl, rfl⟩
theorem s_126 {σ : St} {a : Int32} : Ret 126 [.int a] σ [.int (bI (0 ≤ a ∧ a ≤ 1))] σ := g_126_0 ⟨_, _, s_120, bI_01, rfl, rfl⟩
