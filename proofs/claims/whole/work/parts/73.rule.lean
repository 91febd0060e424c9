/-! the rule's text: where it is wrong -/
theorem s_46t {σ : St} {c : Int32} (h : isFactS c) : Ret 46 [.int c] σ [.int 1] σ := by
  rcases h with rfl | rfl | rfl | rfl | rfl
  · exact (g_46_0 (br_t (by (try simp only [bI_0, vp_6, vp_9, vp_10, vp_12, vp_18, vp_30, vp_31, vp_50, vp_60, vp_144, vp_154, vp_180, vp_432, vp_3600]) <;> grind) ⟨rfl, rfl⟩))
  · exact (g_46_0 (br_f (by (try simp only [bI_0, vp_6, vp_9, vp_10, vp_12, vp_18, vp_30, vp_31, vp_50, vp_60, vp_144, vp_154, vp_180, vp_432, vp_3600]) <;> grind) (br_t (by (try simp only [bI_0, vp_6, vp_9, vp_10, vp_12, vp_18, vp_30, vp_31, vp_50, vp_60, vp_144, vp_154, vp_180, vp_432, vp_3600]) <;> grind) ⟨rfl, rfl⟩)))
  · exact (g_46_0 (br_f (by (try simp only [bI_0, vp_6, vp_9, vp_10, vp_12, vp_18, vp_30, vp_31, vp_50, vp_60, vp_144, vp_154, vp_180, vp_432, vp_3600]) <;> grind) (br_f (by (try simp only [bI_0, vp_6, vp_9, vp_10, vp_12, vp_18, vp_30, vp_31, vp_50, vp_60, vp_144, vp_154, vp_180, vp_432, vp_3600]) <;> grind) (br_t (by (try simp only [bI_0, vp_6, vp_9, vp_10, vp_12, vp_18, vp_30, vp_31, vp_50, vp_60, vp_144, vp_154, vp_180, vp_432, vp_3600]) <;> grind) ⟨rfl, rfl⟩))))
  · exact (g_46_0 (br_f (by (try simp only [bI_0, vp_6, vp_9, vp_10, vp_12, vp_18, vp_30, vp_31, vp_50, vp_60, vp_144, vp_154, vp_180, vp_432, vp_3600]) <;> grind) (br_f (by (try simp only [bI_0, vp_6, vp_9, vp_10, vp_12, vp_18, vp_30, vp_31, vp_50, vp_60, vp_144, vp_154, vp_180, vp_432, vp_3600]) <;> grind) (br_f (by (try simp only [bI_0, vp_6, vp_9, vp_10, vp_12, vp_18, vp_30, vp_31, vp_50, vp_60, vp_144, vp_154, vp_180, vp_432, vp_3600]) <;> grind) (br_t (by (try simp only [bI_0, vp_6, vp_9, vp_10, vp_12, vp_18, vp_30, vp_31, vp_50, vp_60, vp_144, vp_154, vp_180, vp_432, vp_3600]) <;> grind) ⟨rfl, rfl⟩)))))
  · exact (g_46_0 (br_f (by (try simp only [bI_0, vp_6, vp_9, vp_10, vp_12, vp_18, vp_30, vp_31, vp_50, vp_60, vp_144, vp_154, vp_180, vp_432, vp_3600]) <;> grind) (br_f (by (try simp only [bI_0, vp_6, vp_9, vp_10, vp_12, vp_18, vp_30, vp_31, vp_50, vp_60, vp_144, vp_154, vp_180, vp_432, vp_3600]) <;> grind) (br_f (by (try simp only [bI_0, vp_6, vp_9, vp_10, vp_12, vp_18, vp_30, vp_31, vp_50, vp_60, vp_144, vp_154, vp_180, vp_432, vp_3600]) <;> grind) (br_f (by (try simp only [bI_0, vp_6, vp_9, vp_10, vp_12, vp_18, vp_30, vp_31, vp_50, vp_60, vp_144, vp_154, vp_180, vp_432, vp_3600]) <;> grind) (br_t (by (try simp only [bI_0, vp_6, vp_9, vp_10, vp_12, vp_18, vp_30, vp_31, vp_50, vp_60, vp_144, vp_154, vp_180, vp_432, vp_3600]) <;> grind) ⟨rfl, rfl⟩))))))
theorem s_46f {σ : St} {c : Int32} (h : ¬ isFactS c) : Ret 46 [.int c] σ [.int 0] σ := by
  unfold isFactS at h
  exact (g_46_0 (br_f (by (try simp only [bI_0, vp_6, vp_9, vp_10, vp_12, vp_18, vp_30, vp_31, vp_50, vp_60, vp_144, vp_154, vp_180, vp_432, vp_3600]) <;> grind) (br_f (by (try simp only [bI_0, vp_6, vp_9, vp_10, vp_12, vp_18, vp_30, vp_31, vp_50, vp_60, vp_144, vp_154, vp_180, vp_432, vp_3600]) <;> grind) (br_f (by (try simp only [bI_0, vp_6, vp_9, vp_10, vp_12, vp_18, vp_30, vp_31, vp_50, vp_60, vp_144, vp_154, vp_180, vp_432, vp_3600]) <;> grind) (br_f (by (try simp only [bI_0, vp_6, vp_9, vp_10, vp_12, vp_18, vp_30, vp_31, vp_50, vp_60, vp_144, vp_154, vp_180, vp_432, vp_3600]) <;> grind) (br_f (by (try simp only [bI_0, vp_6, vp_9, vp_10, vp_12, vp_18, vp_30, vp_31, vp_50, vp_60, vp_144, vp_154, vp_180, vp_432, vp_3600]) <;> grind) ⟨rfl, rfl⟩))))))
theorem s_47t {σ : St} {c : Int32} (h : isCmpS c) : Ret 47 [.int c] σ [.int 1] σ := by
  rcases h with rfl | rfl | rfl
  · exact (g_47_0 (br_t (by (try simp only [bI_0, vp_6, vp_9, vp_10, vp_12, vp_18, vp_30, vp_31, vp_50, vp_60, vp_144, vp_154, vp_180, vp_432, vp_3600]) <;> grind) ⟨rfl, rfl⟩))
  · exact (g_47_0 (br_f (by (try simp only [bI_0, vp_6, vp_9, vp_10, vp_12, vp_18, vp_30, vp_31, vp_50, vp_60, vp_144, vp_154, vp_180, vp_432, vp_3600]) <;> grind) (br_t (by (try simp only [bI_0, vp_6, vp_9, vp_10, vp_12, vp_18, vp_30, vp_31, vp_50, vp_60, vp_144, vp_154, vp_180, vp_432, vp_3600]) <;> grind) ⟨rfl, rfl⟩)))
  · exact (g_47_0 (br_f (by (try simp only [bI_0, vp_6, vp_9, vp_10, vp_12, vp_18, vp_30, vp_31, vp_50, vp_60, vp_144, vp_154, vp_180, vp_432, vp_3600]) <;> grind) (br_f (by (try simp only [bI_0, vp_6, vp_9, vp_10, vp_12, vp_18, vp_30, vp_31, vp_50, vp_60, vp_144, vp_154, vp_180, vp_432, vp_3600]) <;> grind) (br_t (by (try simp only [bI_0, vp_6, vp_9, vp_10, vp_12, vp_18, vp_30, vp_31, vp_50, vp_60, vp_144, vp_154, vp_180, vp_432, vp_3600]) <;> grind) ⟨rfl, rfl⟩))))
theorem s_47f {σ : St} {c : Int32} (h : ¬ isCmpS c) : Ret 47 [.int c] σ [.int 0] σ := by
  unfold isCmpS at h
  exact (g_47_0 (br_f (by (try simp only [bI_0, vp_6, vp_9, vp_10, vp_12, vp_18, vp_30, vp_31, vp_50, vp_60, vp_144, vp_154, vp_180, vp_432, vp_3600]) <;> grind) (br_f (by (try simp only [bI_0, vp_6, vp_9, vp_10, vp_12, vp_18, vp_30, vp_31, vp_50, vp_60, vp_144, vp_154, vp_180, vp_432, vp_3600]) <;> grind) (br_f (by (try simp only [bI_0, vp_6, vp_9, vp_10, vp_12, vp_18, vp_30, vp_31, vp_50, vp_60, vp_144, vp_154, vp_180, vp_432, vp_3600]) <;> grind) ⟨rfl, rfl⟩))))
theorem s_48t {σ : St} {c : Int32} (h : isDigS c) : Ret 48 [.int c] σ [.int 1] σ := by
  unfold isDigS at h
  exact (g_48_0 (br_f (by (try simp only [bI_0, vp_6, vp_9, vp_10, vp_12, vp_18, vp_30, vp_31, vp_50, vp_60, vp_144, vp_154, vp_180, vp_432, vp_3600]) <;> grind) (br_t (by (try simp only [bI_0, vp_6, vp_9, vp_10, vp_12, vp_18, vp_30, vp_31, vp_50, vp_60, vp_144, vp_154, vp_180, vp_432, vp_3600]) <;> grind) ⟨rfl, rfl⟩)))
theorem s_48f {σ : St} {c : Int32} (h : ¬ isDigS c) : Ret 48 [.int c] σ [.int 0] σ := by
  unfold isDigS at h
  by_cases q : c < 48
  · exact (g_48_0 (br_t (by (try simp only [bI_0, vp_6, vp_9, vp_10, vp_12, vp_18, vp_30, vp_31, vp_50, vp_60, vp_144, vp_154, vp_180, vp_432, vp_3600]) <;> grind) ⟨rfl, rfl⟩))
  · exact (g_48_0 (br_f (by (try simp only [bI_0, vp_6, vp_9, vp_10, vp_12, vp_18, vp_30, vp_31, vp_50, vp_60, vp_144, vp_154, vp_180, vp_432, vp_3600]) <;> grind) (br_f (by (try simp only [bI_0, vp_6, vp_9, vp_10, vp_12, vp_18, vp_30, vp_31, vp_50, vp_60, vp_144, vp_154, vp_180, vp_432, vp_3600]) <;> grind) ⟨rfl, rfl⟩)))
/-- the state behind a sign, -1: it can not stand there -/
noncomputable def nxt (s c : Int32) : Int32 := if s = 0 then @ite _ (isFactS c) (Classical.propDecidable _) 1 (-1) else if s = 1 then @ite _ (isCmpS c) (Classical.propDecidable _) 2 (-1) else
  @ite _ (isDigS c) (Classical.propDecidable _) (if s < 5 then s + 1 else -1) (if (c = 38 ∨ c = 124) ∧ 2 < s then 0 else -1)
def st6 (s : Int32) : Prop := 0 ≤ s ∧ s ≤ 5
theorem nxt_rng {s c : Int32} (h : st6 s) (n : ¬ nxt s c = -1) : st6 (nxt s c) := by
  unfold nxt at n ⊢
  unfold st6 at h ⊢
  split
  · split
    · decide
    · rename_i h1 h2; rw [if_pos h1, if_neg h2] at n; exact absurd rfl n
  · split
    · split
      · decide
      · rename_i h1 h2 h3; rw [if_neg h1, if_pos h2, if_neg h3] at n; exact absurd rfl n
    · split
      · split
        · grind
        · rename_i h1 h2 h3 h4; rw [if_neg h1, if_neg h2, if_pos h3, if_neg h4] at n; exact absurd rfl n
      · split
        · decide
        · rename_i h1 h2 h3 h4; rw [if_neg h1, if_neg h2, if_neg h3, if_neg h4] at n; exact absurd rfl n
theorem s_45 {σ : St} {s c : Int32} : Ret 45 [.int s, .int c] σ [.int (nxt s c)] σ := by
  unfold nxt
  by_cases h0 : s = 0
  · rw [if_pos h0]
    by_cases q : isFactS c
    · rw [if_pos q]; exact g_45_0 (br_t h0 ⟨_, _, s_46t q, br_f (by decide) ⟨rfl, rfl⟩⟩)
    · rw [if_neg q]; exact g_45_0 (br_t h0 ⟨_, _, s_46f q, br_t rfl ⟨rfl, rfl⟩⟩)
  · rw [if_neg h0]
    by_cases h1 : s = 1
    · rw [if_pos h1]
      by_cases q : isCmpS c
      · rw [if_pos q]; exact g_45_0 (br_f h0 (br_t h1 ⟨_, _, s_47t q, br_f (by decide) ⟨rfl, rfl⟩⟩))
      · rw [if_neg q]; exact g_45_0 (br_f h0 (br_t h1 ⟨_, _, s_47f q, br_t rfl ⟨rfl, rfl⟩⟩))
    · rw [if_neg h1]
      by_cases q : isDigS c
      · rw [if_pos q]
        by_cases h5 : s < 5
        · rw [if_pos h5]; exact g_45_0 (br_f h0 (br_f h1 ⟨_, _, s_48t q, br_f (by decide) (br_t h5 ⟨rfl, rfl⟩)⟩))
        · rw [if_neg h5]; exact g_45_0 (br_f h0 (br_f h1 ⟨_, _, s_48t q, br_f (by decide) (br_f h5 ⟨rfl, rfl⟩)⟩))
      · rw [if_neg q]
        refine g_45_0 (br_f h0 (br_f h1 ⟨_, _, s_48f q, br_t rfl ?_⟩))
        by_cases h2 : s ≤ 2
        · have e : ¬ ((c = 38 ∨ c = 124) ∧ 2 < s) := fun z => absurd h2 (Int32.not_le.mpr z.2)
          rw [if_neg e]
          by_cases c1 : c = 38
          · exact br_t c1 (br_t h2 ⟨rfl, rfl⟩)
          · by_cases c2 : c = 124
            · exact br_f c1 (br_t c2 (br_t h2 ⟨rfl, rfl⟩))
            · exact br_f c1 (br_f c2 ⟨rfl, rfl⟩)
        · by_cases c1 : c = 38
          · rw [if_pos ⟨Or.inl c1, Int32.not_le.mp h2⟩]
            exact br_t c1 (br_f h2 ⟨rfl, rfl⟩)
          · by_cases c2 : c = 124
            · rw [if_pos ⟨Or.inr c2, Int32.not_le.mp h2⟩]
              exact br_f c1 (br_t c2 (br_f h2 ⟨rfl, rfl⟩))
            · rw [if_neg (fun z => z.1.elim c1 c2)]
              exact br_f c1 (br_f c2 ⟨rfl, rfl⟩)
/-- the fault of n signs: k of them are left, from the i-th on, in state s -/
noncomputable def flt (f : Nat → Int32) (n : Nat) : Nat → Nat → Int32 → Int32
  | 0, _, s => if s ≤ 2 then nI n else -6
  | k + 1, i, s => if nxt s (f i) = -1 then nI i else flt f n k (i + 1) (nxt s (f i))
theorem flt_congr {f g : Nat → Int32} {n : Nat} : ∀ k i s, (∀ j, i ≤ j → j < i + k → f j = g j) → flt f n k i s = flt g n k i s
  | 0, _, _, _ => rfl
  | k + 1, i, s, h => by
    unfold flt
    rw [h i (by omega) (by omega), flt_congr k (i + 1) _ (fun j h1 h2 => h j (by omega) (by omega))]
theorem s_44 {σ : St} {n : Nat} (hn : n ≤ 50) (en : σ.1 6 1 = nI n) : Ret 44 [.ref 6] σ [.int (flt (σ.1 38) n n 0 0)] σ := by
  have go : ∀ k i s, i + k = n → Go 44 4 [.ref 6, .int s, .int (nI i)] [] σ [.int (flt (σ.1 38) n k i s)] σ := by
    intro k
    induction k with
    | zero =>
      intro i s hi
      unfold flt
      refine g_44_4 (br_f (by rw [en, show i = n by omega]; exact Int32.lt_irrefl) ?_)
      by_cases h : s ≤ 2
      · rw [if_pos h]; exact br_t h ⟨by rw [en], rfl⟩
      · rw [if_neg h]; exact br_f h ⟨rfl, rfl⟩
    | succ k ih =>
      intro i s hi
      have ei : (nI i).toNatClampNeg = i := clN (by omega)
      have lt : nI i < σ.1 6 1 := by rw [en]; exact (nI_ltI (by omega) (by omega)).mpr (by omega)
      unfold flt
      refine g_44_4 (br_t lt ⟨vp_in_nI (by omega) (by decide), ?_⟩)
      rw [ei, nI_S]
      refine ⟨_, _, s_45, ?_⟩
      by_cases h : nxt s (σ.1 38 i) = -1
      · rw [if_pos h]; exact br_t h ⟨rfl, rfl⟩
      · rw [if_neg h]; exact br_f h (ih (i + 1) _ (by omega))
  exact g_44_0 (go n 0 0 (by omega))
theorem s_146 {σ : St} {n : Nat} (hn : n ≤ 50) (en : σ.1 11 13 = nI n) : Ret 146 [.ref 11] σ [.int (flt (σ.1 62) n n 0 0)] σ := by
  have go : ∀ k i s, i + k = n → st6 s → Go 146 4 [.ref 11, .int s, .int (nI i), .null, .null] [] σ [.int (flt (σ.1 62) n k i s)] σ := by
    intro k
    induction k with
    | zero =>
      intro i s hi hs
      unfold flt
      refine g_146_4 (br_f (by rw [en, show i = n by omega]; exact Int32.lt_irrefl) ?_)
      by_cases h : s ≤ 2
      · rw [if_pos h]; exact br_t h ⟨by rw [en], rfl⟩
      · rw [if_neg h]; exact br_f h ⟨rfl, rfl⟩
    | succ k ih =>
      intro i s hi hs
      have ei : (nI i).toNatClampNeg = i := clN (by omega)
      have lt : nI i < σ.1 11 13 := by rw [en]; exact (nI_ltI (by omega) (by omega)).mpr (by omega)
      have hst := fun (q : ¬ nxt s (σ.1 62 i) = -1) => ih (i + 1) _ (by omega) (nxt_rng hs q)
      have n5 : ∀ x : Int32, st6 s → s < 5 → ¬ s + 1 < 0 := fun _ h1 h2 => by unfold st6 at h1; grind
      refine g_146_4 (br_t lt ⟨vp_in_nI (by omega) (by decide), ?_⟩)
      rw [ei, nI_S]
      generalize hc : σ.1 62 i = c at hst ⊢
      have ef : flt (σ.1 62) n (k + 1) i s = if nxt s c = -1 then nI i else flt (σ.1 62) n k (i + 1) (nxt s c) := by rw [← hc]; rfl
      rw [ef]
      by_cases h0 : s = 0
      · refine br_t h0 ?_
        by_cases q : isFactS c
        · have e : nxt s c = 1 := by unfold nxt; rw [if_pos h0, if_pos q]
          rw [e, if_neg (by decide)]
          rw [e] at hst
          have h := hst (by decide)
          rcases q with rfl | rfl | rfl | rfl | rfl
          · exact br_t rfl h
          · exact br_f (by decide) (br_t rfl h)
          · exact br_f (by decide) (br_f (by decide) (br_t rfl h))
          · exact br_f (by decide) (br_f (by decide) (br_f (by decide) (br_t rfl h)))
          · exact br_f (by decide) (br_f (by decide) (br_f (by decide) (br_f (by decide) (br_t rfl h))))
        · have e : nxt s c = -1 := by unfold nxt; rw [if_pos h0, if_neg q]
          rw [e, if_pos rfl]
          unfold isFactS at q
          exact br_f (by grind) (br_f (by grind) (br_f (by grind) (br_f (by grind) (br_f (by grind) ⟨rfl, rfl⟩))))
      · refine br_f h0 ?_
        by_cases h1 : s = 1
        · refine br_t h1 ?_
          by_cases q : isCmpS c
          · have e : nxt s c = 2 := by unfold nxt; rw [if_neg h0, if_pos h1, if_pos q]
            rw [e, if_neg (by decide)]
            rw [e] at hst
            have h := hst (by decide)
            rcases q with rfl | rfl | rfl
            · exact br_t rfl h
            · exact br_f (by decide) (br_t rfl h)
            · exact br_f (by decide) (br_f (by decide) (br_t rfl h))
          · have e : nxt s c = -1 := by unfold nxt; rw [if_neg h0, if_pos h1, if_neg q]
            rw [e, if_pos rfl]
            unfold isCmpS at q
            exact br_f (by grind) (br_f (by grind) (br_f (by grind) ⟨rfl, rfl⟩))
        · refine br_f h1 ?_
          -- a sign that is no digit
          have nd : ¬ isDigS c → ((s ≤ 2 → ([Value.int (if nxt s c = -1 then nI i else flt (σ.1 62) n k (i + 1) (nxt s c))] = [Value.int (nI i)] ∧ σ = σ)) ∧ (¬ s ≤ 2 → ((c = 38 → Go 146 4 [.ref 11, .int 0, .int (nI (i + 1)), .null, .null] [] σ [.int (if nxt s c = -1 then nI i else flt (σ.1 62) n k (i + 1) (nxt s c))] σ) ∧ (¬ c = 38 → ((c = 124 → Go 146 4 [.ref 11, .int 0, .int (nI (i + 1)), .null, .null] [] σ [.int (if nxt s c = -1 then nI i else flt (σ.1 62) n k (i + 1) (nxt s c))] σ) ∧ (¬ c = 124 → ([Value.int (if nxt s c = -1 then nI i else flt (σ.1 62) n k (i + 1) (nxt s c))] = [Value.int (nI i)] ∧ σ = σ))))))) := by
            intro q
            have e : nxt s c = if (c = 38 ∨ c = 124) ∧ 2 < s then 0 else -1 := by unfold nxt; rw [if_neg h0, if_neg h1, if_neg q]
            refine ⟨fun h2 => ⟨?_, rfl⟩, fun h2 => ⟨fun c1 => ?_, fun c1 => ⟨fun c2 => ?_, fun c2 => ⟨?_, rfl⟩⟩⟩⟩
            · rw [if_neg (fun z => absurd h2 (Int32.not_le.mpr z.2))] at e
              rw [e, if_pos rfl]
            · rw [if_pos ⟨Or.inl c1, Int32.not_le.mp h2⟩] at e
              rw [e, if_neg (by decide)]
              rw [e] at hst
              exact hst (by decide)
            · rw [if_pos ⟨Or.inr c2, Int32.not_le.mp h2⟩] at e
              rw [e, if_neg (by decide)]
              rw [e] at hst
              exact hst (by decide)
            · rw [if_neg (fun z => z.1.elim c1 c2)] at e
              rw [e, if_pos rfl]
          by_cases h5 : s < 5
          · refine br_t h5 ⟨_, _, s_120, ?_⟩
            by_cases q : isDigS c
            · have e : nxt s c = s + 1 := by unfold nxt; rw [if_neg h0, if_neg h1, if_pos q, if_pos h5]
              have nn : ¬ s + 1 < 0 := n5 0 hs h5
              have n1 : ¬ s + 1 = -1 := fun z => nn (by rw [z]; decide)
              rw [e, if_neg n1]
              rw [e] at hst
              exact br_f (fun z => bI_0.mp z q) (br_f nn (hst n1))
            · exact br_t (bI_f q) (nd q)
          · refine br_f h5 ?_
            by_cases q : isDigS c
            · have e : nxt s c = -1 := by unfold nxt; rw [if_neg h0, if_neg h1, if_pos q, if_neg h5]
              rw [e, if_pos rfl]
              unfold isDigS at q
              refine br_f (by unfold st6 at hs; grind) (br_f (by grind) (br_f (by grind) ⟨rfl, rfl⟩))
            · exact nd q
  exact g_146_0 (go n 0 0 (by omega) (by unfold st6; decide))
theorem flt_eq {σ : St} {n : Nat} (h : ∀ k, k < n → σ.1 38 k = σ.1 62 k) : flt (σ.1 38) n n 0 0 = flt (σ.1 62) n n 0 0 := flt_congr n 0 0 (fun j _ hj => h j (by omega))
theorem p_fault {σ : St} (hR : Rel σ) : PairI 79 147 [] σ := by
  obtain ⟨n, hn, e1, e2, hs⟩ := hR.1
  refine ⟨_, _, _, g_79_0 ⟨_, _, s_44 hn e1, rfl, rfl⟩, g_147_0 ⟨_, _, s_146 hn e2, ?_, rfl⟩, hR⟩
  rw [flt_eq hs]
theorem flt_ok {f : Nat → Int32} {n k i : Nat} {s : Int32} (hi : i < 2 ^ 31) (h : flt f n (k + 1) i s = -6) : ¬ nxt s (f i) = -1 ∧ flt f n k (i + 1) (nxt s (f i)) = -6 := by
  unfold flt at h
  by_cases q : nxt s (f i) = -1
  · rw [if_pos q] at h; exact absurd h (neg6_nI hi)
  · rw [if_neg q] at h; exact ⟨q, h⟩
theorem flt_rng {f : Nat → Int32} {n : Nat} : ∀ k i s, n < 2 ^ 31 → i + k = n → flt f n k i s = -6 ∨ 0 ≤ flt f n k i s
  | 0, i, s, hn, _ => by
    unfold flt
    split
    · exact Or.inr (nI0 hn)
    · exact Or.inl rfl
  | k + 1, i, s, hn, hi => by
    unfold flt
    split
    · exact Or.inr (nI0 (by omega))
    · exact flt_rng k (i + 1) _ hn (by omega)
