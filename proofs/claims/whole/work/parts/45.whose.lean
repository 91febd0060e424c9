/-! whose -/
theorem own_rng {t1 t2 nm wn : Int32} : ∃ a : Nat, a ≤ 9 ∧ own t1 t2 nm wn = nI a := by
  unfold own
  generalize absI (t1 + t2 - 2 * nm) / 2 - wn = x
  obtain ⟨y, ey⟩ : ∃ y, y = (if (9 : Int32) - (if x < 0 then 0 else x) < 0 then 0 else 9 - (if x < 0 then 0 else x)) := ⟨_, rfl⟩
  rw [← ey]
  have h : 0 ≤ y ∧ y < 10 := by
    rw [ey]
    split <;> split <;> grind
  obtain ⟨k, hk, e⟩ := inR (x := y) (m := 10) (n := 10) rfl (by decide) h.1 h.2
  exact ⟨k, by omega, e⟩
theorem wOf_nat {σ : St} {g m : Nat} : ∃ w : Nat, w ≤ 729 ∧ wOf σ g m = nI w := by
  obtain ⟨a, ha, ea⟩ := own_rng (t1 := tLo (σ.1 29) (σ.1 28) (σ.1 20) (σ.1 3 10) g 0) (t2 := tHi (σ.1 29) (σ.1 28) (σ.1 19) (σ.1 3 10) g 0) (nm := σ.1 34 (3 * m + 0)) (wn := σ.1 35 m)
  obtain ⟨b, hb, eb⟩ := own_rng (t1 := tLo (σ.1 29) (σ.1 28) (σ.1 20) (σ.1 3 10) g 1) (t2 := tHi (σ.1 29) (σ.1 28) (σ.1 19) (σ.1 3 10) g 1) (nm := σ.1 34 (3 * m + 1)) (wn := σ.1 35 m)
  obtain ⟨c, hc, ec⟩ := own_rng (t1 := tLo (σ.1 29) (σ.1 28) (σ.1 20) (σ.1 3 10) g 2) (t2 := tHi (σ.1 29) (σ.1 28) (σ.1 19) (σ.1 3 10) g 2) (nm := σ.1 34 (3 * m + 2)) (wn := σ.1 35 m)
  refine ⟨a * b * c, ?_, ?_⟩
  · have h1 : a * b ≤ 9 * 9 := Nat.mul_le_mul ha hb
    have h2 : a * b * c ≤ 9 * 9 * 9 := Nat.mul_le_mul h1 hc
    omega
  · show 1 * own _ _ _ _ * own _ _ _ _ * own _ _ _ _ = _
    rw [ea, eb, ec, show (1 : Int32) * nI a = nI a by grind, pk_mul, pk_mul]
noncomputable def wNt (σ : St) (m g : Nat) : Nat := (wOf_nat (σ := σ) (g := g) (m := m)).choose
theorem wNt_s {σ : St} {m g : Nat} : wNt σ m g ≤ 729 ∧ wOf σ g m = nI (wNt σ m g) := (wOf_nat (σ := σ) (g := g) (m := m)).choose_spec
def lkC (ln : Nat → Int32) (l : Int32) : Nat → Nat
  | 0 => 0
  | g + 1 => if ln g = l ∧ lkC ln l g < 5 then lkC ln l g + 1 else lkC ln l g
def lkP (ln : Nat → Int32) (l : Int32) (w : Nat → Nat) : Nat → Nat
  | 0 => 1
  | g + 1 => if ln g = l ∧ lkC ln l g < 5 then lkP ln l w g * w g else lkP ln l w g
theorem lkC_le {ln : Nat → Int32} {l : Int32} : ∀ g, lkC ln l g ≤ 5
  | 0 => by simp [lkC]
  | g + 1 => by
    have := lkC_le (ln := ln) (l := l) g
    unfold lkC
    split <;> omega
theorem lkP_le {ln : Nat → Int32} {l : Int32} {w : Nat → Nat} (h : ∀ g, w g ≤ 729) : ∀ g, lkP ln l w g ≤ 729 ^ lkC ln l g
  | 0 => by simp [lkP, lkC]
  | g + 1 => by
    have ih := lkP_le (ln := ln) (l := l) h g
    have e1 : lkP ln l w (g + 1) = if ln g = l ∧ lkC ln l g < 5 then lkP ln l w g * w g else lkP ln l w g := rfl
    have e2 : lkC ln l (g + 1) = if ln g = l ∧ lkC ln l g < 5 then lkC ln l g + 1 else lkC ln l g := rfl
    rw [e1, e2]
    by_cases q : ln g = l ∧ lkC ln l g < 5
    · rw [if_pos q, if_pos q, Nat.pow_succ]; exact Nat.mul_le_mul ih (h g)
    · rw [if_neg q, if_neg q]; exact ih
theorem lkP_b {ln : Nat → Int32} {l : Int32} {w : Nat → Nat} (h : ∀ g, w g ≤ 729) (g : Nat) : lkP ln l w g ≤ 729 ^ 5 := Nat.le_trans (lkP_le h g) (Nat.pow_le_pow_right (by decide) (lkC_le g))
theorem lkP_end {ln : Nat → Int32} {l : Int32} {w : Nat → Nat} {g : Nat} (h : ¬ lkC ln l g < 5) : ∀ k, lkC ln l (g + k) = lkC ln l g ∧ lkP ln l w (g + k) = lkP ln l w g
  | 0 => ⟨rfl, rfl⟩
  | k + 1 => by
    have ih := lkP_end (w := w) h k
    have e1 : lkP ln l w (g + (k + 1)) = if ln (g + k) = l ∧ lkC ln l (g + k) < 5 then lkP ln l w (g + k) * w (g + k) else lkP ln l w (g + k) := rfl
    have e2 : lkC ln l (g + (k + 1)) = if ln (g + k) = l ∧ lkC ln l (g + k) < 5 then lkC ln l (g + k) + 1 else lkC ln l (g + k) := rfl
    have nq : ¬ (ln (g + k) = l ∧ lkC ln l (g + k) < 5) := fun q => h (by rw [← ih.1]; exact q.2)
    rw [e1, e2, if_neg nq, if_neg nq]
    exact ih
theorem lkP_congr {a b : Nat → Int32} {l : Int32} {w : Nat → Nat} : ∀ {n : Nat}, (∀ g, g < n → a g = b g) → lkC a l n = lkC b l n ∧ lkP a l w n = lkP b l w n
  | 0, _ => ⟨rfl, rfl⟩
  | n + 1, h => by
    have ih := lkP_congr (w := w) (l := l) (n := n) (fun g hg => h g (by omega))
    unfold lkC lkP
    rw [ih.1, ih.2, h n (by omega)]
    exact ⟨rfl, rfl⟩
theorem s_42 {σ : St} {n m : Nat} {l : Int32} (hR : Rel σ) (hg : GF σ n) (hm : m < 6) (hk : 0 ≤ σ.1 65 m) : Ret 42 [.ref 5, .int l, .int (nI m)] σ [.long (lN (lkP (σ.1 27) l (wNt σ m) n))] σ := by
  have hn := hg.1.1
  have en := hg.1.2.1
  refine g_42_0 ?_
  refine loopE (α := Unit) n (fun _ _ => True) (fun i _ => Go 42 8 [.ref 5, .int l, .int (nI m), .long (lN (lkP (σ.1 27) l (wNt σ m) i)), .null, .int (nI (lkC (σ.1 27) l i)), .int (nI i)] [] σ [.long (lN (lkP (σ.1 27) l (wNt σ m) n))] σ) ?_ ?_ 0 () (by omega) trivial
  · intro i _ hi _
    have ei : (nI i).toNatClampNeg = i := clN (by omega)
    have lt : nI i < σ.1 4 7 := by rw [en]; exact (nI_ltI (by omega) (by omega)).mpr hi
    have cle := lkC_le (ln := σ.1 27) (l := l) i
    rcases (Classical.em (lkC (σ.1 27) l i < 5)).symm with h5 | h5
    · refine Or.inl ?_
      have := lkP_end (w := wNt σ m) h5 (n - i)
      rw [show i + (n - i) = n by omega] at this
      rw [this.2]
      exact g_42_8 (br_t lt (br_f (fun z => h5 ((nI_ltL (n := 5) rfl (by omega) (by decide)).mp z)) ⟨rfl, rfl⟩))
    have lt5 : nI (lkC (σ.1 27) l i) < 5 := (nI_ltL (n := 5) rfl (by omega) (by decide)).mpr h5
    refine Or.inr ⟨(), trivial, fun hx => ?_⟩
    rw [← nI_S, lkC, lkP] at hx
    by_cases hl : σ.1 27 i = l
    · rw [if_pos ⟨hl, h5⟩, if_pos ⟨hl, h5⟩, ← nI_S] at hx
      have w := (w_eq hR hg hi hm hk).1
      have ws := wNt_s (σ := σ) (m := m) (g := i)
      rw [ws.2] at w
      refine g_42_8 (br_t lt (br_t lt5 ⟨vp_in_nI (by omega) (by decide), br_t (by rw [ei]; exact hl) ⟨_, _, w, ?_⟩⟩))
      rw [nI_l (by omega), lN_mul]
      exact hx
    · rw [if_neg (fun q => hl q.1), if_neg (fun q => hl q.1)] at hx
      exact g_42_8 (br_t lt (br_t lt5 ⟨vp_in_nI (by omega) (by decide), br_f (by rw [ei]; exact hl) hx⟩))
  · intro _ _
    exact g_42_8 (br_f (by rw [en]; exact Int32.lt_irrefl) ⟨rfl, rfl⟩)
theorem s_170 {σ : St} {n m : Nat} {l : Int32} (hR : Rel σ) (hg : GF σ n) (hm : m < 6) (hk : 0 ≤ σ.1 65 m) : Ret 170 [.ref 11, .int l, .int (nI m)] σ [.long (lN (lkP (σ.1 27) l (wNt σ m) n))] σ := by
  have hn := hg.1.1
  have en := hg.2.1
  have cg : ∀ i, i ≤ n → lkC (σ.1 27) l i = lkC (σ.1 59) l i ∧ lkP (σ.1 27) l (wNt σ m) i = lkP (σ.1 59) l (wNt σ m) i := fun i hi => lkP_congr (fun g hgn => (hg.2.2.1 g (by omega)).1)
  rw [(cg n (by omega)).2]
  refine g_170_0 ?_
  refine loopE (α := Unit) n (fun _ _ => True) (fun i _ => Go 170 8 [.ref 11, .int l, .int (nI m), .long (lN (lkP (σ.1 59) l (wNt σ m) i)), .null, .int (nI (lkC (σ.1 59) l i)), .int (nI i)] [] σ [.long (lN (lkP (σ.1 59) l (wNt σ m) n))] σ) ?_ ?_ 0 () (by omega) trivial
  · intro i _ hi _
    have ei : (nI i).toNatClampNeg = i := clN (by omega)
    have lt : nI i < σ.1 11 9 := by rw [en]; exact (nI_ltI (by omega) (by omega)).mpr hi
    have cle := lkC_le (ln := σ.1 59) (l := l) i
    rcases (Classical.em (lkC (σ.1 59) l i < 5)).symm with h5 | h5
    · refine Or.inl ?_
      have := lkP_end (w := wNt σ m) h5 (n - i)
      rw [show i + (n - i) = n by omega] at this
      rw [this.2]
      exact g_170_8 (br_t lt (br_f (fun z => h5 ((nI_ltL (n := 5) rfl (by omega) (by decide)).mp z)) ⟨rfl, rfl⟩))
    have lt5 : nI (lkC (σ.1 59) l i) < 5 := (nI_ltL (n := 5) rfl (by omega) (by decide)).mpr h5
    refine Or.inr ⟨(), trivial, fun hx => ?_⟩
    rw [← nI_S, lkC, lkP] at hx
    by_cases hl : σ.1 59 i = l
    · rw [if_pos ⟨hl, h5⟩, if_pos ⟨hl, h5⟩, ← nI_S] at hx
      have w := (w_eq hR hg hi hm hk).2
      have ws := wNt_s (σ := σ) (m := m) (g := i)
      rw [ws.2] at w
      refine g_170_8 (br_t lt (br_t lt5 ⟨vp_in_nI (by omega) (by decide), br_t (by rw [ei]; exact hl) ⟨_, _, w, ?_⟩⟩))
      rw [nI_l (by omega), lN_mul]
      exact hx
    · rw [if_neg (fun q => hl q.1), if_neg (fun q => hl q.1)] at hx
      exact g_170_8 (br_t lt (br_t lt5 ⟨vp_in_nI (by omega) (by decide), br_f (by rw [ei]; exact hl) hx⟩))
  · intro _ _
    exact g_170_8 (br_f (by rw [en]; exact Int32.lt_irrefl) ⟨rfl, rfl⟩)
/-- all mountains together -/
noncomputable def sumN (σ : St) (l : Int32) (n : Nat) : Nat → Nat
  | 0 => 0
  | m + 1 => sumN σ l n m + (if 0 ≤ σ.1 65 m then lkP (σ.1 27) l (wNt σ m) n else 0)
theorem sumN_le {σ : St} {l : Int32} {n : Nat} : ∀ m, sumN σ l n m ≤ m * 729 ^ 5
  | 0 => by simp [sumN]
  | m + 1 => by
    have ih := sumN_le (σ := σ) (l := l) (n := n) m
    have hb := lkP_b (ln := σ.1 27) (l := l) (w := wNt σ m) (fun g => wNt_s.1) n
    have e1 : sumN σ l n (m + 1) = sumN σ l n m + (if 0 ≤ σ.1 65 m then lkP (σ.1 27) l (wNt σ m) n else 0) := rfl
    rw [e1, Nat.succ_mul]
    refine Nat.add_le_add ih ?_
    split
    · exact hb
    · exact Nat.zero_le _
theorem sumN_ge {σ : St} {l : Int32} {n k : Nat} (hk : 0 ≤ σ.1 65 k) : ∀ m, k < m → lkP (σ.1 27) l (wNt σ k) n ≤ sumN σ l n m
  | 0, h => by omega
  | m + 1, h => by
    unfold sumN
    by_cases e : k = m
    · subst e; rw [if_pos hk]; omega
    · have := sumN_ge (l := l) (n := n) hk m (by omega)
      omega
theorem p_whose {σ : St} {a b c : Int32} (hR : Rel σ) : PairJ 90 172 [.int a, .int b, .int c] σ := by
  obtain ⟨n, hg⟩ := hR.gf
  rcases (Classical.em (lnP σ a)).symm with h1 | h1
  · exact ⟨-1000000000000000001, σ, σ, (g_90_0 ⟨_, _, (s_29f h1), (br_t (by (try simp only [bI_0, vp_6, vp_9, vp_10, vp_12, vp_18, vp_30, vp_31, vp_50, vp_60, vp_144, vp_154, vp_180, vp_432, vp_3600]) <;> grind) ⟨rfl, rfl⟩)⟩), (g_172_0 ⟨_, _, (s_140f hg h1), (br_t (by (try simp only [bI_0, vp_6, vp_9, vp_10, vp_12, vp_18, vp_30, vp_31, vp_50, vp_60, vp_144, vp_154, vp_180, vp_432, vp_3600]) <;> grind) ⟨rfl, rfl⟩)⟩), hR⟩
  rcases (Classical.em (knP σ b)).symm with h2 | h2
  · exact ⟨-1000000000000000001, σ, σ, (g_90_0 ⟨_, _, (s_29t h1), (br_f (by (try simp only [bI_0, vp_6, vp_9, vp_10, vp_12, vp_18, vp_30, vp_31, vp_50, vp_60, vp_144, vp_154, vp_180, vp_432, vp_3600]) <;> grind) ⟨_, _, (s_39f hR h2), (br_t (by (try simp only [bI_0, vp_6, vp_9, vp_10, vp_12, vp_18, vp_30, vp_31, vp_50, vp_60, vp_144, vp_154, vp_180, vp_432, vp_3600]) <;> grind) ⟨rfl, rfl⟩)⟩)⟩), (g_172_0 ⟨_, _, (s_140t hg h1), (br_f (by (try simp only [bI_0, vp_6, vp_9, vp_10, vp_12, vp_18, vp_30, vp_31, vp_50, vp_60, vp_144, vp_154, vp_180, vp_432, vp_3600]) <;> grind) ⟨_, _, (s_164f h2), (br_t (by (try simp only [bI_0, vp_6, vp_9, vp_10, vp_12, vp_18, vp_30, vp_31, vp_50, vp_60, vp_144, vp_154, vp_180, vp_432, vp_3600]) <;> grind) ⟨rfl, rfl⟩)⟩)⟩), hR⟩
  rcases (Classical.em (0 ≤ c ∧ c < 2)).symm with h3 | h3
  · exact ⟨-1000000000000000002, σ, σ, (g_90_0 ⟨_, _, (s_29t h1), (br_f (by (try simp only [bI_0, vp_6, vp_9, vp_10, vp_12, vp_18, vp_30, vp_31, vp_50, vp_60, vp_144, vp_154, vp_180, vp_432, vp_3600]) <;> grind) ⟨_, _, (s_39t hR h2), (br_f (by (try simp only [bI_0, vp_6, vp_9, vp_10, vp_12, vp_18, vp_30, vp_31, vp_50, vp_60, vp_144, vp_154, vp_180, vp_432, vp_3600]) <;> grind) ⟨_, _, s_114, (br_t (by (try simp only [bI_0, vp_6, vp_9, vp_10, vp_12, vp_18, vp_30, vp_31, vp_50, vp_60, vp_144, vp_154, vp_180, vp_432, vp_3600]) <;> grind) ⟨rfl, rfl⟩)⟩)⟩)⟩), (g_172_0 ⟨_, _, (s_140t hg h1), (br_f (by (try simp only [bI_0, vp_6, vp_9, vp_10, vp_12, vp_18, vp_30, vp_31, vp_50, vp_60, vp_144, vp_154, vp_180, vp_432, vp_3600]) <;> grind) ⟨_, _, (s_164t h2), (br_f (by (try simp only [bI_0, vp_6, vp_9, vp_10, vp_12, vp_18, vp_30, vp_31, vp_50, vp_60, vp_144, vp_154, vp_180, vp_432, vp_3600]) <;> grind) ⟨_, _, s_126, (br_t (by (try simp only [bI_0, vp_6, vp_9, vp_10, vp_12, vp_18, vp_30, vp_31, vp_50, vp_60, vp_144, vp_154, vp_180, vp_432, vp_3600]) <;> grind) ⟨rfl, rfl⟩)⟩)⟩)⟩), hR⟩
  obtain ⟨k, hk, rfl⟩ := inR (x := b) (m := 6) (n := 6) rfl (by decide) h2.1 h2.2.1
  have hk0 : 0 ≤ σ.1 65 k := by have := h2.2.2; rwa [clN (by omega)] at this
  have kn : ∀ m, m < 6 → (knP σ (nI m) ↔ 0 ≤ σ.1 65 m) := fun m hm => by
    have e : (nI m).toNatClampNeg = m := clN (by omega)
    rw [knP_def, e]
    exact ⟨fun h => h.2.2, fun h => ⟨nI0 (by omega), (nI_ltL (n := 6) rfl (by omega) (by decide)).mpr hm, h⟩⟩
  have b1 := sumN_le (σ := σ) (l := a) (n := n) 6
  have b2 := lkP_b (ln := σ.1 27) (l := a) (w := wNt σ k) (fun g => wNt_s.1) n
  have ge := sumN_ge (l := a) (n := n) hk0 6 hk
  have e5 : 729 ^ 5 = 205891132094649 := by decide
  refine ⟨frN (lkP (σ.1 27) a (wNt σ k) n) (sumN σ a n 6) c, σ, σ, (g_90_0 ⟨_, _, (s_29t h1), (br_f (by (try simp only [bI_0, vp_6, vp_9, vp_10, vp_12, vp_18, vp_30, vp_31, vp_50, vp_60, vp_144, vp_154, vp_180, vp_432, vp_3600]) <;> grind) ⟨_, _, (s_39t hR h2), (br_f (by (try simp only [bI_0, vp_6, vp_9, vp_10, vp_12, vp_18, vp_30, vp_31, vp_50, vp_60, vp_144, vp_154, vp_180, vp_432, vp_3600]) <;> grind) ⟨_, _, s_114, (br_f (by (try simp only [bI_0, vp_6, vp_9, vp_10, vp_12, vp_18, vp_30, vp_31, vp_50, vp_60, vp_144, vp_154, vp_180, vp_432, vp_3600]) <;> grind) ?_)⟩)⟩)⟩), (g_172_0 ⟨_, _, (s_140t hg h1), (br_f (by (try simp only [bI_0, vp_6, vp_9, vp_10, vp_12, vp_18, vp_30, vp_31, vp_50, vp_60, vp_144, vp_154, vp_180, vp_432, vp_3600]) <;> grind) ⟨_, _, (s_164t h2), (br_f (by (try simp only [bI_0, vp_6, vp_9, vp_10, vp_12, vp_18, vp_30, vp_31, vp_50, vp_60, vp_144, vp_154, vp_180, vp_432, vp_3600]) <;> grind) ⟨_, _, s_126, (br_f (by (try simp only [bI_0, vp_6, vp_9, vp_10, vp_12, vp_18, vp_30, vp_31, vp_50, vp_60, vp_144, vp_154, vp_180, vp_432, vp_3600]) <;> grind) ?_)⟩)⟩)⟩), hR⟩
  · refine loopN 6 (fun m => Go 90 44 [.ref 10, .int a, .int (nI k), .int c, .long (lN (sumN σ a n m)), .null, .int (nI m)] [] σ [.long (frN (lkP (σ.1 27) a (wNt σ k) n) (sumN σ a n 6) c)] σ) ?_ ?_ 0 (by omega)
    · intro m hm hx
      have lt : nI m < 6 := (nI_ltL (n := 6) rfl (by omega) (by decide)).mpr hm
      rw [← nI_S, sumN] at hx
      by_cases q : 0 ≤ σ.1 65 m
      · rw [if_pos q, ← lN_add] at hx
        exact g_90_44 (br_t lt ⟨_, _, s_39t hR ((kn m hm).mpr q), br_f (by decide) ⟨_, _, s_42 hR hg hm q, hx⟩⟩)
      · rw [if_neg q] at hx
        exact g_90_44 (br_t lt ⟨_, _, s_39f hR (fun z => q ((kn m hm).mp z)), br_t rfl hx⟩)
    · exact g_90_44 (br_f (by decide) ⟨_, _, s_42 hR hg hk hk0, _, _, s_118 (by omega) (by omega), rfl, rfl⟩)
  · refine loopN 6 (fun m => Go 172 37 [.ref 11, .int a, .int (nI k), .int c, .long (lN (sumN σ a n m)), .null, .int (nI m)] [] σ [.long (frN (lkP (σ.1 27) a (wNt σ k) n) (sumN σ a n 6) c)] σ) ?_ ?_ 0 (by omega)
    · intro m hm hx
      have lt : nI m < 6 := (nI_ltL (n := 6) rfl (by omega) (by decide)).mpr hm
      rw [← nI_S, sumN] at hx
      by_cases q : 0 ≤ σ.1 65 m
      · rw [if_pos q, ← lN_add] at hx
        exact g_172_37 (br_t lt ⟨_, _, s_164t ((kn m hm).mpr q), br_f (by decide) ⟨_, _, s_170 hR hg hm q, hx⟩⟩)
      · rw [if_neg q] at hx
        refine g_172_37 (br_t lt ⟨_, _, s_164f (fun z => q ((kn m hm).mp z)), br_t rfl ?_⟩)
        rw [show (0 : Int64) = lN 0 from rfl, lN_add]
        exact hx
    · exact g_172_37 (br_f (by decide) ⟨_, _, s_170 hR hg hk hk0, _, _, s_171 (by grind) (by omega) (by omega) (by omega), rfl, rfl⟩)
