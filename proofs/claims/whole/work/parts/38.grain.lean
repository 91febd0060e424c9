/-! lines by rank -/
def rkc (f : Nat → Int32) : Nat → Nat
  | 0 => 0
  | i + 1 => rkc f i + (if f i ≤ 0 then 0 else 1)
def rkr (f o : Nat → Int32) : Nat → Nat → Int32
  | 0 => o
  | i + 1 => if f i ≤ 0 then rkr f o i else upd (rkr f o i) (rkc f i) (nI i)
theorem rkc_le {f : Nat → Int32} : ∀ i, rkc f i ≤ i
  | 0 => Nat.le_refl 0
  | i + 1 => by
    have := rkc_le (f := f) i
    unfold rkc
    split <;> omega
theorem s_31 {σ : St} : Ret 31 [.ref 4] σ [] (wr (setR σ 33 (rkr (σ.1 30) (σ.1 33) 144)) 4 9 (nI (rkc (σ.1 30) 144))) := by
  refine g_31_0 ?_
  have h0 : wr σ 4 9 0 = wr (setR σ 33 (rkr (σ.1 30) (σ.1 33) 0)) 4 9 (nI (rkc (σ.1 30) 0)) := by
    show wr σ 4 9 0 = wr (setR σ 33 (σ.1 33)) 4 9 0
    rw [setR_self]
  rw [h0]
  refine loopN 144 (fun i => Go 31 7 [.ref 4, .int (nI i)] [] (wr (setR σ 33 (rkr (σ.1 30) (σ.1 33) i)) 4 9 (nI (rkc (σ.1 30) i))) [] (wr (setR σ 33 (rkr (σ.1 30) (σ.1 33) 144)) 4 9 (nI (rkc (σ.1 30) 144)))) ?_ ?_ 0 (by omega)
  · intro i hi hx
    have ei : (nI i).toNatClampNeg = i := clN (by omega)
    have hc := rkc_le (f := σ.1 30) i
    rw [← nI_S, rkr, rkc] at hx
    by_cases h : σ.1 30 i ≤ 0
    · rw [if_pos h, if_pos h] at hx
      exact (g_31_7 (br_t ((nI_ltL (n := 144) rfl (by omega) (by decide)).mpr hi) ⟨(vp_in_nI hi (by decide)), (br_t (show σ.1 30 (nI i).toNatClampNeg ≤ 0 by rw [ei]; exact h) hx)⟩))
    · rw [if_neg h, if_neg h] at hx
      refine (g_31_7 (br_t ((nI_ltL (n := 144) rfl (by omega) (by decide)).mpr hi) ⟨(vp_in_nI hi (by decide)), (br_f (show ¬ σ.1 30 (nI i).toNatClampNeg ≤ 0 by rw [ei]; exact h) ⟨(vp_in_nI (n := rkc (σ.1 30) i) (by omega) (by decide)), ?_⟩)⟩))
      show Go 31 7 [.ref 4, .int (nI i + 1)] [] (wr (wr (wr (setR σ 33 (rkr (σ.1 30) (σ.1 33) i)) 4 9 (nI (rkc (σ.1 30) i))) 33 (nI (rkc (σ.1 30) i)).toNatClampNeg (nI i)) 4 9 (nI (rkc (σ.1 30) i) + 1)) [] _
      rw [clN (by omega), nI_S (i := rkc (σ.1 30) i)]
      have : wr (wr (wr (setR σ 33 (rkr (σ.1 30) (σ.1 33) i)) 4 9 (nI (rkc (σ.1 30) i))) 33 (rkc (σ.1 30) i) (nI i)) 4 9 (nI (rkc (σ.1 30) i + 1)) = wr (setR σ 33 (upd (rkr (σ.1 30) (σ.1 33) i) (rkc (σ.1 30) i) (nI i))) 4 9 (nI (rkc (σ.1 30) i + 1)) := by
        refine St_ext (fun c k => ?_) rfl
        rw [wr_get, wr_get, wr_get, wr_get]
        simp only [setR_get]
        by_cases hc : c = 33
        · subst hc; simp [upd]
        · simp only [hc, if_false, false_and]
          by_cases h4 : c = 4 ∧ k = 9
          · simp [h4]
          · simp [h4]
      rw [this]
      exact hx
  · exact (g_31_7 (br_f (by decide) ⟨rfl, rfl⟩))
/-- what the ranks are -/
theorem rk_spec {f o : Nat → Int32} : ∀ k, k < 2 ^ 31 → (∀ i, i < rkc f k → ∃ l, l < k ∧ rkr f o k i = nI l ∧ ¬ f l ≤ 0) ∧ (∀ i j, i < j → j < rkc f k → rkr f o k i < rkr f o k j) ∧ (∀ l, l < k → ¬ f l ≤ 0 → ∃ i, i < rkc f k ∧ rkr f o k i = nI l)
  | 0, _ => ⟨fun i h => absurd h (by simp [rkc]), fun i j _ h => absurd h (by simp [rkc]), fun l h => absurd h (by omega)⟩
  | k + 1, hk => by
    obtain ⟨a1, a2, a3⟩ := rk_spec (f := f) (o := o) k (by omega)
    unfold rkc rkr
    by_cases h : f k ≤ 0
    · rw [if_pos h, if_pos h]
      refine ⟨fun i hi => ?_, a2, fun l hl hn => ?_⟩
      · obtain ⟨l, b1, b2⟩ := a1 i hi
        exact ⟨l, by omega, b2⟩
      · have : l ≠ k := fun q => hn (q ▸ h)
        exact a3 l (by omega) hn
    · rw [if_neg h, if_neg h]
      refine ⟨fun i hi => ?_, fun i j hij hj => ?_, fun l hl hn => ?_⟩
      · by_cases hik : i = rkc f k
        · subst hik; rw [upd_s]; exact ⟨k, by omega, rfl, h⟩
        · rw [upd_n hik]
          obtain ⟨l, b1, b2⟩ := a1 i (by omega)
          exact ⟨l, by omega, b2⟩
      · by_cases hjk : j = rkc f k
        · subst hjk
          rw [upd_s, upd_n (by omega)]
          obtain ⟨l, b1, b2, b3⟩ := a1 i (by omega)
          rw [b2]
          exact (nI_ltI (by omega) (by omega)).mpr b1
        · rw [upd_n hjk, upd_n (by omega)]
          exact a2 i j hij (by omega)
      · by_cases hlk : l = k
        · subst hlk; exact ⟨rkc f l, by omega, upd_s⟩
        · obtain ⟨i, b1, b2⟩ := a3 l (by omega) hn
          exact ⟨i, by omega, by rw [upd_n (by omega)]; exact b2⟩
/-- no more lines than grains -/
theorem rk_add {f g : Nat → Int32} {a : Nat} (h : ∀ l, l ≠ a → (f l ≤ 0 ↔ g l ≤ 0)) : ∀ k, rkc f k ≤ rkc g k + (if a < k then 1 else 0)
  | 0 => by simp [rkc]
  | k + 1 => by
    have ih := rk_add h k
    unfold rkc
    by_cases hk : k = a
    · subst hk
      rw [if_neg (show ¬ k < k by omega)] at ih
      rw [if_pos (show k < k + 1 by omega)]
      split <;> split <;> omega
    · have := h k hk
      by_cases hf : f k ≤ 0
      · rw [if_pos hf, if_pos (this.mp hf)]
        split at ih <;> split <;> omega
      · rw [if_neg hf, if_neg (fun q => hf (this.mpr q))]
        split at ih <;> split <;> omega
theorem rk_ct {ln : Nat → Int32} : ∀ n, n ≤ 60 → (∀ g, g < n → ∃ l, l < 144 ∧ ln g = nI l) → rkc (fun l => nI (gCt ln (nI l) n)) 144 ≤ n
  | 0, _, _ => by
    have : ∀ k, rkc (fun l => nI (gCt ln (nI l) 0)) k = 0 := by
      intro k
      induction k with
      | zero => rfl
      | succ k ih => unfold rkc; rw [ih]; rfl
    rw [this]
    exact Nat.le_refl 0
  | n + 1, hn, h => by
    obtain ⟨a, ha, ea⟩ := h n (by omega)
    have ih := rk_ct (ln := ln) n (by omega) (fun g hg => h g (by omega))
    have key : ∀ m, m ≤ 144 → rkc (fun l => nI (gCt ln (nI l) (n + 1))) m ≤ rkc (fun l => nI (gCt ln (nI l) n)) m + (if a < m then 1 else 0) := by
      intro m
      induction m with
      | zero => intro _; simp [rkc]
      | succ k ihk =>
        intro hm
        have ihk := ihk (by omega)
        unfold rkc
        by_cases hk : k = a
        · subst hk
          rw [if_neg (show ¬ k < k by omega)] at ihk
          rw [if_pos (show k < k + 1 by omega)]
          split <;> split <;> omega
        · have e : gCt ln (nI k) (n + 1) = gCt ln (nI k) n := by
            rw [gCt, if_neg (by rw [ea]; exact nI_ne (by omega) (by omega) (Ne.symm hk))]; omega
          rw [e]
          split at ihk <;> split <;> split <;> omega
    have := key 144 (by omega)
    split at this <;> omega
