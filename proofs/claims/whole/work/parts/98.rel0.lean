/-! THE START: what the constructors leave keeps Rel -/
theorem s0_V {i : Nat} (h : 12 ≤ i) (k : Nat) : s0.1 i k = s0V i := by
  have h5 : Nat.blt i 12 = false := by
    cases h4 : Nat.blt i 12 with
    | true => have : i < 12 := Nat.le_of_ble_eq_true h4; omega
    | false => rfl
  simp only [s0, h5, cond_false]
theorem rel_0 : Rel s0 := by
  refine ⟨?_, ?_, ?_, ?_, ?_, ?_, ?_, ?_, ?_, ?_, ?_⟩
  · exact ⟨0, by decide, rfl, rfl, fun k hk => absurd hk (Nat.not_lt_zero k)⟩
  · exact ⟨0, by decide, rfl, rfl, fun k hk => absurd hk (Nat.not_lt_zero k), fun k hk => absurd hk (Nat.not_lt_zero k), fun k hk => absurd hk (by omega)⟩
  · refine ⟨0, by decide, rfl, fun l hl => rfl, fun l s hl hs h => absurd h (Nat.lt_irrefl 0), 0, by decide, rfl, fun k hk => absurd hk (Nat.not_lt_zero k), fun i j _ h => absurd h (Nat.not_lt_zero j), fun l hl h => absurd h (Nat.lt_irrefl 0)⟩
  · refine ⟨rfl, by decide, by decide, fun k hk => ?_⟩
    rw [s0_V (by decide), s0_V (by decide), s0_V (by decide), s0_V (by decide)]
    decide
  · exact ⟨0, 0, by decide, by decide, rfl, rfl, rfl, fun k hk => absurd hk (Nat.not_lt_zero k), fun k hk => absurd hk (Nat.not_lt_zero k), fun k hk => absurd hk (Nat.not_lt_zero k), fun k hk => absurd hk (Nat.not_lt_zero k), fun k hk => absurd hk (Nat.not_lt_zero k)⟩
  · refine ⟨⟨0, by decide, rfl, fun m hm => ?_⟩, fun m hm h => ?_, fun i hi => ?_⟩
    · rw [s0_V (by decide)]
      simp only [Nat.zero_testBit, Bool.false_eq_true, false_iff]
      decide
    · rw [s0_V (by decide)] at h
      exact absurd h (by decide)
    · repeat rw [s0_V (by decide)]
      decide
  · refine ⟨fun i hi => ?_, fun d hd => ?_⟩
    · repeat rw [s0_V (by decide)]
      decide
    · repeat rw [s0_V (by decide)]
      decide
  · intro l hl
    refine ⟨Or.inl ?_, ?_, Or.inl ?_⟩
    · repeat rw [s0_V (by decide)]
      decide
    · repeat rw [s0_V (by decide)]
      decide
    · repeat rw [s0_V (by decide)]
      decide
  · refine ⟨fun d hd => Or.inl ?_, fun j hj => ?_⟩
    · repeat rw [s0_V (by decide)]
      decide
    · repeat rw [s0_V (by decide)]
      decide
  · refine ⟨fun d hd => ?_, fun j hj => ?_⟩
    · repeat rw [s0_V (by decide)]
      decide
    · repeat rw [s0_V (by decide)]
      decide
  · refine ⟨0, 0, fun _ => 0, fun _ => 0, by decide, rfl, rfl, ⟨fun _ => rfl, fun _ => rfl⟩, by decide, ⟨rfl, fun k hk => absurd hk (Nat.not_lt_zero k)⟩, fun k hk => absurd hk (Nat.not_lt_zero k), fun h => absurd h (by decide), fun t h => absurd h (Nat.not_lt_zero _), fun _ => rfl, fun t h => absurd h (by omega), fun k hk => absurd hk (Nat.not_lt_zero k), Or.inl rfl, ⟨fun h => absurd h (by decide), fun ⟨t, h, _⟩ => absurd h (Nat.not_lt_zero t)⟩, ⟨fun h => absurd h (by decide), fun ⟨t, h, _⟩ => absurd h (Nat.not_lt_zero t)⟩, rfl⟩
