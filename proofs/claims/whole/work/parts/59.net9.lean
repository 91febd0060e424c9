/-! the model's turns -/
def Ch (L H L' H' : Nat → Int32) : Prop := ∃ u, u < 154 ∧ (L u < L' u ∨ H' u < H u)
theorem Ch.up {L H L1 H1 L2 H2 : Nat → Int32} (h : Ch L H L1 H1) (a : ∀ u, L1 u ≤ L2 u) (b : ∀ u, H2 u ≤ H1 u) : Ch L H L2 H2 := by
  obtain ⟨u, h1, h2⟩ := h
  refine ⟨u, h1, ?_⟩
  rcases h2 with h2 | h2
  · exact Or.inl (Int32.lt_of_lt_of_le h2 (a u))
  · exact Or.inr (Int32.lt_of_le_of_lt (b u) h2)
theorem Ch.dn {L H L1 H1 L2 H2 : Nat → Int32} (h : Ch L1 H1 L2 H2) (a : ∀ u, L u ≤ L1 u) (b : ∀ u, H1 u ≤ H u) : Ch L H L2 H2 := by
  obtain ⟨u, h1, h2⟩ := h
  refine ⟨u, h1, ?_⟩
  rcases h2 with h2 | h2
  · exact Or.inl (Int32.lt_of_le_of_lt (a u) h2)
  · exact Or.inr (Int32.lt_of_lt_of_le h2 (b u))
theorem tw_eq {L : Nat → Int32} {l k : Nat} (h : L l = L k) : tw L l k = L := by
  have h1 : rz L l (L k) = L := if_pos (Int32.le_of_eq h.symm)
  unfold tw
  rw [h1]
  exact if_pos (Int32.le_of_eq h)
theorem tv_eq {L : Nat → Int32} {l k : Nat} (h : L l = L k) : tv L l k = L := by
  have h1 : lz L l (L k) = L := if_neg (fun z => absurd (h ▸ z) Int32.lt_irrefl)
  unfold tv
  rw [h1]
  exact if_neg (fun z => absurd (h ▸ z) Int32.lt_irrefl)
theorem tw_ch {L H : Nat → Int32} {l k : Nat} (hl : l < 154) (hk : k < 154) (ne : l ≠ k) (h : ¬ L l = L k ∨ ¬ H l = H k) : Ch L H (tw L l k) (tv H l k) := by
  rcases h with h | h
  · by_cases q : L l ≤ L k
    · exact ⟨l, hl, Or.inl (Int32.lt_of_lt_of_le (Int32.lt_of_le_of_ne q h) tw_l)⟩
    · refine ⟨k, hk, Or.inl ?_⟩
      rw [tw_gt' ne q, upd_at]
      exact Int32.not_le.mp q
  · by_cases q : H l < H k
    · refine ⟨k, hk, Or.inr ?_⟩
      rw [tv_lt' ne q, upd_at]
      exact q
    · exact ⟨l, hl, Or.inr (Int32.lt_of_le_of_lt tv_l (Int32.lt_of_le_of_ne (Int32.not_lt.mp q) (Ne.symm h)))⟩
theorem PtI.stepM {tE cE : Nat → Nat → Prop} {j d : Nat} {L H L' H' : Nat → Int32} {mv mv' : Int32} (hj : j < 144) (hd : d < 10) (h : PtI tE cE j L H mv L' H' mv') (ht : tE j d) (hu : ∀ e, tE j e → e = d) (hc : ¬ mv' = 0 → ¬ mv = 0 ∨ Ch L H L' H') :
    PtI tE cE (j + 1) L H mv (tw L' j (144 + d)) (tv H' j (144 + d)) (flg L' H' j (144 + d) mv') ∧ (¬ flg L' H' j (144 + d) mv' = 0 → ¬ mv = 0 ∨ Ch L H (tw L' j (144 + d)) (tv H' j (144 + d))) := by
  have a := PtI.step hj hd h ht hu
  obtain ⟨a1, a2, a3, a4, a5, a6, a7, a8, _, _⟩ := a
  refine ⟨⟨a1, a2, a3, a4, a5, a6, a7, a8, pI_01, fun z => ?_⟩, fun z => ?_⟩
  · by_cases q : mv' = 0 ∧ L' j = L' (144 + d) ∧ H' j = H' (144 + d)
    · rw [tw_eq q.2.1, tv_eq q.2.2]
      exact h.2.2.2.2.2.2.2.2.2 q.1
    · rw [flg, pI_t q] at z
      exact absurd z (by decide)
  · by_cases q : mv' = 0
    · refine Or.inr ?_
      have q2 : ¬ L' j = L' (144 + d) ∨ ¬ H' j = H' (144 + d) := by
        by_cases e1 : L' j = L' (144 + d)
        · by_cases e2 : H' j = H' (144 + d)
          · exact absurd (flg_0 q e1 e2) z
          · exact Or.inr e2
        · exact Or.inl e1
      exact (tw_ch (by omega) (by omega) (by omega) q2).dn h.1 h.2.1
    · rcases hc q with c | c
      · exact Or.inl c
      · exact Or.inr (c.up tw_ge tv_le)
/-- the ties' pass of the model, walked -/
theorem s_183ties {σ : St} {L H : Nat → Int32} {w : Int32} (hdy : ∀ l, l < 144 → σ.1 74 l < 0 ∨ ∃ d, d < 10 ∧ σ.1 74 l = nI d) : ∃ r : (Nat → Int32) × (Nat → Int32) × Int32, (PtI (tEd (σ.1 74) (σ.1 75) w) (cEd (σ.1 75)) 144 L H 0 r.1 r.2.1 r.2.2 ∧ (¬ r.2.2 = 0 → Ch L H r.1 r.2.1)) ∧
    ∀ R S, Go 183 281 [.ref 11, .int w, .int r.2.2, .int 0, .null, .null, .null] [] (mst σ r.1 r.2.1) R S → Go 183 87 [.ref 11, .int w, .int 0, .int 0, .null, .null, .null] [] (mst σ L H) R S := by
  refine loopX (α := (Nat → Int32) × (Nat → Int32) × Int32) (β := (Nat → Int32) × (Nat → Int32) × Int32) 144
    (fun j x => PtI (tEd (σ.1 74) (σ.1 75) w) (cEd (σ.1 75)) j L H 0 x.1 x.2.1 x.2.2 ∧ (¬ x.2.2 = 0 → ¬ (0 : Int32) = 0 ∨ Ch L H x.1 x.2.1))
    (fun j x r => ∀ R S, Go 183 281 [.ref 11, .int w, .int r.2.2, .int 0, .null, .null, .null] [] (mst σ r.1 r.2.1) R S → Go 183 87 [.ref 11, .int w, .int x.2.2, .int (nI j), .null, .null, .null] [] (mst σ x.1 x.2.1) R S)
    (fun r => PtI (tEd (σ.1 74) (σ.1 75) w) (cEd (σ.1 75)) 144 L H 0 r.1 r.2.1 r.2.2 ∧ (¬ r.2.2 = 0 → Ch L H r.1 r.2.1)) ?_ ?_ 0 (L, H, 0) (by omega) ?_
  · rintro j ⟨L1, H1, m1⟩ hj ⟨hI, hC⟩
    have lt : nI j < 144 := (nI_ltL (n := 144) rfl (by omega) (by omega)).mpr hj
    by_cases q2 : σ.1 74 j < 0 ∨ ¬ σ.1 75 j = 0
    · refine ⟨(L1, H1, m1), ⟨hI.skip (fun d h => ?_), hC⟩, fun r hr R S k => ?_⟩
      · rcases q2 with q | q
        · rw [h.2.2.1] at q
          exact absurd (nI0 (by have := h.2.1; omega)) (Int32.not_le.mpr q)
        · exact q h.2.2.2.1
      · refine g_183_87 (br_t lt ⟨_, _, s_176f (σ := σ) hj rfl rfl q2, br_t rfl ?_⟩)
        rw [nI_S]; exact hr R S k
    · have q3 : ¬ σ.1 74 j < 0 := fun z => q2 (Or.inl z)
      have q4 : σ.1 75 j = 0 := Classical.byContradiction fun z => q2 (Or.inr z)
      obtain ⟨d, hd, ed⟩ := (hdy j hj).resolve_left q3
      by_cases q1 : nI j = w
      · refine ⟨(L1, H1, m1), ⟨hI.skip (fun d h => h.2.2.2.2 q1), hC⟩, fun r hr R S k => ?_⟩
        refine g_183_87 (br_t lt ⟨_, _, s_176t (σ := σ) hj hd rfl rfl ed q4, br_f (by decide) (br_t q1 ?_)⟩)
        rw [nI_S]; exact hr R S k
      · have hs := hI.stepM hj hd ⟨hj, hd, ed, q4, q1⟩ (fun e h => by
          have := h.2.2.1
          rw [ed] at this
          have h2 := h.2.1
          exact ((nI_eq (by omega) (by omega)).mp this).symm) hC
        refine ⟨(tw L1 j (144 + d), tv H1 j (144 + d), flg L1 H1 j (144 + d) m1), hs, fun r hr R S k => s_183tie hj hd ed q4 q1 ?_⟩
        rw [nI_S]; exact hr R S k
  · rintro ⟨L1, H1, m1⟩ ⟨hI, hC⟩
    exact ⟨(L1, H1, m1), ⟨hI, fun h => (hC h).resolve_left (fun n => n rfl)⟩, fun R S k => g_183_87 (br_f (by decide) k)⟩
  · exact ⟨⟨fun u => Int32.le_refl _, fun u => Int32.le_refl _, fun l d h => by omega, fun l d h => by omega, fun l _ => Or.inl rfl, fun l _ => Or.inl rfl, fun F _ h => h, fun F _ h => h, Or.inl rfl, fun h => ⟨h, rfl, rfl⟩⟩, fun h => absurd rfl h⟩
