/-- the model's sweep, upward -/
theorem s_184u {σ : St} {tE : Nat → Nat → Prop} {L H : Nat → Int32} {m : Int32} {c : Nat} (hc : c < 6) (hm : m = 0 ∨ m = 1) : ∃ r : (Nat → Int32) × Int32, (PuQ (σ.1 75) tE (24 * c) H m r.1 r.2 ∧ (¬ r.2 = 0 → ¬ m = 0 ∨ ∃ u, u < 154 ∧ r.1 u < H u)) ∧
    Go 184 101 [.ref 11, .int (nI (24 * c)), .int m, .null, .int 9999, .int (nI (24 * c) + 23)] [] (mst σ L H) [.int r.2] (mst σ L r.1) := by
  have key := loopX (α := (Nat → Int32) × Int32 × Int32) (β := (Nat → Int32) × Int32) 24
    (fun j x => PuI (σ.1 75) tE (24 * c) j H m x.1 x.2.1 x.2.2)
    (fun j x r => Go 184 101 [.ref 11, .int (nI (24 * c)), .int x.2.2, .null, .int x.2.1, .int (nI (24 * c + 24) - 1 - nI j)] [] (mst σ L x.1) [.int r.2] (mst σ L r.1))
    (fun r => PuQ (σ.1 75) tE (24 * c) H m r.1 r.2 ∧ (¬ r.2 = 0 → ¬ m = 0 ∨ ∃ u, u < 154 ∧ r.1 u < H u)) ?_ ?_ 0 (H, 9999, m) (by omega) (PuI.zero hm)
  · obtain ⟨r, h1, h2⟩ := key
    refine ⟨r, h1, ?_⟩
    have e : nI (24 * c + 24) - 1 - nI 0 = nI (24 * c) + 23 := by
      rw [nI_0, ← nI_add, show nI 24 = (24 : Int32) from rfl]
      generalize nI (24 * c) = x
      grind
    rw [e] at h2
    exact h2
  · rintro j ⟨H1, f, m1⟩ hj hI
    obtain ⟨k, ek⟩ : ∃ k, k + j + 1 = 24 * c + 24 := ⟨24 * c + 23 - j, by omega⟩
    have ev : nI (24 * c + 24) - 1 - nI j = nI k := by
      rw [← ek, ← nI_add, ← nI_add]
      exact e_pu1 (nI k) (nI j)
    have ev1 : nI k + (-1) = nI (24 * c + 24) - 1 - nI (j + 1) := by
      rw [← ev, ← nI_S (i := j)]
      exact e_pu2 (nI (24 * c + 24)) (nI j)
    have ei : (nI k).toNatClampNeg = k := clN (by omega)
    have nlt : ¬ nI k < nI (24 * c) := by
      rw [nI_ltI (by omega) (by omega)]; omega
    have gi : vp_in (nI k) 144 := vp_in_nI (by omega) (by decide)
    by_cases q : σ.1 75 k = 0
    · refine ⟨(lz H1 k f, lz H1 k f k, lzm H1 k f m1), hI.step hc hj ek q, fun r hr => ?_⟩
      show Go 184 101 [.ref 11, .int (nI (24 * c)), .int m1, .null, .int f, .int (nI (24 * c + 24) - 1 - nI j)] [] (mst σ L H1) [.int r.2] (mst σ L r.1)
      rw [ev]
      refine g_184_101 (br_f nlt ⟨gi, br_t (by rw [ei]; exact q) ?_⟩)
      rw [ei, mst_89 (by omega), mst_w89 (by omega), mst_w89 (by omega), mst_89 (by omega), mst_89 (by omega), upd_self, upd_at, ev1]
      by_cases w : f < H1 k
      · have e1 : lz H1 k f = upd H1 k f := if_pos w
        have e2 : lzm H1 k f m1 = 1 := if_pos w
        rw [e1, e2, upd_at] at hr
        have nw : ¬ H1 k ≤ f := Int32.not_le.mpr w
        by_cases z : m1 = 0
        · exact br_t z (br_f nw hr)
        · exact br_f z (br_f nw hr)
      · have e1 : lz H1 k f = H1 := if_neg w
        have e2 : lzm H1 k f m1 = m1 := if_neg w
        rw [e1, e2] at hr
        have nw : H1 k ≤ f := Int32.not_lt.mp w
        by_cases z : m1 = 0
        · rw [z] at hr
          exact br_t z (br_t nw hr)
        · have z1 : m1 = 1 := (hI.2.2.2.2.2.1).resolve_left z
          rw [z1] at hr
          exact br_f z (br_t nw hr)
    · refine ⟨(H1, f, m1), hI.skip ek q, fun r hr => ?_⟩
      show Go 184 101 [.ref 11, .int (nI (24 * c)), .int m1, .null, .int f, .int (nI (24 * c + 24) - 1 - nI j)] [] (mst σ L H1) [.int r.2] (mst σ L r.1)
      rw [ev]
      refine g_184_101 (br_f nlt ⟨gi, br_f (by rw [ei]; exact q) ?_⟩)
      rw [ev1]
      exact hr
  · rintro ⟨H1, f, m1⟩ hI
    refine ⟨(H1, m1), hI.done, g_184_101 (br_t ?_ ⟨hI.2.2.2.2.2.1, rfl, rfl⟩)⟩
    have : nI (24 * c + 24) - 1 - nI 24 = nI (24 * c) - 1 := by
      rw [← nI_add]
      generalize nI (24 * c) = x
      generalize nI 24 = y
      grind
    show nI (24 * c + 24) - 1 - nI 24 < nI (24 * c)
    rw [this]
    have h0 : 0 ≤ nI (24 * c) := nI0 (by omega)
    grind
/-- the model's sweep of a core -/
theorem s_184 {σ : St} {tE : Nat → Nat → Prop} {L H : Nat → Int32} {c : Nat} (hc : c < 6) : ∃ r : (Nat → Int32) × (Nat → Int32) × Int32, ∃ m : Int32, PdQ (σ.1 75) tE (24 * c) L 0 r.1 m ∧ PuQ (σ.1 75) tE (24 * c) H m r.2.1 r.2.2 ∧ (¬ r.2.2 = 0 → ∃ u, u < 154 ∧ (L u < r.1 u ∨ r.2.1 u < H u)) ∧
    Ret 184 [.ref 11, .int (nI (24 * c))] (mst σ L H) [.int r.2.2] (mst σ r.1 r.2.1) := by
  obtain ⟨r1, ⟨h1, h2⟩, h3⟩ := s_184d (σ := σ) (tE := tE) (L := L) (H := H) hc
  obtain ⟨r2, ⟨h4, h5⟩, h6⟩ := s_184u (σ := σ) (tE := tE) (L := r1.1) (H := H) (m := r1.2) hc h1.2.2.2.2.1
  refine ⟨(r1.1, r2.1, r2.2), r1.2, h1, h4, fun h => ?_, g_184_0 (h3 _ _ h6)⟩
  rcases h5 h with z | ⟨u, z1, z2⟩
  · obtain ⟨u, e1, e2⟩ := h2 z
    exact ⟨u, e1, Or.inl e2⟩
  · exact ⟨u, z1, Or.inr z2⟩
