/-! a turn of the model: ties, then cores -/
def MtQ (sk : Nat → Int32) (tE : Nat → Nat → Prop) (L H L' H' : Nat → Int32) (m : Int32) : Prop :=
  (∀ u, L u ≤ L' u) ∧ (∀ u, H' u ≤ H u) ∧ (∀ F : Nat → Int, Clo (cEd sk) tE F → (∀ u, iv L u ≤ F u) → (∀ u, 0 ≤ F u) → ∀ u, iv L' u ≤ F u) ∧ (∀ F : Nat → Int, Clo (cEd sk) tE F → (∀ u, F u ≤ iv H u) → (∀ u, F u ≤ 9999) → ∀ u, F u ≤ iv H' u) ∧
  (m = 0 ∨ m = 1) ∧ (m = 0 → L' = L ∧ H' = H ∧ Clo (cEd sk) tE (iv L) ∧ Clo (cEd sk) tE (iv H)) ∧ (¬ m = 0 → Ch L H L' H')
theorem MtQ.mk' {sk : Nat → Int32} {tE : Nat → Nat → Prop} {L H L1 H1 L2 H2 : Nat → Int32} {m1 m2 : Int32} (ht : ∀ l d, tE l d → l < 144 ∧ d < 10)
    (hp : PtI tE (cEd sk) 144 L H 0 L1 H1 m1) (hc : PcI sk tE 6 L1 H1 m1 L2 H2 m2) (h1 : ¬ m1 = 0 → Ch L H L1 H1) (h2 : ¬ m2 = 0 → ¬ m1 = 0 ∨ Ch L1 H1 L2 H2) : MtQ sk tE L H L2 H2 m2 := by
  obtain ⟨a1, a2, a3, a4, a5, a6, a7⟩ := hc
  obtain ⟨b1, b2, b3, b4, b5, b6, b7, b8, b9, b10⟩ := hp
  refine ⟨fun u => Int32.le_trans (b1 u) (a1 u), fun u => Int32.le_trans (a2 u) (b2 u), fun F hF h0 hz => a4 F hF (b7 F hF h0) hz, fun F hF h0 hz => a5 F hF (b8 F hF h0) hz, a6, fun h => ?_, fun h => ?_⟩
  · obtain ⟨c1, c2, c3⟩ := a7 h
    obtain ⟨_, c4, c5⟩ := b10 c1
    rw [c2, c3, c4, c5] at a3
    rw [c4] at b3
    rw [c5] at b4
    refine ⟨by rw [c2, c4], by rw [c3, c5], ⟨fun i j hij => ?_, fun l d hld => ?_⟩, ⟨fun i j hij => ?_, fun l d hld => ?_⟩⟩
    · have r := cEd_rng i j hij
      rw [iv_lt (by omega), iv_lt (by omega)]
      exact toI_le.mp (a3 i j hij (by omega)).1
    · have r := ht l d hld
      rw [iv_lt (by omega), iv_lt (by omega)]
      have := b3 l d r.1 hld
      exact Int.le_antisymm (toI_le.mp this.2) (toI_le.mp this.1)
    · have r := cEd_rng i j hij
      rw [iv_lt (by omega), iv_lt (by omega)]
      exact toI_le.mp (a3 i j hij (by omega)).2
    · have r := ht l d hld
      rw [iv_lt (by omega), iv_lt (by omega)]
      have := b4 l d r.1 hld
      exact Int.le_antisymm (toI_le.mp this.1) (toI_le.mp this.2)
  · by_cases z : m1 = 0
    · rcases h2 h with q | q
      · exact absurd z q
      · exact q.dn b1 b2
    · exact (h1 z).up a1 a2
theorem PcI.stepM {sk : Nat → Int32} {tE : Nat → Nat → Prop} {c : Nat} {L H L' H' L2 H2 : Nat → Int32} {mv m1 m2 m3 m4 : Int32} (hI : PcI sk tE c L H mv L' H' m1) (hd : PdQ sk tE (24 * c) L' 0 L2 m2) (hu : PuQ sk tE (24 * c) H' m2 H2 m3) (h4 : m4 = 0 ∨ m4 = 1) (h5 : m4 = 0 → m1 = 0 ∧ m3 = 0) : PcI sk tE (c + 1) L H mv L2 H2 m4 := by
  obtain ⟨a1, a2, a3, a4, a5, a6, a7⟩ := hI
  obtain ⟨b1, b2, b3, b4, b5, b6⟩ := hd
  obtain ⟨c1, c2, c3, c4, c5, c6⟩ := hu
  refine ⟨fun u => Int32.le_trans (a1 u) (b1 u), fun u => Int32.le_trans (c1 u) (a2 u), fun i j hij hc => ?_, fun F hF h1 h0 => b4 F hF (a4 F hF h1 h0) h0, fun F hF h1 h0 => c4 F hF (a5 F hF h1 h0) h0, h4, fun h => ?_⟩
  · obtain ⟨e1, e2, e3, e4, e5⟩ := hij
    by_cases e : i / 24 = c
    · exact ⟨b3 i j (by omega) e1 (by omega) e4 e5, c3 i j (by omega) e1 (by omega) e4 e5⟩
    · rw [b2 i (by omega), b2 j (by omega), c2 i (by omega), c2 j (by omega)]
      exact a3 i j ⟨e1, e2, e3, e4, e5⟩ (by omega)
  · obtain ⟨h6, h7⟩ := h5 h
    obtain ⟨h1, h2⟩ := c6 h7
    obtain ⟨h3, h4⟩ := b6 h1
    rw [h2, h4]
    exact a7 h6
theorem mturn {σ : St} {L H : Nat → Int32} {w : Int32} (hdy : ∀ l, l < 144 → σ.1 74 l < 0 ∨ ∃ d, d < 10 ∧ σ.1 74 l = nI d) : ∃ r : (Nat → Int32) × (Nat → Int32) × Int32, MtQ (σ.1 75) (tEd (σ.1 74) (σ.1 75) w) L H r.1 r.2.1 r.2.2 ∧
    ∀ R S, Go 183 79 [.ref 11, .int w, .int r.2.2, .null, .null, .null, .null] [] (mst σ r.1 r.2.1) R S → Go 183 87 [.ref 11, .int w, .int 0, .int 0, .null, .null, .null] [] (mst σ L H) R S := by
  obtain ⟨⟨L1, H1, m1⟩, ⟨p1, p2⟩, p3⟩ := s_183ties (σ := σ) (L := L) (H := H) (w := w) hdy
  have key := loopX (α := (Nat → Int32) × (Nat → Int32) × Int32) (β := (Nat → Int32) × (Nat → Int32) × Int32) 6
    (fun c x => PcI (σ.1 75) (tEd (σ.1 74) (σ.1 75) w) c L1 H1 m1 x.1 x.2.1 x.2.2 ∧ (¬ x.2.2 = 0 → ¬ m1 = 0 ∨ Ch L1 H1 x.1 x.2.1))
    (fun c x r => ∀ R S, Go 183 79 [.ref 11, .int w, .int r.2.2, .null, .null, .null, .null] [] (mst σ r.1 r.2.1) R S → Go 183 281 [.ref 11, .int w, .int x.2.2, .int (nI c), .null, .null, .null] [] (mst σ x.1 x.2.1) R S)
    (fun r => MtQ (σ.1 75) (tEd (σ.1 74) (σ.1 75) w) L H r.1 r.2.1 r.2.2) ?_ ?_ 0 (L1, H1, m1) (by omega) ?_
  · obtain ⟨r, h1, h2⟩ := key
    exact ⟨r, h1, fun R S k => p3 R S (h2 R S k)⟩
  · rintro c ⟨L2, H2, m2⟩ hc ⟨hI, hC⟩
    obtain ⟨⟨L3, H3, m3⟩, m, h1, h2, h3, h4⟩ := s_184 (σ := σ) (tE := tEd (σ.1 74) (σ.1 75) w) (L := L2) (H := H2) hc
    have lt : nI c < 6 := (nI_ltL (n := 6) rfl (by omega) (by omega)).mpr hc
    have em : 24 * nI c = nI (24 * c) := by
      have := mul24' (a := c) (b := 0)
      rw [nI_0, Int32.add_zero] at this
      exact this
    refine ⟨(L3, H3, pI (¬ (m2 = 0 ∧ m3 = 0))), ⟨hI.stepM h1 h2 pI_01 (fun z => ?_), fun z => ?_⟩, fun r hr R S k => g_183_281 (br_t lt ?_)⟩
    · apply Classical.byContradiction
      intro q
      rw [pI_t q] at z
      exact absurd (show (1 : Int32) = 0 from z) (by decide)
    · by_cases z2 : m2 = 0
      · by_cases z3 : m3 = 0
        · exact absurd (pI_f (fun n => n ⟨z2, z3⟩)) z
        · exact Or.inr (Ch.dn (h3 z3) hI.1 hI.2.1)
      · rcases hC z2 with q | q
        · exact Or.inl q
        · exact Or.inr (q.up h1.1 h2.1)
    · have hr := hr R S k
      rw [em]
      refine ⟨_, _, h4, ?_⟩
      rw [nI_S]
      by_cases z3 : m3 = 0
      · by_cases z2 : m2 = 0
        · have e : pI (¬ (m2 = 0 ∧ m3 = 0)) = 0 := pI_f (fun n => n ⟨z2, z3⟩)
          rw [e] at hr
          exact br_t z3 (br_t z2 hr)
        · have e : pI (¬ (m2 = 0 ∧ m3 = 0)) = 1 := pI_t (fun n => z2 n.1)
          rw [e] at hr
          exact br_t z3 (br_f z2 hr)
      · have e : pI (¬ (m2 = 0 ∧ m3 = 0)) = 1 := pI_t (fun n => z3 n.2)
        rw [e] at hr
        exact br_f z3 hr
  · rintro ⟨L2, H2, m2⟩ ⟨hI, hC⟩
    exact ⟨(L2, H2, m2), MtQ.mk' tEd_rng p1 hI p2 hC, fun R S k => g_183_281 (br_f (by decide) k)⟩
  · exact ⟨⟨fun u => Int32.le_refl _, fun u => Int32.le_refl _, fun i j _ h => by omega, fun F _ h _ => h, fun F _ h _ => h, p1.2.2.2.2.2.2.2.2.1, fun h => ⟨h, rfl, rfl⟩⟩, fun h => Or.inl h⟩
