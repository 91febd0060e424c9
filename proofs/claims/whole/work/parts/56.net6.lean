/-- up a core, after j inches of it -/
def PuI (sk : Nat → Int32) (tE : Nat → Nat → Prop) (top j : Nat) (H : Nat → Int32) (mv : Int32) (H' : Nat → Int32) (f mv' : Int32) : Prop :=
  (∀ u, H' u ≤ H u) ∧ (∀ u, u + j < top + 24 ∨ top + 24 ≤ u → H' u = H u) ∧ (∀ a b, top + 24 ≤ a + j → a < b → b < top + 24 → sk a = 0 → sk b = 0 → H' a ≤ H' b) ∧
      (∀ b, top + 24 ≤ b + j → b < top + 24 → sk b = 0 → f ≤ H' b) ∧
      (∀ F : Nat → Int, Clo (cEd sk) tE F → (∀ u, F u ≤ iv H u) → (∀ u, F u ≤ 9999) → (∀ u, F u ≤ iv H' u) ∧ ∀ a, top ≤ a → a + j < top + 24 → sk a = 0 → F a ≤ f.toInt) ∧ (mv' = 0 ∨ mv' = 1) ∧ (mv' = 0 → mv = 0 ∧ H' = H) ∧ (¬ mv' = 0 → ¬ mv = 0 ∨ ∃ u, u < 154 ∧ H' u < H u)
theorem PuI.step {sk : Nat → Int32} {tE : Nat → Nat → Prop} {c j k : Nat} {H H1 : Nat → Int32} {mv f m1 : Int32} (hc : c < 6) (hj : j < 24) (ek : k + j + 1 = 24 * c + 24) (hI : PuI sk tE (24 * c) j H mv H1 f m1) (q : sk k = 0) :
    PuI sk tE (24 * c) (j + 1) H mv (lz H1 k f) (lz H1 k f k) (lzm H1 k f m1) := by
  obtain ⟨a1, a2, a3, a4, a5, a6, a7, a8⟩ := hI
  refine ⟨?_, ?_, ?_, ?_, ?_, lzm_01 a6, ?_, ?_⟩
  · exact fun u => Int32.le_trans (lz_le u) (a1 u)
  · intro u hu
    rw [lz_ne (by omega)]
    exact a2 u (by omega)
  · intro a b h1 h2 h3 h4 h5
    rw [lz_ne (show b ≠ k by omega)]
    by_cases e : a = k
    · subst e
      exact Int32.le_trans lz_v (a4 b (by omega) h3 h5)
    · rw [lz_ne e]
      exact a3 a b (by omega) h2 h3 h4 h5
  · intro b h1 h2 h3
    by_cases e : b = k
    · subst e; exact Int32.le_refl _
    · rw [lz_ne e]
      exact Int32.le_trans lz_v (a4 b (by omega) h2 h3)
  · intro F hF hLF h0
    obtain ⟨b1, b2⟩ := a5 F hF hLF h0
    have hm := lz_mx (k := k) (v := f) (by omega) b1 (b2 k (by omega) (by omega) q)
    refine ⟨hm, fun a h1 h2 h3 => ?_⟩
    have := hm k
    rw [iv_lt (by omega)] at this
    exact Int.le_trans (hF.1 _ _ ⟨by omega, by omega, by omega, h3, q⟩) this
  · intro hz
    obtain ⟨h1, h2⟩ := lzm_0 hz
    rw [h2]
    exact a7 h1
  · intro hz
    unfold lzm at hz
    by_cases w : f < H1 k
    · refine Or.inr ⟨k, by omega, ?_⟩
      rw [lz_at, if_pos ⟨rfl, w⟩]
      exact Int32.lt_of_lt_of_le w (a1 _)
    · rw [if_neg w] at hz
      rcases a8 hz with h | ⟨u, h1, h2⟩
      · exact Or.inl h
      · exact Or.inr ⟨u, h1, Int32.lt_of_le_of_lt (lz_le u) h2⟩
theorem PuI.skip {sk : Nat → Int32} {tE : Nat → Nat → Prop} {top j k : Nat} {H H1 : Nat → Int32} {mv f m1 : Int32} (ek : k + j + 1 = top + 24) (hI : PuI sk tE top j H mv H1 f m1) (q : ¬ sk k = 0) : PuI sk tE top (j + 1) H mv H1 f m1 := by
  obtain ⟨a1, a2, a3, a4, a5, a6, a7, a8⟩ := hI
  refine ⟨a1, fun u hu => a2 u (by omega), fun a b h1 h2 h3 h4 h5 => ?_, fun b h1 h2 h3 => ?_, fun F hF hLF h0 => ?_, a6, a7, a8⟩
  · have : a ≠ k := fun e => q (e ▸ h4)
    exact a3 a b (by omega) h2 h3 h4 h5
  · have : b ≠ k := fun e => q (e ▸ h3)
    exact a4 b (by omega) h2 h3
  · obtain ⟨b1, b2⟩ := a5 F hF hLF h0
    exact ⟨b1, fun a h1 h2 h3 => b2 a h1 (by omega) h3⟩
theorem PuI.zero {sk : Nat → Int32} {tE : Nat → Nat → Prop} {top : Nat} {H : Nat → Int32} {mv : Int32} (hm : mv = 0 ∨ mv = 1) : PuI sk tE top 0 H mv H 9999 mv :=
  ⟨fun u => Int32.le_refl _, fun u _ => rfl, fun a b h1 h2 h3 => by omega, fun a h1 h2 => by omega, fun F hF hLF h0 => ⟨hLF, fun b _ _ _ => h0 b⟩, hm, fun h => ⟨h, rfl⟩, fun h => Or.inl h⟩
theorem PuI.done {sk : Nat → Int32} {tE : Nat → Nat → Prop} {top : Nat} {H H1 : Nat → Int32} {mv f m1 : Int32} (hI : PuI sk tE top 24 H mv H1 f m1) : PuQ sk tE top H mv H1 m1 ∧ (¬ m1 = 0 → ¬ mv = 0 ∨ ∃ u, u < 154 ∧ H1 u < H u) := by
  obtain ⟨a1, a2, a3, a4, a5, a6, a7, a8⟩ := hI
  exact ⟨⟨a1, fun u hu => a2 u (by omega), fun a b h1 h2 h3 h4 h5 => a3 a b (by omega) h2 h3 h4 h5, fun F hF hLF h0 => (a5 F hF hLF h0).1, a6, a7⟩, a8⟩
theorem upd_self {L : Nat → Int32} {k : Nat} : upd L k (L k) = L := by
  funext u
  unfold upd
  by_cases e : u = k
  · simp [e]
  · simp [e]
theorem upd_at {L : Nat → Int32} {k : Nat} {x : Int32} : upd L k x k = x := by unfold upd; simp
/-- the model's sweep, downward -/
theorem s_184d {σ : St} {tE : Nat → Nat → Prop} {L H : Nat → Int32} {c : Nat} (hc : c < 6) : ∃ r : (Nat → Int32) × Int32, (PdQ (σ.1 75) tE (24 * c) L 0 r.1 r.2 ∧ (¬ r.2 = 0 → ∃ u, u < 154 ∧ L u < r.1 u)) ∧
    ∀ R S, Go 184 101 [.ref 11, .int (nI (24 * c)), .int r.2, .null, .int 9999, .int (nI (24 * c) + 23)] [] (mst σ r.1 H) R S → Go 184 7 [.ref 11, .int (nI (24 * c)), .int 0, .int 0, .int (nI (24 * c)), .null] [] (mst σ L H) R S := by
  refine loopX (α := (Nat → Int32) × Int32 × Int32) (β := (Nat → Int32) × Int32) 24
    (fun j x => PdI (σ.1 75) tE (24 * c) j L 0 x.1 x.2.1 x.2.2)
    (fun j x r => ∀ R S, Go 184 101 [.ref 11, .int (nI (24 * c)), .int r.2, .null, .int 9999, .int (nI (24 * c) + 23)] [] (mst σ r.1 H) R S → Go 184 7 [.ref 11, .int (nI (24 * c)), .int x.2.2, .int x.2.1, .int (nI (24 * c + j)), .null] [] (mst σ x.1 H) R S)
    (fun r => PdQ (σ.1 75) tE (24 * c) L 0 r.1 r.2 ∧ (¬ r.2 = 0 → ∃ u, u < 154 ∧ L u < r.1 u)) ?_ ?_ 0 (L, 0, 0) (by omega) (PdI.zero (Or.inl rfl))
  · rintro j ⟨L1, f, m1⟩ hj hI
    have ei : (nI (24 * c + j)).toNatClampNeg = 24 * c + j := clN (by omega)
    have lt : nI (24 * c + j) < nI (24 * c) + 24 := by
      rw [show (24 : Int32) = nI 24 from rfl, nI_add]
      exact (nI_ltI (by omega) (by omega)).mpr (by omega)
    have gi : vp_in (nI (24 * c + j)) 144 := vp_in_nI (by omega) (by decide)
    by_cases q : σ.1 75 (24 * c + j) = 0
    · refine ⟨(rz L1 (24 * c + j) f, rz L1 (24 * c + j) f (24 * c + j), rzm L1 (24 * c + j) f m1), hI.step hc hj q, fun r hr R S k => ?_⟩
      have hr := hr R S k
      refine g_184_7 (br_t lt ⟨gi, br_t (by rw [ei]; exact q) ?_⟩)
      rw [ei, mst_88 (by omega), mst_w88 (by omega), mst_w88 (by omega), mst_88 (by omega), mst_88 (by omega), upd_self, upd_at, nI_S]
      by_cases w : f ≤ L1 (24 * c + j)
      · have e1 : rz L1 (24 * c + j) f = L1 := if_pos w
        have e2 : rzm L1 (24 * c + j) f m1 = m1 := if_pos w
        rw [e1, e2] at hr
        have nw : ¬ L1 (24 * c + j) < f := Int32.not_lt.mpr w
        by_cases z : m1 = 0
        · rw [z] at hr
          exact br_t z (br_f nw hr)
        · have z1 : m1 = 1 := (hI.2.2.2.2.2.1).resolve_left z
          rw [z1] at hr
          exact br_f z (br_f nw hr)
      · have e1 : rz L1 (24 * c + j) f = upd L1 (24 * c + j) f := if_neg w
        have e2 : rzm L1 (24 * c + j) f m1 = 1 := if_neg w
        rw [e1, e2, upd_at] at hr
        have nw : L1 (24 * c + j) < f := Int32.not_le.mp w
        by_cases z : m1 = 0
        · exact br_t z (br_t nw hr)
        · exact br_f z (br_t nw hr)
    · refine ⟨(L1, f, m1), hI.skip q, fun r hr R S k => ?_⟩
      refine g_184_7 (br_t lt ⟨gi, br_f (by rw [ei]; exact q) ?_⟩)
      rw [nI_S]
      exact hr R S k
  · rintro ⟨L1, f, m1⟩ hI
    refine ⟨(L1, m1), ⟨hI.done.1, fun h => (hI.done.2 h).resolve_left (fun n => n rfl)⟩, fun R S k => g_184_7 (br_f ?_ k)⟩
    rw [show (24 : Int32) = nI 24 from rfl, nI_add]
    exact Int32.lt_irrefl
