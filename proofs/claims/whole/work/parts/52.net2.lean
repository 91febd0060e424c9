theorem e_pu1 (x y : Int32) : x + y + nI 1 - 1 - y = x := by
  rw [show nI 1 = (1 : Int32) from rfl]
  grind
theorem e_pu2 (x y : Int32) : x - 1 - y + (-1) = x - 1 - (y + 1) := by grind
def PuQ (sk : Nat → Int32) (tE : Nat → Nat → Prop) (top : Nat) (H : Nat → Int32) (mv : Int32) (H' : Nat → Int32) (mv' : Int32) : Prop :=
  (∀ u, H' u ≤ H u) ∧ (∀ u, u < top ∨ top + 24 ≤ u → H' u = H u) ∧ (∀ a b, top ≤ a → a < b → b < top + 24 → sk a = 0 → sk b = 0 → H' a ≤ H' b) ∧
  (∀ F : Nat → Int, Clo (cEd sk) tE F → (∀ u, F u ≤ iv H u) → (∀ u, F u ≤ 9999) → ∀ u, F u ≤ iv H' u) ∧ (mv' = 0 ∨ mv' = 1) ∧ (mv' = 0 → mv = 0 ∧ H' = H)
theorem s_2 {σ : St} {tE : Nat → Nat → Prop} {L H : Nat → Int32} {mv : Int32} {c : Nat} (hc : c < 6) (hm : mv = 0 ∨ mv = 1) : ∃ r : (Nat → Int32) × Int32, PuQ (σ.1 48) tE (24 * c) H mv r.1 r.2 ∧ Ret 2 [.ref 0, .int (nI (24 * c))] (nst σ L H mv) [] (nst σ L r.1 r.2) := by
  have key := loopX (α := (Nat → Int32) × Int32 × Int32) (β := (Nat → Int32) × Int32) 24
    (fun j x => (∀ u, x.1 u ≤ H u) ∧ (∀ u, u + j < 24 * c + 24 ∨ 24 * c + 24 ≤ u → x.1 u = H u) ∧ (∀ a b, 24 * c + 24 ≤ a + j → a < b → b < 24 * c + 24 → σ.1 48 a = 0 → σ.1 48 b = 0 → x.1 a ≤ x.1 b) ∧
      (∀ b, 24 * c + 24 ≤ b + j → b < 24 * c + 24 → σ.1 48 b = 0 → x.2.1 ≤ x.1 b) ∧
      (∀ F : Nat → Int, Clo (cEd (σ.1 48)) tE F → (∀ u, F u ≤ iv H u) → (∀ u, F u ≤ 9999) → (∀ u, F u ≤ iv x.1 u) ∧ ∀ a, 24 * c ≤ a → a + j < 24 * c + 24 → σ.1 48 a = 0 → F a ≤ x.2.1.toInt) ∧ (x.2.2 = 0 ∨ x.2.2 = 1) ∧ (x.2.2 = 0 → mv = 0 ∧ x.1 = H))
    (fun j x r => Go 2 11 [.ref 0, .int (nI (24 * c)), .int x.2.1, .int (nI (24 * c + 24) - 1 - nI j)] [] (nst σ L x.1 x.2.2) [] (nst σ L r.1 r.2))
    (fun r => PuQ (σ.1 48) tE (24 * c) H mv r.1 r.2) ?_ ?_ 0 (H, 9999, mv) (by omega) ?_
  · obtain ⟨r, h1, h2⟩ := key
    refine ⟨r, h1, g_2_0 ?_⟩
    rw [show (24 : Int32) = nI 24 from rfl, nI_add]
    have e : nI (24 * c + 24) - 1 - nI 0 = nI (24 * c + 24) - 1 := by rw [nI_0]; grind
    rw [e] at h2
    exact h2
  · rintro j ⟨H1, f, m1⟩ hj ⟨a1, a2, a3, a4, a5, a6, a7⟩
    obtain ⟨k, ek⟩ : ∃ k, k + j + 1 = 24 * c + 24 := ⟨24 * c + 23 - j, by omega⟩
    have ev : nI (24 * c + 24) - 1 - nI j = nI k := by
      rw [← ek, ← nI_add, ← nI_add]
      exact e_pu1 (nI k) (nI j)
    have ev1 : nI k + (-1) = nI (24 * c + 24) - 1 - nI (j + 1) := by
      rw [← ev, ← nI_S (i := j)]
      exact e_pu2 (nI (24 * c + 24)) (nI j)
    have ei : (nI k).toNatClampNeg = k := clN (by omega)
    have nlt : ¬ nI k < nI (24 * c) := by
      rw [nI_ltI (by omega) (by omega)]; omega
    have gi : vp_in (nI k) 144 := vp_in_nI (by omega) (by decide)
    by_cases q : σ.1 48 k = 0
    · refine ⟨(lz H1 k f, lz H1 k f k, lzm H1 k f m1), ⟨?_, ?_, ?_, ?_, ?_, ?_, ?_⟩, fun r hr => ?_⟩
      · exact fun u => Int32.le_trans (lz_le u) (a1 u)
      · intro u hu
        show lz H1 k f u = H u
        rw [lz_ne (by omega)]
        exact a2 u (by omega)
      · intro a b h1 h2 h3 h4 h5
        show lz H1 k f a ≤ lz H1 k f b
        rw [lz_ne (show b ≠ k by omega)]
        by_cases e : a = k
        · subst e
          exact Int32.le_trans lz_v (a4 b (by omega) h3 h5)
        · rw [lz_ne e]
          exact a3 a b (by omega) h2 h3 h4 h5
      · intro b h1 h2 h3
        show lz H1 k f k ≤ lz H1 k f b
        by_cases e : b = k
        · subst e; exact Int32.le_refl _
        · rw [lz_ne e]
          exact Int32.le_trans lz_v (a4 b (by omega) h2 h3)
      · intro F hF hLF h0
        obtain ⟨b1, b2⟩ := a5 F hF hLF h0
        have hat : F k ≤ (lz H1 k f k).toInt := by
          rw [lz_at]
          split
          · exact b2 k (by omega) (by omega) q
          · have := b1 k; rw [iv_lt (by omega)] at this; exact this
        refine ⟨fun u => ?_, fun a h1 h2 h3 => ?_⟩
        · show F u ≤ iv (lz H1 k f) u
          by_cases e : u = k
          · subst e; rw [iv_lt (by omega)]; exact hat
          · have := b1 u
            unfold iv at this ⊢
            rw [lz_ne e]
            exact this
        · exact Int.le_trans (hF.1 _ _ ⟨by omega, by omega, by omega, h3, q⟩) hat
      · show lzm H1 k f m1 = 0 ∨ lzm H1 k f m1 = 1
        unfold lzm
        split
        · exact Or.inr rfl
        · exact a6
      · intro hz
        have hz : lzm H1 k f m1 = 0 := hz
        unfold lzm at hz
        by_cases w : f < H1 k
        · rw [if_pos w] at hz
          exact absurd hz (by decide)
        · rw [if_neg w] at hz
          obtain ⟨c1, c2⟩ := a7 hz
          refine ⟨c1, ?_⟩
          show lz H1 k f = H
          unfold lz
          rw [if_neg w]
          exact c2
      · show Go 2 11 [.ref 0, .int (nI (24 * c)), .int f, .int (nI (24 * c + 24) - 1 - nI j)] [] (nst σ L H1 m1) [] (nst σ L r.1 r.2)
        rw [ev]
        refine g_2_11 (br_f nlt ⟨gi, br_t (by rw [ei]; exact q) ⟨_, s_5 (by omega), vp_in_nI (by omega) (by decide), ?_⟩⟩)
        rw [ei, ev1]
        exact hr
    · refine ⟨(H1, f, m1), ⟨a1, fun u hu => a2 u (by omega), fun a b h1 h2 h3 h4 h5 => ?_, fun b h1 h2 h3 => ?_, fun F hF hLF h0 => ?_, a6, a7⟩, fun r hr => ?_⟩
      · have : a ≠ k := fun e => q (e ▸ h4)
        exact a3 a b (by omega) h2 h3 h4 h5
      · have : b ≠ k := fun e => q (e ▸ h3)
        exact a4 b (by omega) h2 h3
      · obtain ⟨b1, b2⟩ := a5 F hF hLF h0
        exact ⟨b1, fun a h1 h2 h3 => b2 a h1 (by omega) h3⟩
      · show Go 2 11 [.ref 0, .int (nI (24 * c)), .int f, .int (nI (24 * c + 24) - 1 - nI j)] [] (nst σ L H1 m1) [] (nst σ L r.1 r.2)
        rw [ev]
        refine g_2_11 (br_f nlt ⟨gi, br_f (by rw [ei]; exact q) ?_⟩)
        rw [ev1]
        exact hr
  · rintro ⟨H1, f, m1⟩ ⟨a1, a2, a3, a4, a5, a6, a7⟩
    refine ⟨(H1, m1), ⟨a1, fun u hu => a2 u (by omega), fun a b h1 h2 h3 h4 h5 => a3 a b (by omega) h2 h3 h4 h5, fun F hF hLF h0 => (a5 F hF hLF h0).1, a6, a7⟩, g_2_11 (br_t ?_ ⟨rfl, rfl⟩)⟩
    have : nI (24 * c + 24) - 1 - nI 24 = nI (24 * c) - 1 := by
      rw [← nI_add]
      grind
    show nI (24 * c + 24) - 1 - nI 24 < nI (24 * c)
    rw [this]
    have h0 : 0 ≤ nI (24 * c) := nI0 (by omega)
    grind
  · refine ⟨fun u => Int32.le_refl _, fun u _ => rfl, fun a b h1 h2 h3 => by omega, fun a h1 h2 => by omega, fun F hF hLF h0 => ⟨hLF, fun b _ _ _ => h0 b⟩, hm, fun h => ⟨h, rfl⟩⟩
theorem s_60t {σ τ : St} {l : Nat} (hl : l < 144) (e1 : τ.1 47 = σ.1 47) (e2 : τ.1 48 = σ.1 48) (h : ¬ σ.1 47 l = -1 ∧ σ.1 48 l = 0) : Ret 60 [.ref 9, .int (nI l)] τ [.int 1] τ := by
  have el : (nI l).toNatClampNeg = l := clN (by omega)
  exact g_60_0 ⟨vp_in_nI hl (by decide), br_f (by rw [el, e1]; exact h.1) (br_t (by rw [el, e2]; exact h.2) ⟨rfl, rfl⟩)⟩
theorem s_60f {σ τ : St} {l : Nat} (hl : l < 144) (e1 : τ.1 47 = σ.1 47) (e2 : τ.1 48 = σ.1 48) (h : ¬ (¬ σ.1 47 l = -1 ∧ σ.1 48 l = 0)) : Ret 60 [.ref 9, .int (nI l)] τ [.int 0] τ := by
  have el : (nI l).toNatClampNeg = l := clN (by omega)
  by_cases q : σ.1 47 l = -1
  · exact g_60_0 ⟨vp_in_nI hl (by decide), br_t (by rw [el, e1]; exact q) ⟨rfl, rfl⟩⟩
  · exact g_60_0 ⟨vp_in_nI hl (by decide), br_f (by rw [el, e1]; exact q) (br_f (by rw [el, e2]; exact fun z => h ⟨q, z⟩) ⟨rfl, rfl⟩)⟩
