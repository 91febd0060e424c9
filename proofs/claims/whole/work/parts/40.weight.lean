/-! weights -/
def own (t1 t2 nm wn : Int32) : Int32 := if (9 : Int32) - (if absI (t1 + t2 - 2 * nm) / 2 - wn < 0 then 0 else absI (t1 + t2 - 2 * nm) / 2 - wn) < 0 then 0 else 9 - (if absI (t1 + t2 - 2 * nm) / 2 - wn < 0 then 0 else absI (t1 + t2 - 2 * nm) / 2 - wn)
def wPr (t1 t2 nm : Nat → Int32) (wn : Int32) : Nat → Int32
  | 0 => 1
  | s + 1 => wPr t1 t2 nm wn s * own (t1 s) (t2 s) (nm s) wn
theorem wPr_congr {t1 t2 nm u1 u2 um : Nat → Int32} {wn : Int32} : ∀ {s : Nat}, (∀ k, k < s → t1 k = u1 k ∧ t2 k = u2 k ∧ nm k = um k) → wPr t1 t2 nm wn s = wPr u1 u2 um wn s
  | 0, _ => rfl
  | s + 1, h => by
    unfold wPr
    rw [wPr_congr (s := s) (fun k hk => h k (by omega)), (h s (by omega)).1, (h s (by omega)).2.1, (h s (by omega)).2.2]
theorem s_41 {σ : St} {g m h : Nat} (hg : g < 60) (hm : m < 6) (hh : h < 3) (eh : σ.1 28 g = nI h) : Ret 41 [.ref 5, .int (nI g), .int (nI m)] σ [.int (wPr (fun s => tLo (σ.1 29) (σ.1 28) (σ.1 20) (σ.1 3 10) g s) (fun s => tHi (σ.1 29) (σ.1 28) (σ.1 19) (σ.1 3 10) g s) (fun s => σ.1 34 (3 * m + s)) (σ.1 35 m) 3)] σ := by
  refine g_41_0 ?_
  have em : (nI m).toNatClampNeg = m := clN (by omega)
  refine loopN 3 (fun s => Go 41 5 [.ref 5, .int (nI g), .int (nI m), .int (wPr (fun s => tLo (σ.1 29) (σ.1 28) (σ.1 20) (σ.1 3 10) g s) (fun s => tHi (σ.1 29) (σ.1 28) (σ.1 19) (σ.1 3 10) g s) (fun s => σ.1 34 (3 * m + s)) (σ.1 35 m) s), .int (nI s), .null, .null, .null] [] σ [.int (wPr (fun s => tLo (σ.1 29) (σ.1 28) (σ.1 20) (σ.1 3 10) g s) (fun s => tHi (σ.1 29) (σ.1 28) (σ.1 19) (σ.1 3 10) g s) (fun s => σ.1 34 (3 * m + s)) (σ.1 35 m) 3)] σ) ?_ ?_ 0 (by omega)
  · intro s hs hx
    rw [← nI_S, wPr, own] at hx
    have ei : (nI m * 3 + nI s).toNatClampNeg = 3 * m + s := by rw [mul3]; exact clN (by omega)
    refine g_41_5 (br_t ((nI_ltL (n := 3) rfl (by omega) (by decide)).mpr hs) ⟨_, _, s_33 hg hs hh eh, _, _, s_34 hg hs hh eh, v3 (by omega) (by decide), vp_in_nI hm (by decide), ?_⟩)
    rw [em, ei]
    exact hx
  · exact g_41_5 (br_f (by decide) ⟨rfl, rfl⟩)
theorem s_168 {σ : St} {g m h : Nat} (hg : g < 60) (hm : m < 6) (hh : h < 3) (eh : σ.1 60 g = nI h) : Ret 168 [.ref 11, .int (nI g), .int (nI m)] σ [.int (wPr (fun s => tLo (σ.1 61) (σ.1 60) (σ.1 53) (σ.1 11 0) g s) (fun s => tHi (σ.1 61) (σ.1 60) (σ.1 52) (σ.1 11 0) g s) (fun s => σ.1 64 (3 * m + s)) (σ.1 65 m) 3)] σ := by
  refine g_168_0 ?_
  have em : (nI m).toNatClampNeg = m := clN (by omega)
  refine loopN 3 (fun s => Go 168 5 [.ref 11, .int (nI g), .int (nI m), .int (wPr (fun s => tLo (σ.1 61) (σ.1 60) (σ.1 53) (σ.1 11 0) g s) (fun s => tHi (σ.1 61) (σ.1 60) (σ.1 52) (σ.1 11 0) g s) (fun s => σ.1 64 (3 * m + s)) (σ.1 65 m) s), .int (nI s), .null, .null] [] σ [.int (wPr (fun s => tLo (σ.1 61) (σ.1 60) (σ.1 53) (σ.1 11 0) g s) (fun s => tHi (σ.1 61) (σ.1 60) (σ.1 52) (σ.1 11 0) g s) (fun s => σ.1 64 (3 * m + s)) (σ.1 65 m) 3)] σ) ?_ ?_ 0 (by omega)
  · intro s hs hx
    rw [← nI_S, wPr, own] at hx
    have ei : (3 * nI m + nI s).toNatClampNeg = 3 * m + s := by rw [mul3']; exact clN (by omega)
    have gi : vp_in (3 * nI m + nI s) 18 := v3' (by omega) (by decide)
    have g2 : vp_in (nI m) 6 := vp_in_nI hm (by decide)
    have lt : nI s < 3 := (nI_ltL (n := 3) rfl (by omega) (by decide)).mpr hs
    obtain ⟨x, ex⟩ : ∃ x, x = absI (tLo (σ.1 61) (σ.1 60) (σ.1 53) (σ.1 11 0) g s + tHi (σ.1 61) (σ.1 60) (σ.1 52) (σ.1 11 0) g s - 2 * σ.1 64 (3 * m + s)) / 2 - σ.1 65 m := ⟨_, rfl⟩
    rw [← ex] at hx
    have key : ∀ z, (z = if x < 0 then 0 else x) → ∀ w, (w = if (9 : Int32) - z < 0 then 0 else 9 - z) → Go 168 5 [.ref 11, .int (nI g), .int (nI m), .int (wPr (fun s => tLo (σ.1 61) (σ.1 60) (σ.1 53) (σ.1 11 0) g s) (fun s => tHi (σ.1 61) (σ.1 60) (σ.1 52) (σ.1 11 0) g s) (fun s => σ.1 64 (3 * m + s)) (σ.1 65 m) s * w), .int (nI s + 1), .null, .null] [] σ [.int (wPr (fun s => tLo (σ.1 61) (σ.1 60) (σ.1 53) (σ.1 11 0) g s) (fun s => tHi (σ.1 61) (σ.1 60) (σ.1 52) (σ.1 11 0) g s) (fun s => σ.1 64 (3 * m + s)) (σ.1 65 m) 3)] σ := by
      intro z hz w hw
      rw [hw, hz]
      exact hx
    refine g_168_5 (br_t lt ⟨_, _, s_136a hg hs hh eh, _, _, s_136b (by decide) hg hs hh eh, gi, _, _, s_167, g2, ?_⟩)
    rw [em, ei, ← ex]
    refine ⟨fun q1 => ?_, fun q1 => ⟨fun q2 => ?_, fun q2 => ?_⟩⟩
    · first
      | exact ⟨fun q2 => absurd q2 (by decide), fun _ => key 0 (by rw [if_pos q1]) _ (by decide)⟩
      | exact key 0 (by rw [if_pos q1]) _ (by decide)
    · exact key x (by rw [if_neg q1]) 0 (by rw [if_pos q2])
    · exact key x (by rw [if_neg q1]) _ (by rw [if_neg q2])
  · exact g_168_5 (br_f (by decide) ⟨rfl, rfl⟩)
/-- a grain's weight, as both have it -/
def wOf (σ : St) (g m : Nat) : Int32 := wPr (fun s => tLo (σ.1 29) (σ.1 28) (σ.1 20) (σ.1 3 10) g s) (fun s => tHi (σ.1 29) (σ.1 28) (σ.1 19) (σ.1 3 10) g s) (fun s => σ.1 34 (3 * m + s)) (σ.1 35 m) 3
theorem w_eq {σ : St} {n g m : Nat} (hR : Rel σ) (hg : GF σ n) (hgn : g < n) (hm : m < 6) (hk : 0 ≤ σ.1 65 m) : Ret 41 [.ref 5, .int (nI g), .int (nI m)] σ [.int (wOf σ g m)] σ ∧ Ret 168 [.ref 11, .int (nI g), .int (nI m)] σ [.int (wOf σ g m)] σ := by
  obtain ⟨hS, hG, hH, hL, hP, hM, hA, hT, hD, hF, hU⟩ := id hR
  have hn := hg.1.1
  obtain ⟨k, hk3, ek⟩ := hg.1.2.2.2 g hgn
  have q := hg.2.2.1 g hgn
  have mm := hM.2.1 m hm hk
  refine ⟨s_41 (by omega) hm hk3 ek, ?_⟩
  have e : wOf σ g m = wPr (fun s => tLo (σ.1 61) (σ.1 60) (σ.1 53) (σ.1 11 0) g s) (fun s => tHi (σ.1 61) (σ.1 60) (σ.1 52) (σ.1 11 0) g s) (fun s => σ.1 64 (3 * m + s)) (σ.1 65 m) 3 := by
    unfold wOf
    rw [mm.1]
    exact wPr_congr (fun s hs => ⟨(tl_eq hR hg hgn hs).1, (tl_eq hR hg hgn hs).2, (mm.2.2 s hs).1⟩)
  rw [e]
  exact s_168 (by omega) hm hk3 (by rw [← q.2.1]; exact ek)
theorem s_137 {σ : St} {n : Nat} {a : Int32} (hn : n ≤ 60) (en : σ.1 11 9 = nI n) : Ret 137 [.ref 11, .int a] σ [.int (bI (0 ≤ a ∧ a < nI n))] σ := by
  have i0 : 0 ≤ nI n := nI0 (by omega)
  have e : bI (0 ≤ a ∧ a ≤ nI n - 1) = bI (0 ≤ a ∧ a < nI n) := by
    unfold bI
    by_cases h : 0 ≤ a ∧ a < nI n
    · rw [if_pos h, if_pos (by grind)]
    · rw [if_neg h, if_neg (by grind)]
  rw [← e]
  refine (g_137_0 ⟨_, _, s_120, ⟨bI_01, ⟨?_, rfl⟩⟩⟩)
  rw [en]
theorem p_weight {σ : St} {a b : Int32} (hR : Rel σ) : PairI 89 169 [.int a, .int b] σ := by
  obtain ⟨n, hg⟩ := hR.gf
  have en := hg.1.2.1
  have hn := hg.1.1
  have s137 := s_137 (a := a) hn hg.2.1
  rcases (Classical.em (0 ≤ a ∧ a < nI n)).symm with h1 | h1
  · exact ⟨-1, σ, σ, (g_89_0 ⟨_, _, s_114, (br_t (by rw [en, bI_0]; exact h1) ⟨rfl, rfl⟩)⟩), (g_169_0 ⟨_, _, s137, (br_t (by rw [bI_0]; exact h1) ⟨rfl, rfl⟩)⟩), hR⟩
  have x1 : ¬ bI (0 ≤ a ∧ a < σ.1 4 7) = 0 := by rw [en, bI_0]; exact Classical.not_not.mpr h1
  have x2 : ¬ bI (0 ≤ a ∧ a < nI n) = 0 := by rw [bI_0]; exact Classical.not_not.mpr h1
  rcases (Classical.em (knP σ b)).symm with h2 | h2
  · exact ⟨-1, σ, σ, (g_89_0 ⟨_, _, s_114, (br_f x1 ⟨_, _, (s_39f hR h2), (br_t (by (try simp only [bI_0, vp_6, vp_9, vp_10, vp_12, vp_18, vp_30, vp_31, vp_50, vp_60, vp_144, vp_154, vp_180, vp_432, vp_3600]) <;> grind) ⟨rfl, rfl⟩)⟩)⟩), (g_169_0 ⟨_, _, s137, (br_f x2 ⟨_, _, (s_164f h2), (br_t (by (try simp only [bI_0, vp_6, vp_9, vp_10, vp_12, vp_18, vp_30, vp_31, vp_50, vp_60, vp_144, vp_154, vp_180, vp_432, vp_3600]) <;> grind) ⟨rfl, rfl⟩)⟩)⟩), hR⟩
  obtain ⟨g, hgn, rfl⟩ := nI_of_lt (by omega) h1.1 h1.2
  obtain ⟨m, hm, rfl⟩ := inR (x := b) (m := 6) (n := 6) rfl (by decide) h2.1 h2.2.1
  have hk : 0 ≤ σ.1 65 m := by have := h2.2.2; rwa [clN (by omega)] at this
  have w := w_eq hR hg hgn hm hk
  exact ⟨_, σ, σ, (g_89_0 ⟨_, _, s_114, (br_f x1 ⟨_, _, (s_39t hR h2), (br_f (by (try simp only [bI_0, vp_6, vp_9, vp_10, vp_12, vp_18, vp_30, vp_31, vp_50, vp_60, vp_144, vp_154, vp_180, vp_432, vp_3600]) <;> grind) ⟨_, _, w.1, ⟨rfl, rfl⟩⟩)⟩)⟩), (g_169_0 ⟨_, _, s137, (br_f x2 ⟨_, _, (s_164t h2), (br_f (by (try simp only [bI_0, vp_6, vp_9, vp_10, vp_12, vp_18, vp_30, vp_31, vp_50, vp_60, vp_144, vp_154, vp_180, vp_432, vp_3600]) <;> grind) ⟨_, _, w.2, ⟨rfl, rfl⟩⟩)⟩)⟩), hR⟩
