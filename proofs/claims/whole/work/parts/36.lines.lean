/-! counts of grains -/
theorem gCt_le {ln : Nat → Int32} {l : Int32} : ∀ n, gCt ln l n ≤ n
  | 0 => Nat.le_refl 0
  | n + 1 => by
    have := gCt_le (ln := ln) (l := l) n
    unfold gCt
    split <;> omega
theorem gCt_congr {a b : Nat → Int32} {l : Int32} : ∀ {n : Nat}, (∀ g, g < n → a g = b g) → gCt a l n = gCt b l n
  | 0, _ => rfl
  | n + 1, h => by
    unfold gCt
    rw [gCt_congr (n := n) (fun g hg => h g (by omega)), h n (by omega)]
theorem gLo_congr {a b t u : Nat → Int32} {l : Int32} : ∀ {n : Nat}, (∀ g, g < n → a g = b g ∧ t g = u g) → gLo a t l n = gLo b u l n
  | 0, _ => rfl
  | n + 1, h => by
    unfold gLo
    rw [gLo_congr (n := n) (fun g hg => h g (by omega)), (h n (by omega)).1, (h n (by omega)).2]
theorem gHi_congr {a b t u : Nat → Int32} {l : Int32} : ∀ {n : Nat}, (∀ g, g < n → a g = b g ∧ t g = u g) → gHi a t l n = gHi b u l n
  | 0, _ => rfl
  | n + 1, h => by
    unfold gHi
    rw [gHi_congr (n := n) (fun g hg => h g (by omega)), (h n (by omega)).1, (h n (by omega)).2]
/-- what is known of the grains of both -/
def GF (σ : St) (n : Nat) : Prop := GW σ n ∧ σ.1 11 9 = nI n ∧ (∀ g, g < n → σ.1 27 g = σ.1 59 g ∧ σ.1 28 g = σ.1 60 g ∧ ∀ s, s < 3 → σ.1 29 (3 * g + s) = σ.1 61 (3 * g + s) ∧ 0 ≤ σ.1 29 (3 * g + s) ∧ σ.1 29 (3 * g + s) ≤ 99) ∧
  (∀ l, l < 144 → σ.1 30 l = nI (gCt (σ.1 27) (nI l) n)) ∧
  (∀ l s, l < 144 → s < 3 → 0 < gCt (σ.1 27) (nI l) n → σ.1 31 (3 * l + s) = gLo (σ.1 27) (fun g => tLo (σ.1 29) (σ.1 28) (σ.1 20) (σ.1 3 10) g s) (nI l) n ∧ σ.1 32 (3 * l + s) = gHi (σ.1 27) (fun g => tHi (σ.1 29) (σ.1 28) (σ.1 19) (σ.1 3 10) g s) (nI l) n)
theorem Rel.gf {σ : St} (hR : Rel σ) : ∃ n, GF σ n := by
  obtain ⟨hS, hG, hH, hL, hP, hM, hA, hT, hD, hF, hU⟩ := hR
  obtain ⟨n, hn, e1, e2, g1, g2, g3⟩ := hG
  obtain ⟨n', hn', e1', k1, k2, k3⟩ := hH
  have : n' = n := (nI_eq (by omega) (by omega)).mp (by rw [← e1', e1])
  subst this
  exact ⟨n', ⟨hn, e1, fun g hg => (g1 g hg).2, fun g hg => (g2 g hg).2⟩, e2, fun g hg => ⟨(g1 g hg).1, (g2 g hg).1, fun s hs => g3 _ (by omega)⟩, k1, k2⟩
def lnP (σ : St) (a : Int32) : Prop := 0 ≤ a ∧ a < 144 ∧ 0 < σ.1 30 a.toNatClampNeg
theorem lnP_def {σ : St} {a : Int32} : lnP σ a ↔ (0 ≤ a ∧ a < 144 ∧ 0 < σ.1 30 a.toNatClampNeg) := Iff.rfl
theorem lnP_nI {σ : St} {l : Nat} (hl : l < 144) : lnP σ (nI l) ↔ 0 < σ.1 30 l := by
  have e : (nI l).toNatClampNeg = l := clN (by omega)
  rw [lnP_def, e]
  exact ⟨fun h => h.2.2, fun h => ⟨nI0 (by omega), (nI_ltL (n := 144) rfl (by omega) (by decide)).mpr hl, h⟩⟩
theorem s_29t {σ : St} {a : Int32} (h : lnP σ a) : Ret 29 [.ref 4, .int a] σ [.int 1] σ := by
  rw [lnP_def] at h
  exact (g_29_0 ⟨_, _, s_114, (br_f (by (try simp only [bI_0, vp_6, vp_9, vp_10, vp_12, vp_18, vp_30, vp_31, vp_50, vp_60, vp_144, vp_154, vp_180, vp_432, vp_3600]) <;> grind) ⟨(by (try simp only [bI_0, vp_6, vp_9, vp_10, vp_12, vp_18, vp_30, vp_31, vp_50, vp_60, vp_144, vp_154, vp_180, vp_432, vp_3600]) <;> grind), (br_f (by (try simp only [bI_0, vp_6, vp_9, vp_10, vp_12, vp_18, vp_30, vp_31, vp_50, vp_60, vp_144, vp_154, vp_180, vp_432, vp_3600]) <;> grind) ⟨rfl, rfl⟩)⟩)⟩)
theorem s_29f {σ : St} {a : Int32} (h : ¬ lnP σ a) : Ret 29 [.ref 4, .int a] σ [.int 0] σ := by
  rw [lnP_def] at h
  (refine g_29_0 ⟨_, _, s_114, ⟨fun q1 => ?_, fun q1 => ⟨?_, ⟨fun q2 => ?_, fun q2 => ?_⟩⟩⟩⟩ <;> first | exact ⟨rfl, rfl⟩ | (exfalso; (try simp only [bI_0, vp_6, vp_9, vp_10, vp_12, vp_18, vp_30, vp_31, vp_50, vp_60, vp_144, vp_154, vp_180, vp_432, vp_3600] at *) <;> grind) | ((try simp only [bI_0, vp_6, vp_9, vp_10, vp_12, vp_18, vp_30, vp_31, vp_50, vp_60, vp_144, vp_154, vp_180, vp_432, vp_3600] at *) <;> grind))
theorem s_139 {σ : St} {n : Nat} {a : Int32} (hn : n ≤ 60) (en : σ.1 11 9 = nI n) : Ret 139 [.ref 11, .int a] σ [.int (nI (gCt (σ.1 59) a n))] σ := by
  refine g_139_0 ?_
  refine loopN n (fun i => Go 139 4 [.ref 11, .int a, .int (nI (gCt (σ.1 59) a i)), .int (nI i)] [] σ [.int (nI (gCt (σ.1 59) a n))] σ) ?_ ?_ 0 (by omega)
  · intro i hi hx
    have ei : (nI i).toNatClampNeg = i := clN (by omega)
    have lt : nI i < σ.1 11 9 := by rw [en]; exact (nI_ltI (by omega) (by omega)).mpr hi
    rw [gCt, ← nI_S] at hx
    by_cases h : σ.1 59 i = a
    · rw [if_pos h, ← nI_S] at hx
      exact (g_139_4 (br_t lt ⟨(vp_in_nI (by omega) (by decide)), (br_t (by rw [ei]; exact h) hx)⟩))
    · rw [if_neg h] at hx
      exact (g_139_4 (br_t lt ⟨(vp_in_nI (by omega) (by decide)), (br_f (by rw [ei]; exact h) (by rw [show nI (gCt (σ.1 59) a i) + 0 = nI (gCt (σ.1 59) a i) by grind]; exact hx))⟩))
  · exact (g_139_4 (br_f (by rw [en]; exact Int32.lt_irrefl) ⟨rfl, rfl⟩))
/-- the model sees the same lines -/
theorem gf_ct {σ : St} {n : Nat} (h : GF σ n) {l : Nat} (hl : l < 144) : nI (gCt (σ.1 59) (nI l) n) = σ.1 30 l := by
  rw [h.2.2.2.1 l hl, gCt_congr (fun g hg => (h.2.2.1 g hg).1)]
theorem s_140t {σ : St} {n : Nat} {a : Int32} (hg : GF σ n) (h : lnP σ a) : Ret 140 [.ref 11, .int a] σ [.int 1] σ := by
  rw [lnP_def] at h
  obtain ⟨l, hl, rfl⟩ := inR (x := a) (m := 144) (n := 144) rfl (by decide) h.1 h.2.1
  have e := gf_ct hg hl
  have e1 : (nI l).toNatClampNeg = l := clN (by omega)
  exact (g_140_0 ⟨_, _, s_124, (br_f (by (try simp only [bI_0, vp_6, vp_9, vp_10, vp_12, vp_18, vp_30, vp_31, vp_50, vp_60, vp_144, vp_154, vp_180, vp_432, vp_3600]) <;> grind) ⟨_, _, (s_139 hg.1.1 hg.2.1), (br_f (by rw [e]; rw [e1] at h; grind) ⟨rfl, rfl⟩)⟩)⟩)
theorem s_140f {σ : St} {n : Nat} {a : Int32} (hg : GF σ n) (h : ¬ lnP σ a) : Ret 140 [.ref 11, .int a] σ [.int 0] σ := by
  rw [lnP_def] at h
  by_cases h1 : 0 ≤ a ∧ a < 144
  · obtain ⟨l, hl, rfl⟩ := inR (x := a) (m := 144) (n := 144) rfl (by decide) h1.1 h1.2
    have e := gf_ct hg hl
    have e1 : (nI l).toNatClampNeg = l := clN (by omega)
    exact (g_140_0 ⟨_, _, s_124, (br_f (by (try simp only [bI_0, vp_6, vp_9, vp_10, vp_12, vp_18, vp_30, vp_31, vp_50, vp_60, vp_144, vp_154, vp_180, vp_432, vp_3600]) <;> grind) ⟨_, _, (s_139 hg.1.1 hg.2.1), (br_t (by rw [e]; rw [e1] at h; grind) ⟨rfl, rfl⟩)⟩)⟩)
  · exact (g_140_0 ⟨_, _, s_124, (br_t (by (try simp only [bI_0, vp_6, vp_9, vp_10, vp_12, vp_18, vp_30, vp_31, vp_50, vp_60, vp_144, vp_154, vp_180, vp_432, vp_3600]) <;> grind) ⟨rfl, rfl⟩)⟩)
theorem p_grains {σ : St} {a : Int32} (hR : Rel σ) : PairI 75 141 [.int a] σ := by
  obtain ⟨n, hg⟩ := hR.gf
  rcases (Classical.em (0 ≤ a ∧ a < 144)).symm with h1 | h1
  · exact ⟨-1, σ, σ, (g_75_0 ⟨_, _, s_114, (br_t (by (try simp only [bI_0, vp_6, vp_9, vp_10, vp_12, vp_18, vp_30, vp_31, vp_50, vp_60, vp_144, vp_154, vp_180, vp_432, vp_3600]) <;> grind) ⟨rfl, rfl⟩)⟩), (g_141_0 ⟨_, _, s_124, (br_t (by (try simp only [bI_0, vp_6, vp_9, vp_10, vp_12, vp_18, vp_30, vp_31, vp_50, vp_60, vp_144, vp_154, vp_180, vp_432, vp_3600]) <;> grind) ⟨rfl, rfl⟩)⟩), hR⟩
  obtain ⟨l, hl, rfl⟩ := inR (x := a) (m := 144) (n := 144) rfl (by decide) h1.1 h1.2
  have e1 : (nI l).toNatClampNeg = l := clN (by omega)
  refine ⟨_, σ, σ, (g_75_0 ⟨_, _, s_114, (br_f (by (try simp only [bI_0, vp_6, vp_9, vp_10, vp_12, vp_18, vp_30, vp_31, vp_50, vp_60, vp_144, vp_154, vp_180, vp_432, vp_3600]) <;> grind) ⟨(by (try simp only [bI_0, vp_6, vp_9, vp_10, vp_12, vp_18, vp_30, vp_31, vp_50, vp_60, vp_144, vp_154, vp_180, vp_432, vp_3600]) <;> grind), ⟨rfl, rfl⟩⟩)⟩), (g_141_0 ⟨_, _, s_124, (br_f (by (try simp only [bI_0, vp_6, vp_9, vp_10, vp_12, vp_18, vp_30, vp_31, vp_50, vp_60, vp_144, vp_154, vp_180, vp_432, vp_3600]) <;> grind) ⟨_, _, (s_139 hg.1.1 hg.2.1), ⟨?_, rfl⟩⟩)⟩), hR⟩
  rw [gf_ct hg hl, e1]
/-! truly -/
theorem tl_eq {σ : St} {n g s : Nat} (hR : Rel σ) (hg : GF σ n) (h : g < n) (hs : s < 3) : tLo (σ.1 29) (σ.1 28) (σ.1 20) (σ.1 3 10) g s = tLo (σ.1 61) (σ.1 60) (σ.1 53) (σ.1 11 0) g s ∧ tHi (σ.1 29) (σ.1 28) (σ.1 19) (σ.1 3 10) g s = tHi (σ.1 61) (σ.1 60) (σ.1 52) (σ.1 11 0) g s := by
  obtain ⟨hS, hG, hH, hL, hP, hM, hA, hT, hD, hF, hU⟩ := hR
  obtain ⟨k, hk, ek⟩ := hg.1.2.2.2 g h
  have q := hg.2.2.1 g h
  have e1 : (σ.1 28 g).toNatClampNeg = k := by rw [ek]; exact clN (by omega)
  have e2 : (σ.1 60 g).toNatClampNeg = k := by rw [← q.2.1]; exact e1
  have l9 := hL.2.2.2 (3 * k + s) (by omega)
  unfold tLo tHi
  rw [e1, e2, (q.2.2 s hs).1, l9.1, l9.2.1, hL.1]
  exact ⟨rfl, rfl⟩
theorem tl_rng {σ : St} {n g s : Nat} (hR : Rel σ) (hg : GF σ n) (h : g < n) (hs : s < 3) : -12 ≤ tLo (σ.1 29) (σ.1 28) (σ.1 20) (σ.1 3 10) g s ∧ tLo (σ.1 29) (σ.1 28) (σ.1 20) (σ.1 3 10) g s ≤ tHi (σ.1 29) (σ.1 28) (σ.1 19) (σ.1 3 10) g s ∧ tHi (σ.1 29) (σ.1 28) (σ.1 19) (σ.1 3 10) g s ≤ 111 := by
  obtain ⟨hS, hG, hH, hL, hP, hM, hA, hT, hD, hF, hU⟩ := hR
  obtain ⟨k, hk, ek⟩ := hg.1.2.2.2 g h
  have q := (hg.2.2.1 g h).2.2 s hs
  have e1 : (σ.1 28 g).toNatClampNeg = k := by rw [ek]; exact clN (by omega)
  have l9 := hL.2.2.2 (3 * k + s) (by omega)
  have l1 := hL.2.1
  have l2 := hL.2.2.1
  unfold tLo tHi
  rw [e1]
  grind
theorem p_truly {σ : St} {a b c : Int32} (hR : Rel σ) : PairI 74 138 [.int a, .int b, .int c] σ := by
  obtain ⟨n, hg⟩ := hR.gf
  have en := hg.1.2.1
  have en' := hg.2.1
  have hn := hg.1.1
  have i0 : 0 ≤ nI n := nI0 (by omega)
  have i60 : nI n ≤ 60 := (nI_leL (n := 60) rfl (by omega) (by decide)).mpr hn
  have s137 : Ret 137 [.ref 11, .int a] σ [.int (bI (0 ≤ a ∧ a ≤ nI n - 1))] σ := by
    refine (g_137_0 ⟨_, _, s_120, ⟨bI_01, ⟨?_, rfl⟩⟩⟩)
    rw [en']
  rcases (Classical.em (0 ≤ a ∧ a < nI n)).symm with h1 | h1
  · exact ⟨-1000001, σ, σ, (g_74_0 ⟨_, _, s_114, (br_t (by rw [en, bI_0]; exact h1) ⟨rfl, rfl⟩)⟩), (g_138_0 ⟨_, _, s137, (br_t (by rw [bI_0]; grind) ⟨rfl, rfl⟩)⟩), hR⟩
  have x1 : ¬ bI (0 ≤ a ∧ a < σ.1 4 7) = 0 := by rw [en, bI_0]; exact Classical.not_not.mpr h1
  have x2 : ¬ bI (0 ≤ a ∧ a ≤ nI n - 1) = 0 := by rw [bI_0]; grind
  rcases (Classical.em (0 ≤ b ∧ b < 3)).symm with h2 | h2
  · exact ⟨-1000002, σ, σ, (g_74_0 ⟨_, _, s_114, (br_f x1 ⟨_, _, s_114, (br_t (by (try simp only [bI_0, vp_6, vp_9, vp_10, vp_12, vp_18, vp_30, vp_31, vp_50, vp_60, vp_144, vp_154, vp_180, vp_432, vp_3600]) <;> grind) ⟨rfl, rfl⟩)⟩)⟩), (g_138_0 ⟨_, _, s137, (br_f x2 ⟨_, _, s_120, (br_t (by (try simp only [bI_0, vp_6, vp_9, vp_10, vp_12, vp_18, vp_30, vp_31, vp_50, vp_60, vp_144, vp_154, vp_180, vp_432, vp_3600]) <;> grind) ⟨rfl, rfl⟩)⟩)⟩), hR⟩
  rcases (Classical.em (0 ≤ c ∧ c < 2)).symm with h3 | h3
  · exact ⟨-1000002, σ, σ, (g_74_0 ⟨_, _, s_114, (br_f x1 ⟨_, _, s_114, (br_f (by (try simp only [bI_0, vp_6, vp_9, vp_10, vp_12, vp_18, vp_30, vp_31, vp_50, vp_60, vp_144, vp_154, vp_180, vp_432, vp_3600]) <;> grind) ⟨_, _, s_114, (br_t (by (try simp only [bI_0, vp_6, vp_9, vp_10, vp_12, vp_18, vp_30, vp_31, vp_50, vp_60, vp_144, vp_154, vp_180, vp_432, vp_3600]) <;> grind) ⟨rfl, rfl⟩)⟩)⟩)⟩), (g_138_0 ⟨_, _, s137, (br_f x2 ⟨_, _, s_120, (br_f (by (try simp only [bI_0, vp_6, vp_9, vp_10, vp_12, vp_18, vp_30, vp_31, vp_50, vp_60, vp_144, vp_154, vp_180, vp_432, vp_3600]) <;> grind) ⟨_, _, s_126, (br_t (by (try simp only [bI_0, vp_6, vp_9, vp_10, vp_12, vp_18, vp_30, vp_31, vp_50, vp_60, vp_144, vp_154, vp_180, vp_432, vp_3600]) <;> grind) ⟨rfl, rfl⟩)⟩)⟩)⟩), hR⟩
  obtain ⟨g, hgn, rfl⟩ := nI_of_lt (by omega) h1.1 h1.2
  obtain ⟨s, hs, rfl⟩ := inR (x := b) (m := 3) (n := 3) rfl (by decide) h2.1 h2.2
  obtain ⟨k, hk, ek⟩ := hg.1.2.2.2 g hgn
  have q := hg.2.2.1 g hgn
  have te := tl_eq hR hg hgn hs
  by_cases h4 : c = 0
  · subst h4
    refine ⟨_, σ, σ, (g_74_0 ⟨_, _, s_114, (br_f x1 ⟨_, _, s_114, (br_f (by (try simp only [bI_0, vp_6, vp_9, vp_10, vp_12, vp_18, vp_30, vp_31, vp_50, vp_60, vp_144, vp_154, vp_180, vp_432, vp_3600]) <;> grind) ⟨_, _, s_114, (br_f (by (try simp only [bI_0, vp_6, vp_9, vp_10, vp_12, vp_18, vp_30, vp_31, vp_50, vp_60, vp_144, vp_154, vp_180, vp_432, vp_3600]) <;> grind) (br_t (by (try simp only [bI_0, vp_6, vp_9, vp_10, vp_12, vp_18, vp_30, vp_31, vp_50, vp_60, vp_144, vp_154, vp_180, vp_432, vp_3600]) <;> grind) ⟨_, _, (s_33 (by omega) hs hk ek), ⟨rfl, rfl⟩⟩))⟩)⟩)⟩), (g_138_0 ⟨_, _, s137, (br_f x2 ⟨_, _, s_120, (br_f (by (try simp only [bI_0, vp_6, vp_9, vp_10, vp_12, vp_18, vp_30, vp_31, vp_50, vp_60, vp_144, vp_154, vp_180, vp_432, vp_3600]) <;> grind) ⟨_, _, s_126, (br_f (by (try simp only [bI_0, vp_6, vp_9, vp_10, vp_12, vp_18, vp_30, vp_31, vp_50, vp_60, vp_144, vp_154, vp_180, vp_432, vp_3600]) <;> grind) ⟨_, _, (s_136a (by omega) hs hk (by rw [← q.2.1]; exact ek)), ⟨?_, rfl⟩⟩)⟩)⟩)⟩), hR⟩
    rw [te.1]
  · refine ⟨_, σ, σ, (g_74_0 ⟨_, _, s_114, (br_f x1 ⟨_, _, s_114, (br_f (by (try simp only [bI_0, vp_6, vp_9, vp_10, vp_12, vp_18, vp_30, vp_31, vp_50, vp_60, vp_144, vp_154, vp_180, vp_432, vp_3600]) <;> grind) ⟨_, _, s_114, (br_f (by (try simp only [bI_0, vp_6, vp_9, vp_10, vp_12, vp_18, vp_30, vp_31, vp_50, vp_60, vp_144, vp_154, vp_180, vp_432, vp_3600]) <;> grind) (br_f (by (try simp only [bI_0, vp_6, vp_9, vp_10, vp_12, vp_18, vp_30, vp_31, vp_50, vp_60, vp_144, vp_154, vp_180, vp_432, vp_3600]) <;> grind) ⟨_, _, (s_34 (by omega) hs hk ek), ⟨rfl, rfl⟩⟩))⟩)⟩)⟩), (g_138_0 ⟨_, _, s137, (br_f x2 ⟨_, _, s_120, (br_f (by (try simp only [bI_0, vp_6, vp_9, vp_10, vp_12, vp_18, vp_30, vp_31, vp_50, vp_60, vp_144, vp_154, vp_180, vp_432, vp_3600]) <;> grind) ⟨_, _, s_126, (br_f (by (try simp only [bI_0, vp_6, vp_9, vp_10, vp_12, vp_18, vp_30, vp_31, vp_50, vp_60, vp_144, vp_154, vp_180, vp_432, vp_3600]) <;> grind) ⟨_, _, (s_136b h4 (by omega) hs hk (by rw [← q.2.1]; exact ek)), ⟨?_, rfl⟩⟩)⟩)⟩)⟩), hR⟩
    rw [te.2]
/-! glass -/
def bLo (ln : Nat → Int32) (t : Nat → Int32) (l : Int32) : Nat → Int32
  | 0 => 0
  | g + 1 => if ln g = l then (if gCt ln l g = 0 ∨ t g < bLo ln t l g then t g else bLo ln t l g) else bLo ln t l g
def bHi (ln : Nat → Int32) (t : Nat → Int32) (l : Int32) : Nat → Int32
  | 0 => 0
  | g + 1 => if ln g = l then (if gCt ln l g = 0 ∨ bHi ln t l g < t g then t g else bHi ln t l g) else bHi ln t l g
theorem gLo_0 {ln t : Nat → Int32} {l : Int32} : ∀ {n : Nat}, gCt ln l n = 0 → gLo ln t l n = 1000000 ∧ gHi ln t l n = -1000000
  | 0, _ => ⟨rfl, rfl⟩
  | n + 1, h => by
    unfold gCt at h
    by_cases q : ln n = l
    · rw [if_pos q] at h; omega
    · rw [if_neg q] at h
      unfold gLo gHi
      rw [if_neg q, if_neg q]
      exact gLo_0 (n := n) h
theorem bLo_eq {ln t : Nat → Int32} {l : Int32} : ∀ {n : Nat}, (∀ g, g < n → t g < 1000000) → 0 < gCt ln l n → bLo ln t l n = gLo ln t l n
  | 0, _, h => absurd h (by simp [gCt])
  | n + 1, ht, h => by
    unfold bLo gLo
    unfold gCt at h
    by_cases q : ln n = l
    · rw [if_pos q, if_pos q]
      by_cases q0 : gCt ln l n = 0
      · rw [if_pos (Or.inl q0), (gLo_0 q0).1, if_pos (ht n (by omega))]
      · rw [bLo_eq (n := n) (fun g hg => ht g (by omega)) (by omega)]
        simp [q0]
    · rw [if_neg q, if_neg q]
      rw [if_neg q] at h
      exact bLo_eq (n := n) (fun g hg => ht g (by omega)) (by omega)
theorem bHi_eq {ln t : Nat → Int32} {l : Int32} : ∀ {n : Nat}, (∀ g, g < n → -1000000 < t g) → 0 < gCt ln l n → bHi ln t l n = gHi ln t l n
  | 0, _, h => absurd h (by simp [gCt])
  | n + 1, ht, h => by
    unfold bHi gHi
    unfold gCt at h
    by_cases q : ln n = l
    · rw [if_pos q, if_pos q]
      by_cases q0 : gCt ln l n = 0
      · rw [if_pos (Or.inl q0), (gLo_0 (t := t) q0).2, if_pos (ht n (by omega))]
      · rw [bHi_eq (n := n) (fun g hg => ht g (by omega)) (by omega)]
        simp [q0]
    · rw [if_neg q, if_neg q]
      rw [if_neg q] at h
      exact bHi_eq (n := n) (fun g hg => ht g (by omega)) (by omega)
theorem bLo_congr {a b t u : Nat → Int32} {l : Int32} : ∀ {n : Nat}, (∀ g, g < n → a g = b g ∧ t g = u g) → bLo a t l n = bLo b u l n ∧ bHi a t l n = bHi b u l n
  | 0, _ => ⟨rfl, rfl⟩
  | n + 1, h => by
    have ih := bLo_congr (n := n) (l := l) (fun g hg => h g (by omega))
    unfold bLo bHi
    rw [ih.1, ih.2, (h n (by omega)).1, (h n (by omega)).2, gCt_congr (fun g hg => (h g (by omega)).1)]
    exact ⟨rfl, rfl⟩
theorem ct_S {ln : Nat → Int32} {l : Int32} {i : Nat} (h : ln i = l) : bI (0 < gCt ln l (i + 1)) = 1 := bI_t (by unfold gCt; rw [if_pos h]; omega)
theorem ct_N {ln : Nat → Int32} {l : Int32} {i : Nat} (h : ¬ ln i = l) : bI (0 < gCt ln l (i + 1)) = bI (0 < gCt ln l i) := by
  have : gCt ln l (i + 1) = gCt ln l i := by rw [gCt, if_neg h]; omega
  rw [this]
/-- the model's glass, its least -/
theorem s_142a {σ : St} {n s : Nat} {a : Int32} (hn : n ≤ 60) (en : σ.1 11 9 = nI n) (hs : s < 3) (hh : ∀ g, g < n → ∃ h, h < 3 ∧ σ.1 60 g = nI h) : Ret 142 [.ref 11, .int a, .int (nI s), .int 0] σ [.int (bLo (σ.1 59) (fun g => tLo (σ.1 61) (σ.1 60) (σ.1 53) (σ.1 11 0) g s) a n)] σ := by
  refine g_142_0 ?_
  refine loopN n (fun i => Go 142 9 [.ref 11, .int a, .int (nI s), .int 0, .int (bI (0 < gCt (σ.1 59) a i)), .int (bLo (σ.1 59) (fun g => tLo (σ.1 61) (σ.1 60) (σ.1 53) (σ.1 11 0) g s) a i), .int (nI i), .null] [] σ [.int (bLo (σ.1 59) (fun g => tLo (σ.1 61) (σ.1 60) (σ.1 53) (σ.1 11 0) g s) a n)] σ) ?_ ?_ 0 (by omega)
  · intro i hi hx
    have ei : (nI i).toNatClampNeg = i := clN (by omega)
    have lt : nI i < σ.1 11 9 := by rw [en]; exact (nI_ltI (by omega) (by omega)).mpr hi
    obtain ⟨h, hh1, eh⟩ := hh i hi
    rw [bLo, ← nI_S] at hx
    by_cases hl : σ.1 59 i = a
    · rw [if_pos hl, ct_S hl] at hx
      by_cases h0 : gCt (σ.1 59) a i = 0
      · rw [if_pos (Or.inl h0)] at hx
        exact (g_142_9 (br_t lt ⟨(vp_in_nI (by omega) (by decide)), (br_t (by rw [ei]; exact hl) ⟨_, _, (s_136a (by omega) hs hh1 eh), (br_t (by rw [bI_0]; omega) hx)⟩)⟩))
      · by_cases h1 : tLo (σ.1 61) (σ.1 60) (σ.1 53) (σ.1 11 0) i s < bLo (σ.1 59) (fun g => tLo (σ.1 61) (σ.1 60) (σ.1 53) (σ.1 11 0) g s) a i
        · rw [if_pos (Or.inr h1)] at hx
          exact (g_142_9 (br_t lt ⟨(vp_in_nI (by omega) (by decide)), (br_t (by rw [ei]; exact hl) ⟨_, _, (s_136a (by omega) hs hh1 eh), (br_f (by rw [bI_0]; omega) (br_t rfl (br_t h1 hx)))⟩)⟩))
        · rw [if_neg (fun q => q.elim h0 h1)] at hx
          exact (g_142_9 (br_t lt ⟨(vp_in_nI (by omega) (by decide)), (br_t (by rw [ei]; exact hl) ⟨_, _, (s_136a (by omega) hs hh1 eh), (br_f (by rw [bI_0]; omega) (br_t rfl (br_f h1 hx)))⟩)⟩))
    · rw [if_neg hl, ct_N hl] at hx
      exact (g_142_9 (br_t lt ⟨(vp_in_nI (by omega) (by decide)), (br_f (by rw [ei]; exact hl) hx)⟩))
  · exact (g_142_9 (br_f (by rw [en]; exact Int32.lt_irrefl) ⟨rfl, rfl⟩))
theorem s_142b {σ : St} {n s : Nat} {a e : Int32} (he : ¬ e = 0) (hn : n ≤ 60) (en : σ.1 11 9 = nI n) (hs : s < 3) (hh : ∀ g, g < n → ∃ h, h < 3 ∧ σ.1 60 g = nI h) : Ret 142 [.ref 11, .int a, .int (nI s), .int e] σ [.int (bHi (σ.1 59) (fun g => tHi (σ.1 61) (σ.1 60) (σ.1 52) (σ.1 11 0) g s) a n)] σ := by
  refine g_142_0 ?_
  refine loopN n (fun i => Go 142 9 [.ref 11, .int a, .int (nI s), .int e, .int (bI (0 < gCt (σ.1 59) a i)), .int (bHi (σ.1 59) (fun g => tHi (σ.1 61) (σ.1 60) (σ.1 52) (σ.1 11 0) g s) a i), .int (nI i), .null] [] σ [.int (bHi (σ.1 59) (fun g => tHi (σ.1 61) (σ.1 60) (σ.1 52) (σ.1 11 0) g s) a n)] σ) ?_ ?_ 0 (by omega)
  · intro i hi hx
    have ei : (nI i).toNatClampNeg = i := clN (by omega)
    have lt : nI i < σ.1 11 9 := by rw [en]; exact (nI_ltI (by omega) (by omega)).mpr hi
    obtain ⟨h, hh1, eh⟩ := hh i hi
    rw [bHi, ← nI_S] at hx
    by_cases hl : σ.1 59 i = a
    · rw [if_pos hl, ct_S hl] at hx
      by_cases h0 : gCt (σ.1 59) a i = 0
      · rw [if_pos (Or.inl h0)] at hx
        exact (g_142_9 (br_t lt ⟨(vp_in_nI (by omega) (by decide)), (br_t (by rw [ei]; exact hl) ⟨_, _, (s_136b he (by omega) hs hh1 eh), (br_t (by rw [bI_0]; omega) hx)⟩)⟩))
      · by_cases h1 : bHi (σ.1 59) (fun g => tHi (σ.1 61) (σ.1 60) (σ.1 52) (σ.1 11 0) g s) a i < tHi (σ.1 61) (σ.1 60) (σ.1 52) (σ.1 11 0) i s
        · rw [if_pos (Or.inr h1)] at hx
          exact (g_142_9 (br_t lt ⟨(vp_in_nI (by omega) (by decide)), (br_t (by rw [ei]; exact hl) ⟨_, _, (s_136b he (by omega) hs hh1 eh), (br_f (by rw [bI_0]; omega) (br_f he (br_f (by grind) hx)))⟩)⟩))
        · rw [if_neg (fun q => q.elim h0 h1)] at hx
          exact (g_142_9 (br_t lt ⟨(vp_in_nI (by omega) (by decide)), (br_t (by rw [ei]; exact hl) ⟨_, _, (s_136b he (by omega) hs hh1 eh), (br_f (by rw [bI_0]; omega) (br_f he (br_t (by grind) hx)))⟩)⟩))
    · rw [if_neg hl, ct_N hl] at hx
      exact (g_142_9 (br_t lt ⟨(vp_in_nI (by omega) (by decide)), (br_f (by rw [ei]; exact hl) hx)⟩))
  · exact (g_142_9 (br_f (by rw [en]; exact Int32.lt_irrefl) ⟨rfl, rfl⟩))
/-- the class's rows and the model's glass, of a line -/
theorem gl_eq {σ : St} {n l s : Nat} (hR : Rel σ) (hg : GF σ n) (hl : l < 144) (h : 0 < σ.1 30 l) (hs : s < 3) :
    Ret 142 [.ref 11, .int (nI l), .int (nI s), .int 0] σ [.int (σ.1 31 (3 * l + s))] σ ∧ ∀ e : Int32, ¬ e = 0 → Ret 142 [.ref 11, .int (nI l), .int (nI s), .int e] σ [.int (σ.1 32 (3 * l + s))] σ := by
  have hn := hg.1.1
  have hh : ∀ g, g < n → ∃ h, h < 3 ∧ σ.1 60 g = nI h := fun g hgn => by
    obtain ⟨k, hk, ek⟩ := hg.1.2.2.2 g hgn
    exact ⟨k, hk, by rw [← (hg.2.2.1 g hgn).2.1]; exact ek⟩
  have hc : 0 < gCt (σ.1 27) (nI l) n := by
    rw [hg.2.2.2.1 l hl] at h
    have := gCt_le (ln := σ.1 27) (l := nI l) n
    rcases Nat.eq_zero_or_pos (gCt (σ.1 27) (nI l) n) with q | q
    · rw [q] at h; exact absurd h (by decide)
    · exact q
  have r := hg.2.2.2.2 l s hl hs hc
  have cg : ∀ g, g < n → σ.1 27 g = σ.1 59 g ∧ tLo (σ.1 29) (σ.1 28) (σ.1 20) (σ.1 3 10) g s = tLo (σ.1 61) (σ.1 60) (σ.1 53) (σ.1 11 0) g s := fun g hgn => ⟨(hg.2.2.1 g hgn).1, (tl_eq hR hg hgn hs).1⟩
  have ch : ∀ g, g < n → σ.1 27 g = σ.1 59 g ∧ tHi (σ.1 29) (σ.1 28) (σ.1 19) (σ.1 3 10) g s = tHi (σ.1 61) (σ.1 60) (σ.1 52) (σ.1 11 0) g s := fun g hgn => ⟨(hg.2.2.1 g hgn).1, (tl_eq hR hg hgn hs).2⟩
  constructor
  · rw [r.1, ← bLo_eq (fun g hgn => by have := tl_rng hR hg hgn hs; grind) hc, (bLo_congr cg).1]
    exact s_142a hn hg.2.1 hs hh
  · intro e he
    rw [r.2, ← bHi_eq (fun g hgn => by have := tl_rng hR hg hgn hs; grind) hc, (bLo_congr ch).2]
    exact s_142b he hn hg.2.1 hs hh
theorem p_glass {σ : St} {a b c : Int32} (hR : Rel σ) : PairI 76 143 [.int a, .int b, .int c] σ := by
  obtain ⟨n, hg⟩ := hR.gf
  rcases (Classical.em (lnP σ a)).symm with h1 | h1
  · exact ⟨-1000001, σ, σ, (g_76_0 ⟨_, _, (s_29f h1), (br_t (by (try simp only [bI_0, vp_6, vp_9, vp_10, vp_12, vp_18, vp_30, vp_31, vp_50, vp_60, vp_144, vp_154, vp_180, vp_432, vp_3600]) <;> grind) ⟨rfl, rfl⟩)⟩), (g_143_0 ⟨_, _, (s_140f hg h1), (br_t (by (try simp only [bI_0, vp_6, vp_9, vp_10, vp_12, vp_18, vp_30, vp_31, vp_50, vp_60, vp_144, vp_154, vp_180, vp_432, vp_3600]) <;> grind) ⟨rfl, rfl⟩)⟩), hR⟩
  rcases (Classical.em (0 ≤ b ∧ b < 3)).symm with h2 | h2
  · exact ⟨-1000002, σ, σ, (g_76_0 ⟨_, _, (s_29t h1), (br_f (by (try simp only [bI_0, vp_6, vp_9, vp_10, vp_12, vp_18, vp_30, vp_31, vp_50, vp_60, vp_144, vp_154, vp_180, vp_432, vp_3600]) <;> grind) ⟨_, _, s_114, (br_t (by (try simp only [bI_0, vp_6, vp_9, vp_10, vp_12, vp_18, vp_30, vp_31, vp_50, vp_60, vp_144, vp_154, vp_180, vp_432, vp_3600]) <;> grind) ⟨rfl, rfl⟩)⟩)⟩), (g_143_0 ⟨_, _, (s_140t hg h1), (br_f (by (try simp only [bI_0, vp_6, vp_9, vp_10, vp_12, vp_18, vp_30, vp_31, vp_50, vp_60, vp_144, vp_154, vp_180, vp_432, vp_3600]) <;> grind) ⟨_, _, s_120, (br_t (by (try simp only [bI_0, vp_6, vp_9, vp_10, vp_12, vp_18, vp_30, vp_31, vp_50, vp_60, vp_144, vp_154, vp_180, vp_432, vp_3600]) <;> grind) ⟨rfl, rfl⟩)⟩)⟩), hR⟩
  rcases (Classical.em (0 ≤ c ∧ c < 2)).symm with h3 | h3
  · exact ⟨-1000002, σ, σ, (g_76_0 ⟨_, _, (s_29t h1), (br_f (by (try simp only [bI_0, vp_6, vp_9, vp_10, vp_12, vp_18, vp_30, vp_31, vp_50, vp_60, vp_144, vp_154, vp_180, vp_432, vp_3600]) <;> grind) ⟨_, _, s_114, (br_f (by (try simp only [bI_0, vp_6, vp_9, vp_10, vp_12, vp_18, vp_30, vp_31, vp_50, vp_60, vp_144, vp_154, vp_180, vp_432, vp_3600]) <;> grind) ⟨_, _, s_114, (br_t (by (try simp only [bI_0, vp_6, vp_9, vp_10, vp_12, vp_18, vp_30, vp_31, vp_50, vp_60, vp_144, vp_154, vp_180, vp_432, vp_3600]) <;> grind) ⟨rfl, rfl⟩)⟩)⟩)⟩), (g_143_0 ⟨_, _, (s_140t hg h1), (br_f (by (try simp only [bI_0, vp_6, vp_9, vp_10, vp_12, vp_18, vp_30, vp_31, vp_50, vp_60, vp_144, vp_154, vp_180, vp_432, vp_3600]) <;> grind) ⟨_, _, s_120, (br_f (by (try simp only [bI_0, vp_6, vp_9, vp_10, vp_12, vp_18, vp_30, vp_31, vp_50, vp_60, vp_144, vp_154, vp_180, vp_432, vp_3600]) <;> grind) ⟨_, _, s_126, (br_t (by (try simp only [bI_0, vp_6, vp_9, vp_10, vp_12, vp_18, vp_30, vp_31, vp_50, vp_60, vp_144, vp_154, vp_180, vp_432, vp_3600]) <;> grind) ⟨rfl, rfl⟩)⟩)⟩)⟩), hR⟩
  obtain ⟨l, hl, rfl⟩ := inR (x := a) (m := 144) (n := 144) rfl (by decide) h1.1 h1.2.1
  obtain ⟨s, hs, rfl⟩ := inR (x := b) (m := 3) (n := 3) rfl (by decide) h2.1 h2.2
  have hp := (lnP_nI hl).mp h1
  have ge := gl_eq hR hg hl hp hs
  have ei : (nI l * 3 + nI s).toNatClampNeg = 3 * l + s := by rw [mul3]; exact clN (by omega)
  have gi : vp_in (nI l * 3 + nI s) 432 := v3 (by omega) (by decide)
  by_cases h4 : c = 0
  · subst h4
    refine ⟨_, σ, σ, (g_76_0 ⟨_, _, (s_29t h1), (br_f (by (try simp only [bI_0, vp_6, vp_9, vp_10, vp_12, vp_18, vp_30, vp_31, vp_50, vp_60, vp_144, vp_154, vp_180, vp_432, vp_3600]) <;> grind) ⟨_, _, s_114, (br_f (by (try simp only [bI_0, vp_6, vp_9, vp_10, vp_12, vp_18, vp_30, vp_31, vp_50, vp_60, vp_144, vp_154, vp_180, vp_432, vp_3600]) <;> grind) ⟨_, _, s_114, (br_f (by (try simp only [bI_0, vp_6, vp_9, vp_10, vp_12, vp_18, vp_30, vp_31, vp_50, vp_60, vp_144, vp_154, vp_180, vp_432, vp_3600]) <;> grind) (br_t (by (try simp only [bI_0, vp_6, vp_9, vp_10, vp_12, vp_18, vp_30, vp_31, vp_50, vp_60, vp_144, vp_154, vp_180, vp_432, vp_3600]) <;> grind) ⟨gi, ⟨rfl, rfl⟩⟩))⟩)⟩)⟩), (g_143_0 ⟨_, _, (s_140t hg h1), (br_f (by (try simp only [bI_0, vp_6, vp_9, vp_10, vp_12, vp_18, vp_30, vp_31, vp_50, vp_60, vp_144, vp_154, vp_180, vp_432, vp_3600]) <;> grind) ⟨_, _, s_120, (br_f (by (try simp only [bI_0, vp_6, vp_9, vp_10, vp_12, vp_18, vp_30, vp_31, vp_50, vp_60, vp_144, vp_154, vp_180, vp_432, vp_3600]) <;> grind) ⟨_, _, s_126, (br_f (by (try simp only [bI_0, vp_6, vp_9, vp_10, vp_12, vp_18, vp_30, vp_31, vp_50, vp_60, vp_144, vp_154, vp_180, vp_432, vp_3600]) <;> grind) ⟨_, _, ge.1, ⟨?_, rfl⟩⟩)⟩)⟩)⟩), hR⟩
    rw [ei]
  · refine ⟨_, σ, σ, (g_76_0 ⟨_, _, (s_29t h1), (br_f (by (try simp only [bI_0, vp_6, vp_9, vp_10, vp_12, vp_18, vp_30, vp_31, vp_50, vp_60, vp_144, vp_154, vp_180, vp_432, vp_3600]) <;> grind) ⟨_, _, s_114, (br_f (by (try simp only [bI_0, vp_6, vp_9, vp_10, vp_12, vp_18, vp_30, vp_31, vp_50, vp_60, vp_144, vp_154, vp_180, vp_432, vp_3600]) <;> grind) ⟨_, _, s_114, (br_f (by (try simp only [bI_0, vp_6, vp_9, vp_10, vp_12, vp_18, vp_30, vp_31, vp_50, vp_60, vp_144, vp_154, vp_180, vp_432, vp_3600]) <;> grind) (br_f (by (try simp only [bI_0, vp_6, vp_9, vp_10, vp_12, vp_18, vp_30, vp_31, vp_50, vp_60, vp_144, vp_154, vp_180, vp_432, vp_3600]) <;> grind) ⟨gi, ⟨rfl, rfl⟩⟩))⟩)⟩)⟩), (g_143_0 ⟨_, _, (s_140t hg h1), (br_f (by (try simp only [bI_0, vp_6, vp_9, vp_10, vp_12, vp_18, vp_30, vp_31, vp_50, vp_60, vp_144, vp_154, vp_180, vp_432, vp_3600]) <;> grind) ⟨_, _, s_120, (br_f (by (try simp only [bI_0, vp_6, vp_9, vp_10, vp_12, vp_18, vp_30, vp_31, vp_50, vp_60, vp_144, vp_154, vp_180, vp_432, vp_3600]) <;> grind) ⟨_, _, s_126, (br_f (by (try simp only [bI_0, vp_6, vp_9, vp_10, vp_12, vp_18, vp_30, vp_31, vp_50, vp_60, vp_144, vp_154, vp_180, vp_432, vp_3600]) <;> grind) ⟨_, _, (ge.2 c h4), ⟨?_, rfl⟩⟩)⟩)⟩)⟩), hR⟩
    rw [ei]
