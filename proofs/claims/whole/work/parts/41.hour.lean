/-! gaps -/
def gapF (l h ol oh : Int32) : Int32 := if l ≤ oh then (if ol ≤ h then 0 else ol - h) else l - oh
theorem s_117 {σ : St} {a b c d : Int32} : Ret 117 [.int a, .int b, .int c, .int d] σ [.int (gapF a b c d)] σ := by
  unfold gapF
  refine g_117_0 ⟨fun q1 => ⟨fun q2 => ?_, fun q2 => ?_⟩, fun q1 => ?_⟩
  · rw [if_pos q1, if_pos q2]; exact ⟨rfl, rfl⟩
  · rw [if_pos q1, if_neg q2]; exact ⟨rfl, rfl⟩
  · rw [if_neg q1]; exact ⟨rfl, rfl⟩
theorem s_150 {σ : St} {a b c d : Int32} (h1 : a ≤ b) (h2 : c ≤ d) : Ret 150 [.int a, .int b, .int c, .int d] σ [.int (gapF a b c d)] σ := by
  unfold gapF
  refine g_150_0 ⟨fun q1 => ⟨fun q2 => ?_, fun q2 => ?_⟩, fun q1 => ?_⟩
  · rw [if_pos q2, if_pos q1]; exact ⟨rfl, rfl⟩
  · rw [if_neg q2]; exact ⟨rfl, rfl⟩
  · rw [if_pos (by grind), if_neg q1]; exact ⟨rfl, rfl⟩
theorem gl_rng {ln t u : Nat → Int32} {l : Int32} : ∀ {n : Nat}, (∀ g, g < n → -12 ≤ t g ∧ t g ≤ u g ∧ u g ≤ 111) → 0 < gCt ln l n → -12 ≤ gLo ln t l n ∧ gLo ln t l n ≤ gHi ln u l n ∧ gHi ln u l n ≤ 111
  | 0, _, h => absurd h (by simp [gCt])
  | n + 1, ht, h => by
    unfold gLo gHi
    unfold gCt at h
    have tn := ht n (by omega)
    by_cases q : ln n = l
    · rw [if_pos q, if_pos q]
      by_cases q0 : gCt ln l n = 0
      · rw [(gLo_0 (t := t) q0).1, (gLo_0 (t := u) q0).2, if_pos (by grind), if_pos (by grind)]
        exact tn
      · have ih := gl_rng (n := n) (ln := ln) (l := l) (fun g hg => ht g (by omega)) (by omega)
        split <;> split <;> grind
    · rw [if_neg q, if_neg q]
      rw [if_neg q] at h
      exact gl_rng (n := n) (fun g hg => ht g (by omega)) (by omega)
theorem glass_rng {σ : St} {n l s : Nat} (hR : Rel σ) (hg : GF σ n) (hl : l < 144) (h : 0 < σ.1 30 l) (hs : s < 3) : -12 ≤ σ.1 31 (3 * l + s) ∧ σ.1 31 (3 * l + s) ≤ σ.1 32 (3 * l + s) ∧ σ.1 32 (3 * l + s) ≤ 111 := by
  have hc : 0 < gCt (σ.1 27) (nI l) n := by
    rw [hg.2.2.2.1 l hl] at h
    have := gCt_le (ln := σ.1 27) (l := nI l) n
    rcases Nat.eq_zero_or_pos (gCt (σ.1 27) (nI l) n) with q | q
    · rw [q] at h; exact absurd h (by decide)
    · exact q
  have r := hg.2.2.2.2 l s hl hs hc
  rw [r.1, r.2]
  exact gl_rng (fun g hgn => tl_rng hR hg hgn hs) hc
/-! hours -/
def hS (gp : Nat → Int32) : Nat → Int32
  | 0 => 0
  | s + 1 => hS gp s + gp s
def hN (b : Int32) (gp : Nat → Int32) : Nat → Int32
  | 0 => b
  | s + 1 => hN b gp s + (-(gp s))
theorem hS_rng {gp : Nat → Int32} (h : ∀ s, s < 3 → 0 ≤ gp s ∧ gp s ≤ 200) : 0 ≤ hS gp 3 ∧ hS gp 3 ≤ 600 := by
  have h0 := h 0 (by decide)
  have h1 := h 1 (by decide)
  have h2 := h 2 (by decide)
  show 0 ≤ 0 + gp 0 + gp 1 + gp 2 ∧ 0 + gp 0 + gp 1 + gp 2 ≤ 600
  grind
theorem hN_eq {b : Int32} {gp : Nat → Int32} : hN b gp 3 = b - hS gp 3 := by
  show b + -(gp 0) + -(gp 1) + -(gp 2) = b - (0 + gp 0 + gp 1 + gp 2)
  grind
def hGp (σ : St) (l d h : Nat) (s : Nat) : Int32 := gapF (σ.1 31 (3 * l + s)) (σ.1 32 (3 * l + s)) (σ.1 17 (6 * d + 3 * h + s)) (σ.1 17 (6 * d + 3 * h + s))
def hourF (σ : St) (l d : Nat) : Int32 := if hS (hGp σ l d 0) 3 = hS (hGp σ l d 1) 3 then 2 else if hS (hGp σ l d 0) 3 < hS (hGp σ l d 1) 3 then 0 else 1
theorem s_10 {σ : St} {l d h : Nat} (hl : l < 144) (hd : d < 10) (hh : h < 2) (ed : σ.1 47 l = nI d) : Ret 10 [.ref 1, .int (nI l), .int (nI h)] σ [.int (hS (hGp σ l d h) 3)] σ := by
  refine g_10_0 ?_
  have el : (nI l).toNatClampNeg = l := clN (by omega)
  refine loopN 3 (fun s => Go 10 5 [.ref 1, .int (nI l), .int (nI h), .int (hS (hGp σ l d h) s), .int (nI s)] [] σ [.int (hS (hGp σ l d h) 3)] σ) ?_ ?_ 0 (by omega)
  · intro s hs hx
    rw [← nI_S, hS] at hx
    have ei : (nI l * 3 + nI s).toNatClampNeg = 3 * l + s := by rw [mul3]; exact clN (by omega)
    have ex : (nI d * 2 + nI h) * 3 + nI s = nI (6 * d + 3 * h + s) := by
      rw [show (2 : Int32) = nI 2 from rfl, show (3 : Int32) = nI 3 from rfl, pk_mul, nI_add, pk_mul, nI_add]
      congr 1
      omega
    have s8 : Ret 8 [.ref 1, .int (σ.1 47 (nI l).toNatClampNeg), .int (nI h), .int (nI s)] σ [.int (nI (6 * d + 3 * h + s))] σ := by
      rw [el, ed, ← ex]
      exact s_8
    have s37 : Ret 37 [.ref 4, .int (nI l), .int (nI s), .int (σ.1 17 (6 * d + 3 * h + s))] σ [.int (hGp σ l d h s)] σ := by
      refine g_37_0 ⟨v3 (by omega) (by decide), _, _, s_117, ?_, rfl⟩
      rw [ei]
      rfl
    refine g_10_5 (br_t ((nI_ltL (n := 3) rfl (by omega) (by decide)).mpr hs) ⟨vp_in_nI hl (by decide), _, _, s8, vp_in_nI (by omega) (by decide), _, _, ?_, hx⟩)
    rw [clN (by omega)]
    exact s37
  · exact g_10_5 (br_f (by decide) ⟨rfl, rfl⟩)
theorem s_9 {σ : St} {l d : Nat} (hl : l < 144) (hd : d < 10) (ed : σ.1 47 l = nI d) : Ret 9 [.ref 1, .int (nI l)] σ [.int (hourF σ l d)] σ := by
  unfold hourF
  refine g_9_0 ⟨_, _, s_10 (h := 0) hl hd (by decide) ed, _, _, s_10 (h := 1) hl hd (by decide) ed, fun q1 => ?_, fun q1 => ⟨fun q2 => ?_, fun q2 => ?_⟩⟩
  · rw [if_pos q1]; exact ⟨rfl, rfl⟩
  · rw [if_neg q1, if_pos q2]; exact ⟨rfl, rfl⟩
  · rw [if_neg q1, if_neg q2]; exact ⟨rfl, rfl⟩
theorem hGp_rng {σ : St} {n l d h : Nat} (hR : Rel σ) (hg : GF σ n) (hl : l < 144) (hp : 0 < σ.1 30 l) (hd : d < 10) (hh : h < 2) : ∀ s, s < 3 → 0 ≤ hGp σ l d h s ∧ hGp σ l d h s ≤ 200 := by
  intro s hs
  obtain ⟨hS_, hG, hH, hL, hP, hM, hA, hT, hD, hF, hU⟩ := id hR
  have g := glass_rng hR hg hl hp hs
  have d9 := hD.2 (6 * d + 3 * h + s) (by omega)
  unfold hGp gapF
  split
  · split <;> grind
  · grind
theorem s_190 {σ : St} {n l d : Nat} (hR : Rel σ) (hg : GF σ n) (hl : l < 144) (hp : 0 < σ.1 30 l) (hd : d < 10) (ed : σ.1 74 l = nI d) : Ret 190 [.ref 11, .int (nI l)] σ [.int (hourF σ l d)] σ := by
  obtain ⟨hS_, hG, hH, hL, hP, hM, hA, hT, hD, hF, hU⟩ := id hR
  have el : (nI l).toNatClampNeg = l := clN (by omega)
  have gi : vp_in (nI l) 144 := vp_in_nI hl (by decide)
  have ex : ∀ h s, h < 2 → s < 3 → 6 * σ.1 74 (nI l).toNatClampNeg + 3 * nI h + nI s = nI (6 * d + 3 * h + s) := by
    intro h s hh hs
    rw [el, ed, show (6 : Int32) = nI 6 from rfl, show (3 : Int32) = nI 3 from rfl, pk_mul, pk_mul, nI_add, nI_add]
  have step : ∀ h s, h < 2 → s < 3 → ∀ R S v2, (v2 = v2 → (if nI h = 0 then Go 190 12 [.ref 11, .int (nI l), .int (v2 + hGp σ l d h s), .int (nI h), .int (nI (s + 1)), .null, .null] [] σ R S else Go 190 12 [.ref 11, .int (nI l), .int (v2 + (-(hGp σ l d h s))), .int (nI h), .int (nI (s + 1)), .null, .null] [] σ R S)) → Go 190 12 [.ref 11, .int (nI l), .int v2, .int (nI h), .int (nI s), .null, .null] [] σ R S := by
    intro h s hh hs R S v2 hx
    have hx := hx rfl
    have ge := gl_eq hR hg hl hp hs
    have gr := glass_rng hR hg hl hp hs
    have d9 := hD.2 (6 * d + 3 * h + s) (by omega)
    have s150 : Ret 150 [.int (σ.1 31 (3 * l + s)), .int (σ.1 32 (3 * l + s)), .int (σ.1 78 (6 * d + 3 * h + s)), .int (σ.1 78 (6 * d + 3 * h + s))] σ [.int (hGp σ l d h s)] σ := by
      unfold hGp
      rw [d9.1]
      exact s_150 gr.2.1 (Int32.le_refl _)
    refine g_190_12 (br_t ((nI_ltL (n := 3) rfl (by omega) (by decide)).mpr hs) ⟨gi, ?_, _, _, ge.1, _, _, ge.2 1 (by decide), hGp σ l d h s, σ, ?_, fun q => ?_, fun q => ?_⟩)
    · rw [ex h s hh hs]; exact vp_in_nI (by omega) (by decide)
    · rw [ex h s hh hs, clN (by omega)]; exact s150
    · rw [if_pos q] at hx; rw [nI_S]; exact hx
    · rw [if_neg q] at hx; rw [nI_S]; exact hx
  have r0 := hS_rng (hGp_rng hR hg hl hp hd (h := 0) (by decide))
  have r1 := hS_rng (hGp_rng hR hg hl hp hd (h := 1) (by decide))
  refine g_190_0 (g_190_4 (br_t (by decide) ?_))
  refine loopN 3 (fun s => Go 190 12 [.ref 11, .int (nI l), .int (hS (hGp σ l d 0) s), .int 0, .int (nI s), .null, .null] [] σ [.int (hourF σ l d)] σ) ?_ ?_ 0 (by omega)
  · intro s hs hx
    refine step 0 s (by decide) hs _ _ _ (fun _ => ?_)
    rw [if_pos (show nI 0 = 0 from rfl)]
    exact hx
  · refine g_190_12 (br_f (by decide) (g_190_4 (br_t (by decide) ?_)))
    refine loopN 3 (fun s => Go 190 12 [.ref 11, .int (nI l), .int (hN (hS (hGp σ l d 0) 3) (hGp σ l d 1) s), .int 1, .int (nI s), .null, .null] [] σ [.int (hourF σ l d)] σ) ?_ ?_ 0 (by omega)
    · intro s hs hx
      refine step 1 s (by decide) hs _ _ _ (fun _ => ?_)
      rw [if_neg (by decide)]
      exact hx
    · refine g_190_12 (br_f (by decide) (g_190_4 (br_f (by decide) ?_)))
      rw [hN_eq]
      unfold hourF
      refine ⟨fun q1 => ?_, fun q1 => ⟨fun q2 => ?_, fun q2 => ?_⟩⟩
      · rw [if_neg (by grind), if_pos (by grind)]; exact ⟨rfl, rfl⟩
      · rw [if_pos (by grind)]; exact ⟨rfl, rfl⟩
      · rw [if_neg (by grind), if_neg (by grind)]; exact ⟨rfl, rfl⟩
def tdP (σ : St) (a : Int32) : Prop := 0 ≤ a ∧ a < 144 ∧ ¬ σ.1 47 a.toNatClampNeg = -1
theorem td_spec {σ : St} {l : Nat} (hR : Rel σ) (hl : l < 144) (h : ¬ σ.1 47 l = -1) : ∃ d : Nat, d < 10 ∧ σ.1 47 l = nI d ∧ σ.1 74 l = nI d ∧ 0 < σ.1 30 l := by
  obtain ⟨hS_, hG, hH, hL, hP, hM, hA, hT, hD, hF, hU⟩ := id hR
  rcases (hT l hl).1 with q | q
  · exact absurd q.1 h
  · exact q
theorem s_191t {σ : St} {n l : Nat} (hR : Rel σ) (hg : GF σ n) (hl : l < 144) (h : ¬ σ.1 47 l = -1) : Ret 191 [.ref 11, .int (nI l)] σ [.int 1] σ := by
  obtain ⟨d, hd, e1, e2, hp⟩ := td_spec hR hl h
  have el : (nI l).toNatClampNeg = l := clN (by omega)
  exact (g_191_0 ⟨_, _, (s_140t hg ((lnP_nI hl).mpr hp)), (br_f (by (try simp only [bI_0, vp_6, vp_9, vp_10, vp_12, vp_18, vp_30, vp_31, vp_50, vp_60, vp_144, vp_154, vp_180, vp_432, vp_3600]) <;> grind) ⟨(vp_in_nI hl (by decide)), (br_f (by rw [el, e2]; exact nI_pos (by omega)) ⟨rfl, rfl⟩)⟩)⟩)
theorem s_191f {σ : St} {n l : Nat} (hR : Rel σ) (hg : GF σ n) (hl : l < 144) (h : σ.1 47 l = -1) : Ret 191 [.ref 11, .int (nI l)] σ [.int 0] σ := by
  obtain ⟨hS_, hG, hH, hL, hP, hM, hA, hT, hD, hF, hU⟩ := id hR
  have el : (nI l).toNatClampNeg = l := clN (by omega)
  have e2 : σ.1 74 l = -6 := by
    rcases (hT l hl).1 with q | ⟨d, hd, q1, q2⟩
    · exact q.2
    · exact absurd (q1.symm.trans h) (neg1_nI (by omega))
  by_cases hp : lnP σ (nI l)
  · exact (g_191_0 ⟨_, _, (s_140t hg hp), (br_f (by (try simp only [bI_0, vp_6, vp_9, vp_10, vp_12, vp_18, vp_30, vp_31, vp_50, vp_60, vp_144, vp_154, vp_180, vp_432, vp_3600]) <;> grind) ⟨(vp_in_nI hl (by decide)), (br_t (by rw [el, e2]; decide) ⟨rfl, rfl⟩)⟩)⟩)
  · exact (g_191_0 ⟨_, _, (s_140f hg hp), (br_t (by (try simp only [bI_0, vp_6, vp_9, vp_10, vp_12, vp_18, vp_30, vp_31, vp_50, vp_60, vp_144, vp_154, vp_180, vp_432, vp_3600]) <;> grind) ⟨rfl, rfl⟩)⟩)
theorem p_hour {σ : St} {a : Int32} (hR : Rel σ) : PairI 101 192 [.int a] σ := by
  obtain ⟨n, hg⟩ := hR.gf
  rcases (Classical.em (0 ≤ a ∧ a < 144)).symm with h1 | h1
  · have : Ret 191 [.ref 11, .int a] σ [.int 0] σ := (g_191_0 ⟨_, _, (s_140f hg (fun q => h1 ⟨q.1, q.2.1⟩)), (br_t (by (try simp only [bI_0, vp_6, vp_9, vp_10, vp_12, vp_18, vp_30, vp_31, vp_50, vp_60, vp_144, vp_154, vp_180, vp_432, vp_3600]) <;> grind) ⟨rfl, rfl⟩)⟩)
    exact ⟨-1, σ, σ, (g_101_0 ⟨_, _, s_114, (br_t (by (try simp only [bI_0, vp_6, vp_9, vp_10, vp_12, vp_18, vp_30, vp_31, vp_50, vp_60, vp_144, vp_154, vp_180, vp_432, vp_3600]) <;> grind) ⟨rfl, rfl⟩)⟩), (g_192_0 ⟨_, _, this, (br_t (by (try simp only [bI_0, vp_6, vp_9, vp_10, vp_12, vp_18, vp_30, vp_31, vp_50, vp_60, vp_144, vp_154, vp_180, vp_432, vp_3600]) <;> grind) ⟨rfl, rfl⟩)⟩), hR⟩
  obtain ⟨l, hl, rfl⟩ := inR (x := a) (m := 144) (n := 144) rfl (by decide) h1.1 h1.2
  have el : (nI l).toNatClampNeg = l := clN (by omega)
  have gi : vp_in (nI l) 144 := vp_in_nI hl (by decide)
  by_cases h2 : σ.1 47 l = -1
  · exact ⟨-1, σ, σ, (g_101_0 ⟨_, _, s_114, (br_f (by (try simp only [bI_0, vp_6, vp_9, vp_10, vp_12, vp_18, vp_30, vp_31, vp_50, vp_60, vp_144, vp_154, vp_180, vp_432, vp_3600]) <;> grind) ⟨gi, (br_t (by rw [el]; exact h2) ⟨rfl, rfl⟩)⟩)⟩), (g_192_0 ⟨_, _, (s_191f hR hg hl h2), (br_t (by (try simp only [bI_0, vp_6, vp_9, vp_10, vp_12, vp_18, vp_30, vp_31, vp_50, vp_60, vp_144, vp_154, vp_180, vp_432, vp_3600]) <;> grind) ⟨rfl, rfl⟩)⟩), hR⟩
  · obtain ⟨d, hd, e1, e2, hp⟩ := td_spec hR hl h2
    exact ⟨_, σ, σ, (g_101_0 ⟨_, _, s_114, (br_f (by (try simp only [bI_0, vp_6, vp_9, vp_10, vp_12, vp_18, vp_30, vp_31, vp_50, vp_60, vp_144, vp_154, vp_180, vp_432, vp_3600]) <;> grind) ⟨gi, (br_f (by rw [el]; exact h2) ⟨_, _, (s_9 hl hd e1), ⟨rfl, rfl⟩⟩)⟩)⟩), (g_192_0 ⟨_, _, (s_191t hR hg hl h2), (br_f (by (try simp only [bI_0, vp_6, vp_9, vp_10, vp_12, vp_18, vp_30, vp_31, vp_50, vp_60, vp_144, vp_154, vp_180, vp_432, vp_3600]) <;> grind) ⟨_, _, (s_190 hR hg hl hp hd e2), ⟨rfl, rfl⟩⟩)⟩), hR⟩
