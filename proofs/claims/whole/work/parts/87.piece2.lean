/-! what a piece, a round piece wants: the same on both sides -/
theorem hx_n {r54 r56 : Nat → Int32} {n p : Nat} {h s : Int32} (e : p ≠ n) : hx (upd r54 n h) (upd r56 n s) p = hx r54 r56 p := by
  unfold hx
  rw [upd_n e, upd_n e]
theorem hx_s {r54 r56 : Nat → Int32} {n : Nat} {h s : Int32} : hx (upd r54 n h) (upd r56 n s) n = (3 * h + s).toNatClampNeg := by
  unfold hx
  rw [upd_at, upd_at]
theorem mc_n {r54 r55 r56 r57 r58 : Nat → Int32} {n p : Nat} {h o s b f : Int32} {X Y : Nat → Int32} (e : p ≠ n) : MCp (upd r55 n o) (upd r57 n b) (upd r58 n f) (hx (upd r54 n h) (upd r56 n s)) (hx (upd r55 n o) (upd r56 n s)) X Y p ↔ MCp r55 r57 r58 (hx r54 r56) (hx r55 r56) X Y p := by
  unfold MCp
  rw [hx_n e, hx_n e, upd_n e, upd_n e, upd_n e]
theorem old_ok {r54 r55 r56 r57 r58 Lm Hm X Y : Nat → Int32} {n : Nat} (hg : Rg r54 r55 r56 r57 r58 n) (hp : ∀ p, p < n → ¬ 0 ≤ r55 p → r57 p - r58 p ≤ Lm (hx r54 r56 p) ∧ Hm (hx r54 r56 p) ≤ r57 p + r58 p) (hb : ∀ u, u < 9 → Lm u ≤ X u ∧ Y u ≤ Hm u) {p : Nat} (hpn : p < n) (hr : ¬ 0 ≤ r55 p) : r57 p - r58 p ≤ X (hx r54 r56 p) ∧ Y (hx r54 r56 p) ≤ r57 p + r58 p := by
  obtain ⟨g1, g2, _⟩ := hg p hpn
  have h9 : hx r54 r56 p < 9 := (idx9 g1 g2).1
  exact ⟨Int32.le_trans (hp p hpn hr).1 (hb _ h9).1, Int32.le_trans (hb _ h9).2 (hp p hpn hr).2⟩
theorem sol_piece {r23 r24 r25 r26 r54 r55 r56 r57 r58 L0 H0 Lm Hm X Y : Nat → Int32} {n k : Nat} {hI sI off gv : Int32} (hm : Mt r23 r24 r25 r26 r54 r55 r56 r57 r58 n k) (he : ∀ u, u < 9 → L0 u = Lm u ∧ H0 u = Hm u) (hg : Rg r54 r55 r56 r57 r58 n)
    (hp : ∀ p, p < n → ¬ 0 ≤ r55 p → r57 p - r58 p ≤ Lm (hx r54 r56 p) ∧ Hm (hx r54 r56 p) ≤ r57 p + r58 p) (h1 : 0 ≤ hI ∧ hI < 3) (h2 : 0 ≤ sI ∧ sI < 3) :
    SolC (fun j => (r23 j).toNatClampNeg) (fun j => (r24 j).toNatClampNeg) r25 r26 k (rz L0 (3 * hI + sI).toNatClampNeg (off - gv)) (lz H0 (3 * hI + sI).toNatClampNeg (off + gv)) X Y ↔
      (S9 X Y ∧ (∀ u, u < 9 → Lm u ≤ X u ∧ Y u ≤ Hm u) ∧ ∀ p, p < n + 1 → MCp (upd r55 n (-6)) (upd r57 n off) (upd r58 n gv) (hx (upd r54 n hI) (upd r56 n sI)) (hx (upd r55 n (-6)) (upd r56 n sI)) X Y p) := by
  have h9 := (idx9 h1 h2).1
  have hcr := cr_iff (X := X) (Y := Y) (hm.piece (h := hI) (s := sI) (b := off) (f := gv))
  have n6 : ¬ (0 : Int32) ≤ -6 := by decide
  constructor
  · rintro ⟨s9, hb, cr⟩
    have hb2 : ∀ u, u < 9 → Lm u ≤ X u ∧ Y u ≤ Hm u := fun u hu => ⟨by rw [← (he u hu).1]; exact Int32.le_trans (rz_ge u) (hb u hu).1, by rw [← (he u hu).2]; exact Int32.le_trans (hb u hu).2 (lz_le u)⟩
    refine ⟨s9, hb2, fun p hpn => ⟨fun hr => ?_, fun hr => (hcr.mp cr) p hpn hr⟩⟩
    by_cases e : p = n
    · subst e
      rw [hx_s, upd_at, upd_at]
      exact ⟨Int32.le_trans rz_v (hb _ h9).1, Int32.le_trans (hb _ h9).2 lz_v⟩
    · rw [upd_n e] at hr
      rw [hx_n e, upd_n e, upd_n e]
      exact old_ok hg hp hb2 (by omega) hr
  · rintro ⟨s9, hb, mc⟩
    have hnew := (mc n (by omega)).1 (by rw [upd_at]; exact n6)
    rw [hx_s, upd_at, upd_at] at hnew
    refine ⟨s9, fun u hu => ⟨?_, ?_⟩, hcr.mpr (fun p hpn hr => (mc p hpn).2 hr)⟩
    · rw [rz_at]
      split
      · rename_i q; rw [q.1]; exact hnew.1
      · rw [(he u hu).1]; exact (hb u hu).1
    · rw [lz_at]
      split
      · rename_i q; rw [q.1]; exact hnew.2
      · rw [(he u hu).2]; exact (hb u hu).2
theorem sol_round {r23 r24 r25 r26 r54 r55 r56 r57 r58 L0 H0 Lm Hm X Y : Nat → Int32} {n k : Nat} {hI oI sI off gv : Int32} (hm : Mt r23 r24 r25 r26 r54 r55 r56 r57 r58 n k) (he : ∀ u, u < 9 → L0 u = Lm u ∧ H0 u = Hm u) (hg : Rg r54 r55 r56 r57 r58 n)
    (hp : ∀ p, p < n → ¬ 0 ≤ r55 p → r57 p - r58 p ≤ Lm (hx r54 r56 p) ∧ Hm (hx r54 r56 p) ≤ r57 p + r58 p) (ho : 0 ≤ oI) :
    SolC (fun j => (upd r23 k (3 * hI + sI) j).toNatClampNeg) (fun j => (upd r24 k (3 * oI + sI) j).toNatClampNeg) (upd r25 k (off - 2 * gv)) (upd r26 k (off + 2 * gv)) (k + 1) L0 H0 X Y ↔
      (S9 X Y ∧ (∀ u, u < 9 → Lm u ≤ X u ∧ Y u ≤ Hm u) ∧ ∀ p, p < n + 1 → MCp (upd r55 n oI) (upd r57 n off) (upd r58 n gv) (hx (upd r54 n hI) (upd r56 n sI)) (hx (upd r55 n oI) (upd r56 n sI)) X Y p) := by
  have hcr := cr_iff (X := X) (Y := Y) (hm.round (h := hI) (o := oI) (s := sI) (b := off) (f := gv) ho)
  constructor
  · rintro ⟨s9, hb, cr⟩
    have hb2 : ∀ u, u < 9 → Lm u ≤ X u ∧ Y u ≤ Hm u := fun u hu => ⟨by rw [← (he u hu).1]; exact (hb u hu).1, by rw [← (he u hu).2]; exact (hb u hu).2⟩
    refine ⟨s9, hb2, fun p hpn => ⟨fun hr => ?_, fun hr => (hcr.mp cr) p hpn hr⟩⟩
    by_cases e : p = n
    · subst e
      rw [upd_at] at hr
      exact absurd ho hr
    · rw [upd_n e] at hr
      rw [hx_n e, upd_n e, upd_n e]
      exact old_ok hg hp hb2 (by omega) hr
  · rintro ⟨s9, hb, mc⟩
    exact ⟨s9, fun u hu => ⟨by rw [(he u hu).1]; exact (hb u hu).1, by rw [(he u hu).2]; exact (hb u hu).2⟩, hcr.mpr (fun p hpn hr => (mc p hpn).2 hr)⟩
theorem sub99 {a b : Int32} (h1 : 0 ≤ a ∧ a ≤ 99) (h2 : 0 ≤ b ∧ b ≤ 99) : -99 ≤ a - b ∧ a - b ≤ 99 := by
  constructor <;> grind
theorem p_piece {σ : St} {a b c d : Int32} (hR : Rel σ) : PairI 69 131 [.int a, .int b, .int c, .int d] σ := by
  obtain ⟨gn, hg⟩ := hR.gf
  obtain ⟨hS, hG, hH, hL, hP, hM, hA, hT, hD, hF, hU⟩ := id hR
  obtain ⟨n, k, hn, hkn, etk, epc, ern, hrg, hm1, hm2, hpc1, hpc2⟩ := id hP
  rcases (Classical.em (0 ≤ a ∧ a < 3)).symm with h1 | h1
  · exact ⟨-1, σ, σ, (g_69_0 ⟨_, _, s_114, (br_t (by (try simp only [bI_0, vp_6, vp_9, vp_10, vp_12, vp_18, vp_30, vp_31, vp_50, vp_60, vp_144, vp_154, vp_180, vp_432, vp_3600]) <;> grind) ⟨rfl, rfl⟩)⟩), (g_131_0 ⟨_, _, s_122, (br_t (by (try simp only [bI_0, vp_6, vp_9, vp_10, vp_12, vp_18, vp_30, vp_31, vp_50, vp_60, vp_144, vp_154, vp_180, vp_432, vp_3600]) <;> grind) ⟨rfl, rfl⟩)⟩), hR⟩
  rcases (Classical.em (0 ≤ b ∧ b < 3)).symm with h2 | h2
  · exact ⟨-2, σ, σ, (g_69_0 ⟨_, _, s_114, (br_f (by (try simp only [bI_0, vp_6, vp_9, vp_10, vp_12, vp_18, vp_30, vp_31, vp_50, vp_60, vp_144, vp_154, vp_180, vp_432, vp_3600]) <;> grind) ⟨_, _, s_114, (br_t (by (try simp only [bI_0, vp_6, vp_9, vp_10, vp_12, vp_18, vp_30, vp_31, vp_50, vp_60, vp_144, vp_154, vp_180, vp_432, vp_3600]) <;> grind) ⟨rfl, rfl⟩)⟩)⟩), (g_131_0 ⟨_, _, s_122, (br_f (by (try simp only [bI_0, vp_6, vp_9, vp_10, vp_12, vp_18, vp_30, vp_31, vp_50, vp_60, vp_144, vp_154, vp_180, vp_432, vp_3600]) <;> grind) ⟨_, _, s_120, (br_t (by (try simp only [bI_0, vp_6, vp_9, vp_10, vp_12, vp_18, vp_30, vp_31, vp_50, vp_60, vp_144, vp_154, vp_180, vp_432, vp_3600]) <;> grind) ⟨rfl, rfl⟩)⟩)⟩), hR⟩
  rcases (Classical.em (0 ≤ c ∧ c ≤ 99)).symm with h3 | h3
  · exact ⟨-2, σ, σ, (g_69_0 ⟨_, _, s_114, (br_f (by (try simp only [bI_0, vp_6, vp_9, vp_10, vp_12, vp_18, vp_30, vp_31, vp_50, vp_60, vp_144, vp_154, vp_180, vp_432, vp_3600]) <;> grind) ⟨_, _, s_114, (br_f (by (try simp only [bI_0, vp_6, vp_9, vp_10, vp_12, vp_18, vp_30, vp_31, vp_50, vp_60, vp_144, vp_154, vp_180, vp_432, vp_3600]) <;> grind) ⟨_, _, s_115, (br_t (by (try simp only [bI_0, vp_6, vp_9, vp_10, vp_12, vp_18, vp_30, vp_31, vp_50, vp_60, vp_144, vp_154, vp_180, vp_432, vp_3600]) <;> grind) ⟨rfl, rfl⟩)⟩)⟩)⟩), (g_131_0 ⟨_, _, s_122, (br_f (by (try simp only [bI_0, vp_6, vp_9, vp_10, vp_12, vp_18, vp_30, vp_31, vp_50, vp_60, vp_144, vp_154, vp_180, vp_432, vp_3600]) <;> grind) ⟨_, _, s_120, (br_f (by (try simp only [bI_0, vp_6, vp_9, vp_10, vp_12, vp_18, vp_30, vp_31, vp_50, vp_60, vp_144, vp_154, vp_180, vp_432, vp_3600]) <;> grind) ⟨_, _, s_121, (br_t (by (try simp only [bI_0, vp_6, vp_9, vp_10, vp_12, vp_18, vp_30, vp_31, vp_50, vp_60, vp_144, vp_154, vp_180, vp_432, vp_3600]) <;> grind) ⟨rfl, rfl⟩)⟩)⟩)⟩), hR⟩
  rcases (Classical.em (0 ≤ d ∧ d ≤ 99)).symm with h4 | h4
  · exact ⟨-2, σ, σ, (g_69_0 ⟨_, _, s_114, (br_f (by (try simp only [bI_0, vp_6, vp_9, vp_10, vp_12, vp_18, vp_30, vp_31, vp_50, vp_60, vp_144, vp_154, vp_180, vp_432, vp_3600]) <;> grind) ⟨_, _, s_114, (br_f (by (try simp only [bI_0, vp_6, vp_9, vp_10, vp_12, vp_18, vp_30, vp_31, vp_50, vp_60, vp_144, vp_154, vp_180, vp_432, vp_3600]) <;> grind) ⟨_, _, s_115, (br_f (by (try simp only [bI_0, vp_6, vp_9, vp_10, vp_12, vp_18, vp_30, vp_31, vp_50, vp_60, vp_144, vp_154, vp_180, vp_432, vp_3600]) <;> grind) ⟨_, _, s_115, (br_t (by (try simp only [bI_0, vp_6, vp_9, vp_10, vp_12, vp_18, vp_30, vp_31, vp_50, vp_60, vp_144, vp_154, vp_180, vp_432, vp_3600]) <;> grind) ⟨rfl, rfl⟩)⟩)⟩)⟩)⟩), (g_131_0 ⟨_, _, s_122, (br_f (by (try simp only [bI_0, vp_6, vp_9, vp_10, vp_12, vp_18, vp_30, vp_31, vp_50, vp_60, vp_144, vp_154, vp_180, vp_432, vp_3600]) <;> grind) ⟨_, _, s_120, (br_f (by (try simp only [bI_0, vp_6, vp_9, vp_10, vp_12, vp_18, vp_30, vp_31, vp_50, vp_60, vp_144, vp_154, vp_180, vp_432, vp_3600]) <;> grind) ⟨_, _, s_121, (br_f (by (try simp only [bI_0, vp_6, vp_9, vp_10, vp_12, vp_18, vp_30, vp_31, vp_50, vp_60, vp_144, vp_154, vp_180, vp_432, vp_3600]) <;> grind) ⟨_, _, s_121, (br_t (by (try simp only [bI_0, vp_6, vp_9, vp_10, vp_12, vp_18, vp_30, vp_31, vp_50, vp_60, vp_144, vp_154, vp_180, vp_432, vp_3600]) <;> grind) ⟨rfl, rfl⟩)⟩)⟩)⟩)⟩), hR⟩
  rcases (Classical.em (n < 30)).symm with h5 | h5
  · have e30 : n = 30 := by omega
    have m130 : Ret 130 [.ref 11, .int a, .int (-6), .int b, .int (d - c)] σ [.int (-4)] σ := g_130_0 (br_t (by rw [epc, e30]; rfl) ⟨rfl, rfl⟩)
    exact ⟨-4, σ, σ, (g_69_0 ⟨_, _, s_114, (br_f (by (try simp only [bI_0, vp_6, vp_9, vp_10, vp_12, vp_18, vp_30, vp_31, vp_50, vp_60, vp_144, vp_154, vp_180, vp_432, vp_3600]) <;> grind) ⟨_, _, s_114, (br_f (by (try simp only [bI_0, vp_6, vp_9, vp_10, vp_12, vp_18, vp_30, vp_31, vp_50, vp_60, vp_144, vp_154, vp_180, vp_432, vp_3600]) <;> grind) ⟨_, _, s_115, (br_f (by (try simp only [bI_0, vp_6, vp_9, vp_10, vp_12, vp_18, vp_30, vp_31, vp_50, vp_60, vp_144, vp_154, vp_180, vp_432, vp_3600]) <;> grind) ⟨_, _, s_115, (br_f (by (try simp only [bI_0, vp_6, vp_9, vp_10, vp_12, vp_18, vp_30, vp_31, vp_50, vp_60, vp_144, vp_154, vp_180, vp_432, vp_3600]) <;> grind) (br_f (by rw [etk, e30]; decide) ⟨rfl, rfl⟩))⟩)⟩)⟩)⟩), (g_131_0 ⟨_, _, s_122, (br_f (by (try simp only [bI_0, vp_6, vp_9, vp_10, vp_12, vp_18, vp_30, vp_31, vp_50, vp_60, vp_144, vp_154, vp_180, vp_432, vp_3600]) <;> grind) ⟨_, _, s_120, (br_f (by (try simp only [bI_0, vp_6, vp_9, vp_10, vp_12, vp_18, vp_30, vp_31, vp_50, vp_60, vp_144, vp_154, vp_180, vp_432, vp_3600]) <;> grind) ⟨_, _, s_121, (br_f (by (try simp only [bI_0, vp_6, vp_9, vp_10, vp_12, vp_18, vp_30, vp_31, vp_50, vp_60, vp_144, vp_154, vp_180, vp_432, vp_3600]) <;> grind) ⟨_, _, s_121, (br_f (by (try simp only [bI_0, vp_6, vp_9, vp_10, vp_12, vp_18, vp_30, vp_31, vp_50, vp_60, vp_144, vp_154, vp_180, vp_432, vp_3600]) <;> grind) ⟨_, _, m130, ⟨rfl, rfl⟩⟩)⟩)⟩)⟩)⟩), hR⟩
  have lt30 : σ.1 3 9 < 30 := by rw [etk]; exact (nI_ltL (n := 30) rfl (by omega) (by decide)).mpr h5
  have hMt : Mt (σ.1 23) (σ.1 24) (σ.1 25) (σ.1 26) (σ.1 54) (σ.1 55) (σ.1 56) (σ.1 57) (σ.1 58) n k := ⟨hm1, hm2⟩
  have hRg : Rg (σ.1 54) (σ.1 55) (σ.1 56) (σ.1 57) (σ.1 58) n := hrg
  have hby := sub99 h4 h3
  have hgv : 0 ≤ σ.1 11 0 ∧ σ.1 11 0 ≤ 3 := by rw [← hL.1]; exact ⟨hL.2.1, hL.2.2.1⟩
  obtain ⟨i9, ei⟩ := idx9 h1 h2
  have eidx : a * 3 + b = nI (3 * a + b).toNatClampNeg := by rw [show a * 3 + b = 3 * a + b by grind]; exact ei
  have h19 : ∀ u, u < 9 → -9 ≤ σ.1 19 u ∧ σ.1 20 u ≤ 9 := fun u hu => ⟨(hL.2.2.2 u hu).2.2.1, (hL.2.2.2 u hu).2.2.2.2⟩
  have h52 : ∀ u, u < 9 → -9 ≤ σ.1 52 u ∧ σ.1 53 u ≤ 9 := fun u hu => by rw [← (hL.2.2.2 u hu).1, ← (hL.2.2.2 u hu).2.1]; exact h19 u hu
  have hne : nem (σ.1 52) (σ.1 53) := fun u hu => by rw [← (hL.2.2.2 u hu).1, ← (hL.2.2.2 u hu).2.1]; exact (hL.2.2.2 u hu).2.2.2.1
  obtain ⟨L1, H1, a1, hN1, x1, x0⟩ := s_20 (σ := σ) (off := d - c) i9 (rdq (by omega) ern hRg hMt) h19
  rw [← eidx] at x1 x0
  -- the model, at any state that has the pieces
  have mm : ∀ τ : St, τ.1 11 3 = σ.1 11 3 → τ.1 11 0 = σ.1 11 0 → τ.1 52 = σ.1 52 → τ.1 53 = σ.1 53 → τ.1 54 = σ.1 54 → τ.1 55 = σ.1 55 → τ.1 56 = σ.1 56 → τ.1 57 = σ.1 57 → τ.1 58 = σ.1 58 → ∃ (L' H' : Nat → Int32) (a2 f : Int32), ((a1 = 1 ∧ a2 = 1 ∧ S9 L1 H1 ∧ (∀ p, p < n + 1 → MCp (upd (σ.1 55) n (-6)) (upd (σ.1 57) n (d - c)) (upd (σ.1 58) n (σ.1 11 0)) (hx (upd (σ.1 54) n a) (upd (σ.1 56) n b)) (hx (upd (σ.1 55) n (-6)) (upd (σ.1 56) n b)) L' H' p) ∧ ∀ u, u < 9 → L1 u = L' u ∧ H1 u = H' u) ∨ (a1 = 0 ∧ a2 = 0)) ∧
      (a2 = 1 → Ret 130 [.ref 11, .int a, .int (-6), .int b, .int (d - c)] τ [.int (nI (n + 1))] (nrs (spm τ n a (-6) b (d - c)) L' H' f)) ∧ (a2 = 0 → Ret 130 [.ref 11, .int a, .int (-6), .int b, .int (d - c)] τ [.int (-5)] (bkm (wr (nrs (spm τ n a (-6) b (d - c)) L' H' f) 11 3 (nI n)) 9)) := by
    intro τ t3 t0 t52 t53 t54 t55 t56 t57 t58
    have rg2 : Rg ((spm τ n a (-6) b (d - c)).1 54) ((spm τ n a (-6) b (d - c)).1 55) ((spm τ n a (-6) b (d - c)).1 56) ((spm τ n a (-6) b (d - c)).1 57) ((spm τ n a (-6) b (d - c)).1 58) (n + 1) := by
      show Rg (upd (τ.1 54) n a) (upd (τ.1 55) n (-6)) (upd (τ.1 56) n b) (upd (τ.1 57) n (d - c)) (upd (τ.1 58) n (τ.1 11 0)) (n + 1)
      rw [t54, t55, t56, t57, t58, t0]
      exact hRg.step h1 h2 hby hgv (Or.inl rfl)
    obtain ⟨L', H', a2, f, hN2, y1, y0⟩ := s_130 (σ := τ) (n := n) (h := a) (o := -6) (s := b) (b := d - c) h5 (by rw [t3]; exact epc) (pcr (by omega) rfl rg2) (by rw [t52, t53]; exact h52) (by rw [t52, t53]; exact hne)
    refine ⟨L', H', a2, f, ?_, y1, y0⟩
    have hsol : ∀ X Y, SolC (fun j => (σ.1 23 j).toNatClampNeg) (fun j => (σ.1 24 j).toNatClampNeg) (σ.1 25) (σ.1 26) k (rz (σ.1 19) (3 * a + b).toNatClampNeg (d - c - σ.1 3 10)) (lz (σ.1 20) (3 * a + b).toNatClampNeg (d - c + σ.1 3 10)) X Y ↔ SolM (spm τ n a (-6) b (d - c)) (n + 1) (hx ((spm τ n a (-6) b (d - c)).1 54) ((spm τ n a (-6) b (d - c)).1 56)) (hx ((spm τ n a (-6) b (d - c)).1 55) ((spm τ n a (-6) b (d - c)).1 56)) (τ.1 52) (τ.1 53) X Y := by
      intro X Y
      have := sol_piece (X := X) (Y := Y) (off := d - c) (gv := σ.1 11 0) (L0 := σ.1 19) (H0 := σ.1 20) (Lm := σ.1 52) (Hm := σ.1 53) hMt (fun u hu => ⟨(hL.2.2.2 u hu).1, (hL.2.2.2 u hu).2.1⟩) hRg hpc1 h1 h2
      rw [hL.1]
      refine this.trans ?_
      show _ ↔ (S9 X Y ∧ (∀ u, u < 9 → τ.1 52 u ≤ X u ∧ Y u ≤ τ.1 53 u) ∧ ∀ p, p < n + 1 → MCp (upd (τ.1 55) n (-6)) (upd (τ.1 57) n (d - c)) (upd (τ.1 58) n (τ.1 11 0)) (hx (upd (τ.1 54) n a) (upd (τ.1 56) n b)) (hx (upd (τ.1 55) n (-6)) (upd (τ.1 56) n b)) X Y p)
      rw [t52, t53, t54, t55, t56, t57, t58, t0]
    rcases nar_both hN1 hN2 hsol with ⟨z1, z2, z3, z4, z5⟩ | z
    · refine Or.inl ⟨z1, z2, z3.1, ?_, z5⟩
      have z6 : ∀ p, p < n + 1 → MCp (upd (τ.1 55) n (-6)) (upd (τ.1 57) n (d - c)) (upd (τ.1 58) n (τ.1 11 0)) (hx (upd (τ.1 54) n a) (upd (τ.1 56) n b)) (hx (upd (τ.1 55) n (-6)) (upd (τ.1 56) n b)) L' H' p := z4.2.2
      rw [t54, t55, t56, t57, t58, t0] at z6
      exact z6
    · exact Or.inr z
  rcases hN1 with ⟨ha, _⟩ | ⟨ha, _⟩
  · have x20 := x1 ha
    have x35 := s_35 (σ := wr (cst (kc σ) L1 H1) 3 9 (σ.1 3 9 + 1)) (n := gn) hg.1
    obtain ⟨L2, H2, a2, f, hcase, y1, _⟩ := mm (setR (setR (wr (cst (kc σ) L1 H1) 3 9 (σ.1 3 9 + 1)) 31 (wgL (wr (cst (kc σ) L1 H1) 3 9 (σ.1 3 9 + 1)) gn 0)) 32 (wgH (wr (cst (kc σ) L1 H1) 3 9 (σ.1 3 9 + 1)) gn 0)) rfl rfl rfl rfl rfl rfl rfl rfl rfl
    rcases hcase.symm with ⟨z, _⟩ | ⟨_, ha2, s9, hmc, heq⟩
    · exact absurd (z.symm.trans ha) (by decide)
    have e9 : σ.1 3 9 + 1 = nI (n + 1) := by rw [etk, nI_S]
    refine ⟨σ.1 3 9 + 1, _, nrs (spm (setR (setR (wr (cst (kc σ) L1 H1) 3 9 (σ.1 3 9 + 1)) 31 (wgL (wr (cst (kc σ) L1 H1) 3 9 (σ.1 3 9 + 1)) gn 0)) 32 (wgH (wr (cst (kc σ) L1 H1) 3 9 (σ.1 3 9 + 1)) gn 0)) n a (-6) b (d - c)) L2 H2 f, (g_69_0 ⟨_, _, s_114, (br_f (by (try simp only [bI_0, vp_6, vp_9, vp_10, vp_12, vp_18, vp_30, vp_31, vp_50, vp_60, vp_144, vp_154, vp_180, vp_432, vp_3600]) <;> grind) ⟨_, _, s_114, (br_f (by (try simp only [bI_0, vp_6, vp_9, vp_10, vp_12, vp_18, vp_30, vp_31, vp_50, vp_60, vp_144, vp_154, vp_180, vp_432, vp_3600]) <;> grind) ⟨_, _, s_115, (br_f (by (try simp only [bI_0, vp_6, vp_9, vp_10, vp_12, vp_18, vp_30, vp_31, vp_50, vp_60, vp_144, vp_154, vp_180, vp_432, vp_3600]) <;> grind) ⟨_, _, s_115, (br_f (by (try simp only [bI_0, vp_6, vp_9, vp_10, vp_12, vp_18, vp_30, vp_31, vp_50, vp_60, vp_144, vp_154, vp_180, vp_432, vp_3600]) <;> grind) (br_t (by (try simp only [bI_0, vp_6, vp_9, vp_10, vp_12, vp_18, vp_30, vp_31, vp_50, vp_60, vp_144, vp_154, vp_180, vp_432, vp_3600]) <;> grind) ⟨_, _, x20, (br_f (by (try simp only [bI_0, vp_6, vp_9, vp_10, vp_12, vp_18, vp_30, vp_31, vp_50, vp_60, vp_144, vp_154, vp_180, vp_432, vp_3600]) <;> grind) ⟨_, x35, ⟨rfl, rfl⟩⟩)⟩))⟩)⟩)⟩)⟩), (g_131_0 ⟨_, _, s_122, (br_f (by (try simp only [bI_0, vp_6, vp_9, vp_10, vp_12, vp_18, vp_30, vp_31, vp_50, vp_60, vp_144, vp_154, vp_180, vp_432, vp_3600]) <;> grind) ⟨_, _, s_120, (br_f (by (try simp only [bI_0, vp_6, vp_9, vp_10, vp_12, vp_18, vp_30, vp_31, vp_50, vp_60, vp_144, vp_154, vp_180, vp_432, vp_3600]) <;> grind) ⟨_, _, s_121, (br_f (by (try simp only [bI_0, vp_6, vp_9, vp_10, vp_12, vp_18, vp_30, vp_31, vp_50, vp_60, vp_144, vp_154, vp_180, vp_432, vp_3600]) <;> grind) ⟨_, _, s_121, (br_f (by (try simp only [bI_0, vp_6, vp_9, vp_10, vp_12, vp_18, vp_30, vp_31, vp_50, vp_60, vp_144, vp_154, vp_180, vp_432, vp_3600]) <;> grind) ⟨_, _, (y1 ha2), ⟨by rw [e9], rfl⟩⟩)⟩)⟩)⟩)⟩), hS, hG, ?_, ?_, ?_, hM, hA, hT, hD, hF, hU⟩
    · obtain ⟨n', hn', e1', k1, k2, k3⟩ := hH
      have : n' = gn := (nI_eq (by omega) (by have := hg.1.1; omega)).mp (by rw [← e1', hg.1.2.1])
      subst this
      exact ⟨n', hn', e1', k1, fun l s hl hs _ => wg_at (σ := wr (cst (kc σ) L1 H1) 3 9 (σ.1 3 9 + 1)) hl hs, k3⟩
    · exact ⟨hL.1, hL.2.1, hL.2.2.1, fun u hu => ⟨(heq u hu).1, (heq u hu).2, (s9 u hu).1, (s9 u hu).2.1, (s9 u hu).2.2⟩⟩
    · have hMt2 := hMt.piece (h := a) (s := b) (b := d - c) (f := σ.1 11 0)
      have hRg2 := hRg.step h1 h2 hby hgv (Or.inl rfl) (o := -6)
      exact ⟨n + 1, k, by omega, by omega, e9, rfl, ern, hRg2, hMt2.1, hMt2.2, fun p hp hr => (hmc p hp).1 hr, fun p hp hr => (hmc p hp).2 hr⟩
  · have x20 := x0 ha
    obtain ⟨L2, H2, a2, f, hcase, _, y0⟩ := mm (kc σ) rfl rfl rfl rfl rfl rfl rfl rfl rfl
    rcases hcase with ⟨z, _⟩ | ⟨_, ha2⟩
    · exact absurd (z.symm.trans ha) (by decide)
    refine ⟨-5, _, bkm (wr (nrs (spm (kc σ) n a (-6) b (d - c)) L2 H2 f) 11 3 (nI n)) 9, (g_69_0 ⟨_, _, s_114, (br_f (by (try simp only [bI_0, vp_6, vp_9, vp_10, vp_12, vp_18, vp_30, vp_31, vp_50, vp_60, vp_144, vp_154, vp_180, vp_432, vp_3600]) <;> grind) ⟨_, _, s_114, (br_f (by (try simp only [bI_0, vp_6, vp_9, vp_10, vp_12, vp_18, vp_30, vp_31, vp_50, vp_60, vp_144, vp_154, vp_180, vp_432, vp_3600]) <;> grind) ⟨_, _, s_115, (br_f (by (try simp only [bI_0, vp_6, vp_9, vp_10, vp_12, vp_18, vp_30, vp_31, vp_50, vp_60, vp_144, vp_154, vp_180, vp_432, vp_3600]) <;> grind) ⟨_, _, s_115, (br_f (by (try simp only [bI_0, vp_6, vp_9, vp_10, vp_12, vp_18, vp_30, vp_31, vp_50, vp_60, vp_144, vp_154, vp_180, vp_432, vp_3600]) <;> grind) (br_t (by (try simp only [bI_0, vp_6, vp_9, vp_10, vp_12, vp_18, vp_30, vp_31, vp_50, vp_60, vp_144, vp_154, vp_180, vp_432, vp_3600]) <;> grind) ⟨_, _, x20, (br_t (by (try simp only [bI_0, vp_6, vp_9, vp_10, vp_12, vp_18, vp_30, vp_31, vp_50, vp_60, vp_144, vp_154, vp_180, vp_432, vp_3600]) <;> grind) ⟨rfl, rfl⟩)⟩))⟩)⟩)⟩)⟩), (g_131_0 ⟨_, _, s_122, (br_f (by (try simp only [bI_0, vp_6, vp_9, vp_10, vp_12, vp_18, vp_30, vp_31, vp_50, vp_60, vp_144, vp_154, vp_180, vp_432, vp_3600]) <;> grind) ⟨_, _, s_120, (br_f (by (try simp only [bI_0, vp_6, vp_9, vp_10, vp_12, vp_18, vp_30, vp_31, vp_50, vp_60, vp_144, vp_154, vp_180, vp_432, vp_3600]) <;> grind) ⟨_, _, s_121, (br_f (by (try simp only [bI_0, vp_6, vp_9, vp_10, vp_12, vp_18, vp_30, vp_31, vp_50, vp_60, vp_144, vp_154, vp_180, vp_432, vp_3600]) <;> grind) ⟨_, _, s_121, (br_f (by (try simp only [bI_0, vp_6, vp_9, vp_10, vp_12, vp_18, vp_30, vp_31, vp_50, vp_60, vp_144, vp_154, vp_180, vp_432, vp_3600]) <;> grind) ⟨_, _, (y0 ha2), ⟨rfl, rfl⟩⟩)⟩)⟩)⟩)⟩), hS, hG, hH, ?_, ?_, hM, hA, hT, hD, hF, hU⟩
    · refine ⟨hL.1, hL.2.1, hL.2.2.1, fun u hu => ?_⟩
      have e1 : (bkm (wr (nrs (spm (kc σ) n a (-6) b (d - c)) L2 H2 f) 11 3 (nI n)) 9).1 52 u = σ.1 52 u := by
        show cpj (cpj (σ.1 52) (σ.1 81) 9) L2 9 u = _
        unfold cpj
        rw [if_pos hu, if_pos hu]
      have e2 : (bkm (wr (nrs (spm (kc σ) n a (-6) b (d - c)) L2 H2 f) 11 3 (nI n)) 9).1 53 u = σ.1 53 u := by
        show cpj (cpj (σ.1 53) (σ.1 82) 9) H2 9 u = _
        unfold cpj
        rw [if_pos hu, if_pos hu]
      rw [e1, e2]
      exact hL.2.2.2 u hu
    · show RelP (σ.1 3 8) (σ.1 3 9) (nI n) (σ.1 23) (σ.1 24) (σ.1 25) (σ.1 26) (cpj (cpj (σ.1 52) (σ.1 81) 9) L2 9) (cpj (cpj (σ.1 53) (σ.1 82) 9) H2 9) (upd (σ.1 54) n a) (upd (σ.1 55) n (-6)) (upd (σ.1 56) n b) (upd (σ.1 57) n (d - c)) (upd (σ.1 58) n (σ.1 11 0))
      have c9 : ∀ (F G K : Nat → Int32) u, u < 9 → cpj (cpj F G 9) K 9 u = F u := by
        intro F G K u hu
        unfold cpj
        rw [if_pos hu, if_pos hu]
      refine ⟨n, k, hn, hkn, etk, rfl, ern, fun p hp => ?_, fun p hp hr => ?_, fun j hj => ?_, fun p hp hr => ?_, fun p hp hr => ?_⟩
      · rw [upd_n (by omega), upd_n (by omega), upd_n (by omega), upd_n (by omega), upd_n (by omega)]
        exact hrg p hp
      · rw [upd_n (by omega)] at hr
        obtain ⟨j, hj, q⟩ := hm1 p hp hr
        exact ⟨j, hj, (rm_upd (by omega)).mpr q⟩
      · obtain ⟨p, hp, hr, q⟩ := hm2 j hj
        exact ⟨p, hp, by rw [upd_n (by omega)]; exact hr, (rm_upd (by omega)).mpr q⟩
      · rw [upd_n (by omega)] at hr
        rw [upd_n (by omega), upd_n (by omega), upd_n (by omega), upd_n (by omega), c9 _ _ _ _ (idx9 (hrg p hp).1 (hrg p hp).2.1).1, c9 _ _ _ _ (idx9 (hrg p hp).1 (hrg p hp).2.1).1]
        exact hpc1 p hp hr
      · rw [upd_n (by omega)] at hr
        have g5 : 0 ≤ σ.1 55 p ∧ σ.1 55 p < 3 := by
          rcases (hrg p hp).2.2.2.2 with g5 | g5
          · rw [g5] at hr; exact absurd hr (by decide)
          · exact ⟨g5.1, g5.2.1⟩
        have j1 := (idx9 (hrg p hp).1 (hrg p hp).2.1).1
        have j2 := (idx9 g5 (hrg p hp).2.1).1
        rw [upd_n (by omega), upd_n (by omega), upd_n (by omega), upd_n (by omega), upd_n (by omega), c9 _ _ _ _ j1, c9 _ _ _ _ j1, c9 _ _ _ _ j2, c9 _ _ _ _ j2]
        exact hpc2 p hp hr
