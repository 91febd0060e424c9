/-! both nets are one: the pairs net, gap, gain -/
theorem neg6_nI {d : Nat} (hd : d < 2 ^ 31) : ¬ nI d = -6 := by intro q; have := nI0 hd; rw [q] at this; exact absurd this (by decide)
theorem net_cE {σ : St} (hR : Rel σ) : cEd (σ.1 75) = cEd (σ.1 48) := by
  obtain ⟨hS, hG, hH, hL, hP, hM, hA, hT, hD, hF, hU⟩ := hR
  funext i j
  apply propext
  unfold cEd
  constructor
  · rintro ⟨h1, h2, h3, h4, h5⟩
    exact ⟨h1, h2, h3, by rw [(hT i (by omega)).2.1.1]; exact h4, by rw [(hT j h3).2.1.1]; exact h5⟩
  · rintro ⟨h1, h2, h3, h4, h5⟩
    exact ⟨h1, h2, h3, by rw [← (hT i (by omega)).2.1.1]; exact h4, by rw [← (hT j h3).2.1.1]; exact h5⟩
theorem rT_two {σ : St} (hR : Rel σ) {l d : Nat} (hl : l < 144) (hd : d < 10) : σ.1 74 l = nI d ↔ σ.1 47 l = nI d := by
  obtain ⟨hS, hG, hH, hL, hP, hM, hA, hT, hD, hF, hU⟩ := hR
  rcases (hT l hl).1 with ⟨q1, q2⟩ | ⟨e, he, q1, q2, _⟩
  · rw [q1, q2]
    exact ⟨fun h => absurd h.symm (neg6_nI (by omega)), fun h => absurd h.symm (neg1_nI (by omega))⟩
  · rw [q1, q2]
theorem net_tE {σ : St} {w w' : Int32} (hR : Rel σ) (hw : ∀ l, l < 144 → (nI l = w ↔ nI l = w')) : tEd (σ.1 74) (σ.1 75) w' = tEd (σ.1 47) (σ.1 48) w := by
  funext l d
  apply propext
  unfold tEd
  constructor
  · rintro ⟨h1, h2, h3, h4, h5⟩
    exact ⟨h1, h2, (rT_two hR h1 h2).mp h3, by rw [(hR.2.2.2.2.2.2.2.1 l h1).2.1.1]; exact h4, fun q => h5 ((hw l h1).mp q)⟩
  · rintro ⟨h1, h2, h3, h4, h5⟩
    exact ⟨h1, h2, (rT_two hR h1 h2).mpr h3, by rw [← (hR.2.2.2.2.2.2.2.1 l h1).2.1.1]; exact h4, fun q => h5 ((hw l h1).mpr q)⟩
theorem net_iv {σ : St} (hR : Rel σ) : iv (cat (σ.1 72) (σ.1 70)) = iv (σ.1 12) ∧ iv (cat (σ.1 73) (σ.1 71)) = iv (σ.1 13) := by
  obtain ⟨hS, hG, hH, hL, hP, hM, hA, hT, hD, hF, hU⟩ := hR
  constructor
  · funext u
    unfold iv cat
    by_cases h : u < 154
    · rw [if_pos h, if_pos h]
      by_cases h2 : u < 144
      · rw [if_pos h2, (hA.1 u h2).1]
      · rw [if_neg h2, ← (hA.2 (u - 144) (by omega)).1, show 144 + (u - 144) = u by omega]
    · rw [if_neg h, if_neg h]
  · funext u
    unfold iv cat
    by_cases h : u < 154
    · rw [if_pos h, if_pos h]
      by_cases h2 : u < 144
      · rw [if_pos h2, (hA.1 u h2).2.1]
      · rw [if_neg h2, ← (hA.2 (u - 144) (by omega)).2.1, show 144 + (u - 144) = u by omega]
    · rw [if_neg h, if_neg h]
theorem Rel.agb {σ : St} (hR : Rel σ) : AgB σ := by
  refine ⟨rT_day hR, fun u hu => ?_⟩
  obtain ⟨hS, hG, hH, hL, hP, hM, hA, hT, hD, hF, hU⟩ := hR
  by_cases h2 : u < 144
  · obtain ⟨_, _, h3, h4, h5⟩ := hA.1 u h2
    exact ⟨h3, Int32.le_trans h4 h5, Int32.le_trans h3 h4, h5⟩
  · obtain ⟨_, _, h3, h4, h5⟩ := hA.2 (u - 144) (by omega)
    rw [show 144 + (u - 144) = u by omega] at h3 h4 h5
    exact ⟨h3, Int32.le_trans h4 h5, Int32.le_trans h3 h4, h5⟩
theorem Rel.agm {σ : St} (hR : Rel σ) : AgM σ := by
  have hb := hR.agb
  refine ⟨fun l hl => ?_, fun u hu => ?_⟩
  · obtain ⟨hS, hG, hH, hL, hP, hM, hA, hT, hD, hF, hU⟩ := hR
    rcases (hT l hl).1 with ⟨q1, q2⟩ | ⟨e, he, q1, q2, _⟩
    · exact Or.inl (by rw [q2]; decide)
    · exact Or.inr ⟨e, he, q2⟩
  · have h1 := congrFun (net_iv hR).1 u
    have h2 := congrFun (net_iv hR).2 u
    rw [iv_lt hu, iv_lt hu] at h1 h2
    rw [Int32.toInt_inj.mp h1, Int32.toInt_inj.mp h2]
    exact hb.2 u hu
def NtA (τ σ : St) : Prop := τ.1 12 = σ.1 12 ∧ τ.1 13 = σ.1 13 ∧ τ.1 47 = σ.1 47 ∧ τ.1 48 = σ.1 48
def NtM (τ σ : St) : Prop := τ.1 70 = σ.1 70 ∧ τ.1 71 = σ.1 71 ∧ τ.1 72 = σ.1 72 ∧ τ.1 73 = σ.1 73 ∧ τ.1 74 = σ.1 74 ∧ τ.1 75 = σ.1 75
def clP (L H : Nat → Int32) : Prop := ∃ k, k < 154 ∧ H k < L k
theorem clP_congr {L H L' H' : Nat → Int32} (h : ∀ u, u < 154 → L' u = L u ∧ H' u = H u) : clP L' H' ↔ clP L H := by
  unfold clP
  constructor
  · rintro ⟨k, hk, q⟩
    exact ⟨k, hk, by rw [← (h k hk).1, ← (h k hk).2]; exact q⟩
  · rintro ⟨k, hk, q⟩
    exact ⟨k, hk, by rw [(h k hk).1, (h k hk).2]; exact q⟩
theorem NetQ.uniq {σ : St} {w : Int32} {L H L' H' : Nat → Int32} (h : NetQ σ w L H) (k : NetQ σ w L' H') : ∀ u, u < 154 → L' u = L u ∧ H' u = H u := by
  intro u hu
  have h1 := k.1.uniq h.1 u
  have h2 := k.2.uniq h.2 u
  unfold ng at h2
  rw [iv_lt hu, iv_lt hu] at h1 h2
  exact ⟨Int32.toInt_inj.mp h1, Int32.toInt_inj.mp (by omega)⟩
theorem net_x {σ τ : St} {w : Int32} {L H : Nat → Int32} (hR : Rel σ) (hq : NetQ σ w L H) (e : NtA τ σ) : ∃ (L' H' : Nat → Int32) (mv : Int32), Ret 0 [.ref 0, .int w] τ [.int (pI (clP L H))] (nst τ L' H' mv) ∧ ∀ u, u < 154 → L' u = L u ∧ H' u = H u := by
  obtain ⟨e1, e2, e3, e4⟩ := e
  have hA : AgB τ := by
    have := hR.agb
    unfold AgB at this ⊢
    rw [e1, e2, e3]
    exact this
  obtain ⟨r, hq', hr⟩ := s_0 (σ := τ) (w := w) hA
  have hq2 : NetQ σ w r.1 r.2.1 := by
    unfold NetQ at hq' ⊢
    rw [e1, e2, e3, e4] at hq'
    exact hq'
  have he := hq.uniq hq2
  refine ⟨r.1, r.2.1, r.2.2, ?_, he⟩
  rw [← pI_iff (clP_congr he)]
  exact hr
theorem net_m {σ τ : St} {w w' : Int32} {L H : Nat → Int32} (hR : Rel σ) (hw : ∀ l, l < 144 → (nI l = w ↔ nI l = w')) (hq : NetQ σ w L H) (e : NtM τ σ) : ∃ (L' H' : Nat → Int32), Ret 183 [.ref 11, .int w'] τ [.int (pI (¬ clP L H))] (mst τ L' H') ∧ ∀ u, u < 154 → L' u = L u ∧ H' u = H u := by
  obtain ⟨e1, e2, e3, e4, e5, e6⟩ := e
  have hA : AgM τ := by
    have := hR.agm
    unfold AgM at this ⊢
    rw [e1, e2, e3, e4, e5]
    exact this
  obtain ⟨r, hq', hr⟩ := s_183 (σ := τ) (w := w') hA
  have hq2 : NetQ σ w r.1 r.2 := by
    unfold NetM at hq'
    rw [e1, e2, e3, e4, e5, e6, net_cE hR, net_tE hR hw, (net_iv hR).1, (net_iv hR).2] at hq'
    exact hq'
  have he := hq.uniq hq2
  refine ⟨r.1, r.2, ?_, he⟩
  rw [← pI_iff (p := alB r.1 r.2 154)]
  · exact hr
  · constructor
    · rintro h ⟨k, hk, q⟩
      have := h k hk
      rw [(he k hk).1, (he k hk).2] at this
      exact absurd this (Int32.not_le.mpr q)
    · intro h k hk
      rw [(he k hk).1, (he k hk).2]
      exact Int32.not_lt.mp (fun q => h ⟨k, hk, q⟩)
theorem w_none : ∀ l, l < 144 → (nI l = -1 ↔ nI l = -6) := fun l hl => ⟨fun h => absurd h (neg1_nI (by omega)), fun h => absurd h (neg6_nI (by omega))⟩
theorem Rel.nst {σ : St} {L H : Nat → Int32} {mv : Int32} (hR : Rel σ) : Rel (nst σ L H mv) := by
  obtain ⟨hS, hG, hH, hL, hP, hM, hA, hT, hD, hF, hU⟩ := hR
  exact ⟨hS, hG, hH, hL, hP, hM, hA, hT, hD, hF, hU⟩
theorem Rel.mst {σ : St} {L H : Nat → Int32} (hR : Rel σ) : Rel (mst σ L H) := by
  obtain ⟨hS, hG, hH, hL, hP, hM, hA, hT, hD, hF, hU⟩ := hR
  exact ⟨hS, hG, hH, hL, hP, hM, hA, hT, hD, hF, hU⟩
theorem Rel.net0 {σ : St} (hR : Rel σ) (w : Int32) : ∃ L H, NetQ σ w L H := by
  obtain ⟨r, h, _⟩ := s_0 (σ := σ) (w := w) hR.agb
  exact ⟨_, _, h⟩
theorem nst_14 {σ : St} {L H : Nat → Int32} {mv : Int32} : (nst σ L H mv).1 14 = L := rfl
theorem nst_15 {σ : St} {L H : Nat → Int32} {mv : Int32} : (nst σ L H mv).1 15 = H := rfl
theorem p_net {σ : St} {a b c : Int32} (hR : Rel σ) : PairI 97 185 [.int a, .int b, .int c] σ := by
  rcases (Classical.em (a = 0 ∨ a = 1)).symm with h1 | h1
  · exact ⟨-2, σ, σ, by (refine g_97_0 ⟨fun q1 => ⟨_, _, s_114, ⟨fun q2 => ?_, fun q2 => ⟨_, _, s_114, ⟨fun q3 => ?_, fun q3 => ?_⟩⟩⟩⟩, fun q1 => ⟨fun q4 => ⟨_, _, s_114, ⟨fun q5 => ?_, fun q5 => ⟨_, _, s_114, ⟨fun q6 => ?_, fun q6 => ?_⟩⟩⟩⟩, fun q4 => ?_⟩⟩ <;> first | exact ⟨rfl, rfl⟩ | (exfalso; (try simp only [bI_0, vp_6, vp_9, vp_10, vp_12, vp_18, vp_30, vp_31, vp_50, vp_60, vp_144, vp_154, vp_180, vp_432, vp_3600] at *) <;> grind) | ((try simp only [bI_0, vp_6, vp_9, vp_10, vp_12, vp_18, vp_30, vp_31, vp_50, vp_60, vp_144, vp_154, vp_180, vp_432, vp_3600] at *) <;> grind)), by (refine g_185_0 ⟨_, _, s_126, ⟨fun q1 => ?_, fun q1 => ⟨fun q2 => ⟨_, _, s_125, ⟨fun q3 => ?_, fun q3 => ⟨_, _, s_126, ⟨fun q4 => ?_, fun q4 => ?_⟩⟩⟩⟩, fun q2 => ⟨_, _, s_124, ⟨fun q5 => ?_, fun q5 => ⟨_, _, s_126, ⟨fun q6 => ?_, fun q6 => ?_⟩⟩⟩⟩⟩⟩⟩ <;> first | exact ⟨rfl, rfl⟩ | (exfalso; (try simp only [bI_0, vp_6, vp_9, vp_10, vp_12, vp_18, vp_30, vp_31, vp_50, vp_60, vp_144, vp_154, vp_180, vp_432, vp_3600] at *) <;> grind) | ((try simp only [bI_0, vp_6, vp_9, vp_10, vp_12, vp_18, vp_30, vp_31, vp_50, vp_60, vp_144, vp_154, vp_180, vp_432, vp_3600] at *) <;> grind)), hR⟩
  obtain ⟨L, H, hq⟩ := hR.net0 (-1)
  obtain ⟨L1, H1, mv, hx, ex⟩ := net_x (τ := σ) hR hq ⟨rfl, rfl, rfl, rfl⟩
  obtain ⟨L2, H2, hm, em⟩ := net_m (τ := nst σ L1 H1 mv) hR w_none hq ⟨rfl, rfl, rfl, rfl, rfl, rfl⟩
  rcases h1 with rfl | rfl
  · rcases (Classical.em (0 ≤ b ∧ b < 10)).symm with h2 | h2
    · exact ⟨-1, σ, σ, by (refine g_97_0 ⟨fun q1 => ⟨_, _, s_114, ⟨fun q2 => ?_, fun q2 => ?_⟩⟩, fun q1 => ⟨fun q3 => ⟨_, _, s_114, ⟨fun q4 => ?_, fun q4 => ?_⟩⟩, fun q3 => ?_⟩⟩ <;> first | exact ⟨rfl, rfl⟩ | (exfalso; (try simp only [bI_0, vp_6, vp_9, vp_10, vp_12, vp_18, vp_30, vp_31, vp_50, vp_60, vp_144, vp_154, vp_180, vp_432, vp_3600] at *) <;> grind) | ((try simp only [bI_0, vp_6, vp_9, vp_10, vp_12, vp_18, vp_30, vp_31, vp_50, vp_60, vp_144, vp_154, vp_180, vp_432, vp_3600] at *) <;> grind)), by (refine g_185_0 ⟨_, _, s_126, ⟨fun q1 => ?_, fun q1 => ⟨fun q2 => ⟨_, _, s_125, ⟨fun q3 => ?_, fun q3 => ?_⟩⟩, fun q2 => ⟨_, _, s_124, ⟨fun q4 => ?_, fun q4 => ?_⟩⟩⟩⟩⟩ <;> first | exact ⟨rfl, rfl⟩ | (exfalso; (try simp only [bI_0, vp_6, vp_9, vp_10, vp_12, vp_18, vp_30, vp_31, vp_50, vp_60, vp_144, vp_154, vp_180, vp_432, vp_3600] at *) <;> grind) | ((try simp only [bI_0, vp_6, vp_9, vp_10, vp_12, vp_18, vp_30, vp_31, vp_50, vp_60, vp_144, vp_154, vp_180, vp_432, vp_3600] at *) <;> grind)), hR⟩
    rcases (Classical.em (c = 0 ∨ c = 1)).symm with h3 | h3
    · exact ⟨-2, σ, σ, by (refine g_97_0 ⟨fun q1 => ⟨_, _, s_114, ⟨fun q2 => ?_, fun q2 => ⟨_, _, s_114, ⟨fun q3 => ?_, fun q3 => ?_⟩⟩⟩⟩, fun q1 => ⟨fun q4 => ⟨_, _, s_114, ⟨fun q5 => ?_, fun q5 => ⟨_, _, s_114, ⟨fun q6 => ?_, fun q6 => ?_⟩⟩⟩⟩, fun q4 => ?_⟩⟩ <;> first | exact ⟨rfl, rfl⟩ | (exfalso; (try simp only [bI_0, vp_6, vp_9, vp_10, vp_12, vp_18, vp_30, vp_31, vp_50, vp_60, vp_144, vp_154, vp_180, vp_432, vp_3600] at *) <;> grind) | ((try simp only [bI_0, vp_6, vp_9, vp_10, vp_12, vp_18, vp_30, vp_31, vp_50, vp_60, vp_144, vp_154, vp_180, vp_432, vp_3600] at *) <;> grind)), by (refine g_185_0 ⟨_, _, s_126, ⟨fun q1 => ?_, fun q1 => ⟨fun q2 => ⟨_, _, s_125, ⟨fun q3 => ?_, fun q3 => ⟨_, _, s_126, ⟨fun q4 => ?_, fun q4 => ?_⟩⟩⟩⟩, fun q2 => ⟨_, _, s_124, ⟨fun q5 => ?_, fun q5 => ⟨_, _, s_126, ⟨fun q6 => ?_, fun q6 => ?_⟩⟩⟩⟩⟩⟩⟩ <;> first | exact ⟨rfl, rfl⟩ | (exfalso; (try simp only [bI_0, vp_6, vp_9, vp_10, vp_12, vp_18, vp_30, vp_31, vp_50, vp_60, vp_144, vp_154, vp_180, vp_432, vp_3600] at *) <;> grind) | ((try simp only [bI_0, vp_6, vp_9, vp_10, vp_12, vp_18, vp_30, vp_31, vp_50, vp_60, vp_144, vp_154, vp_180, vp_432, vp_3600] at *) <;> grind)), hR⟩
    by_cases hc : clP L H
    · rw [pI_t hc] at hx
      rw [pI_f (fun z => z hc)] at hm
      exact ⟨-5, _, _, (g_97_0 (br_t (by (try simp only [bI_0, vp_6, vp_9, vp_10, vp_12, vp_18, vp_30, vp_31, vp_50, vp_60, vp_144, vp_154, vp_180, vp_432, vp_3600]) <;> grind) ⟨_, _, s_114, (br_f (by (try simp only [bI_0, vp_6, vp_9, vp_10, vp_12, vp_18, vp_30, vp_31, vp_50, vp_60, vp_144, vp_154, vp_180, vp_432, vp_3600]) <;> grind) ⟨_, _, s_114, (br_f (by (try simp only [bI_0, vp_6, vp_9, vp_10, vp_12, vp_18, vp_30, vp_31, vp_50, vp_60, vp_144, vp_154, vp_180, vp_432, vp_3600]) <;> grind) ⟨_, _, hx, (br_f (by (try simp only [bI_0, vp_6, vp_9, vp_10, vp_12, vp_18, vp_30, vp_31, vp_50, vp_60, vp_144, vp_154, vp_180, vp_432, vp_3600]) <;> grind) ⟨rfl, rfl⟩)⟩)⟩)⟩)), (g_185_0 ⟨_, _, s_126, (br_f (by (try simp only [bI_0, vp_6, vp_9, vp_10, vp_12, vp_18, vp_30, vp_31, vp_50, vp_60, vp_144, vp_154, vp_180, vp_432, vp_3600]) <;> grind) (br_t (by (try simp only [bI_0, vp_6, vp_9, vp_10, vp_12, vp_18, vp_30, vp_31, vp_50, vp_60, vp_144, vp_154, vp_180, vp_432, vp_3600]) <;> grind) ⟨_, _, s_125, (br_f (by (try simp only [bI_0, vp_6, vp_9, vp_10, vp_12, vp_18, vp_30, vp_31, vp_50, vp_60, vp_144, vp_154, vp_180, vp_432, vp_3600]) <;> grind) ⟨_, _, s_126, (br_f (by (try simp only [bI_0, vp_6, vp_9, vp_10, vp_12, vp_18, vp_30, vp_31, vp_50, vp_60, vp_144, vp_154, vp_180, vp_432, vp_3600]) <;> grind) ⟨_, _, hm, (br_t (by (try simp only [bI_0, vp_6, vp_9, vp_10, vp_12, vp_18, vp_30, vp_31, vp_50, vp_60, vp_144, vp_154, vp_180, vp_432, vp_3600]) <;> grind) ⟨rfl, rfl⟩)⟩)⟩)⟩))⟩), hR.nst.mst⟩
    rw [pI_f hc] at hx
    rw [pI_t hc] at hm
    obtain ⟨d, hd, rfl⟩ := inR (n := 10) rfl (by decide) h2.1 h2.2
    have e1 : (nI d).toNatClampNeg = d := clN (by omega)
    have e2 : ((144 : Int32) + nI d).toNatClampNeg = 144 + d := by
      rw [show (144 : Int32) = nI 144 from rfl, nI_add]
      exact clN (by omega)
    rcases h3 with rfl | rfl
    · refine ⟨_, _, _, (g_97_0 (br_t (by (try simp only [bI_0, vp_6, vp_9, vp_10, vp_12, vp_18, vp_30, vp_31, vp_50, vp_60, vp_144, vp_154, vp_180, vp_432, vp_3600]) <;> grind) ⟨_, _, s_114, (br_f (by (try simp only [bI_0, vp_6, vp_9, vp_10, vp_12, vp_18, vp_30, vp_31, vp_50, vp_60, vp_144, vp_154, vp_180, vp_432, vp_3600]) <;> grind) ⟨_, _, s_114, (br_f (by (try simp only [bI_0, vp_6, vp_9, vp_10, vp_12, vp_18, vp_30, vp_31, vp_50, vp_60, vp_144, vp_154, vp_180, vp_432, vp_3600]) <;> grind) ⟨_, _, hx, (br_t (by (try simp only [bI_0, vp_6, vp_9, vp_10, vp_12, vp_18, vp_30, vp_31, vp_50, vp_60, vp_144, vp_154, vp_180, vp_432, vp_3600]) <;> grind) (br_t (by (try simp only [bI_0, vp_6, vp_9, vp_10, vp_12, vp_18, vp_30, vp_31, vp_50, vp_60, vp_144, vp_154, vp_180, vp_432, vp_3600]) <;> grind) ⟨(by (try simp only [bI_0, vp_6, vp_9, vp_10, vp_12, vp_18, vp_30, vp_31, vp_50, vp_60, vp_144, vp_154, vp_180, vp_432, vp_3600]) <;> grind), ⟨rfl, rfl⟩⟩))⟩)⟩)⟩)), (g_185_0 ⟨_, _, s_126, (br_f (by (try simp only [bI_0, vp_6, vp_9, vp_10, vp_12, vp_18, vp_30, vp_31, vp_50, vp_60, vp_144, vp_154, vp_180, vp_432, vp_3600]) <;> grind) (br_t (by (try simp only [bI_0, vp_6, vp_9, vp_10, vp_12, vp_18, vp_30, vp_31, vp_50, vp_60, vp_144, vp_154, vp_180, vp_432, vp_3600]) <;> grind) ⟨_, _, s_125, (br_f (by (try simp only [bI_0, vp_6, vp_9, vp_10, vp_12, vp_18, vp_30, vp_31, vp_50, vp_60, vp_144, vp_154, vp_180, vp_432, vp_3600]) <;> grind) ⟨_, _, s_126, (br_f (by (try simp only [bI_0, vp_6, vp_9, vp_10, vp_12, vp_18, vp_30, vp_31, vp_50, vp_60, vp_144, vp_154, vp_180, vp_432, vp_3600]) <;> grind) ⟨_, _, hm, (br_f (by (try simp only [bI_0, vp_6, vp_9, vp_10, vp_12, vp_18, vp_30, vp_31, vp_50, vp_60, vp_144, vp_154, vp_180, vp_432, vp_3600]) <;> grind) (br_t (by (try simp only [bI_0, vp_6, vp_9, vp_10, vp_12, vp_18, vp_30, vp_31, vp_50, vp_60, vp_144, vp_154, vp_180, vp_432, vp_3600]) <;> grind) ⟨(by (try simp only [bI_0, vp_6, vp_9, vp_10, vp_12, vp_18, vp_30, vp_31, vp_50, vp_60, vp_144, vp_154, vp_180, vp_432, vp_3600]) <;> grind), ⟨?_, rfl⟩⟩))⟩)⟩)⟩))⟩), hR.nst.mst⟩
      rw [e1, e2, mst_90 hd, nst_14, (ex _ (by omega)).1, (em _ (by omega)).1]
    · refine ⟨_, _, _, (g_97_0 (br_t (by (try simp only [bI_0, vp_6, vp_9, vp_10, vp_12, vp_18, vp_30, vp_31, vp_50, vp_60, vp_144, vp_154, vp_180, vp_432, vp_3600]) <;> grind) ⟨_, _, s_114, (br_f (by (try simp only [bI_0, vp_6, vp_9, vp_10, vp_12, vp_18, vp_30, vp_31, vp_50, vp_60, vp_144, vp_154, vp_180, vp_432, vp_3600]) <;> grind) ⟨_, _, s_114, (br_f (by (try simp only [bI_0, vp_6, vp_9, vp_10, vp_12, vp_18, vp_30, vp_31, vp_50, vp_60, vp_144, vp_154, vp_180, vp_432, vp_3600]) <;> grind) ⟨_, _, hx, (br_t (by (try simp only [bI_0, vp_6, vp_9, vp_10, vp_12, vp_18, vp_30, vp_31, vp_50, vp_60, vp_144, vp_154, vp_180, vp_432, vp_3600]) <;> grind) (br_f (by (try simp only [bI_0, vp_6, vp_9, vp_10, vp_12, vp_18, vp_30, vp_31, vp_50, vp_60, vp_144, vp_154, vp_180, vp_432, vp_3600]) <;> grind) ⟨(by (try simp only [bI_0, vp_6, vp_9, vp_10, vp_12, vp_18, vp_30, vp_31, vp_50, vp_60, vp_144, vp_154, vp_180, vp_432, vp_3600]) <;> grind), ⟨rfl, rfl⟩⟩))⟩)⟩)⟩)), (g_185_0 ⟨_, _, s_126, (br_f (by (try simp only [bI_0, vp_6, vp_9, vp_10, vp_12, vp_18, vp_30, vp_31, vp_50, vp_60, vp_144, vp_154, vp_180, vp_432, vp_3600]) <;> grind) (br_t (by (try simp only [bI_0, vp_6, vp_9, vp_10, vp_12, vp_18, vp_30, vp_31, vp_50, vp_60, vp_144, vp_154, vp_180, vp_432, vp_3600]) <;> grind) ⟨_, _, s_125, (br_f (by (try simp only [bI_0, vp_6, vp_9, vp_10, vp_12, vp_18, vp_30, vp_31, vp_50, vp_60, vp_144, vp_154, vp_180, vp_432, vp_3600]) <;> grind) ⟨_, _, s_126, (br_f (by (try simp only [bI_0, vp_6, vp_9, vp_10, vp_12, vp_18, vp_30, vp_31, vp_50, vp_60, vp_144, vp_154, vp_180, vp_432, vp_3600]) <;> grind) ⟨_, _, hm, (br_f (by (try simp only [bI_0, vp_6, vp_9, vp_10, vp_12, vp_18, vp_30, vp_31, vp_50, vp_60, vp_144, vp_154, vp_180, vp_432, vp_3600]) <;> grind) (br_f (by (try simp only [bI_0, vp_6, vp_9, vp_10, vp_12, vp_18, vp_30, vp_31, vp_50, vp_60, vp_144, vp_154, vp_180, vp_432, vp_3600]) <;> grind) ⟨(by (try simp only [bI_0, vp_6, vp_9, vp_10, vp_12, vp_18, vp_30, vp_31, vp_50, vp_60, vp_144, vp_154, vp_180, vp_432, vp_3600]) <;> grind), ⟨?_, rfl⟩⟩))⟩)⟩)⟩))⟩), hR.nst.mst⟩
      rw [e1, e2, mst_91 hd, nst_15, (ex _ (by omega)).2, (em _ (by omega)).2]
  · rcases (Classical.em (0 ≤ b ∧ b < 144)).symm with h2 | h2
    · exact ⟨-1, σ, σ, by (refine g_97_0 ⟨fun q1 => ⟨_, _, s_114, ⟨fun q2 => ?_, fun q2 => ?_⟩⟩, fun q1 => ⟨fun q3 => ⟨_, _, s_114, ⟨fun q4 => ?_, fun q4 => ?_⟩⟩, fun q3 => ?_⟩⟩ <;> first | exact ⟨rfl, rfl⟩ | (exfalso; (try simp only [bI_0, vp_6, vp_9, vp_10, vp_12, vp_18, vp_30, vp_31, vp_50, vp_60, vp_144, vp_154, vp_180, vp_432, vp_3600] at *) <;> grind) | ((try simp only [bI_0, vp_6, vp_9, vp_10, vp_12, vp_18, vp_30, vp_31, vp_50, vp_60, vp_144, vp_154, vp_180, vp_432, vp_3600] at *) <;> grind)), by (refine g_185_0 ⟨_, _, s_126, ⟨fun q1 => ?_, fun q1 => ⟨fun q2 => ⟨_, _, s_125, ⟨fun q3 => ?_, fun q3 => ?_⟩⟩, fun q2 => ⟨_, _, s_124, ⟨fun q4 => ?_, fun q4 => ?_⟩⟩⟩⟩⟩ <;> first | exact ⟨rfl, rfl⟩ | (exfalso; (try simp only [bI_0, vp_6, vp_9, vp_10, vp_12, vp_18, vp_30, vp_31, vp_50, vp_60, vp_144, vp_154, vp_180, vp_432, vp_3600] at *) <;> grind) | ((try simp only [bI_0, vp_6, vp_9, vp_10, vp_12, vp_18, vp_30, vp_31, vp_50, vp_60, vp_144, vp_154, vp_180, vp_432, vp_3600] at *) <;> grind)), hR⟩
    rcases (Classical.em (c = 0 ∨ c = 1)).symm with h3 | h3
    · exact ⟨-2, σ, σ, by (refine g_97_0 ⟨fun q1 => ⟨_, _, s_114, ⟨fun q2 => ?_, fun q2 => ⟨_, _, s_114, ⟨fun q3 => ?_, fun q3 => ?_⟩⟩⟩⟩, fun q1 => ⟨fun q4 => ⟨_, _, s_114, ⟨fun q5 => ?_, fun q5 => ⟨_, _, s_114, ⟨fun q6 => ?_, fun q6 => ?_⟩⟩⟩⟩, fun q4 => ?_⟩⟩ <;> first | exact ⟨rfl, rfl⟩ | (exfalso; (try simp only [bI_0, vp_6, vp_9, vp_10, vp_12, vp_18, vp_30, vp_31, vp_50, vp_60, vp_144, vp_154, vp_180, vp_432, vp_3600] at *) <;> grind) | ((try simp only [bI_0, vp_6, vp_9, vp_10, vp_12, vp_18, vp_30, vp_31, vp_50, vp_60, vp_144, vp_154, vp_180, vp_432, vp_3600] at *) <;> grind)), by (refine g_185_0 ⟨_, _, s_126, ⟨fun q1 => ?_, fun q1 => ⟨fun q2 => ⟨_, _, s_125, ⟨fun q3 => ?_, fun q3 => ⟨_, _, s_126, ⟨fun q4 => ?_, fun q4 => ?_⟩⟩⟩⟩, fun q2 => ⟨_, _, s_124, ⟨fun q5 => ?_, fun q5 => ⟨_, _, s_126, ⟨fun q6 => ?_, fun q6 => ?_⟩⟩⟩⟩⟩⟩⟩ <;> first | exact ⟨rfl, rfl⟩ | (exfalso; (try simp only [bI_0, vp_6, vp_9, vp_10, vp_12, vp_18, vp_30, vp_31, vp_50, vp_60, vp_144, vp_154, vp_180, vp_432, vp_3600] at *) <;> grind) | ((try simp only [bI_0, vp_6, vp_9, vp_10, vp_12, vp_18, vp_30, vp_31, vp_50, vp_60, vp_144, vp_154, vp_180, vp_432, vp_3600] at *) <;> grind)), hR⟩
    by_cases hc : clP L H
    · rw [pI_t hc] at hx
      rw [pI_f (fun z => z hc)] at hm
      exact ⟨-5, _, _, (g_97_0 (br_f (by (try simp only [bI_0, vp_6, vp_9, vp_10, vp_12, vp_18, vp_30, vp_31, vp_50, vp_60, vp_144, vp_154, vp_180, vp_432, vp_3600]) <;> grind) (br_t (by (try simp only [bI_0, vp_6, vp_9, vp_10, vp_12, vp_18, vp_30, vp_31, vp_50, vp_60, vp_144, vp_154, vp_180, vp_432, vp_3600]) <;> grind) ⟨_, _, s_114, (br_f (by (try simp only [bI_0, vp_6, vp_9, vp_10, vp_12, vp_18, vp_30, vp_31, vp_50, vp_60, vp_144, vp_154, vp_180, vp_432, vp_3600]) <;> grind) ⟨_, _, s_114, (br_f (by (try simp only [bI_0, vp_6, vp_9, vp_10, vp_12, vp_18, vp_30, vp_31, vp_50, vp_60, vp_144, vp_154, vp_180, vp_432, vp_3600]) <;> grind) ⟨_, _, hx, (br_f (by (try simp only [bI_0, vp_6, vp_9, vp_10, vp_12, vp_18, vp_30, vp_31, vp_50, vp_60, vp_144, vp_154, vp_180, vp_432, vp_3600]) <;> grind) ⟨rfl, rfl⟩)⟩)⟩)⟩))), (g_185_0 ⟨_, _, s_126, (br_f (by (try simp only [bI_0, vp_6, vp_9, vp_10, vp_12, vp_18, vp_30, vp_31, vp_50, vp_60, vp_144, vp_154, vp_180, vp_432, vp_3600]) <;> grind) (br_f (by (try simp only [bI_0, vp_6, vp_9, vp_10, vp_12, vp_18, vp_30, vp_31, vp_50, vp_60, vp_144, vp_154, vp_180, vp_432, vp_3600]) <;> grind) ⟨_, _, s_124, (br_f (by (try simp only [bI_0, vp_6, vp_9, vp_10, vp_12, vp_18, vp_30, vp_31, vp_50, vp_60, vp_144, vp_154, vp_180, vp_432, vp_3600]) <;> grind) ⟨_, _, s_126, (br_f (by (try simp only [bI_0, vp_6, vp_9, vp_10, vp_12, vp_18, vp_30, vp_31, vp_50, vp_60, vp_144, vp_154, vp_180, vp_432, vp_3600]) <;> grind) ⟨_, _, hm, (br_t (by (try simp only [bI_0, vp_6, vp_9, vp_10, vp_12, vp_18, vp_30, vp_31, vp_50, vp_60, vp_144, vp_154, vp_180, vp_432, vp_3600]) <;> grind) ⟨rfl, rfl⟩)⟩)⟩)⟩))⟩), hR.nst.mst⟩
    rw [pI_f hc] at hx
    rw [pI_t hc] at hm
    obtain ⟨d, hd, rfl⟩ := inR (n := 144) rfl (by decide) h2.1 h2.2
    have e1 : (nI d).toNatClampNeg = d := clN (by omega)
    rcases h3 with rfl | rfl
    · refine ⟨_, _, _, (g_97_0 (br_f (by (try simp only [bI_0, vp_6, vp_9, vp_10, vp_12, vp_18, vp_30, vp_31, vp_50, vp_60, vp_144, vp_154, vp_180, vp_432, vp_3600]) <;> grind) (br_t (by (try simp only [bI_0, vp_6, vp_9, vp_10, vp_12, vp_18, vp_30, vp_31, vp_50, vp_60, vp_144, vp_154, vp_180, vp_432, vp_3600]) <;> grind) ⟨_, _, s_114, (br_f (by (try simp only [bI_0, vp_6, vp_9, vp_10, vp_12, vp_18, vp_30, vp_31, vp_50, vp_60, vp_144, vp_154, vp_180, vp_432, vp_3600]) <;> grind) ⟨_, _, s_114, (br_f (by (try simp only [bI_0, vp_6, vp_9, vp_10, vp_12, vp_18, vp_30, vp_31, vp_50, vp_60, vp_144, vp_154, vp_180, vp_432, vp_3600]) <;> grind) ⟨_, _, hx, (br_t (by (try simp only [bI_0, vp_6, vp_9, vp_10, vp_12, vp_18, vp_30, vp_31, vp_50, vp_60, vp_144, vp_154, vp_180, vp_432, vp_3600]) <;> grind) (br_t (by (try simp only [bI_0, vp_6, vp_9, vp_10, vp_12, vp_18, vp_30, vp_31, vp_50, vp_60, vp_144, vp_154, vp_180, vp_432, vp_3600]) <;> grind) ⟨(by (try simp only [bI_0, vp_6, vp_9, vp_10, vp_12, vp_18, vp_30, vp_31, vp_50, vp_60, vp_144, vp_154, vp_180, vp_432, vp_3600]) <;> grind), ⟨rfl, rfl⟩⟩))⟩)⟩)⟩))), (g_185_0 ⟨_, _, s_126, (br_f (by (try simp only [bI_0, vp_6, vp_9, vp_10, vp_12, vp_18, vp_30, vp_31, vp_50, vp_60, vp_144, vp_154, vp_180, vp_432, vp_3600]) <;> grind) (br_f (by (try simp only [bI_0, vp_6, vp_9, vp_10, vp_12, vp_18, vp_30, vp_31, vp_50, vp_60, vp_144, vp_154, vp_180, vp_432, vp_3600]) <;> grind) ⟨_, _, s_124, (br_f (by (try simp only [bI_0, vp_6, vp_9, vp_10, vp_12, vp_18, vp_30, vp_31, vp_50, vp_60, vp_144, vp_154, vp_180, vp_432, vp_3600]) <;> grind) ⟨_, _, s_126, (br_f (by (try simp only [bI_0, vp_6, vp_9, vp_10, vp_12, vp_18, vp_30, vp_31, vp_50, vp_60, vp_144, vp_154, vp_180, vp_432, vp_3600]) <;> grind) ⟨_, _, hm, (br_f (by (try simp only [bI_0, vp_6, vp_9, vp_10, vp_12, vp_18, vp_30, vp_31, vp_50, vp_60, vp_144, vp_154, vp_180, vp_432, vp_3600]) <;> grind) (br_t (by (try simp only [bI_0, vp_6, vp_9, vp_10, vp_12, vp_18, vp_30, vp_31, vp_50, vp_60, vp_144, vp_154, vp_180, vp_432, vp_3600]) <;> grind) ⟨(by (try simp only [bI_0, vp_6, vp_9, vp_10, vp_12, vp_18, vp_30, vp_31, vp_50, vp_60, vp_144, vp_154, vp_180, vp_432, vp_3600]) <;> grind), ⟨?_, rfl⟩⟩))⟩)⟩)⟩))⟩), hR.nst.mst⟩
      rw [e1, mst_88 hd, nst_14, (ex _ (by omega)).1, (em _ (by omega)).1]
    · refine ⟨_, _, _, (g_97_0 (br_f (by (try simp only [bI_0, vp_6, vp_9, vp_10, vp_12, vp_18, vp_30, vp_31, vp_50, vp_60, vp_144, vp_154, vp_180, vp_432, vp_3600]) <;> grind) (br_t (by (try simp only [bI_0, vp_6, vp_9, vp_10, vp_12, vp_18, vp_30, vp_31, vp_50, vp_60, vp_144, vp_154, vp_180, vp_432, vp_3600]) <;> grind) ⟨_, _, s_114, (br_f (by (try simp only [bI_0, vp_6, vp_9, vp_10, vp_12, vp_18, vp_30, vp_31, vp_50, vp_60, vp_144, vp_154, vp_180, vp_432, vp_3600]) <;> grind) ⟨_, _, s_114, (br_f (by (try simp only [bI_0, vp_6, vp_9, vp_10, vp_12, vp_18, vp_30, vp_31, vp_50, vp_60, vp_144, vp_154, vp_180, vp_432, vp_3600]) <;> grind) ⟨_, _, hx, (br_t (by (try simp only [bI_0, vp_6, vp_9, vp_10, vp_12, vp_18, vp_30, vp_31, vp_50, vp_60, vp_144, vp_154, vp_180, vp_432, vp_3600]) <;> grind) (br_f (by (try simp only [bI_0, vp_6, vp_9, vp_10, vp_12, vp_18, vp_30, vp_31, vp_50, vp_60, vp_144, vp_154, vp_180, vp_432, vp_3600]) <;> grind) ⟨(by (try simp only [bI_0, vp_6, vp_9, vp_10, vp_12, vp_18, vp_30, vp_31, vp_50, vp_60, vp_144, vp_154, vp_180, vp_432, vp_3600]) <;> grind), ⟨rfl, rfl⟩⟩))⟩)⟩)⟩))), (g_185_0 ⟨_, _, s_126, (br_f (by (try simp only [bI_0, vp_6, vp_9, vp_10, vp_12, vp_18, vp_30, vp_31, vp_50, vp_60, vp_144, vp_154, vp_180, vp_432, vp_3600]) <;> grind) (br_f (by (try simp only [bI_0, vp_6, vp_9, vp_10, vp_12, vp_18, vp_30, vp_31, vp_50, vp_60, vp_144, vp_154, vp_180, vp_432, vp_3600]) <;> grind) ⟨_, _, s_124, (br_f (by (try simp only [bI_0, vp_6, vp_9, vp_10, vp_12, vp_18, vp_30, vp_31, vp_50, vp_60, vp_144, vp_154, vp_180, vp_432, vp_3600]) <;> grind) ⟨_, _, s_126, (br_f (by (try simp only [bI_0, vp_6, vp_9, vp_10, vp_12, vp_18, vp_30, vp_31, vp_50, vp_60, vp_144, vp_154, vp_180, vp_432, vp_3600]) <;> grind) ⟨_, _, hm, (br_f (by (try simp only [bI_0, vp_6, vp_9, vp_10, vp_12, vp_18, vp_30, vp_31, vp_50, vp_60, vp_144, vp_154, vp_180, vp_432, vp_3600]) <;> grind) (br_f (by (try simp only [bI_0, vp_6, vp_9, vp_10, vp_12, vp_18, vp_30, vp_31, vp_50, vp_60, vp_144, vp_154, vp_180, vp_432, vp_3600]) <;> grind) ⟨(by (try simp only [bI_0, vp_6, vp_9, vp_10, vp_12, vp_18, vp_30, vp_31, vp_50, vp_60, vp_144, vp_154, vp_180, vp_432, vp_3600]) <;> grind), ⟨?_, rfl⟩⟩))⟩)⟩)⟩))⟩), hR.nst.mst⟩
      rw [e1, mst_89 hd, nst_15, (ex _ (by omega)).2, (em _ (by omega)).2]
/-! gain -/
def sumR (f : Nat → Int32) (b : Nat) : Nat → Int32
  | 0 => 0
  | i + 1 => sumR f b i + f (b + i)
theorem sumR_congr {f g : Nat → Int32} {b : Nat} : ∀ {n : Nat}, (∀ i, i < n → f (b + i) = g (b + i)) → sumR f b n = sumR g b n
  | 0, _ => rfl
  | n + 1, h => by
    unfold sumR
    rw [sumR_congr (n := n) (fun i hi => h i (by omega)), h n (by omega)]
theorem s_7 {τ : St} {c : Nat} (hc : c < 6) : Ret 7 [.ref 0, .int (nI c)] τ [.int (sumR (fun u => τ.1 15 u - τ.1 14 u) (24 * c) 24)] τ := by
  have em : nI c * 24 = nI (24 * c) := by
    have := mul24 (a := c) (b := 0)
    rw [nI_0, Int32.add_zero] at this
    exact this
  have em2 : (nI c + 1) * 24 = nI (24 * c + 24) := by
    rw [nI_S]
    have := mul24 (a := c + 1) (b := 0)
    rw [nI_0, Int32.add_zero] at this
    rw [this, show 24 * (c + 1) + 0 = 24 * c + 24 by omega]
  refine g_7_0 ?_
  rw [em]
  refine loopN 24 (fun i => Go 7 7 [.ref 0, .int (nI c), .int (sumR (fun u => τ.1 15 u - τ.1 14 u) (24 * c) i), .int (nI (24 * c + i))] [] τ [.int (sumR (fun u => τ.1 15 u - τ.1 14 u) (24 * c) 24)] τ) ?_ ?_ 0 (by omega)
  · intro i hi h
    have ei : (nI (24 * c + i)).toNatClampNeg = 24 * c + i := clN (by omega)
    refine g_7_7 (br_t (by rw [em2]; exact (nI_ltI (by omega) (by omega)).mpr (by omega)) ⟨vp_in_nI (by omega) (by decide), ?_⟩)
    rw [ei, nI_S]
    exact h
  · exact g_7_7 (br_f (by rw [em2]; exact Int32.lt_irrefl) ⟨rfl, rfl⟩)
theorem s_186 {τ : St} {c : Nat} (hc : c < 6) : Ret 186 [.ref 11, .int (nI (24 * c))] τ [.int (sumR (fun u => τ.1 89 u - τ.1 88 u) (24 * c) 24)] τ := by
  have em2 : nI (24 * c) + 24 = nI (24 * c + 24) := by
    rw [show (24 : Int32) = nI 24 from rfl, nI_add]
  refine g_186_0 ?_
  refine loopN 24 (fun i => Go 186 4 [.ref 11, .int (nI (24 * c)), .int (sumR (fun u => τ.1 89 u - τ.1 88 u) (24 * c) i), .int (nI (24 * c + i))] [] τ [.int (sumR (fun u => τ.1 89 u - τ.1 88 u) (24 * c) 24)] τ) ?_ ?_ 0 (by omega)
  · intro i hi h
    have ei : (nI (24 * c + i)).toNatClampNeg = 24 * c + i := clN (by omega)
    refine g_186_4 (br_t (by rw [em2]; exact (nI_ltI (by omega) (by omega)).mpr (by omega)) ⟨vp_in_nI (by omega) (by decide), ?_⟩)
    rw [ei, nI_S]
    exact h
  · exact g_186_4 (br_f (by rw [em2]; exact Int32.lt_irrefl) ⟨rfl, rfl⟩)
theorem p_gain {σ : St} {a : Int32} (hR : Rel σ) : PairI 98 187 [.int a] σ := by
  obtain ⟨n, hg⟩ := hR.gf
  rcases (Classical.em (0 ≤ a ∧ a < 144)).symm with h1 | h1
  · have hl : ¬ lnP σ a := fun z => h1 ⟨z.1, z.2.1⟩
    exact ⟨-1, σ, σ, (g_98_0 ⟨_, _, s_114, (br_t (by (try simp only [bI_0, vp_6, vp_9, vp_10, vp_12, vp_18, vp_30, vp_31, vp_50, vp_60, vp_144, vp_154, vp_180, vp_432, vp_3600]) <;> grind) ⟨rfl, rfl⟩)⟩), (g_187_0 ⟨_, _, (s_140f hg hl), (br_t (by (try simp only [bI_0, vp_6, vp_9, vp_10, vp_12, vp_18, vp_30, vp_31, vp_50, vp_60, vp_144, vp_154, vp_180, vp_432, vp_3600]) <;> grind) ⟨rfl, rfl⟩)⟩), hR⟩
  obtain ⟨l, hl, rfl⟩ := inR (n := 144) rfl (by decide) h1.1 h1.2
  have el : (nI l).toNatClampNeg = l := clN (by omega)
  have hT := hR.2.2.2.2.2.2.2.1 l hl
  rcases (Classical.em (¬ σ.1 47 l = -1 ∧ σ.1 48 l = 0)).symm with h2 | h2
  · have hx : Ret 98 [.ref 10, .int (nI l)] σ [.int (-1)] σ := (g_98_0 ⟨_, _, s_114, (br_f (by (try simp only [bI_0, vp_6, vp_9, vp_10, vp_12, vp_18, vp_30, vp_31, vp_50, vp_60, vp_144, vp_154, vp_180, vp_432, vp_3600]) <;> grind) ⟨_, _, (s_60f (σ := σ) hl rfl rfl h2), (br_t (by (try simp only [bI_0, vp_6, vp_9, vp_10, vp_12, vp_18, vp_30, vp_31, vp_50, vp_60, vp_144, vp_154, vp_180, vp_432, vp_3600]) <;> grind) ⟨rfl, rfl⟩)⟩)⟩)
    rcases (Classical.em (lnP σ (nI l))).symm with h3 | h3
    · exact ⟨-1, σ, σ, hx, (g_187_0 ⟨_, _, (s_140f hg h3), (br_t (by (try simp only [bI_0, vp_6, vp_9, vp_10, vp_12, vp_18, vp_30, vp_31, vp_50, vp_60, vp_144, vp_154, vp_180, vp_432, vp_3600]) <;> grind) ⟨rfl, rfl⟩)⟩), hR⟩
    refine ⟨-1, σ, σ, hx, (g_187_0 ⟨_, _, (s_140t hg h3), (br_f (by (try simp only [bI_0, vp_6, vp_9, vp_10, vp_12, vp_18, vp_30, vp_31, vp_50, vp_60, vp_144, vp_154, vp_180, vp_432, vp_3600]) <;> grind) ⟨_, _, (s_176f (σ := σ) hl rfl rfl ?_), (br_t (by (try simp only [bI_0, vp_6, vp_9, vp_10, vp_12, vp_18, vp_30, vp_31, vp_50, vp_60, vp_144, vp_154, vp_180, vp_432, vp_3600]) <;> grind) ⟨rfl, rfl⟩)⟩)⟩), hR⟩
    by_cases q : σ.1 47 l = -1
    · rcases hT.1 with ⟨_, q2⟩ | ⟨e, he, q1, _⟩
      · exact Or.inl (by rw [q2]; decide)
      · exact absurd (q1.symm.trans q) (neg1_nI (by omega))
    · exact Or.inr (by rw [← hT.2.1.1]; exact fun z => h2 ⟨q, z⟩)
  obtain ⟨d, hd, q1, q2, q3⟩ := td_spec hR hl h2.1
  have h3 : lnP σ (nI l) := (lnP_nI hl).mpr q3
  have q4 : σ.1 75 l = 0 := by rw [← hT.2.1.1]; exact h2.2
  have x60 := s_60t (σ := σ) (τ := σ) hl rfl rfl h2
  have m176 := s_176t (σ := σ) (τ := σ) hl hd rfl rfl q2 q4
  have hc : l / 24 < 6 := by omega
  have ed : nI l / 24 = nI (l / 24) := div24 hl
  have et : nI l - (nI l - nI l / 24 * 24) = nI (24 * (l / 24)) := by
    rw [ed]
    have := mul24 (a := l / 24) (b := 0)
    rw [nI_0, Int32.add_zero] at this
    rw [this, Nat.add_zero]
    grind
  obtain ⟨L, H, hq⟩ := hR.net0 (-1)
  obtain ⟨L', H', hq'⟩ := hR.net0 (nI l)
  obtain ⟨L1, H1, mv1, hx1, ex1⟩ := net_x (τ := σ) hR hq ⟨rfl, rfl, rfl, rfl⟩
  obtain ⟨L2, H2, mv2, hx2, ex2⟩ := net_x (τ := nst σ L1 H1 mv1) hR hq' ⟨rfl, rfl, rfl, rfl⟩
  by_cases hc1 : clP L H
  · rw [pI_t hc1] at hx1
    have hx : Ret 98 [.ref 10, .int (nI l)] σ [.int (-5)] (nst σ L1 H1 mv1) := (g_98_0 ⟨_, _, s_114, (br_f (by (try simp only [bI_0, vp_6, vp_9, vp_10, vp_12, vp_18, vp_30, vp_31, vp_50, vp_60, vp_144, vp_154, vp_180, vp_432, vp_3600]) <;> grind) ⟨_, _, x60, (br_f (by (try simp only [bI_0, vp_6, vp_9, vp_10, vp_12, vp_18, vp_30, vp_31, vp_50, vp_60, vp_144, vp_154, vp_180, vp_432, vp_3600]) <;> grind) ⟨_, _, hx1, (br_f (by (try simp only [bI_0, vp_6, vp_9, vp_10, vp_12, vp_18, vp_30, vp_31, vp_50, vp_60, vp_144, vp_154, vp_180, vp_432, vp_3600]) <;> grind) ⟨rfl, rfl⟩)⟩)⟩)⟩)
    obtain ⟨L3, H3, hm3, em3⟩ := net_m (τ := nst σ L1 H1 mv1) (w' := nI l) hR (fun _ _ => Iff.rfl) hq' ⟨rfl, rfl, rfl, rfl, rfl, rfl⟩
    have m140 := s_140t (σ := nst σ L1 H1 mv1) (n := n) hg h3
    have m176 := s_176t (σ := σ) (τ := nst σ L1 H1 mv1) hl hd rfl rfl q2 q4
    by_cases hc2 : clP L' H'
    · rw [pI_f (fun z => z hc2)] at hm3
      exact ⟨-5, _, _, hx, (g_187_0 ⟨_, _, m140, (br_f (by (try simp only [bI_0, vp_6, vp_9, vp_10, vp_12, vp_18, vp_30, vp_31, vp_50, vp_60, vp_144, vp_154, vp_180, vp_432, vp_3600]) <;> grind) ⟨_, _, m176, (br_f (by (try simp only [bI_0, vp_6, vp_9, vp_10, vp_12, vp_18, vp_30, vp_31, vp_50, vp_60, vp_144, vp_154, vp_180, vp_432, vp_3600]) <;> grind) ⟨_, _, hm3, (br_t (by (try simp only [bI_0, vp_6, vp_9, vp_10, vp_12, vp_18, vp_30, vp_31, vp_50, vp_60, vp_144, vp_154, vp_180, vp_432, vp_3600]) <;> grind) ⟨rfl, rfl⟩)⟩)⟩)⟩), hR.nst.mst⟩
    · rw [pI_t hc2] at hm3
      obtain ⟨L4, H4, hm4, em4⟩ := net_m (τ := mst (nst σ L1 H1 mv1) L3 H3) (w' := -6) hR w_none hq ⟨rfl, rfl, rfl, rfl, rfl, rfl⟩
      rw [pI_f (fun z => z hc1)] at hm4
      exact ⟨-5, _, _, hx, (g_187_0 ⟨_, _, m140, (br_f (by (try simp only [bI_0, vp_6, vp_9, vp_10, vp_12, vp_18, vp_30, vp_31, vp_50, vp_60, vp_144, vp_154, vp_180, vp_432, vp_3600]) <;> grind) ⟨_, _, m176, (br_f (by (try simp only [bI_0, vp_6, vp_9, vp_10, vp_12, vp_18, vp_30, vp_31, vp_50, vp_60, vp_144, vp_154, vp_180, vp_432, vp_3600]) <;> grind) ⟨_, _, hm3, (br_f (by (try simp only [bI_0, vp_6, vp_9, vp_10, vp_12, vp_18, vp_30, vp_31, vp_50, vp_60, vp_144, vp_154, vp_180, vp_432, vp_3600]) <;> grind) ⟨_, _, (by rw [et]; exact s_186 hc), ⟨_, _, hm4, (br_t (by (try simp only [bI_0, vp_6, vp_9, vp_10, vp_12, vp_18, vp_30, vp_31, vp_50, vp_60, vp_144, vp_154, vp_180, vp_432, vp_3600]) <;> grind) ⟨rfl, rfl⟩)⟩⟩)⟩)⟩)⟩), hR.nst.mst.mst⟩
  rw [pI_f hc1] at hx1
  have m140 := s_140t (σ := nst (nst σ L1 H1 mv1) L2 H2 mv2) (n := n) hg h3
  have m176 := s_176t (σ := σ) (τ := nst (nst σ L1 H1 mv1) L2 H2 mv2) hl hd rfl rfl q2 q4
  obtain ⟨L3, H3, hm3, em3⟩ := net_m (τ := nst (nst σ L1 H1 mv1) L2 H2 mv2) (w' := nI l) hR (fun _ _ => Iff.rfl) hq' ⟨rfl, rfl, rfl, rfl, rfl, rfl⟩
  by_cases hc2 : clP L' H'
  · rw [pI_t hc2] at hx2
    rw [pI_f (fun z => z hc2)] at hm3
    exact ⟨-5, _, _, (g_98_0 ⟨_, _, s_114, (br_f (by (try simp only [bI_0, vp_6, vp_9, vp_10, vp_12, vp_18, vp_30, vp_31, vp_50, vp_60, vp_144, vp_154, vp_180, vp_432, vp_3600]) <;> grind) ⟨_, _, x60, (br_f (by (try simp only [bI_0, vp_6, vp_9, vp_10, vp_12, vp_18, vp_30, vp_31, vp_50, vp_60, vp_144, vp_154, vp_180, vp_432, vp_3600]) <;> grind) ⟨_, _, hx1, (br_t (by (try simp only [bI_0, vp_6, vp_9, vp_10, vp_12, vp_18, vp_30, vp_31, vp_50, vp_60, vp_144, vp_154, vp_180, vp_432, vp_3600]) <;> grind) ⟨_, _, (by rw [ed]; exact s_7 hc), ⟨_, _, hx2, (br_f (by (try simp only [bI_0, vp_6, vp_9, vp_10, vp_12, vp_18, vp_30, vp_31, vp_50, vp_60, vp_144, vp_154, vp_180, vp_432, vp_3600]) <;> grind) ⟨rfl, rfl⟩)⟩⟩)⟩)⟩)⟩), (g_187_0 ⟨_, _, m140, (br_f (by (try simp only [bI_0, vp_6, vp_9, vp_10, vp_12, vp_18, vp_30, vp_31, vp_50, vp_60, vp_144, vp_154, vp_180, vp_432, vp_3600]) <;> grind) ⟨_, _, m176, (br_f (by (try simp only [bI_0, vp_6, vp_9, vp_10, vp_12, vp_18, vp_30, vp_31, vp_50, vp_60, vp_144, vp_154, vp_180, vp_432, vp_3600]) <;> grind) ⟨_, _, hm3, (br_t (by (try simp only [bI_0, vp_6, vp_9, vp_10, vp_12, vp_18, vp_30, vp_31, vp_50, vp_60, vp_144, vp_154, vp_180, vp_432, vp_3600]) <;> grind) ⟨rfl, rfl⟩)⟩)⟩)⟩), hR.nst.nst.mst⟩
  rw [pI_f hc2] at hx2
  rw [pI_t hc2] at hm3
  obtain ⟨L4, H4, hm4, em4⟩ := net_m (τ := mst (nst (nst σ L1 H1 mv1) L2 H2 mv2) L3 H3) (w' := -6) hR w_none hq ⟨rfl, rfl, rfl, rfl, rfl, rfl⟩
  rw [pI_t hc1] at hm4
  have y1 : Ret 7 [.ref 0, .int (nI l / 24)] (nst σ L1 H1 mv1) [.int (sumR (fun u => H u - L u) (24 * (l / 24)) 24)] (nst σ L1 H1 mv1) := by
    rw [ed, ← sumR_congr (f := fun u => (nst σ L1 H1 mv1).1 15 u - (nst σ L1 H1 mv1).1 14 u) (fun i hi => by show (nst σ L1 H1 mv1).1 15 _ - (nst σ L1 H1 mv1).1 14 _ = H _ - L _; rw [nst_14, nst_15, (ex1 _ (by omega)).1, (ex1 _ (by omega)).2])]
    exact s_7 hc
  have y2 : Ret 7 [.ref 0, .int (nI l / 24)] (nst (nst σ L1 H1 mv1) L2 H2 mv2) [.int (sumR (fun u => H' u - L' u) (24 * (l / 24)) 24)] (nst (nst σ L1 H1 mv1) L2 H2 mv2) := by
    rw [ed, ← sumR_congr (f := fun u => (nst (nst σ L1 H1 mv1) L2 H2 mv2).1 15 u - (nst (nst σ L1 H1 mv1) L2 H2 mv2).1 14 u) (fun i hi => by show (nst (nst σ L1 H1 mv1) L2 H2 mv2).1 15 _ - (nst (nst σ L1 H1 mv1) L2 H2 mv2).1 14 _ = H' _ - L' _; rw [nst_14, nst_15, (ex2 _ (by omega)).1, (ex2 _ (by omega)).2])]
    exact s_7 hc
  have y3 : ∀ τ, Ret 186 [.ref 11, .int (nI l - (nI l - nI l / 24 * 24))] (mst τ L3 H3) [.int (sumR (fun u => H' u - L' u) (24 * (l / 24)) 24)] (mst τ L3 H3) := by
    intro τ
    rw [et, ← sumR_congr (f := fun u => (mst τ L3 H3).1 89 u - (mst τ L3 H3).1 88 u) (fun i hi => by show (mst τ L3 H3).1 89 _ - (mst τ L3 H3).1 88 _ = H' _ - L' _; rw [mst_88 (by omega), mst_89 (by omega), (em3 _ (by omega)).1, (em3 _ (by omega)).2])]
    exact s_186 hc
  have y4 : ∀ τ, Ret 186 [.ref 11, .int (nI l - (nI l - nI l / 24 * 24))] (mst τ L4 H4) [.int (sumR (fun u => H u - L u) (24 * (l / 24)) 24)] (mst τ L4 H4) := by
    intro τ
    rw [et, ← sumR_congr (f := fun u => (mst τ L4 H4).1 89 u - (mst τ L4 H4).1 88 u) (fun i hi => by show (mst τ L4 H4).1 89 _ - (mst τ L4 H4).1 88 _ = H _ - L _; rw [mst_88 (by omega), mst_89 (by omega), (em4 _ (by omega)).1, (em4 _ (by omega)).2])]
    exact s_186 hc
  exact ⟨_, _, _, (g_98_0 ⟨_, _, s_114, (br_f (by (try simp only [bI_0, vp_6, vp_9, vp_10, vp_12, vp_18, vp_30, vp_31, vp_50, vp_60, vp_144, vp_154, vp_180, vp_432, vp_3600]) <;> grind) ⟨_, _, x60, (br_f (by (try simp only [bI_0, vp_6, vp_9, vp_10, vp_12, vp_18, vp_30, vp_31, vp_50, vp_60, vp_144, vp_154, vp_180, vp_432, vp_3600]) <;> grind) ⟨_, _, hx1, (br_t (by (try simp only [bI_0, vp_6, vp_9, vp_10, vp_12, vp_18, vp_30, vp_31, vp_50, vp_60, vp_144, vp_154, vp_180, vp_432, vp_3600]) <;> grind) ⟨_, _, y1, ⟨_, _, hx2, (br_t (by (try simp only [bI_0, vp_6, vp_9, vp_10, vp_12, vp_18, vp_30, vp_31, vp_50, vp_60, vp_144, vp_154, vp_180, vp_432, vp_3600]) <;> grind) ⟨_, _, y2, ⟨rfl, rfl⟩⟩)⟩⟩)⟩)⟩)⟩), (g_187_0 ⟨_, _, m140, (br_f (by (try simp only [bI_0, vp_6, vp_9, vp_10, vp_12, vp_18, vp_30, vp_31, vp_50, vp_60, vp_144, vp_154, vp_180, vp_432, vp_3600]) <;> grind) ⟨_, _, m176, (br_f (by (try simp only [bI_0, vp_6, vp_9, vp_10, vp_12, vp_18, vp_30, vp_31, vp_50, vp_60, vp_144, vp_154, vp_180, vp_432, vp_3600]) <;> grind) ⟨_, _, hm3, (br_f (by (try simp only [bI_0, vp_6, vp_9, vp_10, vp_12, vp_18, vp_30, vp_31, vp_50, vp_60, vp_144, vp_154, vp_180, vp_432, vp_3600]) <;> grind) ⟨_, _, y3 _, ⟨_, _, hm4, (br_f (by (try simp only [bI_0, vp_6, vp_9, vp_10, vp_12, vp_18, vp_30, vp_31, vp_50, vp_60, vp_144, vp_154, vp_180, vp_432, vp_3600]) <;> grind) ⟨_, _, y4 _, ⟨rfl, rfl⟩⟩)⟩⟩)⟩)⟩)⟩), hR.nst.nst.mst.mst⟩
/-! gap -/
theorem s_86t {σ : St} {a b : Int32} (h : ¬ a = b) (ha : lnP σ a) (hb : lnP σ b) : Ret 86 [.ref 10, .int a, .int b] σ [.int 1] σ := (g_86_0 (br_f (by (try simp only [bI_0, vp_6, vp_9, vp_10, vp_12, vp_18, vp_30, vp_31, vp_50, vp_60, vp_144, vp_154, vp_180, vp_432, vp_3600]) <;> grind) ⟨_, _, (s_29t ha), (br_f (by (try simp only [bI_0, vp_6, vp_9, vp_10, vp_12, vp_18, vp_30, vp_31, vp_50, vp_60, vp_144, vp_154, vp_180, vp_432, vp_3600]) <;> grind) ⟨_, _, (s_29t hb), (br_f (by (try simp only [bI_0, vp_6, vp_9, vp_10, vp_12, vp_18, vp_30, vp_31, vp_50, vp_60, vp_144, vp_154, vp_180, vp_432, vp_3600]) <;> grind) ⟨rfl, rfl⟩)⟩)⟩))
theorem s_86f {σ : St} {a b : Int32} (h : ¬ (¬ a = b ∧ lnP σ a ∧ lnP σ b)) : Ret 86 [.ref 10, .int a, .int b] σ [.int 0] σ := by
  by_cases h1 : a = b
  · exact (g_86_0 (br_t (by (try simp only [bI_0, vp_6, vp_9, vp_10, vp_12, vp_18, vp_30, vp_31, vp_50, vp_60, vp_144, vp_154, vp_180, vp_432, vp_3600]) <;> grind) ⟨rfl, rfl⟩))
  rcases (Classical.em (lnP σ a)).symm with h2 | h2
  · exact (g_86_0 (br_f (by (try simp only [bI_0, vp_6, vp_9, vp_10, vp_12, vp_18, vp_30, vp_31, vp_50, vp_60, vp_144, vp_154, vp_180, vp_432, vp_3600]) <;> grind) ⟨_, _, (s_29f h2), (br_t (by (try simp only [bI_0, vp_6, vp_9, vp_10, vp_12, vp_18, vp_30, vp_31, vp_50, vp_60, vp_144, vp_154, vp_180, vp_432, vp_3600]) <;> grind) ⟨rfl, rfl⟩)⟩))
  · exact (g_86_0 (br_f (by (try simp only [bI_0, vp_6, vp_9, vp_10, vp_12, vp_18, vp_30, vp_31, vp_50, vp_60, vp_144, vp_154, vp_180, vp_432, vp_3600]) <;> grind) ⟨_, _, (s_29t h2), (br_f (by (try simp only [bI_0, vp_6, vp_9, vp_10, vp_12, vp_18, vp_30, vp_31, vp_50, vp_60, vp_144, vp_154, vp_180, vp_432, vp_3600]) <;> grind) ⟨_, _, (s_29f (fun z => h ⟨h1, h2, z⟩)), (br_t (by (try simp only [bI_0, vp_6, vp_9, vp_10, vp_12, vp_18, vp_30, vp_31, vp_50, vp_60, vp_144, vp_154, vp_180, vp_432, vp_3600]) <;> grind) ⟨rfl, rfl⟩)⟩)⟩))
theorem gpC {σ : St} {l k s : Nat} (hl : l < 144) (hk : k < 144) (hs : s < 3) : Ret 36 [.ref 4, .int (nI l), .int (nI k), .int (nI s)] σ [.int (gapF (σ.1 31 (3 * l + s)) (σ.1 32 (3 * l + s)) (σ.1 31 (3 * k + s)) (σ.1 32 (3 * k + s)))] σ := by
  have e1 : (nI l * 3 + nI s).toNatClampNeg = 3 * l + s := by rw [mul3]; exact clN (by omega)
  have e2 : (nI k * 3 + nI s).toNatClampNeg = 3 * k + s := by rw [mul3]; exact clN (by omega)
  refine g_36_0 ⟨v3 (by omega) (by decide), v3 (by omega) (by decide), ?_⟩
  rw [e1, e2]
  exact ⟨_, _, s_117, rfl, rfl⟩
def ggF (σ : St) (l k s : Nat) : Int32 := gapF (σ.1 31 (3 * l + s)) (σ.1 32 (3 * l + s)) (σ.1 31 (3 * k + s)) (σ.1 32 (3 * k + s))
theorem gpM {σ : St} {n l k s : Nat} (hR : Rel σ) (hg : GF σ n) (hl : l < 144) (hk : k < 144) (hs : s < 3) (pl : 0 < σ.1 30 l) (pk : 0 < σ.1 30 k) : Ret 151 [.ref 11, .int (nI l), .int (nI k), .int (nI s)] σ [.int (ggF σ l k s)] σ := by
  have g1 := gl_eq hR hg hl pl hs
  have g2 := gl_eq hR hg hk pk hs
  have r1 := glass_rng hR hg hl pl hs
  have r2 := glass_rng hR hg hk pk hs
  exact g_151_0 ⟨_, _, g1.1, _, _, g1.2 1 (by decide), _, _, g2.1, _, _, g2.2 1 (by decide), _, _, s_150 r1.2.1 r2.2.1, rfl, rfl⟩
def agF (L H : Nat → Int32) (l k : Nat) : Int32 := gapF (L l) (H l) (L k) (H k)
theorem s_6 {τ : St} {l k : Nat} (hl : l < 144) (hk : k < 144) : Ret 6 [.ref 0, .int (nI l), .int (nI k)] τ [.int (agF (τ.1 14) (τ.1 15) l k)] τ := by
  have e1 : (nI l).toNatClampNeg = l := clN (by omega)
  have e2 : (nI k).toNatClampNeg = k := clN (by omega)
  refine g_6_0 ⟨vp_in_nI (by omega) (by decide), vp_in_nI (by omega) (by decide), ?_⟩
  rw [e1, e2]
  exact ⟨_, _, s_117, rfl, rfl⟩
theorem s_152 {τ : St} {l k : Nat} (hl : l < 144) (hk : k < 144) (h1 : τ.1 88 l ≤ τ.1 89 l) (h2 : τ.1 88 k ≤ τ.1 89 k) : Ret 152 [.ref 11, .int (nI l), .int (nI k)] τ [.int (agF (τ.1 88) (τ.1 89) l k)] τ := by
  have e1 : (nI l).toNatClampNeg = l := clN (by omega)
  have e2 : (nI k).toNatClampNeg = k := clN (by omega)
  refine g_152_0 ⟨vp_in_nI (by omega) (by decide), vp_in_nI (by omega) (by decide), ?_⟩
  rw [e1, e2]
  exact ⟨_, _, s_150 h1 h2, rfl, rfl⟩
theorem not_cl {L H : Nat → Int32} (h : ¬ clP L H) {u : Nat} (hu : u < 154) : L u ≤ H u := Int32.not_lt.mp (fun q => h ⟨u, hu, q⟩)
/-- the two age gaps, behind both nets -/
theorem agX {τ : St} {L H L1 H1 : Nat → Int32} {mv : Int32} (e : ∀ u, u < 154 → L1 u = L u ∧ H1 u = H u) {l k : Nat} (hl : l < 144) (hk : k < 144) : Ret 6 [.ref 0, .int (nI l), .int (nI k)] (nst τ L1 H1 mv) [.int (agF L H l k)] (nst τ L1 H1 mv) := by
  have := s_6 (τ := nst τ L1 H1 mv) hl hk
  rw [nst_14, nst_15] at this
  unfold agF at this ⊢
  rw [(e l (by omega)).1, (e l (by omega)).2, (e k (by omega)).1, (e k (by omega)).2] at this
  exact this
theorem agM {τ : St} {L H L1 H1 : Nat → Int32} (hc : ¬ clP L H) (e : ∀ u, u < 154 → L1 u = L u ∧ H1 u = H u) {l k : Nat} (hl : l < 144) (hk : k < 144) : Ret 152 [.ref 11, .int (nI l), .int (nI k)] (mst τ L1 H1) [.int (agF L H l k)] (mst τ L1 H1) := by
  have h1 : (mst τ L1 H1).1 88 l ≤ (mst τ L1 H1).1 89 l := by
    rw [mst_88 hl, mst_89 hl, (e l (by omega)).1, (e l (by omega)).2]
    exact not_cl hc (by omega)
  have h2 : (mst τ L1 H1).1 88 k ≤ (mst τ L1 H1).1 89 k := by
    rw [mst_88 hk, mst_89 hk, (e k (by omega)).1, (e k (by omega)).2]
    exact not_cl hc (by omega)
  have := s_152 hl hk h1 h2
  unfold agF at this ⊢
  rw [mst_88 hl, mst_89 hl, mst_88 hk, mst_89 hk, (e l (by omega)).1, (e l (by omega)).2, (e k (by omega)).1, (e k (by omega)).2] at this
  exact this
theorem p_gap {σ : St} {a b c : Int32} (hR : Rel σ) : PairI 81 153 [.int a, .int b, .int c] σ := by
  obtain ⟨n, hg⟩ := hR.gf
  rcases (Classical.em (¬ a = b ∧ lnP σ a ∧ lnP σ b)).symm with h0 | h0
  · have hx : Ret 81 [.ref 10, .int a, .int b, .int c] σ [.int (-1)] σ := (g_81_0 ⟨_, _, (s_86f h0), (br_t (by (try simp only [bI_0, vp_6, vp_9, vp_10, vp_12, vp_18, vp_30, vp_31, vp_50, vp_60, vp_144, vp_154, vp_180, vp_432, vp_3600]) <;> grind) ⟨rfl, rfl⟩)⟩)
    refine ⟨-1, σ, σ, hx, ?_, hR⟩
    rcases (Classical.em (lnP σ a)).symm with h1 | h1
    · exact (g_153_0 ⟨_, _, (s_140f hg h1), (br_t (by (try simp only [bI_0, vp_6, vp_9, vp_10, vp_12, vp_18, vp_30, vp_31, vp_50, vp_60, vp_144, vp_154, vp_180, vp_432, vp_3600]) <;> grind) ⟨rfl, rfl⟩)⟩)
    rcases (Classical.em (lnP σ b)).symm with h2 | h2
    · exact (g_153_0 ⟨_, _, (s_140t hg h1), (br_f (by (try simp only [bI_0, vp_6, vp_9, vp_10, vp_12, vp_18, vp_30, vp_31, vp_50, vp_60, vp_144, vp_154, vp_180, vp_432, vp_3600]) <;> grind) ⟨_, _, (s_140f hg h2), (br_t (by (try simp only [bI_0, vp_6, vp_9, vp_10, vp_12, vp_18, vp_30, vp_31, vp_50, vp_60, vp_144, vp_154, vp_180, vp_432, vp_3600]) <;> grind) ⟨rfl, rfl⟩)⟩)⟩)
    have h3 : a = b := Classical.byContradiction fun z => h0 ⟨z, h1, h2⟩
    exact (g_153_0 ⟨_, _, (s_140t hg h1), (br_f (by (try simp only [bI_0, vp_6, vp_9, vp_10, vp_12, vp_18, vp_30, vp_31, vp_50, vp_60, vp_144, vp_154, vp_180, vp_432, vp_3600]) <;> grind) ⟨_, _, (s_140t hg h2), (br_f (by (try simp only [bI_0, vp_6, vp_9, vp_10, vp_12, vp_18, vp_30, vp_31, vp_50, vp_60, vp_144, vp_154, vp_180, vp_432, vp_3600]) <;> grind) (br_t (by (try simp only [bI_0, vp_6, vp_9, vp_10, vp_12, vp_18, vp_30, vp_31, vp_50, vp_60, vp_144, vp_154, vp_180, vp_432, vp_3600]) <;> grind) ⟨rfl, rfl⟩))⟩)⟩)
  obtain ⟨h3, h1, h2⟩ := h0
  rcases (Classical.em (0 ≤ c ∧ c ≤ 3)).symm with hc | hc
  · refine ⟨-2, σ, σ, ?_, (g_153_0 ⟨_, _, (s_140t hg h1), (br_f (by (try simp only [bI_0, vp_6, vp_9, vp_10, vp_12, vp_18, vp_30, vp_31, vp_50, vp_60, vp_144, vp_154, vp_180, vp_432, vp_3600]) <;> grind) ⟨_, _, (s_140t hg h2), (br_f (by (try simp only [bI_0, vp_6, vp_9, vp_10, vp_12, vp_18, vp_30, vp_31, vp_50, vp_60, vp_144, vp_154, vp_180, vp_432, vp_3600]) <;> grind) (br_f (by (try simp only [bI_0, vp_6, vp_9, vp_10, vp_12, vp_18, vp_30, vp_31, vp_50, vp_60, vp_144, vp_154, vp_180, vp_432, vp_3600]) <;> grind) ⟨_, _, s_120, (br_t (by (try simp only [bI_0, vp_6, vp_9, vp_10, vp_12, vp_18, vp_30, vp_31, vp_50, vp_60, vp_144, vp_154, vp_180, vp_432, vp_3600]) <;> grind) ⟨rfl, rfl⟩)⟩))⟩)⟩), hR⟩
    by_cases hc0 : c < 0
    · exact (g_81_0 ⟨_, _, (s_86t h3 h1 h2), (br_f (by (try simp only [bI_0, vp_6, vp_9, vp_10, vp_12, vp_18, vp_30, vp_31, vp_50, vp_60, vp_144, vp_154, vp_180, vp_432, vp_3600]) <;> grind) (br_t (by (try simp only [bI_0, vp_6, vp_9, vp_10, vp_12, vp_18, vp_30, vp_31, vp_50, vp_60, vp_144, vp_154, vp_180, vp_432, vp_3600]) <;> grind) ⟨rfl, rfl⟩))⟩)
    · exact (g_81_0 ⟨_, _, (s_86t h3 h1 h2), (br_f (by (try simp only [bI_0, vp_6, vp_9, vp_10, vp_12, vp_18, vp_30, vp_31, vp_50, vp_60, vp_144, vp_154, vp_180, vp_432, vp_3600]) <;> grind) (br_f (by (try simp only [bI_0, vp_6, vp_9, vp_10, vp_12, vp_18, vp_30, vp_31, vp_50, vp_60, vp_144, vp_154, vp_180, vp_432, vp_3600]) <;> grind) (br_f (by (try simp only [bI_0, vp_6, vp_9, vp_10, vp_12, vp_18, vp_30, vp_31, vp_50, vp_60, vp_144, vp_154, vp_180, vp_432, vp_3600]) <;> grind) ⟨rfl, rfl⟩)))⟩)
  obtain ⟨l, hl, rfl⟩ := inR (x := a) (m := 144) (n := 144) rfl (by decide) h1.1 h1.2.1
  obtain ⟨k, hk, rfl⟩ := inR (x := b) (m := 144) (n := 144) rfl (by decide) h2.1 h2.2.1
  have pl := (lnP_nI hl).mp h1
  have pk := (lnP_nI hk).mp h2
  by_cases hc3 : c < 3
  · obtain ⟨s, hs, rfl⟩ := inR (x := c) (m := 3) (n := 3) rfl (by decide) hc.1 hc3
    exact ⟨_, _, _, (g_81_0 ⟨_, _, (s_86t h3 h1 h2), (br_f (by (try simp only [bI_0, vp_6, vp_9, vp_10, vp_12, vp_18, vp_30, vp_31, vp_50, vp_60, vp_144, vp_154, vp_180, vp_432, vp_3600]) <;> grind) (br_f (by (try simp only [bI_0, vp_6, vp_9, vp_10, vp_12, vp_18, vp_30, vp_31, vp_50, vp_60, vp_144, vp_154, vp_180, vp_432, vp_3600]) <;> grind) (br_t (by (try simp only [bI_0, vp_6, vp_9, vp_10, vp_12, vp_18, vp_30, vp_31, vp_50, vp_60, vp_144, vp_154, vp_180, vp_432, vp_3600]) <;> grind) (br_t (by (try simp only [bI_0, vp_6, vp_9, vp_10, vp_12, vp_18, vp_30, vp_31, vp_50, vp_60, vp_144, vp_154, vp_180, vp_432, vp_3600]) <;> grind) ⟨_, _, (gpC hl hk hs), ⟨rfl, rfl⟩⟩))))⟩), (g_153_0 ⟨_, _, (s_140t hg h1), (br_f (by (try simp only [bI_0, vp_6, vp_9, vp_10, vp_12, vp_18, vp_30, vp_31, vp_50, vp_60, vp_144, vp_154, vp_180, vp_432, vp_3600]) <;> grind) ⟨_, _, (s_140t hg h2), (br_f (by (try simp only [bI_0, vp_6, vp_9, vp_10, vp_12, vp_18, vp_30, vp_31, vp_50, vp_60, vp_144, vp_154, vp_180, vp_432, vp_3600]) <;> grind) (br_f (by (try simp only [bI_0, vp_6, vp_9, vp_10, vp_12, vp_18, vp_30, vp_31, vp_50, vp_60, vp_144, vp_154, vp_180, vp_432, vp_3600]) <;> grind) ⟨_, _, s_120, (br_f (by (try simp only [bI_0, vp_6, vp_9, vp_10, vp_12, vp_18, vp_30, vp_31, vp_50, vp_60, vp_144, vp_154, vp_180, vp_432, vp_3600]) <;> grind) (br_t (by (try simp only [bI_0, vp_6, vp_9, vp_10, vp_12, vp_18, vp_30, vp_31, vp_50, vp_60, vp_144, vp_154, vp_180, vp_432, vp_3600]) <;> grind) ⟨_, _, (gpM hR hg hl hk hs pl pk), ⟨rfl, rfl⟩⟩))⟩))⟩)⟩), hR⟩
  obtain ⟨L, H, hq⟩ := hR.net0 (-1)
  obtain ⟨L1, H1, mv, hx, ex⟩ := net_x (τ := σ) hR hq ⟨rfl, rfl, rfl, rfl⟩
  obtain ⟨L2, H2, hm, em⟩ := net_m (τ := nst σ L1 H1 mv) hR w_none hq ⟨rfl, rfl, rfl, rfl, rfl, rfl⟩
  have m1 := s_140t (σ := nst σ L1 H1 mv) (n := n) hg h1
  have m2 := s_140t (σ := nst σ L1 H1 mv) (n := n) hg h2
  by_cases hcl : clP L H
  · rw [pI_t hcl] at hx
    rw [pI_f (fun z => z hcl)] at hm
    exact ⟨-5, _, _, (g_81_0 ⟨_, _, (s_86t h3 h1 h2), (br_f (by (try simp only [bI_0, vp_6, vp_9, vp_10, vp_12, vp_18, vp_30, vp_31, vp_50, vp_60, vp_144, vp_154, vp_180, vp_432, vp_3600]) <;> grind) (br_f (by (try simp only [bI_0, vp_6, vp_9, vp_10, vp_12, vp_18, vp_30, vp_31, vp_50, vp_60, vp_144, vp_154, vp_180, vp_432, vp_3600]) <;> grind) (br_t (by (try simp only [bI_0, vp_6, vp_9, vp_10, vp_12, vp_18, vp_30, vp_31, vp_50, vp_60, vp_144, vp_154, vp_180, vp_432, vp_3600]) <;> grind) (br_f (by (try simp only [bI_0, vp_6, vp_9, vp_10, vp_12, vp_18, vp_30, vp_31, vp_50, vp_60, vp_144, vp_154, vp_180, vp_432, vp_3600]) <;> grind) ⟨_, _, hx, (br_f (by (try simp only [bI_0, vp_6, vp_9, vp_10, vp_12, vp_18, vp_30, vp_31, vp_50, vp_60, vp_144, vp_154, vp_180, vp_432, vp_3600]) <;> grind) ⟨rfl, rfl⟩)⟩))))⟩), (g_153_0 ⟨_, _, m1, (br_f (by (try simp only [bI_0, vp_6, vp_9, vp_10, vp_12, vp_18, vp_30, vp_31, vp_50, vp_60, vp_144, vp_154, vp_180, vp_432, vp_3600]) <;> grind) ⟨_, _, m2, (br_f (by (try simp only [bI_0, vp_6, vp_9, vp_10, vp_12, vp_18, vp_30, vp_31, vp_50, vp_60, vp_144, vp_154, vp_180, vp_432, vp_3600]) <;> grind) (br_f (by (try simp only [bI_0, vp_6, vp_9, vp_10, vp_12, vp_18, vp_30, vp_31, vp_50, vp_60, vp_144, vp_154, vp_180, vp_432, vp_3600]) <;> grind) ⟨_, _, s_120, (br_f (by (try simp only [bI_0, vp_6, vp_9, vp_10, vp_12, vp_18, vp_30, vp_31, vp_50, vp_60, vp_144, vp_154, vp_180, vp_432, vp_3600]) <;> grind) (br_f (by (try simp only [bI_0, vp_6, vp_9, vp_10, vp_12, vp_18, vp_30, vp_31, vp_50, vp_60, vp_144, vp_154, vp_180, vp_432, vp_3600]) <;> grind) ⟨_, _, hm, (br_t (by (try simp only [bI_0, vp_6, vp_9, vp_10, vp_12, vp_18, vp_30, vp_31, vp_50, vp_60, vp_144, vp_154, vp_180, vp_432, vp_3600]) <;> grind) ⟨rfl, rfl⟩)⟩))⟩))⟩)⟩), hR.nst.mst⟩
  rw [pI_f hcl] at hx
  rw [pI_t hcl] at hm
  exact ⟨_, _, _, (g_81_0 ⟨_, _, (s_86t h3 h1 h2), (br_f (by (try simp only [bI_0, vp_6, vp_9, vp_10, vp_12, vp_18, vp_30, vp_31, vp_50, vp_60, vp_144, vp_154, vp_180, vp_432, vp_3600]) <;> grind) (br_f (by (try simp only [bI_0, vp_6, vp_9, vp_10, vp_12, vp_18, vp_30, vp_31, vp_50, vp_60, vp_144, vp_154, vp_180, vp_432, vp_3600]) <;> grind) (br_t (by (try simp only [bI_0, vp_6, vp_9, vp_10, vp_12, vp_18, vp_30, vp_31, vp_50, vp_60, vp_144, vp_154, vp_180, vp_432, vp_3600]) <;> grind) (br_f (by (try simp only [bI_0, vp_6, vp_9, vp_10, vp_12, vp_18, vp_30, vp_31, vp_50, vp_60, vp_144, vp_154, vp_180, vp_432, vp_3600]) <;> grind) ⟨_, _, hx, (br_t (by (try simp only [bI_0, vp_6, vp_9, vp_10, vp_12, vp_18, vp_30, vp_31, vp_50, vp_60, vp_144, vp_154, vp_180, vp_432, vp_3600]) <;> grind) ⟨_, _, (agX ex hl hk), ⟨rfl, rfl⟩⟩)⟩))))⟩), (g_153_0 ⟨_, _, m1, (br_f (by (try simp only [bI_0, vp_6, vp_9, vp_10, vp_12, vp_18, vp_30, vp_31, vp_50, vp_60, vp_144, vp_154, vp_180, vp_432, vp_3600]) <;> grind) ⟨_, _, m2, (br_f (by (try simp only [bI_0, vp_6, vp_9, vp_10, vp_12, vp_18, vp_30, vp_31, vp_50, vp_60, vp_144, vp_154, vp_180, vp_432, vp_3600]) <;> grind) (br_f (by (try simp only [bI_0, vp_6, vp_9, vp_10, vp_12, vp_18, vp_30, vp_31, vp_50, vp_60, vp_144, vp_154, vp_180, vp_432, vp_3600]) <;> grind) ⟨_, _, s_120, (br_f (by (try simp only [bI_0, vp_6, vp_9, vp_10, vp_12, vp_18, vp_30, vp_31, vp_50, vp_60, vp_144, vp_154, vp_180, vp_432, vp_3600]) <;> grind) (br_f (by (try simp only [bI_0, vp_6, vp_9, vp_10, vp_12, vp_18, vp_30, vp_31, vp_50, vp_60, vp_144, vp_154, vp_180, vp_432, vp_3600]) <;> grind) ⟨_, _, hm, (br_f (by (try simp only [bI_0, vp_6, vp_9, vp_10, vp_12, vp_18, vp_30, vp_31, vp_50, vp_60, vp_144, vp_154, vp_180, vp_432, vp_3600]) <;> grind) ⟨_, _, (agM hcl em hl hk), ⟨rfl, rfl⟩⟩)⟩))⟩))⟩)⟩), hR.nst.mst⟩
