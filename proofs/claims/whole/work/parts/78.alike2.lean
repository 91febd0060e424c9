/-! alike: the model, the pair -/
theorem ps3 {c v m : Int32} {P F : Prop} (hP : psP c v m → P) (hF : ¬ psP c v m → F) : ((c = 60 → ((v < m → P) ∧ (¬ v < m → F))) ∧ (¬ c = 60 → ((c = 62 → ((v ≤ m → F) ∧ (¬ v ≤ m → P))) ∧ (¬ c = 62 → ((v = m → P) ∧ (¬ v = m → F)))))) := by
  refine ⟨fun c1 => ⟨fun q => hP (Or.inl ⟨c1, q⟩), fun q => hF (fun z => z.elim (fun y => q y.2) (fun y => y.elim (fun x => x.1 c1) (fun x => x.1 c1)))⟩, fun c1 => ⟨fun c2 => ⟨fun q => hF (fun z => z.elim (fun y => c1 y.1) (fun y => y.elim (fun x => absurd q (Int32.not_le.mpr x.2.2)) (fun x => x.2.1 c2))), fun q => hP (Or.inr (Or.inl ⟨c1, c2, Int32.not_le.mp q⟩))⟩, fun c2 => ⟨fun q => hP (Or.inr (Or.inr ⟨c1, c2, q⟩)), fun q => hF (fun z => z.elim (fun y => c1 y.1) (fun y => y.elim (fun x => c2 x.2.1) (fun x => q x.2.2)))⟩⟩⟩
theorem Spells.bd {f : Nat → Int32} {w n : Nat} {ps dl : Nat → Nat} (h : Spells f w n ps dl) : ∀ j t, t + j + 1 = n → ps t + 2 + dl t ≤ w ∧ (0 < j → ps t + 3 + dl t ≤ w) := by
  intro j
  induction j with
  | zero =>
    intro t ht
    have := (h.2 t (by omega)).2.2.2.2.2.2 (by omega)
    omega
  | succ j ih =>
    intro t ht
    have h1 := ((h.2 t (by omega)).2.2.2.2.2.1 (by omega)).2
    have h2 := (ih (t + 1) (by omega)).1
    omega
def RuM (τ : St) (w n : Nat) (ps dl : Nat → Nat) : Prop := w ≤ 50 ∧ 0 < n ∧ τ.1 11 15 = nI w ∧ Spells (τ.1 63) w n ps dl ∧ (∀ t, t < n → τ.1 39 t = τ.1 63 (ps t) ∧ τ.1 40 t = τ.1 63 (ps t + 1) ∧ τ.1 41 t = digV (τ.1 63) (ps t + 2) (dl t)) ∧ (∀ t, t + 1 < n → τ.1 42 (t + 1) = if τ.1 63 (ps t + 2 + dl t) = 124 then τ.1 42 t + 1 else τ.1 42 t)
theorem RuM.bar {τ : St} {w n : Nat} {ps dl : Nat → Nat} (h : RuM τ w n ps dl) {t : Nat} (ht : t + 1 < n) : kbS τ t ↔ τ.1 63 (ps t + 2 + dl t) = 124 := by
  have e := h.2.2.2.2.2 t ht
  unfold kbS
  by_cases q : τ.1 63 (ps t + 2 + dl t) = 124
  · rw [if_pos q] at e
    rw [e]
    exact ⟨fun _ => q, fun _ z => by grind⟩
  · rw [if_neg q] at e
    exact ⟨fun z => absurd e z, fun z => absurd z q⟩
theorem s_157 {τ : St} {g w n l k : Nat} {ps dl : Nat → Nat} {L H : Nat → Int32} (hR : Rel τ) (hg : GF τ g) (hu : RuM τ w n ps dl) (hl : l < 144) (hk : k < 144) (pl : 0 < τ.1 30 l) (pk : 0 < τ.1 30 k) (ha : (∃ t, t < n ∧ τ.1 39 t = 121) → ¬ clP L H ∧ ∀ u, u < 144 → τ.1 88 u = L u ∧ τ.1 89 u = H u) :
    Ret 157 [.ref 11, .int (nI l), .int (nI k)] τ [.int (pI (evK (kpS τ L H l k) (kbS τ) (n - 1) 0 True))] τ := by
  obtain ⟨h1, h2, h3, h4, h5, h6⟩ := id hu
  -- behind all tests
  have last : ∀ v q, w ≤ q → q ≤ 60 → Go 157 5 [.ref 11, .int (nI l), .int (nI k), .int v, .int (nI q), .null, .null, .null] [] τ [.int 0] τ := by
    intro v q hq hq2
    refine g_157_5 (br_f ?_ ⟨rfl, rfl⟩)
    rw [h3, nI_ltI (by omega) (by omega)]
    omega
  have go : ∀ j t so, t + j + 1 = n → Go 157 5 [.ref 11, .int (nI l), .int (nI k), .int (pI so), .int (nI (ps t)), .null, .null, .null] [] τ [.int (pI (evK (kpS τ L H l k) (kbS τ) j t so))] τ := by
    intro j
    induction j with
    | zero =>
      intro t so hj
      have hb := (h4.bd 0 t hj).1
      obtain ⟨t1, t2, t3, t4, t5, t6, t7⟩ := h4.2 t (by omega)
      have hw := t7 (by omega)
      obtain ⟨e39, e40, e41⟩ := h5 t (by omega)
      have ep : (nI (ps t)).toNatClampNeg = ps t := clN (by omega)
      have ep1 : (nI (ps t) + 1).toNatClampNeg = ps t + 1 := by rw [nI_S]; exact clN (by omega)
      have ep2 : nI (ps t) + 2 = nI (ps t + 2) := by rw [show (2 : Int32) = nI 2 from rfl, nI_add]
      have vp1 : vp_in (nI (ps t) + 1) 50 := by rw [nI_S]; exact vp_in_nI (by omega) (by decide)
      have lt : nI (ps t) < τ.1 11 15 := by rw [h3]; exact (nI_ltI (by omega) (by omega)).mpr (by omega)
      refine g_157_5 (br_t lt ⟨vp_in_nI (by omega) (by decide), ?_⟩)
      rw [ep, ep1, ep2, ← e39]
      refine ⟨_, _, s_156 (L := L) (H := H) hR hg (by rw [e39]; exact t1) hl hk pl pk (fun e => ha ⟨t, by omega, e⟩), vp1, ?_⟩
      rw [← e40]
      refine loopN (dl t) (fun d => Go 157 46 [.ref 11, .int (nI l), .int (nI k), .int (pI so), .int (nI (ps t + 2 + d)), .int (fvF τ L H (τ.1 39 t) l k), .int (τ.1 40 t), .int (digV (τ.1 63) (ps t + 2) d)] [] τ [.int (pI (evK (kpS τ L H l k) (kbS τ) 0 t so))] τ) (fun d hd h => ?_) ?_ 0 (by omega)
      · have ed : (nI (ps t + 2 + d)).toNatClampNeg = ps t + 2 + d := clN (by omega)
        refine g_157_46 (br_t (by rw [h3]; exact (nI_ltI (by omega) (by omega)).mpr (by omega)) ⟨vp_in_nI (by omega) (by decide), _, _, s_120, br_f ?_ ?_⟩)
        · rw [ed]
          exact fun z => bI_0.mp z (t5 d hd)
        · rw [ed, nI_S]
          have e : (10 : Int32) * digV (τ.1 63) (ps t + 2) d + τ.1 63 (ps t + 2 + d) - 48 = digV (τ.1 63) (ps t + 2) (d + 1) := by
            show _ = digV (τ.1 63) (ps t + 2) d * 10 + (τ.1 63 (ps t + 2 + d) - 48)
            grind
          rw [e]
          exact h
      · refine g_157_46 (br_f (by rw [h3, hw]; exact Int32.lt_irrefl) ?_)
        rw [nI_S, ← e41]
        show (pI so = 0 → Go 157 5 _ [] τ [.int (pI (so ∧ kpS τ L H l k t))] τ) ∧ _
        by_cases q : so
        · refine br_f (by rw [pI_t q]; decide) (ps3 (fun p => ?_) (fun p => ?_))
          · exact br_t (by rw [h3, hw]) ⟨by rw [show pI (evK (kpS τ L H l k) (kbS τ) 0 t so) = 1 from pI_t ⟨q, p⟩], rfl⟩
          · rw [show pI (evK (kpS τ L H l k) (kbS τ) 0 t so) = 0 from pI_f (fun z => p z.2)]
            exact last 0 _ (by omega) (by omega)
        · refine br_t (pI_f q) ?_
          rw [pI_f (fun z => q z.1)]
          exact last 0 _ (by omega) (by omega)
    | succ j ih =>
      intro t so hj
      have hb := (h4.bd (j + 1) t hj).2 (by omega)
      obtain ⟨t1, t2, t3, t4, t5, t6, t7⟩ := h4.2 t (by omega)
      obtain ⟨hsep, hps⟩ := t6 (by omega)
      have hbar := hu.bar (t := t) (by omega)
      obtain ⟨e39, e40, e41⟩ := h5 t (by omega)
      have ep : (nI (ps t)).toNatClampNeg = ps t := clN (by omega)
      have ep1 : (nI (ps t) + 1).toNatClampNeg = ps t + 1 := by rw [nI_S]; exact clN (by omega)
      have ep2 : nI (ps t) + 2 = nI (ps t + 2) := by rw [show (2 : Int32) = nI 2 from rfl, nI_add]
      have vp1 : vp_in (nI (ps t) + 1) 50 := by rw [nI_S]; exact vp_in_nI (by omega) (by decide)
      have lt : nI (ps t) < τ.1 11 15 := by rw [h3]; exact (nI_ltI (by omega) (by omega)).mpr (by omega)
      refine g_157_5 (br_t lt ⟨vp_in_nI (by omega) (by decide), ?_⟩)
      rw [ep, ep1, ep2, ← e39]
      refine ⟨_, _, s_156 (L := L) (H := H) hR hg (by rw [e39]; exact t1) hl hk pl pk (fun e => ha ⟨t, by omega, e⟩), vp1, ?_⟩
      rw [← e40]
      refine loopN (dl t) (fun d => Go 157 46 [.ref 11, .int (nI l), .int (nI k), .int (pI so), .int (nI (ps t + 2 + d)), .int (fvF τ L H (τ.1 39 t) l k), .int (τ.1 40 t), .int (digV (τ.1 63) (ps t + 2) d)] [] τ [.int (pI (evK (kpS τ L H l k) (kbS τ) (j + 1) t so))] τ) (fun d hd h => ?_) ?_ 0 (by omega)
      · have ed : (nI (ps t + 2 + d)).toNatClampNeg = ps t + 2 + d := clN (by omega)
        refine g_157_46 (br_t (by rw [h3]; exact (nI_ltI (by omega) (by omega)).mpr (by omega)) ⟨vp_in_nI (by omega) (by decide), _, _, s_120, br_f ?_ ?_⟩)
        · rw [ed]
          exact fun z => bI_0.mp z (t5 d hd)
        · rw [ed, nI_S]
          have e : (10 : Int32) * digV (τ.1 63) (ps t + 2) d + τ.1 63 (ps t + 2 + d) - 48 = digV (τ.1 63) (ps t + 2) (d + 1) := by
            show _ = digV (τ.1 63) (ps t + 2) d * 10 + (τ.1 63 (ps t + 2 + d) - 48)
            grind
          rw [e]
          exact h
      · have eq : (nI (ps t + 2 + dl t)).toNatClampNeg = ps t + 2 + dl t := clN (by omega)
        have ltq : nI (ps t + 2 + dl t) < τ.1 11 15 := by rw [h3]; exact (nI_ltI (by omega) (by omega)).mpr (by omega)
        have neq : ¬ nI (ps t + 2 + dl t) = τ.1 11 15 := by
          rw [h3]
          exact nI_ne (by omega) (by omega) (by omega)
        have ihT := ih (t + 1) True (by omega)
        rw [pI_t trivial, hps] at ihT
        have ihS := ih (t + 1) (so ∧ kpS τ L H l k t) (by omega)
        rw [hps] at ihS
        have e3 : ps t + 2 + dl t + 1 = ps t + 3 + dl t := by omega
        refine g_157_46 (br_t ltq ⟨vp_in_nI (by omega) (by decide), _, _, s_120, br_t ?_ ?_⟩)
        · rw [eq]
          exact bI_f (fun z => (sep_ne hsep).2.2.1 z)
        · rw [eq, nI_S, e3, ← e41]
          by_cases hbr : τ.1 63 (ps t + 2 + dl t) = 124
          · have e : evK (kpS τ L H l k) (kbS τ) (j + 1) t so ↔ (so ∧ kpS τ L H l k t) ∨ evK (kpS τ L H l k) (kbS τ) j (t + 1) True := by
              conv => lhs; unfold evK
              exact ⟨fun z => z.elim (fun y => y.2) (fun y => absurd (hbar.mpr hbr) y.1), fun z => Or.inl ⟨hbar.mpr hbr, z⟩⟩
            rw [pI_iff e]
            have noT : ¬ (so ∧ kpS τ L H l k t) → Go 157 5 [.ref 11, .int (nI l), .int (nI k), .int 1, .int (nI (ps t + 3 + dl t)), .null, .null, .null] [] τ [.int (pI ((so ∧ kpS τ L H l k t) ∨ evK (kpS τ L H l k) (kbS τ) j (t + 1) True))] τ := by
              intro q
              have e2 : ((so ∧ kpS τ L H l k t) ∨ evK (kpS τ L H l k) (kbS τ) j (t + 1) True) ↔ evK (kpS τ L H l k) (kbS τ) j (t + 1) True := ⟨fun z => z.elim (fun y => absurd y q) id, Or.inr⟩
              rw [pI_iff e2]
              exact ihT
            by_cases q : so
            · exact br_f (by rw [pI_t q]; decide) (ps3 (fun p => br_f neq (br_t hbr ⟨by rw [pI_t (Or.inl ⟨q, p⟩)], rfl⟩)) (fun p => br_t ltq (br_t hbr (noT (fun z => p z.2)))))
            · exact br_t (pI_f q) (br_t ltq (br_t hbr (noT (fun z => q z.1))))
          · have e : evK (kpS τ L H l k) (kbS τ) (j + 1) t so ↔ evK (kpS τ L H l k) (kbS τ) j (t + 1) (so ∧ kpS τ L H l k t) := by
              conv => lhs; unfold evK
              exact ⟨fun z => z.elim (fun y => absurd (hbar.mp y.1) hbr) (fun y => y.2), fun z => Or.inr ⟨fun y => hbr (hbar.mp y), z⟩⟩
            rw [pI_iff e]
            by_cases q : so
            · refine br_f (by rw [pI_t q]; decide) (ps3 (fun p => br_f neq (br_f hbr ?_)) (fun p => br_t ltq (br_f hbr ?_)))
              · rw [pI_t (show so ∧ kpS τ L H l k t from ⟨q, p⟩)] at ihS
                exact ihS
              · rw [pI_f (show ¬ (so ∧ kpS τ L H l k t) from fun z => p z.2)] at ihS
                exact ihS
            · rw [pI_f (show ¬ (so ∧ kpS τ L H l k t) from fun z => q z.1)] at ihS
              exact br_t (pI_f q) (br_t ltq (br_f hbr ihS))
  have g0 := go (n - 1) 0 True (by omega)
  rw [h4.1, pI_t trivial] at g0
  exact g_157_0 g0
/-! whether the rule can be asked -/
theorem s_154 {τ : St} {w : Nat} (hw : w ≤ 50) (ew : τ.1 11 15 = nI w) : Ret 154 [.ref 11] τ [.int (pI (∃ k, k < w ∧ τ.1 63 k = 121))] τ := by
  have go : ∀ i, i ≤ w → Go 154 4 [.ref 11, .int (pI (∃ k, k < i ∧ τ.1 63 k = 121)), .int (nI i)] [] τ [.int (pI (∃ k, k < w ∧ τ.1 63 k = 121))] τ := by
    refine loopN w _ (fun i hi h => ?_) ?_
    · have ei : (nI i).toNatClampNeg = i := clN (by omega)
      refine g_154_4 (br_t (by rw [ew]; exact (nI_ltI (by omega) (by omega)).mpr hi) ?_)
      rw [ei, nI_S]
      by_cases q : ∃ k, k < i ∧ τ.1 63 k = 121
      · have q2 : ∃ k, k < i + 1 ∧ τ.1 63 k = 121 := by obtain ⟨k, h1, h2⟩ := q; exact ⟨k, by omega, h2⟩
        rw [pI_t q2] at h
        exact br_f (by rw [pI_t q]; decide) h
      · by_cases p : τ.1 63 i = 121
        · rw [pI_t (show ∃ k, k < i + 1 ∧ τ.1 63 k = 121 from ⟨i, by omega, p⟩)] at h
          exact br_t (pI_f q) ⟨vp_in_nI (by omega) (by decide), br_t p h⟩
        · have q2 : ¬ ∃ k, k < i + 1 ∧ τ.1 63 k = 121 := by
            rintro ⟨k, h1, h2⟩
            exact q ⟨k, Nat.lt_of_le_of_ne (by omega) (fun e => p (e ▸ h2)), h2⟩
          rw [pI_f q2] at h
          exact br_t (pI_f q) ⟨vp_in_nI (by omega) (by decide), br_f p h⟩
    · exact g_154_4 (br_f (by rw [ew]; exact Int32.lt_irrefl) ⟨pI_01, rfl, rfl⟩)
  have := go 0 (by omega)
  rw [pI_f (fun ⟨k, h, _⟩ => by omega)] at this
  exact g_154_0 this
/-- the same rule and told ages -/
def RbA (τ σ : St) : Prop := NtM τ σ ∧ τ.1 11 15 = σ.1 11 15 ∧ τ.1 63 = σ.1 63
theorem bar_both {σ : St} (hR : Rel σ) : ∃ (r : Int32) (σ1 : St) (L H : Nat → Int32), Ret 85 [.ref 10] σ [.int r] σ1 ∧ (σ1 = σ ∨ ∃ L1 H1 mv, σ1 = nst σ L1 H1 mv) ∧
    (∀ τ, RbA τ σ → ∃ τ1, Ret 155 [.ref 11] τ [.int r] τ1 ∧ (τ1 = τ ∨ ∃ L2 H2, τ1 = mst τ L2 H2) ∧ (r = 0 → (∃ t, t < (σ.1 6 6).toNatClampNeg ∧ σ.1 39 t = 121) → ¬ clP L H ∧ ∀ u, u < 144 → τ1.1 88 u = L u ∧ τ1.1 89 u = H u)) ∧
    (r = 0 ∨ r < 0) ∧ (r = 0 → 0 < (σ.1 6 6).toNatClampNeg) ∧ (r = 0 → (∃ t, t < (σ.1 6 6).toNatClampNeg ∧ σ.1 39 t = 121) → ∀ u, u < 154 → σ1.1 14 u = L u ∧ σ1.1 15 u = H u) := by
  obtain ⟨hS, hG, hH, hL, hP, hM, hA, hT, hD, hF, hU⟩ := id hR
  obtain ⟨w, n, ps, dl, hw, ew, ets, hnw, hn, hsp, hrow, h42, h42s, hb0, hbs, hbb, haa, ha1, ha2, heb⟩ := hU
  have en : (σ.1 6 6).toNatClampNeg = n := by rw [ets]; exact clN (by omega)
  rw [en]
  obtain ⟨L, H, hq⟩ := hR.net0 (-1)
  by_cases hz : w = 0
  · have hn0 : n = 0 := hnw.mpr hz
    refine ⟨-3, σ, L, H, g_85_0 (br_t (hb0 hn0) ⟨rfl, rfl⟩), Or.inl rfl, fun τ hτ => ⟨τ, g_155_0 (br_t (by rw [hτ.2.1, ew, hz]; rfl) ⟨rfl, rfl⟩), Or.inl rfl, fun z => absurd z (by decide)⟩, Or.inr (by decide), fun z => absurd z (by decide), fun z => absurd z (by decide)⟩
  have hn0 : 0 < n := Nat.pos_of_ne_zero (fun z => hz (hnw.mp z))
  have nb : ¬ σ.1 6 7 = 0 := by
    obtain ⟨b, hb, eb⟩ := hbb (n - 1) (by omega)
    rw [hbs (n - 1) (by omega), eb, nI_S]
    exact fun z => by have := (nI_0iff (by omega)).mp z; omega
  have nw : ¬ σ.1 11 15 = 0 := by
    rw [ew]
    exact fun z => hz ((nI_0iff (by omega)).mp z)
  by_cases hy : σ.1 6 8 = 0
  · have ny : ¬ ∃ t, t < n ∧ σ.1 39 t = 121 := fun z => by have := ha1.mpr z; rw [hy] at this; exact absurd this (by decide)
    have ny2 : ¬ ∃ k, k < w ∧ σ.1 63 k = 121 := fun z => by have := ha2.mpr z; rw [hy] at this; exact absurd this (by decide)
    refine ⟨0, σ, L, H, g_85_0 (br_f nb (br_t hy ⟨rfl, rfl⟩)), Or.inl rfl, fun τ hτ => ⟨τ, ?_, Or.inl rfl, fun _ z => absurd z ny⟩, Or.inl rfl, fun _ => hn0, fun _ z => absurd z ny⟩
    have m154 := s_154 (τ := τ) hw (by rw [hτ.2.1]; exact ew)
    rw [hτ.2.2, pI_f ny2] at m154
    exact g_155_0 (br_f (by rw [hτ.2.1]; exact nw) ⟨_, _, m154, br_t rfl ⟨rfl, rfl⟩⟩)
  have h1 : σ.1 6 8 = 1 := haa.elim (fun z => absurd z hy) id
  have yy := ha2.mp h1
  obtain ⟨L1, H1, mv, hx, ex⟩ := net_x (τ := σ) hR hq ⟨rfl, rfl, rfl, rfl⟩
  have mm : ∀ τ, RbA τ σ → ∃ L2 H2, Ret 183 [.ref 11, .int (-6)] τ [.int (pI (¬ clP L H))] (mst τ L2 H2) ∧ ∀ u, u < 154 → L2 u = L u ∧ H2 u = H u := fun τ hτ => net_m (τ := τ) hR w_none hq hτ.1
  have pre : ∀ τ, RbA τ σ → Ret 154 [.ref 11] τ [.int 1] τ := by
    intro τ hτ
    have m154 := s_154 (τ := τ) hw (by rw [hτ.2.1]; exact ew)
    rw [hτ.2.2, pI_t yy] at m154
    exact m154
  by_cases hc : clP L H
  · rw [pI_t hc] at hx
    refine ⟨-5, nst σ L1 H1 mv, L, H, g_85_0 (br_f nb (br_f hy ⟨_, _, hx, br_f (by decide) ⟨rfl, rfl⟩⟩)), Or.inr ⟨_, _, _, rfl⟩, fun τ hτ => ?_, Or.inr (by decide), fun z => absurd z (by decide), fun z => absurd z (by decide)⟩
    obtain ⟨L2, H2, hm, em⟩ := mm τ hτ
    rw [pI_f (fun z => z hc)] at hm
    exact ⟨mst τ L2 H2, g_155_0 (br_f (by rw [hτ.2.1]; exact nw) ⟨_, _, pre τ hτ, br_f (by decide) ⟨_, _, hm, br_t rfl ⟨rfl, rfl⟩⟩⟩), Or.inr ⟨_, _, rfl⟩, fun z => absurd z (by decide)⟩
  · rw [pI_f hc] at hx
    refine ⟨0, nst σ L1 H1 mv, L, H, g_85_0 (br_f nb (br_f hy ⟨_, _, hx, br_t rfl ⟨rfl, rfl⟩⟩)), Or.inr ⟨_, _, _, rfl⟩, fun τ hτ => ?_, Or.inl rfl, fun _ => hn0, fun _ _ u hu => ex u hu⟩
    obtain ⟨L2, H2, hm, em⟩ := mm τ hτ
    rw [pI_t hc] at hm
    refine ⟨mst τ L2 H2, g_155_0 (br_f (by rw [hτ.2.1]; exact nw) ⟨_, _, pre τ hτ, br_f (by decide) ⟨_, _, hm, br_f (by decide) ⟨rfl, rfl⟩⟩⟩), Or.inr ⟨_, _, rfl⟩, fun _ _ => ⟨hc, fun u hu => ?_⟩⟩
    rw [mst_88 hu, mst_89 hu]
    exact em u (by omega)
theorem Rel.ru {σ : St} (hR : Rel σ) (h : 0 < (σ.1 6 6).toNatClampNeg) : RuC σ (σ.1 6 6).toNatClampNeg ∧ ∃ w ps dl, RuM σ w (σ.1 6 6).toNatClampNeg ps dl := by
  obtain ⟨hS, hG, hH, hL, hP, hM, hA, hT, hD, hF, hU⟩ := id hR
  obtain ⟨w, n, ps, dl, hw, ew, ets, hnw, hn, hsp, hrow, h42, h42s, hb0, hbs, hbb, haa, ha1, ha2, heb⟩ := hU
  have en : (σ.1 6 6).toNatClampNeg = n := by rw [ets]; exact clN (by omega)
  rw [en] at h ⊢
  refine ⟨⟨hn, h, ets, fun t ht => ?_, h42 h, hbs, hbb, fun t ht => ?_⟩, w, ps, dl, hw, h, ew, hsp, hrow, h42s⟩
  · rw [(hrow t ht).1]
    exact (hsp.2 t ht).1
  · rw [h42s t ht]
    split
    · exact Or.inr rfl
    · exact Or.inl rfl
theorem p_alike {σ : St} {a b : Int32} (hR : Rel σ) : PairI 82 158 [.int a, .int b] σ := by
  obtain ⟨g, hg⟩ := hR.gf
  rcases (Classical.em (¬ a = b ∧ lnP σ a ∧ lnP σ b)).symm with h0 | h0
  · have hx : Ret 82 [.ref 10, .int a, .int b] σ [.int (-1)] σ := (g_82_0 ⟨_, _, (s_86f h0), (br_t (by (try simp only [bI_0, vp_6, vp_9, vp_10, vp_12, vp_18, vp_30, vp_31, vp_50, vp_60, vp_144, vp_154, vp_180, vp_432, vp_3600]) <;> grind) ⟨rfl, rfl⟩)⟩)
    refine ⟨-1, σ, σ, hx, ?_, hR⟩
    rcases (Classical.em (lnP σ a)).symm with h1 | h1
    · exact (g_158_0 ⟨_, _, (s_140f hg h1), (br_t (by (try simp only [bI_0, vp_6, vp_9, vp_10, vp_12, vp_18, vp_30, vp_31, vp_50, vp_60, vp_144, vp_154, vp_180, vp_432, vp_3600]) <;> grind) ⟨rfl, rfl⟩)⟩)
    rcases (Classical.em (lnP σ b)).symm with h2 | h2
    · exact (g_158_0 ⟨_, _, (s_140t hg h1), (br_f (by (try simp only [bI_0, vp_6, vp_9, vp_10, vp_12, vp_18, vp_30, vp_31, vp_50, vp_60, vp_144, vp_154, vp_180, vp_432, vp_3600]) <;> grind) ⟨_, _, (s_140f hg h2), (br_t (by (try simp only [bI_0, vp_6, vp_9, vp_10, vp_12, vp_18, vp_30, vp_31, vp_50, vp_60, vp_144, vp_154, vp_180, vp_432, vp_3600]) <;> grind) ⟨rfl, rfl⟩)⟩)⟩)
    have h3 : a = b := Classical.byContradiction fun z => h0 ⟨z, h1, h2⟩
    exact (g_158_0 ⟨_, _, (s_140t hg h1), (br_f (by (try simp only [bI_0, vp_6, vp_9, vp_10, vp_12, vp_18, vp_30, vp_31, vp_50, vp_60, vp_144, vp_154, vp_180, vp_432, vp_3600]) <;> grind) ⟨_, _, (s_140t hg h2), (br_f (by (try simp only [bI_0, vp_6, vp_9, vp_10, vp_12, vp_18, vp_30, vp_31, vp_50, vp_60, vp_144, vp_154, vp_180, vp_432, vp_3600]) <;> grind) (br_t (by (try simp only [bI_0, vp_6, vp_9, vp_10, vp_12, vp_18, vp_30, vp_31, vp_50, vp_60, vp_144, vp_154, vp_180, vp_432, vp_3600]) <;> grind) ⟨rfl, rfl⟩))⟩)⟩)
  obtain ⟨h3, h1, h2⟩ := h0
  obtain ⟨l, hl, rfl⟩ := inR (x := a) (m := 144) (n := 144) rfl (by decide) h1.1 h1.2.1
  obtain ⟨k, hk, rfl⟩ := inR (x := b) (m := 144) (n := 144) rfl (by decide) h2.1 h2.2.1
  have pl := (lnP_nI hl).mp h1
  have pk := (lnP_nI hk).mp h2
  obtain ⟨r, σ1, L, H, x85, f1, mbar, hr, hpos, hage⟩ := bar_both hR
  have hR1 : Rel σ1 := by
    rcases f1 with rfl | ⟨L1, H1, mv, rfl⟩
    · exact hR
    · exact hR.nst
  have hA : RbA σ1 σ := by
    rcases f1 with rfl | ⟨L1, H1, mv, rfl⟩
    · exact ⟨⟨rfl, rfl, rfl, rfl, rfl, rfl⟩, rfl, rfl⟩
    · exact ⟨⟨rfl, rfl, rfl, rfl, rfl, rfl⟩, rfl, rfl⟩
  have m1 : Ret 140 [.ref 11, .int (nI l)] σ1 [.int 1] σ1 := by
    rcases f1 with rfl | ⟨L1, H1, mv, rfl⟩
    · exact s_140t hg h1
    · exact s_140t (σ := nst σ L1 H1 mv) (n := g) hg h1
  have m2 : Ret 140 [.ref 11, .int (nI k)] σ1 [.int 1] σ1 := by
    rcases f1 with rfl | ⟨L1, H1, mv, rfl⟩
    · exact s_140t hg h2
    · exact s_140t (σ := nst σ L1 H1 mv) (n := g) hg h2
  obtain ⟨τ1, m155, f2, hage2⟩ := mbar σ1 hA
  have hR2 : Rel τ1 := by
    rcases f2 with rfl | ⟨L2, H2, rfl⟩
    · exact hR1
    · exact hR1.mst
  rcases hr.symm with hr | hr
  · have nz : ¬ r = 0 := fun z => by rw [z] at hr; exact absurd hr (by decide)
    exact ⟨r, _, _, g_82_0 ⟨_, _, s_86t h3 h1 h2, br_f (by decide) ⟨_, _, x85, br_f nz ⟨rfl, rfl⟩⟩⟩, g_158_0 ⟨_, _, m1, br_f (by decide) ⟨_, _, m2, br_f (by decide) (br_f h3 ⟨_, _, m155, br_t hr ⟨rfl, rfl⟩⟩)⟩⟩, hR2⟩
  subst hr
  have hpos := hpos rfl
  obtain ⟨ruc, w, ps, dl, rum⟩ := hR.ru hpos
  have xk : Ret 12 [.ref 2, .int (nI l), .int (nI k)] σ1 [.int (pI (evK (kpS σ L H l k) (kbS σ) ((σ.1 6 6).toNatClampNeg - 1) 0 True))] σ1 := by
    rcases f1 with rfl | ⟨L1, H1, mv, rfl⟩
    · exact s_12 ruc hl hk (hage rfl)
    · exact s_12 (τ := nst σ L1 H1 mv) ruc hl hk (hage rfl)
  have mk : Ret 157 [.ref 11, .int (nI l), .int (nI k)] τ1 [.int (pI (evK (kpS σ L H l k) (kbS σ) ((σ.1 6 6).toNatClampNeg - 1) 0 True))] τ1 := by
    rcases f1 with rfl | ⟨L1, H1, mv, rfl⟩
    · rcases f2 with rfl | ⟨L2, H2, rfl⟩
      · exact s_157 hR hg rum hl hk pl pk (hage2 rfl)
      · exact s_157 (τ := mst σ1 L2 H2) hR2 hg rum hl hk pl pk (hage2 rfl)
    · rcases f2 with rfl | ⟨L2, H2, rfl⟩
      · exact s_157 (τ := nst σ L1 H1 mv) hR1 hg rum hl hk pl pk (hage2 rfl)
      · exact s_157 (τ := mst (nst σ L1 H1 mv) L2 H2) hR2 hg rum hl hk pl pk (hage2 rfl)
  have n0 : ¬ (0 : Int32) < 0 := by decide
  by_cases q : evK (kpS σ L H l k) (kbS σ) ((σ.1 6 6).toNatClampNeg - 1) 0 True
  · rw [pI_t q] at xk mk
    exact ⟨1, _, _, g_82_0 ⟨_, _, s_86t h3 h1 h2, br_f (by decide) ⟨_, _, x85, br_t rfl ⟨_, _, xk, br_f (by decide) ⟨rfl, rfl⟩⟩⟩⟩, g_158_0 ⟨_, _, m1, br_f (by decide) ⟨_, _, m2, br_f (by decide) (br_f h3 ⟨_, _, m155, br_f n0 ⟨_, _, mk, br_f (by decide) ⟨rfl, rfl⟩⟩⟩)⟩⟩, hR2⟩
  · rw [pI_f q] at xk mk
    exact ⟨0, _, _, g_82_0 ⟨_, _, s_86t h3 h1 h2, br_f (by decide) ⟨_, _, x85, br_t rfl ⟨_, _, xk, br_t rfl ⟨rfl, rfl⟩⟩⟩⟩, g_158_0 ⟨_, _, m1, br_f (by decide) ⟨_, _, m2, br_f (by decide) (br_f h3 ⟨_, _, m155, br_f n0 ⟨_, _, mk, br_t rfl ⟨rfl, rfl⟩⟩⟩)⟩⟩, hR2⟩
