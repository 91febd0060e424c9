/-! the pairs chain, broken -/
theorem rkc_gap {f : Nat → Int32} {a : Nat} : ∀ k, (∀ l, a ≤ l → l < a + k → f l ≤ 0) → rkc f (a + k) = rkc f a
  | 0, _ => rfl
  | k + 1, h => by
    have ih := rkc_gap (f := f) (a := a) k (fun l h1 h2 => h l h1 (by omega))
    show rkc f (a + k) + (if f (a + k) ≤ 0 then 0 else 1) = _
    rw [ih, if_pos (h (a + k) (by omega) (by omega))]
    rfl
theorem Rel.ranks {σ : St} (hR : Rel σ) : ∃ (m : Nat) (rk : Nat → Nat), m ≤ 60 ∧ σ.1 4 9 = nI m ∧ (∀ i, i < m → rk i < 144 ∧ σ.1 33 i = nI (rk i)) ∧ (∀ i j, i < j → j < m → rk i < rk j) ∧ (∀ i, i < m → 0 < σ.1 30 (rk i)) ∧ (∀ l, l < 144 → 0 < σ.1 30 l → ∃ i, i < m ∧ rk i = l) ∧ rkc (σ.1 30) 144 = m ∧ ∀ o i, i < m → rkr (σ.1 30) o 144 i = nI (rk i) := by
  obtain ⟨hS, hG, hH, hL, hP, hM, hA, hT, hD, hF, hU⟩ := hR
  obtain ⟨n, hn, _, h30, _, m, hm, elc, h1, h2, h3⟩ := hH
  have gl : ∀ l, gCt (σ.1 27) (nI l) n ≤ 60 := fun l => Nat.le_trans (gCt_le n) hn
  have pos : ∀ l, l < 144 → (0 < σ.1 30 l ↔ 0 < gCt (σ.1 27) (nI l) n) := by
    intro l hl
    rw [h30 l hl, ← Int32.not_le, nI_pos_iff (by have := gl l; omega)]
  have r1 : ∀ i, i < m → (σ.1 33 i).toNatClampNeg < 144 ∧ σ.1 33 i = nI (σ.1 33 i).toNatClampNeg := by
    intro i hi
    obtain ⟨l, hl, e, _⟩ := h1 i hi
    rw [e, clN (by omega)]
    exact ⟨hl, rfl⟩
  have r2 : ∀ i j, i < j → j < m → (σ.1 33 i).toNatClampNeg < (σ.1 33 j).toNatClampNeg := by
    intro i j hij hj
    have h := h2 i j hij hj
    obtain ⟨a1, a2⟩ := r1 i (by omega)
    obtain ⟨b1, b2⟩ := r1 j hj
    rw [a2, b2] at h
    exact (nI_ltI (by omega) (by omega)).mp h
  have r3 : ∀ i, i < m → 0 < σ.1 30 (σ.1 33 i).toNatClampNeg := by
    intro i hi
    obtain ⟨l, hl, e, hp⟩ := h1 i hi
    rw [e, clN (by omega)]
    exact (pos l hl).mpr hp
  have r4 : ∀ l, l < 144 → 0 < σ.1 30 l → ∃ i, i < m ∧ (σ.1 33 i).toNatClampNeg = l := by
    intro l hl hp
    obtain ⟨i, hi, e⟩ := h3 l hl ((pos l hl).mp hp)
    exact ⟨i, hi, by rw [e]; exact clN (by omega)⟩
  generalize hrk : (fun i => (σ.1 33 i).toNatClampNeg) = rk at *
  have er : ∀ i, (σ.1 33 i).toNatClampNeg = rk i := fun i => by rw [← hrk]
  simp only [er] at r1 r2 r3 r4
  have r5 : ∀ i, i < m → rkc (σ.1 30) (rk i) = i := by
    intro i
    induction i with
    | zero =>
      intro hi
      have := rkc_gap (f := σ.1 30) (a := 0) (rk 0) (fun l _ hl => ?_)
      · rw [Nat.zero_add] at this; exact this
      · apply Classical.byContradiction
        intro z
        obtain ⟨j, hj, e⟩ := r4 l (by have := (r1 0 hi).1; omega) (Int32.not_le.mp z)
        rcases Nat.eq_zero_or_pos j with w | w
        · subst w; omega
        · have := r2 0 j w hj; omega
    | succ i ih =>
      intro hi
      have h1 := ih (by omega)
      have h2 := r2 i (i + 1) (by omega) hi
      have h3 := rkc_gap (f := σ.1 30) (a := rk i + 1) (rk (i + 1) - (rk i + 1)) (fun l h4 h5 => ?_)
      · rw [show rk i + 1 + (rk (i + 1) - (rk i + 1)) = rk (i + 1) by omega] at h3
        rw [h3]
        show rkc (σ.1 30) (rk i) + (if σ.1 30 (rk i) ≤ 0 then 0 else 1) = i + 1
        rw [h1, if_neg (Int32.not_le.mpr (r3 i (by omega)))]
      · apply Classical.byContradiction
        intro z
        obtain ⟨j, hj, e⟩ := r4 l (by have := (r1 (i + 1) hi).1; omega) (Int32.not_le.mp z)
        rcases Nat.lt_trichotomy j i with w | w | w
        · have := r2 j i w (by omega); omega
        · subst w; omega
        · rcases Nat.lt_trichotomy j (i + 1) with v | v | v
          · omega
          · subst v; omega
          · have := r2 (i + 1) j v hj; omega
  have r6 : rkc (σ.1 30) 144 = m := by
    rcases Nat.eq_zero_or_pos m with z | z
    · have := rkc_gap (f := σ.1 30) (a := 0) 144 (fun l _ hl => ?_)
      · rw [Nat.zero_add] at this; rw [this, z]; rfl
      · apply Classical.byContradiction
        intro w
        obtain ⟨j, hj, e⟩ := r4 l (by omega) (Int32.not_le.mp w)
        omega
    · have h2 := (r1 (m - 1) (by omega)).1
      have h3 := rkc_gap (f := σ.1 30) (a := rk (m - 1) + 1) (144 - (rk (m - 1) + 1)) (fun l h4 h5 => ?_)
      · rw [show rk (m - 1) + 1 + (144 - (rk (m - 1) + 1)) = 144 by omega] at h3
        rw [h3]
        show rkc (σ.1 30) (rk (m - 1)) + (if σ.1 30 (rk (m - 1)) ≤ 0 then 0 else 1) = m
        rw [r5 (m - 1) (by omega), if_neg (Int32.not_le.mpr (r3 (m - 1) (by omega)))]
        omega
      · apply Classical.byContradiction
        intro w
        obtain ⟨j, hj, e⟩ := r4 l (by omega) (Int32.not_le.mp w)
        rcases Nat.lt_trichotomy j (m - 1) with v | v | v
        · have := r2 j (m - 1) v (by omega); omega
        · subst v; omega
        · omega
  refine ⟨m, rk, by omega, elc, r1, r2, r3, r4, r6, fun o i hi => ?_⟩
  obtain ⟨l, hl, e, hp, ec⟩ := rk_at (f := σ.1 30) (o := o) 144 i (by rw [r6]; exact hi)
  rw [e, rkc_inj hp (Int32.not_le.mpr (r3 i hi)) (by rw [ec, r5 i hi])]
def AgK (τ σ : St) : Prop := τ.1 6 = σ.1 6 ∧ τ.1 30 = σ.1 30 ∧ τ.1 31 = σ.1 31 ∧ τ.1 32 = σ.1 32 ∧ τ.1 39 = σ.1 39 ∧ τ.1 40 = σ.1 40 ∧ τ.1 41 = σ.1 41 ∧ τ.1 42 = σ.1 42
theorem AgK.kin {τ σ : St} (h : AgK τ σ) {L H : Nat → Int32} {l k j : Nat} : evK (kpS τ L H l k) (kbS τ) j 0 True = evK (kpS σ L H l k) (kbS σ) j 0 True := by
  obtain ⟨_, e1, e2, e3, e4, e5, e6, e7⟩ := h
  have a : kpS τ L H l k = kpS σ L H l k := by
    funext t
    unfold kpS fvF ggF
    rw [e1, e2, e3, e4, e5, e6]
  have b : kbS τ = kbS σ := by
    funext t
    unfold kbS
    rw [e7]
  rw [a, b]
theorem Rel.ls {σ : St} {n : Int32} {A B : Nat → Int32} (hR : Rel σ) : Rel (ls σ n A B) := by
  obtain ⟨hS, hG, hH, hL, hP, hM, hA, hT, hD, hF, hU⟩ := hR
  exact ⟨hS, hG, hH, hL, hP, hM, hA, hT, hD, hF, hU⟩
theorem Rel.r85 {σ : St} {F : Nat → Int32} (hR : Rel σ) : Rel (setR σ 85 F) := by
  obtain ⟨hS, hG, hH, hL, hP, hM, hA, hT, hD, hF, hU⟩ := hR
  exact ⟨hS, hG, hH, hL, hP, hM, hA, hT, hD, hF, hU⟩
theorem Rel.lng {σ : St} {g : Nat → Int64} (hR : Rel σ) : Rel (σ.1, g) := hR
/-- what both chain and broken begin with, where the rule can be asked -/
theorem kin_both {σ : St} (hR : Rel σ) : ∃ (r : Int32) (σ1 : St), Ret 85 [.ref 10] σ [.int r] σ1 ∧ Rel σ1 ∧ σ1.1 30 = σ.1 30 ∧ (r = 0 ∨ r < 0) ∧ (r < 0 → ∃ τ1, Ret 155 [.ref 11] σ1 [.int r] τ1 ∧ Rel τ1) ∧
    (r = 0 → ∃ (m : Nat) (rk : Nat → Nat) (K : Nat → Nat → Prop) (g : Nat → Int64) (f : Nat → Nat) (τ1 : St) (B : Nat → Int32), m ≤ 60 ∧ σ1.1 4 9 = nI m ∧ (∀ i, i < m → rk i < 144 ∧ σ1.1 33 i = nI (rk i)) ∧ (∀ i j, i < j → j < m → rk i < rk j) ∧ (∀ l, l < 144 → 0 < σ.1 30 l → ∃ i, i < m ∧ rk i = l) ∧
      MtR K m g f ∧ Ret 14 [.ref 2] σ1 [] (σ1.1, g) ∧ Ret 155 [.ref 11] (σ1.1, g) [.int 0] τ1 ∧ Rel τ1 ∧ AlR K m B ∧ Ret 159 [.ref 11] τ1 [] (ls τ1 (nI m) (rkr (τ1.1 30) (τ1.1 83) 144) B) ∧ ∀ i, i < m → rkr (τ1.1 30) (τ1.1 83) 144 i = nI (rk i)) := by
  obtain ⟨r, σ1, L, H, x85, f1, mbar, hr, hpos, hage⟩ := bar_both hR
  have hR1 : Rel σ1 := by
    rcases f1 with rfl | ⟨L1, H1, mv, rfl⟩
    · exact hR
    · exact hR.nst
  have a1 : AgK σ1 σ := by
    rcases f1 with rfl | ⟨L1, H1, mv, rfl⟩
    · exact ⟨rfl, rfl, rfl, rfl, rfl, rfl, rfl, rfl⟩
    · exact ⟨rfl, rfl, rfl, rfl, rfl, rfl, rfl, rfl⟩
  have hA : ∀ g, RbA (σ1.1, g) σ := by
    intro g
    rcases f1 with rfl | ⟨L1, H1, mv, rfl⟩
    · exact ⟨⟨rfl, rfl, rfl, rfl, rfl, rfl⟩, rfl, rfl⟩
    · exact ⟨⟨rfl, rfl, rfl, rfl, rfl, rfl⟩, rfl, rfl⟩
  refine ⟨r, σ1, x85, hR1, a1.2.1, hr, fun hneg => ?_, fun hz => ?_⟩
  · obtain ⟨τ1, m155, f2, _⟩ := mbar σ1 (hA σ1.2)
    refine ⟨τ1, m155, ?_⟩
    rcases f2 with rfl | ⟨L2, H2, rfl⟩
    · exact hR1
    · exact hR1.mst
  · subst hz
    have hpos := hpos rfl
    obtain ⟨m, rk, hm, e49, h33, hinc, hp30, hcomp, hrkc, hrkr⟩ := hR1.ranks
    have n66 : (σ1.1 6 6).toNatClampNeg = (σ.1 6 6).toNatClampNeg := by rw [a1.1]
    have n39 : σ1.1 39 = σ.1 39 := a1.2.2.2.2.1
    -- the class
    have hK : ∀ a b, b < a → a < m → ∀ g, Ret 12 [.ref 2, .int (nI (rk a)), .int (nI (rk b))] (σ1.1, g) [.int (pI (evK (kpS σ L H (rk a) (rk b)) (kbS σ) ((σ.1 6 6).toNatClampNeg - 1) 0 True))] (σ1.1, g) := by
      intro a b hb ha g
      obtain ⟨ruc, _⟩ := (Rel.lng (g := g) hR1).ru (by show 0 < (σ1.1 6 6).toNatClampNeg; rw [n66]; exact hpos)
      have := s_12 (τ := (σ1.1, g)) (L := L) (H := H) ruc (h33 a ha).1 (h33 b (by omega)).1 (fun z => by
        refine hage rfl ?_
        obtain ⟨t, t1, t2⟩ := z
        have t1 : t < (σ1.1 6 6).toNatClampNeg := t1
        have t2 : σ1.1 39 t = 121 := t2
        rw [n66] at t1
        rw [n39] at t2
        exact ⟨t, t1, t2⟩)
      have e : evK (kpS ((σ1.1, g) : St) L H (rk a) (rk b)) (kbS ((σ1.1, g) : St)) ((((σ1.1, g) : St).1 6 6).toNatClampNeg - 1) 0 True = evK (kpS σ L H (rk a) (rk b)) (kbS σ) ((σ.1 6 6).toNatClampNeg - 1) 0 True := by
        rw [AgK.kin (τ := ((σ1.1, g) : St)) (σ := σ) a1]
        show evK _ _ ((σ1.1 6 6).toNatClampNeg - 1) 0 True = _
        rw [n66]
      rw [e] at this
      exact this
    obtain ⟨⟨g, f⟩, hMt, x14⟩ := s_14 (τ := σ1) (K := fun a b => evK (kpS σ L H (rk a) (rk b)) (kbS σ) ((σ.1 6 6).toNatClampNeg - 1) 0 True) ⟨hm, e49, h33, hK⟩
    obtain ⟨τ1, m155, f2, hage2⟩ := mbar (σ1.1, g) (hA g)
    have hR2 : Rel τ1 := by
      rcases f2 with rfl | ⟨L2, H2, rfl⟩
      · exact hR1
      · exact Rel.mst (σ := (σ1.1, g)) hR1
    have a2 : AgK τ1 σ := by
      rcases f2 with rfl | ⟨L2, H2, rfl⟩
      · exact a1
      · exact a1
    have e30 : τ1.1 30 = σ1.1 30 := a2.2.1.trans a1.2.1.symm
    obtain ⟨gn, hg⟩ := hR2.gf
    have n66' : (τ1.1 6 6).toNatClampNeg = (σ.1 6 6).toNatClampNeg := by rw [a2.1]
    have hKm : ∀ a b, b < a → a < rkc (τ1.1 30) 144 → ∀ n A B, Ret 157 [.ref 11, .int (nI (rk a)), .int (nI (rk b))] (ls τ1 n A B) [.int (pI (evK (kpS σ L H (rk a) (rk b)) (kbS σ) ((σ.1 6 6).toNatClampNeg - 1) 0 True))] (ls τ1 n A B) := by
      intro a b hb ha n A B
      rw [e30, hrkc] at ha
      obtain ⟨_, w, ps, dl, rum⟩ := (hR2.ls (n := n) (A := A) (B := B)).ru (by show 0 < (τ1.1 6 6).toNatClampNeg; rw [n66']; exact hpos)
      have p30 : ∀ i, i < m → 0 < (ls τ1 n A B).1 30 (rk i) := by
        intro i hi
        show 0 < τ1.1 30 (rk i)
        rw [e30]
        exact hp30 i hi
      have := s_157 (τ := ls τ1 n A B) (g := gn) (L := L) (H := H) hR2.ls hg rum (h33 a ha).1 (h33 b (by omega)).1 (p30 a ha) (p30 b (by omega)) (fun z => by
        refine hage2 rfl ?_
        obtain ⟨t, t1, t2⟩ := z
        have t1 : t < (τ1.1 6 6).toNatClampNeg := t1
        have t2 : τ1.1 39 t = 121 := t2
        rw [n66'] at t1
        rw [a2.2.2.2.2.1] at t2
        exact ⟨t, t1, t2⟩)
      have e : evK (kpS (ls τ1 n A B) L H (rk a) (rk b)) (kbS (ls τ1 n A B)) (((ls τ1 n A B).1 6 6).toNatClampNeg - 1) 0 True = evK (kpS σ L H (rk a) (rk b)) (kbS σ) ((σ.1 6 6).toNatClampNeg - 1) 0 True := by
        rw [AgK.kin (τ := ls τ1 n A B) (σ := σ) a2]
        show evK _ _ ((τ1.1 6 6).toNatClampNeg - 1) 0 True = _
        rw [n66']
      rw [e] at this
      exact this
    obtain ⟨B, hAl, m159⟩ := s_159 (τ := τ1) (g := gn) (rk := rk) (K := fun a b => evK (kpS σ L H (rk a) (rk b)) (kbS σ) ((σ.1 6 6).toNatClampNeg - 1) 0 True) hg (by rw [e30, hrkc]; exact hm) (fun i hi => by rw [e30, hrkc] at hi; rw [e30]; exact hrkr _ i hi) hKm
    rw [e30, hrkc] at hAl m159
    exact ⟨m, rk, _, g, f, τ1, B, hm, e49, h33, hinc, fun l hl hp => hcomp l hl (by rw [a1.2.1]; exact hp), hMt, x14, m155, hR2, hAl, by rw [e30]; exact m159, fun i hi => by rw [e30]; exact hrkr _ i hi⟩
theorem p_chain {σ : St} {a i : Int32} (hR : Rel σ) : PairI 83 161 [.int a, .int i] σ := by
  obtain ⟨gn, hg⟩ := hR.gf
  rcases (Classical.em (lnP σ a)).symm with h1 | h1
  · exact ⟨-1, σ, σ, (g_83_0 ⟨_, _, (s_29f h1), (br_t (by (try simp only [bI_0, vp_6, vp_9, vp_10, vp_12, vp_18, vp_30, vp_31, vp_50, vp_60, vp_144, vp_154, vp_180, vp_432, vp_3600]) <;> grind) ⟨rfl, rfl⟩)⟩), (g_161_0 ⟨_, _, (s_140f hg h1), (br_t (by (try simp only [bI_0, vp_6, vp_9, vp_10, vp_12, vp_18, vp_30, vp_31, vp_50, vp_60, vp_144, vp_154, vp_180, vp_432, vp_3600]) <;> grind) ⟨rfl, rfl⟩)⟩), hR⟩
  obtain ⟨r, σ1, x85, hR1, e30, hr, hneg, hz⟩ := kin_both hR
  have hln : ∀ τ : St, Rel τ → τ.1 30 = σ.1 30 → Ret 140 [.ref 11, .int a] τ [.int 1] τ := by
    intro τ hτ e
    obtain ⟨g2, hg2⟩ := hτ.gf
    refine s_140t hg2 ?_
    unfold lnP at h1 ⊢
    rw [e]
    exact h1
  rcases hr.symm with hr | hr
  · obtain ⟨τ1, m155, hR2⟩ := hneg hr
    have nz : ¬ r = 0 := fun z => by rw [z] at hr; exact absurd hr (by decide)
    exact ⟨r, _, _, g_83_0 ⟨_, _, s_29t h1, br_f (by decide) ⟨_, _, x85, br_f nz ⟨rfl, rfl⟩⟩⟩, g_161_0 ⟨_, _, hln σ1 hR1 e30, br_f (by decide) ⟨_, _, m155, br_t hr ⟨rfl, rfl⟩⟩⟩, hR2⟩
  subst hr
  obtain ⟨m, rk, K, g, f, τ1, B, hm, e49, h33, hinc, hcomp, hMt, x14, m155, hR2, hAl, m159, hrkr⟩ := hz rfl
  obtain ⟨l, hl, rfl⟩ := inR (x := a) (m := 144) (n := 144) rfl (by decide) h1.1 h1.2.1
  obtain ⟨k, hk, rfl⟩ := hcomp l hl ((lnP_nI hl).mp h1)
  have x32 := s_32 (τ := (σ1.1, g)) hm e49 h33 hinc hk
  obtain ⟨X, hX, x15⟩ := s_15 (τ := (σ1.1, g)) hm hk hMt
  have hXb : ∀ b, X.testBit b = true → b < m := fun b hb => ((hX.2 b).mp hb).1
  have hB : ∀ x y, x < m → y < m → ¬ x = y → (ls τ1 (nI m) (rkr (τ1.1 30) (τ1.1 83) 144) B).1 84 (60 * x + y) = pI (AJ K x y) := fun x y hx hy hxy => hAl.at hx hy hxy
  obtain ⟨C, m160, hC⟩ := s_160 (τ := ls τ1 (nI m) (rkr (τ1.1 30) (τ1.1 83) 144) B) hm hk rfl hB
  have hC0 : ∀ u, u < m → (C u = 0 ↔ ¬ X.testBit u = true) := by
    intro u hu
    rw [hC u hu, pI_0, hX.2 u]
    exact ⟨fun z w => z w.2, fun z w => z ⟨hu, w⟩⟩
  have n0 : ¬ (0 : Int32) < 0 := by decide
  -- the model's count
  have cnt : ∀ j u, u + j = m → Go 161 57 [.ref 11, .null, .int i, .null, .null, .int (nI (pcN X u)), .int (nI u)] [] (setR (ls τ1 (nI m) (rkr (τ1.1 30) (τ1.1 83) 144) B) 85 C) [.int (if i = -1 then nI (pcN X 60) else liF X rk i j u)] (setR (ls τ1 (nI m) (rkr (τ1.1 30) (τ1.1 83) 144) B) 85 C) := by
    intro j
    induction j with
    | zero =>
      intro u hu
      have e : u = m := by omega
      subst e
      refine g_161_57 (br_f Int32.lt_irrefl ?_)
      by_cases q : i = -1
      · refine br_t q ⟨?_, rfl⟩
        rw [if_pos q, pc_cnt, pc_cnt]
        have e2 := cntP_cut (p := fun d => X.testBit d = true) (m := u) (60 - u)
        rw [show u + (60 - u) = 60 by omega] at e2
        have e4 : cntP (fun d => X.testBit d = true) 60 = cntP (fun d => d < u ∧ X.testBit d = true) 60 := cntP_iff 60 (fun d _ => ⟨fun z => ⟨hXb d z, z⟩, fun z => z.2⟩)
        rw [e4, e2]
      · exact br_f q ⟨by rw [if_neg q]; rfl, rfl⟩
    | succ j ih =>
      intro u hu
      have eu : (nI u).toNatClampNeg = u := clN (by omega)
      have ih := ih (u + 1) (by omega)
      have lt : nI u < (setR (ls τ1 (nI m) (rkr (τ1.1 30) (τ1.1 83) 144) B) 85 C).1 11 37 := (nI_ltI (by omega) (by omega)).mpr (by omega)
      have e85 : (setR (ls τ1 (nI m) (rkr (τ1.1 30) (τ1.1 83) 144) B) 85 C).1 85 (nI u).toNatClampNeg = C u := by rw [eu]; rfl
      have e83 : (setR (ls τ1 (nI m) (rkr (τ1.1 30) (τ1.1 83) 144) B) 85 C).1 83 (nI u).toNatClampNeg = nI (rk u) := by rw [eu]; exact hrkr u (by omega)
      refine g_161_57 (br_t lt ⟨vp_in_nI (by omega) (by decide), ?_⟩)
      rw [e85, e83, nI_S (i := u)]
      by_cases q : X.testBit u = true
      · rw [pc_S.1 q] at ih
        have hp := pc_le (K := X) u
        refine br_f (fun z => (hC0 u (by omega)).mp z q) ?_
        by_cases e : nI (pcN X u) = i
        · refine br_t e ⟨?_, rfl⟩
          have ni : ¬ i = -1 := by rw [← e]; exact neg1_nI (by omega)
          rw [if_neg ni]
          unfold liF
          rw [if_pos q, if_pos e]
        · refine br_f e ?_
          have e3 : liF X rk i (j + 1) u = liF X rk i j (u + 1) := by
            conv => lhs; unfold liF
            rw [if_pos q, if_neg e]
          rw [nI_S, e3]
          exact ih
      · rw [pc_S.2 q] at ih
        have e3 : liF X rk i (j + 1) u = liF X rk i j (u + 1) := by
          conv => lhs; unfold liF
          rw [if_neg q]
        rw [e3]
        exact br_t ((hC0 u (by omega)).mpr q) ih
  have mfin : Ret 161 [.ref 11, .int (nI (rk k)), .int i] (σ1.1, g) [.int (if i = -1 then nI (pcN X 60) else liF X rk i m 0)] (setR (ls τ1 (nI m) (rkr (τ1.1 30) (τ1.1 83) 144) B) 85 C) := by
    refine g_161_0 ⟨_, _, hln (σ1.1, g) hR1 e30, br_f (by decide) ⟨_, _, m155, br_f n0 ⟨_, m159, ?_⟩⟩⟩
    refine loopN k (fun u => Go 161 28 [.ref 11, .int (nI (rk k)), .int i, .null, .int (nI u), .null, .null] [] (ls τ1 (nI m) (rkr (τ1.1 30) (τ1.1 83) 144) B) [.int (if i = -1 then nI (pcN X 60) else liF X rk i m 0)] (setR (ls τ1 (nI m) (rkr (τ1.1 30) (τ1.1 83) 144) B) 85 C)) (fun u hu h => ?_) ?_ 0 (by omega)
    · have eu : (nI u).toNatClampNeg = u := clN (by omega)
      refine g_161_28 ⟨vp_in_nI (by omega) (by decide), br_f ?_ ?_⟩
      · rw [eu]
        show ¬ rkr (τ1.1 30) (τ1.1 83) 144 u = nI (rk k)
        rw [hrkr u (by omega)]
        have q1 := hinc u k hu hk
        have q2 := (h33 k hk).1
        exact nI_ne (by omega) (by omega) (by omega)
      · rw [nI_S]; exact h
    · have eu : (nI k).toNatClampNeg = k := clN (by omega)
      refine g_161_28 ⟨vp_in_nI (by omega) (by decide), br_t (by rw [eu]; exact hrkr k hk) ⟨_, m160, cnt m 0 (by omega)⟩⟩
  have hRf : Rel (setR (ls τ1 (nI m) (rkr (τ1.1 30) (τ1.1 83) 144) B) 85 C) := hR2.ls.r85
  by_cases q : i = -1
  · rw [if_pos q] at mfin
    refine ⟨_, _, _, g_83_0 ⟨_, _, s_29t h1, br_f (by decide) ⟨_, _, x85, br_t rfl ⟨_, x14, _, _, x32, _, _, x15, br_t q ⟨_, _, s_210, rfl, rfl⟩⟩⟩⟩, ?_, hRf⟩
    rw [lc_pc hX.1]
    exact mfin
  · rw [if_neg q] at mfin
    have x17 := s_17 (τ := (σ1.1, g)) (i := i) hm h33 hX.1 hXb
    have e : liF X rk i 60 0 = liF X rk i m 0 := by
      have := liF_cut (X := X) (rk := rk) (i := i) (j := 60 - m) m 0 (fun b hb z => by have := hXb b z; omega)
      rw [show m + (60 - m) = 60 by omega] at this
      exact this
    rw [e] at x17
    exact ⟨_, _, _, g_83_0 ⟨_, _, s_29t h1, br_f (by decide) ⟨_, _, x85, br_t rfl ⟨_, x14, _, _, x32, _, _, x15, br_f q ⟨_, _, x17, rfl, rfl⟩⟩⟩⟩, mfin, hRf⟩
theorem p_broken {σ : St} (hR : Rel σ) : PairI 84 163 [] σ := by
  obtain ⟨r, σ1, x85, hR1, e30, hr, hneg, hz⟩ := kin_both hR
  rcases hr.symm with hr | hr
  · obtain ⟨τ1, m155, hR2⟩ := hneg hr
    have nz : ¬ r = 0 := fun z => by rw [z] at hr; exact absurd hr (by decide)
    exact ⟨r, _, _, g_84_0 ⟨_, _, x85, br_f nz ⟨rfl, rfl⟩⟩, g_163_0 ⟨_, _, m155, br_t hr ⟨rfl, rfl⟩⟩, hR2⟩
  subst hr
  obtain ⟨m, rk, K, g, f, τ1, B, hm, e49, h33, hinc, hcomp, hMt, x14, m155, hR2, hAl, m159, hrkr⟩ := hz rfl
  have x18 := s_18 (τ := (σ1.1, g)) hm e49 hMt
  have n0 : ¬ (0 : Int32) < 0 := by decide
  have hB : ∀ C x y, x < m → y < m → ¬ x = y → (setR (ls τ1 (nI m) (rkr (τ1.1 30) (τ1.1 83) 144) B) 85 C).1 84 (60 * x + y) = pI (AJ K x y) := fun C x y hx hy hxy => hAl.at hx hy hxy
  have key := loopX (α := Nat → Int32) (β := Nat → Int32) m (fun _ _ => True)
    (fun k C q => Go 163 19 [.ref 11, .null, .int (nI (cntP (BrP K m) k)), .int (nI k)] [] (setR (ls τ1 (nI m) (rkr (τ1.1 30) (τ1.1 83) 144) B) 85 C) [.int (nI (cntP (BrP K m) m))] (setR (ls τ1 (nI m) (rkr (τ1.1 30) (τ1.1 83) 144) B) 85 q)) (fun _ => True) ?_ ?_ 0 ((ls τ1 (nI m) (rkr (τ1.1 30) (τ1.1 83) 144) B).1 85) (by omega) trivial
  · obtain ⟨q, _, h⟩ := key
    rw [setR_self] at h
    exact ⟨_, _, _, g_84_0 ⟨_, _, x85, br_t rfl ⟨_, x14, _, _, x18, rfl, rfl⟩⟩, g_163_0 ⟨_, _, m155, br_f n0 ⟨_, m159, h⟩⟩, hR2.ls.r85⟩
  · intro k C hk _
    obtain ⟨C', m160, hC⟩ := s_160 (τ := setR (ls τ1 (nI m) (rkr (τ1.1 30) (τ1.1 83) 144) B) 85 C) hm hk rfl (hB C)
    rw [setR2] at m160
    have m162 := s_162 (τ := setR (ls τ1 (nI m) (rkr (τ1.1 30) (τ1.1 83) 144) B) 85 C') (r := k) hm rfl (hB C') hC
    refine ⟨C', trivial, fun q hq => g_163_19 (br_t ((nI_ltI (by omega) (by omega)).mpr hk) ⟨_, m160, _, _, m162, ?_⟩)⟩
    have hq : Go 163 19 [.ref 11, .null, .int (nI (cntP (BrP K m) k + @ite _ (BrP K m k) (Classical.propDecidable _) 1 0)), .int (nI (k + 1))] [] (setR (ls τ1 (nI m) (rkr (τ1.1 30) (τ1.1 83) 144) B) 85 C') [.int (nI (cntP (BrP K m) m))] (setR (ls τ1 (nI m) (rkr (τ1.1 30) (τ1.1 83) 144) B) 85 q) := hq
    rw [nI_S (i := k), Int32.add_zero]
    by_cases b : BrP K m k
    · rw [if_pos b, ← nI_S (i := cntP (BrP K m) k)] at hq
      exact br_f (by rw [pI_t b]; decide) hq
    · rw [if_neg b, Nat.add_zero] at hq
      exact br_t (pI_f b) hq
  · intro C _
    exact ⟨C, trivial, g_163_19 (br_f Int32.lt_irrefl ⟨rfl, rfl⟩)⟩
