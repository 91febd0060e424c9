/-! the class's orders: the list of ties, who lies above whom -/
def orf (dy sk : Nat → Int32) (l : Nat) : Int32 := if dy l = -1 then 0 else if sk l = 0 then 1 else 0
def oP (dy sk : Nat → Int32) (l : Nat) : Prop := ¬ dy l = -1 ∧ sk l = 0
theorem orf_iff {dy sk : Nat → Int32} {l : Nat} : ¬ orf dy sk l ≤ 0 ↔ oP dy sk l := by
  unfold orf oP
  by_cases h : dy l = -1
  · simp [h]
  · by_cases h2 : sk l = 0
    · simp [h, h2]
    · simp [h, h2]
theorem rkc_mono {f : Nat → Int32} {a b : Nat} (h : a ≤ b) : rkc f a ≤ rkc f b := by
  obtain ⟨k, rfl⟩ : ∃ k, b = a + k := ⟨b - a, by omega⟩
  clear h
  induction k with
  | zero => exact Nat.le_refl _
  | succ k ih =>
    show _ ≤ rkc f (a + k) + (if f (a + k) ≤ 0 then 0 else 1)
    omega
theorem rkc_lt {f : Nat → Int32} {a b : Nat} (h : a < b) (ha : ¬ f a ≤ 0) : rkc f a < rkc f b := by
  have h1 : rkc f (a + 1) = rkc f a + 1 := by
    show rkc f a + (if f a ≤ 0 then 0 else 1) = _
    rw [if_neg ha]
  have := rkc_mono (f := f) (show a + 1 ≤ b by omega)
  omega
theorem rkc_inj {f : Nat → Int32} {a b : Nat} (ha : ¬ f a ≤ 0) (hb : ¬ f b ≤ 0) (h : rkc f a = rkc f b) : a = b := by
  rcases Nat.lt_trichotomy a b with q | q | q
  · have := rkc_lt q ha; omega
  · exact q
  · have := rkc_lt q hb; omega
theorem rk_at {f o : Nat → Int32} : ∀ k, ∀ i, i < rkc f k → ∃ l, l < k ∧ rkr f o k i = nI l ∧ ¬ f l ≤ 0 ∧ rkc f l = i
  | 0, i, h => absurd h (by simp [rkc])
  | k + 1, i, h => by
    have ih := rk_at (f := f) (o := o) k
    unfold rkc at h
    unfold rkr
    by_cases q : f k ≤ 0
    · rw [if_pos q] at h ⊢
      obtain ⟨l, h1, h2, h3⟩ := ih i (by omega)
      exact ⟨l, by omega, h2, h3⟩
    · rw [if_neg q] at h ⊢
      by_cases e : i = rkc f k
      · subst e
        exact ⟨k, by omega, upd_at, q, rfl⟩
      · obtain ⟨l, h1, h2, h3⟩ := ih i (by omega)
        exact ⟨l, by omega, by rw [upd_n e]; exact h2, h3⟩
def lo (σ : St) : St := wr (setR σ 50 (rkr (orf (σ.1 47) (σ.1 48)) (σ.1 50) 144)) 9 4 (nI (rkc (orf (σ.1 47) (σ.1 48)) 144))
theorem s_62 {σ : St} : Ret 62 [.ref 9] σ [] (lo σ) := by
  refine g_62_0 ?_
  have h0 : wr σ 9 4 0 = wr (setR σ 50 (rkr (orf (σ.1 47) (σ.1 48)) (σ.1 50) 0)) 9 4 (nI (rkc (orf (σ.1 47) (σ.1 48)) 0)) := by
    show wr σ 9 4 0 = wr (setR σ 50 (σ.1 50)) 9 4 0
    rw [setR_self]
  rw [h0]
  unfold lo
  refine loopN 144 (fun i => Go 62 7 [.ref 9, .int (nI i)] [] (wr (setR σ 50 (rkr (orf (σ.1 47) (σ.1 48)) (σ.1 50) i)) 9 4 (nI (rkc (orf (σ.1 47) (σ.1 48)) i))) [] (wr (setR σ 50 (rkr (orf (σ.1 47) (σ.1 48)) (σ.1 50) 144)) 9 4 (nI (rkc (orf (σ.1 47) (σ.1 48)) 144)))) ?_ ?_ 0 (by omega)
  · intro i hi hx
    have hc := rkc_le (f := orf (σ.1 47) (σ.1 48)) i
    have lt : nI i < 144 := (nI_ltL (n := 144) rfl (by omega) (by decide)).mpr hi
    rw [← nI_S, rkr, rkc] at hx
    by_cases h : ¬ σ.1 47 i = -1 ∧ σ.1 48 i = 0
    · have h' := (orf_iff (dy := σ.1 47) (sk := σ.1 48)).mpr h
      rw [if_neg h', if_neg h'] at hx
      refine g_62_7 (br_t lt ⟨_, _, s_60t (σ := σ) hi rfl rfl h, br_f (by decide) ⟨vp_in_nI (n := rkc (orf (σ.1 47) (σ.1 48)) i) (by omega) (by decide), ?_⟩⟩)
      show Go 62 7 [.ref 9, .int (nI i + 1)] [] (wr (wr (wr (setR σ 50 (rkr (orf (σ.1 47) (σ.1 48)) (σ.1 50) i)) 9 4 (nI (rkc (orf (σ.1 47) (σ.1 48)) i))) 50 (nI (rkc (orf (σ.1 47) (σ.1 48)) i)).toNatClampNeg (nI i)) 9 4 (nI (rkc (orf (σ.1 47) (σ.1 48)) i) + 1)) [] _
      rw [clN (by omega), nI_S (i := rkc (orf (σ.1 47) (σ.1 48)) i)]
      have : wr (wr (wr (setR σ 50 (rkr (orf (σ.1 47) (σ.1 48)) (σ.1 50) i)) 9 4 (nI (rkc (orf (σ.1 47) (σ.1 48)) i))) 50 (rkc (orf (σ.1 47) (σ.1 48)) i) (nI i)) 9 4 (nI (rkc (orf (σ.1 47) (σ.1 48)) i + 1)) = wr (setR σ 50 (upd (rkr (orf (σ.1 47) (σ.1 48)) (σ.1 50) i) (rkc (orf (σ.1 47) (σ.1 48)) i) (nI i))) 9 4 (nI (rkc (orf (σ.1 47) (σ.1 48)) i + 1)) := by
        refine St_ext (fun c k => ?_) rfl
        rw [wr_get, wr_get, wr_get, wr_get]
        simp only [setR_get]
        by_cases hc : c = 50
        · subst hc; simp [upd]
        · simp only [hc, if_false, false_and]
          by_cases h4 : c = 9 ∧ k = 4
          · simp [h4]
          · simp [h4]
      rw [this]
      exact hx
    · have h' : orf (σ.1 47) (σ.1 48) i ≤ 0 := Classical.byContradiction fun z => h (orf_iff.mp z)
      rw [if_pos h', if_pos h'] at hx
      exact g_62_7 (br_t lt ⟨_, _, s_60f (σ := σ) hi rfl rfl h, br_t rfl hx⟩)
  · exact g_62_7 (br_f (by decide) ⟨rfl, rfl⟩)
/-- the ties are listed -/
def LoQ (dy sk : Nat → Int32) (τ : St) : Prop := τ.1 47 = dy ∧ τ.1 9 4 = nI (rkc (orf dy sk) 144) ∧ ∀ i, i < rkc (orf dy sk) 144 → ∃ l, l < 144 ∧ τ.1 50 i = nI l ∧ oP dy sk l ∧ rkc (orf dy sk) l = i
theorem lo_Q {σ : St} : LoQ (σ.1 47) (σ.1 48) (lo σ) := by
  refine ⟨rfl, rfl, fun i hi => ?_⟩
  obtain ⟨l, h1, h2, h3, h4⟩ := rk_at (f := orf (σ.1 47) (σ.1 48)) (o := σ.1 50) 144 i hi
  exact ⟨l, h1, h2, orf_iff.mp h3, h4⟩
def kP (dy sk : Nat → Int32) (K l : Nat) : Prop := l < 144 ∧ oP dy sk l ∧ (rkc (orf dy sk) l < 10 → K.testBit (rkc (orf dy sk) l) = false)
def eP (dy sk : Nat → Int32) (K d e : Nat) : Prop := d < 10 ∧ e < 10 ∧ ∃ l k, l < k ∧ l / 24 = k / 24 ∧ kP dy sk K l ∧ kP dy sk K k ∧ dy l = nI d ∧ dy k = nI e
theorem eP_rng {dy sk : Nat → Int32} {K : Nat} (a b : Nat) (h : eP dy sk K a b) : a < 10 ∧ b < 10 := ⟨h.1, h.2.1⟩
/-- before the i-th tie -/
def FoI (dy sk : Nat → Int32) (K i : Nat) (cv : Int32) (hb : Nat) (f : Nat → Nat) (F : Nat → Int32) : Prop :=
  (∀ e, e < 10 → F e = nI (f e) ∧ f e < 1024) ∧
  (∀ e, e < 10 → ∀ d, (f e).testBit d = true ↔ d < 10 ∧ ∃ l k, l < k ∧ l / 24 = k / 24 ∧ kP dy sk K l ∧ kP dy sk K k ∧ rkc (orf dy sk) k < i ∧ dy l = nI d ∧ dy k = nI e) ∧
  hb < 1024 ∧ (∀ d, hb.testBit d = true ↔ d < 10 ∧ ∃ l, kP dy sk K l ∧ rkc (orf dy sk) l < i ∧ nI (l / 24) = cv ∧ dy l = nI d) ∧
  (∀ l, kP dy sk K l → rkc (orf dy sk) l < i → nI (l / 24) ≤ cv) ∧ (cv = -1 ∨ ∃ l, kP dy sk K l ∧ rkc (orf dy sk) l < i ∧ cv = nI (l / 24))
theorem FoI.skip {dy sk : Nat → Int32} {K i l : Nat} {cv : Int32} {hb : Nat} {f : Nat → Nat} {F : Nat → Int32} (h : FoI dy sk K i cv hb f F) (ho : oP dy sk l) (hr : rkc (orf dy sk) l = i) (hn : ¬ kP dy sk K l) : FoI dy sk K (i + 1) cv hb f F := by
  obtain ⟨a1, a2, a3, a4, a5, a6⟩ := h
  have key : ∀ k, kP dy sk K k → (rkc (orf dy sk) k < i + 1 ↔ rkc (orf dy sk) k < i) := by
    intro k hk
    have : rkc (orf dy sk) k ≠ i := fun e => hn (by rw [rkc_inj (orf_iff.mpr ho) (orf_iff.mpr hk.2.1) (by rw [hr, e])]; exact hk)
    omega
  refine ⟨a1, fun e he d => (a2 e he d).trans ?_, a3, fun d => (a4 d).trans ?_, fun k hk hi => a5 k hk ((key k hk).mp hi), ?_⟩
  · constructor
    · rintro ⟨h1, x, k, h2, h3, h4, h5, h6, h7⟩
      exact ⟨h1, x, k, h2, h3, h4, h5, (key k h5).mpr h6, h7⟩
    · rintro ⟨h1, x, k, h2, h3, h4, h5, h6, h7⟩
      exact ⟨h1, x, k, h2, h3, h4, h5, (key k h5).mp h6, h7⟩
  · constructor
    · rintro ⟨h1, k, h5, h6, h7⟩
      exact ⟨h1, k, h5, (key k h5).mpr h6, h7⟩
    · rintro ⟨h1, k, h5, h6, h7⟩
      exact ⟨h1, k, h5, (key k h5).mp h6, h7⟩
  · rcases a6 with q | ⟨k, h1, h2, h3⟩
    · exact Or.inl q
    · exact Or.inr ⟨k, h1, by omega, h3⟩
theorem FoI.core {dy sk : Nat → Int32} {K i l : Nat} {cv : Int32} {hb : Nat} {f : Nat → Nat} {F : Nat → Int32} (h : FoI dy sk K i cv hb f F) (hl : l < 144) (ho : oP dy sk l) (hr : rkc (orf dy sk) l = i) (hn : ¬ nI (l / 24) = cv) : ∀ k, kP dy sk K k → rkc (orf dy sk) k < i → ¬ k / 24 = l / 24 := by
  obtain ⟨a1, a2, a3, a4, a5, a6⟩ := h
  intro k hk hi he
  have h1 := a5 k hk hi
  rcases a6 with q | ⟨x, hx1, hx2, hx3⟩
  · rw [q] at h1
    have := nI0 (k := k / 24) (by have := hk.1; omega)
    have h2 := Int32.le_trans this h1
    exact absurd h2 (by decide)
  · rw [hx3] at h1
    have h2 := (nI_leI (by have := hk.1; omega) (by have := hx1.1; omega)).mp h1
    have h3 : x < l := by
      apply Classical.byContradiction
      intro z
      have := rkc_mono (f := orf dy sk) (show l ≤ x by omega)
      omega
    apply hn
    rw [hx3, show x / 24 = l / 24 by omega]
theorem FoI.keep {dy sk : Nat → Int32} {K i l d hb0 : Nat} {cv : Int32} {hb : Nat} {f : Nat → Nat} {F : Nat → Int32} (h : FoI dy sk K i cv hb f F) (hk : kP dy sk K l) (hr : rkc (orf dy sk) l = i) (hd : d < 10) (ed : dy l = nI d)
    (h0 : hb0 < 1024) (hb1 : ∀ c, hb0.testBit c = true ↔ c < 10 ∧ ∃ k, kP dy sk K k ∧ rkc (orf dy sk) k < i ∧ k / 24 = l / 24 ∧ dy k = nI c) : FoI dy sk K (i + 1) (nI (l / 24)) (hb0 ||| 2 ^ d) (fun e => if e = d then f d ||| hb0 else f e) (upd F d (nI (f d ||| hb0))) := by
  obtain ⟨a1, a2, a3, a4, a5, a6⟩ := h
  have key : ∀ k, kP dy sk K k → (rkc (orf dy sk) k < i + 1 ↔ rkc (orf dy sk) k < i ∨ k = l) := by
    intro k hk'
    constructor
    · intro h
      by_cases e : rkc (orf dy sk) k = i
      · exact Or.inr (rkc_inj (orf_iff.mpr hk'.2.1) (orf_iff.mpr hk.2.1) (by rw [hr, e]))
      · exact Or.inl (by omega)
    · rintro (h | h)
      · omega
      · rw [h, hr]; omega
  have lt : ∀ k, kP dy sk K k → (k < l ↔ rkc (orf dy sk) k < i) := by
    intro k hk'
    constructor
    · intro h
      rw [← hr]
      exact rkc_lt h (orf_iff.mpr hk'.2.1)
    · intro h
      apply Classical.byContradiction
      intro z
      have := rkc_mono (f := orf dy sk) (show l ≤ k by omega)
      omega
  have hl := hk.1
  refine ⟨fun e he => ?_, fun e he c => ?_, Nat.or_lt_two_pow (n := 10) h0 (Nat.pow_lt_pow_right (by decide) hd), fun c => ?_, fun k hk' hi => ?_, Or.inr ⟨l, hk, by omega, rfl⟩⟩
  · show upd F d (nI (f d ||| hb0)) e = nI (if e = d then f d ||| hb0 else f e) ∧ (if e = d then f d ||| hb0 else f e) < 1024
    by_cases q : e = d
    · subst q
      rw [if_pos rfl, upd_at]
      exact ⟨rfl, Nat.or_lt_two_pow (n := 10) (a1 e he).2 h0⟩
    · rw [if_neg q, upd_n q]
      exact a1 e he
  · show (if e = d then f d ||| hb0 else f e).testBit c = true ↔ _
    by_cases q : e = d
    · subst q
      rw [if_pos rfl, Nat.testBit_or, Bool.or_eq_true, a2 e he, hb1]
      constructor
      · rintro (⟨h1, x, k, h2, h3, h4, h5, h6, h7⟩ | ⟨h1, k, h2, h3, h4, h5⟩)
        · exact ⟨h1, x, k, h2, h3, h4, h5, by omega, h7⟩
        · exact ⟨h1, k, l, (lt k h2).mpr h3, h4, h2, hk, by omega, h5, ed⟩
      · rintro ⟨h1, x, k, h2, h3, h4, h5, h6, h7, h8⟩
        rcases (key k h5).mp h6 with z | rfl
        · exact Or.inl ⟨h1, x, k, h2, h3, h4, h5, z, h7, h8⟩
        · exact Or.inr ⟨h1, x, h4, (lt x h4).mp h2, h3, h7⟩
    · rw [if_neg q, a2 e he]
      constructor
      · rintro ⟨h1, x, k, h2, h3, h4, h5, h6, h7⟩
        exact ⟨h1, x, k, h2, h3, h4, h5, by omega, h7⟩
      · rintro ⟨h1, x, k, h2, h3, h4, h5, h6, h7, h8⟩
        rcases (key k h5).mp h6 with z | rfl
        · exact ⟨h1, x, k, h2, h3, h4, h5, z, h7, h8⟩
        · exact absurd ((nI_eq (by omega) (by omega)).mp (ed.symm.trans h8)).symm q
  · rw [Nat.testBit_or, Bool.or_eq_true, hb1, Nat.testBit_two_pow, decide_eq_true_iff]
    constructor
    · rintro (⟨h1, k, h2, h3, h4, h5⟩ | rfl)
      · exact ⟨h1, k, h2, by omega, by rw [h4], h5⟩
      · exact ⟨hd, l, hk, by omega, rfl, ed⟩
    · rintro ⟨h1, k, h2, h3, h4, h5⟩
      have h4 := (nI_eq (by have := h2.1; omega) (by omega)).mp h4
      rcases (key k h2).mp h3 with z | rfl
      · exact Or.inl ⟨h1, k, h2, z, h4, h5⟩
      · exact Or.inr ((nI_eq (by omega) (by omega)).mp (ed.symm.trans h5))
  · refine (nI_leI (by have := hk'.1; omega) (by omega)).mpr ?_
    rcases (key k hk').mp hi with z | rfl
    · have := (lt k hk').mpr z
      omega
    · exact Nat.le_refl _
theorem FoI.zero {dy sk : Nat → Int32} {K : Nat} {F : Nat → Int32} (h : ∀ e, e < 10 → F e = 0) : FoI dy sk K 0 (-1) 0 (fun _ => 0) F := by
  refine ⟨fun e he => ⟨h e he, Nat.zero_lt_succ _⟩, fun e he d => ?_, by decide, fun d => ?_, fun l _ h => by omega, Or.inl rfl⟩
  · rw [Nat.zero_testBit]
    constructor
    · intro z; exact absurd z (by decide)
    · rintro ⟨_, _, _, _, _, _, _, z, _⟩; omega
  · rw [Nat.zero_testBit]
    constructor
    · intro z; exact absurd z (by decide)
    · rintro ⟨_, _, _, z, _⟩; omega
