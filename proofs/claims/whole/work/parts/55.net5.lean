/-! the model's net: rows 88/89 and 90/91 are one row of 154 each -/
def jn (L r : Nat → Int32) (u : Nat) : Int32 := if u < 144 then L u else r u
def jd (L r : Nat → Int32) (d : Nat) : Int32 := if d < 10 then L (144 + d) else r d
def mst (σ : St) (L H : Nat → Int32) : St := setR (setR (setR (setR σ 88 (jn L (σ.1 88))) 89 (jn H (σ.1 89))) 90 (jd L (σ.1 90))) 91 (jd H (σ.1 91))
theorem mst_88 {σ : St} {L H : Nat → Int32} {k : Nat} (hk : k < 144) : (mst σ L H).1 88 k = L k := if_pos hk
theorem mst_89 {σ : St} {L H : Nat → Int32} {k : Nat} (hk : k < 144) : (mst σ L H).1 89 k = H k := if_pos hk
theorem mst_90 {σ : St} {L H : Nat → Int32} {d : Nat} (hd : d < 10) : (mst σ L H).1 90 d = L (144 + d) := if_pos hd
theorem mst_91 {σ : St} {L H : Nat → Int32} {d : Nat} (hd : d < 10) : (mst σ L H).1 91 d = H (144 + d) := if_pos hd
theorem jn_upd {L r : Nat → Int32} {k j : Nat} {x : Int32} (hk : k < 144) : jn (upd L k x) r j = if j = k then x else jn L r j := by
  unfold jn upd
  by_cases e : j = k
  · subst e; simp [hk]
  · simp [e]
theorem jd_upd {L r : Nat → Int32} {k j : Nat} {x : Int32} (hk : k < 144) : jd (upd L k x) r j = jd L r j := by
  unfold jd upd
  split
  · rw [if_neg (by omega)]
  · rfl
theorem jn_updD {L r : Nat → Int32} {d j : Nat} {x : Int32} : jn (upd L (144 + d) x) r j = jn L r j := by
  unfold jn upd
  split
  · rw [if_neg (by omega)]
  · rfl
theorem jd_updD {L r : Nat → Int32} {d j : Nat} {x : Int32} (hd : d < 10) : jd (upd L (144 + d) x) r j = if j = d then x else jd L r j := by
  unfold jd upd
  by_cases e : j = d
  · subst e; simp [hd]
  · have : ¬ 144 + j = 144 + d := by omega
    simp [e]
theorem mst_w88 {σ : St} {L H : Nat → Int32} {k : Nat} {x : Int32} (hk : k < 144) : wr (mst σ L H) 88 k x = mst σ (upd L k x) H := by
  refine St_ext (fun c j => ?_) rfl
  unfold mst
  rw [wr_get]
  simp only [setR_get]
  by_cases h : c = 88
  · subst h; simp [jn_upd hk]
  · by_cases h2 : c = 90
    · subst h2; simp [jd_upd hk]
    · simp [h, h2]
theorem mst_w89 {σ : St} {L H : Nat → Int32} {k : Nat} {x : Int32} (hk : k < 144) : wr (mst σ L H) 89 k x = mst σ L (upd H k x) := by
  refine St_ext (fun c j => ?_) rfl
  unfold mst
  rw [wr_get]
  simp only [setR_get]
  by_cases h : c = 89
  · subst h; simp [jn_upd hk]
  · by_cases h2 : c = 91
    · subst h2; simp [jd_upd hk]
    · simp [h, h2]
theorem mst_w90 {σ : St} {L H : Nat → Int32} {d : Nat} {x : Int32} (hd : d < 10) : wr (mst σ L H) 90 d x = mst σ (upd L (144 + d) x) H := by
  refine St_ext (fun c j => ?_) rfl
  unfold mst
  rw [wr_get]
  simp only [setR_get]
  by_cases h : c = 90
  · subst h; simp [jd_updD hd]
  · by_cases h2 : c = 88
    · subst h2; simp [jn_updD]
    · simp [h, h2]
theorem mst_w91 {σ : St} {L H : Nat → Int32} {d : Nat} {x : Int32} (hd : d < 10) : wr (mst σ L H) 91 d x = mst σ L (upd H (144 + d) x) := by
  refine St_ext (fun c j => ?_) rfl
  unfold mst
  rw [wr_get]
  simp only [setR_get]
  by_cases h : c = 91
  · subst h; simp [jd_updD hd]
  · by_cases h2 : c = 89
    · subst h2; simp [jn_updD]
    · simp [h, h2]
/-- down a core, before the j-th inch of it -/
def PdI (sk : Nat → Int32) (tE : Nat → Nat → Prop) (top j : Nat) (L : Nat → Int32) (mv : Int32) (L' : Nat → Int32) (f mv' : Int32) : Prop :=
  (∀ u, L u ≤ L' u) ∧ (∀ u, u < top ∨ top + j ≤ u → L' u = L u) ∧ (∀ a b, top ≤ a → a < b → b < top + j → sk a = 0 → sk b = 0 → L' a ≤ L' b) ∧
      (∀ a, top ≤ a → a < top + j → sk a = 0 → L' a ≤ f) ∧
      (∀ F : Nat → Int, Clo (cEd sk) tE F → (∀ u, iv L u ≤ F u) → (∀ u, 0 ≤ F u) → (∀ u, iv L' u ≤ F u) ∧ ∀ b, top + j ≤ b → b < top + 24 → sk b = 0 → f.toInt ≤ F b) ∧ (mv' = 0 ∨ mv' = 1) ∧ (mv' = 0 → mv = 0 ∧ L' = L) ∧ (¬ mv' = 0 → ¬ mv = 0 ∨ ∃ u, u < 154 ∧ L u < L' u)
theorem PdI.step {sk : Nat → Int32} {tE : Nat → Nat → Prop} {c j : Nat} {L L1 : Nat → Int32} {mv f m1 : Int32} (hc : c < 6) (hj : j < 24) (hI : PdI sk tE (24 * c) j L mv L1 f m1) (q : sk (24 * c + j) = 0) :
    PdI sk tE (24 * c) (j + 1) L mv (rz L1 (24 * c + j) f) (rz L1 (24 * c + j) f (24 * c + j)) (rzm L1 (24 * c + j) f m1) := by
  obtain ⟨a1, a2, a3, a4, a5, a6, a7, a8⟩ := hI
  refine ⟨?_, ?_, ?_, ?_, ?_, rzm_01 a6, ?_, ?_⟩
  · exact fun u => Int32.le_trans (a1 u) (rz_ge u)
  · intro u hu
    rw [rz_ne (by omega)]
    exact a2 u (by omega)
  · intro a b h1 h2 h3 h4 h5
    rw [rz_ne (show a ≠ 24 * c + j by omega)]
    by_cases e : b = 24 * c + j
    · subst e
      exact Int32.le_trans (a4 a h1 (by omega) h4) rz_v
    · rw [rz_ne e]
      exact a3 a b h1 h2 (by omega) h4 h5
  · intro a h1 h2 h3
    by_cases e : a = 24 * c + j
    · subst e; exact Int32.le_refl _
    · rw [rz_ne e]
      exact Int32.le_trans (a4 a h1 (by omega) h3) rz_v
  · intro F hF hLF h0
    obtain ⟨b1, b2⟩ := a5 F hF hLF h0
    have hm := rz_mx (k := 24 * c + j) (v := f) (by omega) b1 (b2 (24 * c + j) (by omega) (by omega) q)
    refine ⟨hm, fun b h1 h2 h3 => ?_⟩
    have := hm (24 * c + j)
    rw [iv_lt (by omega)] at this
    exact Int.le_trans this (hF.1 _ _ ⟨by omega, by omega, by omega, q, h3⟩)
  · intro hz
    obtain ⟨h1, h2⟩ := rzm_0 hz
    rw [h2]
    exact a7 h1
  · intro hz
    unfold rzm at hz
    by_cases w : f ≤ L1 (24 * c + j)
    · rw [if_pos w] at hz
      rcases a8 hz with h | ⟨u, h1, h2⟩
      · exact Or.inl h
      · exact Or.inr ⟨u, h1, Int32.lt_of_lt_of_le h2 (rz_ge u)⟩
    · refine Or.inr ⟨24 * c + j, by omega, ?_⟩
      rw [rz_at, if_pos ⟨rfl, w⟩]
      exact Int32.lt_of_le_of_lt (a1 _) (Int32.not_le.mp w)
theorem PdI.skip {sk : Nat → Int32} {tE : Nat → Nat → Prop} {top j : Nat} {L L1 : Nat → Int32} {mv f m1 : Int32} (hI : PdI sk tE top j L mv L1 f m1) (q : ¬ sk (top + j) = 0) : PdI sk tE top (j + 1) L mv L1 f m1 := by
  obtain ⟨a1, a2, a3, a4, a5, a6, a7, a8⟩ := hI
  refine ⟨a1, fun u hu => a2 u (by omega), fun a b h1 h2 h3 h4 h5 => ?_, fun a h1 h2 h3 => ?_, fun F hF hLF h0 => ?_, a6, a7, a8⟩
  · exact a3 a b h1 h2 (Nat.lt_of_le_of_ne (by omega) (fun e => q (e ▸ h5))) h4 h5
  · exact a4 a h1 (Nat.lt_of_le_of_ne (by omega) (fun e => q (e ▸ h3))) h3
  · obtain ⟨b1, b2⟩ := a5 F hF hLF h0
    exact ⟨b1, fun b h1 h2 h3 => b2 b (by omega) h2 h3⟩
theorem PdI.zero {sk : Nat → Int32} {tE : Nat → Nat → Prop} {top : Nat} {L : Nat → Int32} {mv : Int32} (hm : mv = 0 ∨ mv = 1) : PdI sk tE top 0 L mv L 0 mv :=
  ⟨fun u => Int32.le_refl _, fun u _ => rfl, fun a b h1 h2 h3 => by omega, fun a h1 h2 => by omega, fun F hF hLF h0 => ⟨hLF, fun b _ _ _ => h0 b⟩, hm, fun h => ⟨h, rfl⟩, fun h => Or.inl h⟩
theorem PdI.done {sk : Nat → Int32} {tE : Nat → Nat → Prop} {top : Nat} {L L1 : Nat → Int32} {mv f m1 : Int32} (hI : PdI sk tE top 24 L mv L1 f m1) : PdQ sk tE top L mv L1 m1 ∧ (¬ m1 = 0 → ¬ mv = 0 ∨ ∃ u, u < 154 ∧ L u < L1 u) := by
  obtain ⟨a1, a2, a3, a4, a5, a6, a7, a8⟩ := hI
  exact ⟨⟨a1, a2, a3, fun F hF hLF h0 => (a5 F hF hLF h0).1, a6, a7⟩, a8⟩
