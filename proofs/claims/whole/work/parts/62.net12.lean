/-! layNet, whole -/
def cpj (f g : Nat → Int32) (j u : Nat) : Int32 := if u < j then f u else g u
def ms1 (σ : St) (j : Nat) : St := setR (setR σ 88 (cpj (σ.1 72) (σ.1 88) j)) 89 (cpj (σ.1 73) (σ.1 89) j)
def ms2 (σ : St) (j : Nat) : St := setR (setR (ms1 σ 144) 90 (cpj (σ.1 70) (σ.1 90) j)) 91 (cpj (σ.1 71) (σ.1 91) j)
theorem cpj_S {f g : Nat → Int32} {j u : Nat} : cpj f g (j + 1) u = if u = j then f j else cpj f g j u := by
  unfold cpj
  by_cases e : u = j
  · subst e; simp
  · rw [if_neg e]
    by_cases h : u < j
    · rw [if_pos h, if_pos (by omega)]
    · rw [if_neg h, if_neg (by omega)]
theorem ms1_S {σ : St} {j : Nat} : wr (wr (ms1 σ j) 88 j (σ.1 72 j)) 89 j (σ.1 73 j) = ms1 σ (j + 1) := by
  refine St_ext (fun c u => ?_) rfl
  unfold ms1
  rw [wr_get, wr_get]
  simp only [setR_get]
  by_cases h : c = 88
  · subst h; simp [cpj_S]
  · by_cases h2 : c = 89
    · subst h2; simp [cpj_S]
    · simp [h, h2]
theorem ms2_S {σ : St} {j : Nat} : wr (wr (ms2 σ j) 90 j (σ.1 70 j)) 91 j (σ.1 71 j) = ms2 σ (j + 1) := by
  refine St_ext (fun c u => ?_) rfl
  unfold ms2
  rw [wr_get, wr_get]
  simp only [setR_get]
  by_cases h : c = 90
  · subst h; simp [cpj_S]
  · by_cases h2 : c = 91
    · subst h2; simp [cpj_S]
    · simp [h, h2]
theorem ms1_0 {σ : St} : ms1 σ 0 = σ := by
  refine St_ext (fun c u => ?_) rfl
  unfold ms1
  simp only [setR_get]
  by_cases h : c = 89
  · subst h; simp [cpj]
  · by_cases h2 : c = 88
    · subst h2; simp [cpj]
    · simp [h, h2]
theorem ms2_0 {σ : St} : ms2 σ 0 = ms1 σ 144 := by
  refine St_ext (fun c u => ?_) rfl
  unfold ms2
  simp only [setR_get]
  by_cases h : c = 91
  · subst h; simp [cpj, ms1, setR_get]
  · by_cases h2 : c = 90
    · subst h2; simp [cpj, ms1, setR_get]
    · simp [h, h2]
def cat (f g : Nat → Int32) (u : Nat) : Int32 := if u < 144 then f u else g (u - 144)
theorem cpj_jn {f g r : Nat → Int32} : cpj f r 144 = jn (cat f g) r := by
  funext u
  unfold cpj jn cat
  by_cases h : u < 144
  · rw [if_pos h, if_pos h, if_pos h]
  · rw [if_neg h, if_neg h]
theorem cpj_jd {f g r : Nat → Int32} : cpj g r 10 = jd (cat f g) r := by
  funext u
  unfold cpj jd cat
  by_cases h : u < 10
  · rw [if_pos h, if_pos h, if_neg (by omega), show 144 + u - 144 = u by omega]
  · rw [if_neg h, if_neg h]
theorem ms2_mst {σ : St} : ms2 σ 10 = mst σ (cat (σ.1 72) (σ.1 70)) (cat (σ.1 73) (σ.1 71)) := by
  unfold ms2 ms1 mst
  rw [cpj_jn (g := σ.1 70), cpj_jn (g := σ.1 71), cpj_jd (f := σ.1 72), cpj_jd (f := σ.1 73)]
theorem pI_iff {p q : Prop} (h : p ↔ q) : pI p = pI q := by rw [propext h]
def alB (L H : Nat → Int32) (n : Nat) : Prop := ∀ k, k < n → L k ≤ H k
theorem alB_t {L H : Nat → Int32} {n : Nat} (h : alB L H n) (q : L n ≤ H n) : alB L H (n + 1) := by
  intro k hk
  by_cases e : k = n
  · subst e; exact q
  · exact h k (by omega)
theorem alB_f {L H : Nat → Int32} {n : Nat} (h : ¬ alB L H n) : ¬ alB L H (n + 1) := fun z => h (fun k hk => z k (by omega))
theorem s_183scan {σ : St} {L H : Nat → Int32} : Go 183 322 [.ref 11, .null, .null, .int 1, .int 0, .null, .null] [] (mst σ L H) [.int (pI (alB L H 154))] (mst σ L H) := by
  have b : ∀ i, i ≤ 10 → Go 183 366 [.ref 11, .null, .null, .int (pI (alB L H (144 + i))), .int (nI i), .null, .null] [] (mst σ L H) [.int (pI (alB L H 154))] (mst σ L H) := by
    refine loopN 10 _ (fun i hi h => ?_) ?_
    · have ei : (nI i).toNatClampNeg = i := clN (by omega)
      have lt : nI i < 10 := (nI_ltL (n := 10) rfl (by omega) (by omega)).mpr hi
      refine g_183_366 (br_t lt ?_)
      rw [nI_S, ei, mst_90 hi, mst_91 hi]
      by_cases q : alB L H (144 + i)
      · by_cases q2 : L (144 + i) ≤ H (144 + i)
        · rw [pI_t (show alB L H (144 + (i + 1)) from alB_t q q2)] at h
          exact br_f (by rw [pI_t q]; decide) ⟨vp_in_nI hi (by decide), br_t q2 h⟩
        · rw [pI_f (show ¬ alB L H (144 + (i + 1)) from fun z => q2 (z _ (by omega)))] at h
          exact br_f (by rw [pI_t q]; decide) ⟨vp_in_nI hi (by decide), br_f q2 h⟩
      · rw [pI_f (show ¬ alB L H (144 + (i + 1)) from alB_f q)] at h
        exact br_t (by rw [pI_f q]) h
    · exact g_183_366 (br_f (by decide) ⟨pI_01, rfl, rfl⟩)
  have a : ∀ i, i ≤ 144 → Go 183 322 [.ref 11, .null, .null, .int (pI (alB L H i)), .int (nI i), .null, .null] [] (mst σ L H) [.int (pI (alB L H 154))] (mst σ L H) := by
    refine loopN 144 _ (fun i hi h => ?_) ?_
    · have ei : (nI i).toNatClampNeg = i := clN (by omega)
      have lt : nI i < 144 := (nI_ltL (n := 144) rfl (by omega) (by omega)).mpr hi
      refine g_183_322 (br_t lt ?_)
      rw [nI_S, ei, mst_88 hi, mst_89 hi]
      by_cases q : alB L H i
      · by_cases q2 : L i ≤ H i
        · rw [pI_t (alB_t q q2)] at h
          exact br_f (by rw [pI_t q]; decide) ⟨vp_in_nI hi (by decide), br_t q2 h⟩
        · rw [pI_f (show ¬ alB L H (i + 1) from fun z => q2 (z _ (by omega)))] at h
          exact br_f (by rw [pI_t q]; decide) ⟨vp_in_nI hi (by decide), br_f q2 h⟩
      · rw [pI_f (alB_f q)] at h
        exact br_t (by rw [pI_f q]) h
    · exact g_183_322 (br_f (by decide) (b 0 (by omega)))
  have := a 0 (by omega)
  rw [pI_t (show alB L H 0 from fun k hk => by omega)] at this
  exact this
/-- bounds the model's net starts from -/
def AgM (σ : St) : Prop := (∀ l, l < 144 → σ.1 74 l < 0 ∨ ∃ d, d < 10 ∧ σ.1 74 l = nI d) ∧ ∀ u, u < 154 → 0 ≤ cat (σ.1 72) (σ.1 70) u ∧ cat (σ.1 72) (σ.1 70) u ≤ 9999 ∧ 0 ≤ cat (σ.1 73) (σ.1 71) u ∧ cat (σ.1 73) (σ.1 71) u ≤ 9999
def NetM (σ : St) (w : Int32) (L H : Nat → Int32) : Prop := Lst (cEd (σ.1 75)) (tEd (σ.1 74) (σ.1 75) w) (iv (cat (σ.1 72) (σ.1 70))) (iv L) ∧ Lst (rvE (cEd (σ.1 75))) (tEd (σ.1 74) (σ.1 75) w) (ng (iv (cat (σ.1 73) (σ.1 71)))) (ng (iv H))
theorem s_183 {σ : St} {w : Int32} (hA : AgM σ) : ∃ r : (Nat → Int32) × (Nat → Int32), NetM σ w r.1 r.2 ∧ Ret 183 [.ref 11, .int w] σ [.int (pI (alB r.1 r.2 154))] (mst σ r.1 r.2) := by
  obtain ⟨r, h1, h2⟩ := mloop (σ := σ) (w := w) hA.1 hA.2 _ (cat (σ.1 72) (σ.1 70)) (cat (σ.1 73) (σ.1 71)) 1 (Nat.lt_succ_self _) (by decide) ⟨fun u => Int32.le_refl _, fun u => Int32.le_refl _, fun F _ h => h, fun F _ h => h⟩
  have h3 := h2 _ _ s_183scan
  rw [← ms2_mst] at h3
  refine ⟨r, h1, g_183_0 ?_⟩
  have b : ∀ i, i ≤ 10 → Go 183 41 [.ref 11, .int w, .int (nI i), .null, .null, .null, .null] [] (ms2 σ i) [.int (pI (alB r.1 r.2 154))] (mst σ r.1 r.2) := by
    refine loopN 10 _ (fun i hi h => ?_) (g_183_41 (br_f (by decide) h3))
    have ei : (nI i).toNatClampNeg = i := clN (by omega)
    have lt : nI i < 10 := (nI_ltL (n := 10) rfl (by omega) (by omega)).mpr hi
    refine g_183_41 (br_t lt ⟨vp_in_nI hi (by decide), ?_⟩)
    rw [nI_S, ei]
    have e := ms2_S (σ := σ) (j := i)
    rw [← e] at h
    exact h
  have a : ∀ i, i ≤ 144 → Go 183 2 [.ref 11, .int w, .int (nI i), .null, .null, .null, .null] [] (ms1 σ i) [.int (pI (alB r.1 r.2 154))] (mst σ r.1 r.2) := by
    refine loopN 144 _ (fun i hi h => ?_) (g_183_2 (br_f (by decide) (ms2_0 ▸ b 0 (by omega))))
    have ei : (nI i).toNatClampNeg = i := clN (by omega)
    have lt : nI i < 144 := (nI_ltL (n := 144) rfl (by omega) (by omega)).mpr hi
    refine g_183_2 (br_t lt ⟨vp_in_nI hi (by decide), ?_⟩)
    rw [nI_S, ei]
    have e := ms1_S (σ := σ) (j := i)
    rw [← e] at h
    exact h
  have := a 0 (by omega)
  rw [ms1_0] at this
  exact this
