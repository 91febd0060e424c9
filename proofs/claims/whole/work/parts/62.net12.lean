/-! layNet, whole -/
def cpj (f g : Nat → Int32) (j u : Nat) : Int32 := if u < j then f u else g u
def ms1 (σ : St) (j : Nat) : St := setR (setR σ 88 (cpj (σ.1 72) (σ.1 88) j)) 89 (cpj (σ.1 73) (σ.1 89) j)
def ms2 (σ : St) (j : Nat) : St := setR (setR (ms1 σ 144) 90 (cpj (σ.1 70) (σ.1 90) j)) 91 (cpj (σ.1 71) (σ.1 91) j)
theorem cpj_S {f g : Nat → Int32} {j u : Nat} : cpj f g (j + 1) u = if u = j then f j else cpj f g j u := by
  unfold cpj
  by_cases e : u = j
  · subst e; simp
  · rw [if_neg e]
    by_cases h : u < j
    · rw [if_pos h, if_pos (by omega)]
    · rw [if_neg h, if_neg (by omega)]
theorem ms1_S {σ : St} {j : Nat} : wr (wr (ms1 σ j) 88 j (σ.1 72 j)) 89 j (σ.1 73 j) = ms1 σ (j + 1) := by
  refine St_ext (fun c u => ?_) rfl
  unfold ms1
  rw [wr_get, wr_get]
  simp only [setR_get]
  by_cases h : c = 88
  · subst h; simp [cpj_S]
  · by_cases h2 : c = 89
    · subst h2; simp [cpj_S]
    · simp [h, h2]
theorem ms2_S {σ : St} {j : Nat} : wr (wr (ms2 σ j) 90 j (σ.1 70 j)) 91 j (σ.1 71 j) = ms2 σ (j + 1) := by
  refine St_ext (fun c u => ?_) rfl
  unfold ms2
  rw [wr_get, wr_get]
  simp only [setR_get]
  by_cases h : c = 90
  · subst h; simp [cpj_S]
  · by_cases h2 : c = 91
    · subst h2; simp [cpj_S]
    · simp [h, h2]
theorem ms1_0 {σ : St} : ms1 σ 0 = σ := by
  refine St_ext (fun c u => ?_) rfl
  unfold ms1
  simp only [setR_get]
  by_cases h : c = 89
  · subst h; simp [cpj]
  · by_cases h2 : c = 88
    · subst h2; simp [cpj]
    · simp [h, h2]
theorem ms2_0 {σ : St} : ms2 σ 0 = ms1 σ 144 := by
  refine St_ext (fun c u => ?_) rfl
  unfold ms2
  simp only [setR_get]
  by_cases h : c = 91
  · subst h; simp [cpj, ms1, setR_get]
  · by_cases h2 : c = 90
    · subst h2; simp [cpj, ms1, setR_get]
    · simp [h, h2]
def cat (f g : Nat → Int32) (u : Nat) : Int32 := if u < 144 then f u else g (u - 144)
theorem cpj_jn {f g r : Nat → Int32} : cpj f r 144 = jn (cat f g) r := by
  funext u
  unfold cpj jn cat
  by_cases h : u < 144
  · rw [if_pos h, if_pos h, if_pos h]
  · rw [if_neg h, if_neg h]
theorem cpj_jd {f g r : Nat → Int32} : cpj g r 10 = jd (cat f g) r := by
  funext u
  unfold cpj jd cat
  by_cases h : u < 10
  · rw [if_pos h, if_pos h, if_neg (by omega), show 144 + u - 144 = u by omega]
  · rw [if_neg h, if_neg h]
theorem ms2_mst {σ : St} : ms2 σ 10 = mst σ (cat (σ.1 72) (σ.1 70)) (cat (σ.1 73) (σ.1 71)) := by
  unfold ms2 ms1 mst
  rw [cpj_jn (g := σ.1 70), cpj_jn (g := σ.1 71), cpj_jd (f := σ.1 72), cpj_jd (f := σ.1 73)]
