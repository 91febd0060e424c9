/-! loops, rows that are set -/
theorem loopN (n : Nat) (G : Nat → Prop) (hs : ∀ i, i < n → G (i + 1) → G i) (hn : G n) : ∀ i, i ≤ n → G i := by
  intro i hi
  obtain ⟨k, hk⟩ : ∃ k, k + i = n := ⟨n - i, by omega⟩
  clear hi
  induction k generalizing i with
  | zero => rw [show i = n by omega]; exact hn
  | succ k ih => exact hs i (by omega) (ih (i + 1) (by omega))
/-- with an invariant of what the loop carries -/
theorem loopI {α : Type} (n : Nat) (I : Nat → α → Prop) (G : Nat → α → Prop) (hs : ∀ i x, i < n → I i x → ∃ x', I (i + 1) x' ∧ (G (i + 1) x' → G i x)) (hn : ∀ x, I n x → G n x) : ∀ i x, i ≤ n → I i x → G i x := by
  intro i x hi hx
  obtain ⟨k, hk⟩ : ∃ k, k + i = n := ⟨n - i, by omega⟩
  clear hi
  induction k generalizing i x with
  | zero => rw [show i = n by omega] at hx ⊢; exact hn x hx
  | succ k ih =>
    obtain ⟨x', h1, h2⟩ := hs i x (by omega) hx
    exact h2 (ih (i + 1) x' h1 (by omega))
theorem St_ext {σ τ : St} (h : ∀ c k, σ.1 c k = τ.1 c k) (h2 : σ.2 = τ.2) : σ = τ := Prod.ext (by funext c k; exact h c k) h2
theorem setR_self {σ : St} {c : Nat} : setR σ c (σ.1 c) = σ := by
  refine St_ext (fun a k => ?_) rfl
  unfold setR
  by_cases h : a = c <;> simp [h]
theorem setR2 {σ : St} {c : Nat} {f g : Nat → Int32} : setR (setR σ c f) c g = setR σ c g := by
  refine St_ext (fun a k => ?_) rfl
  unfold setR
  by_cases h : a = c <;> simp [h]
theorem setR_comm {σ : St} {c d : Nat} {f g : Nat → Int32} (h : c ≠ d) : setR (setR σ c f) d g = setR (setR σ d g) c f := by
  refine St_ext (fun a k => ?_) rfl
  unfold setR
  by_cases h1 : a = c
  · subst h1; simp [h]
  · by_cases h2 : a = d
    · subst h2; simp [Ne.symm h]
    · simp [h1, h2]
theorem wr_setR {σ : St} {c k : Nat} {f : Nat → Int32} {v : Int32} : wr (setR σ c f) c k v = setR σ c (upd f k v) := by
  unfold wr
  rw [setR2, setR_eq]
theorem wr_eq {σ : St} {c k : Nat} {v : Int32} : wr σ c k v = setR σ c (upd (σ.1 c) k v) := rfl
theorem wr_setR_ne {σ : St} {c d k : Nat} {f : Nat → Int32} {v : Int32} (h : c ≠ d) : wr (setR σ c f) d k v = setR (wr σ d k v) c f := by
  unfold wr
  rw [setR_comm h, setR_ne (Ne.symm h)]
theorem wr_2r {σ : St} {a b k j : Nat} {F H : Nat → Int32} {x y : Int32} (h : a ≠ b) : wr (wr (setR (setR σ a F) b H) a k x) b j y = setR (setR σ a (upd F k x)) b (upd H j y) := by
  rw [setR_comm h, wr_setR, setR_comm (Ne.symm h), wr_setR]
theorem upd_s {f : Nat → Int32} {k : Nat} {v : Int32} : upd f k v k = v := by simp [upd]
theorem upd_n {f : Nat → Int32} {k j : Nat} {v : Int32} (h : j ≠ k) : upd f k v j = f j := by simp [upd, h]
theorem nI_ne {a b : Nat} (ha : a < 2 ^ 31) (hb : b < 2 ^ 31) (h : a ≠ b) : nI a ≠ nI b := fun q => h ((nI_eq ha hb).mp q)
theorem nI_S {i : Nat} : nI i + 1 = nI (i + 1) := nI_1 i
/-! Arrays.fill, on the rows that are filled -/
def filR (v : Int32) (n : Nat) (f : Nat → Int32) : Nat → Int32 := fun k => if k < n then v else f k
theorem filR_S {v : Int32} {n : Nat} {f : Nat → Int32} : upd (filR v n f) n v = filR v (n + 1) f := by
  funext k
  unfold upd filR
  by_cases h : k = n
  · subst h; simp
  · by_cases h2 : k < n
    · simp [h, h2, Nat.lt_succ_of_lt h2]
    · have : ¬ k < n + 1 := by omega
      simp [h, h2, this]
theorem filR_0 {v : Int32} {f : Nat → Int32} : filR v 0 f = f := by funext k; simp [filR]
set_option maxRecDepth 20000 in
theorem g_211_0_31 {σ S : St} {R : List Value} {v : Int32} (h : Go 211 5 [.ref 31, .int v, .int 0, .int 432] [] σ R S) : Ret 211 [.ref 31, .int v] σ R S := Go.run [(5, [true, true, true, true])] 10 rfl h
set_option maxRecDepth 20000 in
theorem g_211_5_31 {σ S : St} {R : List Value} {v i : Int32} (h : ((i < 432 → vp_in i 432 ∧ Go 211 5 [.ref 31, .int v, .int (i + 1), .int 432] [] (wr σ 31 i.toNatClampNeg v) R S) ∧ (¬ i < 432 → (R = [] ∧ S = σ)))) : Go 211 5 [.ref 31, .int v, .int i, .int 432] [] σ R S := Go.run [(5, [true, true, true, true])] 16 rfl h
theorem s_211_31 {σ : St} {v : Int32} : Ret 211 [.ref 31, .int v] σ [] (setR σ 31 (filR v 432 (σ.1 31))) := by
  refine g_211_0_31 ?_
  have := loopN 432 (fun i => Go 211 5 [.ref 31, .int v, .int (nI i), .int 432] [] (setR σ 31 (filR v i (σ.1 31))) [] (setR σ 31 (filR v 432 (σ.1 31)))) ?_ ?_ 0 (by decide)
  · rw [filR_0, setR_self] at this
    exact this
  · intro i hi h
    refine g_211_5_31 (br_t ((nI_ltL (n := 432) rfl (by omega) (by decide)).mpr hi) ⟨vp_in_nI hi (by decide), ?_⟩)
    rw [clN (by omega), wr_setR, filR_S, nI_S]
    exact h
  · exact g_211_5_31 (br_f (by decide) ⟨rfl, rfl⟩)
set_option maxRecDepth 20000 in
theorem g_211_0_32 {σ S : St} {R : List Value} {v : Int32} (h : Go 211 5 [.ref 32, .int v, .int 0, .int 432] [] σ R S) : Ret 211 [.ref 32, .int v] σ R S := Go.run [(5, [true, true, true, true])] 10 rfl h
set_option maxRecDepth 20000 in
theorem g_211_5_32 {σ S : St} {R : List Value} {v i : Int32} (h : ((i < 432 → vp_in i 432 ∧ Go 211 5 [.ref 32, .int v, .int (i + 1), .int 432] [] (wr σ 32 i.toNatClampNeg v) R S) ∧ (¬ i < 432 → (R = [] ∧ S = σ)))) : Go 211 5 [.ref 32, .int v, .int i, .int 432] [] σ R S := Go.run [(5, [true, true, true, true])] 16 rfl h
theorem s_211_32 {σ : St} {v : Int32} : Ret 211 [.ref 32, .int v] σ [] (setR σ 32 (filR v 432 (σ.1 32))) := by
  refine g_211_0_32 ?_
  have := loopN 432 (fun i => Go 211 5 [.ref 32, .int v, .int (nI i), .int 432] [] (setR σ 32 (filR v i (σ.1 32))) [] (setR σ 32 (filR v 432 (σ.1 32)))) ?_ ?_ 0 (by decide)
  · rw [filR_0, setR_self] at this
    exact this
  · intro i hi h
    refine g_211_5_32 (br_t ((nI_ltL (n := 432) rfl (by omega) (by decide)).mpr hi) ⟨vp_in_nI hi (by decide), ?_⟩)
    rw [clN (by omega), wr_setR, filR_S, nI_S]
    exact h
  · exact g_211_5_32 (br_f (by decide) ⟨rfl, rfl⟩)
set_option maxRecDepth 20000 in
theorem g_211_0_51 {σ S : St} {R : List Value} {v : Int32} (h : Go 211 5 [.ref 51, .int v, .int 0, .int 10] [] σ R S) : Ret 211 [.ref 51, .int v] σ R S := Go.run [(5, [true, true, true, true])] 10 rfl h
set_option maxRecDepth 20000 in
theorem g_211_5_51 {σ S : St} {R : List Value} {v i : Int32} (h : ((i < 10 → vp_in i 10 ∧ Go 211 5 [.ref 51, .int v, .int (i + 1), .int 10] [] (wr σ 51 i.toNatClampNeg v) R S) ∧ (¬ i < 10 → (R = [] ∧ S = σ)))) : Go 211 5 [.ref 51, .int v, .int i, .int 10] [] σ R S := Go.run [(5, [true, true, true, true])] 16 rfl h
theorem s_211_51 {σ : St} {v : Int32} : Ret 211 [.ref 51, .int v] σ [] (setR σ 51 (filR v 10 (σ.1 51))) := by
  refine g_211_0_51 ?_
  have := loopN 10 (fun i => Go 211 5 [.ref 51, .int v, .int (nI i), .int 10] [] (setR σ 51 (filR v i (σ.1 51))) [] (setR σ 51 (filR v 10 (σ.1 51)))) ?_ ?_ 0 (by decide)
  · rw [filR_0, setR_self] at this
    exact this
  · intro i hi h
    refine g_211_5_51 (br_t ((nI_ltL (n := 10) rfl (by omega) (by decide)).mpr hi) ⟨vp_in_nI hi (by decide), ?_⟩)
    rw [clN (by omega), wr_setR, filR_S, nI_S]
    exact h
  · exact g_211_5_51 (br_f (by decide) ⟨rfl, rfl⟩)
set_option maxRecDepth 20000 in
theorem g_211_0_45 {σ S : St} {R : List Value} {v : Int32} (h : Go 211 5 [.ref 45, .int v, .int 0, .int 144] [] σ R S) : Ret 211 [.ref 45, .int v] σ R S := Go.run [(5, [true, true, true, true])] 10 rfl h
set_option maxRecDepth 20000 in
theorem g_211_5_45 {σ S : St} {R : List Value} {v i : Int32} (h : ((i < 144 → vp_in i 144 ∧ Go 211 5 [.ref 45, .int v, .int (i + 1), .int 144] [] (wr σ 45 i.toNatClampNeg v) R S) ∧ (¬ i < 144 → (R = [] ∧ S = σ)))) : Go 211 5 [.ref 45, .int v, .int i, .int 144] [] σ R S := Go.run [(5, [true, true, true, true])] 16 rfl h
theorem s_211_45 {σ : St} {v : Int32} : Ret 211 [.ref 45, .int v] σ [] (setR σ 45 (filR v 144 (σ.1 45))) := by
  refine g_211_0_45 ?_
  have := loopN 144 (fun i => Go 211 5 [.ref 45, .int v, .int (nI i), .int 144] [] (setR σ 45 (filR v i (σ.1 45))) [] (setR σ 45 (filR v 144 (σ.1 45)))) ?_ ?_ 0 (by decide)
  · rw [filR_0, setR_self] at this
    exact this
  · intro i hi h
    refine g_211_5_45 (br_t ((nI_ltL (n := 144) rfl (by omega) (by decide)).mpr hi) ⟨vp_in_nI hi (by decide), ?_⟩)
    rw [clN (by omega), wr_setR, filR_S, nI_S]
    exact h
  · exact g_211_5_45 (br_f (by decide) ⟨rfl, rfl⟩)
set_option maxRecDepth 20000 in
theorem g_211_0_46 {σ S : St} {R : List Value} {v : Int32} (h : Go 211 5 [.ref 46, .int v, .int 0, .int 10] [] σ R S) : Ret 211 [.ref 46, .int v] σ R S := Go.run [(5, [true, true, true, true])] 10 rfl h
set_option maxRecDepth 20000 in
theorem g_211_5_46 {σ S : St} {R : List Value} {v i : Int32} (h : ((i < 10 → vp_in i 10 ∧ Go 211 5 [.ref 46, .int v, .int (i + 1), .int 10] [] (wr σ 46 i.toNatClampNeg v) R S) ∧ (¬ i < 10 → (R = [] ∧ S = σ)))) : Go 211 5 [.ref 46, .int v, .int i, .int 10] [] σ R S := Go.run [(5, [true, true, true, true])] 16 rfl h
theorem s_211_46 {σ : St} {v : Int32} : Ret 211 [.ref 46, .int v] σ [] (setR σ 46 (filR v 10 (σ.1 46))) := by
  refine g_211_0_46 ?_
  have := loopN 10 (fun i => Go 211 5 [.ref 46, .int v, .int (nI i), .int 10] [] (setR σ 46 (filR v i (σ.1 46))) [] (setR σ 46 (filR v 10 (σ.1 46)))) ?_ ?_ 0 (by decide)
  · rw [filR_0, setR_self] at this
    exact this
  · intro i hi h
    refine g_211_5_46 (br_t ((nI_ltL (n := 10) rfl (by omega) (by decide)).mpr hi) ⟨vp_in_nI hi (by decide), ?_⟩)
    rw [clN (by omega), wr_setR, filR_S, nI_S]
    exact h
  · exact g_211_5_46 (br_f (by decide) ⟨rfl, rfl⟩)
/-! what a grain truly is -/
/-- grains are well told -/
def GW (σ : St) (n : Nat) : Prop := n ≤ 60 ∧ σ.1 4 7 = nI n ∧ (∀ g, g < n → ∃ l, l < 144 ∧ σ.1 27 g = nI l) ∧ (∀ g, g < n → ∃ h, h < 3 ∧ σ.1 28 g = nI h)
theorem i3 {g s : Nat} (hg : g < 60) (hs : s < 3) : (nI g * 3 + nI s).toNatClampNeg = 3 * g + s := by rw [mul3]; exact clN (by omega)
theorem i3' {g s : Nat} (hg : g < 60) (hs : s < 3) : (3 * nI g + nI s).toNatClampNeg = 3 * g + s := by rw [mul3']; exact clN (by omega)
theorem v3 {g s n : Nat} (h : 3 * g + s < n) (hn : n < 2 ^ 31) : vp_in (nI g * 3 + nI s) n := by rw [mul3]; exact vp_in_nI h hn
theorem v3' {g s n : Nat} (h : 3 * g + s < n) (hn : n < 2 ^ 31) : vp_in (3 * nI g + nI s) n := by rw [mul3']; exact vp_in_nI h hn
theorem s_33 {τ : St} {g s h : Nat} (hg : g < 60) (hs : s < 3) (hh : h < 3) (eh : τ.1 28 g = nI h) : Ret 33 [.ref 4, .int (nI g), .int (nI s)] τ [.int (tLo (τ.1 29) (τ.1 28) (τ.1 20) (τ.1 3 10) g s)] τ := by
  have eg : (nI g).toNatClampNeg = g := clN (by omega)
  refine (g_33_0 ⟨(v3 (by omega) (by decide)), ⟨(vp_in_nI (by omega) (by decide)), ⟨(by rw [eg, eh]; exact v3 (by omega) (by decide)), ⟨?_, rfl⟩⟩⟩⟩)
  unfold tLo
  rw [eg, i3 hg hs, eh, i3 (by omega) hs, clN (by omega)]
theorem s_34 {τ : St} {g s h : Nat} (hg : g < 60) (hs : s < 3) (hh : h < 3) (eh : τ.1 28 g = nI h) : Ret 34 [.ref 4, .int (nI g), .int (nI s)] τ [.int (tHi (τ.1 29) (τ.1 28) (τ.1 19) (τ.1 3 10) g s)] τ := by
  have eg : (nI g).toNatClampNeg = g := clN (by omega)
  refine (g_34_0 ⟨(v3 (by omega) (by decide)), ⟨(vp_in_nI (by omega) (by decide)), ⟨(by rw [eg, eh]; exact v3 (by omega) (by decide)), ⟨?_, rfl⟩⟩⟩⟩)
  unfold tHi
  rw [eg, i3 hg hs, eh, i3 (by omega) hs, clN (by omega)]
theorem s_136a {τ : St} {g s h : Nat} (hg : g < 60) (hs : s < 3) (hh : h < 3) (eh : τ.1 60 g = nI h) : Ret 136 [.ref 11, .int (nI g), .int (nI s), .int 0] τ [.int (tLo (τ.1 61) (τ.1 60) (τ.1 53) (τ.1 11 0) g s)] τ := by
  have eg : (nI g).toNatClampNeg = g := clN (by omega)
  refine (g_136_0 ⟨(v3' (by omega) (by decide)), ⟨(vp_in_nI (by omega) (by decide)), (br_t rfl ⟨(by rw [eg, eh]; exact v3' (by omega) (by decide)), ⟨?_, rfl⟩⟩)⟩⟩)
  unfold tLo
  rw [eg, i3' hg hs, eh, i3' (by omega) hs, clN (by omega)]
theorem s_136b {τ : St} {g s h : Nat} {e : Int32} (he : ¬ e = 0) (hg : g < 60) (hs : s < 3) (hh : h < 3) (eh : τ.1 60 g = nI h) : Ret 136 [.ref 11, .int (nI g), .int (nI s), .int e] τ [.int (tHi (τ.1 61) (τ.1 60) (τ.1 52) (τ.1 11 0) g s)] τ := by
  have eg : (nI g).toNatClampNeg = g := clN (by omega)
  refine (g_136_0 ⟨(v3' (by omega) (by decide)), ⟨(vp_in_nI (by omega) (by decide)), (br_f he ⟨(by rw [eg, eh]; exact v3' (by omega) (by decide)), ⟨?_, rfl⟩⟩)⟩⟩)
  unfold tHi
  rw [eg, i3' hg hs, eh, i3' (by omega) hs, clN (by omega)]
/-! all glass is weighed anew -/
def FM (ln : Nat → Int32) (t : Nat → Nat → Int32) (old : Nat → Int32) (i s j : Nat) : Int32 := if j < 432 then gLo ln (t (j % 3)) (nI (j / 3)) (if j % 3 < s then i + 1 else i) else old j
def FH (ln : Nat → Int32) (t : Nat → Nat → Int32) (old : Nat → Int32) (i s j : Nat) : Int32 := if j < 432 then gHi ln (t (j % 3)) (nI (j / 3)) (if j % 3 < s then i + 1 else i) else old j
theorem FM_step {ln : Nat → Int32} {t : Nat → Nat → Int32} {old : Nat → Int32} {i s l : Nat} (hl : l < 144) (hs : s < 3) (el : ln i = nI l) : upd (FM ln t old i s) (3 * l + s) (if t s i < FM ln t old i s (3 * l + s) then t s i else FM ln t old i s (3 * l + s)) = FM ln t old i (s + 1) := by
  funext j
  by_cases hj : j = 3 * l + s
  · subst hj
    have v1 : FM ln t old i s (3 * l + s) = gLo ln (t s) (nI l) i := by
      unfold FM
      rw [if_pos (show 3 * l + s < 432 by omega), show (3 * l + s) % 3 = s by omega, show (3 * l + s) / 3 = l by omega, if_neg (show ¬ s < s by omega)]
    have v2 : FM ln t old i (s + 1) (3 * l + s) = gLo ln (t s) (nI l) (i + 1) := by
      unfold FM
      rw [if_pos (show 3 * l + s < 432 by omega), show (3 * l + s) % 3 = s by omega, show (3 * l + s) / 3 = l by omega, if_pos (show s < s + 1 by omega)]
    rw [upd_s, v1, v2, gLo, if_pos el]
  · rw [upd_n hj]
    unfold FM
    by_cases h4 : j < 432
    · rw [if_pos h4, if_pos h4]
      by_cases h5 : j % 3 < s
      · rw [if_pos h5, if_pos (by omega)]
      · rw [if_neg h5]
        by_cases h6 : j % 3 < s + 1
        · rw [if_pos h6]
          show _ = gLo ln (t (j % 3)) (nI (j / 3)) (i + 1)
          rw [gLo, if_neg (by rw [el]; exact nI_ne (by omega) (by omega) (by omega))]
        · rw [if_neg h6]
    · rw [if_neg h4, if_neg h4]
theorem FH_step {ln : Nat → Int32} {t : Nat → Nat → Int32} {old : Nat → Int32} {i s l : Nat} (hl : l < 144) (hs : s < 3) (el : ln i = nI l) : upd (FH ln t old i s) (3 * l + s) (if FH ln t old i s (3 * l + s) < t s i then t s i else FH ln t old i s (3 * l + s)) = FH ln t old i (s + 1) := by
  funext j
  by_cases hj : j = 3 * l + s
  · subst hj
    have v1 : FH ln t old i s (3 * l + s) = gHi ln (t s) (nI l) i := by
      unfold FH
      rw [if_pos (show 3 * l + s < 432 by omega), show (3 * l + s) % 3 = s by omega, show (3 * l + s) / 3 = l by omega, if_neg (show ¬ s < s by omega)]
    have v2 : FH ln t old i (s + 1) (3 * l + s) = gHi ln (t s) (nI l) (i + 1) := by
      unfold FH
      rw [if_pos (show 3 * l + s < 432 by omega), show (3 * l + s) % 3 = s by omega, show (3 * l + s) / 3 = l by omega, if_pos (show s < s + 1 by omega)]
    rw [upd_s, v1, v2, gHi, if_pos el]
  · rw [upd_n hj]
    unfold FH
    by_cases h4 : j < 432
    · rw [if_pos h4, if_pos h4]
      by_cases h5 : j % 3 < s
      · rw [if_pos h5, if_pos (by omega)]
      · rw [if_neg h5]
        by_cases h6 : j % 3 < s + 1
        · rw [if_pos h6]
          show _ = gHi ln (t (j % 3)) (nI (j / 3)) (i + 1)
          rw [gHi, if_neg (by rw [el]; exact nI_ne (by omega) (by omega) (by omega))]
        · rw [if_neg h6]
    · rw [if_neg h4, if_neg h4]
theorem FM_3 {ln : Nat → Int32} {t : Nat → Nat → Int32} {old : Nat → Int32} {i : Nat} : FM ln t old i 3 = FM ln t old (i + 1) 0 := by
  funext j
  unfold FM
  rw [if_pos (show j % 3 < 3 by omega), if_neg (show ¬ j % 3 < 0 by omega)]
theorem FH_3 {ln : Nat → Int32} {t : Nat → Nat → Int32} {old : Nat → Int32} {i : Nat} : FH ln t old i 3 = FH ln t old (i + 1) 0 := by
  funext j
  unfold FH
  rw [if_pos (show j % 3 < 3 by omega), if_neg (show ¬ j % 3 < 0 by omega)]
def wgL (σ : St) (i s : Nat) : Nat → Int32 := FM (σ.1 27) (fun s g => tLo (σ.1 29) (σ.1 28) (σ.1 20) (σ.1 3 10) g s) (σ.1 31) i s
def wgH (σ : St) (i s : Nat) : Nat → Int32 := FH (σ.1 27) (fun s g => tHi (σ.1 29) (σ.1 28) (σ.1 19) (σ.1 3 10) g s) (σ.1 32) i s
theorem s_35 {σ : St} {n : Nat} (hw : GW σ n) : Ret 35 [.ref 4] σ [] (setR (setR σ 31 (wgL σ n 0)) 32 (wgH σ n 0)) := by
  obtain ⟨hn, en, hl, hh⟩ := hw
  refine g_35_0 ⟨_, s_211_31, _, s_211_32, ?_⟩
  have e0 : setR (setR σ 31 (filR 1000000 432 (σ.1 31))) 32 (filR (-1000000) 432 ((setR σ 31 (filR 1000000 432 (σ.1 31))).1 32)) = setR (setR σ 31 (wgL σ 0 0)) 32 (wgH σ 0 0) := by
    have a1 : filR 1000000 432 (σ.1 31) = wgL σ 0 0 := by
      funext j
      unfold wgL FM filR
      split
      · rw [if_neg (show ¬ j % 3 < 0 by omega)]; rfl
      · rfl
    have a2 : filR (-1000000) 432 (σ.1 32) = wgH σ 0 0 := by
      funext j
      unfold wgH FH filR
      split
      · rw [if_neg (show ¬ j % 3 < 0 by omega)]; rfl
      · rfl
    rw [setR_ne (by decide), a1, a2]
  rw [e0]
  refine loopN n (fun i => Go 35 20 [.ref 4, .int (nI i), .null, .null] [] (setR (setR σ 31 (wgL σ i 0)) 32 (wgH σ i 0)) [] (setR (setR σ 31 (wgL σ n 0)) 32 (wgH σ n 0))) ?_ ?_ 0 (by omega)
  · intro i hi hnext
    refine g_35_20 (br_t ?_ ?_)
    · show nI i < σ.1 4 7
      rw [en]; exact (nI_ltI (by omega) (by omega)).mpr hi
    · obtain ⟨l, hl1, el⟩ := hl i hi
      obtain ⟨h, hh1, eh⟩ := hh i hi
      have ei : (nI i).toNatClampNeg = i := clN (by omega)
      refine loopN 3 (fun s => Go 35 30 [.ref 4, .int (nI i), .int (nI s), .null] [] (setR (setR σ 31 (wgL σ i s)) 32 (wgH σ i s)) [] (setR (setR σ 31 (wgL σ n 0)) 32 (wgH σ n 0))) ?_ ?_ 0 (by omega)
      · intro s hs hnx
        have eat : ((nI l * 3) + nI s : Int32).toNatClampNeg = 3 * l + s := by rw [mul3]; exact clN (by omega)
        refine g_35_30 (br_t ((nI_ltL (n := 3) rfl (by omega) (by decide)).mpr hs) ⟨vp_in_nI (by omega) (by decide), ?_, _, _, s_33 (by omega) hs hh1 eh, _, _, s_34 (by omega) hs hh1 eh, ?_⟩)
        · show vp_in (σ.1 27 (nI i).toNatClampNeg * 3 + nI s) 432
          rw [ei, el]; exact v3 (by omega) (by decide)
        · rw [wr_2r (by decide)]
          show Go 35 30 [.ref 4, .int (nI i), .int (nI s + 1), .null] [] (setR (setR σ 31 (upd (wgL σ i s) (σ.1 27 (nI i).toNatClampNeg * 3 + nI s).toNatClampNeg (if tLo (σ.1 29) (σ.1 28) (σ.1 20) (σ.1 3 10) i s < wgL σ i s (σ.1 27 (nI i).toNatClampNeg * 3 + nI s).toNatClampNeg then tLo (σ.1 29) (σ.1 28) (σ.1 20) (σ.1 3 10) i s else wgL σ i s (σ.1 27 (nI i).toNatClampNeg * 3 + nI s).toNatClampNeg))) 32 (upd (wgH σ i s) (σ.1 27 (nI i).toNatClampNeg * 3 + nI s).toNatClampNeg (if wgH σ i s (σ.1 27 (nI i).toNatClampNeg * 3 + nI s).toNatClampNeg < tHi (σ.1 29) (σ.1 28) (σ.1 19) (σ.1 3 10) i s then tHi (σ.1 29) (σ.1 28) (σ.1 19) (σ.1 3 10) i s else wgH σ i s (σ.1 27 (nI i).toNatClampNeg * 3 + nI s).toNatClampNeg))) [] _
          rw [ei, el, eat, nI_S]
          have f1 := FM_step (t := fun s g => tLo (σ.1 29) (σ.1 28) (σ.1 20) (σ.1 3 10) g s) (old := σ.1 31) hl1 hs el
          have f2 := FH_step (t := fun s g => tHi (σ.1 29) (σ.1 28) (σ.1 19) (σ.1 3 10) g s) (old := σ.1 32) hl1 hs el
          unfold wgL wgH
          rw [f1, f2]
          exact hnx
      · refine g_35_30 (br_f (by decide) ?_)
        rw [nI_S]
        have : wgL σ i 3 = wgL σ (i + 1) 0 := FM_3
        rw [this]
        have : wgH σ i 3 = wgH σ (i + 1) 0 := FH_3
        rw [this]
        exact hnext
  · refine g_35_20 (br_f ?_ ⟨rfl, rfl⟩)
    show ¬ nI n < σ.1 4 7
    rw [en]; exact Int32.lt_irrefl
