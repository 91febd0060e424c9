/-! two lines are alike -/
def psP (c v m : Int32) : Prop := (c = 60 ∧ v < m) ∨ (¬ c = 60 ∧ c = 62 ∧ m < v) ∨ (¬ c = 60 ∧ ¬ c = 62 ∧ v = m)
def fvF (τ : St) (L H : Nat → Int32) (x : Int32) (l k : Nat) : Int32 := if x = 103 then (if τ.1 30 k < τ.1 30 l then τ.1 30 k else τ.1 30 l) else if x = 121 then agF L H l k else if x = 97 then ggF τ l k 0 else if x = 98 then ggF τ l k 1 else ggF τ l k 2
theorem s_51 {τ : St} {t : Nat} {v : Int32} (ht : t < 50) : Ret 51 [.ref 6, .int (nI t), .int v] τ [.int (pI (psP (τ.1 40 t) v (τ.1 41 t)))] τ := by
  have et : (nI t).toNatClampNeg = t := clN (by omega)
  refine g_51_0 ⟨vp_in_nI ht (by decide), ?_⟩
  rw [et]
  by_cases c1 : τ.1 40 t = 60
  · refine br_t c1 ?_
    by_cases q : v < τ.1 41 t
    · exact br_t q ⟨by rw [show pI (psP (τ.1 40 t) v (τ.1 41 t)) = 1 from pI_t (Or.inl ⟨c1, q⟩)], rfl⟩
    · exact br_f q ⟨by rw [pI_f (fun z => z.elim (fun y => q y.2) (fun y => y.elim (fun x => x.1 c1) (fun x => x.1 c1)))], rfl⟩
  · refine br_f c1 ?_
    by_cases c2 : τ.1 40 t = 62
    · refine br_t c2 ?_
      by_cases q : v ≤ τ.1 41 t
      · exact br_t q ⟨by rw [pI_f (fun z => z.elim (fun y => c1 y.1) (fun y => y.elim (fun x => absurd q (Int32.not_le.mpr x.2.2)) (fun x => x.2.1 c2)))], rfl⟩
      · exact br_f q ⟨by rw [show pI (psP (τ.1 40 t) v (τ.1 41 t)) = 1 from pI_t (Or.inr (Or.inl ⟨c1, c2, Int32.not_le.mp q⟩))], rfl⟩
    · refine br_f c2 ?_
      by_cases q : v = τ.1 41 t
      · exact br_t q ⟨by rw [show pI (psP (τ.1 40 t) v (τ.1 41 t)) = 1 from pI_t (Or.inr (Or.inr ⟨c1, c2, q⟩))], rfl⟩
      · exact br_f q ⟨by rw [pI_f (fun z => z.elim (fun y => c1 y.1) (fun y => y.elim (fun x => c2 x.2.1) (fun x => q x.2.2)))], rfl⟩
theorem s_13 {τ : St} {L H : Nat → Int32} {x : Int32} {l k : Nat} (hx : isFactS x) (hl : l < 144) (hk : k < 144) (ha : x = 121 → ∀ u, u < 154 → τ.1 14 u = L u ∧ τ.1 15 u = H u) : Ret 13 [.ref 2, .int x, .int (nI l), .int (nI k)] τ [.int (fvF τ L H x l k)] τ := by
  have el : (nI l).toNatClampNeg = l := clN (by omega)
  have ek : (nI k).toNatClampNeg = k := clN (by omega)
  refine g_13_0 ?_
  rcases hx with rfl | rfl | rfl | rfl | rfl
  · refine w_13_103 (g_13_44 ⟨vp_in_nI hl (by decide), vp_in_nI hk (by decide), ?_⟩)
    rw [el, ek]
    exact ⟨rfl, rfl⟩
  · exact w_13_97 (g_13_66 ⟨_, _, gpC (s := 0) hl hk (by decide), rfl, rfl⟩)
  · exact w_13_98 (g_13_77 ⟨_, _, gpC (s := 1) hl hk (by decide), rfl, rfl⟩)
  · exact w_13_99 (g_13_88 ⟨_, _, gpC (s := 2) hl hk (by decide), rfl, rfl⟩)
  · refine w_13_d (Or.inr (by decide)) (g_13_99 ⟨_, _, s_6 hl hk, ?_, rfl⟩)
    have h := ha rfl
    show [Value.int (agF L H l k)] = [Value.int (agF (τ.1 14) (τ.1 15) l k)]
    unfold agF
    rw [(h l (by omega)).1, (h l (by omega)).2, (h k (by omega)).1, (h k (by omega)).2]
theorem s_156 {τ : St} {n : Nat} {L H : Nat → Int32} {x : Int32} {l k : Nat} (hR : Rel τ) (hg : GF τ n) (hx : isFactS x) (hl : l < 144) (hk : k < 144) (pl : 0 < τ.1 30 l) (pk : 0 < τ.1 30 k) (ha : x = 121 → ¬ clP L H ∧ ∀ u, u < 144 → τ.1 88 u = L u ∧ τ.1 89 u = H u) : Ret 156 [.ref 11, .int x, .int (nI l), .int (nI k)] τ [.int (fvF τ L H x l k)] τ := by
  have c1 : Ret 139 [.ref 11, .int (nI l)] τ [.int (τ.1 30 l)] τ := by rw [← gf_ct hg hl]; exact s_139 hg.1.1 hg.2.1
  have c2 : Ret 139 [.ref 11, .int (nI k)] τ [.int (τ.1 30 k)] τ := by rw [← gf_ct hg hk]; exact s_139 hg.1.1 hg.2.1
  have s0 : (97 : Int32) - 97 = nI 0 := by decide
  have s1 : (98 : Int32) - 97 = nI 1 := by decide
  have s2 : (99 : Int32) - 97 = nI 2 := by decide
  rcases hx with rfl | rfl | rfl | rfl | rfl
  · refine g_156_0 (br_t rfl ⟨_, _, c1, _, _, c2, ?_⟩)
    show (τ.1 30 l < τ.1 30 k → ([Value.int (if τ.1 30 k < τ.1 30 l then τ.1 30 k else τ.1 30 l)] = [Value.int (τ.1 30 l)] ∧ τ = τ)) ∧ (¬ τ.1 30 l < τ.1 30 k → ([Value.int (if τ.1 30 k < τ.1 30 l then τ.1 30 k else τ.1 30 l)] = [Value.int (τ.1 30 k)] ∧ τ = τ))
    constructor
    · intro q
      rw [if_neg (Int32.not_lt.mpr (Int32.le_of_lt q))]
      exact ⟨rfl, rfl⟩
    · intro q
      refine ⟨?_, rfl⟩
      by_cases w : τ.1 30 k < τ.1 30 l
      · rw [if_pos w]
      · rw [if_neg w, Int32.le_antisymm (Int32.not_lt.mp w) (Int32.not_lt.mp q)]
  · refine g_156_0 (br_f (by decide) (br_f (by decide) ?_))
    rw [s0]
    exact ⟨_, _, gpM hR hg hl hk (by decide) pl pk, rfl, rfl⟩
  · refine g_156_0 (br_f (by decide) (br_f (by decide) ?_))
    rw [s1]
    exact ⟨_, _, gpM hR hg hl hk (by decide) pl pk, rfl, rfl⟩
  · refine g_156_0 (br_f (by decide) (br_f (by decide) ?_))
    rw [s2]
    exact ⟨_, _, gpM hR hg hl hk (by decide) pl pk, rfl, rfl⟩
  · obtain ⟨hc, h⟩ := ha rfl
    have h1 : τ.1 88 l ≤ τ.1 89 l := by rw [(h l hl).1, (h l hl).2]; exact not_cl hc (by omega)
    have h2 : τ.1 88 k ≤ τ.1 89 k := by rw [(h k hk).1, (h k hk).2]; exact not_cl hc (by omega)
    refine g_156_0 (br_f (by decide) (br_t rfl ⟨_, _, s_152 hl hk h1 h2, ?_, rfl⟩))
    show [Value.int (agF L H l k)] = [Value.int (agF (τ.1 88) (τ.1 89) l k)]
    unfold agF
    rw [(h l hl).1, (h l hl).2, (h k hk).1, (h k hk).2]
/-- from the t-th test on, j tests behind it; so: all tests of its BOTH so far -/
def evK (pass bar : Nat → Prop) : Nat → Nat → Prop → Prop
  | 0, t, so => so ∧ pass t
  | j + 1, t, so => (bar t ∧ ((so ∧ pass t) ∨ evK pass bar j (t + 1) True)) ∨ (¬ bar t ∧ evK pass bar j (t + 1) (so ∧ pass t))
def kpS (τ : St) (L H : Nat → Int32) (l k t : Nat) : Prop := psP (τ.1 40 t) (fvF τ L H (τ.1 39 t) l k) (τ.1 41 t)
def kbS (τ : St) (t : Nat) : Prop := ¬ τ.1 42 (t + 1) = τ.1 42 t
/-- what the class needs of the rule -/
def RuC (τ : St) (n : Nat) : Prop := n ≤ 50 ∧ 0 < n ∧ τ.1 6 6 = nI n ∧ (∀ t, t < n → isFactS (τ.1 39 t)) ∧ τ.1 42 0 = 0 ∧ (∀ t, t + 1 = n → τ.1 6 7 = τ.1 42 t + 1) ∧ (∀ t, t < n → ∃ b : Nat, b ≤ t ∧ τ.1 42 t = nI b) ∧ (∀ t, t + 1 < n → τ.1 42 (t + 1) = τ.1 42 t ∨ τ.1 42 (t + 1) = τ.1 42 t + 1)
theorem RuC.le {τ : St} {n : Nat} (h : RuC τ n) : ∀ i t, t + i < n → ∃ a b : Nat, a ≤ b ∧ b ≤ 50 ∧ τ.1 42 t = nI a ∧ τ.1 42 (t + i) = nI b := by
  obtain ⟨h1, h2, h3, h4, h5, h6, h7, h8⟩ := h
  intro i
  induction i with
  | zero =>
    intro t ht
    obtain ⟨a, ha, e⟩ := h7 t (by omega)
    exact ⟨a, a, Nat.le_refl _, by omega, e, e⟩
  | succ i ih =>
    intro t ht
    obtain ⟨a, b, h9, h10, e1, e2⟩ := ih t (by omega)
    obtain ⟨c, hc, e3⟩ := h7 (t + (i + 1)) (by omega)
    refine ⟨a, c, ?_, by omega, e1, e3⟩
    rcases h8 (t + i) (by omega) with q | q
    · rw [show t + i + 1 = t + (i + 1) by omega, e2, e3] at q
      have := (nI_eq (by omega) (by omega)).mp q
      omega
    · rw [show t + i + 1 = t + (i + 1) by omega, e2, e3, nI_S] at q
      have := (nI_eq (by omega) (by omega)).mp q
      omega
theorem s_12 {τ : St} {L H : Nat → Int32} {n l k : Nat} (hu : RuC τ n) (hl : l < 144) (hk : k < 144) (ha : (∃ t, t < n ∧ τ.1 39 t = 121) → ∀ u, u < 154 → τ.1 14 u = L u ∧ τ.1 15 u = H u) : Ret 12 [.ref 2, .int (nI l), .int (nI k)] τ [.int (pI (evK (kpS τ L H l k) (kbS τ) (n - 1) 0 True))] τ := by
  obtain ⟨h1, h2, h3, h4, h5, h6, h7, h8⟩ := id hu
  have go : ∀ j t so, t + j + 1 = n → Go 12 20 [.ref 2, .int (nI l), .int (nI k), .int (nI t), .int (τ.1 42 t), .int (pI so)] [] τ [.int (pI (evK (kpS τ L H l k) (kbS τ) j t so))] τ := by
    intro j
    induction j with
    | zero =>
      intro t so hj
      have et : (nI t).toNatClampNeg = t := clN (by omega)
      have lt : nI t < τ.1 6 6 := by rw [h3]; exact (nI_ltI (by omega) (by omega)).mpr (by omega)
      -- behind the last test
      have fin : Go 12 20 [.ref 2, .int (nI l), .int (nI k), .int (nI t + 1), .int (τ.1 42 t), .int (pI (so ∧ kpS τ L H l k t))] [] τ [.int (pI (evK (kpS τ L H l k) (kbS τ) 0 t so))] τ := by
        show Go 12 20 [.ref 2, .int (nI l), .int (nI k), .int (nI t + 1), .int (τ.1 42 t), .int (pI (so ∧ kpS τ L H l k t))] [] τ [.int (pI (so ∧ kpS τ L H l k t))] τ
        rw [nI_S]
        refine g_12_20 (br_f (by rw [h3, show t + 1 = n by omega]; exact Int32.lt_irrefl) ?_)
        by_cases q : so ∧ kpS τ L H l k t
        · exact br_f (by rw [pI_t q]; decide) ⟨by rw [pI_t q], rfl⟩
        · refine br_t (pI_f q) (g_12_5 (br_f ?_ ⟨by rw [pI_f q], rfl⟩))
          rw [h6 t (by omega)]
          exact Int32.lt_irrefl
      refine g_12_20 (br_t lt ⟨vp_in_nI (by omega) (by decide), ?_⟩)
      rw [et]
      refine br_t rfl ?_
      by_cases q : so
      · refine br_f (by rw [pI_t q]; decide) ⟨_, _, s_13 (L := L) (H := H) (h4 t (by omega)) hl hk (fun e => ha ⟨t, by omega, e⟩), _, _, s_51 (by omega), ?_⟩
        by_cases p : kpS τ L H l k t
        · rw [pI_t ⟨q, p⟩] at fin
          exact br_f (by rw [show pI (psP (τ.1 40 t) (fvF τ L H (τ.1 39 t) l k) (τ.1 41 t)) = 1 from pI_t p]; decide) fin
        · rw [pI_f (fun z => p z.2)] at fin
          exact br_t (pI_f p) fin
      · rw [pI_f (fun z => q z.1)] at fin
        exact br_t (pI_f q) fin
    | succ j ih =>
      intro t so hj
      have et : (nI t).toNatClampNeg = t := clN (by omega)
      have et1 : (nI (t + 1)).toNatClampNeg = t + 1 := clN (by omega)
      have lt : nI t < τ.1 6 6 := by rw [h3]; exact (nI_ltI (by omega) (by omega)).mpr (by omega)
      have lt1 : nI (t + 1) < τ.1 6 6 := by rw [h3]; exact (nI_ltI (by omega) (by omega)).mpr (by omega)
      have ihT := ih (t + 1) True (by omega)
      rw [pI_t trivial] at ihT
      have ihS := ih (t + 1) (so ∧ kpS τ L H l k t) (by omega)
      -- at the next test
      have fin : Go 12 20 [.ref 2, .int (nI l), .int (nI k), .int (nI t + 1), .int (τ.1 42 t), .int (pI (so ∧ kpS τ L H l k t))] [] τ [.int (pI (evK (kpS τ L H l k) (kbS τ) (j + 1) t so))] τ := by
        rw [nI_S]
        by_cases hb : τ.1 42 (t + 1) = τ.1 42 t
        · have e : evK (kpS τ L H l k) (kbS τ) (j + 1) t so ↔ evK (kpS τ L H l k) (kbS τ) j (t + 1) (so ∧ kpS τ L H l k t) := by
            conv => lhs; unfold evK
            exact ⟨fun z => z.elim (fun y => absurd hb y.1) (fun y => y.2), fun z => Or.inr ⟨fun y => y hb, z⟩⟩
          rw [pI_iff e, ← hb]
          exact ihS
        · have e : evK (kpS τ L H l k) (kbS τ) (j + 1) t so ↔ (so ∧ kpS τ L H l k t) ∨ evK (kpS τ L H l k) (kbS τ) j (t + 1) True := by
            conv => lhs; unfold evK
            exact ⟨fun z => z.elim (fun y => y.2) (fun y => absurd hb y.1), fun z => Or.inl ⟨hb, z⟩⟩
          rw [pI_iff e]
          refine g_12_20 (br_t lt1 ⟨vp_in_nI (by omega) (by decide), ?_⟩)
          rw [et1]
          refine br_f hb ?_
          by_cases q : so ∧ kpS τ L H l k t
          · exact br_f (by rw [pI_t q]; decide) ⟨by rw [pI_t (Or.inl q)], rfl⟩
          · have e2 : ((so ∧ kpS τ L H l k t) ∨ evK (kpS τ L H l k) (kbS τ) j (t + 1) True) ↔ evK (kpS τ L H l k) (kbS τ) j (t + 1) True := ⟨fun z => z.elim (fun y => absurd y q) id, Or.inr⟩
            rw [pI_iff e2]
            have nx : τ.1 42 (t + 1) = τ.1 42 t + 1 := (h8 t (by omega)).elim (fun z => absurd z hb) id
            rw [← nx]
            refine br_t (pI_f q) (g_12_5 (br_t ?_ ihT))
            obtain ⟨a, b, c1, c2, c3, c4⟩ := hu.le j (t + 1) (by omega)
            rw [h6 (t + 1 + j) (by omega), c3, c4, nI_S]
            exact (nI_ltI (by omega) (by omega)).mpr (by omega)
      refine g_12_20 (br_t lt ⟨vp_in_nI (by omega) (by decide), ?_⟩)
      rw [et]
      refine br_t rfl ?_
      by_cases q : so
      · refine br_f (by rw [pI_t q]; decide) ⟨_, _, s_13 (L := L) (H := H) (h4 t (by omega)) hl hk (fun e => ha ⟨t, by omega, e⟩), _, _, s_51 (by omega), ?_⟩
        by_cases p : kpS τ L H l k t
        · rw [pI_t ⟨q, p⟩] at fin
          exact br_f (by rw [show pI (psP (τ.1 40 t) (fvF τ L H (τ.1 39 t) l k) (τ.1 41 t)) = 1 from pI_t p]; decide) fin
        · rw [pI_f (fun z => p z.2)] at fin
          exact br_t (pI_f p) fin
      · rw [pI_f (fun z => q z.1)] at fin
        exact br_t (pI_f q) fin
  have g0 := go (n - 1) 0 True (by omega)
  rw [h5, pI_t trivial] at g0
  refine g_12_0 (g_12_5 (br_t ?_ g0))
  obtain ⟨a, b, c1, c2, c3, c4⟩ := hu.le (n - 1) 0 (by omega)
  rw [h6 (0 + (n - 1)) (by omega), c4, nI_S]
  exact (nI_ltI (a := 0) (by omega) (by omega)).mpr (by omega)
