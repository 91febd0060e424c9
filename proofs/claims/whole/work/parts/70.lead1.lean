/-! what leads to what: marks 0, 1, 2 -/
def in3 (x : Int32) : Prop := x = 0 ∨ x = 1 ∨ x = 2
theorem n01 : ¬ (0 : Int32) = 1 := by decide
theorem n10 : ¬ (1 : Int32) = 0 := by decide
theorem in3_2 {x : Int32} (h : in3 x) (k : 2 ≤ x) : x = 2 := by
  rcases h with rfl | rfl | rfl
  · exact absurd k (by decide)
  · exact absurd k (by decide)
  · rfl
theorem in3_n0 {x y : Int32} (h : in3 x) (k : in3 y) (q : x ≤ y) (n : ¬ x = 0) : ¬ y = 0 := by
  rcases h with rfl | rfl | rfl
  · exact absurd rfl n
  · rcases k with rfl | rfl | rfl
    · exact absurd q (by decide)
    · decide
    · decide
  · rcases k with rfl | rfl | rfl
    · exact absurd q (by decide)
    · decide
    · decide
theorem in3_le2 {x : Int32} (h : in3 x) : x ≤ 2 := by rcases h with rfl | rfl | rfl <;> decide
theorem in3_ge0 {x : Int32} (h : in3 x) : 0 ≤ x := by rcases h with rfl | rfl | rfl <;> decide
theorem in3_ge1 {x : Int32} (h : in3 x) (n : ¬ x = 0) : 1 ≤ x := by
  rcases h with rfl | rfl | rfl
  · exact absurd rfl n
  · decide
  · decide
def Cl3 (dy sk : Nat → Int32) (o : Nat) (F : Nat → Int32) : Prop := (∀ u, u < 144 → in3 (F u)) ∧ 1 ≤ F o ∧ (∀ l k, k < l → l < 144 → l / 24 = k / 24 → sk l = 0 → sk k = 0 → ¬ F l = 0 → F k = 2) ∧ (∀ l k, l < 144 → k < 144 → oP dy sk l → oP dy sk k → dy l = dy k → F l ≤ F k)
def ldP (dy sk : Nat → Int32) (a b : Nat) : Prop := sk a = 0 ∧ sk b = 0 ∧ ∀ F : Nat → Int32, Cl3 dy sk a F → F b = 2
def GdI (dy sk : Nat → Int32) (o : Nat) (M D : Nat → Int32) : Prop := (∀ u, u < 144 → in3 (M u)) ∧ (∀ d, d < 10 → in3 (D d)) ∧ 1 ≤ M o ∧
  ∀ F : Nat → Int32, Cl3 dy sk o F → (∀ u, u < 144 → M u ≤ F u) ∧ ∀ l d, l < 144 → d < 10 → oP dy sk l → dy l = nI d → D d ≤ F l
theorem GdI.put {dy sk : Nat → Int32} {o : Nat} {M D : Nat → Int32} {k : Nat} {v : Int32} (h : GdI dy sk o M D) (hv : in3 v) (hF : ∀ F : Nat → Int32, Cl3 dy sk o F → v ≤ F k) : GdI dy sk o (rz M k v) D := by
  obtain ⟨h1, h2, h3, h4⟩ := h
  refine ⟨fun u hu => ?_, h2, Int32.le_trans h3 (rz_ge o), fun F hc => ⟨fun u hu => ?_, (h4 F hc).2⟩⟩
  · rw [rz_at]
    split
    · exact hv
    · exact h1 u hu
  · rw [rz_at]
    split
    · rename_i q
      rw [q.1]
      exact hF F hc
    · exact (h4 F hc).1 u hu
theorem GdI.day {dy sk : Nat → Int32} {o : Nat} {M D : Nat → Int32} {l d : Nat} (h : GdI dy sk o M D) (hl : l < 144) (hd : d < 10) (ho : oP dy sk l) (ed : dy l = nI d) : GdI dy sk o M (rz D d (M l)) := by
  obtain ⟨h1, h2, h3, h4⟩ := h
  refine ⟨h1, fun e he => ?_, h3, fun F hc => ⟨(h4 F hc).1, fun x e hx he hox ex => ?_⟩⟩
  · rw [rz_at]
    split
    · exact h1 l hl
    · exact h2 e he
  · rw [rz_at]
    split
    · rename_i q
      refine Int32.le_trans ((h4 F hc).1 l hl) (hc.2.2.2 l x hl hx ho hox ?_)
      rw [ed, ex, q.1]
    · exact (h4 F hc).2 x e hx he hox ex
def Ch3 (M D M' D' : Nat → Int32) : Prop := (∃ u, u < 144 ∧ M u < M' u) ∨ ∃ d, d < 10 ∧ D d < D' d
def Gw (M D : Nat → Int32) (mv : Int32) (M' D' : Nat → Int32) (mv' : Int32) : Prop := (∀ u, M u ≤ M' u) ∧ (∀ d, D d ≤ D' d) ∧ (mv' = 0 ∨ mv' = 1) ∧ (mv' = 0 → mv = 0 ∧ M' = M ∧ D' = D) ∧ (¬ mv' = 0 → ¬ mv = 0 ∨ Ch3 M D M' D')
theorem Gw.rf {M D : Nat → Int32} {mv : Int32} (h : mv = 0 ∨ mv = 1) : Gw M D mv M D mv := ⟨fun _ => Int32.le_refl _, fun _ => Int32.le_refl _, h, fun z => ⟨z, rfl, rfl⟩, fun z => Or.inl z⟩
theorem Ch3.up {M D M1 D1 M2 D2 : Nat → Int32} (h : Ch3 M D M1 D1) (a : ∀ u, M1 u ≤ M2 u) (b : ∀ u, D1 u ≤ D2 u) : Ch3 M D M2 D2 := by
  rcases h with ⟨u, h1, h2⟩ | ⟨u, h1, h2⟩
  · exact Or.inl ⟨u, h1, Int32.lt_of_lt_of_le h2 (a u)⟩
  · exact Or.inr ⟨u, h1, Int32.lt_of_lt_of_le h2 (b u)⟩
theorem Ch3.dn {M D M1 D1 M2 D2 : Nat → Int32} (h : Ch3 M1 D1 M2 D2) (a : ∀ u, M u ≤ M1 u) (b : ∀ u, D u ≤ D1 u) : Ch3 M D M2 D2 := by
  rcases h with ⟨u, h1, h2⟩ | ⟨u, h1, h2⟩
  · exact Or.inl ⟨u, h1, Int32.lt_of_le_of_lt (a u) h2⟩
  · exact Or.inr ⟨u, h1, Int32.lt_of_le_of_lt (b u) h2⟩
theorem Gw.tr {M D M1 D1 M2 D2 : Nat → Int32} {a b c : Int32} (h : Gw M D a M1 D1 b) (k : Gw M1 D1 b M2 D2 c) : Gw M D a M2 D2 c := by
  obtain ⟨h1, h2, h3, h4, h5⟩ := h
  obtain ⟨k1, k2, k3, k4, k5⟩ := k
  refine ⟨fun u => Int32.le_trans (h1 u) (k1 u), fun u => Int32.le_trans (h2 u) (k2 u), k3, fun z => ?_, fun z => ?_⟩
  · obtain ⟨e1, e2, e3⟩ := k4 z
    obtain ⟨e4, e5, e6⟩ := h4 e1
    exact ⟨e4, e2.trans e5, e3.trans e6⟩
  · rcases k5 z with q | q
    · rcases h5 q with r | r
      · exact Or.inl r
      · exact Or.inr (r.up k1 k2)
    · exact Or.inr (q.dn h1 h2)
theorem Gw.put {M D : Nat → Int32} {mv v : Int32} {k : Nat} (hk : k < 144) (h : mv = 0 ∨ mv = 1) : Gw M D mv (rz M k v) D (rzm M k v mv) := by
  refine ⟨fun u => rz_ge u, fun _ => Int32.le_refl _, rzm_01 h, fun z => ⟨(rzm_0 z).1, (rzm_0 z).2, rfl⟩, fun z => ?_⟩
  by_cases q : v ≤ M k
  · left
    unfold rzm at z
    rw [if_pos q] at z
    exact z
  · right
    refine Or.inl ⟨k, hk, ?_⟩
    rw [rz_at, if_pos ⟨rfl, q⟩]
    exact Int32.not_le.mp q
theorem Gw.day {M D : Nat → Int32} {mv v : Int32} {k : Nat} (hk : k < 10) (h : mv = 0 ∨ mv = 1) : Gw M D mv M (rz D k v) (rzm D k v mv) := by
  refine ⟨fun _ => Int32.le_refl _, fun u => rz_ge u, rzm_01 h, fun z => ⟨(rzm_0 z).1, rfl, (rzm_0 z).2⟩, fun z => ?_⟩
  by_cases q : v ≤ D k
  · left
    unfold rzm at z
    rw [if_pos q] at z
    exact z
  · right
    refine Or.inr ⟨k, hk, ?_⟩
    rw [rz_at, if_pos ⟨rfl, q⟩]
    exact Int32.not_le.mp q
theorem rzm_v {L : Nat → Int32} {k : Nat} {v m : Int32} (h : rzm L k v m = 0) : v ≤ L k := by
  unfold rzm at h
  by_cases w : v ≤ L k
  · exact w
  · rw [if_neg w] at h; exact absurd h (by decide)
/-! the class -/
def lst (σ : St) (M D : Nat → Int32) (mv : Int32) : St := wr (setR (setR σ 45 M) 46 D) 8 3 mv
theorem lst_M {σ : St} {M D : Nat → Int32} {mv x : Int32} {k : Nat} : wr (wr (lst σ M D mv) 45 k x) 8 3 1 = lst σ (upd M k x) D 1 := by
  refine St_ext (fun c j => ?_) rfl
  unfold lst
  rw [wr_get, wr_get, wr_get, wr_get]
  simp only [setR_get]
  by_cases h0 : c = 8
  · subst h0; by_cases h5 : j = 3 <;> simp [h5]
  · by_cases h14 : c = 45
    · subst h14; simp [upd]
    · simp [h0, h14]
theorem lst_D {σ : St} {M D : Nat → Int32} {mv x : Int32} {k : Nat} : wr (wr (lst σ M D mv) 46 k x) 8 3 1 = lst σ M (upd D k x) 1 := by
  refine St_ext (fun c j => ?_) rfl
  unfold lst
  rw [wr_get, wr_get, wr_get, wr_get]
  simp only [setR_get]
  by_cases h0 : c = 8
  · subst h0; by_cases h5 : j = 3 <;> simp [h5]
  · by_cases h14 : c = 46
    · subst h14; simp [upd]
    · simp [h0, h14]
theorem lst_mv {σ : St} {M D : Nat → Int32} {mv x : Int32} : wr (lst σ M D mv) 8 3 x = lst σ M D x := by
  refine St_ext (fun c j => ?_) rfl
  unfold lst
  rw [wr_get, wr_get, wr_get]
  by_cases h0 : c = 8
  · subst h0; by_cases h5 : j = 3 <;> simp [h5]
  · simp [h0]
theorem s_59 {σ : St} {M D : Nat → Int32} {mv v : Int32} {k : Nat} (hk : k < 144) : Ret 59 [.ref 8, .int (nI k), .int v] (lst σ M D mv) [] (lst σ (rz M k v) D (rzm M k v mv)) := by
  have ek : (nI k).toNatClampNeg = k := clN (by omega)
  unfold rz rzm
  refine g_59_0 ⟨vp_in_nI hk (by decide), fun q => ?_, fun q => ?_⟩
  · have q : v ≤ M k := by rw [ek] at q; exact q
    rw [if_pos q, if_pos q]
    exact ⟨rfl, rfl⟩
  · have q : ¬ v ≤ M k := by rw [ek] at q; exact q
    rw [if_neg q, if_neg q, ek, lst_M]
    exact ⟨rfl, rfl⟩
theorem s_57 {σ : St} {dy : Nat → Int32} {o : Nat} {M D : Nat → Int32} {mv : Int32} {c : Nat} (hc : c < 6) (hm : mv = 0 ∨ mv = 1) (hG : GdI dy (σ.1 48) o M D) : ∃ r : (Nat → Int32) × Int32, (GdI dy (σ.1 48) o r.1 D ∧ Gw M D mv r.1 D r.2 ∧ (r.2 = 0 → ∀ l k, 24 * c ≤ k → k < l → l < 24 * c + 24 → σ.1 48 l = 0 → σ.1 48 k = 0 → ¬ M l = 0 → M k = 2)) ∧ Ret 57 [.ref 8, .int (nI (24 * c))] (lst σ M D mv) [] (lst σ r.1 D r.2) := by
  have key := loopX (α := (Nat → Int32) × Int32 × Int32) (β := (Nat → Int32) × Int32) 24
    (fun j x => GdI dy (σ.1 48) o x.1 D ∧ Gw M D mv x.1 D x.2.2 ∧ (x.2.1 = 0 ∨ x.2.1 = 1) ∧ (x.2.1 = 0 → ∀ l, 24 * c + 24 ≤ l + j → l < 24 * c + 24 → σ.1 48 l = 0 → x.1 l = 0) ∧
      (x.2.1 = 1 → ∀ F : Nat → Int32, Cl3 dy (σ.1 48) o F → ∀ k, 24 * c ≤ k → k + j < 24 * c + 24 → σ.1 48 k = 0 → F k = 2) ∧
      (x.2.2 = 0 → ∀ l k, 24 * c + 24 ≤ k + j → k < l → l < 24 * c + 24 → σ.1 48 l = 0 → σ.1 48 k = 0 → ¬ M l = 0 → M k = 2))
    (fun j x r => Go 57 9 [.ref 8, .int (nI (24 * c)), .int x.2.1, .int (nI (24 * c + 24) - 1 - nI j)] [] (lst σ x.1 D x.2.2) [] (lst σ r.1 D r.2))
    (fun r => GdI dy (σ.1 48) o r.1 D ∧ Gw M D mv r.1 D r.2 ∧ (r.2 = 0 → ∀ l k, 24 * c ≤ k → k < l → l < 24 * c + 24 → σ.1 48 l = 0 → σ.1 48 k = 0 → ¬ M l = 0 → M k = 2)) ?_ ?_ 0 (M, 0, mv) (by omega) ?_
  · obtain ⟨r, h1, h2⟩ := key
    refine ⟨r, h1, g_57_0 ?_⟩
    rw [show (24 : Int32) = nI 24 from rfl, nI_add]
    have e : nI (24 * c + 24) - 1 - nI 0 = nI (24 * c + 24) - 1 := by rw [nI_0]; grind
    rw [e] at h2
    exact h2
  · rintro j ⟨M1, b, m1⟩ hj ⟨a1, a2, a3, a4, a5, a6⟩
    obtain ⟨k, ek⟩ : ∃ k, k + j + 1 = 24 * c + 24 := ⟨24 * c + 23 - j, by omega⟩
    have ev : nI (24 * c + 24) - 1 - nI j = nI k := by
      rw [← ek, ← nI_add, ← nI_add]
      exact e_pu1 (nI k) (nI j)
    have ev1 : nI k + (-1) = nI (24 * c + 24) - 1 - nI (j + 1) := by
      rw [← ev, ← nI_S (i := j)]
      exact e_pu2 (nI (24 * c + 24)) (nI j)
    have ei : (nI k).toNatClampNeg = k := clN (by omega)
    have hk : k < 144 := by omega
    have nlt : ¬ nI k < nI (24 * c) := by
      rw [nI_ltI (by omega) (by omega)]; omega
    have gi : vp_in (nI k) 144 := vp_in_nI (by omega) (by decide)
    by_cases q : σ.1 48 k = 0
    · rcases a3 with e0 | e1
      · have e0 : b = 0 := e0
        subst e0
        have zero := a4 rfl
        by_cases z : M1 k = 0
        · refine ⟨(M1, 0, m1), ⟨a1, a2, Or.inl rfl, fun _ l h1 h2 h3 => ?_, fun h => absurd h n01, fun hm0 l x h1 h2 h3 h4 h5 h6 => ?_⟩, fun r hr => ?_⟩
          · by_cases e : l = k
            · rw [e]; exact z
            · exact zero l (by omega) h2 h3
          · obtain ⟨_, e2, _⟩ := a2.2.2.2.1 hm0
            have e2 : M1 = M := e2
            rw [e2] at zero
            exact absurd (zero l (by omega) h3 h4) h6
          · show Go 57 9 [.ref 8, .int (nI (24 * c)), .int 0, .int (nI (24 * c + 24) - 1 - nI j)] [] (lst σ M1 D m1) [] (lst σ r.1 D r.2)
            rw [ev]
            refine g_57_9 (br_f nlt ⟨gi, br_t (by rw [ei]; exact q) (br_t rfl (br_t (by rw [ei]; exact z) ?_))⟩)
            rw [ev1]
            exact hr
        · refine ⟨(M1, 1, m1), ⟨a1, a2, Or.inr rfl, fun h => absurd h n10, fun _ F hF x h1 h2 h3 => ?_, fun hm0 l x h1 h2 h3 h4 h5 h6 => ?_⟩, fun r hr => ?_⟩
          · exact hF.2.2.1 k x (by omega) hk (by omega) q h3 (in3_n0 (a1.1 k hk) (hF.1 k hk) ((a1.2.2.2 F hF).1 k hk) z)
          · obtain ⟨_, e2, _⟩ := a2.2.2.2.1 hm0
            have e2 : M1 = M := e2
            rw [e2] at zero
            exact absurd (zero l (by omega) h3 h4) h6
          · show Go 57 9 [.ref 8, .int (nI (24 * c)), .int 0, .int (nI (24 * c + 24) - 1 - nI j)] [] (lst σ M1 D m1) [] (lst σ r.1 D r.2)
            rw [ev]
            refine g_57_9 (br_f nlt ⟨gi, br_t (by rw [ei]; exact q) (br_t rfl (br_f (by rw [ei]; exact z) ?_))⟩)
            rw [ev1]
            exact hr
      · have e1 : b = 1 := e1
        subst e1
        have two : ∀ F : Nat → Int32, Cl3 dy (σ.1 48) o F → F k = 2 := fun F hF => a5 rfl F hF k (by omega) (by omega) q
        have nz : ¬ rz M1 k 2 k = 0 := by
          have := rz_v (L := M1) (k := k) (v := 2)
          intro e
          rw [e] at this
          exact absurd this (by decide)
        refine ⟨(rz M1 k 2, 1, rzm M1 k 2 m1), ⟨a1.put (Or.inr (Or.inr rfl)) (fun F hF => by rw [two F hF]; exact Int32.le_refl _), a2.tr (Gw.put hk a2.2.2.1), Or.inr rfl, fun h => absurd h n10, fun _ F hF x h1 h2 h3 => a5 rfl F hF x h1 (by omega) h3, fun hm0 l x h1 h2 h3 h4 h5 h6 => ?_⟩, fun r hr => ?_⟩
        · obtain ⟨e2, e3⟩ := rzm_0 hm0
          have e4 := rzm_v hm0
          obtain ⟨_, e5, _⟩ := a2.2.2.2.1 e2
          have e5 : M1 = M := e5
          by_cases e : x = k
          · rw [e]
            rw [e5] at e4
            exact in3_2 (by rw [← e5]; exact a1.1 k hk) e4
          · exact a6 e2 l x (by omega) h2 h3 h4 h5 h6
        · show Go 57 9 [.ref 8, .int (nI (24 * c)), .int 1, .int (nI (24 * c + 24) - 1 - nI j)] [] (lst σ M1 D m1) [] (lst σ r.1 D r.2)
          rw [ev]
          refine g_57_9 (br_f nlt ⟨gi, br_t (by rw [ei]; exact q) (br_f (by decide) ⟨_, s_59 hk, br_f (by rw [ei]; exact nz) ?_⟩)⟩)
          rw [ev1]
          exact hr
    · refine ⟨(M1, b, m1), ⟨a1, a2, a3, fun h l h1 h2 h3 => ?_, fun h F hF x h1 h2 h3 => a5 h F hF x h1 (by omega) h3, fun hm0 l x h1 h2 h3 h4 h5 h6 => ?_⟩, fun r hr => ?_⟩
      · have : l ≠ k := fun e => q (e ▸ h3)
        exact a4 h l (by omega) h2 h3
      · have : x ≠ k := fun e => q (e ▸ h5)
        exact a6 hm0 l x (by omega) h2 h3 h4 h5 h6
      · show Go 57 9 [.ref 8, .int (nI (24 * c)), .int b, .int (nI (24 * c + 24) - 1 - nI j)] [] (lst σ M1 D m1) [] (lst σ r.1 D r.2)
        rw [ev]
        refine g_57_9 (br_f nlt ⟨gi, br_f (by rw [ei]; exact q) ?_⟩)
        rw [ev1]
        exact hr
  · rintro ⟨M1, b, m1⟩ ⟨a1, a2, a3, a4, a5, a6⟩
    refine ⟨(M1, m1), ⟨a1, a2, fun h l k h1 h2 h3 h4 h5 h6 => a6 h l k (by omega) h2 h3 h4 h5 h6⟩, g_57_9 (br_t ?_ ⟨rfl, rfl⟩)⟩
    have : nI (24 * c + 24) - 1 - nI 24 = nI (24 * c) - 1 := by
      rw [← nI_add]
      grind
    show nI (24 * c + 24) - 1 - nI 24 < nI (24 * c)
    rw [this]
    have h0 : 0 ≤ nI (24 * c) := nI0 (by omega)
    grind
  · exact ⟨hG, Gw.rf hm, Or.inl rfl, fun _ l h1 h2 => by omega, fun h => absurd h n01, fun _ l k h1 h2 h3 => by omega⟩
theorem s_58 {σ : St} {o : Nat} {M D : Nat → Int32} {mv : Int32} (hm : mv = 0 ∨ mv = 1) (hdy : ∀ l, l < 144 → σ.1 47 l = -1 ∨ ∃ d, d < 10 ∧ σ.1 47 l = nI d) (hG : GdI (σ.1 47) (σ.1 48) o M D) : ∃ r : (Nat → Int32) × (Nat → Int32) × Int32, (GdI (σ.1 47) (σ.1 48) o r.1 r.2.1 ∧ Gw M D mv r.1 r.2.1 r.2.2 ∧ (r.2.2 = 0 → ∀ l d, l < 144 → d < 10 → oP (σ.1 47) (σ.1 48) l → σ.1 47 l = nI d → M l = D d)) ∧ Ret 58 [.ref 8] (lst σ M D mv) [] (lst σ r.1 r.2.1 r.2.2) := by
  have key := loopX (α := (Nat → Int32) × (Nat → Int32) × Int32) (β := (Nat → Int32) × (Nat → Int32) × Int32) 144
    (fun j x => GdI (σ.1 47) (σ.1 48) o x.1 x.2.1 ∧ Gw M D mv x.1 x.2.1 x.2.2 ∧ (x.2.2 = 0 → ∀ l d, l < j → d < 10 → oP (σ.1 47) (σ.1 48) l → σ.1 47 l = nI d → M l = D d))
    (fun j x r => Go 58 2 [.ref 8, .int (nI j), .null] [] (lst σ x.1 x.2.1 x.2.2) [] (lst σ r.1 r.2.1 r.2.2))
    (fun r => GdI (σ.1 47) (σ.1 48) o r.1 r.2.1 ∧ Gw M D mv r.1 r.2.1 r.2.2 ∧ (r.2.2 = 0 → ∀ l d, l < 144 → d < 10 → oP (σ.1 47) (σ.1 48) l → σ.1 47 l = nI d → M l = D d)) ?_ ?_ 0 (M, D, mv) (by omega) ⟨hG, Gw.rf hm, fun _ l d h => by omega⟩
  · obtain ⟨r, h1, h2⟩ := key
    exact ⟨r, h1, g_58_0 h2⟩
  · rintro j ⟨M1, D1, m1⟩ hj ⟨a1, a2, a3⟩
    have ej : (nI j).toNatClampNeg = j := clN (by omega)
    have lt : nI j < 144 := (nI_ltL (n := 144) rfl (by omega) (by decide)).mpr hj
    by_cases q : ¬ σ.1 47 j = -1 ∧ σ.1 48 j = 0
    · obtain ⟨d, hd, ed⟩ := day_of (sk := σ.1 48) hdy hj q
      have edc : (nI d).toNatClampNeg = d := clN (by omega)
      have e47 : (lst σ M1 D1 m1).1 47 (nI j).toNatClampNeg = nI d := by rw [ej]; exact ed
      have b1 : GdI (σ.1 47) (σ.1 48) o (rz M1 j (D1 d)) D1 := a1.put (a1.2.1 d hd) (fun F hF => (a1.2.2.2 F hF).2 j d hj hd q ed)
      refine ⟨(rz M1 j (D1 d), rz D1 d (rz M1 j (D1 d) j), rzm D1 d (rz M1 j (D1 d) j) (rzm M1 j (D1 d) m1)), ⟨b1.day hj hd q ed, (a2.tr (Gw.put hj a2.2.2.1)).tr (Gw.day hd (rzm_01 a2.2.2.1)), fun hz l e hl he ho ee => ?_⟩, fun r hr => ?_⟩
      · obtain ⟨z1, z2⟩ := rzm_0 hz
        have z3 := rzm_v hz
        obtain ⟨z4, z5⟩ := rzm_0 z1
        have z6 := rzm_v z1
        obtain ⟨_, z7, z8⟩ := a2.2.2.2.1 z4
        have z7 : M1 = M := z7
        have z8 : D1 = D := z8
        by_cases e1 : l = j
        · subst e1
          have e2 : e = d := (nI_eq (by omega) (by omega)).mp (ee.symm.trans ed)
          rw [z5] at z3
          rw [← z7, ← z8, e2]
          exact Int32.le_antisymm z3 z6
        · exact a3 z4 l e (by omega) he ho ee
      · refine g_58_2 (br_t lt ⟨_, _, s_60t (σ := σ) hj rfl rfl q, br_f (by decide) ⟨vp_in_nI hj (by decide), ?_⟩⟩)
        rw [e47]
        refine ⟨vp_in_nI hd (by decide), ?_⟩
        rw [edc]
        refine ⟨_, s_59 (v := D1 d) hj, ?_⟩
        rw [ej, nI_S]
        have hr : Go 58 2 [.ref 8, .int (nI (j + 1)), .null] [] (lst σ (rz M1 j (D1 d)) (rz D1 d (rz M1 j (D1 d) j)) (rzm D1 d (rz M1 j (D1 d) j) (rzm M1 j (D1 d) m1))) [] (lst σ r.1 r.2.1 r.2.2) := hr
        by_cases w : rz M1 j (D1 d) j ≤ D1 d
        · refine br_t w ?_
          have e1 : rz D1 d (rz M1 j (D1 d) j) = D1 := by rw [rz, if_pos w]
          have e2 : rzm D1 d (rz M1 j (D1 d) j) (rzm M1 j (D1 d) m1) = rzm M1 j (D1 d) m1 := by rw [rzm, if_pos w]
          rw [e1, e2] at hr
          exact hr
        · refine br_f w ?_
          have e1 : rz D1 d (rz M1 j (D1 d) j) = upd D1 d (rz M1 j (D1 d) j) := by rw [rz, if_neg w]
          have e2 : rzm D1 d (rz M1 j (D1 d) j) (rzm M1 j (D1 d) m1) = 1 := by rw [rzm, if_neg w]
          rw [e1, e2, ← lst_D] at hr
          exact hr
    · refine ⟨(M1, D1, m1), ⟨a1, a2, fun hz l d hl hd ho ed => ?_⟩, fun r hr => g_58_2 (br_t lt ⟨_, _, s_60f (σ := σ) hj rfl rfl q, br_t rfl ?_⟩)⟩
      · have : l ≠ j := fun e => q (e ▸ ho)
        exact a3 hz l d (by omega) hd ho ed
      · rw [nI_S]
        exact hr
  · rintro ⟨M1, D1, m1⟩ hI
    exact ⟨(M1, D1, m1), hI, g_58_2 (br_f (by decide) ⟨rfl, rfl⟩)⟩
