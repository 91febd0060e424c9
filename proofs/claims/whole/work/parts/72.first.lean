/-! leads of the model, whole; the pair first -/
def GdM (dy sk : Nat → Int32) (o : Nat) (C : Nat → Int32) : Prop := (∀ u, u < 144 → in3 (C u)) ∧ 1 ≤ C o ∧ (∀ u, u < 144 → ¬ C u = 0 → sk u = 0) ∧ ∀ F : Nat → Int32, Cl3 dy sk o F → ∀ u, u < 144 → C u ≤ F u
theorem nwF_cases {dy sk C : Nat → Int32} (l k : Nat) : ((k / 24 = l / 24 ∧ k < l ∧ sk k = 0) ∧ nwF dy sk C l k = 2) ∨ ((¬ k = l ∧ oP dy sk l ∧ oP dy sk k ∧ dy l = dy k) ∧ nwF dy sk C l k = C l) ∨ nwF dy sk C l k = 0 := by
  by_cases h : k / 24 = l / 24 ∧ k < l ∧ sk k = 0
  · exact Or.inl ⟨h, nwF_up h⟩
  · by_cases h2 : ¬ k = l ∧ oP dy sk l ∧ oP dy sk k ∧ dy l = dy k
    · exact Or.inr (Or.inl ⟨h2, nwF_same h h2⟩)
    · exact Or.inr (Or.inr (nwF_no h h2))
theorem GdM.put {dy sk C : Nat → Int32} {o l k : Nat} (h : GdM dy sk o C) (hl : l < 144) (hk : k < 144) (pl : ¬ C l = 0) : GdM dy sk o (rz C k (nwF dy sk C l k)) := by
  obtain ⟨h1, h2, h3, h4⟩ := h
  refine ⟨fun u hu => ?_, Int32.le_trans h2 (rz_ge o), fun u hu hn => ?_, fun F hF u hu => ?_⟩
  · rw [rz_at]
    split
    · rcases nwF_cases (dy := dy) (sk := sk) (C := C) l k with ⟨_, e⟩ | ⟨_, e⟩ | e
      · rw [e]; exact Or.inr (Or.inr rfl)
      · rw [e]; exact h1 l hl
      · rw [e]; exact Or.inl rfl
    · exact h1 u hu
  · rw [rz_at] at hn
    split at hn
    · rename_i q
      rw [q.1]
      rcases nwF_cases (dy := dy) (sk := sk) (C := C) l k with ⟨r, _⟩ | ⟨r, _⟩ | e
      · exact r.2.2
      · exact r.2.2.1.2
      · exact absurd e hn
    · exact h3 u hu hn
  · rw [rz_at]
    split
    · rename_i q
      rw [q.1]
      have fl := h4 F hF l hl
      rcases nwF_cases (dy := dy) (sk := sk) (C := C) l k with ⟨r, e⟩ | ⟨r, e⟩ | e
      · rw [e, hF.2.2.1 l k r.2.1 hl r.1.symm (h3 l hl pl) r.2.2 (in3_n0 (h1 l hl) (hF.1 l hl) fl pl)]
        exact Int32.le_refl _
      · rw [e]
        exact Int32.le_trans fl (hF.2.2.2 l k hl hk r.2.1 r.2.2.1 r.2.2.2)
      · rw [e]; exact in3_ge0 (hF.1 k hk)
    · exact h4 F hF u hu
def zD (_ : Nat) : Int32 := 0
theorem mlturn {σ : St} {dy sk C : Nat → Int32} {o : Nat} (v2 : Int32) (hq : TmQ dy sk (σ.1 74) (σ.1 75)) (hG : GdM dy sk o C) : ∃ r : (Nat → Int32) × Int32, (GdM dy sk o r.1 ∧ Gw C zD 0 r.1 zD r.2 ∧ (r.2 = 0 → Cl3 dy sk o C)) ∧
    ∀ R S, Go 199 46 [.ref 11, .null, .int v2, .int r.2, .null, .null, .null, .null, .null] [] (setR σ 92 r.1) R S → Go 199 55 [.ref 11, .null, .int v2, .int 0, .int 0, .null, .null, .null, .null] [] (setR σ 92 C) R S := by
  refine loopX (α := (Nat → Int32) × Int32) (β := (Nat → Int32) × Int32) 144
    (fun l x => GdM dy sk o x.1 ∧ Gw C zD 0 x.1 zD x.2 ∧ (x.2 = 0 → ∀ y k, y < l → k < 144 → ¬ C y = 0 → nwF dy sk C y k ≤ C k))
    (fun l x r => ∀ R S, Go 199 46 [.ref 11, .null, .int v2, .int r.2, .null, .null, .null, .null, .null] [] (setR σ 92 r.1) R S → Go 199 55 [.ref 11, .null, .int v2, .int x.2, .int (nI l), .null, .null, .null, .null] [] (setR σ 92 x.1) R S)
    (fun r => GdM dy sk o r.1 ∧ Gw C zD 0 r.1 zD r.2 ∧ (r.2 = 0 → Cl3 dy sk o C)) ?_ ?_ 0 (C, 0) (by omega) ⟨hG, Gw.rf (Or.inl rfl), fun _ y k h => by omega⟩
  · rintro l ⟨C1, m1⟩ hl ⟨a1, a2, a3⟩
    have el : (nI l).toNatClampNeg = l := clN (by omega)
    have lt : nI l < 144 := (nI_ltL (n := 144) rfl (by omega) (by decide)).mpr hl
    by_cases pl : C1 l = 0
    · refine ⟨(C1, m1), ⟨a1, a2, fun hz y k h1 h2 h3 => ?_⟩, fun r hr R S h => g_199_55 (br_t lt (g_199_66 (br_t (by decide) ⟨vp_in_nI hl (by decide), br_t ?_ ?_⟩)))⟩
      · by_cases e : y = l
        · obtain ⟨_, e2, _⟩ := a2.2.2.2.1 hz
          have e2 : C1 = C := e2
          rw [e, ← e2] at h3
          exact absurd pl h3
        · exact a3 hz y k (by omega) h2 h3
      · rw [el]
        show C1 l ≤ 0
        rw [pl]
        exact Int32.le_refl _
      · rw [nI_S]
        exact hr R S h
    · have inner := loopX (α := (Nat → Int32) × Int32) (β := (Nat → Int32) × Int32) 144
        (fun k x => (GdM dy sk o x.1 ∧ Gw C zD 0 x.1 zD x.2 ∧ (x.2 = 0 → ∀ y k, y < l → k < 144 → ¬ C y = 0 → nwF dy sk C y k ≤ C k)) ∧ ¬ x.1 l = 0 ∧ (x.2 = 0 → ∀ y, y < k → nwF dy sk C l y ≤ C y))
        (fun k x r => ∀ R S, Go 199 55 [.ref 11, .null, .int v2, .int r.2, .int (nI (l + 1)), .null, .null, .null, .null] [] (setR σ 92 r.1) R S → Go 199 66 [.ref 11, .null, .int v2, .int x.2, .int (nI l), .int (nI k), .null, .null, .null] [] (setR σ 92 x.1) R S)
        (fun r => GdM dy sk o r.1 ∧ Gw C zD 0 r.1 zD r.2 ∧ (r.2 = 0 → ∀ y k, y < l + 1 → k < 144 → ¬ C y = 0 → nwF dy sk C y k ≤ C k)) ?_ ?_ 0 (C1, m1) (by omega) ⟨⟨a1, a2, a3⟩, pl, fun _ y h => by omega⟩
      · obtain ⟨x, h1, h2⟩ := inner
        exact ⟨x, h1, fun r hr R S h => g_199_55 (br_t lt (h2 R S (hr R S h)))⟩
      · rintro k ⟨C2, m2⟩ hk ⟨⟨b1, b2, b3⟩, b4, b5⟩
        refine ⟨(rz C2 k (nwF dy sk C2 l k), rzm C2 k (nwF dy sk C2 l k) m2), ⟨⟨b1.put hl hk b4, b2.tr (Gw.put hk b2.2.2.1), fun hz => b3 (rzm_0 hz).1⟩, fun z => ?_, fun hz y hy => ?_⟩, fun r hr R S h => s_199k hl hk b1.1 b4 hq (hr R S h)⟩
        · have z : rz C2 k (nwF dy sk C2 l k) l = 0 := z
          have := rz_ge (L := C2) (k := k) (v := nwF dy sk C2 l k) l
          rw [z] at this
          exact in3_n0 (b1.1 l hl) (Or.inl rfl) this b4 rfl
        · obtain ⟨z1, z2⟩ := rzm_0 hz
          have z3 := rzm_v hz
          obtain ⟨_, e2, _⟩ := b2.2.2.2.1 z1
          have e2 : C2 = C := e2
          rw [e2] at z3
          by_cases e : y = k
          · rw [e]; exact z3
          · exact b5 z1 y (by omega)
      · rintro ⟨C2, m2⟩ ⟨⟨b1, b2, b3⟩, b4, b5⟩
        refine ⟨(C2, m2), ⟨b1, b2, fun hz y k h1 h2 h3 => ?_⟩, fun R S h => g_199_66 (br_f (by decide) ?_)⟩
        · by_cases e : y = l
          · rw [e]; exact b5 hz k h2
          · exact b3 hz y k (by omega) h2 h3
        · rw [nI_S]; exact h
  · rintro ⟨C1, m1⟩ ⟨a1, a2, a3⟩
    refine ⟨(C1, m1), ⟨a1, a2, fun hz => ?_⟩, fun R S h => g_199_55 (br_f (by decide) h)⟩
    have a3 := a3 hz
    refine ⟨hG.1, hG.2.1, fun l k h1 h2 h3 h4 h5 h6 => ?_, fun l k hl hk ho hok e => ?_⟩
    · have := a3 l k h2 (by omega) h6
      rw [nwF_up ⟨h3.symm, h1, h5⟩] at this
      exact in3_2 (hG.1 k (by omega)) this
    · by_cases z : C l = 0
      · rw [z]; exact in3_ge0 (hG.1 k hk)
      · by_cases z2 : k = l
        · rw [z2]; exact Int32.le_refl _
        · have := a3 l k hl hk z
          rcases nwF_cases (dy := dy) (sk := sk) (C := C) l k with ⟨_, e2⟩ | ⟨_, e2⟩ | e2
          · rw [e2] at this
            exact Int32.le_trans (in3_le2 (hG.1 l hl)) this
          · rw [e2] at this; exact this
          · exfalso
            by_cases u : k / 24 = l / 24 ∧ k < l ∧ sk k = 0
            · rw [nwF_up u] at e2; exact absurd e2 (by decide)
            · rw [nwF_same u ⟨z2, ho, hok, e⟩] at e2; exact z e2
def frR (a : Nat) (o : Nat → Int32) (i u : Nat) : Int32 := if u < i then (if u = a then 1 else 0) else o u
theorem frR_S {a : Nat} {o : Nat → Int32} {i : Nat} : upd (frR a o i) i (if i = a then 1 else 0) = frR a o (i + 1) := by
  funext u
  unfold upd frR
  by_cases e : u = i
  · subst e; rw [if_pos rfl, if_pos (show u < u + 1 by omega)]
  · rw [if_neg e]
    by_cases h : u < i
    · rw [if_pos h, if_pos (show u < i + 1 by omega)]
    · rw [if_neg h, if_neg (show ¬ u < i + 1 by omega)]
theorem frR_0 {a : Nat} {o : Nat → Int32} : frR a o 0 = o := by
  funext u; unfold frR; rw [if_neg (by omega)]
theorem s_199 {σ : St} {dy sk : Nat → Int32} {a b : Nat} (ha : a < 144) (hb : b < 144) (hq : TmQ dy sk (σ.1 74) (σ.1 75)) : ∃ C, Ret 199 [.ref 11, .int (nI a), .int (nI b)] σ [.int (pI (ldP dy sk a b))] (setR σ 92 C) := by
  have ea : (nI a).toNatClampNeg = a := clN (by omega)
  have eb : (nI b).toNatClampNeg = b := clN (by omega)
  have va : vp_in (nI a) 144 := vp_in_nI ha (by decide)
  have vb : vp_in (nI b) 144 := vp_in_nI hb (by decide)
  have start : ∀ R S, ((σ.1 75 a = 0 → Go 199 46 [.ref 11, .null, .int (nI b), .int 1, .null, .null, .null, .null, .null] [] (setR σ 92 (frR a (σ.1 92) 144)) R S) ∧ (¬ σ.1 75 a = 0 → Go 199 46 [.ref 11, .null, .int (nI b), .int 0, .null, .null, .null, .null, .null] [] (setR σ 92 (frR a (σ.1 92) 144)) R S)) → Ret 199 [.ref 11, .int (nI a), .int (nI b)] σ R S := by
    intro R S h
    refine g_199_0 ?_
    have key := loopN 144 (fun i => Go 199 2 [.ref 11, .int (nI a), .int (nI b), .int (nI i), .null, .null, .null, .null, .null] [] (setR σ 92 (frR a (σ.1 92) i)) R S) ?_ ?_ 0 (by omega)
    · rw [frR_0, setR_self] at key
      exact key
    · intro i hi hx
      have ei : (nI i).toNatClampNeg = i := clN (by omega)
      have lt : nI i < 144 := (nI_ltL (n := 144) rfl (by omega) (by decide)).mpr hi
      rw [← frR_S, ← wr_setR] at hx
      refine g_199_2 (br_t lt ?_)
      rw [ei, nI_S]
      by_cases e : i = a
      · rw [if_pos e] at hx
        exact br_t (by rw [e]) ⟨vp_in_nI hi (by decide), hx⟩
      · rw [if_neg e] at hx
        exact br_f (fun z => e ((nI_eq (by omega) (by omega)).mp z)) ⟨vp_in_nI hi (by decide), hx⟩
    · refine g_199_2 (br_f (by decide) ⟨va, ?_⟩)
      rw [ea]
      exact h
  have v0 : ∀ u, u < 144 → frR a (σ.1 92) 144 u = if u = a then 1 else 0 := fun u hu => if_pos hu
  rcases (Classical.em (sk a = 0)).symm with sa | sa
  · refine ⟨frR a (σ.1 92) 144, start _ _ (br_f (by rw [(hq a ha).2]; exact sa) (g_199_46 (br_t rfl ⟨vb, br_f ?_ ⟨?_, rfl⟩⟩)))⟩
    · rw [eb]
      show ¬ frR a (σ.1 92) 144 b = 2
      rw [v0 b hb]
      split <;> decide
    · rw [pI_f (fun z => sa z.1)]
  have hG : GdM dy sk a (frR a (σ.1 92) 144) := by
    refine ⟨fun u hu => ?_, ?_, fun u hu hn => ?_, fun F hF u hu => ?_⟩
    · rw [v0 u hu]
      split
      · exact Or.inr (Or.inl rfl)
      · exact Or.inl rfl
    · rw [v0 a ha, if_pos rfl]; decide
    · rw [v0 u hu] at hn
      split at hn
      · rename_i e; rw [e]; exact sa
      · exact absurd rfl hn
    · rw [v0 u hu]
      split
      · rename_i e; rw [e]; exact hF.2.1
      · exact in3_ge0 (hF.1 u hu)
  have main : ∀ n C, mu3 C zD < n → GdM dy sk a C → ∃ C', Go 199 46 [.ref 11, .null, .int (nI b), .int 1, .null, .null, .null, .null, .null] [] (setR σ 92 C) [.int (pI (ldP dy sk a b))] (setR σ 92 C') := by
    intro n
    induction n with
    | zero => intro C h; exact absurd h (Nat.not_lt_zero _)
    | succ n ih =>
      intro C hn hG
      obtain ⟨⟨C1, m1⟩, ⟨b1, b2, b3⟩, hgo⟩ := mlturn (σ := σ) (nI b) hq hG
      by_cases z : m1 = 0
      · obtain ⟨_, e1, _⟩ := b2.2.2.2.1 z
        have e1 : C1 = C := e1
        have hc := b3 z
        refine ⟨C1, g_199_46 (br_f (by decide) (hgo _ _ (g_199_46 (br_t z ⟨vb, ?_⟩))))⟩
        rw [eb]
        show (C1 b = 2 → _) ∧ (¬ C1 b = 2 → _)
        rw [e1]
        constructor
        · intro q
          refine ⟨?_, rfl⟩
          rw [pI_t]
          refine ⟨sa, hG.2.2.1 b hb (by rw [q]; decide), fun F hF => in3_2 (hF.1 b hb) ?_⟩
          rw [← q]
          exact hG.2.2.2 F hF b hb
        · intro q
          refine ⟨?_, rfl⟩
          rw [pI_f (fun w => q (w.2.2 C hc))]
      · have hch : Ch3 C zD C1 zD := by
          rcases b2.2.2.2.2 z with q | q
          · exact absurd rfl q
          · exact q
        have hlt : mu3 C1 zD < mu3 C zD := mu3_lt hG.1 b1.1 (fun _ _ => Or.inl rfl) (fun _ _ => Or.inl rfl) b2.1 b2.2.1 hch
        have e1 : m1 = 1 := by
          rcases b2.2.2.1 with q | q
          · exact absurd q z
          · exact q
        obtain ⟨C', h⟩ := ih C1 (Nat.lt_of_lt_of_le hlt (Nat.le_of_lt_succ hn)) b1
        refine ⟨C', g_199_46 (br_f (by decide) (hgo _ _ ?_))⟩
        show Go 199 46 [.ref 11, .null, .int (nI b), .int m1, .null, .null, .null, .null, .null] [] (setR σ 92 C1) _ _
        rw [e1]
        exact h
  obtain ⟨C', h⟩ := main _ _ (Nat.lt_succ_self _) hG
  exact ⟨C', start _ _ (br_t (by rw [(hq a ha).2]; exact sa) h)⟩
/-! the pair -/
theorem Rel.lst {σ : St} {M D : Nat → Int32} {mv : Int32} (hR : Rel σ) : Rel (lst σ M D mv) := by
  obtain ⟨hS, hG, hH, hL, hP, hM, hA, hT, hD, hF, hU⟩ := hR
  exact ⟨hS, hG, hH, hL, hP, hM, hA, hT, hD, hF, hU⟩
theorem Rel.r92 {σ : St} {F : Nat → Int32} (hR : Rel σ) : Rel (setR σ 92 F) := by
  obtain ⟨hS, hG, hH, hL, hP, hM, hA, hT, hD, hF, hU⟩ := hR
  exact ⟨hS, hG, hH, hL, hP, hM, hA, hT, hD, hF, hU⟩
theorem s_108 {τ : St} {a b : Nat} (ha : a < 144) (hb : b < 144) (hdy : ∀ l, l < 144 → τ.1 47 l = -1 ∨ ∃ d, d < 10 ∧ τ.1 47 l = nI d) : ∃ (M D : Nat → Int32) (mv : Int32), Ret 108 [.ref 10, .int (nI a), .int (nI b)] τ [.int (pI (τ.1 15 b < τ.1 14 a ∨ ldP (τ.1 47) (τ.1 48) a b))] (lst τ M D mv) := by
  have ea : (nI a).toNatClampNeg = a := clN (by omega)
  have eb : (nI b).toNatClampNeg = b := clN (by omega)
  have va : vp_in (nI a) 154 := vp_in_nI (by omega) (by decide)
  have vb : vp_in (nI b) 154 := vp_in_nI (by omega) (by decide)
  by_cases q : τ.1 14 a ≤ τ.1 15 b
  · obtain ⟨M, D, mv, h⟩ := s_56 (σ := τ) ha hb hdy
    refine ⟨M, D, mv, g_108_0 ⟨va, vb, br_t (by rw [ea, eb]; exact q) ⟨_, _, h, ?_⟩⟩⟩
    by_cases w : ldP (τ.1 47) (τ.1 48) a b
    · exact br_f (by rw [pI_t w]; decide) ⟨by rw [pI_t (Or.inr w)], rfl⟩
    · exact br_t (pI_f w) ⟨by rw [pI_f (fun z => z.elim (fun y => absurd q (Int32.not_le.mpr y)) w)], rfl⟩
  · refine ⟨τ.1 45, τ.1 46, τ.1 8 3, ?_⟩
    rw [lst_self]
    exact g_108_0 ⟨va, vb, br_f (by rw [ea, eb]; exact q) ⟨by rw [pI_t (Or.inl (Int32.not_le.mp q))], rfl⟩⟩
noncomputable def vl (P Q : Prop) : Int32 := pI P + (pI Q + pI Q)
theorem b144 {l : Nat} (hl : l < 144) : ¬ bI (0 ≤ nI l ∧ nI l < 144) = 0 := by
  rw [bI_t ⟨nI0 (by omega), (nI_ltL (n := 144) rfl (by omega) (by decide)).mpr hl⟩]; decide
theorem b143 {l : Nat} (hl : l < 144) : ¬ bI (0 ≤ nI l ∧ nI l ≤ 143) = 0 := by
  rw [bI_t ⟨nI0 (by omega), (nI_leL (n := 143) rfl (by omega) (by decide)).mpr (by omega)⟩]; decide
theorem s_107t {σ τ τ0 τ1 τ2 : St} {l k : Nat} {P Q : Prop} (hl : l < 144) (hk : k < 144) (hne : ¬ nI l = nI k) (hx : Ret 0 [.ref 0, .int (-1)] σ [.int 0] τ) (hu : Ret 64 [.ref 9, .int 0] (lo τ) [.int 0] τ0) (X1 : Ret 108 [.ref 10, .int (nI l), .int (nI k)] τ0 [.int (pI P)] τ1) (X2 : Ret 108 [.ref 10, .int (nI k), .int (nI l)] τ1 [.int (pI Q)] τ2) : Ret 107 [.ref 10, .int (nI l), .int (nI k)] σ [.int (vl P Q)] τ2 := by
  refine g_107_0 ⟨_, _, s_114, br_f (b144 hl) ⟨_, _, s_114, br_f (b144 hk) (br_f hne ⟨_, _, hx, br_t rfl ⟨_, s_62, _, _, hu, br_t rfl ⟨_, _, X1, ?_⟩⟩⟩)⟩⟩
  unfold vl
  by_cases p : P
  · by_cases q : Q
    · exact br_f (by rw [pI_t p]; decide) ⟨_, _, X2, br_f (by rw [pI_t q]; decide) ⟨by rw [pI_t p, pI_t q]; rfl, rfl⟩⟩
    · exact br_f (by rw [pI_t p]; decide) ⟨_, _, X2, br_t (pI_f q) ⟨by rw [pI_t p, pI_f q]; rfl, rfl⟩⟩
  · by_cases q : Q
    · exact br_t (pI_f p) ⟨_, _, X2, br_f (by rw [pI_t q]; decide) ⟨by rw [pI_f p, pI_t q]; rfl, rfl⟩⟩
    · exact br_t (pI_f p) ⟨_, _, X2, br_t (pI_f q) ⟨by rw [pI_f p, pI_f q]; rfl, rfl⟩⟩
theorem s_200t {σ τ τ0 τ1 τ2 : St} {l k : Nat} {A B : Prop} {L H : Nat → Int32} (hl : l < 144) (hk : k < 144) (hne : ¬ nI l = nI k) (hm : Ret 183 [.ref 11, .int (-6)] σ [.int 1] τ) (hm2 : Ret 180 [.ref 11] τ [.int 0] τ0) (y1 : Ret 199 [.ref 11, .int (nI l), .int (nI k)] τ0 [.int (pI A)] τ1) (y2 : Ret 199 [.ref 11, .int (nI k), .int (nI l)] τ1 [.int (pI B)] τ2)
    (e1 : τ1.1 88 l = L l) (e2 : τ1.1 89 k = H k) (e3 : τ2.1 88 k = L k) (e4 : τ2.1 89 l = H l) : Ret 200 [.ref 11, .int (nI l), .int (nI k)] σ [.int (vl (H k < L l ∨ A) (H l < L k ∨ B))] τ2 := by
  have el : (nI l).toNatClampNeg = l := clN (by omega)
  have ek : (nI k).toNatClampNeg = k := clN (by omega)
  have wl : vp_in (nI l) 144 := vp_in_nI hl (by decide)
  have wk : vp_in (nI k) 144 := vp_in_nI hk (by decide)
  refine g_200_0 ⟨_, _, s_124, br_f (b143 hl) ⟨_, _, s_124, br_f (b143 hk) (br_f hne ⟨_, _, hm, br_f (by decide) ⟨_, _, hm2, br_t rfl ⟨_, _, y1, ?_⟩⟩⟩)⟩⟩
  rw [el, ek]
  unfold vl
  have x2 : ∀ (P : Prop) (v : Int32), v = pI P → ((pI B = 0 → ((τ2.1 88 k ≤ τ2.1 89 l → ([Value.int (pI P + (pI (H l < L k ∨ B) + pI (H l < L k ∨ B)))] = [Value.int (v + 0)] ∧ τ2 = τ2)) ∧ (¬ τ2.1 88 k ≤ τ2.1 89 l → ([Value.int (pI P + (pI (H l < L k ∨ B) + pI (H l < L k ∨ B)))] = [Value.int (v + 2)] ∧ τ2 = τ2)))) ∧ (¬ pI B = 0 → ([Value.int (pI P + (pI (H l < L k ∨ B) + pI (H l < L k ∨ B)))] = [Value.int (v + 2)] ∧ τ2 = τ2))) := by
    intro P v e
    subst e
    refine ⟨fun z => ⟨fun q => ⟨?_, rfl⟩, fun q => ⟨?_, rfl⟩⟩, fun z => ⟨?_, rfl⟩⟩
    · rw [e3, e4] at q
      rw [pI_f (p := H l < L k ∨ B) (fun w => w.elim (fun y => absurd q (Int32.not_le.mpr y)) (pI_0.mp z))]
      rfl
    · rw [e3, e4] at q
      rw [pI_t (p := H l < L k ∨ B) (Or.inl (Int32.not_le.mp q))]
      rfl
    · rw [pI_t (p := H l < L k ∨ B) (Or.inr (Classical.byContradiction fun w => z (pI_f w)))]
      rfl
  by_cases a : A
  · have t := x2 (H k < L l ∨ A) 1 (pI_t (Or.inr a)).symm
    exact br_f (by rw [pI_t a]; decide) ⟨_, _, y2, fun z => ⟨wk, wl, t.1 z⟩, t.2⟩
  · refine br_t (pI_f a) ⟨wl, wk, ?_⟩
    by_cases q : τ1.1 88 l ≤ τ1.1 89 k
    · have np : ¬ (H k < L l ∨ A) := fun w => w.elim (fun y => absurd q (by rw [e1, e2]; exact Int32.not_le.mpr y)) a
      exact br_t q ⟨_, _, y2, x2 (H k < L l ∨ A) 0 (pI_f np).symm⟩
    · have yp : H k < L l ∨ A := Or.inl (by rw [e1, e2] at q; exact Int32.not_le.mp q)
      exact br_f q ⟨_, _, y2, x2 (H k < L l ∨ A) 1 (pI_t yp).symm⟩
theorem p_first {σ : St} {a b : Int32} (hR : Rel σ) : PairI 107 200 [.int a, .int b] σ := by
  rcases (Classical.em (0 ≤ a ∧ a < 144)).symm with h1 | h1
  · exact ⟨-1, σ, σ, (g_107_0 ⟨_, _, s_114, (br_t (by (try simp only [bI_0, vp_6, vp_9, vp_10, vp_12, vp_18, vp_30, vp_31, vp_50, vp_60, vp_144, vp_154, vp_180, vp_432, vp_3600]) <;> grind) ⟨rfl, rfl⟩)⟩), (g_200_0 ⟨_, _, s_124, (br_t (by (try simp only [bI_0, vp_6, vp_9, vp_10, vp_12, vp_18, vp_30, vp_31, vp_50, vp_60, vp_144, vp_154, vp_180, vp_432, vp_3600]) <;> grind) ⟨rfl, rfl⟩)⟩), hR⟩
  rcases (Classical.em (0 ≤ b ∧ b < 144)).symm with h2 | h2
  · exact ⟨-1, σ, σ, (g_107_0 ⟨_, _, s_114, (br_f (by (try simp only [bI_0, vp_6, vp_9, vp_10, vp_12, vp_18, vp_30, vp_31, vp_50, vp_60, vp_144, vp_154, vp_180, vp_432, vp_3600]) <;> grind) ⟨_, _, s_114, (br_t (by (try simp only [bI_0, vp_6, vp_9, vp_10, vp_12, vp_18, vp_30, vp_31, vp_50, vp_60, vp_144, vp_154, vp_180, vp_432, vp_3600]) <;> grind) ⟨rfl, rfl⟩)⟩)⟩), (g_200_0 ⟨_, _, s_124, (br_f (by (try simp only [bI_0, vp_6, vp_9, vp_10, vp_12, vp_18, vp_30, vp_31, vp_50, vp_60, vp_144, vp_154, vp_180, vp_432, vp_3600]) <;> grind) ⟨_, _, s_124, (br_t (by (try simp only [bI_0, vp_6, vp_9, vp_10, vp_12, vp_18, vp_30, vp_31, vp_50, vp_60, vp_144, vp_154, vp_180, vp_432, vp_3600]) <;> grind) ⟨rfl, rfl⟩)⟩)⟩), hR⟩
  by_cases h3 : a = b
  · exact ⟨-1, σ, σ, (g_107_0 ⟨_, _, s_114, (br_f (by (try simp only [bI_0, vp_6, vp_9, vp_10, vp_12, vp_18, vp_30, vp_31, vp_50, vp_60, vp_144, vp_154, vp_180, vp_432, vp_3600]) <;> grind) ⟨_, _, s_114, (br_f (by (try simp only [bI_0, vp_6, vp_9, vp_10, vp_12, vp_18, vp_30, vp_31, vp_50, vp_60, vp_144, vp_154, vp_180, vp_432, vp_3600]) <;> grind) (br_t (by (try simp only [bI_0, vp_6, vp_9, vp_10, vp_12, vp_18, vp_30, vp_31, vp_50, vp_60, vp_144, vp_154, vp_180, vp_432, vp_3600]) <;> grind) ⟨rfl, rfl⟩))⟩)⟩), (g_200_0 ⟨_, _, s_124, (br_f (by (try simp only [bI_0, vp_6, vp_9, vp_10, vp_12, vp_18, vp_30, vp_31, vp_50, vp_60, vp_144, vp_154, vp_180, vp_432, vp_3600]) <;> grind) ⟨_, _, s_124, (br_f (by (try simp only [bI_0, vp_6, vp_9, vp_10, vp_12, vp_18, vp_30, vp_31, vp_50, vp_60, vp_144, vp_154, vp_180, vp_432, vp_3600]) <;> grind) (br_t (by (try simp only [bI_0, vp_6, vp_9, vp_10, vp_12, vp_18, vp_30, vp_31, vp_50, vp_60, vp_144, vp_154, vp_180, vp_432, vp_3600]) <;> grind) ⟨rfl, rfl⟩))⟩)⟩), hR⟩
  obtain ⟨l, hl, rfl⟩ := inR (x := a) (m := 144) (n := 144) rfl (by decide) h1.1 h1.2
  obtain ⟨k, hk, rfl⟩ := inR (x := b) (m := 144) (n := 144) rfl (by decide) h2.1 h2.2
  have el : (nI l).toNatClampNeg = l := clN (by omega)
  have ek : (nI k).toNatClampNeg = k := clN (by omega)
  have vl : vp_in (nI l) 144 := vp_in_nI hl (by decide)
  have vk : vp_in (nI k) 144 := vp_in_nI hk (by decide)
  have hdy := rT_day hR
  obtain ⟨L, H, hq⟩ := hR.net0 (-1)
  obtain ⟨L1, H1, mv, hx, ex⟩ := net_x (τ := σ) hR hq ⟨rfl, rfl, rfl, rfl⟩
  by_cases hc : clP L H
  · obtain ⟨L2, H2, hm, em⟩ := net_m (τ := nst σ L1 H1 mv) hR w_none hq ⟨rfl, rfl, rfl, rfl, rfl, rfl⟩
    rw [pI_t hc] at hx
    rw [pI_f (fun z => z hc)] at hm
    exact ⟨-5, _, _, (g_107_0 ⟨_, _, s_114, (br_f (by (try simp only [bI_0, vp_6, vp_9, vp_10, vp_12, vp_18, vp_30, vp_31, vp_50, vp_60, vp_144, vp_154, vp_180, vp_432, vp_3600]) <;> grind) ⟨_, _, s_114, (br_f (by (try simp only [bI_0, vp_6, vp_9, vp_10, vp_12, vp_18, vp_30, vp_31, vp_50, vp_60, vp_144, vp_154, vp_180, vp_432, vp_3600]) <;> grind) (br_f (by (try simp only [bI_0, vp_6, vp_9, vp_10, vp_12, vp_18, vp_30, vp_31, vp_50, vp_60, vp_144, vp_154, vp_180, vp_432, vp_3600]) <;> grind) ⟨_, _, hx, (br_f (by (try simp only [bI_0, vp_6, vp_9, vp_10, vp_12, vp_18, vp_30, vp_31, vp_50, vp_60, vp_144, vp_154, vp_180, vp_432, vp_3600]) <;> grind) ⟨rfl, rfl⟩)⟩))⟩)⟩), (g_200_0 ⟨_, _, s_124, (br_f (by (try simp only [bI_0, vp_6, vp_9, vp_10, vp_12, vp_18, vp_30, vp_31, vp_50, vp_60, vp_144, vp_154, vp_180, vp_432, vp_3600]) <;> grind) ⟨_, _, s_124, (br_f (by (try simp only [bI_0, vp_6, vp_9, vp_10, vp_12, vp_18, vp_30, vp_31, vp_50, vp_60, vp_144, vp_154, vp_180, vp_432, vp_3600]) <;> grind) (br_f (by (try simp only [bI_0, vp_6, vp_9, vp_10, vp_12, vp_18, vp_30, vp_31, vp_50, vp_60, vp_144, vp_154, vp_180, vp_432, vp_3600]) <;> grind) ⟨_, _, hm, (br_t (by (try simp only [bI_0, vp_6, vp_9, vp_10, vp_12, vp_18, vp_30, vp_31, vp_50, vp_60, vp_144, vp_154, vp_180, vp_432, vp_3600]) <;> grind) ⟨rfl, rfl⟩)⟩))⟩)⟩), hR.nst.mst⟩
  rw [pI_f hc] at hx
  obtain ⟨F, U, hU, hu⟩ := un_x (σ := nst σ L1 H1 mv) hR.nst
  have hU31 : U < 2 ^ 31 := by
    refine Nat.lt_of_lt_of_le (m := 2 ^ 10) (Nat.lt_pow_two_of_testBit U (fun i hi => ?_)) (by decide)
    cases hb : U.testBit i
    · rfl
    · exact absurd ((hU i).mp hb).1 (by omega)
  rcases (Classical.em (U = 0)).symm with hz | hz
  · obtain ⟨L2, H2, hm, em⟩ := net_m (τ := setR (lo (nst σ L1 H1 mv)) 51 F) hR w_none hq ⟨rfl, rfl, rfl, rfl, rfl, rfl⟩
    rw [pI_t hc] at hm
    obtain ⟨G, hm2⟩ := un_m (σ := mst (setR (lo (nst σ L1 H1 mv)) 51 F) L2 H2) (U := U) hR.nst.lo.r51.mst hU
    have nz : ¬ nI U = 0 := fun z => hz ((nI_0iff hU31).mp z)
    exact ⟨-5, _, _, (g_107_0 ⟨_, _, s_114, (br_f (by (try simp only [bI_0, vp_6, vp_9, vp_10, vp_12, vp_18, vp_30, vp_31, vp_50, vp_60, vp_144, vp_154, vp_180, vp_432, vp_3600]) <;> grind) ⟨_, _, s_114, (br_f (by (try simp only [bI_0, vp_6, vp_9, vp_10, vp_12, vp_18, vp_30, vp_31, vp_50, vp_60, vp_144, vp_154, vp_180, vp_432, vp_3600]) <;> grind) (br_f (by (try simp only [bI_0, vp_6, vp_9, vp_10, vp_12, vp_18, vp_30, vp_31, vp_50, vp_60, vp_144, vp_154, vp_180, vp_432, vp_3600]) <;> grind) ⟨_, _, hx, (br_t (by (try simp only [bI_0, vp_6, vp_9, vp_10, vp_12, vp_18, vp_30, vp_31, vp_50, vp_60, vp_144, vp_154, vp_180, vp_432, vp_3600]) <;> grind) ⟨_, s_62, ⟨_, _, hu, (br_f nz ⟨rfl, rfl⟩)⟩⟩)⟩))⟩)⟩), (g_200_0 ⟨_, _, s_124, (br_f (by (try simp only [bI_0, vp_6, vp_9, vp_10, vp_12, vp_18, vp_30, vp_31, vp_50, vp_60, vp_144, vp_154, vp_180, vp_432, vp_3600]) <;> grind) ⟨_, _, s_124, (br_f (by (try simp only [bI_0, vp_6, vp_9, vp_10, vp_12, vp_18, vp_30, vp_31, vp_50, vp_60, vp_144, vp_154, vp_180, vp_432, vp_3600]) <;> grind) (br_f (by (try simp only [bI_0, vp_6, vp_9, vp_10, vp_12, vp_18, vp_30, vp_31, vp_50, vp_60, vp_144, vp_154, vp_180, vp_432, vp_3600]) <;> grind) ⟨_, _, hm, (br_f (by (try simp only [bI_0, vp_6, vp_9, vp_10, vp_12, vp_18, vp_30, vp_31, vp_50, vp_60, vp_144, vp_154, vp_180, vp_432, vp_3600]) <;> grind) ⟨_, _, hm2, (br_f nz ⟨rfl, rfl⟩)⟩)⟩))⟩)⟩), hR.nst.lo.r51.mst.r87.r86⟩
  have z0 : nI U = 0 := by rw [hz]; rfl
  obtain ⟨M1, D1, w1, x1⟩ := s_108 (τ := setR (lo (nst σ L1 H1 mv)) 51 F) hl hk hdy
  obtain ⟨M2, D2, w2, x2⟩ := s_108 (τ := lst (setR (lo (nst σ L1 H1 mv)) 51 F) M1 D1 w1) hk hl hdy
  obtain ⟨L2, H2, hm, em⟩ := net_m (τ := lst (lst (setR (lo (nst σ L1 H1 mv)) 51 F) M1 D1 w1) M2 D2 w2) hR w_none hq ⟨rfl, rfl, rfl, rfl, rfl, rfl⟩
  rw [pI_t hc] at hm
  obtain ⟨G, hm2⟩ := un_m (σ := mst (lst (lst (setR (lo (nst σ L1 H1 mv)) 51 F) M1 D1 w1) M2 D2 w2) L2 H2) (U := U) hR.nst.lo.r51.lst.lst.mst hU
  obtain ⟨C1, y1⟩ := s_199 (σ := setR (setR (mst (lst (lst (setR (lo (nst σ L1 H1 mv)) 51 F) M1 D1 w1) M2 D2 w2) L2 H2) 87 (nmR (orf (σ.1 47) (σ.1 48)) (σ.1 87) 144)) 86 G) (dy := σ.1 47) (sk := σ.1 48) hl hk hR.tmq
  obtain ⟨C2, y2⟩ := s_199 (σ := setR (setR (setR (mst (lst (lst (setR (lo (nst σ L1 H1 mv)) 51 F) M1 D1 w1) M2 D2 w2) L2 H2) 87 (nmR (orf (σ.1 47) (σ.1 48)) (σ.1 87) 144)) 86 G) 92 C1) (dy := σ.1 47) (sk := σ.1 48) hk hl hR.tmq
  have X1 : Ret 108 [.ref 10, .int (nI l), .int (nI k)] (setR (lo (nst σ L1 H1 mv)) 51 F) [.int (pI (H k < L l ∨ ldP (σ.1 47) (σ.1 48) l k))] (lst (setR (lo (nst σ L1 H1 mv)) 51 F) M1 D1 w1) := by
    rw [← (ex l (by omega)).1, ← (ex k (by omega)).2]; exact x1
  have X2 : Ret 108 [.ref 10, .int (nI k), .int (nI l)] (lst (setR (lo (nst σ L1 H1 mv)) 51 F) M1 D1 w1) [.int (pI (H l < L k ∨ ldP (σ.1 47) (σ.1 48) k l))] (lst (lst (setR (lo (nst σ L1 H1 mv)) 51 F) M1 D1 w1) M2 D2 w2) := by
    rw [← (ex k (by omega)).1, ← (ex l (by omega)).2]; exact x2
  have m88 : ∀ τ : St, ∀ u, u < 144 → (mst τ L2 H2).1 88 u = L u ∧ (mst τ L2 H2).1 89 u = H u := fun τ u hu => ⟨by rw [mst_88 hu, (em u (by omega)).1], by rw [mst_89 hu, (em u (by omega)).2]⟩
  rw [z0] at hu hm2
  have h3' : ¬ nI l = nI k := h3
  exact ⟨_, _, _, s_107t hl hk h3' hx hu X1 X2, s_200t (L := L) (H := H) hl hk h3' hm hm2 y1 y2 (m88 _ l hl).1 (m88 _ k hk).2 (m88 _ k hk).1 (m88 _ l hl).2, hR.nst.lo.r51.lst.lst.mst.r87.r86.r92.r92⟩
