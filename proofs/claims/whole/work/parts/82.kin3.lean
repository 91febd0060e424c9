/-! alike, chains and broken ones of the model -/
def ls (τ : St) (n : Int32) (A B : Nat → Int32) : St := setR (setR (wr τ 11 37 n) 83 A) 84 B
theorem ls_37 {τ : St} {n x : Int32} {A B : Nat → Int32} : wr (ls τ n A B) 11 37 x = ls τ x A B := by
  refine St_ext (fun q j => ?_) rfl
  unfold ls
  simp only [wr_get, setR_get]
  by_cases h : q = 11
  · subst h; by_cases h6 : j = 37 <;> simp [h6, wr_get]
  · rw [if_neg (fun z => h z.1)]; simp only [wr_row h]
theorem ls_83 {τ : St} {n x : Int32} {A B : Nat → Int32} {k : Nat} : wr (ls τ n A B) 83 k x = ls τ n (upd A k x) B := by
  refine St_ext (fun q j => ?_) rfl
  unfold ls
  simp only [wr_get, setR_get]
  by_cases h : q = 83
  · subst h; simp [upd]
  · simp [h]
theorem ls_84 {τ : St} {n x : Int32} {A B : Nat → Int32} {k : Nat} : wr (ls τ n A B) 84 k x = ls τ n A (upd B k x) := by
  refine St_ext (fun q j => ?_) rfl
  unfold ls
  simp only [wr_get, setR_get]
  by_cases h : q = 84
  · subst h; simp [upd]
  · simp [h]
theorem ls_0 {τ : St} {n : Int32} : wr τ 11 37 n = ls τ n (τ.1 83) (τ.1 84) := by
  generalize e : wr τ 11 37 n = σ
  have e1 : τ.1 83 = σ.1 83 := by rw [← e]; rfl
  have e2 : τ.1 84 = σ.1 84 := by rw [← e]; rfl
  unfold ls
  rw [e, e1, e2, setR_self, setR_self]
theorem mul60 {a b : Nat} : (60 : Int32) * nI a + nI b = nI (60 * a + b) := by
  rw [show (60 : Int32) = nI 60 from rfl, pk_mul, nI_add]
def AlR (K : Nat → Nat → Prop) (a : Nat) (B : Nat → Int32) : Prop := ∀ x y, y < x → x < a → B (60 * x + y) = pI (K x y) ∧ B (60 * y + x) = pI (K x y)
def AlJ (K : Nat → Nat → Prop) (a b : Nat) (B : Nat → Int32) : Prop := AlR K a B ∧ ∀ y, y < b → B (60 * a + y) = pI (K a y) ∧ B (60 * y + a) = pI (K a y)
theorem AlJ.step {K : Nat → Nat → Prop} {a b : Nat} {B : Nat → Int32} (ha : a < 60) (hb : b < a) (h : AlJ K a b B) : AlJ K a (b + 1) (upd (upd B (60 * a + b) (pI (K a b))) (60 * b + a) (pI (K a b))) := by
  refine ⟨fun x y hy hx => ?_, fun y hy => ?_⟩
  · rw [upd_n (by omega), upd_n (by omega), upd_n (by omega), upd_n (by omega)]
    exact h.1 x y hy hx
  · by_cases e : y = b
    · subst e
      rw [upd_n (show 60 * a + y ≠ 60 * y + a by omega), upd_at, upd_at]
      exact ⟨rfl, rfl⟩
    · rw [upd_n (by omega), upd_n (by omega), upd_n (by omega), upd_n (by omega)]
      exact h.2 y (by omega)
theorem AlJ.done {K : Nat → Nat → Prop} {a : Nat} {B : Nat → Int32} (h : AlJ K a a B) : AlR K (a + 1) B := by
  intro x y hy hx
  by_cases e : x = a
  · subst e; exact h.2 y hy
  · exact h.1 x y hy (by omega)
theorem AlR.at {K : Nat → Nat → Prop} {m : Nat} {B : Nat → Int32} (h : AlR K m B) {a b : Nat} (ha : a < m) (hb : b < m) (hab : ¬ a = b) : B (60 * a + b) = pI (AJ K a b) := by
  rcases Nat.lt_trichotomy b a with q | q | q
  · rw [(h a b q ha).1]
    exact pI_iff ⟨fun z => Or.inl ⟨q, z⟩, fun z => z.elim (fun y => y.2) (fun y => by omega)⟩
  · exact absurd q.symm hab
  · rw [(h b a q hb).2]
    exact pI_iff ⟨fun z => Or.inr ⟨q, z⟩, fun z => z.elim (fun y => by omega) (fun y => y.2)⟩
theorem s_159 {τ : St} {g : Nat} {rk : Nat → Nat} {K : Nat → Nat → Prop} (hg : GF τ g) (hc : rkc (τ.1 30) 144 ≤ 60) (hrk : ∀ i, i < rkc (τ.1 30) 144 → rkr (τ.1 30) (τ.1 83) 144 i = nI (rk i))
    (hK : ∀ a b, b < a → a < rkc (τ.1 30) 144 → ∀ n A B, Ret 157 [.ref 11, .int (nI (rk a)), .int (nI (rk b))] (ls τ n A B) [.int (pI (K a b))] (ls τ n A B)) : ∃ B, AlR K (rkc (τ.1 30) 144) B ∧ Ret 159 [.ref 11] τ [] (ls τ (nI (rkc (τ.1 30) 144)) (rkr (τ.1 30) (τ.1 83) 144) B) := by
  have second := loopX (α := Nat → Int32) (β := Nat → Int32) (rkc (τ.1 30) 144)
    (fun a B => AlR K a B)
    (fun a B r => Go 159 50 [.ref 11, .int (nI a), .null, .null] [] (ls τ (nI (rkc (τ.1 30) 144)) (rkr (τ.1 30) (τ.1 83) 144) B) [] (ls τ (nI (rkc (τ.1 30) 144)) (rkr (τ.1 30) (τ.1 83) 144) r))
    (fun r => AlR K (rkc (τ.1 30) 144) r) ?_ ?_ 0 (τ.1 84) (by omega) (fun x y _ h => by omega)
  · obtain ⟨B, h1, h2⟩ := second
    refine ⟨B, h1, g_159_0 ?_⟩
    rw [ls_0]
    refine loopN 144 (fun i => Go 159 7 [.ref 11, .int (nI i), .null, .null] [] (ls τ (nI (rkc (τ.1 30) i)) (rkr (τ.1 30) (τ.1 83) i) (τ.1 84)) [] (ls τ (nI (rkc (τ.1 30) 144)) (rkr (τ.1 30) (τ.1 83) 144) B)) (fun i hi h => ?_) (g_159_7 (br_f (by decide) h2)) 0 (by omega)
    have lt : nI i < 144 := (nI_ltL (n := 144) rfl (by omega) (by decide)).mpr hi
    have c139 : Ret 139 [.ref 11, .int (nI i)] (ls τ (nI (rkc (τ.1 30) i)) (rkr (τ.1 30) (τ.1 83) i) (τ.1 84)) [.int (τ.1 30 i)] (ls τ (nI (rkc (τ.1 30) i)) (rkr (τ.1 30) (τ.1 83) i) (τ.1 84)) := by
      rw [← gf_ct hg hi]
      exact s_139 (σ := ls τ (nI (rkc (τ.1 30) i)) (rkr (τ.1 30) (τ.1 83) i) (τ.1 84)) hg.1.1 hg.2.1
    rw [rkr, rkc] at h
    by_cases q : τ.1 30 i ≤ 0
    · rw [if_pos q, if_pos q] at h
      refine g_159_7 (br_t lt ⟨_, _, c139, br_t q ?_⟩)
      rw [nI_S]
      exact h
    · rw [if_neg q, if_neg q] at h
      have hlt : rkc (τ.1 30) i < 60 := by have := rkc_lt (f := τ.1 30) hi q; omega
      refine g_159_7 (br_t lt ⟨_, _, c139, br_f q ⟨vp_in_nI (n := rkc (τ.1 30) i) hlt (by decide), ?_⟩⟩)
      show Go 159 7 [.ref 11, .int (nI i + 1), .null, .null] [] (wr (wr (ls τ (nI (rkc (τ.1 30) i)) (rkr (τ.1 30) (τ.1 83) i) (τ.1 84)) 83 (nI (rkc (τ.1 30) i)).toNatClampNeg (nI i)) 11 37 (nI (rkc (τ.1 30) i) + 1)) [] _
      rw [clN (by omega), ls_83, ls_37, nI_S, nI_S]
      exact h
  · intro a B ha hI
    have ea : (nI a).toNatClampNeg = a := clN (by omega)
    have inner := loopX (α := Nat → Int32) (β := Nat → Int32) a
      (fun b B => AlJ K a b B)
      (fun b B r => ∀ S, Go 159 50 [.ref 11, .int (nI (a + 1)), .null, .null] [] (ls τ (nI (rkc (τ.1 30) 144)) (rkr (τ.1 30) (τ.1 83) 144) r) [] S → Go 159 60 [.ref 11, .int (nI a), .int (nI b), .null] [] (ls τ (nI (rkc (τ.1 30) 144)) (rkr (τ.1 30) (τ.1 83) 144) B) [] S)
      (fun r => AlR K (a + 1) r) ?_ ?_ 0 B (by omega) ⟨hI, fun y h => by omega⟩
    · obtain ⟨r, h1, h2⟩ := inner
      exact ⟨r, h1, fun q hq => g_159_50 (br_t ((nI_ltI (by omega) (by omega)).mpr ha) (h2 _ hq))⟩
    · intro b B hb hJ
      have eb : (nI b).toNatClampNeg = b := clN (by omega)
      have c1 : (ls τ (nI (rkc (τ.1 30) 144)) (rkr (τ.1 30) (τ.1 83) 144) B).1 83 (nI a).toNatClampNeg = nI (rk a) := by rw [ea]; exact hrk a ha
      have c2 : (ls τ (nI (rkc (τ.1 30) 144)) (rkr (τ.1 30) (τ.1 83) 144) B).1 83 (nI b).toNatClampNeg = nI (rk b) := by rw [eb]; exact hrk b (by omega)
      refine ⟨_, hJ.step (by omega) hb, fun r hr S hS => g_159_60 (br_t ((nI_ltI (by omega) (by omega)).mpr hb) ⟨vp_in_nI (by omega) (by decide), vp_in_nI (by omega) (by decide), ?_⟩)⟩
      rw [c1, c2, mul60, mul60, clN (by omega), clN (by omega), nI_S]
      refine ⟨_, _, hK a b hb ha _ _ _, vp_in_nI (by omega) (by decide), pI_01, vp_in_nI (by omega) (by decide), ?_⟩
      rw [ls_84, ls_84]
      exact hr S hS
    · intro B hJ
      refine ⟨B, hJ.done, fun S hS => g_159_60 (br_f Int32.lt_irrefl ?_)⟩
      rw [nI_S]
      exact hS
  · intro B hI
    exact ⟨B, hI, g_159_50 (br_f Int32.lt_irrefl ⟨rfl, rfl⟩)⟩
/-! a chain is laid -/
def CcI (K : Nat → Nat → Prop) (m r : Nat) (C : Nat → Int32) : Prop := (∀ u, u < m → C u = 0 ∨ C u = 1) ∧ C r = 1 ∧ ∀ u, u < m → ¬ C u = 0 → Rc K m r u
def CgW (m : Nat) (C : Nat → Int32) (C' : Nat → Int32) (mv' : Int32) : Prop := (∀ u, u < m → ¬ C u = 0 → ¬ C' u = 0) ∧ (mv' = 0 ∨ mv' = 1) ∧ (mv' = 0 → C' = C) ∧ (¬ mv' = 0 → ∃ u, u < m ∧ C u = 0 ∧ ¬ C' u = 0)
theorem lturn2 {τ : St} {K : Nat → Nat → Prop} {m r : Nat} {C : Nat → Int32} (hm : m ≤ 60) (e37 : τ.1 11 37 = nI m) (hB : ∀ a b, a < m → b < m → ¬ a = b → τ.1 84 (60 * a + b) = pI (AJ K a b)) (hC : CcI K m r C) : ∃ x : (Nat → Int32) × Int32, (CcI K m r x.1 ∧ CgW m C x.1 x.2 ∧ (x.2 = 0 → ∀ a b, a < m → b < m → ¬ a = b → ¬ C a = 0 → AJ K a b → ¬ C b = 0)) ∧
    ∀ S, Go 160 34 [.ref 11, .null, .int x.2, .null, .null] [] (setR τ 85 x.1) [] S → Go 160 42 [.ref 11, .null, .int 0, .int 0, .null] [] (setR τ 85 C) [] S := by
  refine loopX (α := (Nat → Int32) × Int32) (β := (Nat → Int32) × Int32) m
    (fun a x => CcI K m r x.1 ∧ CgW m C x.1 x.2 ∧ (x.2 = 0 → ∀ y b, y < a → b < m → ¬ y = b → ¬ C y = 0 → AJ K y b → ¬ C b = 0))
    (fun a x q => ∀ S, Go 160 34 [.ref 11, .null, .int q.2, .null, .null] [] (setR τ 85 q.1) [] S → Go 160 42 [.ref 11, .null, .int x.2, .int (nI a), .null] [] (setR τ 85 x.1) [] S)
    (fun x => CcI K m r x.1 ∧ CgW m C x.1 x.2 ∧ (x.2 = 0 → ∀ a b, a < m → b < m → ¬ a = b → ¬ C a = 0 → AJ K a b → ¬ C b = 0)) ?_ ?_ 0 (C, 0) (by omega) ⟨hC, ⟨fun _ _ h => h, Or.inl rfl, fun _ => rfl, fun h => absurd rfl h⟩, fun _ y b h => by omega⟩
  · rintro a ⟨C1, m1⟩ ha ⟨a1, a2, a3⟩
    have ea : (nI a).toNatClampNeg = a := clN (by omega)
    have lta : nI a < (setR τ 85 C1).1 11 37 := by show nI a < τ.1 11 37; rw [e37]; exact (nI_ltI (by omega) (by omega)).mpr ha
    by_cases pa : C1 a = 0
    · refine ⟨(C1, m1), ⟨a1, a2, fun hz y b h1 h2 h3 h4 h5 => ?_⟩, fun q hq S hS => g_160_42 (br_t lta (g_160_53 (br_t (by show (0 : Int32) < τ.1 11 37; rw [e37]; exact (nI_ltI (a := 0) (by omega) (by omega)).mpr (by omega)) ⟨vp_in_nI (by omega) (by decide), br_t (by rw [ea]; exact pa) ?_⟩)))⟩
      · by_cases e : y = a
        · have e2 : C1 = C := a2.2.2.1 hz
          rw [e, ← e2] at h4
          exact absurd pa h4
        · exact a3 hz y b (by omega) h2 h3 h4 h5
      · rw [nI_S]; exact hq S hS
    · have inner := loopX (α := (Nat → Int32) × Int32) (β := (Nat → Int32) × Int32) m
        (fun b x => (CcI K m r x.1 ∧ CgW m C x.1 x.2 ∧ (x.2 = 0 → ∀ y b, y < a → b < m → ¬ y = b → ¬ C y = 0 → AJ K y b → ¬ C b = 0)) ∧ ¬ x.1 a = 0 ∧ (x.2 = 0 → ∀ y, y < b → ¬ a = y → AJ K a y → ¬ C y = 0))
        (fun b x q => ∀ S, Go 160 42 [.ref 11, .null, .int q.2, .int (nI (a + 1)), .null] [] (setR τ 85 q.1) [] S → Go 160 53 [.ref 11, .null, .int x.2, .int (nI a), .int (nI b)] [] (setR τ 85 x.1) [] S)
        (fun x => CcI K m r x.1 ∧ CgW m C x.1 x.2 ∧ (x.2 = 0 → ∀ y b, y < a + 1 → b < m → ¬ y = b → ¬ C y = 0 → AJ K y b → ¬ C b = 0)) ?_ ?_ 0 (C1, m1) (by omega) ⟨⟨a1, a2, a3⟩, pa, fun _ y h => by omega⟩
      · obtain ⟨x, h1, h2⟩ := inner
        exact ⟨x, h1, fun q hq S hS => g_160_42 (br_t lta (h2 S (hq S hS)))⟩
      · rintro b ⟨C2, m2⟩ hb ⟨⟨b1, b2, b3⟩, b4, b5⟩
        have eb : (nI b).toNatClampNeg = b := clN (by omega)
        have ltb : nI b < (setR τ 85 C2).1 11 37 := by show nI b < τ.1 11 37; rw [e37]; exact (nI_ltI (by omega) (by omega)).mpr hb
        have va : vp_in (nI a) 60 := vp_in_nI (by omega) (by decide)
        have vb : vp_in (nI b) 60 := vp_in_nI (by omega) (by decide)
        have ci : (60 * nI a + nI b : Int32).toNatClampNeg = 60 * a + b := by rw [mul60]; exact clN (by omega)
        have vi : vp_in (60 * nI a + nI b) 3600 := by rw [mul60]; exact vp_in_nI (by omega) (by decide)
        have keep : (m2 = 0 → ¬ a = b → AJ K a b → ¬ C b = 0) → ∃ x' : (Nat → Int32) × Int32, (((CcI K m r x'.1 ∧ CgW m C x'.1 x'.2 ∧ (x'.2 = 0 → ∀ y b, y < a → b < m → ¬ y = b → ¬ C y = 0 → AJ K y b → ¬ C b = 0)) ∧ ¬ x'.1 a = 0 ∧ (x'.2 = 0 → ∀ y, y < b + 1 → ¬ a = y → AJ K a y → ¬ C y = 0))) ∧ x' = (C2, m2) := by
          intro hcl
          refine ⟨(C2, m2), ⟨⟨b1, b2, b3⟩, b4, fun hz y hy h1 h2 => ?_⟩, rfl⟩
          by_cases e : y = b
          · subst e; exact hcl hz h1 h2
          · exact b5 hz y (by omega) h1 h2
        by_cases hab : a = b
        · obtain ⟨x', hx', rfl⟩ := keep (fun _ h => absurd hab h)
          refine ⟨_, hx', fun q hq S hS => g_160_53 (br_t ltb ⟨va, br_f (by rw [ea]; exact b4) (br_t (by rw [hab]) ?_)⟩)⟩
          rw [nI_S]; exact hq S hS
        · have nab : ¬ nI a = nI b := nI_ne (by omega) (by omega) hab
          by_cases cb0 : C2 b = 0
          · by_cases al : AJ K a b
            · refine ⟨(upd C2 b 1, 1), ⟨⟨⟨fun u hu => ?_, ?_, fun u hu h => ?_⟩, ⟨fun u hu h => ?_, Or.inr rfl, fun h => absurd h n10, fun _ => ⟨b, hb, ?_, ?_⟩⟩, fun h => absurd h n10⟩, ?_, fun h => absurd h n10⟩, fun q hq S hS => g_160_53 (br_t ltb ⟨va, br_f (by rw [ea]; exact b4) (br_f nab ⟨vb, br_t (by rw [eb]; exact cb0) ⟨vi, br_f ?_ ?_⟩⟩)⟩)⟩
              · show upd C2 b 1 u = 0 ∨ upd C2 b 1 u = 1
                by_cases e : u = b
                · rw [e, upd_at]; exact Or.inr rfl
                · rw [upd_n e]; exact b1.1 u hu
              · show upd C2 b 1 r = 1
                by_cases e : r = b
                · rw [e, upd_at]
                · rw [upd_n e]; exact b1.2.1
              · have h : ¬ upd C2 b 1 u = 0 := h
                by_cases e : u = b
                · rw [e]
                  exact (b1.2.2 a ha b4).trans (Or.inr (Relation.TransGen.single ⟨ha, hb, al⟩))
                · rw [upd_n e] at h; exact b1.2.2 u hu h
              · show ¬ upd C2 b 1 u = 0
                by_cases e : u = b
                · rw [e, upd_at]; exact n10
                · rw [upd_n e]; exact b2.1 u hu h
              · apply Classical.byContradiction
                intro z
                exact b2.1 b hb z cb0
              · show ¬ upd C2 b 1 b = 0
                rw [upd_at]; exact n10
              · show ¬ upd C2 b 1 a = 0
                rw [upd_n hab]; exact b4
              · rw [ci]
                show ¬ τ.1 84 (60 * a + b) = 0
                rw [hB a b ha hb hab, pI_t al]
                decide
              · rw [eb, wr_setR, nI_S]
                exact hq S hS
            · obtain ⟨x', hx', rfl⟩ := keep (fun _ _ h => absurd h al)
              refine ⟨_, hx', fun q hq S hS => g_160_53 (br_t ltb ⟨va, br_f (by rw [ea]; exact b4) (br_f nab ⟨vb, br_t (by rw [eb]; exact cb0) ⟨vi, br_t ?_ ?_⟩⟩)⟩)⟩
              · rw [ci]
                show τ.1 84 (60 * a + b) = 0
                rw [hB a b ha hb hab, pI_f al]
              · rw [nI_S]; exact hq S hS
          · obtain ⟨x', hx', rfl⟩ := keep (fun hz _ _ => by have e2 : C2 = C := b2.2.2.1 hz; rw [← e2]; exact cb0)
            refine ⟨_, hx', fun q hq S hS => g_160_53 (br_t ltb ⟨va, br_f (by rw [ea]; exact b4) (br_f nab ⟨vb, br_f (by rw [eb]; exact cb0) ?_⟩)⟩)⟩
            rw [nI_S]; exact hq S hS
      · rintro ⟨C2, m2⟩ ⟨⟨b1, b2, b3⟩, b4, b5⟩
        refine ⟨(C2, m2), ⟨b1, b2, fun hz y b h1 h2 h3 h4 h5 => ?_⟩, fun S hS => g_160_53 (br_f (by show ¬ nI m < τ.1 11 37; rw [e37]; exact Int32.lt_irrefl) ?_)⟩
        · by_cases e : y = a
          · subst e; exact b5 hz b h2 h3 h5
          · exact b3 hz y b (by omega) h2 h3 h4 h5
        · rw [nI_S]; exact hS
  · rintro ⟨C1, m1⟩ ⟨a1, a2, a3⟩
    exact ⟨(C1, m1), ⟨a1, a2, a3⟩, fun S hS => g_160_42 (br_f (by show ¬ nI m < τ.1 11 37; rw [e37]; exact Int32.lt_irrefl) hS)⟩
theorem s_160 {τ : St} {K : Nat → Nat → Prop} {m r : Nat} (hm : m ≤ 60) (hr : r < m) (e37 : τ.1 11 37 = nI m) (hB : ∀ a b, a < m → b < m → ¬ a = b → τ.1 84 (60 * a + b) = pI (AJ K a b)) : ∃ C, Ret 160 [.ref 11, .int (nI r)] τ [] (setR τ 85 C) ∧ ∀ u, u < m → C u = pI (Rc K m r u) := by
  have main : ∀ n C, cntP (fun u => C u = 0) m < n → CcI K m r C → ∃ C', Go 160 34 [.ref 11, .null, .int 1, .null, .null] [] (setR τ 85 C) [] (setR τ 85 C') ∧ ∀ u, u < m → C' u = pI (Rc K m r u) := by
    intro n
    induction n with
    | zero => intro C h; exact absurd h (Nat.not_lt_zero _)
    | succ n ih =>
      intro C hn hC
      obtain ⟨⟨C1, m1⟩, ⟨a1, a2, a3⟩, hgo⟩ := lturn2 hm e37 hB hC
      by_cases z : m1 = 0
      · have e1 : C1 = C := a2.2.2.1 z
        refine ⟨C, g_160_34 (br_f (by decide) (hgo _ ?_)), fun u hu => ?_⟩
        · show Go 160 34 [.ref 11, .null, .int m1, .null, .null] [] (setR τ 85 C1) [] _
          rw [e1]
          exact g_160_34 (br_t z ⟨rfl, rfl⟩)
        · by_cases q : Rc K m r u
          · rw [pI_t q]
            have closed := a3 z
            have hne : ¬ C u = 0 := by
              rcases q with rfl | q
              · rw [hC.2.1]; exact n10
              · have go : ∀ c, TG (AJm K m) r c → ¬ C c = 0 := by
                  intro c hc
                  have ne : ∀ {x y}, AJ K x y → ¬ x = y := fun {x y} h e => by subst e; rcases h with h | h <;> exact absurd h.1 (Nat.lt_irrefl _)
                  induction hc with
                  | single h => exact closed _ _ h.1 h.2.1 (ne h.2.2) (by rw [hC.2.1]; exact n10) h.2.2
                  | tail _ h ih => exact closed _ _ h.1 h.2.1 (ne h.2.2) ih h.2.2
                exact go u q
            exact (hC.1 u hu).elim (fun w => absurd w hne) id
          · rw [pI_f q]
            exact Classical.byContradiction fun w => q (hC.2.2 u hu w)
      · have hlt : cntP (fun u => C1 u = 0) m + 1 ≤ cntP (fun u => C u = 0) m := by
          obtain ⟨u, u1, u2, u3⟩ := a2.2.2.2 z
          exact cntP_grow m (fun k hk q => Classical.byContradiction fun w => a2.1 k hk w q) ⟨u, u1, u2, u3⟩
        obtain ⟨C', h1, h2⟩ := ih C1 (by omega) a1
        have e1 : m1 = 1 := a2.2.1.elim (fun w => absurd w z) id
        refine ⟨C', g_160_34 (br_f (by decide) (hgo _ ?_)), h2⟩
        show Go 160 34 [.ref 11, .null, .int m1, .null, .null] [] (setR τ 85 C1) [] _
        rw [e1]
        exact h1
  have v0 : ∀ u, u < m → frR r (τ.1 85) m u = if u = r then 1 else 0 := fun u hu => if_pos hu
  have hC : CcI K m r (frR r (τ.1 85) m) := by
    refine ⟨fun u hu => ?_, by rw [v0 r hr, if_pos rfl], fun u hu hn => ?_⟩
    · rw [v0 u hu]
      split
      · exact Or.inr rfl
      · exact Or.inl rfl
    · rw [v0 u hu] at hn
      split at hn
      · rename_i e; exact Or.inl e.symm
      · exact absurd rfl hn
  obtain ⟨C', h1, h2⟩ := main _ _ (Nat.lt_succ_self _) hC
  refine ⟨C', g_160_0 ?_, h2⟩
  have key := loopN m (fun i => Go 160 2 [.ref 11, .int (nI r), .int (nI i), .null, .null] [] (setR τ 85 (frR r (τ.1 85) i)) [] (setR τ 85 C')) (fun i hi hx => ?_) (g_160_2 (br_f (by show ¬ nI m < τ.1 11 37; rw [e37]; exact Int32.lt_irrefl) h1)) 0 (by omega)
  · rw [frR_0, setR_self] at key
    exact key
  · have ei : (nI i).toNatClampNeg = i := clN (by omega)
    have lt : nI i < (setR τ 85 (frR r (τ.1 85) i)).1 11 37 := by show nI i < τ.1 11 37; rw [e37]; exact (nI_ltI (by omega) (by omega)).mpr hi
    rw [← frR_S, ← wr_setR] at hx
    refine g_160_2 (br_t lt ?_)
    rw [ei, nI_S]
    by_cases e : i = r
    · rw [if_pos e] at hx
      exact br_t (by rw [e]) ⟨vp_in_nI (by omega) (by decide), hx⟩
    · rw [if_neg e] at hx
      exact br_f (fun z => e ((nI_eq (by omega) (by omega)).mp z)) ⟨vp_in_nI (by omega) (by decide), hx⟩
def bkP (K : Nat → Nat → Prop) (m r a b : Nat) : Prop := ∃ x y, y < x ∧ (x < a ∨ (x = a ∧ y < b)) ∧ Rc K m r x ∧ Rc K m r y ∧ ¬ AJ K x y
theorem bk_S {K : Nat → Nat → Prop} {m r a b : Nat} (hb : b < a) : bkP K m r a (b + 1) ↔ bkP K m r a b ∨ (Rc K m r a ∧ Rc K m r b ∧ ¬ AJ K a b) := by
  constructor
  · rintro ⟨x, y, h1, h2, h3, h4, h5⟩
    rcases h2 with h2 | ⟨h2, h6⟩
    · exact Or.inl ⟨x, y, h1, Or.inl h2, h3, h4, h5⟩
    · by_cases e : y = b
      · subst e; subst h2; exact Or.inr ⟨h3, h4, h5⟩
      · exact Or.inl ⟨x, y, h1, Or.inr ⟨h2, by omega⟩, h3, h4, h5⟩
  · rintro (⟨x, y, h1, h2, h3⟩ | ⟨h3, h4, h5⟩)
    · exact ⟨x, y, h1, h2.elim Or.inl (fun z => Or.inr ⟨z.1, by omega⟩), h3⟩
    · exact ⟨a, b, hb, Or.inr ⟨rfl, by omega⟩, h3, h4, h5⟩
theorem bk_A {K : Nat → Nat → Prop} {m r a : Nat} : bkP K m r (a + 1) 0 ↔ bkP K m r a a := by
  constructor
  · rintro ⟨x, y, h1, h2, h3⟩
    refine ⟨x, y, h1, ?_, h3⟩
    omega
  · rintro ⟨x, y, h1, h2, h3⟩
    refine ⟨x, y, h1, ?_, h3⟩
    omega
theorem bk_E {K : Nat → Nat → Prop} {m r : Nat} : bkP K m r m 0 ↔ BrP K m r := by
  constructor
  · rintro ⟨x, y, h1, h2, h3, h4, h5⟩
    exact ⟨x, y, by omega, by omega, h3, h4, by omega, h5⟩
  · rintro ⟨x, y, h1, h2, h3, h4, h5, h6⟩
    rcases Nat.lt_trichotomy y x with q | q | q
    · exact ⟨x, y, q, Or.inl h1, h3, h4, h6⟩
    · exact absurd q.symm h5
    · exact ⟨y, x, q, Or.inl h2, h4, h3, fun z => h6 (AJ_sym z)⟩
theorem s_162 {τ : St} {K : Nat → Nat → Prop} {m r : Nat} (hm : m ≤ 60) (e37 : τ.1 11 37 = nI m) (hB : ∀ a b, a < m → b < m → ¬ a = b → τ.1 84 (60 * a + b) = pI (AJ K a b)) (hC : ∀ u, u < m → τ.1 85 u = pI (Rc K m r u)) : Ret 162 [.ref 11] τ [.int (pI (BrP K m r))] τ := by
  have outer : ∀ a, a ≤ m → Go 162 4 [.ref 11, .int (pI (bkP K m r a 0)), .int (nI a), .null] [] τ [.int (pI (BrP K m r))] τ := by
    refine loopN m _ (fun a ha h => ?_) ?_
    · have ea : (nI a).toNatClampNeg = a := clN (by omega)
      refine g_162_4 (br_t (by rw [e37]; exact (nI_ltI (by omega) (by omega)).mpr ha) ?_)
      refine loopN a (fun b => Go 162 14 [.ref 11, .int (pI (bkP K m r a b)), .int (nI a), .int (nI b)] [] τ [.int (pI (BrP K m r))] τ) (fun b hb h2 => ?_) ?_ 0 (by omega)
      · have eb : (nI b).toNatClampNeg = b := clN (by omega)
        have hbk := bk_S (K := K) (m := m) (r := r) hb
        have ci : (60 * nI a + nI b : Int32).toNatClampNeg = 60 * a + b := by rw [mul60]; exact clN (by omega)
        have vi : vp_in (60 * nI a + nI b) 3600 := by rw [mul60]; exact vp_in_nI (by omega) (by decide)
        refine g_162_14 (br_t ((nI_ltI (by omega) (by omega)).mpr hb) ?_)
        rw [ea, eb, ci, nI_S]
        by_cases q : bkP K m r a b
        · rw [pI_t (hbk.mpr (Or.inl q))] at h2
          exact br_f (by rw [pI_t q]; decide) h2
        · refine br_t (pI_f q) ⟨vp_in_nI (by omega) (by decide), ?_⟩
          rw [hC a ha, hC b (by omega), hB a b ha (by omega) (by omega)]
          by_cases qa : Rc K m r a
          · refine br_f (by rw [pI_t qa]; decide) ⟨vp_in_nI (by omega) (by decide), ?_⟩
            by_cases qb : Rc K m r b
            · refine br_f (by rw [pI_t qb]; decide) ⟨vi, ?_⟩
              by_cases al : AJ K a b
              · rw [pI_f (fun z => (hbk.mp z).elim q (fun y => y.2.2 al))] at h2
                exact br_f (by rw [pI_t al]; decide) h2
              · rw [pI_t (hbk.mpr (Or.inr ⟨qa, qb, al⟩))] at h2
                exact br_t (pI_f al) h2
            · rw [pI_f (fun z => (hbk.mp z).elim q (fun y => qb y.2.1))] at h2
              exact br_t (pI_f qb) h2
          · rw [pI_f (fun z => (hbk.mp z).elim q (fun y => qa y.1))] at h2
            exact br_t (pI_f qa) h2
      · refine g_162_14 (br_f Int32.lt_irrefl ?_)
        rw [pI_iff bk_A] at h
        rw [nI_S]
        exact h
    · refine g_162_4 (br_f (by rw [e37]; exact Int32.lt_irrefl) ⟨pI_01, ?_, rfl⟩)
      rw [pI_iff bk_E]
  have := outer 0 (by omega)
  rw [pI_f (fun ⟨x, y, h1, h2, _⟩ => by omega)] at this
  exact g_162_0 this
