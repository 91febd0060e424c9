/-! lines of a chain, broken ones: the class -/
theorem s_32 {τ : St} {m r : Nat} {rk : Nat → Nat} (hm : m ≤ 60) (e49 : τ.1 4 9 = nI m) (hrk : ∀ i, i < m → rk i < 144 ∧ τ.1 33 i = nI (rk i)) (hinc : ∀ i j, i < j → j < m → rk i < rk j) (hr : r < m) : Ret 32 [.ref 4, .int (nI (rk r))] τ [.int (nI r)] τ := by
  refine g_32_0 (loopN r (fun i => Go 32 2 [.ref 4, .int (nI (rk r)), .int (nI i)] [] τ [.int (nI r)] τ) (fun i hi h => ?_) ?_ 0 (by omega))
  · have ei : (nI i).toNatClampNeg = i := clN (by omega)
    refine g_32_2 (br_t (by rw [e49]; exact (nI_ltI (by omega) (by omega)).mpr (by omega)) ⟨vp_in_nI (by omega) (by decide), br_f ?_ ?_⟩)
    · rw [ei, (hrk i (by omega)).2]
      have h1 := hinc i r hi hr
      have h2 := (hrk r hr).1
      exact nI_ne (by omega) (by omega) (by omega)
    · rw [nI_S]; exact h
  · have ei : (nI r).toNatClampNeg = r := clN (by omega)
    exact g_32_2 (br_t (by rw [e49]; exact (nI_ltI (by omega) (by omega)).mpr hr) ⟨vp_in_nI (by omega) (by decide), br_t (by rw [ei]; exact (hrk r hr).2) ⟨rfl, rfl⟩⟩)
def liF (X : Nat) (rk : Nat → Nat) (i : Int32) : Nat → Nat → Int32
  | 0, _ => -6
  | k + 1, r => if X.testBit r = true then (if nI (pcN X r) = i then nI (rk r) else liF X rk i k (r + 1)) else liF X rk i k (r + 1)
theorem liF_0 {X : Nat} {rk : Nat → Nat} {i : Int32} : ∀ k r, (∀ b, r ≤ b → ¬ X.testBit b = true) → liF X rk i k r = -6
  | 0, _, _ => rfl
  | k + 1, r, h => by
    unfold liF
    rw [if_neg (h r (by omega)), liF_0 k (r + 1) (fun b hb => h b (by omega))]
theorem liF_cut {X : Nat} {rk : Nat → Nat} {i : Int32} {j : Nat} : ∀ k r, (∀ b, r + k ≤ b → ¬ X.testBit b = true) → liF X rk i (k + j) r = liF X rk i k r
  | 0, r, h => by
    rw [Nat.zero_add]
    exact liF_0 j r (fun b hb => h b (by omega))
  | k + 1, r, h => by
    rw [show k + 1 + j = (k + j) + 1 by omega]
    unfold liF
    rw [liF_cut k (r + 1) (fun b hb => h b (by omega))]
theorem pc_S {X r : Nat} : (X.testBit r = true → pcN X (r + 1) = pcN X r + 1) ∧ (¬ X.testBit r = true → pcN X (r + 1) = pcN X r) := by
  have ht : X.testBit r = true ↔ X / 2 ^ r % 2 = 1 := by rw [Nat.testBit_eq_decide_div_mod_eq, decide_eq_true_iff]
  constructor
  · intro h
    show pcN X r + X / 2 ^ r % 2 = _
    rw [ht.mp h]
  · intro h
    have : ¬ X / 2 ^ r % 2 = 1 := fun z => h (ht.mpr z)
    show pcN X r + X / 2 ^ r % 2 = _
    omega
theorem s_17 {τ : St} {m X : Nat} {rk : Nat → Nat} {i : Int32} (hm : m ≤ 60) (hrk : ∀ i, i < m → rk i < 144 ∧ τ.1 33 i = nI (rk i)) (hX : X < 2 ^ 60) (hb : ∀ b, X.testBit b = true → b < m) : Ret 17 [.ref 2, .long (lN X), .int i] τ [.int (liF X rk i 60 0)] τ := by
  have go : ∀ k r, r + k = 60 → Go 17 6 [.ref 2, .long (lN X), .null, .int i, .int (nI (pcN X r)), .int (nI r)] [] τ [.int (liF X rk i k r)] τ := by
    intro k
    induction k with
    | zero =>
      intro r hr
      have e : r = 60 := by omega
      subst e
      exact g_17_6 (br_f (by decide) ⟨rfl, rfl⟩)
    | succ k ih =>
      intro r hr
      have er : (nI r).toNatClampNeg = r := clN (by omega)
      have ih := ih (r + 1) (by omega)
      have lt : nI r < 60 := (nI_ltL (n := 60) rfl (by omega) (by decide)).mpr (by omega)
      unfold liF
      refine g_17_6 (br_t lt ?_)
      rw [nI_S (i := r)]
      by_cases q : X.testBit r = true
      · rw [if_pos q]
        rw [pc_S.1 q] at ih
        refine br_f ((lbt1 hX (by omega)).mpr q) ?_
        by_cases e : nI (pcN X r) = i
        · rw [if_pos e]
          refine br_t e ⟨vp_in_nI (by omega) (by decide), ?_, rfl⟩
          rw [er, (hrk r (hb r q)).2]
        · rw [if_neg e]
          refine br_f e ?_
          rw [nI_S]
          exact ih
      · rw [if_neg q]
        rw [pc_S.2 q] at ih
        exact br_t (Classical.byContradiction fun z => q ((lbt1 hX (by omega)).mp z)) ih
  exact g_17_0 (go 60 0 (by omega))
def BrQ (K : Nat → Nat → Prop) (X : Nat) : Prop := ∃ a b, X.testBit a = true ∧ X.testBit b = true ∧ ¬ a = b ∧ ¬ AJ K a b
def BrP (K : Nat → Nat → Prop) (m k : Nat) : Prop := ∃ a b, a < m ∧ b < m ∧ Rc K m k a ∧ Rc K m k b ∧ ¬ a = b ∧ ¬ AJ K a b
theorem ChQ.br {K : Nat → Nat → Prop} {m k X : Nat} (h : ChQ K m k X) : BrQ K X ↔ BrP K m k := by
  constructor
  · rintro ⟨a, b, h1, h2, h3, h4⟩
    obtain ⟨a1, a2⟩ := (h.2 a).mp h1
    obtain ⟨b1, b2⟩ := (h.2 b).mp h2
    exact ⟨a, b, a1, b1, a2, b2, h3, h4⟩
  · rintro ⟨a, b, a1, b1, a2, b2, h3, h4⟩
    exact ⟨a, b, (h.2 a).mpr ⟨a1, a2⟩, (h.2 b).mpr ⟨b1, b2⟩, h3, h4⟩
theorem BrP.mv {K : Nat → Nat → Prop} {m k l : Nat} (h : Rc K m k l) (b : BrP K m k) : BrP K m l := by
  obtain ⟨x, y, h1, h2, h3, h4, h5⟩ := b
  exact ⟨x, y, h1, h2, h.sym.trans h3, h.sym.trans h4, h5⟩
theorem s_19 {τ : St} {K : Nat → Nat → Prop} {m X : Nat} {f : Nat → Nat} (hm : m ≤ 60) (hM : MtR K m τ.2 f) (hX : X < 2 ^ 60) (hb : ∀ b, X.testBit b = true → b < m) : Ret 19 [.ref 2, .long (lN X)] τ [.int (pI (BrQ K X))] τ := by
  refine g_19_0 (loopE (α := Unit) 60 (fun r _ => ∀ a b, a < r → X.testBit a = true → X.testBit b = true → b = a ∨ AJ K a b) (fun r _ => Go 19 2 [.ref 2, .long (lN X), .null, .int (nI r), .null, .null] [] τ [.int (pI (BrQ K X))] τ) ?_ ?_ 0 () (by omega) (fun a b h => by omega))
  · intro r _ hr hI
    have er : (nI r).toNatClampNeg = r := clN (by omega)
    have lt : nI r < 60 := (nI_ltL (n := 60) rfl (by omega) (by decide)).mpr hr
    by_cases q : X.testBit r = true
    · obtain ⟨m1, m2, m3⟩ := hM r (hb r q)
      have hor : f r ||| 2 ^ r < 2 ^ 60 := or60 m2 (pw60 hr)
      have eq : lg_cmp (lN X &&& ((τ.2 (nI r).toNatClampNeg ||| ((1 : Int64) <<< ((nI r).toInt64 &&& 63))) ^^^ (-1 : Int64))) 0 = 0 ↔ ∀ b, X.testBit b = true → b = r ∨ AJ K r b := by
        rw [er, m1, lb1 hr, lor m2 (pw60 hr), lg_cmp_eq, andn hX]
        constructor
        · intro h b hbX
          have := h b hbX
          rw [Nat.testBit_or, Bool.or_eq_true, m3 b, Nat.testBit_two_pow, decide_eq_true_iff] at this
          rcases this with z | z
          · exact Or.inr z.2
          · exact Or.inl z.symm
        · intro h b hbX
          rw [Nat.testBit_or, Bool.or_eq_true, m3 b, Nat.testBit_two_pow, decide_eq_true_iff]
          rcases h b hbX with z | z
          · exact Or.inr z.symm
          · exact Or.inl ⟨hb b hbX, z⟩
      by_cases w : ∀ b, X.testBit b = true → b = r ∨ AJ K r b
      · refine Or.inr ⟨(), fun a b ha h1 h2 => ?_, fun h => g_19_2 (br_t lt (br_f ((lbt1 hX hr).mpr q) ⟨vp_in_nI hr (by decide), br_t (eq.mpr w) ?_⟩))⟩
        · by_cases e : a = r
          · rw [e]; exact w b h2
          · exact hI a b (by omega) h1 h2
        · rw [nI_S]; exact h
      · refine Or.inl (g_19_2 (br_t lt (br_f ((lbt1 hX hr).mpr q) ⟨vp_in_nI hr (by decide), br_f (fun z => w (eq.mp z)) ⟨?_, rfl⟩⟩)))
        rw [pI_t]
        apply Classical.byContradiction
        intro hn
        exact w (fun b hbX => Classical.byContradiction fun z => hn ⟨r, b, q, hbX, fun e => z (Or.inl e.symm), fun e => z (Or.inr e)⟩)
    · refine Or.inr ⟨(), fun a b ha h1 h2 => ?_, fun h => g_19_2 (br_t lt (br_t (Classical.byContradiction fun z => q ((lbt1 hX hr).mp z)) ?_))⟩
      · have : a ≠ r := fun e => q (e ▸ h1)
        exact hI a b (by omega) h1 h2
      · rw [nI_S]; exact h
  · intro _ hI
    refine g_19_2 (br_f (by decide) ⟨?_, rfl⟩)
    rw [pI_f]
    rintro ⟨a, b, h1, h2, h3, h4⟩
    rcases hI a b (tb60 hX h1) h1 h2 with z | z
    · exact h3 z.symm
    · exact h4 z
theorem cntP_iff {p q : Nat → Prop} : ∀ n, (∀ k, k < n → (p k ↔ q k)) → cntP p n = cntP q n
  | 0, _ => rfl
  | n + 1, h => by
    have ih := cntP_iff n (fun k hk => h k (by omega))
    show cntP p n + _ = cntP q n + _
    rw [ih]
    by_cases hp : p n
    · rw [if_pos hp, if_pos ((h n (by omega)).mp hp)]
    · rw [if_neg hp, if_neg (fun z => hp ((h n (by omega)).mpr z))]
theorem cntP_add {p q r : Nat → Prop} : ∀ n, (∀ k, k < n → (r k ↔ p k ∨ q k)) → (∀ k, k < n → p k → ¬ q k) → cntP r n = cntP p n + cntP q n
  | 0, _, _ => rfl
  | n + 1, h, d => by
    have ih := cntP_add n (fun k hk => h k (by omega)) (fun k hk => d k (by omega))
    have h1 := h n (by omega)
    have h2 := d n (by omega)
    show cntP r n + _ = (cntP p n + _) + (cntP q n + _)
    rw [ih]
    by_cases hp : p n
    · rw [if_pos (h1.mpr (Or.inl hp)), if_pos hp, if_neg (h2 hp)]; omega
    · by_cases hq : q n
      · rw [if_pos (h1.mpr (Or.inr hq)), if_neg hp, if_pos hq]; omega
      · rw [if_neg (fun z => (h1.mp z).elim hp hq), if_neg hp, if_neg hq]; omega
theorem cntP_no {p : Nat → Prop} : ∀ n, (∀ k, k < n → ¬ p k) → cntP p n = 0
  | 0, _ => rfl
  | n + 1, h => by
    have ih := cntP_no n (fun k hk => h k (by omega))
    show cntP p n + _ = 0
    rw [ih, if_neg (h n (by omega))]
theorem cntP_cut {p : Nat → Prop} {m : Nat} : ∀ k, cntP (fun b => b < m ∧ p b) (m + k) = cntP p m
  | 0 => cntP_iff m (fun k hk => ⟨fun z => z.2, fun z => ⟨hk, z⟩⟩)
  | k + 1 => by
    have ih := cntP_cut (p := p) (m := m) k
    show cntP (fun b => b < m ∧ p b) (m + k) + _ = _
    rw [ih, if_neg (fun z => absurd z.1 (Nat.not_lt.mpr (Nat.le_add_right m k)))]
    rfl
theorem s_18 {τ : St} {K : Nat → Nat → Prop} {m : Nat} {f : Nat → Nat} (hm : m ≤ 60) (e49 : τ.1 4 9 = nI m) (hM : MtR K m τ.2 f) : Ret 18 [.ref 2] τ [.int (nI (cntP (BrP K m) m))] τ := by
  have key := loopI (α := Nat × Nat) m
    (fun i x => x.2 < 2 ^ 60 ∧ (∀ b, x.2.testBit b = true ↔ b < m ∧ ∃ r, r < i ∧ Rc K m r b) ∧ x.1 = cntP (fun b => x.2.testBit b = true ∧ BrP K m b) 60)
    (fun i x => Go 18 7 [.ref 2, .int (nI x.1), .long (lN x.2), .null, .int (nI i), .null, .null] [] τ [.int (nI (cntP (BrP K m) m))] τ) ?_ ?_ 0 (0, 0) (by omega) ?_
  · exact g_18_0 key
  · rintro i ⟨cn, sn⟩ hi ⟨a1, a2, a3⟩
    have a3 : cn = cntP (fun b => sn.testBit b = true ∧ BrP K m b) 60 := a3
    have a2 : ∀ b, sn.testBit b = true ↔ b < m ∧ ∃ r, r < i ∧ Rc K m r b := a2
    have lt : nI i < τ.1 4 9 := by rw [e49]; exact (nI_ltI (by omega) (by omega)).mpr hi
    by_cases q : sn.testBit i = true
    · refine ⟨(cn, sn), ⟨a1, fun b => (a2 b).trans ⟨fun ⟨z1, r, z2, z3⟩ => ⟨z1, r, by omega, z3⟩, fun ⟨z1, r, z2, z3⟩ => ⟨z1, ?_⟩⟩, a3⟩, fun h => g_18_7 (br_t lt (br_f ((lbt1 a1 (by omega)).mpr q) ?_))⟩
      · by_cases e : r = i
        · obtain ⟨_, s, s1, s2⟩ := (a2 i).mp q
          rw [e] at z3
          exact ⟨s, s1, s2.trans z3⟩
        · exact ⟨r, by omega, z3⟩
      · rw [nI_S]; exact h
    · obtain ⟨X, hX, hgo⟩ := s_15 hm hi hM
      have h19 := s_19 hm hM hX.1 (fun b hb => ((hX.2 b).mp hb).1)
      have dj : ∀ b, sn.testBit b = true → ¬ X.testBit b = true := by
        intro b h1 h2
        obtain ⟨_, s, s1, s2⟩ := (a2 b).mp h1
        exact q ((a2 i).mpr ⟨hi, s, s1, s2.trans ((hX.2 b).mp h2).2.sym⟩)
      have nsn : ∀ b, (sn ||| X).testBit b = true ↔ b < m ∧ ∃ r, r < i + 1 ∧ Rc K m r b := by
        intro b
        rw [Nat.testBit_or, Bool.or_eq_true, a2 b, hX.2 b]
        constructor
        · rintro (⟨z1, r, z2, z3⟩ | ⟨z1, z2⟩)
          · exact ⟨z1, r, by omega, z3⟩
          · exact ⟨z1, i, by omega, z2⟩
        · rintro ⟨z1, r, z2, z3⟩
          by_cases e : r = i
          · rw [e] at z3; exact Or.inr ⟨z1, z3⟩
          · exact Or.inl ⟨z1, r, by omega, z3⟩
      have add : cntP (fun b => (sn ||| X).testBit b = true ∧ BrP K m b) 60 = cn + cntP (fun b => X.testBit b = true ∧ BrP K m b) 60 := by
        rw [a3]
        refine cntP_add 60 (fun k _ => ?_) (fun k _ z1 z2 => dj k z1.1 z2.1)
        rw [Nat.testBit_or, Bool.or_eq_true]
        exact ⟨fun z => z.1.elim (fun y => Or.inl ⟨y, z.2⟩) (fun y => Or.inr ⟨y, z.2⟩), fun z => z.elim (fun y => ⟨Or.inl y.1, y.2⟩) (fun y => ⟨Or.inr y.1, y.2⟩)⟩
      have nq : lg_cmp ((lN sn >>> ((nI i).toInt64 &&& 63)) &&& (1 : Int64)) 0 = 0 := Classical.byContradiction fun z => q ((lbt1 a1 (by omega)).mp z)
      by_cases hb : BrQ K X
      · have hbi : BrP K m i := hX.br.mp hb
        have e1 : cntP (fun b => X.testBit b = true ∧ BrP K m b) 60 = pcN X 60 := by
          rw [pc_cnt]
          exact cntP_iff 60 (fun k _ => ⟨fun z => z.1, fun z => ⟨z, hbi.mv ((hX.2 k).mp z).2⟩⟩)
        refine ⟨(cn + pcN X 60, sn ||| X), ⟨or60 a1 hX.1, nsn, by show cn + pcN X 60 = _; rw [add, e1]⟩, fun h => g_18_7 (br_t lt (br_t nq ⟨_, _, hgo, _, _, h19, br_f (by rw [pI_t hb]; decide) ⟨_, _, s_210, ?_⟩⟩))⟩
        rw [lc_pc hX.1, nI_add, lor a1 hX.1, nI_S]
        exact h
      · have e1 : cntP (fun b => X.testBit b = true ∧ BrP K m b) 60 = 0 := cntP_no 60 (fun k _ z => hb (hX.br.mpr (z.2.mv ((hX.2 k).mp z.1).2.sym)))
        refine ⟨(cn, sn ||| X), ⟨or60 a1 hX.1, nsn, by show cn = _; rw [add, e1]; rfl⟩, fun h => g_18_7 (br_t lt (br_t nq ⟨_, _, hgo, _, _, h19, br_t (pI_f hb) ?_⟩))⟩
        rw [lor a1 hX.1, nI_S]
        exact h
  · rintro ⟨cn, sn⟩ ⟨a1, a2, a3⟩
    refine g_18_7 (br_f (by rw [e49]; exact Int32.lt_irrefl) ⟨?_, rfl⟩)
    have a3 : cn = cntP (fun b => sn.testBit b = true ∧ BrP K m b) 60 := a3
    have e : cntP (fun b => sn.testBit b = true ∧ BrP K m b) 60 = cntP (fun b => b < m ∧ BrP K m b) 60 := cntP_iff 60 (fun k _ => ⟨fun z => ⟨((a2 k).mp z.1).1, z.2⟩, fun z => ⟨(a2 k).mpr ⟨z.1, k, z.1, Or.inl rfl⟩, z.2⟩⟩)
    have e2 := cntP_cut (p := BrP K m) (m := m) (60 - m)
    rw [show m + (60 - m) = 60 by omega] at e2
    show [Value.int (nI (cntP (BrP K m) m))] = [Value.int (nI cn)]
    rw [a3, e, e2]
  · refine ⟨by show 0 < 2 ^ 60; decide, fun b => ?_, ?_⟩
    · show (0 : Nat).testBit b = true ↔ _
      rw [Nat.zero_testBit]
      exact ⟨fun z => absurd z (by decide), fun ⟨_, r, h, _⟩ => by omega⟩
    · show 0 = cntP _ 60
      rw [cntP_no]
      intro k _ z
      have : (0 : Nat).testBit k = true := z.1
      rw [Nat.zero_testBit] at this
      exact absurd this (by decide)
