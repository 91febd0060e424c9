/-! chains of the class: sets of ranks as bits of a long -/
theorem lb1 {j : Nat} (hj : j < 60) : (1 : Int64) <<< ((nI j).toInt64 &&& 63) = lN (2 ^ j) := by
  have := wb_shl 1 (k := j) (by omega)
  rw [Nat.one_mul] at this
  exact this
theorem pw60 {j : Nat} (hj : j < 60) : 2 ^ j < 2 ^ 60 := Nat.pow_lt_pow_right (by decide) hj
theorem l60 {x : Nat} (h : x < 2 ^ 60) : x < 2 ^ 64 := Nat.lt_trans h (by decide)
theorem lor {a b : Nat} (ha : a < 2 ^ 60) (hb : b < 2 ^ 60) : lN a ||| lN b = lN (a ||| b) := wb_or (l60 ha) (l60 hb)
theorem or60 {a b : Nat} (ha : a < 2 ^ 60) (hb : b < 2 ^ 60) : a ||| b < 2 ^ 60 := Nat.or_lt_two_pow ha hb
theorem lbt {x j : Nat} (hx : x < 2 ^ 60) (hj : j < 60) : lg_cmp ((lN x >>> ((nI j).toInt64 &&& 63)) &&& (1 : Int64)) 0 = 0 ↔ x.testBit j = false := by
  have hD : (((nI j).toInt64 &&& 63).toBitVec.smod 64).toNat = j := by
    rw [wb_c j (by omega), wb_tb, wb_sm j (by omega), BitVec.toNat_ofNat, Nat.mod_eq_of_lt (by omega)]
  have hd : x / 2 ^ j ≤ x := Nat.div_le_self _ _
  rw [lg_cmp_eq, pf_shr hD (by omega), wb_a1 (by omega), show (0 : Int64) = lN 0 from rfl, pk_lEQ (by omega) (by decide), Nat.testBit_eq_decide_div_mod_eq, decide_eq_false_iff_not]
  omega
theorem lbt1 {x j : Nat} (hx : x < 2 ^ 60) (hj : j < 60) : ¬ lg_cmp ((lN x >>> ((nI j).toInt64 &&& 63)) &&& (1 : Int64)) 0 = 0 ↔ x.testBit j = true := by
  rw [lbt hx hj]
  cases x.testBit j <;> simp
theorem tb60 {x i : Nat} (h : x < 2 ^ 60) (hb : x.testBit i = true) : i < 60 := by
  apply Classical.byContradiction
  intro hi
  have h2 : 2 ^ 60 ≤ 2 ^ i := Nat.pow_le_pow_right (by decide) (by omega)
  have := Nat.testBit_lt_two_pow (x := x) (i := i) (by omega)
  rw [this] at hb
  exact absurd hb (by decide)
theorem andn {a c : Nat} (ha : a < 2 ^ 60) : lN a &&& (lN c ^^^ (-1 : Int64)) = 0 ↔ ∀ i, a.testBit i = true → c.testBit i = true := by
  have key : ∀ i, i < 64 → (lN a &&& (lN c ^^^ (-1 : Int64))).toBitVec.getLsbD i = (a.testBit i && !(c.testBit i)) := by
    intro i hi
    rw [Int64.toBitVec_and, Int64.toBitVec_xor, wb_tb, wb_tb, show (-1 : Int64).toBitVec = BitVec.allOnes 64 from by decide, BitVec.getLsbD_and, BitVec.getLsbD_xor, BitVec.getLsbD_allOnes, BitVec.getLsbD_ofNat, BitVec.getLsbD_ofNat]
    have : decide (i < 64) = true := decide_eq_true hi
    rw [this]
    cases a.testBit i <;> cases c.testBit i <;> rfl
  constructor
  · intro h i hi
    have h1 := key i (by have := tb60 ha hi; omega)
    rw [h, hi] at h1
    cases hc : c.testBit i
    · rw [hc] at h1; simp at h1
    · rfl
  · intro h
    apply wb_inj
    apply BitVec.eq_of_getLsbD_eq
    intro i hi
    rw [key i hi]
    have := h i
    cases h1 : a.testBit i
    · simp
    · rw [this h1]; simp
theorem pc_cnt {X : Nat} : ∀ k, pcN X k = cntP (fun d => X.testBit d = true) k
  | 0 => rfl
  | k + 1 => by
    have ih := pc_cnt (X := X) k
    show pcN X k + X / 2 ^ k % 2 = cntP (fun d => X.testBit d = true) k + _
    rw [ih]
    have ht : X.testBit k = true ↔ X / 2 ^ k % 2 = 1 := by rw [Nat.testBit_eq_decide_div_mod_eq, decide_eq_true_iff]
    by_cases h : X.testBit k = true
    · rw [if_pos h, ht.mp h]
    · rw [if_neg h]
      have : ¬ X / 2 ^ k % 2 = 1 := fun z => h (ht.mpr z)
      omega
/-! who is next to whom -/
def AJ (K : Nat → Nat → Prop) (a b : Nat) : Prop := (b < a ∧ K a b) ∨ (a < b ∧ K b a)
def AJm (K : Nat → Nat → Prop) (m a b : Nat) : Prop := a < m ∧ b < m ∧ AJ K a b
theorem AJ_sym {K : Nat → Nat → Prop} {a b : Nat} (h : AJ K a b) : AJ K b a := h.elim (fun z => Or.inr z) (fun z => Or.inl z)
def Rc (K : Nat → Nat → Prop) (m a b : Nat) : Prop := a = b ∨ TG (AJm K m) a b
theorem Rc.sym {K : Nat → Nat → Prop} {m a b : Nat} (h : Rc K m a b) : Rc K m b a := by
  rcases h with h | h
  · exact Or.inl h.symm
  · refine Or.inr (tg_rev (E := AJm K m) (tg_mono (fun x y e => Relation.TransGen.single ?_) h))
    exact ⟨e.2.1, e.1, AJ_sym e.2.2⟩
theorem Rc.trans {K : Nat → Nat → Prop} {m a b c : Nat} (h : Rc K m a b) (k : Rc K m b c) : Rc K m a c := by
  rcases h with rfl | h
  · exact k
  · rcases k with rfl | k
    · exact Or.inr h
    · exact Or.inr (tg_trans h k)
/-- the row of mates -/
def MtR (K : Nat → Nat → Prop) (m : Nat) (g : Nat → Int64) (f : Nat → Nat) : Prop := ∀ a, a < m → g a = lN (f a) ∧ f a < 2 ^ 60 ∧ ∀ b, (f a).testBit b = true ↔ b < m ∧ AJ K a b
def MtJ (K : Nat → Nat → Prop) (i j : Nat) (g : Nat → Int64) (f : Nat → Nat) : Prop := (∀ a, a < i → g a = lN (f a) ∧ f a < 2 ^ 60 ∧ ∀ b, (f a).testBit b = true ↔ (b < i ∧ AJ K a b) ∨ (b = i ∧ a < j ∧ K i a)) ∧ (g i = lN (f i) ∧ f i < 2 ^ 60 ∧ ∀ b, (f i).testBit b = true ↔ b < j ∧ K i b)
theorem MtJ.zero {K : Nat → Nat → Prop} {i : Nat} {g : Nat → Int64} {f : Nat → Nat} (h : MtR K i g f) : MtJ K i 0 (vp_updL g i 0) (updN f i 0) := by
  refine ⟨fun a ha => ?_, ?_⟩
  · obtain ⟨h1, h2, h3⟩ := h a ha
    rw [updN_n (by omega)]
    refine ⟨?_, h2, fun b => (h3 b).trans ⟨fun z => Or.inl z, fun z => z.elim id (fun y => by omega)⟩⟩
    unfold vp_updL
    rw [if_neg (by omega)]
    exact h1
  · rw [updN_s]
    refine ⟨?_, by decide, fun b => ?_⟩
    · unfold vp_updL
      rw [if_pos rfl]
      rfl
    · rw [Nat.zero_testBit]
      exact ⟨fun z => absurd z (by decide), fun z => by omega⟩
theorem MtJ.no {K : Nat → Nat → Prop} {i j : Nat} {g : Nat → Int64} {f : Nat → Nat} (h : MtJ K i j g f) (q : ¬ K i j) : MtJ K i (j + 1) g f := by
  refine ⟨fun a ha => ?_, ?_⟩
  · obtain ⟨h1, h2, h3⟩ := h.1 a ha
    refine ⟨h1, h2, fun b => (h3 b).trans ⟨fun z => z.elim Or.inl (fun y => Or.inr ⟨y.1, by omega, y.2.2⟩), fun z => z.elim Or.inl (fun y => Or.inr ⟨y.1, ?_, y.2.2⟩)⟩⟩
    have : a ≠ j := fun e => q (e ▸ y.2.2)
    omega
  · obtain ⟨h1, h2, h3⟩ := h.2
    refine ⟨h1, h2, fun b => (h3 b).trans ⟨fun z => ⟨by omega, z.2⟩, fun z => ⟨?_, z.2⟩⟩⟩
    have : b ≠ j := fun e => q (e ▸ z.2)
    omega
theorem MtJ.yes {K : Nat → Nat → Prop} {i j : Nat} {g : Nat → Int64} {f : Nat → Nat} (hi : i < 60) (hj : j < i) (h : MtJ K i j g f) (q : K i j) : MtJ K i (j + 1) (vp_updL (vp_updL g i (lN (f i ||| 2 ^ j))) j (lN (f j ||| 2 ^ i))) (updN (updN f i (f i ||| 2 ^ j)) j (f j ||| 2 ^ i)) := by
  have hji : i ≠ j := by omega
  refine ⟨fun a ha => ?_, ?_⟩
  · obtain ⟨h1, h2, h3⟩ := h.1 a ha
    by_cases e : a = j
    · subst e
      rw [updN_s]
      refine ⟨by unfold vp_updL; rw [if_pos rfl], or60 h2 (pw60 hi), fun b => ?_⟩
      rw [Nat.testBit_or, Bool.or_eq_true, h3 b, Nat.testBit_two_pow, decide_eq_true_iff]
      constructor
      · rintro (z | z)
        · exact z.elim Or.inl (fun y => by omega)
        · exact Or.inr ⟨z.symm, by omega, q⟩
      · rintro (z | z)
        · exact Or.inl (Or.inl z)
        · exact Or.inr z.1.symm
    · rw [updN_n e, updN_n (by omega)]
      refine ⟨?_, h2, fun b => (h3 b).trans ⟨fun z => z.elim Or.inl (fun y => Or.inr ⟨y.1, by omega, y.2.2⟩), fun z => z.elim Or.inl (fun y => Or.inr ⟨y.1, by omega, y.2.2⟩)⟩⟩
      unfold vp_updL
      rw [if_neg e, if_neg (by omega)]
      exact h1
  · obtain ⟨h1, h2, h3⟩ := h.2
    rw [updN_n hji, updN_s]
    refine ⟨by unfold vp_updL; rw [if_neg hji, if_pos rfl], or60 h2 (pw60 (by omega)), fun b => ?_⟩
    rw [Nat.testBit_or, Bool.or_eq_true, h3 b, Nat.testBit_two_pow, decide_eq_true_iff]
    constructor
    · rintro (z | z)
      · exact ⟨by omega, z.2⟩
      · subst z; exact ⟨by omega, q⟩
    · rintro ⟨z1, z2⟩
      by_cases e : b = j
      · exact Or.inr e.symm
      · exact Or.inl ⟨by omega, z2⟩
theorem MtJ.done {K : Nat → Nat → Prop} {i : Nat} {g : Nat → Int64} {f : Nat → Nat} (h : MtJ K i i g f) : MtR K (i + 1) g f := by
  intro a ha
  by_cases e : a = i
  · subst e
    obtain ⟨h1, h2, h3⟩ := h.2
    refine ⟨h1, h2, fun b => (h3 b).trans ⟨fun z => ⟨by omega, Or.inl z⟩, fun z => ?_⟩⟩
    rcases z.2 with y | y
    · exact y
    · omega
  · obtain ⟨h1, h2, h3⟩ := h.1 a (by omega)
    refine ⟨h1, h2, fun b => (h3 b).trans ⟨fun z => z.elim (fun y => ⟨by omega, y.2⟩) (fun y => ⟨by omega, Or.inr ⟨by omega, y.1 ▸ y.2.2⟩⟩), fun z => ?_⟩⟩
    by_cases e2 : b = i
    · subst e2
      rcases z.2 with y | y
      · omega
      · exact Or.inr ⟨rfl, by omega, y.2⟩
    · exact Or.inl ⟨by omega, z.2⟩
/-- what the class's kin reads -/
def KnQ (τ : St) (m : Nat) (rk : Nat → Nat) (K : Nat → Nat → Prop) : Prop := m ≤ 60 ∧ τ.1 4 9 = nI m ∧ (∀ i, i < m → rk i < 144 ∧ τ.1 33 i = nI (rk i)) ∧ ∀ a b, b < a → a < m → ∀ g, Ret 12 [.ref 2, .int (nI (rk a)), .int (nI (rk b))] (τ.1, g) [.int (pI (K a b))] (τ.1, g)
theorem s_14 {τ : St} {m : Nat} {rk : Nat → Nat} {K : Nat → Nat → Prop} (h : KnQ τ m rk K) : ∃ r : (Nat → Int64) × (Nat → Nat), MtR K m r.1 r.2 ∧ Ret 14 [.ref 2] τ [] (τ.1, r.1) := by
  obtain ⟨hm, e49, hrk, hK⟩ := h
  have key := loopX (α := (Nat → Int64) × (Nat → Nat)) (β := (Nat → Int64) × (Nat → Nat)) m
    (fun i x => MtR K i x.1 x.2)
    (fun i x r => Go 14 15 [.ref 2, .int (nI m), .int (nI i), .null] [] (τ.1, x.1) [] (τ.1, r.1))
    (fun r => MtR K m r.1 r.2) ?_ ?_ 0 (τ.2, fun _ => 0) (by omega) (fun a h => by omega)
  · obtain ⟨r, h1, h2⟩ := key
    refine ⟨r, h1, g_14_0 ?_⟩
    have e : (if (60 : Int32) < τ.1 4 9 then 60 else τ.1 4 9) = nI m := by
      rw [e49, if_neg]
      intro z
      have := (nI_ltI (a := 60) (by decide) (by omega)).mp z
      omega
    rw [e]
    exact h2
  · rintro i ⟨g, f⟩ hi hI
    have ei : (nI i).toNatClampNeg = i := clN (by omega)
    have inner := loopX (α := (Nat → Int64) × (Nat → Nat)) (β := (Nat → Int64) × (Nat → Nat)) i
      (fun j x => MtJ K i j x.1 x.2)
      (fun j x r => ∀ S, Go 14 15 [.ref 2, .int (nI m), .int (nI (i + 1)), .null] [] (τ.1, r.1) [] S → Go 14 29 [.ref 2, .int (nI m), .int (nI i), .int (nI j)] [] (τ.1, x.1) [] S)
      (fun r => MtR K (i + 1) r.1 r.2) ?_ ?_ 0 (vp_updL g i 0, updN f i 0) (by omega) (MtJ.zero hI)
    · obtain ⟨r, h1, h2⟩ := inner
      refine ⟨r, h1, fun q hq => g_14_15 (br_t ((nI_ltI (by omega) (by omega)).mpr hi) ⟨vp_in_nI (by omega) (by decide), ?_⟩)⟩
      rw [ei]
      exact h2 _ hq
    · rintro j ⟨g1, f1⟩ hj hJ
      have ej : (nI j).toNatClampNeg = j := clN (by omega)
      have lt : nI j < nI i := (nI_ltI (by omega) (by omega)).mpr hj
      obtain ⟨a1, a2, _⟩ := hJ.1 j hj
      obtain ⟨b1, b2, _⟩ := hJ.2
      have a1 : g1 j = lN (f1 j) := a1
      have b1 : g1 i = lN (f1 i) := b1
      have c1 : ((τ.1, g1) : St).1 33 (nI i).toNatClampNeg = nI (rk i) := by rw [ei]; exact (hrk i hi).2
      have c2 : ((τ.1, g1) : St).1 33 (nI j).toNatClampNeg = nI (rk j) := by rw [ej]; exact (hrk j (by omega)).2
      by_cases q : K i j
      · refine ⟨(vp_updL (vp_updL g1 i (lN (f1 i ||| 2 ^ j))) j (lN (f1 j ||| 2 ^ i)), updN (updN f1 i (f1 i ||| 2 ^ j)) j (f1 j ||| 2 ^ i)), hJ.yes (by omega) hj q, fun r hr S hS => g_14_29 (br_t lt ⟨vp_in_nI (by omega) (by decide), vp_in_nI (by omega) (by decide), ?_⟩)⟩
        rw [c1, c2]
        refine ⟨_, _, hK i j hj hi g1, br_f (by rw [pI_t q]; decide) ⟨vp_in_nI (by omega) (by decide), vp_in_nI (by omega) (by decide), ?_⟩⟩
        rw [ei, ej, nI_S, lb1 (by omega), lb1 (by omega)]
        have d1 : ((τ.1, g1) : St).2 i ||| lN (2 ^ j) = lN (f1 i ||| 2 ^ j) := by
          show g1 i ||| _ = _
          rw [b1, lor b2 (pw60 (by omega))]
        have d2 : (wrL (τ.1, g1) i (lN (f1 i ||| 2 ^ j))).2 j ||| lN (2 ^ i) = lN (f1 j ||| 2 ^ i) := by
          show vp_updL g1 i _ j ||| _ = _
          unfold vp_updL
          rw [if_neg (by omega), a1, lor a2 (pw60 (by omega))]
        rw [d1, d2]
        exact hr S hS
      · refine ⟨(g1, f1), hJ.no q, fun r hr S hS => g_14_29 (br_t lt ⟨vp_in_nI (by omega) (by decide), vp_in_nI (by omega) (by decide), ?_⟩)⟩
        rw [c1, c2]
        refine ⟨_, _, hK i j hj hi g1, br_t (pI_f q) ?_⟩
        rw [nI_S]
        exact hr S hS
    · rintro ⟨g1, f1⟩ hJ
      refine ⟨(g1, f1), hJ.done, fun S hS => g_14_29 (br_f Int32.lt_irrefl ?_)⟩
      rw [nI_S]
      exact hS
  · rintro ⟨g, f⟩ hI
    exact ⟨(g, f), hI, g_14_15 (br_f Int32.lt_irrefl ⟨rfl, rfl⟩)⟩
/-! the mates of a set -/
def moN (f : Nat → Nat) (x : Nat) : Nat → Nat
  | 0 => 0
  | r + 1 => if x.testBit r = true then moN f x r ||| f r else moN f x r
theorem moN_s {K : Nat → Nat → Prop} {m : Nat} {g : Nat → Int64} {f : Nat → Nat} (hM : MtR K m g f) {x : Nat} (hx : ∀ b, x.testBit b = true → b < m) : ∀ k, moN f x k < 2 ^ 60 ∧ ∀ b, (moN f x k).testBit b = true ↔ ∃ r, r < k ∧ x.testBit r = true ∧ (f r).testBit b = true
  | 0 => ⟨by show 0 < 2 ^ 60; decide, fun b => by
      show (0 : Nat).testBit b = true ↔ _
      rw [Nat.zero_testBit]
      exact ⟨fun z => absurd z (by decide), fun ⟨r, h, _⟩ => by omega⟩⟩
  | k + 1 => by
    obtain ⟨h1, h2⟩ := moN_s hM hx k
    unfold moN
    by_cases q : x.testBit k = true
    · rw [if_pos q]
      refine ⟨or60 h1 (hM k (hx k q)).2.1, fun b => ?_⟩
      rw [Nat.testBit_or, Bool.or_eq_true, h2 b]
      constructor
      · rintro (⟨r, z1, z2⟩ | z)
        · exact ⟨r, by omega, z2⟩
        · exact ⟨k, by omega, q, z⟩
      · rintro ⟨r, z1, z2, z3⟩
        by_cases e : r = k
        · subst e; exact Or.inr z3
        · exact Or.inl ⟨r, by omega, z2, z3⟩
    · rw [if_neg q]
      refine ⟨h1, fun b => (h2 b).trans ⟨fun ⟨r, z1, z2⟩ => ⟨r, by omega, z2⟩, fun ⟨r, z1, z2, z3⟩ => ⟨r, ?_, z2, z3⟩⟩⟩
      have : r ≠ k := fun e => q (e ▸ z2)
      omega
theorem s_16 {τ : St} {K : Nat → Nat → Prop} {m : Nat} {f : Nat → Nat} (hm : m ≤ 60) (hM : MtR K m τ.2 f) {x : Nat} (hx60 : x < 2 ^ 60) (hx : ∀ b, x.testBit b = true → b < m) : Ret 16 [.ref 2, .long (lN x)] τ [.long (lN (moN f x 60))] τ := by
  refine g_16_0 (loopN 60 (fun r => Go 16 5 [.ref 2, .long (lN x), .null, .long (lN (moN f x r)), .null, .int (nI r)] [] τ [.long (lN (moN f x 60))] τ) (fun r hr h => ?_) (g_16_5 (br_f (by decide) ⟨rfl, rfl⟩)) 0 (by omega))
  have er : (nI r).toNatClampNeg = r := clN (by omega)
  have lt : nI r < 60 := (nI_ltL (n := 60) rfl (by omega) (by decide)).mpr hr
  have hs := moN_s hM hx r
  have h : Go 16 5 [.ref 2, .long (lN x), .null, .long (lN (if x.testBit r = true then moN f x r ||| f r else moN f x r)), .null, .int (nI (r + 1))] [] τ [.long (lN (moN f x 60))] τ := h
  refine g_16_5 (br_t lt ?_)
  rw [nI_S]
  by_cases q : x.testBit r = true
  · rw [if_pos q] at h
    refine br_f ((lbt1 hx60 hr).mpr q) ⟨vp_in_nI hr (by decide), ?_⟩
    rw [er, (hM r (hx r q)).1, lor hs.1 (hM r (hx r q)).2.1]
    exact h
  · rw [if_neg q] at h
    exact br_t (Classical.byContradiction fun z => q ((lbt1 hx60 hr).mp z)) h
def ChQ (K : Nat → Nat → Prop) (m r X : Nat) : Prop := X < 2 ^ 60 ∧ ∀ b, X.testBit b = true ↔ b < m ∧ Rc K m r b
theorem s_15 {τ : St} {K : Nat → Nat → Prop} {m r : Nat} {f : Nat → Nat} (hm : m ≤ 60) (hr : r < m) (hM : MtR K m τ.2 f) : ∃ X, ChQ K m r X ∧ Ret 15 [.ref 2, .int (nI r)] τ [.long (lN X)] τ := by
  have key := loopY (α := Nat) (β := Nat) 60
    (fun t x => x < 2 ^ 60 ∧ x.testBit r = true ∧ (∀ b, x.testBit b = true → b < m ∧ Rc K m r b) ∧ t + 1 ≤ pcN x 60)
    (fun t x X => Go 15 7 [.ref 2, .null, .long (lN x), .null, .int (nI t), .null, .null] [] τ [.long (lN X)] τ)
    (fun X => ChQ K m r X) ?_ ?_ 0 (2 ^ r) (by omega) ?_
  · obtain ⟨X, h1, h2⟩ := key
    refine ⟨X, h1, g_15_0 ?_⟩
    rw [lb1 (by omega)]
    exact h2
  · rintro t x ht ⟨a1, a2, a3, a4⟩
    have lt : nI t < 60 := (nI_ltL (n := 60) rfl (by omega) (by decide)).mpr ht
    have hs := moN_s hM (fun b hb => (a3 b hb).1) 60
    have m16 := s_16 hm hM a1 (fun b hb => (a3 b hb).1)
    have step : ∀ a b, x.testBit a = true → b < m → AJ K a b → (moN f x 60).testBit b = true := by
      intro a b ha hb hab
      exact (hs.2 b).mpr ⟨a, tb60 a1 ha, ha, ((hM a (a3 a ha).1).2.2 b).mpr ⟨hb, hab⟩⟩
    by_cases e : x ||| moN f x 60 = x
    · left
      refine ⟨x, ⟨a1, fun b => ⟨a3 b, fun ⟨hb, hrc⟩ => ?_⟩⟩, g_15_7 (br_t lt ⟨_, _, m16, br_t ?_ ⟨rfl, rfl⟩⟩)⟩
      · have closed : ∀ a b, x.testBit a = true → b < m → AJ K a b → x.testBit b = true := by
          intro a b ha hb hab
          rw [← e, Nat.testBit_or, step a b ha hb hab, Bool.or_true]
        rcases hrc with rfl | hrc
        · exact a2
        · have go : ∀ c, TG (AJm K m) r c → x.testBit c = true := by
            intro c hc
            induction hc with
            | single h => exact closed _ _ a2 h.2.1 h.2.2
            | tail _ h ih => exact closed _ _ ih h.2.1 h.2.2
          exact go b hrc
      · rw [lor a1 hs.1, e, lg_cmp_eq]
    · right
      refine ⟨x ||| moN f x 60, ⟨or60 a1 hs.1, by rw [Nat.testBit_or, a2, Bool.true_or], fun b hb => ?_, ?_⟩, fun X hX => g_15_7 (br_t lt ⟨_, _, m16, br_f ?_ ?_⟩)⟩
      · rw [Nat.testBit_or, Bool.or_eq_true] at hb
        rcases hb with hb | hb
        · exact a3 b hb
        · obtain ⟨a, z1, z2, z3⟩ := (hs.2 b).mp hb
          obtain ⟨z4, z5⟩ := a3 a z2
          obtain ⟨z6, z7⟩ := ((hM a z4).2.2 b).mp z3
          exact ⟨z6, z5.trans (Or.inr (Relation.TransGen.single ⟨z4, z6, z7⟩))⟩
      · have : pcN x 60 + 1 ≤ pcN (x ||| moN f x 60) 60 := by
          rw [pc_cnt, pc_cnt]
          refine cntP_grow 60 (fun k _ q => ?_) ?_
          · show (x ||| moN f x 60).testBit k = true
            rw [Nat.testBit_or, show x.testBit k = true from q, Bool.true_or]
          · apply Classical.byContradiction
            intro hn
            apply e
            apply Nat.eq_of_testBit_eq
            intro i
            rw [Nat.testBit_or]
            cases h1 : x.testBit i
            · cases h2 : (moN f x 60).testBit i
              · rfl
              · refine absurd ⟨i, tb60 hs.1 h2, ?_, ?_⟩ hn
                · show (x ||| moN f x 60).testBit i = true
                  rw [Nat.testBit_or, h2, Bool.or_true]
                · show ¬ x.testBit i = true
                  rw [h1]; decide
            · simp
        omega
      · rw [lor a1 hs.1, lg_cmp_eq, pk_lEQ (Nat.lt_trans (or60 a1 hs.1) (by decide)) (Nat.lt_trans a1 (by decide))]
        exact e
      · rw [lor a1 hs.1, nI_S]
        exact hX
  · rintro x ⟨a1, a2, a3, a4⟩
    have := pc_le (K := x) 60
    omega
  · refine ⟨pw60 (by omega), by rw [Nat.testBit_two_pow]; simp, fun b hb => ?_, ?_⟩
    · rw [Nat.testBit_two_pow, decide_eq_true_iff] at hb
      subst hb
      exact ⟨hr, Or.inl rfl⟩
    · rw [pc_cnt]
      have := cntP_grow (p := fun _ => False) (q := fun d => (2 ^ r).testBit d = true) 60 (fun _ _ z => z.elim) ⟨r, by omega, by show (2 ^ r).testBit r = true; rw [Nat.testBit_two_pow]; simp, id⟩
      omega
