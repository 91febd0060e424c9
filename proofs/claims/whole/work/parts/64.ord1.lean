/-! orders of days, purely -/
abbrev TG (E : Nat → Nat → Prop) : Nat → Nat → Prop := Relation.TransGen E
theorem tg_trans {E : Nat → Nat → Prop} {a b c : Nat} (h : TG E a b) (k : TG E b c) : TG E a c := by
  induction k with
  | single r => exact Relation.TransGen.tail h r
  | tail _ r ih => exact Relation.TransGen.tail ih r
theorem tg_mono {E E' : Nat → Nat → Prop} (h : ∀ a b, E a b → TG E' a b) {a b : Nat} (q : TG E a b) : TG E' a b := by
  induction q with
  | single r => exact h _ _ r
  | tail _ r ih => exact tg_trans ih (h _ _ r)
theorem tg_rev {E : Nat → Nat → Prop} {a b : Nat} (q : TG (fun x y => E y x) a b) : TG E b a := by
  induction q with
  | single r => exact Relation.TransGen.single r
  | tail _ r ih => exact tg_trans (Relation.TransGen.single r) ih
theorem tg_last {E : Nat → Nat → Prop} {a b : Nat} (q : TG E a b) : ∃ c, E c b ∧ (c = a ∨ TG E a c) := by
  cases q with
  | single r => exact ⟨_, r, Or.inl rfl⟩
  | tail h r => exact ⟨_, r, Or.inr h⟩
theorem tg_end {E : Nat → Nat → Prop} (hE : ∀ a b, E a b → a < 10 ∧ b < 10) {a b : Nat} (q : TG E a b) : a < 10 ∧ b < 10 := by
  induction q with
  | single r => exact hE _ _ r
  | tail _ r ih => exact ⟨ih.1, (hE _ _ r).2⟩
/-- steps by way of the first k -/
def WsI (E : Nat → Nat → Prop) (k : Nat) (f : Nat → Nat) : Prop := (∀ d, d < 10 → f d < 1024) ∧ (∀ d e, d < 10 → (f d).testBit e = true → TG E d e) ∧ (∀ d e, E d e → (f d).testBit e = true) ∧
  (∀ d j e, d < 10 → j < k → (f d).testBit j = true → (f j).testBit e = true → (f d).testBit e = true)
def wsh (f : Nat → Nat) (k j d : Nat) : Nat := if d < j ∧ (f d).testBit k = true then f d ||| f k else f d
theorem wsh_bit {f : Nat → Nat} {k d e : Nat} (hd : d < 10) : (wsh f k 10 d).testBit e = true ↔ (f d).testBit e = true ∨ ((f d).testBit k = true ∧ (f k).testBit e = true) := by
  unfold wsh
  by_cases h : (f d).testBit k = true
  · rw [if_pos ⟨hd, h⟩, Nat.testBit_or, Bool.or_eq_true]
    exact ⟨fun q => q.elim Or.inl (fun z => Or.inr ⟨h, z⟩), fun q => q.elim Or.inl (fun z => Or.inr z.2)⟩
  · rw [if_neg (fun z => h z.2)]
    exact ⟨Or.inl, fun q => q.elim id (fun z => absurd z.1 h)⟩
theorem WsI.step {E : Nat → Nat → Prop} {k : Nat} {f : Nat → Nat} (hk : k < 10) (hE : ∀ a b, E a b → a < 10 ∧ b < 10) (h : WsI E k f) : WsI E (k + 1) (wsh f k 10) := by
  obtain ⟨h1, h2, h3, h4⟩ := h
  refine ⟨fun d hd => ?_, fun d e hd q => ?_, fun d e q => ?_, fun d j e hd hj q1 q2 => ?_⟩
  · unfold wsh
    split
    · exact Nat.or_lt_two_pow (n := 10) (h1 d hd) (h1 k hk)
    · exact h1 d hd
  · rcases (wsh_bit hd).mp q with q | ⟨q, z⟩
    · exact h2 d e hd q
    · exact tg_trans (h2 d k hd q) (h2 k e hk z)
  · exact (wsh_bit (hE d e q).1).mpr (Or.inl (h3 d e q))
  · have hj10 : j < 10 := by omega
    rw [wsh_bit hd] at q1 ⊢
    rw [wsh_bit hj10] at q2
    by_cases e1 : j = k
    · subst e1
      have a : (f d).testBit j = true := q1.elim id (fun z => z.1)
      have b : (f j).testBit e = true := q2.elim id (fun z => z.2)
      exact Or.inr ⟨a, b⟩
    · have hj2 : j < k := by omega
      rcases q1 with q1 | ⟨q1, q3⟩
      · rcases q2 with q2 | ⟨q2, q4⟩
        · exact Or.inl (h4 d j e hd hj2 q1 q2)
        · exact Or.inr ⟨h4 d j k hd hj2 q1 q2, q4⟩
      · rcases q2 with q2 | ⟨q2, q4⟩
        · exact Or.inr ⟨q1, h4 k j e hk hj2 q3 q2⟩
        · exact Or.inr ⟨q1, q4⟩
theorem WsI.done {E : Nat → Nat → Prop} {f : Nat → Nat} (hE : ∀ a b, E a b → a < 10 ∧ b < 10) (h : WsI E 10 f) {d e : Nat} (hd : d < 10) : (f d).testBit e = true ↔ TG E d e := by
  obtain ⟨h1, h2, h3, h4⟩ := h
  refine ⟨h2 d e hd, fun q => ?_⟩
  induction q with
  | single r => exact h3 _ _ r
  | tail _ r ih => exact h4 _ _ _ hd (hE _ _ r).1 ih (h3 _ _ r)
theorem WsI.zero {E : Nat → Nat → Prop} {f : Nat → Nat} (h1 : ∀ d, d < 10 → f d < 1024) (h2 : ∀ d e, d < 10 → ((f d).testBit e = true ↔ E d e)) (hE : ∀ a b, E a b → a < 10 ∧ b < 10) : WsI E 0 f :=
  ⟨h1, fun d e hd q => Relation.TransGen.single ((h2 d e hd).mp q), fun d e q => (h2 d e (hE d e q).1).mpr q, fun d j e _ hj => by omega⟩
/-- those on a ring, as bits -/
def utN (f : Nat → Nat) : Nat → Nat
  | 0 => 0
  | j + 1 => utN f j ||| (f j &&& 2 ^ j)
theorem utN_bit {f : Nat → Nat} {d : Nat} : ∀ j, ((utN f j).testBit d = true ↔ d < j ∧ (f d).testBit d = true)
  | 0 => by simp [utN]
  | j + 1 => by
    unfold utN
    rw [Nat.testBit_or, Bool.or_eq_true, utN_bit j, Nat.testBit_and, Bool.and_eq_true, Nat.testBit_two_pow, decide_eq_true_iff]
    constructor
    · rintro (⟨h1, h2⟩ | ⟨h1, rfl⟩)
      · exact ⟨by omega, h2⟩
      · exact ⟨by omega, h1⟩
    · rintro ⟨h1, h2⟩
      by_cases e : j = d
      · subst e; exact Or.inr ⟨h2, rfl⟩
      · exact Or.inl ⟨by omega, h2⟩
def unQ (E : Nat → Nat → Prop) (U : Nat) : Prop := ∀ d, U.testBit d = true ↔ d < 10 ∧ TG E d d
theorem unQ.uniq {E : Nat → Nat → Prop} {U V : Nat} (h : unQ E U) (k : unQ E V) : U = V := by
  apply Nat.eq_of_testBit_eq
  intro i
  have := (h i).trans (k i).symm
  cases hU : U.testBit i <;> cases hV : V.testBit i <;> simp_all
theorem unQ.zero {E : Nat → Nat → Prop} {U : Nat} (h : unQ E U) : U = 0 ↔ ∀ d, d < 10 → ¬ TG E d d := by
  constructor
  · intro e d hd q
    have := (h d).mpr ⟨hd, q⟩
    rw [e] at this
    simp at this
  · intro hn
    apply Nat.eq_of_testBit_eq
    intro i
    rw [Nat.zero_testBit]
    cases hU : U.testBit i
    · rfl
    · have := (h i).mp hU
      exact absurd this.2 (hn i this.1)
/-! taking away whoever has nobody above -/
theorem cyc {E : Nat → Nat → Prop} {M : Nat} (hE : ∀ a b, E a b → a < 10 ∧ b < 10) (h : ∀ e, e < 10 → M.testBit e = true → ∃ d, E d e ∧ M.testBit d = true) (hn : ∀ d, d < 10 → ¬ TG E d d) : ∀ n e, e < 10 → M.testBit e = true → cntP (fun p => TG E p e) 10 ≤ n → False := by
  have grow : ∀ d e, E d e → cntP (fun p => TG E p d) 10 + 1 ≤ cntP (fun p => TG E p e) 10 := fun d e hde =>
    cntP_grow 10 (fun p _ q => Relation.TransGen.tail q hde) ⟨d, (hE d e hde).1, Relation.TransGen.single hde, hn d (hE d e hde).1⟩
  intro n
  induction n with
  | zero =>
    intro e he hM hc
    obtain ⟨d, h1, h2⟩ := h e he hM
    have := grow d e h1
    omega
  | succ n ih =>
    intro e he hM hc
    obtain ⟨d, h1, h2⟩ := h e he hM
    have := grow d e h1
    exact ih d (hE d e h1).1 h2 (by omega)
def rmB (M v : Nat) : Nat := M &&& (1023 ^^^ 2 ^ v)
theorem rmB_bit {M v i : Nat} (hi : i < 10) : (rmB M v).testBit i = true ↔ M.testBit i = true ∧ i ≠ v := by
  unfold rmB
  rw [Nat.testBit_and, Nat.testBit_xor, Nat.testBit_two_pow, show (1023 : Nat) = 2 ^ 10 - 1 from rfl, Nat.testBit_two_pow_sub_one, Bool.and_eq_true]
  have : decide (i < 10) = true := decide_eq_true hi
  rw [this]
  by_cases e : v = i
  · subst e; simp
  · simp [e, Ne.symm e]
theorem rmB_lt {M v : Nat} (h : M < 1024) : rmB M v < 1024 := Nat.lt_of_le_of_lt Nat.and_le_left h
theorem rmB_I : ∀ M, M < 1024 → ∀ v, v < 10 → nI M &&& (((1 : Int32) <<< (nI v &&& 31)) ^^^ (-1 : Int32)) = nI (rmB M v) := by decide +kernel
theorem tb_1024 {M i : Nat} (h : M < 1024) (hb : M.testBit i = true) : i < 10 := by
  apply Classical.byContradiction
  intro hi
  have h2 : 2 ^ 10 ≤ 2 ^ i := Nat.pow_le_pow_right (by decide) (by omega)
  have := Nat.testBit_lt_two_pow (x := M) (i := i) (by omega)
  rw [this] at hb
  exact absurd hb (by decide)
theorem and0 {a b : Nat} : a &&& b = 0 ↔ ∀ i, a.testBit i = true → b.testBit i = true → False := by
  constructor
  · intro h i h1 h2
    have : (a &&& b).testBit i = true := by rw [Nat.testBit_and, h1, h2]; rfl
    rw [h] at this
    simp at this
  · intro h
    apply Nat.eq_of_testBit_eq
    intro i
    rw [Nat.zero_testBit, Nat.testBit_and]
    cases h1 : a.testBit i
    · rfl
    · cases h2 : b.testBit i
      · rfl
      · exact (h i h1 h2).elim
theorem ne0_bit {M : Nat} (h : M < 1024) (hn : ¬ M = 0) : ∃ i, i < 10 ∧ M.testBit i = true := by
  apply Classical.byContradiction
  intro hx
  apply hn
  apply Nat.eq_of_testBit_eq
  intro i
  rw [Nat.zero_testBit]
  cases hb : M.testBit i
  · rfl
  · exact absurd ⟨i, tb_1024 h hb, hb⟩ hx
theorem nI_0iff {k : Nat} (h : k < 2 ^ 31) : nI k = 0 ↔ k = 0 := by
  rw [← nI_0]
  exact nI_eq h (by decide)
/-- before the j-th day of a turn that began with M0 -/
def KhI (E : Nat → Nat → Prop) (M0 j M : Nat) : Prop := M < 1024 ∧ (∀ d, d < 10 → TG E d d → M.testBit d = true) ∧ (∀ d, d < 10 → M.testBit d = true → M0.testBit d = true) ∧
  (M = M0 → ∀ e, e < j → M0.testBit e = true → ∃ d, E d e ∧ M0.testBit d = true) ∧ (¬ M = M0 → ∃ d, d < 10 ∧ M0.testBit d = true ∧ M.testBit d = false)
theorem KhI.take {E : Nat → Nat → Prop} {M0 j M g : Nat} (hE : ∀ a b, E a b → a < 10 ∧ b < 10) (hj : j < 10) (hg : ∀ d, g.testBit d = true ↔ E d j) (h : KhI E M0 j M) (q : g &&& M = 0) : KhI E M0 (j + 1) (rmB M j) := by
  obtain ⟨h1, h2, h3, h4, h5⟩ := h
  have q := and0.mp q
  refine ⟨rmB_lt h1, fun d hd hc => ?_, fun d hd hb => h3 d hd ((rmB_bit hd).mp hb).1, fun e1 e he hb => ?_, fun hn => ?_⟩
  · refine (rmB_bit hd).mpr ⟨h2 d hd hc, fun e => ?_⟩
    subst e
    obtain ⟨c, hc1, hc2⟩ := tg_last hc
    have hcc : TG E c c := by
      rcases hc2 with rfl | hc2
      · exact hc
      · exact tg_trans (Relation.TransGen.single hc1) hc2
    exact q c ((hg c).mpr hc1) (h2 c (hE c d hc1).1 hcc)
  · by_cases e2 : M = M0
    · by_cases e3 : e = j
      · subst e3
        rw [← e1] at hb
        exact absurd rfl ((rmB_bit hj).mp hb).2
      · exact h4 e2 e (by omega) hb
    · obtain ⟨d, hd, hb1, hb2⟩ := h5 e2
      rw [← e1] at hb1
      have := ((rmB_bit hd).mp hb1).1
      rw [hb2] at this
      exact absurd this (by decide)
  · by_cases e2 : M = M0
    · subst e2
      apply Classical.byContradiction
      intro hx
      apply hn
      apply Nat.eq_of_testBit_eq
      intro i
      cases hb : M.testBit i
      · cases hb2 : (rmB M j).testBit i
        · rfl
        · have hi := tb_1024 (rmB_lt h1) hb2
          have := ((rmB_bit hi).mp hb2).1
          rw [hb] at this
          exact absurd this (by decide)
      · have hi := tb_1024 h1 hb
        cases hb2 : (rmB M j).testBit i
        · exact absurd ⟨i, hi, hb, hb2⟩ hx
        · rfl
    · obtain ⟨d, hd, hb1, hb2⟩ := h5 e2
      refine ⟨d, hd, hb1, ?_⟩
      cases hb3 : (rmB M j).testBit d
      · rfl
      · have := ((rmB_bit hd).mp hb3).1
        rw [hb2] at this
        exact absurd this (by decide)
theorem KhI.skip {E : Nat → Nat → Prop} {M0 j M g : Nat} (hg : ∀ d, g.testBit d = true ↔ E d j) (h : KhI E M0 j M) (q : ¬ g &&& M = 0) : KhI E M0 (j + 1) M := by
  obtain ⟨h1, h2, h3, h4, h5⟩ := h
  refine ⟨h1, h2, h3, fun e1 e he hb => ?_, h5⟩
  by_cases e3 : e = j
  · subst e3
    apply Classical.byContradiction
    intro hx
    apply q
    rw [and0]
    intro i hi1 hi2
    rw [e1] at hi2
    exact hx ⟨i, (hg i).mp hi1, hi2⟩
  · exact h4 e1 e (by omega) hb
noncomputable def cnB (M : Nat) : Nat := cntP (fun d => M.testBit d = true) 10
theorem KhI.less {E : Nat → Nat → Prop} {M0 M : Nat} (h : KhI E M0 10 M) (hn : ¬ M = M0) : cnB M + 1 ≤ cnB M0 := by
  obtain ⟨h1, h2, h3, h4, h5⟩ := h
  obtain ⟨d, hd, hb1, hb2⟩ := h5 hn
  exact cntP_grow 10 (fun k hk q => h3 k hk q) ⟨d, hd, hb1, by rw [hb2]; decide⟩
