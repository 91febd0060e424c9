/-! the model's orders -/
def TmQ (dy sk r74 r75 : Nat → Int32) : Prop := ∀ l, l < 144 → ((dy l = -1 ∧ r74 l = -6) ∨ ∃ d, d < 10 ∧ dy l = nI d ∧ r74 l = nI d) ∧ r75 l = sk l
theorem Rel.tmq {σ : St} (hR : Rel σ) : TmQ (σ.1 47) (σ.1 48) (σ.1 74) (σ.1 75) := by
  intro l hl
  have hT := hR.2.2.2.2.2.2.2.1 l hl
  refine ⟨?_, hT.2.1.1.symm⟩
  rcases hT.1 with q | ⟨d, h1, h2, h3, _⟩
  · exact Or.inl q
  · exact Or.inr ⟨d, h1, h2, h3⟩
theorem m176t {τ : St} {dy sk : Nat → Int32} {l : Nat} (hl : l < 144) (hq : TmQ dy sk (τ.1 74) (τ.1 75)) (h : oP dy sk l) : Ret 176 [.ref 11, .int (nI l)] τ [.int 1] τ := by
  obtain ⟨h1, h2⟩ := hq l hl
  rcases h1 with ⟨h1, _⟩ | ⟨d, hd, h3, h4⟩
  · exact absurd h1 h.1
  · exact s_176t (σ := τ) hl hd rfl rfl h4 (h2.trans h.2)
theorem m176f {τ : St} {dy sk : Nat → Int32} {l : Nat} (hl : l < 144) (hq : TmQ dy sk (τ.1 74) (τ.1 75)) (h : ¬ oP dy sk l) : Ret 176 [.ref 11, .int (nI l)] τ [.int 0] τ := by
  obtain ⟨h1, h2⟩ := hq l hl
  refine s_176f (σ := τ) hl rfl rfl ?_
  rcases h1 with ⟨_, h1⟩ | ⟨d, hd, h3, h4⟩
  · exact Or.inl (by rw [h1]; decide)
  · exact Or.inr (by rw [h2]; exact fun z => h ⟨by rw [h3]; exact neg1_nI (by omega), z⟩)
def nmR (g o : Nat → Int32) (i l : Nat) : Int32 := if l < i then (if g l ≤ 0 then -6 else nI (rkc g l)) else o l
theorem nmR_S {g o : Nat → Int32} {i : Nat} : upd (nmR g o i) i (if g i ≤ 0 then -6 else nI (rkc g i)) = nmR g o (i + 1) := by
  funext l
  unfold upd nmR
  by_cases e : l = i
  · subst e; rw [if_pos rfl, if_pos (show l < l + 1 by omega)]
  · rw [if_neg e]
    by_cases h : l < i
    · rw [if_pos h, if_pos (show l < i + 1 by omega)]
    · rw [if_neg h, if_neg (show ¬ l < i + 1 by omega)]
theorem nmR_0 {g o : Nat → Int32} : nmR g o 0 = o := by
  funext l; unfold nmR; rw [if_neg (by omega)]
theorem s_178 {τ : St} {dy sk : Nat → Int32} (hq : TmQ dy sk (τ.1 74) (τ.1 75)) : Ret 178 [.ref 11] τ [] (setR τ 87 (nmR (orf dy sk) (τ.1 87) 144)) := by
  refine g_178_0 ?_
  have key := loopN 144 (fun i => Go 178 4 [.ref 11, .int (nI (rkc (orf dy sk) i)), .int (nI i)] [] (setR τ 87 (nmR (orf dy sk) (τ.1 87) i)) [] (setR τ 87 (nmR (orf dy sk) (τ.1 87) 144))) ?_ ?_ 0 (by omega)
  · rw [nmR_0, setR_self] at key
    exact key
  · intro i hi h
    have ei : (nI i).toNatClampNeg = i := clN (by omega)
    have lt : nI i < 144 := (nI_ltL (n := 144) rfl (by omega) (by decide)).mpr hi
    rw [← nmR_S, ← wr_setR, ← nI_S, rkc] at h
    by_cases ho : oP dy sk i
    · have hg := orf_iff.mpr ho
      rw [if_neg hg, if_neg hg, ← nI_S] at h
      refine g_178_4 (br_t lt ⟨_, _, m176t (τ := setR τ 87 (nmR (orf dy sk) (τ.1 87) i)) hi hq ho, br_f (by decide) ⟨vp_in_nI hi (by decide), ?_⟩⟩)
      rw [ei]
      exact ⟨_, _, m176t (τ := wr (setR τ 87 (nmR (orf dy sk) (τ.1 87) i)) 87 i _) hi hq ho, br_f (by decide) h⟩
    · have hg : orf dy sk i ≤ 0 := Classical.byContradiction fun z => ho (orf_iff.mp z)
      rw [if_pos hg, if_pos hg] at h
      refine g_178_4 (br_t lt ⟨_, _, m176f (τ := setR τ 87 (nmR (orf dy sk) (τ.1 87) i)) hi hq ho, br_t rfl ⟨vp_in_nI hi (by decide), ?_⟩⟩)
      rw [ei]
      refine ⟨_, _, m176f (τ := wr (setR τ 87 (nmR (orf dy sk) (τ.1 87) i)) 87 i _) hi hq ho, br_t rfl ?_⟩
      rw [Int32.add_zero]
      exact h
  · exact g_178_4 (br_f (by decide) ⟨rfl, rfl⟩)
/-- the ties are numbered -/
def NuQ (dy sk r87 : Nat → Int32) : Prop := ∀ l, l < 144 → (oP dy sk l → r87 l = nI (rkc (orf dy sk) l)) ∧ (¬ oP dy sk l → r87 l = -6)
theorem nm_Q {dy sk o : Nat → Int32} : NuQ dy sk (nmR (orf dy sk) o 144) := by
  intro l hl
  unfold nmR
  rw [if_pos hl]
  constructor
  · intro h; rw [if_neg (orf_iff.mpr h)]
  · intro h; rw [if_pos (Classical.byContradiction fun z => h (orf_iff.mp z))]
def eQ (dy sk : Nat → Int32) (K d e : Nat) : Prop := d < 10 ∧ e < 10 ∧ ∃ l k, l < k ∧ l / 24 = k / 24 ∧ kP dy sk K l ∧ kP dy sk K k ∧ (∀ m, l < m → m < k → ¬ kP dy sk K m) ∧ dy l = nI d ∧ dy k = nI e
theorem eQ_rng {dy sk : Nat → Int32} {K : Nat} (a b : Nat) (h : eQ dy sk K a b) : a < 10 ∧ b < 10 := ⟨h.1, h.2.1⟩
theorem eQ_eP {dy sk : Nat → Int32} {K : Nat} (hdy : ∀ l, l < 144 → dy l = -1 ∨ ∃ d, d < 10 ∧ dy l = nI d) {d e : Nat} : TG (eQ dy sk K) d e ↔ TG (eP dy sk K) d e := by
  constructor
  · refine tg_mono (fun a b h => Relation.TransGen.single ?_)
    obtain ⟨h1, h2, l, k, h3, h4, h5, h6, _, h7⟩ := h
    exact ⟨h1, h2, l, k, h3, h4, h5, h6, h7⟩
  · refine tg_mono (fun a b h => ?_)
    obtain ⟨h1, h2, l, k, h3, h4, h5, h6, h7, h8⟩ := h
    have go : ∀ n l k a b, k - l ≤ n → a < 10 → b < 10 → l < k → l / 24 = k / 24 → kP dy sk K l → kP dy sk K k → dy l = nI a → dy k = nI b → TG (eQ dy sk K) a b := by
      intro n
      induction n with
      | zero => intro l k a b hn _ _ hlk; omega
      | succ n ih =>
        intro l k a b hn ha hb hlk hc hl hk el ek
        by_cases hm : ∃ m, l < m ∧ m < k ∧ kP dy sk K m
        · obtain ⟨m, m1, m2, m3⟩ := hm
          obtain ⟨c, hc1, hc2⟩ := day_of hdy m3.1 m3.2.1
          exact tg_trans (ih l m a c (by omega) ha hc1 m1 (by omega) hl m3 el hc2) (ih m k c b (by omega) hc1 hb m2 (by omega) m3 hk hc2 ek)
        · exact Relation.TransGen.single ⟨ha, hb, l, k, hlk, hc, hl, hk, fun m m1 m2 m3 => hm ⟨m, m1, m2, m3⟩, el, ek⟩
    exact go (k - l) l k a b (Nat.le_refl _) h1 h2 h3 h4 h5 h6 h7 h8
def BfQ (dy sk : Nat → Int32) (K j : Nat) (bv : Int32) : Prop := (bv = -6 ∧ ∀ l, kP dy sk K l → l < j → ¬ l / 24 = j / 24) ∨ ∃ l d, d < 10 ∧ kP dy sk K l ∧ l < j ∧ l / 24 = j / 24 ∧ (∀ m, l < m → m < j → ¬ kP dy sk K m) ∧ dy l = nI d ∧ bv = nI d
/-- before the j-th inch -/
def MoI (dy sk : Nat → Int32) (K j : Nat) (bv : Int32) (f : Nat → Nat) (F : Nat → Int32) : Prop := rowN F f ∧
  (∀ d, d < 10 → ∀ e, (f d).testBit e = true ↔ e < 10 ∧ ∃ l k, l < k ∧ l / 24 = k / 24 ∧ kP dy sk K l ∧ kP dy sk K k ∧ (∀ m, l < m → m < k → ¬ kP dy sk K m) ∧ k < j ∧ dy l = nI d ∧ dy k = nI e) ∧ (¬ j % 24 = 0 → BfQ dy sk K j bv)
theorem MoI.bf {dy sk : Nat → Int32} {K j : Nat} {bv : Int32} {f : Nat → Nat} {F : Nat → Int32} (h : MoI dy sk K j bv f F) : BfQ dy sk K j (if j % 24 = 0 then -6 else bv) := by
  by_cases q : j % 24 = 0
  · rw [if_pos q]
    exact Or.inl ⟨rfl, fun l _ h1 h2 => by omega⟩
  · rw [if_neg q]
    exact h.2.2 q
theorem MoI.not {dy sk : Nat → Int32} {K j : Nat} {bv : Int32} {f : Nat → Nat} {F : Nat → Int32} (h : MoI dy sk K j bv f F) (hn : ¬ kP dy sk K j) : MoI dy sk K (j + 1) (if j % 24 = 0 then -6 else bv) f F := by
  have hb := h.bf
  obtain ⟨a1, a2, a3⟩ := h
  refine ⟨a1, fun d hd e => (a2 d hd e).trans ?_, fun q => ?_⟩
  · constructor
    · rintro ⟨h1, l, k, h2, h3, h4, h5, h6, h7, h8⟩
      exact ⟨h1, l, k, h2, h3, h4, h5, h6, by omega, h8⟩
    · rintro ⟨h1, l, k, h2, h3, h4, h5, h6, h7, h8⟩
      exact ⟨h1, l, k, h2, h3, h4, h5, h6, Nat.lt_of_le_of_ne (by omega) (fun z => hn (z ▸ h5)), h8⟩
  · rcases hb with ⟨h1, h2⟩ | ⟨l, d, h1, h2, h3, h4, h5, h6, h7⟩
    · refine Or.inl ⟨h1, fun l hl hlj => ?_⟩
      have : l ≠ j := fun z => hn (z ▸ hl)
      have := h2 l hl (by omega)
      omega
    · refine Or.inr ⟨l, d, h1, h2, by omega, by omega, fun m m1 m2 m3 => ?_, h6, h7⟩
      have : m ≠ j := fun z => hn (z ▸ m3)
      exact h5 m m1 (by omega) m3
theorem MoI.new {dy sk : Nat → Int32} {K j e : Nat} {bv : Int32} {f : Nat → Nat} {F : Nat → Int32} (h : MoI dy sk K j bv f F) (hk : kP dy sk K j) (he : e < 10) (ee : dy j = nI e) (hb : (if j % 24 = 0 then -6 else bv) < 0) : MoI dy sk K (j + 1) (nI e) f F := by
  have hbf := h.bf
  obtain ⟨a1, a2, a3⟩ := h
  have none : ∀ l, kP dy sk K l → l < j → ¬ l / 24 = j / 24 := by
    rcases hbf with ⟨_, h2⟩ | ⟨l, d, h1, h2, h3, h4, h5, h6, h7⟩
    · exact h2
    · rw [h7] at hb
      exact absurd hb (Int32.not_lt.mpr (nI0 (by omega)))
  refine ⟨a1, fun d hd c => (a2 d hd c).trans ?_, fun q => Or.inr ⟨j, e, he, hk, by omega, by omega, fun m m1 m2 => by omega, ee, rfl⟩⟩
  constructor
  · rintro ⟨h1, l, k, h2, h3, h4, h5, h6, h7, h8⟩
    exact ⟨h1, l, k, h2, h3, h4, h5, h6, by omega, h8⟩
  · rintro ⟨h1, l, k, h2, h3, h4, h5, h6, h7, h8⟩
    refine ⟨h1, l, k, h2, h3, h4, h5, h6, Nat.lt_of_le_of_ne (by omega) (fun z => ?_), h8⟩
    subst z
    exact none l h4 h2 h3
theorem MoI.old {dy sk : Nat → Int32} {K j e d0 : Nat} {bv : Int32} {f : Nat → Nat} {F : Nat → Int32} (h : MoI dy sk K j bv f F) (hk : kP dy sk K j) (he : e < 10) (ee : dy j = nI e) (hd0 : d0 < 10) (hb : (if j % 24 = 0 then -6 else bv) = nI d0) : MoI dy sk K (j + 1) (nI e) (fun d => if d = d0 then f d0 ||| 2 ^ e else f d) (upd F d0 (nI (f d0 ||| 2 ^ e))) := by
  have hbf := h.bf
  obtain ⟨a1, a2, a3⟩ := h
  rw [hb] at hbf
  obtain ⟨l, d, h1, h2, h3, h4, h5, h6, h7⟩ : ∃ l d, d < 10 ∧ kP dy sk K l ∧ l < j ∧ l / 24 = j / 24 ∧ (∀ m, l < m → m < j → ¬ kP dy sk K m) ∧ dy l = nI d ∧ nI d0 = nI d := by
    rcases hbf with ⟨q, _⟩ | q
    · exact absurd q (neg6_nI (by omega))
    · exact q
  have e0 : d0 = d := (nI_eq (by omega) (by omega)).mp h7
  subst e0
  refine ⟨fun d hd => ?_, fun d hd c => ?_, fun q => Or.inr ⟨j, e, he, hk, by omega, by omega, fun m m1 m2 => by omega, ee, rfl⟩⟩
  · show upd F d0 (nI (f d0 ||| 2 ^ e)) d = nI (if d = d0 then f d0 ||| 2 ^ e else f d) ∧ (if d = d0 then f d0 ||| 2 ^ e else f d) < 1024
    by_cases q : d = d0
    · subst q
      rw [if_pos rfl, upd_at]
      exact ⟨rfl, Nat.or_lt_two_pow (n := 10) (a1 d hd).2 (Nat.pow_lt_pow_right (by decide) he)⟩
    · rw [if_neg q, upd_n q]
      exact a1 d hd
  · show (if d = d0 then f d0 ||| 2 ^ e else f d).testBit c = true ↔ _
    by_cases q : d = d0
    · subst q
      rw [if_pos rfl, Nat.testBit_or, Bool.or_eq_true, a2 d hd, Nat.testBit_two_pow, decide_eq_true_iff]
      constructor
      · rintro (⟨x1, y, k, x2, x3, x4, x5, x6, x7, x8⟩ | rfl)
        · exact ⟨x1, y, k, x2, x3, x4, x5, x6, by omega, x8⟩
        · exact ⟨he, l, j, h3, h4, h2, hk, h5, by omega, h6, ee⟩
      · rintro ⟨x1, y, k, x2, x3, x4, x5, x6, x7, x8, x9⟩
        by_cases z : k = j
        · subst z
          exact Or.inr ((nI_eq (by omega) (by omega)).mp (ee.symm.trans x9))
        · exact Or.inl ⟨x1, y, k, x2, x3, x4, x5, x6, by omega, x8, x9⟩
    · rw [if_neg q, a2 d hd]
      constructor
      · rintro ⟨x1, y, k, x2, x3, x4, x5, x6, x7, x8⟩
        exact ⟨x1, y, k, x2, x3, x4, x5, x6, by omega, x8⟩
      · rintro ⟨x1, y, k, x2, x3, x4, x5, x6, x7, x8, x9⟩
        by_cases z : k = j
        · subst z
          exfalso
          have hyl : y = l := by
            rcases Nat.lt_trichotomy y l with w | w | w
            · exact absurd h2 (x6 l w h3)
            · exact w
            · exact absurd x4 (h5 y w x2)
          subst hyl
          exact q ((nI_eq (by omega) (by omega)).mp (x8.symm.trans h6))
        · exact ⟨x1, y, k, x2, x3, x4, x5, x6, by omega, x8, x9⟩
theorem mod24 {j : Nat} (h : j < 144) : nI j - nI j / 24 * 24 = nI (j % 24) := by
  rw [div24 h]
  have := mul24 (a := j / 24) (b := j % 24)
  rw [show 24 * (j / 24) + j % 24 = j by omega] at this
  have e2 : nI (j / 24) * 24 = nI j - nI (j % 24) := by rw [← this]; grind
  rw [e2]; grind
theorem kp_cases {dy sk : Nat → Int32} {K j : Nat} (hK : K < 1024) (hj : j < 144) : (kP dy sk K j ∧ oP dy sk j ∧ (¬ nI (rkc (orf dy sk) j) ≤ 9 ∨ (nI (rkc (orf dy sk) j) ≤ 9 ∧ ((nI K >>> (nI (rkc (orf dy sk) j) &&& 31)) &&& (1 : Int32)) = 0))) ∨ (¬ kP dy sk K j ∧ (¬ oP dy sk j ∨ (oP dy sk j ∧ nI (rkc (orf dy sk) j) ≤ 9 ∧ ¬ ((nI K >>> (nI (rkc (orf dy sk) j) &&& 31)) &&& (1 : Int32)) = 0))) := by
  have hr := rkc_le (f := orf dy sk) j
  by_cases ho : oP dy sk j
  · by_cases h9 : rkc (orf dy sk) j ≤ 9
    · have h9' : nI (rkc (orf dy sk) j) ≤ 9 := (nI_leL (n := 9) rfl (by omega) (by decide)).mpr h9
      cases hb : K.testBit (rkc (orf dy sk) j)
      · exact Or.inl ⟨⟨hj, ho, fun _ => hb⟩, ho, Or.inr ⟨h9', (bit_iff (by omega) (by omega)).mpr hb⟩⟩
      · refine Or.inr ⟨fun z => ?_, Or.inr ⟨ho, h9', fun z => ?_⟩⟩
        · have := z.2.2 (by omega)
          rw [hb] at this
          exact absurd this (by decide)
        · have := (bit_iff (by omega) (by omega)).mp z
          rw [hb] at this
          exact absurd this (by decide)
    · exact Or.inl ⟨⟨hj, ho, fun z => by omega⟩, ho, Or.inl (fun z => h9 ((nI_leL (n := 9) rfl (by omega) (by decide)).mp z))⟩
  · exact Or.inr ⟨fun z => ho z.2.1, Or.inl ho⟩
theorem s_179 {τ : St} {dy sk : Nat → Int32} {K : Nat} (hK : K < 1024) (hdy : ∀ l, l < 144 → dy l = -1 ∨ ∃ d, d < 10 ∧ dy l = nI d) (hq : TmQ dy sk (τ.1 74) (τ.1 75)) (hu : NuQ dy sk (τ.1 87)) : ∃ (F : Nat → Int32) (U : Nat), unQ (eP dy sk K) U ∧ Ret 179 [.ref 11, .int (nI K)] τ [.int (nI U)] (setR τ 86 F) := by
  -- the end: rings, as bits
  have fin : ∀ (F : Nat → Int32) (f : Nat → Nat), rowN F f → Go 179 180 [.ref 11, .null, .null, .int 0, .int 0] [] (setR τ 86 F) [.int (nI (utN f 10))] (setR τ 86 F) := by
    intro F f hr
    refine loopN 10 (fun j => Go 179 180 [.ref 11, .null, .null, .int (nI (utN f j)), .int (nI j)] [] (setR τ 86 F) [.int (nI (utN f 10))] (setR τ 86 F)) ?_ ?_ 0 (by omega)
    · intro j hj h
      have ej : (nI j).toNatClampNeg = j := clN (by omega)
      have fj : (setR τ 86 F).1 86 (nI j).toNatClampNeg = nI (f j) := by rw [ej]; exact (hr j hj).1
      refine g_179_180 (br_t ((nI_ltL (n := 10) rfl (by omega) (by decide)).mpr hj) ⟨vp_in_nI hj (by decide), ?_⟩)
      rw [fj, nI_shl1 j (by omega), nI_and, nI_or, nI_S]
      exact h
    · exact g_179_180 (br_f (by decide) ⟨rfl, rfl⟩)
  -- steps by way of others
  have mid : ∀ (F0 : Nat → Int32) (f0 : Nat → Nat), rowN F0 f0 → WsI (eQ dy sk K) 0 f0 → ∃ r : (Nat → Int32) × Nat, unQ (eP dy sk K) r.2 ∧ Go 179 112 [.ref 11, .null, .null, .int 0, .null] [] (setR τ 86 F0) [.int (nI r.2)] (setR τ 86 r.1) := by
    intro F0 f0 hr0 hw0
    refine loopX (α := (Nat → Int32) × (Nat → Nat)) (β := (Nat → Int32) × Nat) 10
      (fun k x => rowN x.1 x.2 ∧ WsI (eQ dy sk K) k x.2)
      (fun k x r => Go 179 112 [.ref 11, .null, .null, .int (nI k), .null] [] (setR τ 86 x.1) [.int (nI r.2)] (setR τ 86 r.1))
      (fun r => unQ (eP dy sk K) r.2) ?_ ?_ 0 (F0, f0) (by omega) ⟨hr0, hw0⟩
    · rintro k ⟨F, f⟩ hk ⟨hr, hw⟩
      refine ⟨(wsF F f k 10, wsh f k 10), ⟨wsF_row hk hr, hw.step hk eQ_rng⟩, fun r hgo => ?_⟩
      have inner := loopN 10 (fun j => Go 179 121 [.ref 11, .null, .null, .int (nI k), .int (nI j)] [] (setR τ 86 (wsF F f k j)) [.int (nI r.2)] (setR τ 86 r.1)) ?_ ?_ 0 (by omega)
      · rw [wsF_0 hr] at inner
        exact g_179_112 (br_t ((nI_ltL (n := 10) rfl (by omega) (by decide)).mpr hk) inner)
      · intro j hj h
        have ej : (nI j).toNatClampNeg = j := clN (by omega)
        have ek : (nI k).toNatClampNeg = k := clN (by omega)
        have lt : nI j < 10 := (nI_ltL (n := 10) rfl (by omega) (by decide)).mpr hj
        have fj : (setR τ 86 (wsF F f k j)).1 86 (nI j).toNatClampNeg = nI (f j) := by rw [ej]; exact wsF_self hj
        have fk : (setR τ 86 (wsF F f k j)).1 86 (nI k).toNatClampNeg = nI (f k) := by rw [ek]; exact wsF_k hk
        refine g_179_121 (br_t lt ⟨vp_in_nI hj (by decide), ?_⟩)
        rw [fj, fk, nI_S, ej, nI_or, wr_setR, or_0, wr_setR]
        have hlt : f j < 1024 := (hr j hj).2
        by_cases hbit : (f j).testBit k = true
        · refine br_t ?_ ⟨vp_in_nI hk (by decide), ?_⟩
          · exact (bit_iff1 (by omega) (by omega)).mpr hbit
          · rw [wsF_S hj hbit]; exact h
        · refine br_f ?_ ?_
          · exact fun z => hbit ((bit_iff1 (by omega) (by omega)).mp z)
          · have : upd (wsF F f k j) j (nI (f j)) = wsF F f k j := by
              rw [← wsF_self (F := F) (f := f) (k := k) hj]; exact upd_self
            rw [this, wsF_N hbit]; exact h
      · refine g_179_121 (br_f (by decide) ?_)
        rw [nI_S]
        exact hgo
    · rintro ⟨F, f⟩ ⟨hr, hw⟩
      refine ⟨(F, utN f 10), fun d => ?_, g_179_112 (br_f (by decide) (fin F f hr))⟩
      show (utN f 10).testBit d = true ↔ _
      rw [utN_bit]
      constructor
      · rintro ⟨h1, h2⟩
        exact ⟨h1, (eQ_eP hdy).mp ((hw.done eQ_rng h1).mp h2)⟩
      · rintro ⟨h1, h2⟩
        exact ⟨h1, (hw.done eQ_rng h1).mpr ((eQ_eP hdy).mpr h2)⟩
  -- along the inches
  have lines := loopX (α := Int32 × (Nat → Nat) × (Nat → Int32)) (β := (Nat → Int32) × Nat) 144
    (fun j x => MoI dy sk K j x.1 x.2.1 x.2.2)
    (fun j x r => Go 179 26 [.ref 11, .int (nI K), .int x.1, .int (nI j), .null] [] (setR τ 86 x.2.2) [.int (nI r.2)] (setR τ 86 r.1))
    (fun r => unQ (eP dy sk K) r.2) ?_ ?_ 0 (-6, (fun _ => 0), filR 0 10 (τ.1 86)) (by omega) ?_
  · obtain ⟨r, h1, h2⟩ := lines
    refine ⟨r.1, r.2, h1, g_179_0 ?_⟩
    have zero := loopN 10 (fun j => Go 179 2 [.ref 11, .int (nI K), .int (nI j), .null, .null] [] (setR τ 86 (filR 0 j (τ.1 86))) [.int (nI r.2)] (setR τ 86 r.1)) ?_ ?_ 0 (by omega)
    · rw [filR_0, setR_self] at zero
      exact zero
    · intro j hj h
      refine g_179_2 (br_t ((nI_ltL (n := 10) rfl (by omega) (by decide)).mpr hj) ⟨vp_in_nI hj (by decide), ?_⟩)
      rw [clN (by omega), wr_setR, filR_S, nI_S]
      exact h
    · exact g_179_2 (br_f (by decide) h2)
  · rintro j ⟨bv, f, F⟩ hj hI
    have ej : (nI j).toNatClampNeg = j := clN (by omega)
    have lt : nI j < 144 := (nI_ltL (n := 144) rfl (by omega) (by decide)).mpr hj
    have vj : vp_in (nI j) 144 := vp_in_nI hj (by decide)
    have hr := rkc_le (f := orf dy sk) j
    have z6 : ((-6 : Int32) < 0) := by decide
    rcases kp_cases (dy := dy) (sk := sk) hK hj with ⟨hk, ho, hcs⟩ | ⟨hk, hcs⟩
    · obtain ⟨e, he, ee⟩ := day_of hdy hj ho
      have e74 : (setR τ 86 F).1 74 (nI j).toNatClampNeg = nI e := by
        rw [ej]
        show τ.1 74 j = nI e
        rcases (hq j hj).1 with ⟨q, _⟩ | ⟨d, hd, h3, h4⟩
        · exact absurd q ho.1
        · rw [h4, ← h3, ee]
      have e87 : (setR τ 86 F).1 87 (nI j).toNatClampNeg = nI (rkc (orf dy sk) j) := by rw [ej]; exact (hu j hj).1 ho
      have n0 : ¬ nI (rkc (orf dy sk) j) < 0 := Int32.not_lt.mpr (nI0 (by omega))
      by_cases hm : j % 24 = 0
      · refine ⟨(nI e, f, F), hI.new hk he ee (by rw [if_pos hm]; exact z6), fun r hgo => g_179_26 (br_t lt (br_t (by rw [mod24 hj, hm]; rfl) ?_))⟩
        rw [e74, e87, nI_S]
        rcases hcs with q | ⟨q1, q2⟩
        · exact ⟨vj, br_f n0 (br_f q hgo)⟩
        · exact ⟨vj, br_f n0 (br_t q1 (br_t q2 hgo))⟩
      · have hm' : ¬ nI j - nI j / 24 * 24 = 0 := by
          rw [mod24 hj]
          exact fun z => hm ((nI_0iff (by omega)).mp z)
        by_cases hb : bv < 0
        · refine ⟨(nI e, f, F), hI.new hk he ee (by rw [if_neg hm]; exact hb), fun r hgo => g_179_26 (br_t lt (br_f hm' ?_))⟩
          rw [e74, e87, nI_S]
          rcases hcs with q | ⟨q1, q2⟩
          · exact ⟨vj, br_f n0 (br_f q (br_t hb hgo))⟩
          · exact ⟨vj, br_f n0 (br_t q1 (br_t q2 (br_t hb hgo)))⟩
        · obtain ⟨d0, hd0, eb⟩ : ∃ d0, d0 < 10 ∧ bv = nI d0 := by
            rcases hI.2.2 hm with ⟨q, _⟩ | ⟨l, d, h1, _, _, _, _, _, h7⟩
            · have q : bv = -6 := q
              rw [q] at hb
              exact absurd z6 hb
            · exact ⟨d, h1, h7⟩
          subst eb
          have ed0 : (nI d0).toNatClampNeg = d0 := clN (by omega)
          have f86 : (setR τ 86 F).1 86 (nI d0).toNatClampNeg = nI (f d0) := by rw [ed0]; exact (hI.1 d0 hd0).1
          refine ⟨(nI e, (fun d => if d = d0 then f d0 ||| 2 ^ e else f d), upd F d0 (nI (f d0 ||| 2 ^ e))), hI.old hk he ee hd0 (by rw [if_neg hm]), fun r hgo => g_179_26 (br_t lt (br_f hm' ?_))⟩
          rw [e74, e87, f86, nI_S, nI_shl1 e (by omega), nI_or, ed0, wr_setR]
          rcases hcs with q | ⟨q1, q2⟩
          · exact ⟨vj, br_f n0 (br_f q (br_f hb ⟨vp_in_nI hd0 (by decide), hgo⟩))⟩
          · exact ⟨vj, br_f n0 (br_t q1 (br_t q2 (br_f hb ⟨vp_in_nI hd0 (by decide), hgo⟩)))⟩
    · refine ⟨(if j % 24 = 0 then -6 else bv, f, F), hI.not hk, fun r hgo => g_179_26 (br_t lt ?_)⟩
      have hgo : Go 179 26 [.ref 11, .int (nI K), .int (if j % 24 = 0 then -6 else bv), .int (nI (j + 1)), .null] [] (setR τ 86 F) [.int (nI r.2)] (setR τ 86 r.1) := hgo
      by_cases hm : j % 24 = 0
      · rw [if_pos hm] at hgo
        refine br_t (by rw [mod24 hj, hm]; rfl) ⟨vj, ?_⟩
        rw [nI_S]
        rcases hcs with q | ⟨q, q1, q2⟩
        · exact br_t (by rw [ej]; show τ.1 87 j < 0; rw [(hu j hj).2 q]; decide) hgo
        · have e87 : (setR τ 86 F).1 87 (nI j).toNatClampNeg = nI (rkc (orf dy sk) j) := by rw [ej]; exact (hu j hj).1 q
          rw [e87]
          exact br_f (Int32.not_lt.mpr (nI0 (by omega))) (br_t q1 (br_f q2 hgo))
      · have hm' : ¬ nI j - nI j / 24 * 24 = 0 := by
          rw [mod24 hj]
          exact fun z => hm ((nI_0iff (by omega)).mp z)
        rw [if_neg hm] at hgo
        refine br_f hm' ⟨vj, ?_⟩
        rw [nI_S]
        rcases hcs with q | ⟨q, q1, q2⟩
        · exact br_t (by rw [ej]; show τ.1 87 j < 0; rw [(hu j hj).2 q]; decide) hgo
        · have e87 : (setR τ 86 F).1 87 (nI j).toNatClampNeg = nI (rkc (orf dy sk) j) := by rw [ej]; exact (hu j hj).1 q
          rw [e87]
          exact br_f (Int32.not_lt.mpr (nI0 (by omega))) (br_t q1 (br_f q2 hgo))
  · rintro ⟨bv, f, F⟩ hI
    have hz : ∀ d e, d < 10 → ((f d).testBit e = true ↔ eQ dy sk K d e) := by
      intro d e hd
      refine (hI.2.1 d hd e).trans ?_
      constructor
      · rintro ⟨h1, l, k, h2, h3, h4, h5, h6, h7, h8⟩
        exact ⟨hd, h1, l, k, h2, h3, h4, h5, h6, h8⟩
      · rintro ⟨_, h1, l, k, h2, h3, h4, h5, h6, h8⟩
        exact ⟨h1, l, k, h2, h3, h4, h5, h6, h5.1, h8⟩
    obtain ⟨r, h1, h2⟩ := mid F f hI.1 (WsI.zero (fun d hd => (hI.1 d hd).2) hz eQ_rng)
    exact ⟨r, h1, g_179_26 (br_f (by decide) h2)⟩
  · refine ⟨fun e he => ⟨if_pos he, Nat.zero_lt_succ _⟩, fun d hd e => ?_, fun q => absurd rfl q⟩
    show (0 : Nat).testBit e = true ↔ _
    rw [Nat.zero_testBit]
    constructor
    · intro z; exact absurd z (by decide)
    · rintro ⟨_, _, _, _, _, _, _, _, z, _⟩; omega
