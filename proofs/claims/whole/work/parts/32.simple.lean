/-! RelP: pieces; RelU: the rule -/
def rmatch (r23 r24 r25 r26 r54 r55 r56 r57 r58 : Nat → Int32) (p j : Nat) : Prop :=
  r23 j = 3 * r54 p + r56 p ∧ r24 j = 3 * r55 p + r56 p ∧ r25 j = r57 p - 2 * r58 p ∧ r26 j = r57 p + 2 * r58 p
def RelP (rn tk pc : Int32) (r23 r24 r25 r26 r52 r53 r54 r55 r56 r57 r58 : Nat → Int32) : Prop := ∃ n k : Nat, n ≤ 30 ∧ k ≤ n ∧ tk = nI n ∧ pc = nI n ∧ rn = nI k ∧
  (∀ p, p < n → (0 ≤ r54 p ∧ r54 p < 3) ∧ (0 ≤ r56 p ∧ r56 p < 3) ∧ (-99 ≤ r57 p ∧ r57 p ≤ 99) ∧ (0 ≤ r58 p ∧ r58 p ≤ 3) ∧ (r55 p = -6 ∨ (0 ≤ r55 p ∧ r55 p < 3 ∧ r55 p ≠ r54 p))) ∧
  (∀ p, p < n → 0 ≤ r55 p → ∃ j, j < k ∧ rmatch r23 r24 r25 r26 r54 r55 r56 r57 r58 p j) ∧
  (∀ j, j < k → ∃ p, p < n ∧ 0 ≤ r55 p ∧ rmatch r23 r24 r25 r26 r54 r55 r56 r57 r58 p j) ∧
  (∀ p, p < n → ¬ 0 ≤ r55 p → r57 p - r58 p ≤ r52 (3 * r54 p + r56 p).toNatClampNeg ∧ r53 (3 * r54 p + r56 p).toNatClampNeg ≤ r57 p + r58 p) ∧
  (∀ p, p < n → 0 ≤ r55 p → r52 (3 * r55 p + r56 p).toNatClampNeg + r57 p - 2 * r58 p ≤ r52 (3 * r54 p + r56 p).toNatClampNeg ∧ r53 (3 * r54 p + r56 p).toNatClampNeg ≤ r53 (3 * r55 p + r56 p).toNatClampNeg + r57 p + 2 * r58 p ∧
    r52 (3 * r54 p + r56 p).toNatClampNeg - r57 p - 2 * r58 p ≤ r52 (3 * r55 p + r56 p).toNatClampNeg ∧ r53 (3 * r55 p + r56 p).toNatClampNeg ≤ r53 (3 * r54 p + r56 p).toNatClampNeg - r57 p + 2 * r58 p)
def isFactS (x : Int32) : Prop := x = 103 ∨ x = 97 ∨ x = 98 ∨ x = 99 ∨ x = 121
def isCmpS (x : Int32) : Prop := x = 60 ∨ x = 62 ∨ x = 61
def isDigS (x : Int32) : Prop := 48 ≤ x ∧ x ≤ 57
/-- the number that d signs from p on spell -/
def digV (f : Nat → Int32) (p : Nat) : Nat → Int32
  | 0 => 0
  | d + 1 => digV f p d * 10 + (f (p + d) - 48)
/-- the text of length w spells n tests: test t begins at ps t, has dl t digits -/
def Spells (f : Nat → Int32) (w n : Nat) (ps dl : Nat → Nat) : Prop := ps 0 = 0 ∧ (∀ t, t < n → isFactS (f (ps t)) ∧ isCmpS (f (ps t + 1)) ∧ 1 ≤ dl t ∧ dl t ≤ 3 ∧ (∀ d, d < dl t → isDigS (f (ps t + 2 + d))) ∧
  (t + 1 < n → (f (ps t + 2 + dl t) = 38 ∨ f (ps t + 2 + dl t) = 124) ∧ ps (t + 1) = ps t + 3 + dl t) ∧ (t + 1 = n → ps t + 2 + dl t = w))
/-- how many bars the first w signs have -/
def cb (f : Nat → Int32) : Nat → Nat
  | 0 => 0
  | i + 1 => cb f i + (if f i = 124 then 1 else 0)
def RelU (ts bs aa rw : Int32) (r39 r40 r41 r42 r63 : Nat → Int32) : Prop := ∃ (w n : Nat) (ps dl : Nat → Nat), w ≤ 50 ∧ rw = nI w ∧ ts = nI n ∧ (n = 0 ↔ w = 0) ∧ n ≤ 50 ∧ Spells r63 w n ps dl ∧
  (∀ t, t < n → r39 t = r63 (ps t) ∧ r40 t = r63 (ps t + 1) ∧ r41 t = digV r63 (ps t + 2) (dl t)) ∧
  (0 < n → r42 0 = 0) ∧ (∀ t, t + 1 < n → r42 (t + 1) = if r63 (ps t + 2 + dl t) = 124 then r42 t + 1 else r42 t) ∧
  (n = 0 → bs = 0) ∧ (∀ t, t + 1 = n → bs = r42 t + 1) ∧ (∀ t, t < n → ∃ b : Nat, b ≤ t ∧ r42 t = nI b) ∧
  (aa = 0 ∨ aa = 1) ∧ (aa = 1 ↔ ∃ t, t < n ∧ r39 t = 121) ∧ (aa = 1 ↔ ∃ k, k < w ∧ r63 k = 121) ∧ bs = nI ((if w = 0 then 0 else 1) + cb r63 w)
def Rel (σ : St) : Prop := RelS (σ.1 6 1) (σ.1 11 13) (σ.1 38) (σ.1 62) ∧ RelG (σ.1 4 7) (σ.1 11 9) (σ.1 27) (σ.1 28) (σ.1 29) (σ.1 59) (σ.1 60) (σ.1 61) ∧
  RelH (σ.1 4 7) (σ.1 27) (σ.1 28) (σ.1 29) (σ.1 30) (σ.1 31) (σ.1 32) (σ.1 33) (σ.1 19) (σ.1 20) (σ.1 4 9) (σ.1 3 10) ∧ RelL (σ.1 3 10) (σ.1 11 0) (σ.1 19) (σ.1 20) (σ.1 52) (σ.1 53) ∧
  RelP (σ.1 3 8) (σ.1 3 9) (σ.1 11 3) (σ.1 23) (σ.1 24) (σ.1 25) (σ.1 26) (σ.1 52) (σ.1 53) (σ.1 54) (σ.1 55) (σ.1 56) (σ.1 57) (σ.1 58) ∧
  RelM (σ.1 5 5) (σ.1 34) (σ.1 35) (σ.1 36) (σ.1 37) (σ.1 64) (σ.1 65) (σ.1 66) (σ.1 67) (σ.1 68) (σ.1 69) ∧ RelA (σ.1 12) (σ.1 13) (σ.1 70) (σ.1 71) (σ.1 72) (σ.1 73) ∧
  RelT (σ.1 47) (σ.1 48) (σ.1 49) (σ.1 74) (σ.1 75) (σ.1 76) (σ.1 30) ∧ RelD (σ.1 16) (σ.1 17) (σ.1 77) (σ.1 78) (σ.1 65) ∧ RelF (σ.1 43) (σ.1 44) (σ.1 79) (σ.1 80) ∧
  RelU (σ.1 6 6) (σ.1 6 7) (σ.1 6 8) (σ.1 11 15) (σ.1 39) (σ.1 40) (σ.1 41) (σ.1 42) (σ.1 63)
/-- the two calls of one row of a run -/
def PairI (x m : Nat) (as : List Value) (σ : St) : Prop := ∃ (r : Int32) (σ1 σ2 : St), Ret x (.ref 10 :: as) σ [.int r] σ1 ∧ Ret m (.ref 11 :: as) σ1 [.int r] σ2 ∧ Rel σ2
def PairJ (x m : Nat) (as : List Value) (σ : St) : Prop := ∃ (r : Int64) (σ1 σ2 : St), Ret x (.ref 10 :: as) σ [.long r] σ1 ∧ Ret m (.ref 11 :: as) σ1 [.long r] σ2 ∧ Rel σ2
/-! look -/
theorem s_52a {σ : St} {a c : Int32} (h : 0 ≤ a ∧ a < 6) : Ret 52 [.ref 7, .int a, .int 10, .int c] σ [.int (σ.1 44 a.toNatClampNeg)] (wr σ 44 a.toNatClampNeg c) := (g_52_0 (br_t (by (try simp only [bI_0, vp_6, vp_9, vp_10, vp_12, vp_18, vp_30, vp_31, vp_50, vp_60, vp_144, vp_154, vp_180, vp_432, vp_3600]) <;> grind) ⟨(by (try simp only [bI_0, vp_6, vp_9, vp_10, vp_12, vp_18, vp_30, vp_31, vp_50, vp_60, vp_144, vp_154, vp_180, vp_432, vp_3600]) <;> grind), ⟨rfl, rfl⟩⟩))
theorem s_52b {σ : St} {a b c : Int32} (h : 0 ≤ a ∧ a < 6) (h2 : 0 ≤ b ∧ b < 10) : Ret 52 [.ref 7, .int a, .int b, .int c] σ [.int (σ.1 43 (a * 10 + b).toNatClampNeg)] (wr σ 43 (a * 10 + b).toNatClampNeg c) := (g_52_0 (br_f (by (try simp only [bI_0, vp_6, vp_9, vp_10, vp_12, vp_18, vp_30, vp_31, vp_50, vp_60, vp_144, vp_154, vp_180, vp_432, vp_3600]) <;> grind) ⟨(by (try simp only [bI_0, vp_6, vp_9, vp_10, vp_12, vp_18, vp_30, vp_31, vp_50, vp_60, vp_144, vp_154, vp_180, vp_432, vp_3600]) <;> grind), ⟨rfl, rfl⟩⟩))
theorem p_look {σ : St} {a b c : Int32} (hR : Rel σ) : PairI 110 203 [.int a, .int b, .int c] σ := by
  obtain ⟨hS, hG, hH, hL, hP, hM, hA, hT, hD, hF, hU⟩ := id hR
  rcases (Classical.em (0 ≤ a ∧ a < 6)).symm with h1 | h1
  · exact ⟨-1, σ, σ, by (refine g_110_0 ⟨_, _, s_114, ⟨fun q1 => ?_, fun q1 => ?_⟩⟩ <;> first | exact ⟨rfl, rfl⟩ | (exfalso; (try simp only [bI_0, vp_6, vp_9, vp_10, vp_12, vp_18, vp_30, vp_31, vp_50, vp_60, vp_144, vp_154, vp_180, vp_432, vp_3600] at *) <;> grind) | ((try simp only [bI_0, vp_6, vp_9, vp_10, vp_12, vp_18, vp_30, vp_31, vp_50, vp_60, vp_144, vp_154, vp_180, vp_432, vp_3600] at *) <;> grind)), by (refine g_203_0 ⟨_, _, s_123, ⟨fun q1 => ?_, fun q1 => ?_⟩⟩ <;> first | exact ⟨rfl, rfl⟩ | (exfalso; (try simp only [bI_0, vp_6, vp_9, vp_10, vp_12, vp_18, vp_30, vp_31, vp_50, vp_60, vp_144, vp_154, vp_180, vp_432, vp_3600] at *) <;> grind) | ((try simp only [bI_0, vp_6, vp_9, vp_10, vp_12, vp_18, vp_30, vp_31, vp_50, vp_60, vp_144, vp_154, vp_180, vp_432, vp_3600] at *) <;> grind)), hR⟩
  rcases (Classical.em (0 ≤ b ∧ b ≤ 10)).symm with h2 | h2
  · exact ⟨-2, σ, σ, by (refine g_110_0 ⟨_, _, s_114, ⟨fun q1 => ?_, fun q1 => ⟨fun q2 => ?_, fun q2 => ⟨fun q3 => ⟨fun q4 => ?_, fun q4 => ⟨fun q5 => ⟨fun q6 => ?_, fun q6 => ?_⟩, fun q5 => ⟨fun q7 => ?_, fun q7 => ?_⟩⟩⟩, fun q3 => ?_⟩⟩⟩⟩ <;> first | exact ⟨rfl, rfl⟩ | (exfalso; (try simp only [bI_0, vp_6, vp_9, vp_10, vp_12, vp_18, vp_30, vp_31, vp_50, vp_60, vp_144, vp_154, vp_180, vp_432, vp_3600] at *) <;> grind) | ((try simp only [bI_0, vp_6, vp_9, vp_10, vp_12, vp_18, vp_30, vp_31, vp_50, vp_60, vp_144, vp_154, vp_180, vp_432, vp_3600] at *) <;> grind)), by (refine g_203_0 ⟨_, _, s_123, ⟨fun q1 => ?_, fun q1 => ⟨_, _, s_120, ⟨fun q2 => ?_, fun q2 => ⟨fun q3 => ⟨_, _, s_120, ⟨fun q4 => ?_, fun q4 => ?_⟩⟩, fun q3 => ⟨_, _, s_120, ⟨fun q5 => ?_, fun q5 => ?_⟩⟩⟩⟩⟩⟩⟩ <;> first | exact ⟨rfl, rfl⟩ | (exfalso; (try simp only [bI_0, vp_6, vp_9, vp_10, vp_12, vp_18, vp_30, vp_31, vp_50, vp_60, vp_144, vp_154, vp_180, vp_432, vp_3600] at *) <;> grind) | ((try simp only [bI_0, vp_6, vp_9, vp_10, vp_12, vp_18, vp_30, vp_31, vp_50, vp_60, vp_144, vp_154, vp_180, vp_432, vp_3600] at *) <;> grind)), hR⟩
  by_cases h3 : b = 10
  · rcases (Classical.em (0 ≤ c ∧ c ≤ 99)).symm with h4 | h4
    · exact ⟨-2, σ, σ, by (refine g_110_0 ⟨_, _, s_114, ⟨fun q1 => ?_, fun q1 => ⟨fun q2 => ?_, fun q2 => ⟨fun q3 => ⟨fun q4 => ?_, fun q4 => ⟨fun q5 => ⟨fun q6 => ?_, fun q6 => ?_⟩, fun q5 => ⟨fun q7 => ?_, fun q7 => ?_⟩⟩⟩, fun q3 => ?_⟩⟩⟩⟩ <;> first | exact ⟨rfl, rfl⟩ | (exfalso; (try simp only [bI_0, vp_6, vp_9, vp_10, vp_12, vp_18, vp_30, vp_31, vp_50, vp_60, vp_144, vp_154, vp_180, vp_432, vp_3600] at *) <;> grind) | ((try simp only [bI_0, vp_6, vp_9, vp_10, vp_12, vp_18, vp_30, vp_31, vp_50, vp_60, vp_144, vp_154, vp_180, vp_432, vp_3600] at *) <;> grind)), by (refine g_203_0 ⟨_, _, s_123, ⟨fun q1 => ?_, fun q1 => ⟨_, _, s_120, ⟨fun q2 => ?_, fun q2 => ⟨fun q3 => ⟨_, _, s_120, ⟨fun q4 => ?_, fun q4 => ?_⟩⟩, fun q3 => ⟨_, _, s_120, ⟨fun q5 => ?_, fun q5 => ?_⟩⟩⟩⟩⟩⟩⟩ <;> first | exact ⟨rfl, rfl⟩ | (exfalso; (try simp only [bI_0, vp_6, vp_9, vp_10, vp_12, vp_18, vp_30, vp_31, vp_50, vp_60, vp_144, vp_154, vp_180, vp_432, vp_3600] at *) <;> grind) | ((try simp only [bI_0, vp_6, vp_9, vp_10, vp_12, vp_18, vp_30, vp_31, vp_50, vp_60, vp_144, vp_154, vp_180, vp_432, vp_3600] at *) <;> grind)), hR⟩
    subst h3
    obtain ⟨k, hk, rfl⟩ := inR (n := 6) rfl (by decide) h1.1 h1.2
    have e1 : (nI k).toNatClampNeg = k := clN (by omega)
    refine ⟨_, _, _, (g_110_0 ⟨_, _, s_114, (br_f (by (try simp only [bI_0, vp_6, vp_9, vp_10, vp_12, vp_18, vp_30, vp_31, vp_50, vp_60, vp_144, vp_154, vp_180, vp_432, vp_3600]) <;> grind) (br_f (by (try simp only [bI_0, vp_6, vp_9, vp_10, vp_12, vp_18, vp_30, vp_31, vp_50, vp_60, vp_144, vp_154, vp_180, vp_432, vp_3600]) <;> grind) (br_t (by (try simp only [bI_0, vp_6, vp_9, vp_10, vp_12, vp_18, vp_30, vp_31, vp_50, vp_60, vp_144, vp_154, vp_180, vp_432, vp_3600]) <;> grind) (br_f (by (try simp only [bI_0, vp_6, vp_9, vp_10, vp_12, vp_18, vp_30, vp_31, vp_50, vp_60, vp_144, vp_154, vp_180, vp_432, vp_3600]) <;> grind) (br_t (by (try simp only [bI_0, vp_6, vp_9, vp_10, vp_12, vp_18, vp_30, vp_31, vp_50, vp_60, vp_144, vp_154, vp_180, vp_432, vp_3600]) <;> grind) (br_t (by (try simp only [bI_0, vp_6, vp_9, vp_10, vp_12, vp_18, vp_30, vp_31, vp_50, vp_60, vp_144, vp_154, vp_180, vp_432, vp_3600]) <;> grind) ⟨_, _, s_52a h1, ⟨rfl, rfl⟩⟩))))))⟩), (g_203_0 ⟨_, _, s_123, (br_f (by (try simp only [bI_0, vp_6, vp_9, vp_10, vp_12, vp_18, vp_30, vp_31, vp_50, vp_60, vp_144, vp_154, vp_180, vp_432, vp_3600]) <;> grind) ⟨_, _, s_120, (br_f (by (try simp only [bI_0, vp_6, vp_9, vp_10, vp_12, vp_18, vp_30, vp_31, vp_50, vp_60, vp_144, vp_154, vp_180, vp_432, vp_3600]) <;> grind) (br_t (by (try simp only [bI_0, vp_6, vp_9, vp_10, vp_12, vp_18, vp_30, vp_31, vp_50, vp_60, vp_144, vp_154, vp_180, vp_432, vp_3600]) <;> grind) ⟨_, _, s_120, (br_f (by (try simp only [bI_0, vp_6, vp_9, vp_10, vp_12, vp_18, vp_30, vp_31, vp_50, vp_60, vp_144, vp_154, vp_180, vp_432, vp_3600]) <;> grind) ⟨(by (try simp only [bI_0, vp_6, vp_9, vp_10, vp_12, vp_18, vp_30, vp_31, vp_50, vp_60, vp_144, vp_154, vp_180, vp_432, vp_3600]) <;> grind), ⟨?_, rfl⟩⟩)⟩))⟩)⟩), hS, hG, hH, hL, hP, hM, hA, hT, hD, ?_, hU⟩
    · show _ = [Value.int (σ.1 80 (nI k).toNatClampNeg)]
      rw [e1, (hF.2 k hk).1]
    · refine ⟨hF.1, fun j hj => ?_⟩
      show upd (σ.1 44) _ c j = upd (σ.1 80) _ c j ∧ 0 ≤ upd (σ.1 44) _ c j ∧ upd (σ.1 44) _ c j ≤ 99
      have := hF.2 j hj
      unfold upd
      split <;> grind
  · rcases (Classical.em (0 ≤ c ∧ c ≤ 10)).symm with h4 | h4
    · exact ⟨-2, σ, σ, by (refine g_110_0 ⟨_, _, s_114, ⟨fun q1 => ?_, fun q1 => ⟨fun q2 => ?_, fun q2 => ⟨fun q3 => ⟨fun q4 => ?_, fun q4 => ⟨fun q5 => ⟨fun q6 => ?_, fun q6 => ?_⟩, fun q5 => ⟨fun q7 => ?_, fun q7 => ?_⟩⟩⟩, fun q3 => ?_⟩⟩⟩⟩ <;> first | exact ⟨rfl, rfl⟩ | (exfalso; (try simp only [bI_0, vp_6, vp_9, vp_10, vp_12, vp_18, vp_30, vp_31, vp_50, vp_60, vp_144, vp_154, vp_180, vp_432, vp_3600] at *) <;> grind) | ((try simp only [bI_0, vp_6, vp_9, vp_10, vp_12, vp_18, vp_30, vp_31, vp_50, vp_60, vp_144, vp_154, vp_180, vp_432, vp_3600] at *) <;> grind)), by (refine g_203_0 ⟨_, _, s_123, ⟨fun q1 => ?_, fun q1 => ⟨_, _, s_120, ⟨fun q2 => ?_, fun q2 => ⟨fun q3 => ⟨_, _, s_120, ⟨fun q4 => ?_, fun q4 => ?_⟩⟩, fun q3 => ⟨_, _, s_120, ⟨fun q5 => ?_, fun q5 => ?_⟩⟩⟩⟩⟩⟩⟩ <;> first | exact ⟨rfl, rfl⟩ | (exfalso; (try simp only [bI_0, vp_6, vp_9, vp_10, vp_12, vp_18, vp_30, vp_31, vp_50, vp_60, vp_144, vp_154, vp_180, vp_432, vp_3600] at *) <;> grind) | ((try simp only [bI_0, vp_6, vp_9, vp_10, vp_12, vp_18, vp_30, vp_31, vp_50, vp_60, vp_144, vp_154, vp_180, vp_432, vp_3600] at *) <;> grind)), hR⟩
    obtain ⟨k, hk, e⟩ := inR (x := a * 10 + b) (m := 60) (n := 60) rfl (by decide) (by grind) (by grind)
    have e1 : (a * 10 + b).toNatClampNeg = k := by rw [e]; exact clN (by omega)
    have e2 : (10 * a + b).toNatClampNeg = k := by rw [show 10 * a + b = a * 10 + b by grind]; exact e1
    refine ⟨_, _, _, (g_110_0 ⟨_, _, s_114, (br_f (by (try simp only [bI_0, vp_6, vp_9, vp_10, vp_12, vp_18, vp_30, vp_31, vp_50, vp_60, vp_144, vp_154, vp_180, vp_432, vp_3600]) <;> grind) (br_f (by (try simp only [bI_0, vp_6, vp_9, vp_10, vp_12, vp_18, vp_30, vp_31, vp_50, vp_60, vp_144, vp_154, vp_180, vp_432, vp_3600]) <;> grind) (br_t (by (try simp only [bI_0, vp_6, vp_9, vp_10, vp_12, vp_18, vp_30, vp_31, vp_50, vp_60, vp_144, vp_154, vp_180, vp_432, vp_3600]) <;> grind) (br_f (by (try simp only [bI_0, vp_6, vp_9, vp_10, vp_12, vp_18, vp_30, vp_31, vp_50, vp_60, vp_144, vp_154, vp_180, vp_432, vp_3600]) <;> grind) (br_f (by (try simp only [bI_0, vp_6, vp_9, vp_10, vp_12, vp_18, vp_30, vp_31, vp_50, vp_60, vp_144, vp_154, vp_180, vp_432, vp_3600]) <;> grind) (br_t (by (try simp only [bI_0, vp_6, vp_9, vp_10, vp_12, vp_18, vp_30, vp_31, vp_50, vp_60, vp_144, vp_154, vp_180, vp_432, vp_3600]) <;> grind) ⟨_, _, s_52b h1 (by grind), ⟨rfl, rfl⟩⟩))))))⟩), (g_203_0 ⟨_, _, s_123, (br_f (by (try simp only [bI_0, vp_6, vp_9, vp_10, vp_12, vp_18, vp_30, vp_31, vp_50, vp_60, vp_144, vp_154, vp_180, vp_432, vp_3600]) <;> grind) ⟨_, _, s_120, (br_f (by (try simp only [bI_0, vp_6, vp_9, vp_10, vp_12, vp_18, vp_30, vp_31, vp_50, vp_60, vp_144, vp_154, vp_180, vp_432, vp_3600]) <;> grind) (br_f (by (try simp only [bI_0, vp_6, vp_9, vp_10, vp_12, vp_18, vp_30, vp_31, vp_50, vp_60, vp_144, vp_154, vp_180, vp_432, vp_3600]) <;> grind) ⟨_, _, s_120, (br_f (by (try simp only [bI_0, vp_6, vp_9, vp_10, vp_12, vp_18, vp_30, vp_31, vp_50, vp_60, vp_144, vp_154, vp_180, vp_432, vp_3600]) <;> grind) ⟨(by (try simp only [bI_0, vp_6, vp_9, vp_10, vp_12, vp_18, vp_30, vp_31, vp_50, vp_60, vp_144, vp_154, vp_180, vp_432, vp_3600]) <;> grind), ⟨?_, rfl⟩⟩)⟩))⟩)⟩), hS, hG, hH, hL, hP, hM, hA, hT, hD, ?_, hU⟩
    · show _ = [Value.int (σ.1 79 (10 * a + b).toNatClampNeg)]
      rw [e1, e2, (hF.1 k hk).1]
    · refine ⟨fun j hj => ?_, hF.2⟩
      show upd (σ.1 43) _ c j = upd (σ.1 79) _ c j ∧ 0 ≤ upd (σ.1 43) _ c j ∧ upd (σ.1 43) _ c j ≤ 10
      have := hF.1 j hj
      rw [e1, e2]
      unfold upd
      split <;> grind
