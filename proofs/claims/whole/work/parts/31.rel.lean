/-! WHAT TIES the class's cells to the model's -/
theorem vp_6 {x : Int32} : vp_in x 6 ↔ 0 ≤ x ∧ x < 6 := by rw [vp_in_iff, Int32.le_iff_toInt_le, Int32.lt_iff_toInt_lt]; rfl
theorem vp_9 {x : Int32} : vp_in x 9 ↔ 0 ≤ x ∧ x < 9 := by rw [vp_in_iff, Int32.le_iff_toInt_le, Int32.lt_iff_toInt_lt]; rfl
theorem vp_10 {x : Int32} : vp_in x 10 ↔ 0 ≤ x ∧ x < 10 := by rw [vp_in_iff, Int32.le_iff_toInt_le, Int32.lt_iff_toInt_lt]; rfl
theorem vp_12 {x : Int32} : vp_in x 12 ↔ 0 ≤ x ∧ x < 12 := by rw [vp_in_iff, Int32.le_iff_toInt_le, Int32.lt_iff_toInt_lt]; rfl
theorem vp_18 {x : Int32} : vp_in x 18 ↔ 0 ≤ x ∧ x < 18 := by rw [vp_in_iff, Int32.le_iff_toInt_le, Int32.lt_iff_toInt_lt]; rfl
theorem vp_30 {x : Int32} : vp_in x 30 ↔ 0 ≤ x ∧ x < 30 := by rw [vp_in_iff, Int32.le_iff_toInt_le, Int32.lt_iff_toInt_lt]; rfl
theorem vp_31 {x : Int32} : vp_in x 31 ↔ 0 ≤ x ∧ x < 31 := by rw [vp_in_iff, Int32.le_iff_toInt_le, Int32.lt_iff_toInt_lt]; rfl
theorem vp_50 {x : Int32} : vp_in x 50 ↔ 0 ≤ x ∧ x < 50 := by rw [vp_in_iff, Int32.le_iff_toInt_le, Int32.lt_iff_toInt_lt]; rfl
theorem vp_60 {x : Int32} : vp_in x 60 ↔ 0 ≤ x ∧ x < 60 := by rw [vp_in_iff, Int32.le_iff_toInt_le, Int32.lt_iff_toInt_lt]; rfl
theorem vp_144 {x : Int32} : vp_in x 144 ↔ 0 ≤ x ∧ x < 144 := by rw [vp_in_iff, Int32.le_iff_toInt_le, Int32.lt_iff_toInt_lt]; rfl
theorem vp_154 {x : Int32} : vp_in x 154 ↔ 0 ≤ x ∧ x < 154 := by rw [vp_in_iff, Int32.le_iff_toInt_le, Int32.lt_iff_toInt_lt]; rfl
theorem vp_180 {x : Int32} : vp_in x 180 ↔ 0 ≤ x ∧ x < 180 := by rw [vp_in_iff, Int32.le_iff_toInt_le, Int32.lt_iff_toInt_lt]; rfl
theorem vp_432 {x : Int32} : vp_in x 432 ↔ 0 ≤ x ∧ x < 432 := by rw [vp_in_iff, Int32.le_iff_toInt_le, Int32.lt_iff_toInt_lt]; rfl
theorem vp_3600 {x : Int32} : vp_in x 3600 ↔ 0 ≤ x ∧ x < 3600 := by rw [vp_in_iff, Int32.le_iff_toInt_le, Int32.lt_iff_toInt_lt]; rfl
/-- a number as a Nat: what is told of ints in a range -/
theorem asN {x : Int32} (h : 0 ≤ x) : ∃ k : Nat, k < 2 ^ 31 ∧ x = nI k := nI_of (Int32.not_lt.mpr h)
theorem nI_ltL {k n : Nat} {m : Int32} (hm : m = nI n) (hk : k < 2 ^ 31) (hn : n < 2 ^ 31) : nI k < m ↔ k < n := by rw [hm]; exact nI_ltI hk hn
theorem nI_leL {k n : Nat} {m : Int32} (hm : m = nI n) (hk : k < 2 ^ 31) (hn : n < 2 ^ 31) : nI k ≤ m ↔ k ≤ n := by rw [hm]; exact nI_leI hk hn
theorem inR {x m : Int32} {n : Nat} (hm : m = nI n) (hn : n < 2 ^ 31) (h0 : 0 ≤ x) (h1 : x < m) : ∃ k, k < n ∧ x = nI k := nI_of_lt hn h0 (by rw [← hm]; exact h1)
theorem clN {k : Nat} (h : k < 2 ^ 31) : (nI k).toNatClampNeg = k := nI_clamp h
theorem nI0 {k : Nat} (h : k < 2 ^ 31) : 0 ≤ nI k := nI_pos' h
def tLo (rd hs mx : Nat → Int32) (gv : Int32) (g s : Nat) : Int32 := rd (3 * g + s) - mx (3 * (hs g).toNatClampNeg + s) - gv
def tHi (rd hs mn : Nat → Int32) (gv : Int32) (g s : Nat) : Int32 := rd (3 * g + s) - mn (3 * (hs g).toNatClampNeg + s) + gv
/-- the least and the greatest of a line, by the first n grains -/
def gLo (ln : Nat → Int32) (t : Nat → Int32) (l : Int32) : Nat → Int32
  | 0 => 1000000
  | g + 1 => if ln g = l then (if t g < gLo ln t l g then t g else gLo ln t l g) else gLo ln t l g
def gHi (ln : Nat → Int32) (t : Nat → Int32) (l : Int32) : Nat → Int32
  | 0 => -1000000
  | g + 1 => if ln g = l then (if gHi ln t l g < t g then t g else gHi ln t l g) else gHi ln t l g
def gCt (ln : Nat → Int32) (l : Int32) : Nat → Nat
  | 0 => 0
  | g + 1 => gCt ln l g + (if ln g = l then 1 else 0)
/-- signs -/
def RelS (c1 c2 : Int32) (r38 r62 : Nat → Int32) : Prop := ∃ n : Nat, n ≤ 50 ∧ c1 = nI n ∧ c2 = nI n ∧ ∀ k, k < n → r38 k = r62 k
/-- grains -/
def RelG (c1 c2 : Int32) (r27 r28 r29 r59 r60 r61 : Nat → Int32) : Prop := ∃ n : Nat, n ≤ 60 ∧ c1 = nI n ∧ c2 = nI n ∧
  (∀ g, g < n → r27 g = r59 g ∧ ∃ l, l < 144 ∧ r27 g = nI l) ∧ (∀ g, g < n → r28 g = r60 g ∧ ∃ h, h < 3 ∧ r28 g = nI h) ∧ (∀ j, j < 3 * n → r29 j = r61 j ∧ 0 ≤ r29 j ∧ r29 j ≤ 99)
/-- what the class keeps of its lines -/
def RelH (c1 : Int32) (r27 r28 r29 r30 r31 r32 r33 r19 r20 : Nat → Int32) (lc gv : Int32) : Prop := ∃ n : Nat, n ≤ 60 ∧ c1 = nI n ∧
  (∀ l, l < 144 → r30 l = nI (gCt r27 (nI l) n)) ∧
  (∀ l s, l < 144 → s < 3 → 0 < gCt r27 (nI l) n → r31 (3 * l + s) = gLo r27 (fun g => tLo r29 r28 r20 gv g s) (nI l) n ∧ r32 (3 * l + s) = gHi r27 (fun g => tHi r29 r28 r19 gv g s) (nI l) n) ∧
  (∃ m : Nat, m ≤ n ∧ lc = nI m ∧ (∀ i, i < m → ∃ l, l < 144 ∧ r33 i = nI l ∧ 0 < gCt r27 (nI l) n) ∧ (∀ i j, i < j → j < m → r33 i < r33 j) ∧ ∀ l, l < 144 → 0 < gCt r27 (nI l) n → ∃ i, i < m ∧ r33 i = nI l)
/-- leans -/
def RelL (gv sl : Int32) (r19 r20 r52 r53 : Nat → Int32) : Prop := gv = sl ∧ 0 ≤ gv ∧ gv ≤ 3 ∧ ∀ k, k < 9 → r19 k = r52 k ∧ r20 k = r53 k ∧ -9 ≤ r19 k ∧ r19 k ≤ r20 k ∧ r20 k ≤ 9
/-- mountains and places -/
def RelM (kn : Int32) (r34 r35 r36 r37 r64 r65 r66 r67 r68 r69 : Nat → Int32) : Prop :=
  (∃ K : Nat, K < 64 ∧ kn = nI K ∧ ∀ m, m < 6 → (K.testBit m = true ↔ 0 ≤ r65 m)) ∧
  (∀ m, m < 6 → (0 ≤ r65 m → r35 m = r65 m ∧ r65 m ≤ 5 ∧ ∀ s, s < 3 → r34 (3 * m + s) = r64 (3 * m + s) ∧ 0 ≤ r34 (3 * m + s) ∧ r34 (3 * m + s) ≤ 99)) ∧
  (∀ i, i < 6 → (r36 i = r66 i ∧ r37 i = r67 i ∧ r36 (6 + i) = r68 i ∧ r37 (6 + i) = r69 i) ∧ (0 ≤ r36 i ∧ r36 i ≤ 20 ∧ 0 ≤ r37 i ∧ r37 i ≤ 20) ∧ (0 ≤ r36 (6 + i) ∧ r36 (6 + i) ≤ 20 ∧ 0 ≤ r37 (6 + i) ∧ r37 (6 + i) ≤ 20))
/-- ages that were told -/
def RelA (r12 r13 r70 r71 r72 r73 : Nat → Int32) : Prop :=
  (∀ i, i < 144 → r12 i = r72 i ∧ r13 i = r73 i ∧ 0 ≤ r12 i ∧ r12 i ≤ r13 i ∧ r13 i ≤ 9999) ∧
  (∀ d, d < 10 → r12 (144 + d) = r70 d ∧ r13 (144 + d) = r71 d ∧ 0 ≤ r12 (144 + d) ∧ r12 (144 + d) ≤ r13 (144 + d) ∧ r13 (144 + d) ≤ 9999)
/-- ties, what is sunk, names; only lines have any -/
def RelT (r47 r48 r49 r74 r75 r76 r30 : Nat → Int32) : Prop := ∀ l, l < 144 →
  ((r47 l = -1 ∧ r74 l = -6) ∨ ∃ d : Nat, d < 10 ∧ r47 l = nI d ∧ r74 l = nI d ∧ 0 < r30 l) ∧
  (r48 l = r75 l ∧ (r48 l = 0 ∨ r48 l = 1)) ∧
  ((r49 l = -1 ∧ r76 l = -6) ∨ ∃ d : Nat, d < 8 ∧ r49 l = nI d ∧ r76 l = nI d)
/-- days' mountains, shades -/
def RelD (r16 r17 r77 r78 r65 : Nat → Int32) : Prop :=
  (∀ d, d < 10 → (r16 d = -1 ∧ r77 d = -6) ∨ ∃ m : Nat, m < 6 ∧ r16 d = nI m ∧ r77 d = nI m ∧ 0 ≤ r65 m) ∧
  (∀ j, j < 60 → r17 j = r78 j ∧ 0 ≤ r17 j ∧ r17 j ≤ 99)
/-- finds, costs -/
def RelF (r43 r44 r79 r80 : Nat → Int32) : Prop := (∀ j, j < 60 → r43 j = r79 j ∧ 0 ≤ r43 j ∧ r43 j ≤ 10) ∧ (∀ c, c < 6 → r44 c = r80 c ∧ 0 ≤ r44 c ∧ r44 c ≤ 99)
