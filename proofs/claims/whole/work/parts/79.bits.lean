/-! whole numbers of 64 bits: the wb_ and pf_ rows are pasted out of kit/laws/BITS.to-paste -/
theorem wb_tb (n : Nat) : (lN n).toBitVec = BitVec.ofNat 64 n := rfl
theorem wb_inj {a b : Int64} (h : a.toBitVec = b.toBitVec) : a = b := Int64.toBitVec_inj.mp h
theorem wb_tn {n : Nat} (h : n < 2 ^ 64) : (lN n).toBitVec.toNat = n := by rw [wb_tb, BitVec.toNat_ofNat, Nat.mod_eq_of_lt h]
theorem wb_of (x : Int64) : ∃ n, n < 2 ^ 64 ∧ x = lN n := ⟨x.toBitVec.toNat, x.toBitVec.isLt, wb_inj (by rw [wb_tb]; simp)⟩
theorem wb_of32 (x : Int32) : ∃ n, n < 2 ^ 32 ∧ x = nI n := ⟨x.toBitVec.toNat, x.toBitVec.isLt, Int32.toBitVec_inj.mp (by show _ = BitVec.ofNat 32 _; simp)⟩
theorem wb_c : ∀ k, k < 64 → ((nI k).toInt64 &&& 63) = lN k := by decide +kernel
theorem wb_cu : ∀ k, k < 64 → ((nI k).toInt64.toUInt64 &&& Int64.toUInt64 63) = UInt64.ofNat k := by decide +kernel
theorem wb_sm : ∀ k, k < 64 → (BitVec.ofNat 64 k).smod 64 = BitVec.ofNat 64 k := by decide +kernel
theorem wb_pw {a b : Nat} (h : a ≤ b) : 2 ^ b = 2 ^ a * 2 ^ (b - a) := by rw [← Nat.pow_add]; congr 1; omega
theorem wb_lt2 {a b : Nat} (h : a < b) : 2 ^ a < 2 ^ b := Nat.pow_lt_pow_right (by decide) h
theorem wb_mod (n : Nat) : lN n = lN (n % 2 ^ 64) := wb_inj (by rw [wb_tb, wb_tb]; apply BitVec.eq_of_toNat_eq; rw [BitVec.toNat_ofNat, BitVec.toNat_ofNat, Nat.mod_mod])
theorem wb_shr {n k : Nat} (hn : n < 2 ^ 64) (hk : k < 64) : ((lN n).toUInt64 >>> ((nI k).toInt64.toUInt64 &&& Int64.toUInt64 63)).toInt64 = lN (n / 2 ^ k) := by
  rw [wb_cu k hk]
  apply wb_inj
  apply BitVec.eq_of_toNat_eq
  show ((lN n).toUInt64 >>> UInt64.ofNat k).toNat = (BitVec.ofNat 64 _).toNat
  have h1 : (UInt64.ofNat k).toNat = k := by
    show (BitVec.ofNat 64 k).toNat = k
    rw [BitVec.toNat_ofNat, Nat.mod_eq_of_lt (by omega)]
  have h2 : (lN n).toUInt64.toNat = n := wb_tn hn
  rw [UInt64.toNat_shiftRight, h1, h2, Nat.mod_eq_of_lt hk, Nat.shiftRight_eq_div_pow, BitVec.toNat_ofNat, Nat.mod_eq_of_lt (Nat.lt_of_le_of_lt (Nat.div_le_self _ _) hn)]
theorem wb_shl (n : Nat) {k : Nat} (hk : k < 64) : lN n <<< ((nI k).toInt64 &&& 63) = lN (n * 2 ^ k) := by
  rw [wb_c k hk]
  apply wb_inj
  rw [Int64.toBitVec_shiftLeft, wb_tb, wb_tb, wb_tb, wb_sm k hk]
  apply BitVec.eq_of_toNat_eq
  rw [BitVec.shiftLeft_eq', BitVec.toNat_shiftLeft, BitVec.toNat_ofNat, BitVec.toNat_ofNat, BitVec.toNat_ofNat, Nat.mod_eq_of_lt (show k < 2 ^ 64 by omega), Nat.shiftLeft_eq, Nat.mul_mod, Nat.mod_mod, ← Nat.mul_mod]
theorem wb_and {a b : Nat} (ha : a < 2 ^ 64) (hb : b < 2 ^ 64) : lN a &&& lN b = lN (a &&& b) := by
  apply wb_inj
  rw [Int64.toBitVec_and, wb_tb, wb_tb, wb_tb]
  apply BitVec.eq_of_toNat_eq
  rw [BitVec.toNat_and, BitVec.toNat_ofNat, BitVec.toNat_ofNat, BitVec.toNat_ofNat, Nat.mod_eq_of_lt ha, Nat.mod_eq_of_lt hb, Nat.mod_eq_of_lt (Nat.and_lt_two_pow _ hb)]
theorem wb_or {a b : Nat} (ha : a < 2 ^ 64) (hb : b < 2 ^ 64) : lN a ||| lN b = lN (a ||| b) := by
  apply wb_inj
  rw [Int64.toBitVec_or, wb_tb, wb_tb, wb_tb]
  apply BitVec.eq_of_toNat_eq
  rw [BitVec.toNat_or, BitVec.toNat_ofNat, BitVec.toNat_ofNat, BitVec.toNat_ofNat, Nat.mod_eq_of_lt ha, Nat.mod_eq_of_lt hb, Nat.mod_eq_of_lt (Nat.or_lt_two_pow ha hb)]
theorem wb_mask {n k : Nat} (hn : n < 2 ^ 64) (hk : k < 64) : lN n &&& lN (2 ^ k - 1) = lN (n % 2 ^ k) := by
  rw [wb_and hn (by have := wb_lt2 hk; omega), Nat.and_two_pow_sub_one_eq_mod]
theorem wb_a1 {n : Nat} (hn : n < 2 ^ 64) : lN n &&& 1 = lN (n % 2) := wb_mask (k := 1) hn (by decide)
theorem wb_bit {n k : Nat} (hn : n < 2 ^ 64) (hk : k < 64) : ((lN n).toUInt64 >>> ((nI k).toInt64.toUInt64 &&& Int64.toUInt64 63)).toInt64 &&& 1 = lN (n / 2 ^ k % 2) := by
  rw [wb_shr hn hk, wb_a1 (Nat.lt_of_le_of_lt (Nat.div_le_self _ _) hn)]
theorem pf_lI {a : Nat} (h : a < 2 ^ 63) : (lN a).toInt = (a : Int) := lg_ofNat_toInt h
theorem pf_shr {a d : Nat} {D : Int64} (hD : (D.toBitVec.smod 64).toNat = d) (h : a < 2 ^ 62) : lN a >>> D = lN (a / 2 ^ d) := by
  have hd : a / 2 ^ d ≤ a := Nat.div_le_self _ _
  apply Int64.toInt_inj.mp
  have e : (lN a >>> D).toInt = (lN a).toInt >>> d := by
    rw [← hD]
    exact BitVec.toInt_sshiftRight ..
  rw [e, Int.shiftRight_eq_div_pow, pf_lI (by omega), pf_lI (by omega)]
  rfl
/-! Long.bitCount, byte by byte -/
def q1 (a : Nat) : Nat := a - (a / 2 &&& 85)
def q2 (a : Nat) : Nat := (a &&& 51) + (a / 4 &&& 51)
def q3 (a : Nat) : Nat := (a + a / 16) % 16
def mk8 (m : Nat) : Nat → Nat
  | 0 => 0
  | k + 1 => m + 256 * mk8 m k
def by8 (f : Nat → Nat) : Nat → Nat → Nat
  | 0, _ => 0
  | k + 1, x => f (x % 256) + 256 * by8 f k (x / 256)
theorem and_split {p q : Nat} : p &&& q = ((p % 256) &&& (q % 256)) + 256 * ((p / 256) &&& (q / 256)) := by
  have h1 : (p &&& q) % 2 ^ 8 = (p % 2 ^ 8) &&& (q % 2 ^ 8) := Nat.and_mod_two_pow
  have h2 : (p &&& q) / 2 ^ 8 = (p / 2 ^ 8) &&& (q / 2 ^ 8) := Nat.and_div_two_pow
  have h3 := Nat.mod_add_div (p &&& q) 256
  rw [show (256 : Nat) = 2 ^ 8 from rfl] at *
  rw [← h1, ← h2]
  omega
theorem mk8_S {m k : Nat} (hm : m < 256) : mk8 m (k + 1) % 256 = m ∧ mk8 m (k + 1) / 256 = mk8 m k := by
  show (m + 256 * mk8 m k) % 256 = m ∧ (m + 256 * mk8 m k) / 256 = mk8 m k
  omega
theorem c1 : ∀ a, a < 256 → ∀ e, e < 2 → (a / 2 + 128 * e) % 256 &&& 85 = a / 2 &&& 85 := by decide +kernel
theorem c2 : ∀ a, a < 256 → ∀ e, e < 4 → (a / 4 + 64 * e) % 256 &&& 51 = a / 4 &&& 51 := by decide +kernel
theorem c3 : ∀ a, a < 256 → q1 a < 256 ∧ (a / 2 &&& 85) ≤ a ∧ q2 (q1 a) < 256 ∧ q2 (q1 a) % 16 ≤ 4 ∧ q2 (q1 a) / 16 ≤ 4 ∧ q3 (q2 (q1 a)) = pcN a 8 := by decide +kernel
theorem st1 : ∀ k x, x < 256 ^ k → x - (x / 2 &&& mk8 85 k) = by8 q1 k x
  | 0, x, h => by have : x = 0 := by omega
                  subst this; rfl
  | k + 1, x, h => by
    have hk : x / 256 < 256 ^ k := by rw [Nat.div_lt_iff_lt_mul (by decide)]; rw [Nat.pow_succ] at h; exact h
    have ih := st1 k (x / 256) hk
    obtain ⟨m1, m2⟩ := mk8_S (m := 85) (k := k) (by decide)
    rw [and_split, m1, m2]
    have ha : x % 256 < 256 := by omega
    have e1 : x / 2 % 256 = (x % 256 / 2 + 128 * (x / 256 % 2)) % 256 := by omega
    have e2 : x / 2 / 256 = x / 256 / 2 := by omega
    rw [e1, c1 (x % 256) ha (x / 256 % 2) (by omega), e2]
    show _ = q1 (x % 256) + 256 * by8 q1 k (x / 256)
    rw [← ih]
    have l1 := (c3 (x % 256) ha).2.1
    have l2 : x / 256 / 2 &&& mk8 85 k ≤ x / 256 := Nat.le_trans Nat.and_le_left (by omega)
    unfold q1
    omega
theorem st2 : ∀ k y, y < 256 ^ k → (y &&& mk8 51 k) + (y / 4 &&& mk8 51 k) = by8 q2 k y
  | 0, x, h => by have : x = 0 := by omega
                  subst this; rfl
  | k + 1, x, h => by
    have hk : x / 256 < 256 ^ k := by rw [Nat.div_lt_iff_lt_mul (by decide)]; rw [Nat.pow_succ] at h; exact h
    have ih := st2 k (x / 256) hk
    obtain ⟨m1, m2⟩ := mk8_S (m := 51) (k := k) (by decide)
    rw [and_split, and_split (p := x / 4), m1, m2]
    have ha : x % 256 < 256 := by omega
    have e1 : x / 4 % 256 = (x % 256 / 4 + 64 * (x / 256 % 4)) % 256 := by omega
    have e2 : x / 4 / 256 = x / 256 / 4 := by omega
    rw [e1, c2 (x % 256) ha (x / 256 % 4) (by omega), e2]
    show _ = q2 (x % 256) + 256 * by8 q2 k (x / 256)
    rw [← ih]
    unfold q2
    omega
theorem by8_lt {f : Nat → Nat} (hf : ∀ a, a < 256 → f a < 256) : ∀ k x, by8 f k x < 256 ^ k
  | 0, _ => Nat.zero_lt_succ 0
  | k + 1, x => by
    have h1 := hf (x % 256) (by omega)
    have h2 := by8_lt hf k (x / 256)
    show f (x % 256) + 256 * by8 f k (x / 256) < 256 ^ (k + 1)
    rw [Nat.pow_succ]
    omega
theorem by8_by8 {f g : Nat → Nat} (hf : ∀ a, a < 256 → f a < 256) : ∀ k x, by8 g k (by8 f k x) = by8 (fun a => g (f a)) k x
  | 0, _ => rfl
  | k + 1, x => by
    have h1 := hf (x % 256) (by omega)
    have ih := by8_by8 (g := g) hf k (x / 256)
    show g ((f (x % 256) + 256 * by8 f k (x / 256)) % 256) + 256 * by8 g k ((f (x % 256) + 256 * by8 f k (x / 256)) / 256) = g (f (x % 256)) + 256 * by8 (fun a => g (f a)) k (x / 256)
    rw [show (f (x % 256) + 256 * by8 f k (x / 256)) % 256 = f (x % 256) by omega, show (f (x % 256) + 256 * by8 f k (x / 256)) / 256 = by8 f k (x / 256) by omega, ih]
theorem by8_lo {k x : Nat} : by8 (fun a => q2 (q1 a)) k x % 16 ≤ 4 := by
  cases k with
  | zero => exact Nat.zero_le _
  | succ k =>
    have := (c3 (x % 256) (by omega)).2.2.2.1
    show (q2 (q1 (x % 256)) + 256 * by8 (fun a => q2 (q1 a)) k (x / 256)) % 16 ≤ 4
    omega
theorem st3 : ∀ k x, (by8 (fun a => q2 (q1 a)) k x + by8 (fun a => q2 (q1 a)) k x / 16) &&& mk8 15 k = by8 (fun a => pcN a 8) k x
  | 0, x => by
    show (0 + 0 / 16) &&& 0 = 0
    decide
  | k + 1, x => by
    have ih := st3 k (x / 256)
    have hlo := by8_lo (k := k) (x := x / 256)
    obtain ⟨_, _, b3, b4, b5, b6⟩ := c3 (x % 256) (by omega)
    obtain ⟨m1, m2⟩ := mk8_S (m := 15) (k := k) (by decide)
    rw [and_split, m1, m2]
    show _ = pcN (x % 256) 8 + 256 * by8 (fun a => pcN a 8) k (x / 256)
    rw [← ih, ← b6]
    show ((q2 (q1 (x % 256)) + 256 * by8 (fun a => q2 (q1 a)) k (x / 256) + (q2 (q1 (x % 256)) + 256 * by8 (fun a => q2 (q1 a)) k (x / 256)) / 16) % 256 &&& 15) + 256 * ((q2 (q1 (x % 256)) + 256 * by8 (fun a => q2 (q1 a)) k (x / 256) + (q2 (q1 (x % 256)) + 256 * by8 (fun a => q2 (q1 a)) k (x / 256)) / 16) / 256 &&& mk8 15 k) = _
    generalize q2 (q1 (x % 256)) = a at *
    generalize by8 (fun a => q2 (q1 a)) k (x / 256) = y at *
    have e1 : (a + 256 * y + (a + 256 * y) / 16) / 256 = y + y / 16 := by omega
    have e2 : (a + 256 * y + (a + 256 * y) / 16) % 256 &&& 15 = q3 a := by
      rw [show (15 : Nat) = 2 ^ 4 - 1 from rfl, Nat.and_two_pow_sub_one_eq_mod]
      unfold q3
      omega
    rw [e1, e2]
theorem pc_split (X : Nat) : ∀ k, pcN X (8 + k) = pcN (X % 256) 8 + pcN (X / 256) k
  | 0 => by
    show pcN X 8 = pcN (X % 256) 8 + 0
    simp only [pcN]
    omega
  | k + 1 => by
    have ih := pc_split X k
    show pcN X (8 + k) + X / 2 ^ (8 + k) % 2 = pcN (X % 256) 8 + (pcN (X / 256) k + X / 256 / 2 ^ k % 2)
    rw [ih, Nat.pow_add, ← Nat.div_div_eq_div_mul, show (2 : Nat) ^ 8 = 256 from rfl]
    omega
def sl (x : Int64) (k : Int32) : Int64 := (x.toUInt64 >>> (k.toInt64.toUInt64 &&& Int64.toUInt64 63)).toInt64
def lc1 (x : Int64) : Int64 := x - (sl x 1 &&& 6148914691236517205)
def lc2 (y : Int64) : Int64 := (y &&& 3689348814741910323) + (sl y 2 &&& 3689348814741910323)
def lc3 (y : Int64) : Int64 := (y + sl y 4) &&& 1085102592571150095
def lc4 (y : Int64) : Int64 := y + sl y 8
def lc5 (y : Int64) : Int64 := y + sl y 16
def lc6 (y : Int64) : Int64 := y + sl y 32
def lcI (x : Int64) : Int32 := (lc6 (lc5 (lc4 (lc3 (lc2 (lc1 x)))))).toInt32 &&& 127
theorem s_210 {σ : St} {x : Int64} : Ret 210 [.long x] σ [.int (lcI x)] σ := g_210_0 ⟨rfl, rfl⟩
theorem and127 {k : Nat} (h : k < 2 ^ 31) : nI k &&& 127 = nI (k % 128) := by
  rw [show (127 : Int32) = nI 127 from rfl, nI_and, show (127 : Nat) = 2 ^ 7 - 1 from rfl, Nat.and_two_pow_sub_one_eq_mod]
theorem dv {a m q : Nat} (h : a < m) : (a + m * q) / m = q := by
  rw [Nat.add_mul_div_left _ _ (by omega), Nat.div_eq_of_lt h, Nat.zero_add]
theorem fd4 (c0 c1 c2 c3 c4 c5 c6 c7 : Nat) : (c0 + 256 * (c1 + 256 * (c2 + 256 * (c3 + 256 * (c4 + 256 * (c5 + 256 * (c6 + 256 * c7))))))) + (c1 + 256 * (c2 + 256 * (c3 + 256 * (c4 + 256 * (c5 + 256 * (c6 + 256 * c7)))))) = ((c0 + c1) + 256 * ((c1 + c2) + 256 * ((c2 + c3) + 256 * ((c3 + c4) + 256 * ((c4 + c5) + 256 * ((c5 + c6) + 256 * ((c6 + c7) + 256 * c7))))))) := by omega
theorem fd4b (c0 c1 c2 c3 c4 c5 c6 c7 : Nat) : ((c0 + c1) + 256 * ((c1 + c2) + 256 * ((c2 + c3) + 256 * ((c3 + c4) + 256 * ((c4 + c5) + 256 * ((c5 + c6) + 256 * ((c6 + c7) + 256 * c7))))))) = ((c0 + c1) + 256 * (c1 + c2)) + 65536 * ((c2 + c3) + 256 * ((c3 + c4) + 256 * ((c4 + c5) + 256 * ((c5 + c6) + 256 * ((c6 + c7) + 256 * c7))))) := by omega
theorem fd5 (c0 c1 c2 c3 c4 c5 c6 c7 : Nat) : ((c0 + c1) + 256 * ((c1 + c2) + 256 * ((c2 + c3) + 256 * ((c3 + c4) + 256 * ((c4 + c5) + 256 * ((c5 + c6) + 256 * ((c6 + c7) + 256 * c7))))))) + ((c2 + c3) + 256 * ((c3 + c4) + 256 * ((c4 + c5) + 256 * ((c5 + c6) + 256 * ((c6 + c7) + 256 * c7))))) = ((c0 + c1 + c2 + c3) + 256 * ((c1 + c2 + c3 + c4) + 256 * ((c2 + c3 + c4 + c5) + 256 * ((c3 + c4 + c5 + c6) + 256 * ((c4 + c5 + c6 + c7) + 256 * ((c5 + c6 + c7) + 256 * ((c6 + c7) + 256 * c7))))))) := by omega
theorem fd5b (c0 c1 c2 c3 c4 c5 c6 c7 : Nat) : ((c0 + c1 + c2 + c3) + 256 * ((c1 + c2 + c3 + c4) + 256 * ((c2 + c3 + c4 + c5) + 256 * ((c3 + c4 + c5 + c6) + 256 * ((c4 + c5 + c6 + c7) + 256 * ((c5 + c6 + c7) + 256 * ((c6 + c7) + 256 * c7))))))) = ((c0 + c1 + c2 + c3) + 256 * ((c1 + c2 + c3 + c4) + 256 * ((c2 + c3 + c4 + c5) + 256 * (c3 + c4 + c5 + c6)))) + 4294967296 * ((c4 + c5 + c6 + c7) + 256 * ((c5 + c6 + c7) + 256 * ((c6 + c7) + 256 * c7))) := by omega
theorem fd6 (c0 c1 c2 c3 c4 c5 c6 c7 : Nat) : ((c0 + c1 + c2 + c3) + 256 * ((c1 + c2 + c3 + c4) + 256 * ((c2 + c3 + c4 + c5) + 256 * ((c3 + c4 + c5 + c6) + 256 * ((c4 + c5 + c6 + c7) + 256 * ((c5 + c6 + c7) + 256 * ((c6 + c7) + 256 * c7))))))) + ((c4 + c5 + c6 + c7) + 256 * ((c5 + c6 + c7) + 256 * ((c6 + c7) + 256 * c7))) = ((c0 + c1 + c2 + c3 + c4 + c5 + c6 + c7) + 256 * ((c1 + c2 + c3 + c4 + c5 + c6 + c7) + 256 * ((c2 + c3 + c4 + c5 + c6 + c7) + 256 * ((c3 + c4 + c5 + c6 + c7) + 256 * ((c4 + c5 + c6 + c7) + 256 * ((c5 + c6 + c7) + 256 * ((c6 + c7) + 256 * c7))))))) := by omega
theorem fold8 {c0 c1 c2 c3 c4 c5 c6 c7 : Nat} (h0 : c0 ≤ 8) (h1 : c1 ≤ 8) (h2 : c2 ≤ 8) (h3 : c3 ≤ 8) (h4 : c4 ≤ 8) (h5 : c5 ≤ 8) (h6 : c6 ≤ 8) (h7 : c7 ≤ 8) (y3 y4 y5 y6 : Nat) (e3 : y3 = c0 + 256 * (c1 + 256 * (c2 + 256 * (c3 + 256 * (c4 + 256 * (c5 + 256 * (c6 + 256 * (c7 + 256 * 0)))))))) (e4 : y4 = y3 + y3 / 256) (e5 : y5 = y4 + y4 / 65536) (e6 : y6 = y5 + y5 / 4294967296) : y6 % 128 = c0 + c1 + c2 + c3 + c4 + c5 + c6 + c7 ∧ y4 < 2 ^ 60 ∧ y5 < 2 ^ 61 ∧ y6 < 2 ^ 62 := by
  rw [Nat.mul_zero, Nat.add_zero] at e3
  have l3 : y3 < 600000000000000000 := by clear e4 e5 e6; omega
  have d3 : y3 / 256 = (c1 + 256 * (c2 + 256 * (c3 + 256 * (c4 + 256 * (c5 + 256 * (c6 + 256 * c7)))))) := by rw [e3]; exact dv (by clear e4 e5 e6 l3 e3; omega)
  have f4 : y4 = ((c0 + c1) + 256 * ((c1 + c2) + 256 * ((c2 + c3) + 256 * ((c3 + c4) + 256 * ((c4 + c5) + 256 * ((c5 + c6) + 256 * ((c6 + c7) + 256 * c7))))))) := by rw [e4, d3, e3]; exact fd4 c0 c1 c2 c3 c4 c5 c6 c7
  have d4 : y4 / 65536 = ((c2 + c3) + 256 * ((c3 + c4) + 256 * ((c4 + c5) + 256 * ((c5 + c6) + 256 * ((c6 + c7) + 256 * c7))))) := by rw [f4, fd4b]; exact dv (by clear e4 e5 e6 l3 e3 d3 f4; omega)
  have f5 : y5 = ((c0 + c1 + c2 + c3) + 256 * ((c1 + c2 + c3 + c4) + 256 * ((c2 + c3 + c4 + c5) + 256 * ((c3 + c4 + c5 + c6) + 256 * ((c4 + c5 + c6 + c7) + 256 * ((c5 + c6 + c7) + 256 * ((c6 + c7) + 256 * c7))))))) := by rw [e5, d4, f4]; exact fd5 c0 c1 c2 c3 c4 c5 c6 c7
  have d5 : y5 / 4294967296 = ((c4 + c5 + c6 + c7) + 256 * ((c5 + c6 + c7) + 256 * ((c6 + c7) + 256 * c7))) := by rw [f5, fd5b]; exact dv (by clear e4 e5 e6 l3 e3 d3 f4 d4 f5; omega)
  have f6 : y6 = ((c0 + c1 + c2 + c3 + c4 + c5 + c6 + c7) + 256 * ((c1 + c2 + c3 + c4 + c5 + c6 + c7) + 256 * ((c2 + c3 + c4 + c5 + c6 + c7) + 256 * ((c3 + c4 + c5 + c6 + c7) + 256 * ((c4 + c5 + c6 + c7) + 256 * ((c5 + c6 + c7) + 256 * ((c6 + c7) + 256 * c7))))))) := by rw [e6, d5, f5]; exact fd6 c0 c1 c2 c3 c4 c5 c6 c7
  have l4 : y4 < 2 ^ 60 := by clear d3 f4 d4 f5 d5 f6 e3 e5 e6; omega
  have l5 : y5 < 2 ^ 61 := by clear d3 f4 d4 f5 d5 f6 e3 e4 e6 l3; omega
  have l6 : y6 < 2 ^ 62 := by clear d3 f4 d4 f5 d5 f6 e3 e4 e5 l3 l4; omega
  refine ⟨?_, l4, l5, l6⟩
  rw [f6]
  clear d3 f4 d4 f5 d5 f6 e3 e4 e5 e6 l3 l4 l5 l6
  generalize ((c1 + c2 + c3 + c4 + c5 + c6 + c7) + 256 * ((c2 + c3 + c4 + c5 + c6 + c7) + 256 * ((c3 + c4 + c5 + c6 + c7) + 256 * ((c4 + c5 + c6 + c7) + 256 * ((c5 + c6 + c7) + 256 * ((c6 + c7) + 256 * c7)))))) = T
  omega
theorem pc8_le {a : Nat} : pcN a 8 ≤ 8 := pc_le 8
theorem lc_pc {X : Nat} (h : X < 2 ^ 60) : lcI (lN X) = nI (pcN X 60) := by
  have h64 : X < 2 ^ 64 := Nat.lt_trans h (by decide)
  have hX : X < 256 ^ 8 := h64
  have hq : ∀ a, a < 256 → q1 a < 256 := fun a ha => (c3 a ha).1
  have hq2 : ∀ a, a < 256 → q2 (q1 a) < 256 := fun a ha => (c3 a ha).2.2.1
  have b1 : by8 q1 8 X < 256 ^ 8 := by8_lt hq 8 X
  have sN : ∀ n k, n < 2 ^ 64 → k < 64 → sl (lN n) (nI k) = lN (n / 2 ^ k) := fun n k hn hk => wb_shr hn hk
  have dl : ∀ n k : Nat, n < 2 ^ 64 → n / k < 2 ^ 64 := fun n k hn => Nat.lt_of_le_of_lt (Nat.div_le_self _ _) hn
  have e1 : lc1 (lN X) = lN (by8 q1 8 X) := by
    unfold lc1
    rw [show sl (lN X) 1 = lN (X / 2) from sN X 1 h64 (by decide), show (6148914691236517205 : Int64) = lN (mk8 85 8) from by decide, wb_and (dl _ _ h64) (by decide), lN_sub (Nat.le_trans Nat.and_le_left (Nat.div_le_self _ _)), st1 8 X hX]
  have b2 : by8 (fun a => q2 (q1 a)) 8 X < 2 ^ 64 := by8_lt hq2 8 X
  have e2 : lc2 (lN (by8 q1 8 X)) = lN (by8 (fun a => q2 (q1 a)) 8 X) := by
    unfold lc2
    rw [show sl (lN (by8 q1 8 X)) 2 = lN (by8 q1 8 X / 4) from sN _ 2 b1 (by decide), show (3689348814741910323 : Int64) = lN (mk8 51 8) from by decide, wb_and b1 (by decide), wb_and (dl _ _ b1) (by decide), lN_add, st2 8 _ b1, by8_by8 hq]
  have b3 : by8 (fun a => q2 (q1 a)) 8 X + by8 (fun a => q2 (q1 a)) 8 X / 16 < 2 ^ 64 := by
    have : by8 (fun a => q2 (q1 a)) 8 X ≤ 68 * 72340172838076673 := by
      have hb : ∀ a, a < 256 → q2 (q1 a) ≤ 68 := fun a ha => by have := c3 a ha; omega
      have go : ∀ k x, by8 (fun a => q2 (q1 a)) k x ≤ 68 * mk8 1 k := by
        intro k
        induction k with
        | zero => intro x; exact Nat.zero_le _
        | succ k ih =>
          intro x
          have h1 := hb (x % 256) (by omega)
          have h2 := ih (x / 256)
          show q2 (q1 (x % 256)) + 256 * by8 (fun a => q2 (q1 a)) k (x / 256) ≤ 68 * (1 + 256 * mk8 1 k)
          omega
      exact go 8 X
    omega
  have e3 : lc3 (lN (by8 (fun a => q2 (q1 a)) 8 X)) = lN (by8 (fun a => pcN a 8) 8 X) := by
    unfold lc3
    rw [show sl (lN (by8 (fun a => q2 (q1 a)) 8 X)) 4 = lN (by8 (fun a => q2 (q1 a)) 8 X / 16) from sN _ 4 b2 (by decide), show (1085102592571150095 : Int64) = lN (mk8 15 8) from by decide, lN_add, wb_and b3 (by decide), st3]
  obtain ⟨f1, f2, f3, f4⟩ := fold8 (pc8_le (a := X % 256)) (pc8_le (a := X / 256 % 256)) (pc8_le (a := X / 256 / 256 % 256)) (pc8_le (a := X / 256 / 256 / 256 % 256)) (pc8_le (a := X / 256 / 256 / 256 / 256 % 256)) (pc8_le (a := X / 256 / 256 / 256 / 256 / 256 % 256)) (pc8_le (a := X / 256 / 256 / 256 / 256 / 256 / 256 % 256)) (pc8_le (a := X / 256 / 256 / 256 / 256 / 256 / 256 / 256 % 256)) (by8 (fun a => pcN a 8) 8 X) _ _ _ rfl rfl rfl rfl
  have pcs : pcN X 60 = pcN (X % 256) 8 + pcN (X / 256 % 256) 8 + pcN (X / 256 / 256 % 256) 8 + pcN (X / 256 / 256 / 256 % 256) 8 + pcN (X / 256 / 256 / 256 / 256 % 256) 8 + pcN (X / 256 / 256 / 256 / 256 / 256 % 256) 8 + pcN (X / 256 / 256 / 256 / 256 / 256 / 256 % 256) 8 + pcN (X / 256 / 256 / 256 / 256 / 256 / 256 / 256 % 256) 8 := by
    have z : pcN X 64 = pcN X 60 := by
      show pcN X 60 + X / 2 ^ 60 % 2 + X / 2 ^ 61 % 2 + X / 2 ^ 62 % 2 + X / 2 ^ 63 % 2 = pcN X 60
      rw [Nat.div_eq_of_lt h, Nat.div_eq_of_lt (Nat.lt_trans h (by decide)), Nat.div_eq_of_lt (Nat.lt_trans h (by decide)), Nat.div_eq_of_lt (Nat.lt_trans h (by decide)), Nat.zero_mod, Nat.add_zero]
    rw [← z, show (64 : Nat) = 8 + 56 from rfl, pc_split, show (56 : Nat) = 8 + 48 from rfl, pc_split, show (48 : Nat) = 8 + 40 from rfl, pc_split, show (40 : Nat) = 8 + 32 from rfl, pc_split, show (32 : Nat) = 8 + 24 from rfl, pc_split, show (24 : Nat) = 8 + 16 from rfl, pc_split, show (16 : Nat) = 8 + 8 from rfl, pc_split]
    have last : pcN (X / 256 / 256 / 256 / 256 / 256 / 256 / 256) 8 = pcN (X / 256 / 256 / 256 / 256 / 256 / 256 / 256 % 256) 8 := pc_split _ 0
    omega
  rw [pcs, ← f1]
  unfold lcI
  rw [e1, e2, e3]
  generalize by8 (fun a => pcN a 8) 8 X = y at *
  have g3 : y < 2 ^ 64 := by omega
  unfold lc6 lc5 lc4
  rw [show sl (lN y) 8 = lN (y / 256) from sN y 8 g3 (by decide), lN_add, show sl (lN (y + y / 256)) 16 = lN ((y + y / 256) / 65536) from sN _ 16 (by omega) (by decide), lN_add, show sl (lN (y + y / 256 + (y + y / 256) / 65536)) 32 = lN ((y + y / 256 + (y + y / 256) / 65536) / 4294967296) from sN _ 32 (by omega) (by decide), lN_add, lN_i]
  generalize y + y / 256 + (y + y / 256) / 65536 + (y + y / 256 + (y + y / 256) / 65536) / 4294967296 = z at *
  rw [show (127 : Int32) = nI 127 from rfl, nI_and, show (127 : Nat) = 2 ^ 7 - 1 from rfl, Nat.and_two_pow_sub_one_eq_mod]
