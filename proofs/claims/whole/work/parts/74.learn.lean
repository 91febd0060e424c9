/-! a rule is learned -/
def ust (σ : St) (ts bs aa : Int32) (a b c d : Nat → Int32) : St := setR (setR (setR (setR (wr (wr (wr σ 6 6 ts) 6 7 bs) 6 8 aa) 39 a) 40 b) 41 c) 42 d
theorem ust_66 {σ : St} {ts bs aa x : Int32} {a b c d : Nat → Int32} : wr (ust σ ts bs aa a b c d) 6 6 x = ust σ x bs aa a b c d := by
  refine St_ext (fun q j => ?_) rfl
  unfold ust
  simp only [wr_get, setR_get]
  by_cases h : q = 6
  · subst h; by_cases h6 : j = 6 <;> simp [h6, wr_get]
  · rw [if_neg (fun z => h z.1)]; simp only [wr_row h]
theorem ust_67 {σ : St} {ts bs aa x : Int32} {a b c d : Nat → Int32} : wr (ust σ ts bs aa a b c d) 6 7 x = ust σ ts x aa a b c d := by
  refine St_ext (fun q j => ?_) rfl
  unfold ust
  simp only [wr_get, setR_get]
  by_cases h : q = 6
  · subst h; by_cases h6 : j = 7 <;> simp [h6, wr_get]
  · rw [if_neg (fun z => h z.1)]; simp only [wr_row h]
theorem ust_68 {σ : St} {ts bs aa x : Int32} {a b c d : Nat → Int32} : wr (ust σ ts bs aa a b c d) 6 8 x = ust σ ts bs x a b c d := by
  refine St_ext (fun q j => ?_) rfl
  unfold ust
  simp only [wr_get, setR_get]
  by_cases h : q = 6
  · subst h; by_cases h6 : j = 8 <;> simp [h6, wr_get]
  · rw [if_neg (fun z => h z.1)]; simp only [wr_row h]
theorem ust_39 {σ : St} {ts bs aa x : Int32} {a b c d : Nat → Int32} {k : Nat} : wr (ust σ ts bs aa a b c d) 39 k x = ust σ ts bs aa (upd a k x) b c d := by
  refine St_ext (fun q j => ?_) rfl
  unfold ust
  simp only [wr_get, setR_get]
  by_cases h : q = 39
  · subst h; simp [upd]
  · simp [h]
theorem ust_40 {σ : St} {ts bs aa x : Int32} {a b c d : Nat → Int32} {k : Nat} : wr (ust σ ts bs aa a b c d) 40 k x = ust σ ts bs aa a (upd b k x) c d := by
  refine St_ext (fun q j => ?_) rfl
  unfold ust
  simp only [wr_get, setR_get]
  by_cases h : q = 40
  · subst h; simp [upd]
  · simp [h]
theorem ust_41 {σ : St} {ts bs aa x : Int32} {a b c d : Nat → Int32} {k : Nat} : wr (ust σ ts bs aa a b c d) 41 k x = ust σ ts bs aa a b (upd c k x) d := by
  refine St_ext (fun q j => ?_) rfl
  unfold ust
  simp only [wr_get, setR_get]
  by_cases h : q = 41
  · subst h; simp [upd]
  · simp [h]
theorem ust_42 {σ : St} {ts bs aa x : Int32} {a b c d : Nat → Int32} {k : Nat} : wr (ust σ ts bs aa a b c d) 42 k x = ust σ ts bs aa a b c (upd d k x) := by
  refine St_ext (fun q j => ?_) rfl
  unfold ust
  simp only [wr_get, setR_get]
  by_cases h : q = 42
  · subst h; simp [upd]
  · simp [h]
theorem ust_0 {σ : St} {ts bs aa : Int32} : wr (wr (wr σ 6 6 ts) 6 7 bs) 6 8 aa = ust σ ts bs aa (σ.1 39) (σ.1 40) (σ.1 41) (σ.1 42) := by
  generalize e : wr (wr (wr σ 6 6 ts) 6 7 bs) 6 8 aa = τ
  have e1 : σ.1 39 = τ.1 39 := by rw [← e]; rfl
  have e2 : σ.1 40 = τ.1 40 := by rw [← e]; rfl
  have e3 : σ.1 41 = τ.1 41 := by rw [← e]; rfl
  have e4 : σ.1 42 = τ.1 42 := by rw [← e]; rfl
  unfold ust
  rw [e, e1, e2, e3, e4, setR_self, setR_self, setR_self, setR_self]
theorem s_50 {σ : St} {t : Nat} {bs aa x : Int32} {a b c d : Nat → Int32} (ht : t < 50) : Ret 50 [.ref 6, .int x] (ust σ (nI t) bs aa a b c d) [] (ust σ (nI (t + 1)) bs (if x = 121 then 1 else aa) (upd a t x) b (upd c t 0) (upd d t (bs - 1))) := by
  have lt : nI t < 50 := (nI_ltL (n := 50) rfl (by omega) (by decide)).mpr ht
  have et : (nI t).toNatClampNeg = t := clN (by omega)
  refine g_50_0 (br_t lt ⟨vp_in_nI ht (by decide), ?_⟩)
  show (x = 121 → ([] = [] ∧ _ = wr (wr (wr (wr (wr (ust σ (nI t) bs aa a b c d) 39 (nI t).toNatClampNeg x) 41 (nI t).toNatClampNeg 0) 42 (nI t).toNatClampNeg (bs - 1)) 6 8 1) 6 6 (nI t + 1))) ∧ (¬ x = 121 → ([] = [] ∧ _ = wr (wr (wr (wr (ust σ (nI t) bs aa a b c d) 39 (nI t).toNatClampNeg x) 41 (nI t).toNatClampNeg 0) 42 (nI t).toNatClampNeg (bs - 1)) 6 6 (nI t + 1)))
  rw [et, ust_39, ust_41, ust_42, ust_68, ust_66, ust_66, nI_S]
  constructor
  · intro h; rw [if_pos h]; exact ⟨rfl, rfl⟩
  · intro h; rw [if_neg h]; exact ⟨rfl, rfl⟩
def updN (g : Nat → Nat) (k v x : Nat) : Nat := if x = k then v else g x
theorem updN_s {g : Nat → Nat} {k v : Nat} : updN g k v k = v := if_pos rfl
theorem updN_n {g : Nat → Nat} {k v x : Nat} (h : x ≠ k) : updN g k v x = g x := if_neg h
def CmQ (f : Nat → Int32) (p m : Nat) (a40 a41 : Int32) : Prop := isCmpS (f (p + 1)) ∧ a40 = f (p + 1) ∧ m ≤ 3 ∧ (∀ d, d < m → isDigS (f (p + 2 + d))) ∧ a41 = digV f (p + 2) m
/-- before the i-th sign, in state s, with t tests begun -/
def LrI (f : Nat → Int32) (i : Nat) (s : Int32) (t : Nat) (ps dl : Nat → Nat) (b : Nat) (aa : Int32) (A39 A40 A41 A42 : Nat → Int32) : Prop :=
  (t ≤ i ∧ (t = 0 → i = 0)) ∧ (0 < t → ps 0 = 0 ∧ A42 0 = 0) ∧
  (∀ x, x < t → isFactS (f (ps x)) ∧ A39 x = f (ps x) ∧ ∃ c : Nat, c ≤ x ∧ A42 x = nI c) ∧
  (∀ x, x + 1 < t → CmQ f (ps x) (dl x) (A40 x) (A41 x) ∧ 1 ≤ dl x ∧ (f (ps x + 2 + dl x) = 38 ∨ f (ps x + 2 + dl x) = 124) ∧ ps (x + 1) = ps x + 3 + dl x ∧ A42 (x + 1) = if f (ps x + 2 + dl x) = 124 then A42 x + 1 else A42 x) ∧
  b = 1 + cb f i ∧ (aa = 0 ∨ aa = 1) ∧ (aa = 1 ↔ ∃ x, x < t ∧ A39 x = 121) ∧ (aa = 1 ↔ ∃ k, k < i ∧ f k = 121) ∧ (s = 0 ∨ 0 < t) ∧
  (∀ L, L + 1 = t →
    (s = 0 → CmQ f (ps L) (dl L) (A40 L) (A41 L) ∧ 1 ≤ dl L ∧ (f (ps L + 2 + dl L) = 38 ∨ f (ps L + 2 + dl L) = 124) ∧ i = ps L + 3 + dl L ∧ nI b = (if f (ps L + 2 + dl L) = 124 then A42 L + 1 else A42 L) + 1) ∧
    (s = 1 → i = ps L + 1 ∧ A41 L = 0 ∧ dl L = 0 ∧ nI b = A42 L + 1) ∧
    (2 ≤ s → CmQ f (ps L) (dl L) (A40 L) (A41 L) ∧ s = nI (2 + dl L) ∧ i = ps L + 2 + dl L ∧ nI b = A42 L + 1))
theorem fact_ne {c : Int32} (h : isFactS c) : ¬ c = 124 ∧ ¬ c = 38 ∧ ¬ isCmpS c ∧ ¬ isDigS c := by
  unfold isCmpS isDigS
  rcases h with rfl | rfl | rfl | rfl | rfl <;> decide
theorem cmp_ne {c : Int32} (h : isCmpS c) : ¬ c = 124 ∧ ¬ c = 38 ∧ ¬ isFactS c ∧ ¬ isDigS c ∧ ¬ c = 121 := by
  unfold isFactS isDigS
  rcases h with rfl | rfl | rfl <;> decide
theorem dig_ne {c : Int32} (h : isDigS c) : ¬ c = 124 ∧ ¬ c = 38 ∧ ¬ isFactS c ∧ ¬ isCmpS c ∧ ¬ c = 121 := by
  unfold isFactS isCmpS
  unfold isDigS at h
  refine ⟨?_, ?_, ?_, ?_, ?_⟩ <;> grind
theorem sep_ne {c : Int32} (h : c = 38 ∨ c = 124) : ¬ isFactS c ∧ ¬ isCmpS c ∧ ¬ isDigS c ∧ ¬ c = 121 := by
  unfold isFactS isCmpS isDigS
  rcases h with rfl | rfl <;> decide
theorem cb_n {f : Nat → Int32} {i : Nat} (h : ¬ f i = 124) : cb f (i + 1) = cb f i := by
  show cb f i + (if f i = 124 then 1 else 0) = _
  rw [if_neg h]; rfl
theorem ask_n {f : Nat → Int32} {i : Nat} {aa : Int32} (h : ¬ f i = 121) (q : aa = 1 ↔ ∃ k, k < i ∧ f k = 121) : aa = 1 ↔ ∃ k, k < i + 1 ∧ f k = 121 := by
  rw [q]
  constructor
  · rintro ⟨k, h1, h2⟩; exact ⟨k, by omega, h2⟩
  · rintro ⟨k, h1, h2⟩
    exact ⟨k, Nat.lt_of_le_of_ne (by omega) (fun e => h (e ▸ h2)), h2⟩
theorem LrI.opn {f : Nat → Int32} {i t b : Nat} {ps dl : Nat → Nat} {aa : Int32} {A39 A40 A41 A42 : Nat → Int32} (h : LrI f i 0 t ps dl b aa A39 A40 A41 A42) (hc : isFactS (f i)) :
    LrI f (i + 1) 1 (t + 1) (updN ps t i) (updN dl t 0) b (if f i = 121 then 1 else aa) (upd A39 t (f i)) A40 (upd A41 t 0) (upd A42 t (nI b - 1)) := by
  obtain ⟨⟨h1, h2⟩, h3, h4, h5, h6, h7, h8, h9, h10, h11⟩ := h
  have hne := fact_ne hc
  have e42 : ∃ c : Nat, c ≤ t ∧ nI b - 1 = nI c := by
    rcases Nat.eq_zero_or_pos t with z | z
    · refine ⟨0, by omega, ?_⟩
      rw [h6, h2 z]
      show nI 1 - 1 = nI 0
      decide
    · obtain ⟨L, rfl⟩ : ∃ L, t = L + 1 := ⟨t - 1, by omega⟩
      obtain ⟨_, _, c, c1, c2⟩ := h4 L (by omega)
      have h12 := ((h11 L rfl).1 rfl).2.2.2.2
      rw [c2] at h12
      by_cases q : f (ps L + 2 + dl L) = 124
      · rw [if_pos q] at h12
        exact ⟨c + 1, by omega, by rw [h12, nI_S]; grind⟩
      · rw [if_neg q] at h12
        exact ⟨c, by omega, by rw [h12]; grind⟩
  refine ⟨⟨by omega, fun z => by omega⟩, fun _ => ?_, fun x hx => ?_, fun x hx => ?_, ?_, ?_, ?_, ?_, Or.inr (by omega), fun L hL => ⟨fun z => absurd z (by decide), fun _ => ?_, fun z => absurd z (by decide)⟩⟩
  · rcases Nat.eq_zero_or_pos t with z | z
    · subst z
      rw [updN_s, upd_at, h2 rfl]
      refine ⟨rfl, ?_⟩
      rw [h6, h2 rfl]
      show nI 1 - 1 = 0
      decide
    · rw [updN_n (by omega), upd_n (by omega)]
      exact h3 z
  · by_cases e : x = t
    · subst e
      rw [updN_s, upd_at, upd_at]
      exact ⟨hc, rfl, e42⟩
    · rw [updN_n e, upd_n e, upd_n e]
      exact h4 x (by omega)
  · by_cases e : x + 1 = t
    · have e2 : x ≠ t := by omega
      obtain ⟨k1, k2, k3, k4, k5⟩ := (h11 x e).1 rfl
      rw [updN_n e2, updN_n e2, upd_n e2, upd_n e2, e, updN_s, upd_at]
      refine ⟨k1, k2, k3, k4, ?_⟩
      rw [k5]
      grind
    · have e2 : x ≠ t := by omega
      rw [updN_n e2, updN_n e2, updN_n e, upd_n e2, upd_n e2, upd_n e]
      exact h5 x (by omega)
  · rw [cb_n hne.1]; exact h6
  · split
    · exact Or.inr rfl
    · exact h7
  · by_cases q : f i = 121
    · rw [if_pos q]
      exact ⟨fun _ => ⟨t, by omega, by rw [upd_at]; exact q⟩, fun _ => rfl⟩
    · rw [if_neg q, h8]
      constructor
      · rintro ⟨x, x1, x2⟩
        exact ⟨x, by omega, by rw [upd_n (by omega)]; exact x2⟩
      · rintro ⟨x, x1, x2⟩
        by_cases e : x = t
        · subst e; rw [upd_at] at x2; exact absurd x2 q
        · rw [upd_n e] at x2; exact ⟨x, by omega, x2⟩
  · by_cases q : f i = 121
    · rw [if_pos q]
      exact ⟨fun _ => ⟨i, by omega, q⟩, fun _ => rfl⟩
    · rw [if_neg q]
      exact ask_n q h9
  · have e : L = t := by omega
    subst e
    rw [updN_s, upd_at, updN_s, upd_at]
    refine ⟨rfl, rfl, rfl, ?_⟩
    grind
theorem LrI.cmp {f : Nat → Int32} {i t b : Nat} {ps dl : Nat → Nat} {aa : Int32} {A39 A40 A41 A42 : Nat → Int32} (h : LrI f i 1 (t + 1) ps dl b aa A39 A40 A41 A42) (hc : isCmpS (f i)) :
    LrI f (i + 1) 2 (t + 1) ps dl b aa A39 (upd A40 t (f i)) A41 A42 := by
  obtain ⟨⟨h1, h2⟩, h3, h4, h5, h6, h7, h8, h9, h10, h11⟩ := h
  have hne := cmp_ne hc
  refine ⟨⟨by omega, fun z => by omega⟩, h3, h4, fun x hx => ?_, by rw [cb_n hne.1]; exact h6, h7, h8, ask_n hne.2.2.2.2 h9, Or.inr (by omega), fun L hL => ⟨fun z => absurd z (by decide), fun z => absurd z (by decide), fun _ => ?_⟩⟩
  · rw [upd_n (by omega)]
    exact h5 x hx
  · have e : L = t := by omega
    subst e
    obtain ⟨k1, k2, k3, k4⟩ := (h11 L rfl).2.1 rfl
    rw [upd_at, k3]
    refine ⟨⟨?_, ?_, by omega, fun d hd => by omega, ?_⟩, rfl, by omega, k4⟩
    · rw [← k1]; exact hc
    · rw [← k1]
    · rw [k2]; rfl
theorem LrI.dig {f : Nat → Int32} {i t b : Nat} {s : Int32} {ps dl : Nat → Nat} {aa : Int32} {A39 A40 A41 A42 : Nat → Int32} (h : LrI f i s (t + 1) ps dl b aa A39 A40 A41 A42) (h2s : 2 ≤ s) (hs5 : s < 5) (hc : isDigS (f i)) :
    LrI f (i + 1) (s + 1) (t + 1) ps (updN dl t (dl t + 1)) b aa A39 A40 (upd A41 t ((A41 t * 10 + f i) - 48)) A42 := by
  obtain ⟨⟨h1, h2⟩, h3, h4, h5, h6, h7, h8, h9, h10, h11⟩ := h
  have hne := dig_ne hc
  refine ⟨⟨by omega, fun z => by omega⟩, h3, h4, fun x hx => ?_, by rw [cb_n hne.1]; exact h6, h7, h8, ask_n hne.2.2.2.2 h9, Or.inr (by omega), fun L hL => ⟨fun z => ?_, fun z => ?_, fun _ => ?_⟩⟩
  · rw [upd_n (by omega), updN_n (by omega)]
    exact h5 x hx
  · grind
  · grind
  · have e : L = t := by omega
    subst e
    obtain ⟨⟨k1, k2, k3, k4, k5⟩, k6, k7, k8⟩ := (h11 L rfl).2.2 h2s
    rw [updN_s, upd_at]
    have h3' : dl L < 3 := by
      rw [k6] at hs5
      have := (nI_ltL (n := 5) rfl (by omega) (by decide)).mp hs5
      omega
    refine ⟨⟨k1, k2, by omega, fun d hd => ?_, ?_⟩, by rw [k6, nI_S]; rfl, by omega, k8⟩
    · by_cases e : d = dl L
      · subst e
        rw [← k7]
        exact hc
      · exact k4 d (by omega)
    · rw [k5, k7]
      show digV f (ps L + 2) (dl L) * 10 + f (ps L + 2 + dl L) - 48 = digV f (ps L + 2) (dl L) * 10 + (f (ps L + 2 + dl L) - 48)
      grind
theorem LrI.sep {f : Nat → Int32} {i t b : Nat} {s : Int32} {ps dl : Nat → Nat} {aa : Int32} {A39 A40 A41 A42 : Nat → Int32} (h : LrI f i s (t + 1) ps dl b aa A39 A40 A41 A42) (h2s : 2 < s) (hc : f i = 38 ∨ f i = 124) :
    LrI f (i + 1) 0 (t + 1) ps dl (b + (if f i = 124 then 1 else 0)) aa A39 A40 A41 A42 := by
  obtain ⟨⟨h1, h2⟩, h3, h4, h5, h6, h7, h8, h9, h10, h11⟩ := h
  have hne := sep_ne hc
  refine ⟨⟨by omega, fun z => by omega⟩, h3, h4, h5, ?_, h7, h8, ask_n hne.2.2.2 h9, Or.inl rfl, fun L hL => ⟨fun _ => ?_, fun z => absurd z (by decide), fun z => absurd z (by decide)⟩⟩
  · rw [h6]
    show _ = 1 + (cb f i + (if f i = 124 then 1 else 0))
    omega
  · have e : L = t := by omega
    subst e
    obtain ⟨k0, k6, k7, k8⟩ := (h11 L rfl).2.2 (Int32.le_of_lt h2s)
    have hd : 1 ≤ dl L := by
      rw [k6] at h2s
      have := (nI_ltI (a := 2) (by omega) (by have := k0.2.2.1; omega)).mp h2s
      omega
    rw [← k7]
    refine ⟨k0, hd, hc, by omega, ?_⟩
    by_cases q : f i = 124
    · rw [if_pos q, if_pos q, ← nI_S, k8]
    · rw [if_neg q, if_neg q, Nat.add_zero, k8]
theorem LrI.zero {f : Nat → Int32} {ps dl : Nat → Nat} {A39 A40 A41 A42 : Nat → Int32} : LrI f 0 0 0 ps dl 1 0 A39 A40 A41 A42 := by
  refine ⟨⟨by omega, fun _ => rfl⟩, fun z => by omega, fun x h => by omega, fun x h => by omega, rfl, Or.inl rfl, ⟨fun z => absurd z n01, fun ⟨x, h, _⟩ => by omega⟩, ⟨fun z => absurd z n01, fun ⟨x, h, _⟩ => by omega⟩, Or.inl rfl, fun L h => by omega⟩
/-- the class's walk over the signs -/
theorem s_49w {σ : St} {f : Nat → Int32} {n : Nat} (hn : n ≤ 50) (en : σ.1 6 1 = nI n) (hf : ∀ k, k < n → σ.1 38 k = f k) : ∀ k i s t ps dl b aa A39 A40 A41 A42, i + k = n → st6 s → flt f n k i s = -6 → LrI f i s t ps dl b aa A39 A40 A41 A42 →
    ∃ r : Int32 × Nat × (Nat → Nat) × (Nat → Nat) × Nat × Int32 × (Nat → Int32) × (Nat → Int32) × (Nat → Int32) × (Nat → Int32), (2 < r.1 ∧ LrI f n r.1 r.2.1 r.2.2.1 r.2.2.2.1 r.2.2.2.2.1 r.2.2.2.2.2.1 r.2.2.2.2.2.2.1 r.2.2.2.2.2.2.2.1 r.2.2.2.2.2.2.2.2.1 r.2.2.2.2.2.2.2.2.2) ∧
      Go 49 17 [.ref 6, .int (nI i), .null] [] (ust σ (nI t) (nI b) aa A39 A40 A41 A42) [] (ust σ (nI r.2.1) (nI r.2.2.2.2.1) r.2.2.2.2.2.1 r.2.2.2.2.2.2.1 r.2.2.2.2.2.2.2.1 r.2.2.2.2.2.2.2.2.1 r.2.2.2.2.2.2.2.2.2) := by
  intro k
  induction k with
  | zero =>
    intro i s t ps dl b aa A39 A40 A41 A42 hi hs hflt hI
    have e : i = n := by omega
    subst e
    refine ⟨(s, t, ps, dl, b, aa, A39, A40, A41, A42), ⟨?_, hI⟩, g_49_17 (br_f (by show ¬ nI i < σ.1 6 1; rw [en]; exact Int32.lt_irrefl) ⟨rfl, rfl⟩)⟩
    unfold flt at hflt
    by_cases q : s ≤ 2
    · rw [if_pos q] at hflt; exact absurd hflt (neg6_nI (by omega))
    · exact Int32.not_le.mp q
  | succ k ih =>
    intro i s t ps dl b aa A39 A40 A41 A42 hi hs hflt hI
    obtain ⟨hx, hf2⟩ := flt_ok (by omega) hflt
    have hst := nxt_rng hs hx
    have ei : (nI i).toNatClampNeg = i := clN (by omega)
    have lt : nI i < (ust σ (nI t) (nI b) aa A39 A40 A41 A42).1 6 1 := by
      show nI i < σ.1 6 1
      rw [en]; exact (nI_ltI (by omega) (by omega)).mpr (by omega)
    have vi : vp_in (nI i) 50 := vp_in_nI (by omega) (by decide)
    have e38 : (ust σ (nI t) (nI b) aa A39 A40 A41 A42).1 38 (nI i).toNatClampNeg = f i := by rw [ei]; exact hf i (by omega)
    have hti := hI.1.1
    by_cases h0 : s = 0
    · subst h0
      rcases (Classical.em (isFactS (f i))).symm with q | q
      · exact absurd (by unfold nxt; rw [if_pos rfl, if_neg q]) hx
      have e : nxt 0 (f i) = 1 := by unfold nxt; rw [if_pos rfl, if_pos q]
      rw [e] at hf2 hst
      obtain ⟨r, h1, h2⟩ := ih (i + 1) 1 (t + 1) _ _ b _ _ _ _ _ (by omega) hst hf2 (hI.opn q)
      refine ⟨r, h1, g_49_17 (br_t lt ⟨vi, ?_⟩)⟩
      rw [e38, nI_S]
      exact ⟨_, _, s_46t q, br_f (by decide) ⟨_, s_50 (by omega), h2⟩⟩
    · have ht : 0 < t := by
        rcases hI.2.2.2.2.2.2.2.2.1 with z | z
        · exact absurd z h0
        · exact z
      obtain ⟨t, rfl⟩ : ∃ u, t = u + 1 := ⟨t - 1, by omega⟩
      have npos : ¬ (ust σ (nI (t + 1)) (nI b) aa A39 A40 A41 A42).1 6 6 ≤ 0 := by
        show ¬ nI (t + 1) ≤ 0
        rw [nI_pos_iff (by omega)]
        omega
      have em1 : (ust σ (nI (t + 1)) (nI b) aa A39 A40 A41 A42).1 6 6 - 1 = nI t := by
        show nI (t + 1) - 1 = nI t
        rw [← nI_S]; grind
      have et : (nI t).toNatClampNeg = t := clN (by omega)
      have vt : vp_in (nI t) 50 := vp_in_nI (by omega) (by decide)
      by_cases h1 : s = 1
      · subst h1
        rcases (Classical.em (isCmpS (f i))).symm with q | q
        · exact absurd (by unfold nxt; rw [if_neg n10, if_pos rfl, if_neg q]) hx
        have e : nxt 1 (f i) = 2 := by unfold nxt; rw [if_neg n10, if_pos rfl, if_pos q]
        rw [e] at hf2 hst
        have hne := cmp_ne q
        obtain ⟨r, h1, h2⟩ := ih (i + 1) 2 (t + 1) _ _ b _ _ _ _ _ (by omega) hst hf2 (hI.cmp q)
        refine ⟨r, h1, g_49_17 (br_t lt ⟨vi, ?_⟩)⟩
        rw [e38, nI_S]
        refine ⟨_, _, s_46f hne.2.2.1, br_t rfl (br_f hne.1 (br_f npos ⟨_, _, s_47t q, br_f (by decide) ?_⟩))⟩
        rw [em1, et, ust_40]
        exact ⟨vt, h2⟩
      · by_cases q : isDigS (f i)
        · rcases (Classical.em (s < 5)).symm with h5 | h5
          · exact absurd (by unfold nxt; rw [if_neg h0, if_neg h1, if_pos q, if_neg h5]) hx
          have e : nxt s (f i) = s + 1 := by unfold nxt; rw [if_neg h0, if_neg h1, if_pos q, if_pos h5]
          rw [e] at hf2 hst
          have hne := dig_ne q
          have h2s : 2 ≤ s := by unfold st6 at hs; grind
          obtain ⟨r, k1, k2⟩ := ih (i + 1) (s + 1) (t + 1) _ _ b _ _ _ _ _ (by omega) hst hf2 (hI.dig h2s h5 q)
          refine ⟨r, k1, g_49_17 (br_t lt ⟨vi, ?_⟩)⟩
          rw [e38, nI_S]
          refine ⟨_, _, s_46f hne.2.2.1, br_t rfl (br_f hne.1 (br_f npos ⟨_, _, s_47f hne.2.2.2.1, br_t rfl (br_f npos ⟨_, _, s_48t q, br_f (by decide) ?_⟩)⟩))⟩
          rw [em1, et, ust_41]
          exact ⟨vt, k2⟩
        · rcases (Classical.em ((f i = 38 ∨ f i = 124) ∧ 2 < s)).symm with h2s | h2s
          · exact absurd (by unfold nxt; rw [if_neg h0, if_neg h1, if_neg q, if_neg h2s]) hx
          have e : nxt s (f i) = 0 := by unfold nxt; rw [if_neg h0, if_neg h1, if_neg q, if_pos h2s]
          rw [e] at hf2 hst
          have hne := sep_ne h2s.1
          obtain ⟨r, k1, k2⟩ := ih (i + 1) 0 (t + 1) _ _ _ _ _ _ _ _ (by omega) hst hf2 (hI.sep h2s.2 h2s.1)
          refine ⟨r, k1, g_49_17 (br_t lt ⟨vi, ?_⟩)⟩
          rw [e38, nI_S]
          by_cases hb : f i = 124
          · rw [if_pos hb, ← nI_S (i := b)] at k2
            refine ⟨_, _, s_46f hne.1, br_t rfl (br_t hb ?_)⟩
            rw [ust_67]
            exact k2
          · rw [if_neg hb, Nat.add_zero] at k2
            exact ⟨_, _, s_46f hne.1, br_t rfl (br_f hb (br_f npos ⟨_, _, s_47f hne.2.1, br_t rfl (br_f npos ⟨_, _, s_48f q, br_t rfl k2⟩)⟩))⟩
/-! the model's rule -/
theorem s_148 {τ : St} {w : Nat} (hw : w ≤ 50) (ew : τ.1 11 15 = nI w) : Ret 148 [.ref 11] τ [.int (nI ((if w = 0 then 0 else 1) + cb (τ.1 63) w))] τ := by
  have cbl : ∀ i, cb (τ.1 63) i ≤ i := by
    intro i
    induction i with
    | zero => exact Nat.le_refl 0
    | succ i ih => show cb (τ.1 63) i + (if τ.1 63 i = 124 then 1 else 0) ≤ i + 1; split <;> omega
  have go : ∀ v, v ≤ 1 → Go 148 15 [.ref 11, .int (nI v), .int 0] [] τ [.int (nI (v + cb (τ.1 63) w))] τ := by
    intro v hv
    refine loopN w (fun i => Go 148 15 [.ref 11, .int (nI (v + cb (τ.1 63) i)), .int (nI i)] [] τ [.int (nI (v + cb (τ.1 63) w))] τ) (fun i hi h => ?_) ?_ 0 (by omega)
    · have ei : (nI i).toNatClampNeg = i := clN (by omega)
      have h : Go 148 15 [.ref 11, .int (nI (v + (cb (τ.1 63) i + (if τ.1 63 i = 124 then 1 else 0)))), .int (nI (i + 1))] [] τ [.int (nI (v + cb (τ.1 63) w))] τ := h
      refine g_148_15 (br_t (by rw [ew]; exact (nI_ltI (by omega) (by omega)).mpr hi) ⟨vp_in_nI (by omega) (by decide), ?_⟩)
      rw [ei, nI_S (i := i), Int32.add_zero]
      by_cases q : τ.1 63 i = 124
      · rw [if_pos q, ← Nat.add_assoc, ← nI_S (i := v + cb (τ.1 63) i)] at h
        exact br_t q h
      · rw [if_neg q, Nat.add_zero] at h
        exact br_f q h
    · exact g_148_15 (br_f (by rw [ew]; exact Int32.lt_irrefl) ⟨rfl, rfl⟩)
  by_cases z : w = 0
  · rw [if_pos z]
    exact g_148_0 (br_t (by rw [ew, z]; decide) (go 0 (by omega)))
  · rw [if_neg z]
    exact g_148_0 (br_f (by rw [ew, nI_pos_iff (by omega)]; omega) (go 1 (by omega)))
theorem p_rule {σ : St} (hR : Rel σ) : PairI 80 149 [] σ := by
  obtain ⟨hS, hG, hH, hL, hP, hM, hA, hT, hD, hF, hU⟩ := id hR
  obtain ⟨n, hn, e1, e2, hs⟩ := hS
  have x44 := s_44 hn e1
  have m146 := fun (τ : St) (e : τ.1 11 13 = nI n) => s_146 (σ := τ) hn e
  rcases (Classical.em (flt (σ.1 38) n n 0 0 = -6)).symm with hflt | hflt
  · refine ⟨-5, _, _, g_80_0 ⟨_, _, x44, br_f hflt ⟨rfl, rfl⟩⟩, g_149_0 ⟨_, _, m146 σ e2, br_f ?_ ⟨rfl, rfl⟩⟩, hR⟩
    rw [← flt_eq hs]
    rcases flt_rng (f := σ.1 38) (n := n) n 0 0 (by omega) (by omega) with z | z
    · exact absurd z hflt
    · exact Int32.not_lt.mpr z
  have hz : ∀ k, k < n → σ.1 38 k = cpj (σ.1 62) (σ.1 63) n k := by
    intro k hk
    rw [hs k hk]
    unfold cpj
    rw [if_pos hk]
  have hflt2 : flt (cpj (σ.1 62) (σ.1 63) n) n n 0 0 = -6 := by
    rw [← flt_congr n 0 0 (fun j _ hj => hz j (by omega))]
    exact hflt
  obtain ⟨⟨s, t, ps, dl, b, aa, A39, A40, A41, A42⟩, ⟨hs2, hI⟩, hgo⟩ := s_49w (σ := σ) hn e1 hz n 0 0 0 (fun _ => 0) (fun _ => 0) 1 0 (σ.1 39) (σ.1 40) (σ.1 41) (σ.1 42) (by omega) (by unfold st6; decide) hflt2 LrI.zero
  have hs2 : 2 < s := hs2
  have hI : LrI (cpj (σ.1 62) (σ.1 63) n) n s t ps dl b aa A39 A40 A41 A42 := hI
  have hgo : Go 49 17 [.ref 6, .int 0, .null] [] (ust σ 0 1 0 (σ.1 39) (σ.1 40) (σ.1 41) (σ.1 42)) [] (ust σ (nI t) (nI b) aa A39 A40 A41 A42) := hgo
  have x49 : Ret 49 [.ref 6] σ [] (ust σ (nI t) (nI b) aa A39 A40 A41 A42) := by
    refine g_49_0 ?_
    rw [ust_0]
    exact hgo
  obtain ⟨⟨h1, h2⟩, h3, h4, h5, h6, h7, h8, h9, h10, h11⟩ := id hI
  have ht : 0 < t := by
    rcases h10 with z | z
    · rw [z] at hs2; exact absurd hs2 (by decide)
    · exact z
  have hn0 : ¬ n = 0 := by omega
  -- the model
  have mgo : Ret 149 [.ref 11] (wr (ust σ (nI t) (nI b) aa A39 A40 A41 A42) 6 1 0) [.int (nI b)] (wr (setR (wr (wr (ust σ (nI t) (nI b) aa A39 A40 A41 A42) 6 1 0) 11 15 (nI n)) 63 (cpj (σ.1 62) (σ.1 63) n)) 11 13 0) := by
    generalize hτ : wr (ust σ (nI t) (nI b) aa A39 A40 A41 A42) 6 1 0 = τ
    have t13 : τ.1 11 13 = nI n := by rw [← hτ]; exact e2
    have t62 : τ.1 62 = σ.1 62 := by rw [← hτ]; rfl
    have t63 : τ.1 63 = σ.1 63 := by rw [← hτ]; rfl
    refine g_149_0 ⟨_, _, m146 τ t13, br_t ?_ ?_⟩
    · rw [t62, ← flt_eq hs, hflt]; decide
    · rw [t13]
      have key := loopN n (fun i => Go 149 20 [.ref 11, .int (nI i)] [] (setR (wr τ 11 15 (nI n)) 63 (cpj (τ.1 62) (τ.1 63) i)) [.int (nI b)] (wr (setR (wr τ 11 15 (nI n)) 63 (cpj (σ.1 62) (σ.1 63) n)) 11 13 0)) ?_ ?_ 0 (by omega)
      · have e0 : cpj (τ.1 62) (τ.1 63) 0 = (wr τ 11 15 (nI n)).1 63 := by
          funext u; unfold cpj; rw [if_neg (by omega)]; rfl
        rw [e0, setR_self] at key
        exact key
      · intro i hi h
        have ei : (nI i).toNatClampNeg = i := clN (by omega)
        have lt : nI i < (setR (wr τ 11 15 (nI n)) 63 (cpj (τ.1 62) (τ.1 63) i)).1 11 13 := by
          show nI i < τ.1 11 13
          rw [t13]; exact (nI_ltI (by omega) (by omega)).mpr hi
        refine g_149_20 (br_t lt ⟨vp_in_nI (by omega) (by decide), ?_⟩)
        rw [ei, nI_S, wr_setR]
        have eS : upd (cpj (τ.1 62) (τ.1 63) i) i ((setR (wr τ 11 15 (nI n)) 63 (cpj (τ.1 62) (τ.1 63) i)).1 62 i) = cpj (τ.1 62) (τ.1 63) (i + 1) := by
          funext u
          rw [cpj_S]
          unfold upd
          by_cases e : u = i
          · rw [if_pos e, if_pos e]; rfl
          · rw [if_neg e, if_neg e]
        rw [eS]
        exact h
      · have nlt : ¬ nI n < (setR (wr τ 11 15 (nI n)) 63 (cpj (τ.1 62) (τ.1 63) n)).1 11 13 := by
          show ¬ nI n < τ.1 11 13
          rw [t13]; exact Int32.lt_irrefl
        have m148 := s_148 (τ := wr (setR (wr τ 11 15 (nI n)) 63 (cpj (τ.1 62) (τ.1 63) n)) 11 13 0) (w := n) hn rfl
        refine g_149_20 (br_f nlt ⟨_, _, m148, ?_, ?_⟩)
        · rw [if_neg hn0]
          show [Value.int (nI b)] = [Value.int (nI (1 + cb (cpj (τ.1 62) (τ.1 63) n) n))]
          rw [h6, t62, t63]
        · rw [t62, t63]
  refine ⟨nI b, _, _, g_80_0 ⟨_, _, x44, br_t hflt ⟨_, x49, rfl, rfl⟩⟩, mgo, ⟨0, by omega, rfl, rfl, fun k hk => by omega⟩, hG, hH, hL, hP, hM, hA, hT, hD, hF, ?_⟩
  show RelU (nI t) (nI b) aa (nI n) A39 A40 A41 A42 (cpj (σ.1 62) (σ.1 63) n)
  obtain ⟨L, rfl⟩ : ∃ L, t = L + 1 := ⟨t - 1, by omega⟩
  obtain ⟨kl, k6, k7, k8⟩ := (h11 L rfl).2.2 (Int32.le_of_lt hs2)
  have hdl : 1 ≤ dl L := by
    rw [k6] at hs2
    have := (nI_ltI (a := 2) (by omega) (by have := kl.2.2.1; omega)).mp hs2
    omega
  refine ⟨n, L + 1, ps, dl, hn, rfl, rfl, by omega, by omega, ⟨(h3 (by omega)).1, fun x hx => ?_⟩, fun x hx => ?_, fun _ => (h3 (by omega)).2, fun x hx => (h5 x hx).2.2.2.2, fun z => by omega, fun x hx => ?_, fun x hx => (h4 x hx).2.2, h7, h8, h9, by rw [h6, if_neg hn0]⟩
  · by_cases e : x = L
    · subst e
      exact ⟨(h4 x hx).1, kl.1, hdl, kl.2.2.1, kl.2.2.2.1, fun z => by omega, fun _ => k7.symm⟩
    · obtain ⟨c1, c2, c3, c4, c5⟩ := h5 x (by omega)
      exact ⟨(h4 x hx).1, c1.1, c2, c1.2.2.1, c1.2.2.2.1, fun _ => ⟨c3, c4⟩, fun z => by omega⟩
  · by_cases e : x = L
    · subst e
      exact ⟨(h4 x hx).2.1, kl.2.1, kl.2.2.2.2⟩
    · obtain ⟨c1, c2, c3, c4, c5⟩ := h5 x (by omega)
      exact ⟨(h4 x hx).2.1, c1.2.1, c1.2.2.2.2⟩
  · have e : x = L := by omega
    subst e
    exact k8
