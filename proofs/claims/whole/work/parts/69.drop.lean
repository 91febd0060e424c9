/-! drop: the model, the pair -/
theorem BsQ.first {P : Nat → Prop} {s : Nat} (h : ∀ t, t < s → ¬ P t) (hs : P s) : BsQ P (s + 1) s := by
  refine ⟨by omega, hs, fun t ht hp => ?_⟩
  by_cases e : t = s
  · exact Or.inr ⟨by rw [e], by omega⟩
  · exact absurd hp (h t (by omega))
theorem BsQ.better {P : Nat → Prop} {s B : Nat} (h : BsQ P s B) (hs : P s) (hlt : pcN s 12 < pcN B 12) : BsQ P (s + 1) s := by
  refine ⟨by omega, hs, fun t ht hp => ?_⟩
  by_cases e : t = s
  · exact Or.inr ⟨by rw [e], by omega⟩
  · have := h.2.2 t (by omega) hp
    omega
theorem BsQ.keep {P : Nat → Prop} {s B : Nat} (h : BsQ P s B) (hs : ¬ (P s ∧ pcN s 12 < pcN B 12)) : BsQ P (s + 1) B := by
  have h1 := h.1
  refine ⟨by omega, h.2.1, fun t ht hp => ?_⟩
  by_cases e : t = s
  · subst e
    have : ¬ pcN t 12 < pcN B 12 := fun z => hs ⟨hp, z⟩
    omega
  · exact h.2.2 t (by omega) hp
def bsE (P : Nat → Prop) (N : Nat) (b : Int32) : Prop := (b = -6 ∧ ∀ t, t < N → ¬ P t) ∨ ∃ B, b = nI B ∧ BsQ P N B
/-- the model's walk over all sets -/
theorem s_182w {τ : St} {dy sk : Nat → Int32} {v1 : Int32} {N : Nat} (hN : N ≤ 1024) (hdy : ∀ l, l < 144 → dy l = -1 ∨ ∃ d, d < 10 ∧ dy l = nI d) (hq : TmQ dy sk (τ.1 74) (τ.1 75)) (hu : NuQ dy sk (τ.1 87)) : ∃ r : Int32 × (Nat → Int32), bsE (OkK dy sk) N r.1 ∧ ∀ R S, ((r.1 < 0 → (R = [.int (-5)] ∧ S = setR τ 86 r.2)) ∧ (¬ r.1 < 0 → ((v1 = 0 → (R = [.int r.1] ∧ S = setR τ 86 r.2)) ∧ (¬ v1 = 0 → (∃ (r1 : Int32) (σ1 : St), Ret 181 [.int r.1] (setR τ 86 r.2) [.int r1] σ1 ∧ (R = [.int r1] ∧ S = σ1)))))) → Go 182 100 [.ref 11, .int v1, .null, .int (nI N), .int (-6), .int 0] [] τ R S := by
  have key := loopX (α := Int32 × (Nat → Int32)) (β := Int32 × (Nat → Int32)) N
    (fun s x => bsE (OkK dy sk) s x.1)
    (fun s x r => ∀ R S, ((r.1 < 0 → (R = [.int (-5)] ∧ S = setR τ 86 r.2)) ∧ (¬ r.1 < 0 → ((v1 = 0 → (R = [.int r.1] ∧ S = setR τ 86 r.2)) ∧ (¬ v1 = 0 → (∃ (r1 : Int32) (σ1 : St), Ret 181 [.int r.1] (setR τ 86 r.2) [.int r1] σ1 ∧ (R = [.int r1] ∧ S = σ1)))))) → Go 182 100 [.ref 11, .int v1, .null, .int (nI N), .int x.1, .int (nI s)] [] (setR τ 86 x.2) R S)
    (fun r => bsE (OkK dy sk) N r.1) ?_ ?_ 0 (-6, τ.1 86) (by omega) (Or.inl ⟨rfl, fun t h => by omega⟩)
  · obtain ⟨r, h1, h2⟩ := key
    rw [setR_self] at h2
    exact ⟨r, h1, h2⟩
  · rintro s ⟨b, F⟩ hs hI
    have lt : nI s < nI N := (nI_ltI (by omega) (by omega)).mpr hs
    obtain ⟨G, U, hU, h179⟩ := s_179 (τ := setR τ 86 F) (dy := dy) (sk := sk) (K := s) (by omega) hdy hq hu
    rw [setR2] at h179
    have hz : nI U = 0 ↔ OkK dy sk s := by
      rw [nI_0iff]
      · exact hU.zero
      · refine Nat.lt_of_lt_of_le (m := 2 ^ 10) (Nat.lt_pow_two_of_testBit U (fun i hi => ?_)) (by decide)
        cases hb : U.testBit i
        · rfl
        · exact absurd ((hU i).mp hb).1 (by omega)
    rcases hI with ⟨e, hall⟩ | ⟨B, e, hB⟩
    · have e : b = -6 := e
      subst e
      by_cases ok : OkK dy sk s
      · refine ⟨(nI s, G), Or.inr ⟨s, rfl, BsQ.first hall ok⟩, fun r h R S k => g_182_100 (br_t lt (br_t (show (-6 : Int32) < 0 by decide) ⟨_, _, h179, br_t (hz.mpr ok) ?_⟩))⟩
        rw [nI_S]
        exact h R S k
      · refine ⟨(-6, G), Or.inl ⟨rfl, fun t ht => ?_⟩, fun r h R S k => g_182_100 (br_t lt (br_t (show (-6 : Int32) < 0 by decide) ⟨_, _, h179, br_f (fun z => ok (hz.mp z)) ?_⟩))⟩
        · by_cases e : t = s
          · rw [e]; exact ok
          · exact hall t (by omega)
        · rw [nI_S]
          exact h R S k
    · have e : b = nI B := e
      subst e
      have hBs := hB.1
      have nb : ¬ nI B < 0 := Int32.not_lt.mpr (nI0 (by omega))
      have p1 := pc_le (K := s) 12
      have p2 := pc_le (K := B) 12
      have c1 : Ret 181 [.int (nI s)] (setR τ 86 F) [.int (nI (pcN s 12))] (setR τ 86 F) := s_181 (by omega)
      have c2 : Ret 181 [.int (nI B)] (setR τ 86 F) [.int (nI (pcN B 12))] (setR τ 86 F) := s_181 (by omega)
      by_cases q : pcN s 12 < pcN B 12
      · have q' : nI (pcN s 12) < nI (pcN B 12) := (nI_ltI (by omega) (by omega)).mpr q
        by_cases ok : OkK dy sk s
        · refine ⟨(nI s, G), Or.inr ⟨s, rfl, hB.better ok q⟩, fun r h R S k => g_182_100 (br_t lt (br_f nb ⟨_, _, c1, _, _, c2, br_t q' ⟨_, _, h179, br_t (hz.mpr ok) ?_⟩⟩))⟩
          rw [nI_S]
          exact h R S k
        · refine ⟨(nI B, G), Or.inr ⟨B, rfl, hB.keep (fun z => ok z.1)⟩, fun r h R S k => g_182_100 (br_t lt (br_f nb ⟨_, _, c1, _, _, c2, br_t q' ⟨_, _, h179, br_f (fun z => ok (hz.mp z)) ?_⟩⟩))⟩
          rw [nI_S]
          exact h R S k
      · have q' : ¬ nI (pcN s 12) < nI (pcN B 12) := fun z => q ((nI_ltI (by omega) (by omega)).mp z)
        refine ⟨(nI B, F), Or.inr ⟨B, rfl, hB.keep (fun z => q z.2)⟩, fun r h R S k => g_182_100 (br_t lt (br_f nb ⟨_, _, c1, _, _, c2, br_f q' ?_⟩))⟩
        rw [nI_S]
        exact h R S k
  · rintro ⟨b, F⟩ hI
    exact ⟨(b, F), hI, fun R S k => g_182_100 (br_f Int32.lt_irrefl k)⟩
theorem rkc_S {dy sk : Nat → Int32} {l : Nat} : (oP dy sk l → rkc (orf dy sk) (l + 1) = rkc (orf dy sk) l + 1) ∧ (¬ oP dy sk l → rkc (orf dy sk) (l + 1) = rkc (orf dy sk) l) := by
  constructor
  · intro h
    show rkc (orf dy sk) l + (if orf dy sk l ≤ 0 then 0 else 1) = _
    rw [if_neg (orf_iff.mpr h)]
  · intro h
    show rkc (orf dy sk) l + (if orf dy sk l ≤ 0 then 0 else 1) = _
    rw [if_pos (Classical.byContradiction fun z => h (orf_iff.mp z))]
    rfl
/-- the count's walk: no tie has the number asked for -/
theorem s_182c {τ : St} {dy sk : Nat → Int32} {v1 : Int32} {n : Nat} (hu : NuQ dy sk (τ.1 87)) (hn : ∀ l, l < n → oP dy sk l → ¬ nI (rkc (orf dy sk) l) = v1 - 10) (hn2 : n ≤ 144) {R : List Value} {S : St} (h : Go 182 29 [.ref 11, .int v1, .int (nI (rkc (orf dy sk) n)), .int (nI n), .null, .null] [] τ R S) : Go 182 29 [.ref 11, .int v1, .int 0, .int 0, .null, .null] [] τ R S := by
  refine loopN n (fun i => Go 182 29 [.ref 11, .int v1, .int (nI (rkc (orf dy sk) i)), .int (nI i), .null, .null] [] τ R S) (fun i hi h => ?_) h 0 (by omega)
  have ei : (nI i).toNatClampNeg = i := clN (by omega)
  have lt : nI i < 144 := (nI_ltL (n := 144) rfl (by omega) (by decide)).mpr (by omega)
  refine g_182_29 (br_t lt ⟨vp_in_nI (by omega) (by decide), ?_⟩)
  rw [ei, nI_S]
  by_cases ho : oP dy sk i
  · rw [rkc_S.1 ho] at h
    rw [(hu i (by omega)).1 ho]
    refine br_f (Int32.not_lt.mpr (nI0 (by have := rkc_le (f := orf dy sk) i; omega))) (br_f (hn i hi ho) ?_)
    rw [nI_S]
    exact h
  · rw [rkc_S.2 ho] at h
    rw [(hu i (by omega)).2 ho]
    exact br_t (by decide) h
theorem ten_sh : (1 : Int32) <<< ((10 : Int32) &&& 31) = nI (2 ^ 10) := by decide
theorem s_182b {τ : St} {dy sk : Nat → Int32} {v1 : Int32} (h1 : v1 = 0 ∨ v1 = 1) (hu : NuQ dy sk (τ.1 87)) {R : List Value} {S : St} (h : Go 182 100 [.ref 11, .int v1, .null, .int (nI (2 ^ mvN dy sk)), .int (-6), .int 0] [] τ R S) : Go 182 29 [.ref 11, .int v1, .int 0, .int 0, .null, .null] [] τ R S := by
  have hn : rkc (orf dy sk) 144 ≤ 144 := rkc_le 144
  refine s_182c (n := 144) hu (fun l hl ho e => ?_) (by omega) (g_182_29 (br_f (by decide) (br_t ?_ ?_)))
  · have := nI0 (k := rkc (orf dy sk) l) (by have := rkc_le (f := orf dy sk) l; omega)
    rw [e] at this
    rcases h1 with rfl | rfl <;> exact absurd this (by decide)
  · rcases h1 with rfl | rfl <;> decide
  · unfold mvN at h
    by_cases q : 10 < rkc (orf dy sk) 144
    · rw [if_pos q, ← ten_sh] at h
      exact br_f (fun z => by have := (nI_leL (n := 10) rfl (by omega) (by decide)).mp z; omega) h
    · rw [if_neg q, ← nI_shl1 _ (by omega)] at h
      exact br_t ((nI_leL (n := 10) rfl (by omega) (by decide)).mpr (by omega)) h
theorem drop_m {σ : St} {v1 : Int32} (hR : Rel σ) (h1 : v1 = 0 ∨ v1 = 1) : ∃ r : Int32 × (Nat → Int32), bsE (OkK (σ.1 47) (σ.1 48)) (2 ^ mvN (σ.1 47) (σ.1 48)) r.1 ∧ ∀ R S, ((r.1 < 0 → (R = [.int (-5)] ∧ S = setR (setR σ 87 (nmR (orf (σ.1 47) (σ.1 48)) (σ.1 87) 144)) 86 r.2)) ∧ (¬ r.1 < 0 → ((v1 = 0 → (R = [.int r.1] ∧ S = setR (setR σ 87 (nmR (orf (σ.1 47) (σ.1 48)) (σ.1 87) 144)) 86 r.2)) ∧ (¬ v1 = 0 → (∃ (r1 : Int32) (σ1 : St), Ret 181 [.int r.1] (setR (setR σ 87 (nmR (orf (σ.1 47) (σ.1 48)) (σ.1 87) 144)) 86 r.2) [.int r1] σ1 ∧ (R = [.int r1] ∧ S = σ1)))))) → Ret 182 [.ref 11, .int v1] σ R S := by
  have hm := mvN_le (dy := σ.1 47) (sk := σ.1 48)
  have h2 : 2 ^ mvN (σ.1 47) (σ.1 48) ≤ 2 ^ 10 := Nat.pow_le_pow_right (by decide) hm
  obtain ⟨r, h3, h4⟩ := s_182w (τ := setR σ 87 (nmR (orf (σ.1 47) (σ.1 48)) (σ.1 87) 144)) (v1 := v1) h2 (rT_day hR) hR.tmq nm_Q
  refine ⟨r, h3, fun R S k => g_182_0 ⟨_, _, s_126, br_f ?_ ⟨_, s_178 hR.tmq, s_182b h1 nm_Q (h4 R S k)⟩⟩⟩
  rcases h1 with rfl | rfl <;> decide
theorem p_drop {σ : St} {a : Int32} (hR : Rel σ) : PairI 96 182 [.int a] σ := by
  have hn : rkc (orf (σ.1 47) (σ.1 48)) 144 ≤ 144 := rkc_le 144
  by_cases h1 : a = 0 ∨ a = 1
  · have hm := mvN_le (dy := σ.1 47) (sk := σ.1 48)
    have h2 : 2 ^ mvN (σ.1 47) (σ.1 48) ≤ 2 ^ 10 := Nat.pow_le_pow_right (by decide) hm
    have hp : 0 < 2 ^ mvN (σ.1 47) (σ.1 48) := Nat.pow_pos (by decide)
    rcases s_65 (τ := lo σ) (rT_day hR) lo_Q with ⟨hno, F, hx⟩ | ⟨⟨F, B⟩, hB, hx⟩
    · obtain ⟨r, h3, h4⟩ := drop_m (σ := setR (lo σ) 51 F) hR.lo.r51 h1
      have e : r.1 = -6 := by
        rcases h3 with ⟨e, _⟩ | ⟨C, _, hC⟩
        · exact e
        · exact absurd hC.2.1.all hno
      have hc : Ret 96 [.ref 10, .int a] σ [.int (-5)] (setR (lo σ) 51 F) := by
        rcases h1 with rfl | rfl
        · exact (g_96_0 (br_t (by (try simp only [bI_0, vp_6, vp_9, vp_10, vp_12, vp_18, vp_30, vp_31, vp_50, vp_60, vp_144, vp_154, vp_180, vp_432, vp_3600]) <;> grind) (br_t (by (try simp only [bI_0, vp_6, vp_9, vp_10, vp_12, vp_18, vp_30, vp_31, vp_50, vp_60, vp_144, vp_154, vp_180, vp_432, vp_3600]) <;> grind) ⟨_, s_62, ⟨_, _, hx, (br_t (by (try simp only [bI_0, vp_6, vp_9, vp_10, vp_12, vp_18, vp_30, vp_31, vp_50, vp_60, vp_144, vp_154, vp_180, vp_432, vp_3600]) <;> grind) ⟨rfl, rfl⟩)⟩⟩)))
        · exact (g_96_0 (br_t (by (try simp only [bI_0, vp_6, vp_9, vp_10, vp_12, vp_18, vp_30, vp_31, vp_50, vp_60, vp_144, vp_154, vp_180, vp_432, vp_3600]) <;> grind) (br_f (by (try simp only [bI_0, vp_6, vp_9, vp_10, vp_12, vp_18, vp_30, vp_31, vp_50, vp_60, vp_144, vp_154, vp_180, vp_432, vp_3600]) <;> grind) (br_t (by (try simp only [bI_0, vp_6, vp_9, vp_10, vp_12, vp_18, vp_30, vp_31, vp_50, vp_60, vp_144, vp_154, vp_180, vp_432, vp_3600]) <;> grind) ⟨_, s_62, ⟨_, _, hx, (br_t (by (try simp only [bI_0, vp_6, vp_9, vp_10, vp_12, vp_18, vp_30, vp_31, vp_50, vp_60, vp_144, vp_154, vp_180, vp_432, vp_3600]) <;> grind) ⟨rfl, rfl⟩)⟩⟩))))
      exact ⟨-5, _, _, hc, h4 _ _ ⟨fun _ => ⟨rfl, rfl⟩, fun z => absurd (by rw [e]; decide) z⟩, hR.lo.r51.r87.r86⟩
    · have hB : BsQ (OkK (σ.1 47) (σ.1 48)) (2 ^ mvN (σ.1 47) (σ.1 48)) B := hB
      have hBl := hB.1
      have hx : Ret 65 [.ref 9] (lo σ) [.int (nI B)] (setR (lo σ) 51 F) := hx
      obtain ⟨r, h3, h4⟩ := drop_m (σ := setR (lo σ) 51 F) hR.lo.r51 h1
      have e : r.1 = nI B := by
        rcases h3 with ⟨_, hall⟩ | ⟨C, e, hC⟩
        · exact absurd hB.2.1 (hall B hB.1)
        · rw [e, hB.uniq hC]
      have nb : ¬ r.1 < 0 := by rw [e]; exact Int32.not_lt.mpr (nI0 (by omega))
      have n1 : ¬ nI B = -1 := neg1_nI (by omega)
      rcases h1 with rfl | rfl
      · exact ⟨nI B, _, _, (g_96_0 (br_t (by (try simp only [bI_0, vp_6, vp_9, vp_10, vp_12, vp_18, vp_30, vp_31, vp_50, vp_60, vp_144, vp_154, vp_180, vp_432, vp_3600]) <;> grind) (br_t (by (try simp only [bI_0, vp_6, vp_9, vp_10, vp_12, vp_18, vp_30, vp_31, vp_50, vp_60, vp_144, vp_154, vp_180, vp_432, vp_3600]) <;> grind) ⟨_, s_62, ⟨_, _, hx, (br_f (by (try simp only [bI_0, vp_6, vp_9, vp_10, vp_12, vp_18, vp_30, vp_31, vp_50, vp_60, vp_144, vp_154, vp_180, vp_432, vp_3600]) <;> grind) ⟨rfl, rfl⟩)⟩⟩))), h4 _ _ ⟨fun z => absurd z nb, fun _ => ⟨fun _ => ⟨by rw [e], rfl⟩, fun z => absurd rfl z⟩⟩, hR.lo.r51.r87.r86⟩
      · have h209 : Ret 209 [.int (nI B)] (setR (lo σ) 51 F) [.int (nI (pcN B 12))] (setR (lo σ) 51 F) := by
          rw [← bc_pc B (by omega)]; exact s_209
        have hm : Ret 182 [.ref 11, .int 1] (setR (lo σ) 51 F) [.int (nI (pcN B 12))] (setR (setR (setR (lo σ) 51 F) 87 (nmR (orf (σ.1 47) (σ.1 48)) ((lo σ).1 87) 144)) 86 r.2) := by
          refine h4 _ _ ⟨fun z => absurd z nb, fun _ => ⟨fun z => absurd z (by decide), fun _ => ⟨_, _, ?_, rfl, rfl⟩⟩⟩
          rw [e]
          exact s_181 (by omega)
        exact ⟨nI (pcN B 12), _, _, (g_96_0 (br_t (by (try simp only [bI_0, vp_6, vp_9, vp_10, vp_12, vp_18, vp_30, vp_31, vp_50, vp_60, vp_144, vp_154, vp_180, vp_432, vp_3600]) <;> grind) (br_f (by (try simp only [bI_0, vp_6, vp_9, vp_10, vp_12, vp_18, vp_30, vp_31, vp_50, vp_60, vp_144, vp_154, vp_180, vp_432, vp_3600]) <;> grind) (br_t (by (try simp only [bI_0, vp_6, vp_9, vp_10, vp_12, vp_18, vp_30, vp_31, vp_50, vp_60, vp_144, vp_154, vp_180, vp_432, vp_3600]) <;> grind) ⟨_, s_62, ⟨_, _, hx, (br_f (by (try simp only [bI_0, vp_6, vp_9, vp_10, vp_12, vp_18, vp_30, vp_31, vp_50, vp_60, vp_144, vp_154, vp_180, vp_432, vp_3600]) <;> grind) ⟨_, _, h209, ⟨rfl, rfl⟩⟩)⟩⟩)))), hm, hR.lo.r51.r87.r86⟩
  rcases (Classical.em (10 ≤ a ∧ a < 20)).symm with h2 | h2
  · refine ⟨-2, σ, σ, ?_, ?_, hR⟩
    · by_cases h3 : a < 10
      · exact (g_96_0 (br_t (by (try simp only [bI_0, vp_6, vp_9, vp_10, vp_12, vp_18, vp_30, vp_31, vp_50, vp_60, vp_144, vp_154, vp_180, vp_432, vp_3600]) <;> grind) (br_f (by (try simp only [bI_0, vp_6, vp_9, vp_10, vp_12, vp_18, vp_30, vp_31, vp_50, vp_60, vp_144, vp_154, vp_180, vp_432, vp_3600]) <;> grind) (br_f (by (try simp only [bI_0, vp_6, vp_9, vp_10, vp_12, vp_18, vp_30, vp_31, vp_50, vp_60, vp_144, vp_154, vp_180, vp_432, vp_3600]) <;> grind) ⟨rfl, rfl⟩))))
      · exact (g_96_0 (br_f (by (try simp only [bI_0, vp_6, vp_9, vp_10, vp_12, vp_18, vp_30, vp_31, vp_50, vp_60, vp_144, vp_154, vp_180, vp_432, vp_3600]) <;> grind) (br_f (by (try simp only [bI_0, vp_6, vp_9, vp_10, vp_12, vp_18, vp_30, vp_31, vp_50, vp_60, vp_144, vp_154, vp_180, vp_432, vp_3600]) <;> grind) (br_f (by (try simp only [bI_0, vp_6, vp_9, vp_10, vp_12, vp_18, vp_30, vp_31, vp_50, vp_60, vp_144, vp_154, vp_180, vp_432, vp_3600]) <;> grind) (br_f (by (try simp only [bI_0, vp_6, vp_9, vp_10, vp_12, vp_18, vp_30, vp_31, vp_50, vp_60, vp_144, vp_154, vp_180, vp_432, vp_3600]) <;> grind) ⟨rfl, rfl⟩)))))
    · exact (g_182_0 ⟨_, _, s_126, (br_t (by (try simp only [bI_0, vp_6, vp_9, vp_10, vp_12, vp_18, vp_30, vp_31, vp_50, vp_60, vp_144, vp_154, vp_180, vp_432, vp_3600]) <;> grind) ⟨_, _, s_120, (br_t (by (try simp only [bI_0, vp_6, vp_9, vp_10, vp_12, vp_18, vp_30, vp_31, vp_50, vp_60, vp_144, vp_154, vp_180, vp_432, vp_3600]) <;> grind) ⟨rfl, rfl⟩)⟩)⟩)
  obtain ⟨i, hi, ei⟩ := inR (x := a - 10) (m := 10) (n := 10) rfl (by decide) (by grind) (by grind)
  have m126 : bI (0 ≤ a ∧ a ≤ 1) = 0 := bI_f (by grind)
  have m120 : ¬ bI (10 ≤ a ∧ a ≤ 19) = 0 := by rw [bI_t (by grind)]; decide
  have n10 : ¬ a < 10 := by grind
  have eic : (nI i).toNatClampNeg = i := clN (by omega)
  by_cases h3 : i < rkc (orf (σ.1 47) (σ.1 48)) 144
  · obtain ⟨l, hl, e50, ho, hr⟩ := (lo_Q (σ := σ)).2.2 i h3
    have lt : a - 10 < (lo σ).1 9 4 := by
      rw [ei]
      exact (nI_ltI (by omega) (by omega)).mpr h3
    refine ⟨nI l, _, setR (lo σ) 87 (nmR (orf (σ.1 47) (σ.1 48)) (σ.1 87) 144), (g_96_0 (br_f (by (try simp only [bI_0, vp_6, vp_9, vp_10, vp_12, vp_18, vp_30, vp_31, vp_50, vp_60, vp_144, vp_154, vp_180, vp_432, vp_3600]) <;> grind) (br_t (by (try simp only [bI_0, vp_6, vp_9, vp_10, vp_12, vp_18, vp_30, vp_31, vp_50, vp_60, vp_144, vp_154, vp_180, vp_432, vp_3600]) <;> grind) (br_f (by (try simp only [bI_0, vp_6, vp_9, vp_10, vp_12, vp_18, vp_30, vp_31, vp_50, vp_60, vp_144, vp_154, vp_180, vp_432, vp_3600]) <;> grind) (br_f (by (try simp only [bI_0, vp_6, vp_9, vp_10, vp_12, vp_18, vp_30, vp_31, vp_50, vp_60, vp_144, vp_154, vp_180, vp_432, vp_3600]) <;> grind) ⟨_, s_62, (br_t lt ⟨(by rw [ei]; exact vp_in_nI (by omega) (by decide)), ⟨?_, rfl⟩⟩)⟩))))), g_182_0 ⟨_, _, s_126, br_t m126 ⟨_, _, s_120, br_f m120 ⟨_, s_178 hR.lo.tmq, s_182c (dy := σ.1 47) (sk := σ.1 48) (n := l) nm_Q (fun k hk hok e => ?_) (by omega) ?_⟩⟩⟩, hR.lo.r87⟩
    · rw [ei, eic, e50]
    · rw [ei] at e
      have := rkc_lt (f := orf (σ.1 47) (σ.1 48)) hk (orf_iff.mpr hok)
      have e := (nI_eq (by omega) (by omega)).mp e
      omega
    · have el : (nI l).toNatClampNeg = l := clN (by omega)
      have lt : nI l < 144 := (nI_ltL (n := 144) rfl (by omega) (by decide)).mpr (by omega)
      refine g_182_29 (br_t lt ⟨vp_in_nI (by omega) (by decide), ?_⟩)
      have e87 : (setR (lo σ) 87 (nmR (orf ((lo σ).1 47) ((lo σ).1 48)) ((lo σ).1 87) 144)).1 87 (nI l).toNatClampNeg = nI i := by
        rw [el, ← hr]
        exact (nm_Q (dy := σ.1 47) (sk := σ.1 48) (o := (lo σ).1 87) l hl).1 ho
      rw [e87, ei]
      exact br_f (Int32.not_lt.mpr (nI0 (by omega))) (br_t rfl ⟨rfl, rfl⟩)
  · have lt : ¬ a - 10 < (lo σ).1 9 4 := by
      rw [ei]
      exact fun z => h3 ((nI_ltI (by omega) (by omega)).mp z)
    refine ⟨-6, _, setR (lo σ) 87 (nmR (orf (σ.1 47) (σ.1 48)) (σ.1 87) 144), (g_96_0 (br_f (by (try simp only [bI_0, vp_6, vp_9, vp_10, vp_12, vp_18, vp_30, vp_31, vp_50, vp_60, vp_144, vp_154, vp_180, vp_432, vp_3600]) <;> grind) (br_t (by (try simp only [bI_0, vp_6, vp_9, vp_10, vp_12, vp_18, vp_30, vp_31, vp_50, vp_60, vp_144, vp_154, vp_180, vp_432, vp_3600]) <;> grind) (br_f (by (try simp only [bI_0, vp_6, vp_9, vp_10, vp_12, vp_18, vp_30, vp_31, vp_50, vp_60, vp_144, vp_154, vp_180, vp_432, vp_3600]) <;> grind) (br_f (by (try simp only [bI_0, vp_6, vp_9, vp_10, vp_12, vp_18, vp_30, vp_31, vp_50, vp_60, vp_144, vp_154, vp_180, vp_432, vp_3600]) <;> grind) ⟨_, s_62, (br_f lt ⟨rfl, rfl⟩)⟩))))), g_182_0 ⟨_, _, s_126, br_t m126 ⟨_, _, s_120, br_f m120 ⟨_, s_178 hR.lo.tmq, s_182c (dy := σ.1 47) (sk := σ.1 48) (n := 144) nm_Q (fun k hk hok e => ?_) (by omega) (g_182_29 (br_f (by decide) (br_f n10 ⟨rfl, rfl⟩)))⟩⟩⟩, hR.lo.r87⟩
    rw [ei] at e
    have := rkc_lt (f := orf (σ.1 47) (σ.1 48)) hk (orf_iff.mpr hok)
    have e := (nI_eq (by have := rkc_le (f := orf (σ.1 47) (σ.1 48)) k; omega) (by omega)).mp e
    omega
