/-! the pairs untrue, above, drop -/
theorem Rel.lo {σ : St} (hR : Rel σ) : Rel (lo σ) := by
  obtain ⟨hS, hG, hH, hL, hP, hM, hA, hT, hD, hF, hU⟩ := hR
  exact ⟨hS, hG, hH, hL, hP, hM, hA, hT, hD, hF, hU⟩
theorem Rel.r51 {σ : St} {F : Nat → Int32} (hR : Rel σ) : Rel (setR σ 51 F) := by
  obtain ⟨hS, hG, hH, hL, hP, hM, hA, hT, hD, hF, hU⟩ := hR
  exact ⟨hS, hG, hH, hL, hP, hM, hA, hT, hD, hF, hU⟩
theorem Rel.r86 {σ : St} {F : Nat → Int32} (hR : Rel σ) : Rel (setR σ 86 F) := by
  obtain ⟨hS, hG, hH, hL, hP, hM, hA, hT, hD, hF, hU⟩ := hR
  exact ⟨hS, hG, hH, hL, hP, hM, hA, hT, hD, hF, hU⟩
theorem Rel.r87 {σ : St} {F : Nat → Int32} (hR : Rel σ) : Rel (setR σ 87 F) := by
  obtain ⟨hS, hG, hH, hL, hP, hM, hA, hT, hD, hF, hU⟩ := hR
  exact ⟨hS, hG, hH, hL, hP, hM, hA, hT, hD, hF, hU⟩
/-- the two asks for rings, at any states with the same ties -/
theorem un_x {σ : St} (hR : Rel σ) : ∃ (F : Nat → Int32) (U : Nat), unQ (eP (σ.1 47) (σ.1 48) 0) U ∧ Ret 64 [.ref 9, .int 0] (lo σ) [.int (nI U)] (setR (lo σ) 51 F) := s_64 (K := 0) (by decide) (rT_day hR) lo_Q
theorem un_m {σ : St} {U : Nat} (hR : Rel σ) (hU : unQ (eP (σ.1 47) (σ.1 48) 0) U) : ∃ F : Nat → Int32, Ret 180 [.ref 11] σ [.int (nI U)] (setR (setR σ 87 (nmR (orf (σ.1 47) (σ.1 48)) (σ.1 87) 144)) 86 F) := by
  obtain ⟨F, V, hV, hm⟩ := s_179 (τ := setR σ 87 (nmR (orf (σ.1 47) (σ.1 48)) (σ.1 87) 144)) (K := 0) (by decide) (rT_day hR) hR.tmq nm_Q
  rw [hU.uniq hV]
  exact ⟨F, g_180_0 ⟨_, s_178 hR.tmq, _, _, hm, rfl, rfl⟩⟩
theorem p_untrue {σ : St} (hR : Rel σ) : PairI 95 180 [] σ := by
  obtain ⟨F, U, hU, hx⟩ := un_x hR
  obtain ⟨G, hm⟩ := un_m (σ := setR (lo σ) 51 F) hR.lo.r51 hU
  exact ⟨_, _, _, g_95_0 ⟨_, s_62, _, _, hx, rfl, rfl⟩, hm, hR.lo.r51.r87.r86⟩
theorem kP_0 {dy sk : Nat → Int32} {l : Nat} : kP dy sk 0 l ↔ l < 144 ∧ oP dy sk l := ⟨fun h => ⟨h.1, h.2.1⟩, fun h => ⟨h.1, h.2, fun _ => Nat.zero_testBit _⟩⟩
theorem s_177 {τ : St} {dy sk : Nat → Int32} {d e : Nat} (hd : d < 10) (he : e < 10) (hq : TmQ dy sk (τ.1 74) (τ.1 75)) : Ret 177 [.ref 11, .int (nI d), .int (nI e)] τ [.int (pI (eP dy sk 0 d e))] τ := by
  have b1 : ¬ bI (0 ≤ nI d ∧ nI d ≤ 9) = 0 := by
    rw [bI_t ⟨nI0 (by omega), (nI_leL (n := 9) rfl (by omega) (by decide)).mpr (by omega)⟩]; decide
  have b2 : ¬ bI (0 ≤ nI e ∧ nI e ≤ 9) = 0 := by
    rw [bI_t ⟨nI0 (by omega), (nI_leL (n := 9) rfl (by omega) (by decide)).mpr (by omega)⟩]; decide
  refine g_177_0 ⟨_, _, s_125, br_f b1 ⟨_, _, s_125, br_f b2 ?_⟩⟩
  have e74 : ∀ l, l < 144 → oP dy sk l → τ.1 74 l = dy l := by
    intro l hl ho
    rcases (hq l hl).1 with ⟨q, _⟩ | ⟨c, _, h3, h4⟩
    · exact absurd q ho.1
    · rw [h3, h4]
  refine loopE (α := Unit) 144 (fun l _ => ∀ x y, x < l → x < y → x / 24 = y / 24 → y < 144 → ¬ (oP dy sk x ∧ oP dy sk y ∧ dy x = nI d ∧ dy y = nI e)) (fun l _ => Go 177 18 [.ref 11, .int (nI d), .int (nI e), .int (nI l), .null] [] τ [.int (pI (eP dy sk 0 d e))] τ) ?_ ?_ 0 () (by omega) (fun x y h => by omega)
  · intro l _ hl hI
    have el : (nI l).toNatClampNeg = l := clN (by omega)
    have lt : nI l < 144 := (nI_ltL (n := 144) rfl (by omega) (by decide)).mpr hl
    have eend : (nI l - (nI l - nI l / 24 * 24)) + 24 = nI (24 * (l / 24) + 24) := by
      rw [div24 hl]
      have := mul24 (a := l / 24) (b := 24)
      rw [← this, show (24 : Int32) = nI 24 from rfl]
      grind
    -- one inch below
    have step : ∀ y, l < y → y < 24 * (l / 24) + 24 → ¬ (oP dy sk l ∧ oP dy sk y ∧ dy l = nI d ∧ dy y = nI e) → Go 177 30 [.ref 11, .int (nI d), .int (nI e), .int (nI l), .int (nI (y + 1))] [] τ [.int (pI (eP dy sk 0 d e))] τ → Go 177 30 [.ref 11, .int (nI d), .int (nI e), .int (nI l), .int (nI y)] [] τ [.int (pI (eP dy sk 0 d e))] τ := by
      intro y h1 h2 h3 h4
      have ey : (nI y).toNatClampNeg = y := clN (by omega)
      have hy : y < 144 := by omega
      refine g_177_30 (br_t (by rw [eend]; exact (nI_ltI (by omega) (by omega)).mpr h2) ?_)
      rw [nI_S, el, ey]
      by_cases q1 : oP dy sk l
      · refine ⟨_, _, m176t hl hq q1, br_f (by decide) ?_⟩
        by_cases q2 : oP dy sk y
        · refine ⟨_, _, m176t hy hq q2, br_f (by decide) ⟨vp_in_nI hl (by decide), ?_⟩⟩
          rw [e74 l hl q1, e74 y hy q2]
          by_cases q3 : dy l = nI d
          · exact br_t q3 ⟨vp_in_nI hy (by decide), br_f (fun z => h3 ⟨q1, q2, q3, z⟩) h4⟩
          · exact br_f q3 h4
        · exact ⟨_, _, m176f hy hq q2, br_t rfl h4⟩
      · exact ⟨_, _, m176f hl hq q1, br_t rfl h4⟩
    by_cases hx : ∃ y, l < y ∧ l / 24 = y / 24 ∧ y < 144 ∧ (oP dy sk l ∧ oP dy sk y ∧ dy l = nI d ∧ dy y = nI e)
    · obtain ⟨y, h1, h2, h3, h4⟩ := hx
      left
      have yes : eP dy sk 0 d e := ⟨hd, he, l, y, h1, h2, kP_0.mpr ⟨hl, h4.1⟩, kP_0.mpr ⟨h3, h4.2.1⟩, h4.2.2.1, h4.2.2.2⟩
      refine g_177_18 (br_t lt ?_)
      rw [nI_S]
      have fromy : ∀ k, l < k → k ≤ y → Go 177 30 [.ref 11, .int (nI d), .int (nI e), .int (nI l), .int (nI k)] [] τ [.int (pI (eP dy sk 0 d e))] τ := by
        intro k hk1 hk2
        obtain ⟨n, hn⟩ : ∃ n, k + n = y := ⟨y - k, by omega⟩
        induction n generalizing k with
        | zero =>
          have ek : k = y := by omega
          subst ek
          have ey : (nI k).toNatClampNeg = k := clN (by omega)
          refine g_177_30 (br_t (by rw [eend]; exact (nI_ltI (by omega) (by omega)).mpr (by omega)) ?_)
          rw [el, ey]
          refine ⟨_, _, m176t hl hq h4.1, br_f (by decide) ⟨_, _, m176t h3 hq h4.2.1, br_f (by decide) ⟨vp_in_nI hl (by decide), ?_⟩⟩⟩
          rw [e74 l hl h4.1, e74 k h3 h4.2.1]
          refine br_t h4.2.2.1 ⟨vp_in_nI h3 (by decide), br_t h4.2.2.2 ⟨?_, rfl⟩⟩
          rw [pI_t yes]
        | succ n ih =>
          by_cases hm : oP dy sk l ∧ oP dy sk k ∧ dy l = nI d ∧ dy k = nI e
          · have hk : k < 144 := by omega
            have ey : (nI k).toNatClampNeg = k := clN (by omega)
            refine g_177_30 (br_t (by rw [eend]; exact (nI_ltI (by omega) (by omega)).mpr (by omega)) ?_)
            rw [el, ey]
            refine ⟨_, _, m176t hl hq hm.1, br_f (by decide) ⟨_, _, m176t hk hq hm.2.1, br_f (by decide) ⟨vp_in_nI hl (by decide), ?_⟩⟩⟩
            rw [e74 l hl hm.1, e74 k hk hm.2.1]
            refine br_t hm.2.2.1 ⟨vp_in_nI hk (by decide), br_t hm.2.2.2 ⟨?_, rfl⟩⟩
            rw [pI_t yes]
          · exact step k hk1 (by omega) hm (ih (k + 1) (by omega) (by omega) (by omega))
      exact fromy (l + 1) (by omega) (by omega)
    · right
      refine ⟨(), fun x y h1 h2 h3 h4 h5 => ?_, fun hgo => g_177_18 (br_t lt ?_)⟩
      · by_cases z : x = l
        · subst z
          exact hx ⟨y, h2, h3, h4, h5⟩
        · exact hI x y (by omega) h2 h3 h4 h5
      · rw [nI_S]
        have all : ∀ k, l < k → k ≤ 24 * (l / 24) + 24 → Go 177 30 [.ref 11, .int (nI d), .int (nI e), .int (nI l), .int (nI k)] [] τ [.int (pI (eP dy sk 0 d e))] τ := by
          intro k hk1 hk2
          obtain ⟨n, hn⟩ : ∃ n, k + n = 24 * (l / 24) + 24 := ⟨24 * (l / 24) + 24 - k, by omega⟩
          induction n generalizing k with
          | zero =>
            have ek : k = 24 * (l / 24) + 24 := by omega
            refine g_177_30 (br_f (by rw [eend, ek]; exact Int32.lt_irrefl) ?_)
            rw [nI_S]
            exact hgo
          | succ n ih => exact step k hk1 (by omega) (fun z => hx ⟨k, hk1, by omega, by omega, z⟩) (ih (k + 1) (by omega) (by omega) (by omega))
        exact all (l + 1) (by omega) (by omega)
  · intro _ hI
    refine g_177_18 (br_f (by decide) ⟨?_, rfl⟩)
    rw [pI_f]
    rintro ⟨_, _, x, y, h1, h2, h3, h4, h5, h6⟩
    exact hI x y (kP_0.mp h3).1 h1 h2 (kP_0.mp h4).1 ⟨h3.2.1, h4.2.1, h5, h6⟩
theorem p_above {σ : St} {a b : Int32} (hR : Rel σ) : PairI 94 177 [.int a, .int b] σ := by
  rcases (Classical.em (0 ≤ a ∧ a < 10)).symm with h1 | h1
  · exact ⟨-1, σ, σ, by (refine g_94_0 ⟨_, _, s_114, ⟨fun q1 => ?_, fun q1 => ⟨_, _, s_114, ⟨fun q2 => ?_, fun q2 => ?_⟩⟩⟩⟩ <;> first | exact ⟨rfl, rfl⟩ | (exfalso; (try simp only [bI_0, vp_6, vp_9, vp_10, vp_12, vp_18, vp_30, vp_31, vp_50, vp_60, vp_144, vp_154, vp_180, vp_432, vp_3600] at *) <;> grind) | ((try simp only [bI_0, vp_6, vp_9, vp_10, vp_12, vp_18, vp_30, vp_31, vp_50, vp_60, vp_144, vp_154, vp_180, vp_432, vp_3600] at *) <;> grind)), by (refine g_177_0 ⟨_, _, s_125, ⟨fun q1 => ?_, fun q1 => ⟨_, _, s_125, ⟨fun q2 => ?_, fun q2 => ?_⟩⟩⟩⟩ <;> first | exact ⟨rfl, rfl⟩ | (exfalso; (try simp only [bI_0, vp_6, vp_9, vp_10, vp_12, vp_18, vp_30, vp_31, vp_50, vp_60, vp_144, vp_154, vp_180, vp_432, vp_3600] at *) <;> grind) | ((try simp only [bI_0, vp_6, vp_9, vp_10, vp_12, vp_18, vp_30, vp_31, vp_50, vp_60, vp_144, vp_154, vp_180, vp_432, vp_3600] at *) <;> grind)), hR⟩
  rcases (Classical.em (0 ≤ b ∧ b < 10)).symm with h2 | h2
  · exact ⟨-1, σ, σ, by (refine g_94_0 ⟨_, _, s_114, ⟨fun q1 => ?_, fun q1 => ⟨_, _, s_114, ⟨fun q2 => ?_, fun q2 => ?_⟩⟩⟩⟩ <;> first | exact ⟨rfl, rfl⟩ | (exfalso; (try simp only [bI_0, vp_6, vp_9, vp_10, vp_12, vp_18, vp_30, vp_31, vp_50, vp_60, vp_144, vp_154, vp_180, vp_432, vp_3600] at *) <;> grind) | ((try simp only [bI_0, vp_6, vp_9, vp_10, vp_12, vp_18, vp_30, vp_31, vp_50, vp_60, vp_144, vp_154, vp_180, vp_432, vp_3600] at *) <;> grind)), by (refine g_177_0 ⟨_, _, s_125, ⟨fun q1 => ?_, fun q1 => ⟨_, _, s_125, ⟨fun q2 => ?_, fun q2 => ?_⟩⟩⟩⟩ <;> first | exact ⟨rfl, rfl⟩ | (exfalso; (try simp only [bI_0, vp_6, vp_9, vp_10, vp_12, vp_18, vp_30, vp_31, vp_50, vp_60, vp_144, vp_154, vp_180, vp_432, vp_3600] at *) <;> grind) | ((try simp only [bI_0, vp_6, vp_9, vp_10, vp_12, vp_18, vp_30, vp_31, vp_50, vp_60, vp_144, vp_154, vp_180, vp_432, vp_3600] at *) <;> grind)), hR⟩
  obtain ⟨d, hd, rfl⟩ := inR (x := a) (m := 10) (n := 10) rfl (by decide) h1.1 h1.2
  obtain ⟨e, he, rfl⟩ := inR (x := b) (m := 10) (n := 10) rfl (by decide) h2.1 h2.2
  have ee : (nI e).toNatClampNeg = e := clN (by omega)
  obtain ⟨⟨F, f⟩, ⟨hr, hb⟩, hx⟩ := s_63 (τ := lo σ) (dy := σ.1 47) (sk := σ.1 48) (K := 0) (by decide) (rT_day hR) lo_Q
  have hlt : f e < 1024 := (hr e he).2
  have eF : F e = nI (f e) := (hr e he).1
  have hb : (f e).testBit d = true ↔ eP (σ.1 47) (σ.1 48) 0 d e := hb e he d
  refine ⟨_, _, setR (lo σ) 51 F, (g_94_0 ⟨_, _, s_114, (br_f (by (try simp only [bI_0, vp_6, vp_9, vp_10, vp_12, vp_18, vp_30, vp_31, vp_50, vp_60, vp_144, vp_154, vp_180, vp_432, vp_3600]) <;> grind) ⟨_, _, s_114, (br_f (by (try simp only [bI_0, vp_6, vp_9, vp_10, vp_12, vp_18, vp_30, vp_31, vp_50, vp_60, vp_144, vp_154, vp_180, vp_432, vp_3600]) <;> grind) ⟨_, s_62, ⟨_, hx, ⟨(by (try simp only [bI_0, vp_6, vp_9, vp_10, vp_12, vp_18, vp_30, vp_31, vp_50, vp_60, vp_144, vp_154, vp_180, vp_432, vp_3600]) <;> grind), ⟨rfl, rfl⟩⟩⟩⟩)⟩)⟩), ?_, hR.lo.r51⟩
  have := s_177 (τ := setR (lo σ) 51 F) (dy := σ.1 47) (sk := σ.1 48) hd he hR.tmq
  have ea : (((setR (lo σ) 51 F).1 51 (nI e).toNatClampNeg) >>> (nI d &&& 31)) &&& (1 : Int32) = pI (eP (σ.1 47) (σ.1 48) 0 d e) := by
    rw [ee]
    show ((F e) >>> (nI d &&& 31)) &&& (1 : Int32) = _
    rw [eF]
    by_cases q : eP (σ.1 47) (σ.1 48) 0 d e
    · rw [pI_t q]
      exact (bit_iff1 (by omega) (by omega)).mpr (hb.mpr q)
    · rw [pI_f q]
      refine (bit_iff (by omega) (by omega)).mpr ?_
      cases z : (f e).testBit d
      · rfl
      · exact absurd (hb.mp z) q
  rw [ea]
  exact this
/-! drop -/
def OkK (dy sk : Nat → Int32) (K : Nat) : Prop := ∀ d, d < 10 → ¬ TG (eP dy sk K) d d
def BsQ (P : Nat → Prop) (N B : Nat) : Prop := B < N ∧ P B ∧ ∀ t, t < N → P t → pcN B 12 < pcN t 12 ∨ (pcN B 12 = pcN t 12 ∧ B ≤ t)
theorem BsQ.uniq {P : Nat → Prop} {N B C : Nat} (h : BsQ P N B) (k : BsQ P N C) : B = C := by
  have h1 := h.2.2 C k.1 k.2.1
  have h2 := k.2.2 B h.1 h.2.1
  omega
def mvN (dy sk : Nat → Int32) : Nat := if 10 < rkc (orf dy sk) 144 then 10 else rkc (orf dy sk) 144
theorem mvN_le {dy sk : Nat → Int32} : mvN dy sk ≤ 10 := by unfold mvN; split <;> omega
theorem OkK.all {dy sk : Nat → Int32} {t : Nat} (h : OkK dy sk t) : OkK dy sk (2 ^ mvN dy sk - 1) := by
  have hk : ∀ l, kP dy sk (2 ^ mvN dy sk - 1) l → kP dy sk t l := by
    rintro l ⟨h1, h2, h3⟩
    refine ⟨h1, h2, fun h10 => ?_⟩
    have h4 := h3 h10
    rw [Nat.testBit_two_pow_sub_one] at h4
    have h5 := of_decide_eq_false h4
    have h6 : rkc (orf dy sk) l < rkc (orf dy sk) 144 := rkc_lt h1 (orf_iff.mpr h2)
    unfold mvN at h5
    split at h5 <;> omega
  intro d hd q
  refine h d hd (tg_mono (fun a b e => Relation.TransGen.single ?_) q)
  obtain ⟨h1, h2, l, k, h3, h4, h5, h6, h7⟩ := e
  exact ⟨h1, h2, l, k, h3, h4, hk l h5, hk k h6, h7⟩
theorem pc_all : ∀ m, m < 11 → pcN (2 ^ m - 1) 12 = m ∧ ∀ t, t < 2 ^ m - 1 → pcN t 12 < m := by decide +kernel
theorem sh_all : ∀ m, m < 11 → ((1 : Int32) <<< (nI m &&& 31)) - 1 = nI (2 ^ m - 1) := by decide +kernel
theorem s_65 {τ : St} {dy sk : Nat → Int32} (hdy : ∀ l, l < 144 → dy l = -1 ∨ ∃ d, d < 10 ∧ dy l = nI d) (hq : LoQ dy sk τ) : (¬ OkK dy sk (2 ^ mvN dy sk - 1) ∧ ∃ F, Ret 65 [.ref 9] τ [.int (-1)] (setR τ 51 F)) ∨ ∃ r : (Nat → Int32) × Nat, BsQ (OkK dy sk) (2 ^ mvN dy sk) r.2 ∧ Ret 65 [.ref 9] τ [.int (nI r.2)] (setR τ 51 r.1) := by
  have hm := mvN_le (dy := dy) (sk := sk)
  have hn : rkc (orf dy sk) 144 ≤ 144 := rkc_le 144
  have em : (if (10 : Int32) < τ.1 9 4 then 10 else τ.1 9 4) = nI (mvN dy sk) := by
    rw [hq.2.1]
    unfold mvN
    by_cases h : 10 < rkc (orf dy sk) 144
    · rw [if_pos h, if_pos]
      · rfl
      · exact (nI_ltI (a := 10) (by omega) (by omega)).mpr h
    · rw [if_neg h, if_neg]
      exact fun z => h ((nI_ltI (a := 10) (by omega) (by omega)).mp z)
  have h2 : 2 ^ mvN dy sk ≤ 2 ^ 10 := Nat.pow_le_pow_right (by decide) hm
  have hp : 0 < 2 ^ mvN dy sk := Nat.pow_pos (by decide)
  have ea := sh_all (mvN dy sk) (by omega)
  have pa := pc_all (mvN dy sk) (by omega)
  generalize mvN dy sk = m at *
  obtain ⟨F1, h66⟩ := s_66 (τ := τ) (dy := dy) (sk := sk) (K := 2 ^ m - 1) (by omega) hdy hq
  rcases (Classical.em (OkK dy sk (2 ^ m - 1))).symm with hok | hok
  · left
    refine ⟨hok, F1, g_65_0 ?_⟩
    rw [em, ea]
    exact ⟨_, _, h66, br_t (pI_f hok) ⟨rfl, rfl⟩⟩
  right
  have key := loopY (α := Nat → Int32) (β := (Nat → Int32) × Nat) m
    (fun s _ => ∀ t, t < 2 ^ m - 1 → pcN t 12 < s → ¬ OkK dy sk t)
    (fun s F r => Go 65 28 [.ref 9, .int (nI m), .int (nI (2 ^ m - 1)), .int (nI s), .null] [] (setR τ 51 F) [.int (nI r.2)] (setR τ 51 r.1))
    (fun r => BsQ (OkK dy sk) (2 ^ m) r.2) ?_ ?_ 0 F1 (by omega) (fun t _ h => by omega)
  · obtain ⟨r, h3, h4⟩ := key
    refine ⟨r, h3, g_65_0 ?_⟩
    rw [em, ea]
    exact ⟨_, _, h66, br_f (fun z => pI_0.mp z hok) h4⟩
  · intro s F hs hI
    have inner : ∀ k q F, q + k = 2 ^ m - 1 → (∀ t, t < q → pcN t 12 = s → ¬ OkK dy sk t) → (∃ r : (Nat → Int32) × Nat, BsQ (OkK dy sk) (2 ^ m) r.2 ∧ Go 65 36 [.ref 9, .int (nI m), .int (nI (2 ^ m - 1)), .int (nI s), .int (nI q)] [] (setR τ 51 F) [.int (nI r.2)] (setR τ 51 r.1)) ∨ ∃ F' : Nat → Int32, (∀ t, t < 2 ^ m - 1 → pcN t 12 = s → ¬ OkK dy sk t) ∧ ∀ r : (Nat → Int32) × Nat, Go 65 28 [.ref 9, .int (nI m), .int (nI (2 ^ m - 1)), .int (nI s + 1), .null] [] (setR τ 51 F') [.int (nI r.2)] (setR τ 51 r.1) → Go 65 36 [.ref 9, .int (nI m), .int (nI (2 ^ m - 1)), .int (nI s), .int (nI q)] [] (setR τ 51 F) [.int (nI r.2)] (setR τ 51 r.1) := by
      intro k
      induction k with
      | zero =>
        intro q F hqk hJ
        have e : q = 2 ^ m - 1 := by omega
        subst e
        exact Or.inr ⟨F, hJ, fun r h => g_65_36 (br_f Int32.lt_irrefl h)⟩
      | succ k ih =>
        intro q F hqk hJ
        have lt : nI q < nI (2 ^ m - 1) := (nI_ltI (by omega) (by omega)).mpr (by omega)
        have hpc := pc_le (K := q) 12
        have h209 : Ret 209 [.int (nI q)] (setR τ 51 F) [.int (nI (pcN q 12))] (setR τ 51 F) := by
          rw [← bc_pc q (by omega)]; exact s_209
        by_cases e1 : pcN q 12 = s
        · obtain ⟨F2, h66⟩ := s_66 (τ := setR τ 51 F) (dy := dy) (sk := sk) (K := q) (by omega) hdy hq
          rw [setR2] at h66
          by_cases e2 : OkK dy sk q
          · left
            refine ⟨(F2, q), ⟨by show q < 2 ^ m; omega, e2, fun t ht hot => ?_⟩, g_65_36 (br_t lt ⟨_, _, h209, br_t (by rw [e1]) ⟨_, _, h66, br_f (fun z => pI_0.mp z e2) ⟨rfl, rfl⟩⟩⟩)⟩
            show pcN q 12 < pcN t 12 ∨ (pcN q 12 = pcN t 12 ∧ q ≤ t)
            by_cases e3 : t = 2 ^ m - 1
            · left
              rw [e3, pa.1, e1]
              exact hs
            · have h5 : ¬ pcN t 12 < s := fun z => hI t (by omega) z hot
              by_cases e4 : pcN t 12 = s
              · right
                exact ⟨by omega, Classical.byContradiction fun z => hJ t (by omega) e4 hot⟩
              · left; omega
          · have hJ' : ∀ t, t < q + 1 → pcN t 12 = s → ¬ OkK dy sk t := by
              intro t ht h
              by_cases e3 : t = q
              · rw [e3]; exact e2
              · exact hJ t (by omega) h
            have back : ∀ r : (Nat → Int32) × Nat, Go 65 36 [.ref 9, .int (nI m), .int (nI (2 ^ m - 1)), .int (nI s), .int (nI (q + 1))] [] (setR τ 51 F2) [.int (nI r.2)] (setR τ 51 r.1) → Go 65 36 [.ref 9, .int (nI m), .int (nI (2 ^ m - 1)), .int (nI s), .int (nI q)] [] (setR τ 51 F) [.int (nI r.2)] (setR τ 51 r.1) := by
              intro r h
              refine g_65_36 (br_t lt ⟨_, _, h209, br_t (by rw [e1]) ⟨_, _, h66, br_t (pI_f e2) ?_⟩⟩)
              rw [nI_S]
              exact h
            rcases ih (q + 1) F2 (by omega) hJ' with ⟨r, h3, h4⟩ | ⟨F', h3, h4⟩
            · exact Or.inl ⟨r, h3, back r h4⟩
            · exact Or.inr ⟨F', h3, fun r h => back r (h4 r h)⟩
        · have hJ' : ∀ t, t < q + 1 → pcN t 12 = s → ¬ OkK dy sk t := by
            intro t ht h
            by_cases e3 : t = q
            · rw [e3] at h; exact absurd h e1
            · exact hJ t (by omega) h
          have back : ∀ r : (Nat → Int32) × Nat, Go 65 36 [.ref 9, .int (nI m), .int (nI (2 ^ m - 1)), .int (nI s), .int (nI (q + 1))] [] (setR τ 51 F) [.int (nI r.2)] (setR τ 51 r.1) → Go 65 36 [.ref 9, .int (nI m), .int (nI (2 ^ m - 1)), .int (nI s), .int (nI q)] [] (setR τ 51 F) [.int (nI r.2)] (setR τ 51 r.1) := by
            intro r h
            refine g_65_36 (br_t lt ⟨_, _, h209, br_f (fun z => e1 ((nI_eq (by omega) (by omega)).mp z)) ?_⟩)
            rw [nI_S]
            exact h
          rcases ih (q + 1) F (by omega) hJ' with ⟨r, h3, h4⟩ | ⟨F', h3, h4⟩
          · exact Or.inl ⟨r, h3, back r h4⟩
          · exact Or.inr ⟨F', h3, fun r h => back r (h4 r h)⟩
    have lt : nI s < nI m := (nI_ltI (by omega) (by omega)).mpr hs
    rcases inner (2 ^ m - 1) 0 F (by omega) (fun t h => by omega) with ⟨r, h3, h4⟩ | ⟨F', h3, h4⟩
    · exact Or.inl ⟨r, h3, g_65_28 (br_t lt h4)⟩
    · refine Or.inr ⟨F', fun t ht h => ?_, fun r h => g_65_28 (br_t lt (h4 r ?_))⟩
      · by_cases e : pcN t 12 = s
        · exact h3 t ht e
        · exact hI t ht (by omega)
      · rw [nI_S]; exact h
  · intro F hI
    refine ⟨(F, 2 ^ m - 1), ⟨by show 2 ^ m - 1 < 2 ^ m; omega, hok, fun t ht hot => ?_⟩, g_65_28 (br_f Int32.lt_irrefl ⟨rfl, rfl⟩)⟩
    have e : t = 2 ^ m - 1 := by
      apply Classical.byContradiction
      intro z
      exact hI t (by omega) (pa.2 t (by omega)) hot
    right
    show pcN (2 ^ m - 1) 12 = pcN t 12 ∧ 2 ^ m - 1 ≤ t
    rw [e]
    exact ⟨rfl, Nat.le_refl _⟩
