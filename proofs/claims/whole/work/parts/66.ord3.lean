/-! findOver, untrueWithout, isOrderedWithout of the class -/
def rowN (F : Nat → Int32) (f : Nat → Nat) : Prop := ∀ e, e < 10 → F e = nI (f e) ∧ f e < 1024
theorem day_of {dy sk : Nat → Int32} (hdy : ∀ l, l < 144 → dy l = -1 ∨ ∃ d, d < 10 ∧ dy l = nI d) {l : Nat} (hl : l < 144) (ho : oP dy sk l) : ∃ d, d < 10 ∧ dy l = nI d := by
  rcases hdy l hl with q | q
  · exact absurd q ho.1
  · exact q
theorem s_63 {τ : St} {dy sk : Nat → Int32} {K : Nat} (hK : K < 1024) (hdy : ∀ l, l < 144 → dy l = -1 ∨ ∃ d, d < 10 ∧ dy l = nI d) (hq : LoQ dy sk τ) : ∃ r : (Nat → Int32) × (Nat → Nat), (rowN r.1 r.2 ∧ ∀ e, e < 10 → ∀ d, (r.2 e).testBit d = true ↔ eP dy sk K d e) ∧ Ret 63 [.ref 9, .int (nI K)] τ [] (setR τ 51 r.1) := by
  obtain ⟨q1, q2, q3⟩ := hq
  have hn : rkc (orf dy sk) 144 ≤ 144 := rkc_le 144
  have key := loopX (α := Int32 × Nat × (Nat → Nat) × (Nat → Int32)) (β := (Nat → Int32) × (Nat → Nat)) (rkc (orf dy sk) 144)
    (fun i x => FoI dy sk K i x.1 x.2.1 x.2.2.1 x.2.2.2)
    (fun i x r => Go 63 15 [.ref 9, .int (nI K), .int x.1, .int (nI x.2.1), .int (nI i), .null, .null] [] (setR τ 51 x.2.2.2) [] (setR τ 51 r.1))
    (fun r => rowN r.1 r.2 ∧ ∀ e, e < 10 → ∀ d, (r.2 e).testBit d = true ↔ eP dy sk K d e) ?_ ?_ 0 (-1, 0, (fun _ => 0), filR 0 10 (τ.1 51)) (by omega) (FoI.zero (fun e he => if_pos he))
  · obtain ⟨r, h1, h2⟩ := key
    exact ⟨r, h1, g_63_0 ⟨_, s_211_51, h2⟩⟩
  · rintro i ⟨cv, hb, f, F⟩ hi hI
    obtain ⟨l, hl, e50, ho, hr⟩ := q3 i hi
    obtain ⟨d, hd, ed⟩ := day_of hdy hl ho
    have ei : (nI i).toNatClampNeg = i := clN (by omega)
    have el : (nI l).toNatClampNeg = l := clN (by omega)
    have edc : (nI d).toNatClampNeg = d := clN (by omega)
    have lt : nI i < (setR τ 51 F).1 9 4 := by
      show nI i < τ.1 9 4
      rw [q2]
      exact (nI_ltI (by omega) (by omega)).mpr hi
    have f50 : (setR τ 51 F).1 50 (nI i).toNatClampNeg = nI l := by rw [ei]; exact e50
    have f47 : (setR τ 51 F).1 47 (nI l).toNatClampNeg = nI d := by
      rw [el]
      show τ.1 47 l = nI d
      rw [q1]
      exact ed
    have f51 : (setR τ 51 F).1 51 (nI d).toNatClampNeg = nI (f d) := by rw [edc]; exact (hI.1 d hd).1
    have v1 : vp_in (nI i) 144 := vp_in_nI (by omega) (by decide)
    have v2 : vp_in (nI l) 144 := vp_in_nI hl (by decide)
    have v3 : vp_in (nI d) 10 := vp_in_nI hd (by decide)
    have skp : i < 10 → K.testBit i = true → ∃ x' : Int32 × Nat × (Nat → Nat) × (Nat → Int32), FoI dy sk K (i + 1) x'.1 x'.2.1 x'.2.2.1 x'.2.2.2 ∧ ∀ r : (Nat → Int32) × (Nat → Nat), Go 63 15 [.ref 9, .int (nI K), .int x'.1, .int (nI x'.2.1), .int (nI (i + 1)), .null, .null] [] (setR τ 51 x'.2.2.2) [] (setR τ 51 r.1) → Go 63 15 [.ref 9, .int (nI K), .int cv, .int (nI hb), .int (nI i), .null, .null] [] (setR τ 51 F) [] (setR τ 51 r.1) := by
      intro h10 hbit
      refine ⟨(cv, hb, f, F), hI.skip ho hr (fun z => ?_), fun r hr' => ?_⟩
      · have := z.2.2 (by omega)
        rw [hr, hbit] at this
        exact absurd this (by decide)
      · refine g_63_15 (br_t lt (br_t ((nI_ltL (n := 10) rfl (by omega) (by decide)).mpr h10) (br_f ?_ ?_)))
        · rw [bit_iff (by omega) (by omega), hbit]; decide
        · rw [nI_S]; exact hr'
    by_cases hs : i < 10 ∧ K.testBit i = true
    · exact skp hs.1 hs.2
    have hk : kP dy sk K l := ⟨hl, ho, fun h => by
      rw [hr] at h ⊢
      cases hb : K.testBit i
      · rfl
      · exact absurd ⟨h, hb⟩ hs⟩
    by_cases hc : nI (l / 24) = cv
    · refine ⟨(nI (l / 24), hb ||| 2 ^ d, fun e => if e = d then f d ||| hb else f e, upd F d (nI (f d ||| hb))), hI.keep hk hr hd ed hI.2.2.1 (fun c => ?_), fun r hr' => ?_⟩
      · rw [hI.2.2.2.1 c]
        constructor
        · rintro ⟨h1, k, h2, h3, h4, h5⟩
          rw [← hc] at h4
          exact ⟨h1, k, h2, h3, (nI_eq (by have := h2.1; omega) (by omega)).mp h4, h5⟩
        · rintro ⟨h1, k, h2, h3, h4, h5⟩
          exact ⟨h1, k, h2, h3, by rw [h4, hc], h5⟩
      · have hr2 : Go 63 15 [.ref 9, .int (nI K), .int cv, .int (nI hb ||| ((1 : Int32) <<< (nI d &&& 31))), .int (nI i + 1), .null, .null] [] (wr (setR τ 51 F) 51 (nI d).toNatClampNeg ((setR τ 51 F).1 51 (nI d).toNatClampNeg ||| nI hb)) [] (setR τ 51 r.1) := by
          rw [f51, edc, nI_or, wr_setR, nI_shl1 d (by omega), nI_or, nI_S, ← hc]
          exact hr'
        refine g_63_15 (br_t lt ?_)
        rw [f50, f47, div24 hl]
        by_cases h10 : i < 10
        · refine br_t ((nI_ltL (n := 10) rfl (by omega) (by decide)).mpr h10) (br_t ?_ ⟨v1, br_t hc ⟨v2, v3, hr2⟩⟩)
          rw [bit_iff (by omega) (by omega)]
          cases hb : K.testBit i
          · rfl
          · exact absurd ⟨h10, hb⟩ hs
        · exact br_f (fun z => h10 ((nI_ltL (n := 10) rfl (by omega) (by decide)).mp z)) ⟨v1, br_t hc ⟨v2, v3, hr2⟩⟩
    · refine ⟨(nI (l / 24), 0 ||| 2 ^ d, fun e => if e = d then f d ||| 0 else f e, upd F d (nI (f d ||| 0))), hI.keep hk hr hd ed (by decide) (fun c => ?_), fun r hr' => ?_⟩
      · rw [Nat.zero_testBit]
        constructor
        · intro z; exact absurd z (by decide)
        · rintro ⟨h1, k, h2, h3, h4, h5⟩
          exact absurd h4 (hI.core hl ho hr hc k h2 h3)
      · have hr2 : Go 63 15 [.ref 9, .int (nI K), .int (nI (l / 24)), .int ((0 : Int32) ||| ((1 : Int32) <<< (nI d &&& 31))), .int (nI i + 1), .null, .null] [] (wr (setR τ 51 F) 51 (nI d).toNatClampNeg ((setR τ 51 F).1 51 (nI d).toNatClampNeg ||| (0 : Int32))) [] (setR τ 51 r.1) := by
          rw [f51, edc, ← nI_0, nI_or, wr_setR, nI_shl1 d (by omega), nI_or, nI_S]
          exact hr'
        refine g_63_15 (br_t lt ?_)
        rw [f50, f47, div24 hl]
        by_cases h10 : i < 10
        · refine br_t ((nI_ltL (n := 10) rfl (by omega) (by decide)).mpr h10) (br_t ?_ ⟨v1, br_f hc ⟨v2, v3, hr2⟩⟩)
          rw [bit_iff (by omega) (by omega)]
          cases hb : K.testBit i
          · rfl
          · exact absurd ⟨h10, hb⟩ hs
        · exact br_f (fun z => h10 ((nI_ltL (n := 10) rfl (by omega) (by decide)).mp z)) ⟨v1, br_f hc ⟨v2, v3, hr2⟩⟩
  · rintro ⟨cv, hb, f, F⟩ hI
    refine ⟨(F, f), ⟨hI.1, fun e he d => (hI.2.1 e he d).trans ?_⟩, g_63_15 (br_f ?_ ⟨rfl, rfl⟩)⟩
    · constructor
      · rintro ⟨h1, x, k, h2, h3, h4, h5, h6, h7⟩
        exact ⟨h1, he, x, k, h2, h3, h4, h5, h7⟩
      · rintro ⟨h1, _, x, k, h2, h3, h4, h5, h7⟩
        exact ⟨h1, x, k, h2, h3, h4, h5, rkc_lt h5.1 (orf_iff.mpr h5.2.1), h7⟩
    · show ¬ nI (rkc (orf dy sk) 144) < τ.1 9 4
      rw [q2]
      exact Int32.lt_irrefl
/-! steps by way of others -/
def wsF (F : Nat → Int32) (f : Nat → Nat) (k j d : Nat) : Int32 := if d < 10 then nI (wsh f k j d) else F d
theorem wsF_0 {F : Nat → Int32} {f : Nat → Nat} {k : Nat} (h : rowN F f) : wsF F f k 0 = F := by
  funext d
  unfold wsF wsh
  by_cases q : d < 10
  · rw [if_pos q, if_neg (by omega), (h d q).1]
  · rw [if_neg q]
theorem wsF_self {F : Nat → Int32} {f : Nat → Nat} {k j : Nat} (hj : j < 10) : wsF F f k j j = nI (f j) := by
  unfold wsF wsh
  rw [if_pos hj, if_neg (by omega)]
theorem wsF_k {F : Nat → Int32} {f : Nat → Nat} {k j : Nat} (hk : k < 10) : wsF F f k j k = nI (f k) := by
  unfold wsF wsh
  rw [if_pos hk]
  split
  · rw [Nat.or_self]
  · rfl
theorem wsF_S {F : Nat → Int32} {f : Nat → Nat} {k j : Nat} (hj : j < 10) (h : (f j).testBit k = true) : upd (wsF F f k j) j (nI (f j ||| f k)) = wsF F f k (j + 1) := by
  funext d
  unfold upd wsF wsh
  by_cases q : d = j
  · subst q
    rw [if_pos rfl, if_pos hj, if_pos ⟨by omega, h⟩]
  · rw [if_neg q]
    by_cases q2 : d < 10
    · rw [if_pos q2, if_pos q2]
      by_cases q3 : d < j ∧ (f d).testBit k = true
      · rw [if_pos q3, if_pos ⟨by omega, q3.2⟩]
      · rw [if_neg q3, if_neg (fun z => q3 ⟨by omega, z.2⟩)]
    · rw [if_neg q2, if_neg q2]
theorem wsF_N {F : Nat → Int32} {f : Nat → Nat} {k j : Nat} (h : ¬ (f j).testBit k = true) : wsF F f k j = wsF F f k (j + 1) := by
  funext d
  unfold wsF wsh
  by_cases q2 : d < 10
  · rw [if_pos q2, if_pos q2]
    by_cases q3 : d < j ∧ (f d).testBit k = true
    · rw [if_pos q3, if_pos ⟨by omega, q3.2⟩]
    · rw [if_neg q3, if_neg]
      rintro ⟨h1, h2⟩
      by_cases e : d = j
      · subst e; exact h h2
      · exact q3 ⟨by omega, h2⟩
  · rw [if_neg q2, if_neg q2]
theorem wsF_row {F : Nat → Int32} {f : Nat → Nat} {k : Nat} (hk : k < 10) (h : rowN F f) : rowN (wsF F f k 10) (wsh f k 10) := by
  intro e he
  refine ⟨if_pos he, ?_⟩
  unfold wsh
  split
  · exact Nat.or_lt_two_pow (n := 10) (h e he).2 (h k hk).2
  · exact (h e he).2
theorem s_64 {τ : St} {dy sk : Nat → Int32} {K : Nat} (hK : K < 1024) (hdy : ∀ l, l < 144 → dy l = -1 ∨ ∃ d, d < 10 ∧ dy l = nI d) (hq : LoQ dy sk τ) : ∃ (F : Nat → Int32) (U : Nat), unQ (eP dy sk K) U ∧ Ret 64 [.ref 9, .int (nI K)] τ [.int (nI U)] (setR τ 51 F) := by
  obtain ⟨⟨F0, f0⟩, ⟨hr, hb⟩, h63⟩ := s_63 hK hdy hq
  have hE : ∀ a b, eP dy sk K b a → a < 10 ∧ b < 10 := fun a b h => ⟨h.2.1, h.1⟩
  have key := loopX (α := (Nat → Int32) × (Nat → Nat)) (β := (Nat → Int32) × Nat) 10
    (fun k x => rowN x.1 x.2 ∧ WsI (fun a b => eP dy sk K b a) k x.2)
    (fun k x r => Go 64 7 [.ref 9, .null, .int (nI k), .null] [] (setR τ 51 x.1) [.int (nI r.2)] (setR τ 51 r.1))
    (fun r => unQ (eP dy sk K) r.2) ?_ ?_ 0 (F0, f0) (by omega) ⟨hr, WsI.zero (fun d hd => (hr d hd).2) (fun d e hd => hb d hd e) hE⟩
  · obtain ⟨r, h1, h2⟩ := key
    exact ⟨r.1, r.2, h1, g_64_0 ⟨_, h63, h2⟩⟩
  · rintro k ⟨F, f⟩ hk ⟨hr, hw⟩
    refine ⟨(wsF F f k 10, wsh f k 10), ⟨wsF_row hk hr, hw.step hk hE⟩, fun r hgo => ?_⟩
    have inner := loopN 10 (fun j => Go 64 15 [.ref 9, .null, .int (nI k), .int (nI j)] [] (setR τ 51 (wsF F f k j)) [.int (nI r.2)] (setR τ 51 r.1)) ?_ ?_ 0 (by omega)
    · rw [wsF_0 hr] at inner
      exact g_64_7 (br_t ((nI_ltL (n := 10) rfl (by omega) (by decide)).mpr hk) inner)
    · intro j hj h
      have ej : (nI j).toNatClampNeg = j := clN (by omega)
      have ek : (nI k).toNatClampNeg = k := clN (by omega)
      have lt : nI j < 10 := (nI_ltL (n := 10) rfl (by omega) (by decide)).mpr hj
      have fj : (setR τ 51 (wsF F f k j)).1 51 (nI j).toNatClampNeg = nI (f j) := by rw [ej]; exact wsF_self hj
      have fk : (setR τ 51 (wsF F f k j)).1 51 (nI k).toNatClampNeg = nI (f k) := by rw [ek]; exact wsF_k hk
      refine g_64_15 (br_t lt ⟨vp_in_nI hj (by decide), ?_⟩)
      rw [fj, fk, nI_S, ej, nI_or, wr_setR]
      have hlt : f j < 1024 := (hr j hj).2
      by_cases hbit : (f j).testBit k = true
      · refine br_f ?_ ⟨vp_in_nI hk (by decide), ?_⟩
        · rw [bit_iff (by omega) (by omega), hbit]; decide
        · rw [wsF_S hj hbit]; exact h
      · refine br_t ?_ ?_
        · rw [bit_iff (by omega) (by omega)]
          cases z : (f j).testBit k
          · rfl
          · exact absurd z hbit
        · rw [wsF_N hbit]; exact h
    · refine g_64_15 (br_f (by decide) ?_)
      rw [nI_S]
      exact hgo
  · rintro ⟨F, f⟩ ⟨hr, hw⟩
    refine ⟨(F, utN f 10), fun d => ?_, g_64_7 (br_f (by decide) ?_)⟩
    · show (utN f 10).testBit d = true ↔ _
      rw [utN_bit]
      constructor
      · rintro ⟨h1, h2⟩
        exact ⟨h1, tg_rev (E := eP dy sk K) ((hw.done hE h1).mp h2)⟩
      · rintro ⟨h1, h2⟩
        exact ⟨h1, (hw.done hE h1).mpr (tg_rev (E := fun a b => eP dy sk K b a) h2)⟩
    · refine loopN 10 (fun j => Go 64 65 [.ref 9, .null, .int (nI (utN f j)), .int (nI j)] [] (setR τ 51 F) [.int (nI (utN f 10))] (setR τ 51 F)) ?_ ?_ 0 (by omega)
      · intro j hj h
        have ej : (nI j).toNatClampNeg = j := clN (by omega)
        have fj : (setR τ 51 F).1 51 (nI j).toNatClampNeg = nI (f j) := by rw [ej]; exact (hr j hj).1
        refine g_64_65 (br_t ((nI_ltL (n := 10) rfl (by omega) (by decide)).mpr hj) ⟨vp_in_nI hj (by decide), ?_⟩)
        rw [fj, nI_shl1 j (by omega), nI_and, nI_or, nI_S]
        exact h
      · exact g_64_65 (br_f (by decide) ⟨rfl, rfl⟩)
theorem s_66 {τ : St} {dy sk : Nat → Int32} {K : Nat} (hK : K < 1024) (hdy : ∀ l, l < 144 → dy l = -1 ∨ ∃ d, d < 10 ∧ dy l = nI d) (hq : LoQ dy sk τ) : ∃ F : Nat → Int32, Ret 66 [.ref 9, .int (nI K)] τ [.int (pI (∀ d, d < 10 → ¬ TG (eP dy sk K) d d))] (setR τ 51 F) := by
  obtain ⟨⟨F, f⟩, ⟨hr, hb⟩, h63⟩ := s_63 hK hdy hq
  refine ⟨F, g_66_0 ⟨_, h63, ?_⟩⟩
  refine loopE (α := Nat) 11 (fun t M => M < 1024 ∧ (∀ d, d < 10 → TG (eP dy sk K) d d → M.testBit d = true) ∧ cnB M + t ≤ 10) (fun t M => Go 66 11 [.ref 9, .null, .int (nI M), .int (nI t), .null, .null] [] (setR τ 51 F) [.int (pI (∀ d, d < 10 → ¬ TG (eP dy sk K) d d))] (setR τ 51 F)) ?_ ?_ 0 1023 (by omega) ?_
  · rintro t M ht ⟨h1, h2, h3⟩
    have le : nI t ≤ 10 := (nI_leL (n := 10) rfl (by omega) (by decide)).mpr (by omega)
    by_cases z : M = 0
    · refine Or.inl (g_66_11 (br_t le (br_t (by rw [z]; rfl) ⟨?_, rfl⟩)))
      rw [pI_t]
      intro d hd q
      have := h2 d hd q
      rw [z, Nat.zero_testBit] at this
      exact absurd this (by decide)
    have zI : ¬ nI M = 0 := fun q => z ((nI_0iff (by omega)).mp q)
    have inner : ∀ j x, j ≤ 10 → KhI (eP dy sk K) M j x → ∃ r : Nat, KhI (eP dy sk K) M 10 r ∧ ∀ R S, ((nI r = nI M → (R = [.int 0] ∧ S = setR τ 51 F)) ∧ (¬ nI r = nI M → Go 66 11 [.ref 9, .null, .int (nI r), .int (nI t + 1), .null, .null] [] (setR τ 51 F) R S)) → Go 66 27 [.ref 9, .null, .int (nI x), .int (nI t), .int (nI M), .int (nI j)] [] (setR τ 51 F) R S := by
      refine loopX (α := Nat) (β := Nat) 10 (fun j x => KhI (eP dy sk K) M j x) (fun j x r => ∀ R S, ((nI r = nI M → (R = [.int 0] ∧ S = setR τ 51 F)) ∧ (¬ nI r = nI M → Go 66 11 [.ref 9, .null, .int (nI r), .int (nI t + 1), .null, .null] [] (setR τ 51 F) R S)) → Go 66 27 [.ref 9, .null, .int (nI x), .int (nI t), .int (nI M), .int (nI j)] [] (setR τ 51 F) R S) (fun r => KhI (eP dy sk K) M 10 r) ?_ ?_
      · intro j x hj hI
        have ej : (nI j).toNatClampNeg = j := clN (by omega)
        have lt : nI j < 10 := (nI_ltL (n := 10) rfl (by omega) (by decide)).mpr hj
        have fj : (setR τ 51 F).1 51 (nI j).toNatClampNeg = nI (f j) := by rw [ej]; exact (hr j hj).1
        have hlt : f j < 1024 := (hr j hj).2
        have hand : f j &&& x < 2 ^ 31 := Nat.lt_of_le_of_lt Nat.and_le_left (by omega)
        by_cases q : f j &&& x = 0
        · refine ⟨rmB x j, hI.take eP_rng hj (hb j hj) q, fun r hr' R S h => g_66_27 (br_t lt ⟨vp_in_nI hj (by decide), br_t ?_ ?_⟩)⟩
          · rw [fj, nI_and, q]; rfl
          · rw [rmB_I x hI.1 j hj, nI_S]
            exact hr' R S h
        · refine ⟨x, hI.skip (hb j hj) q, fun r hr' R S h => g_66_27 (br_t lt ⟨vp_in_nI hj (by decide), br_f ?_ ?_⟩)⟩
          · rw [fj, nI_and]
            exact fun w => q ((nI_0iff hand).mp w)
          · rw [nI_S]
            exact hr' R S h
      · intro x hI
        exact ⟨x, hI, fun R S h => g_66_27 (br_f (by decide) h)⟩
    obtain ⟨r, hI, hgo⟩ := inner 0 M (by omega) ⟨h1, h2, fun _ _ q => q, fun _ e he => by omega, fun q => absurd rfl q⟩
    by_cases e : r = M
    · refine Or.inl (g_66_11 (br_t le (br_f zI (hgo _ _ ⟨fun _ => ⟨?_, rfl⟩, fun q => absurd (by rw [e]) q⟩))))
      rw [pI_f]
      intro hn
      obtain ⟨i, hi, hbi⟩ := ne0_bit h1 z
      exact cyc eP_rng (fun e' he' hb' => hI.2.2.2.1 e e' he' hb') hn _ i hi hbi (Nat.le_refl _)
    · have hless := hI.less e
      refine Or.inr ⟨r, ⟨hI.1, hI.2.1, by omega⟩, fun h => g_66_11 (br_t le (br_f zI (hgo _ _ ⟨fun q => absurd ((nI_eq (by have := hI.1; omega) (by omega)).mp q) e, fun _ => ?_⟩)))⟩
      rw [nI_S]
      exact h
  · rintro M ⟨h1, h2, h3⟩
    omega
  · refine ⟨by decide, fun d hd _ => ?_, Nat.le_trans (Nat.add_le_add_right (cntP_le 10) 0) (by decide)⟩
    rw [show (1023 : Nat) = 2 ^ 10 - 1 from rfl, Nat.testBit_two_pow_sub_one]
    exact decide_eq_true hd
