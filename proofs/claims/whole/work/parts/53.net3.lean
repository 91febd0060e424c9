/-! the ties' pass -/
theorem rz_mx {L : Nat → Int32} {k : Nat} {v : Int32} {F : Nat → Int} (hk : k < 154) (h : ∀ u, iv L u ≤ F u) (hv : v.toInt ≤ F k) (u : Nat) : iv (rz L k v) u ≤ F u := by
  by_cases e : u = k
  · subst e
    rw [iv_lt hk, rz_at]
    split
    · exact hv
    · have := h u; rw [iv_lt hk] at this; exact this
  · have := h u
    unfold iv at this ⊢
    rw [rz_ne e]
    exact this
theorem lz_mx {H : Nat → Int32} {k : Nat} {v : Int32} {F : Nat → Int} (hk : k < 154) (h : ∀ u, F u ≤ iv H u) (hv : F k ≤ v.toInt) (u : Nat) : F u ≤ iv (lz H k v) u := by
  by_cases e : u = k
  · subst e
    rw [iv_lt hk, lz_at]
    split
    · exact hv
    · have := h u; rw [iv_lt hk] at this; exact this
  · have := h u
    unfold iv at this ⊢
    rw [lz_ne e]
    exact this
def tw (L : Nat → Int32) (l k : Nat) : Nat → Int32 := rz (rz L l (L k)) k (rz L l (L k) l)
def twm (L : Nat → Int32) (l k : Nat) (m : Int32) : Int32 := rzm (rz L l (L k)) k (rz L l (L k) l) (rzm L l (L k) m)
def tv (H : Nat → Int32) (l k : Nat) : Nat → Int32 := lz (lz H l (H k)) k (lz H l (H k) l)
def tvm (H : Nat → Int32) (l k : Nat) (m : Int32) : Int32 := lzm (lz H l (H k)) k (lz H l (H k) l) (lzm H l (H k) m)
theorem rzm_01 {L : Nat → Int32} {k : Nat} {v m : Int32} (h : m = 0 ∨ m = 1) : rzm L k v m = 0 ∨ rzm L k v m = 1 := by
  unfold rzm; split
  · exact h
  · exact Or.inr rfl
theorem lzm_01 {L : Nat → Int32} {k : Nat} {v m : Int32} (h : m = 0 ∨ m = 1) : lzm L k v m = 0 ∨ lzm L k v m = 1 := by
  unfold lzm; split
  · exact Or.inr rfl
  · exact h
theorem rzm_0 {L : Nat → Int32} {k : Nat} {v m : Int32} (h : rzm L k v m = 0) : m = 0 ∧ rz L k v = L := by
  unfold rzm at h
  unfold rz
  by_cases w : v ≤ L k
  · rw [if_pos w] at h; exact ⟨h, if_pos w⟩
  · rw [if_neg w] at h; exact absurd h (by decide)
theorem lzm_0 {L : Nat → Int32} {k : Nat} {v m : Int32} (h : lzm L k v m = 0) : m = 0 ∧ lz L k v = L := by
  unfold lzm at h
  unfold lz
  by_cases w : v < L k
  · rw [if_pos w] at h; exact absurd h (by decide)
  · rw [if_neg w] at h; exact ⟨h, if_neg w⟩
theorem twm_0 {L : Nat → Int32} {l k : Nat} {m : Int32} (h : twm L l k m = 0) : m = 0 ∧ tw L l k = L := by
  obtain ⟨h1, h2⟩ := rzm_0 h
  obtain ⟨h3, h4⟩ := rzm_0 h1
  refine ⟨h3, ?_⟩
  unfold tw
  rw [h2, h4]
theorem tvm_0 {L : Nat → Int32} {l k : Nat} {m : Int32} (h : tvm L l k m = 0) : m = 0 ∧ tv L l k = L := by
  obtain ⟨h1, h2⟩ := lzm_0 h
  obtain ⟨h3, h4⟩ := lzm_0 h1
  refine ⟨h3, ?_⟩
  unfold tv
  rw [h2, h4]
theorem tw_ge {L : Nat → Int32} {l k : Nat} (u : Nat) : L u ≤ tw L l k u := Int32.le_trans (rz_ge u) (rz_ge u)
theorem tv_le {L : Nat → Int32} {l k : Nat} (u : Nat) : tv L l k u ≤ L u := Int32.le_trans (lz_le u) (lz_le u)
theorem tw_l {L : Nat → Int32} {l k : Nat} : L k ≤ tw L l k l := Int32.le_trans rz_v (rz_ge l)
theorem tv_l {L : Nat → Int32} {l k : Nat} : tv L l k l ≤ L k := Int32.le_trans (lz_le l) lz_v
theorem tw_lk {L : Nat → Int32} {l k : Nat} (h : l ≠ k) : tw L l k l ≤ tw L l k k := by
  have : tw L l k l = rz L l (L k) l := by unfold tw; rw [rz_ne h]
  rw [this]
  exact rz_v
theorem tv_lk {L : Nat → Int32} {l k : Nat} (h : l ≠ k) : tv L l k k ≤ tv L l k l := by
  have : tv L l k l = lz L l (L k) l := by unfold tv; rw [lz_ne h]
  rw [this]
  exact lz_v
theorem tw_ne {L : Nat → Int32} {l k u : Nat} (h : u ≠ l) (h2 : u ≠ k) : tw L l k u = L u := by
  unfold tw; rw [rz_ne h2, rz_ne h]
theorem tv_ne {L : Nat → Int32} {l k u : Nat} (h : u ≠ l) (h2 : u ≠ k) : tv L l k u = L u := by
  unfold tv; rw [lz_ne h2, lz_ne h]
theorem tw_F {L : Nat → Int32} {l k : Nat} {F : Nat → Int} (hl : l < 154) (hk : k < 154) (e : F l = F k) (h : ∀ u, iv L u ≤ F u) : ∀ u, iv (tw L l k) u ≤ F u := by
  have h1 : ∀ u, iv (rz L l (L k)) u ≤ F u := rz_mx hl h (by have := h k; rw [iv_lt hk] at this; omega)
  exact rz_mx hk h1 (by have := h1 l; rw [iv_lt hl] at this; omega)
theorem tv_F {L : Nat → Int32} {l k : Nat} {F : Nat → Int} (hl : l < 154) (hk : k < 154) (e : F l = F k) (h : ∀ u, F u ≤ iv L u) : ∀ u, F u ≤ iv (tv L l k) u := by
  have h1 : ∀ u, F u ≤ iv (lz L l (L k)) u := lz_mx hl h (by have := h k; rw [iv_lt hk] at this; omega)
  exact lz_mx hk h1 (by have := h1 l; rw [iv_lt hl] at this; omega)
/-- what the ties' pass has done before the j-th inch -/
def PtI (tE : Nat → Nat → Prop) (cE : Nat → Nat → Prop) (j : Nat) (L H : Nat → Int32) (mv : Int32) (L' H' : Nat → Int32) (mv' : Int32) : Prop :=
  (∀ u, L u ≤ L' u) ∧ (∀ u, H' u ≤ H u) ∧ (∀ l d, l < j → tE l d → L (144 + d) ≤ L' l ∧ L l ≤ L' (144 + d)) ∧ (∀ l d, l < j → tE l d → H' l ≤ H (144 + d) ∧ H' (144 + d) ≤ H l) ∧
  (∀ l, l < 144 → L' l = L l ∨ ∃ d, tE l d ∧ L' l ≤ L' (144 + d)) ∧ (∀ l, l < 144 → H' l = H l ∨ ∃ d, tE l d ∧ H' (144 + d) ≤ H' l) ∧
  (∀ F : Nat → Int, Clo cE tE F → (∀ u, iv L u ≤ F u) → ∀ u, iv L' u ≤ F u) ∧ (∀ F : Nat → Int, Clo cE tE F → (∀ u, F u ≤ iv H u) → ∀ u, F u ≤ iv H' u) ∧
  (mv' = 0 ∨ mv' = 1) ∧ (mv' = 0 → mv = 0 ∧ L' = L ∧ H' = H)
theorem PtI.skip {tE cE : Nat → Nat → Prop} {j : Nat} {L H L' H' : Nat → Int32} {mv mv' : Int32} (h : PtI tE cE j L H mv L' H' mv') (hj : ∀ d, ¬ tE j d) : PtI tE cE (j + 1) L H mv L' H' mv' := by
  obtain ⟨a1, a2, a3, a4, a5, a6, a7, a8, a9, a10⟩ := h
  refine ⟨a1, a2, fun l d h1 h2 => ?_, fun l d h1 h2 => ?_, a5, a6, a7, a8, a9, a10⟩
  · by_cases e : l = j
    · subst e; exact absurd h2 (hj d)
    · exact a3 l d (by omega) h2
  · by_cases e : l = j
    · subst e; exact absurd h2 (hj d)
    · exact a4 l d (by omega) h2
theorem PtI.step {tE cE : Nat → Nat → Prop} {j d : Nat} {L H L' H' : Nat → Int32} {mv mv' : Int32} (hj : j < 144) (hd : d < 10) (h : PtI tE cE j L H mv L' H' mv') (ht : tE j d) (hu : ∀ e, tE j e → e = d) : PtI tE cE (j + 1) L H mv (tw L' j (144 + d)) (tv H' j (144 + d)) (tvm H' j (144 + d) (twm L' j (144 + d) mv')) := by
  obtain ⟨a1, a2, a3, a4, a5, a6, a7, a8, a9, a10⟩ := h
  have nj : j ≠ 144 + d := by omega
  refine ⟨fun u => Int32.le_trans (a1 u) (tw_ge u), fun u => Int32.le_trans (tv_le u) (a2 u), fun l e h1 h2 => ?_, fun l e h1 h2 => ?_, fun l hl => ?_, fun l hl => ?_, fun F hF h1 => ?_, fun F hF h1 => ?_, ?_, fun h0 => ?_⟩
  · by_cases q : l = j
    · subst q
      rw [hu e h2]
      exact ⟨Int32.le_trans (a1 _) tw_l, Int32.le_trans (Int32.le_trans (a1 _) (tw_ge _)) (tw_lk nj)⟩
    · have := a3 l e (by omega) h2
      exact ⟨Int32.le_trans this.1 (tw_ge _), Int32.le_trans this.2 (tw_ge _)⟩
  · by_cases q : l = j
    · subst q
      rw [hu e h2]
      exact ⟨Int32.le_trans tv_l (a2 _), Int32.le_trans (tv_lk nj) (Int32.le_trans (tv_le _) (a2 _))⟩
    · have := a4 l e (by omega) h2
      exact ⟨Int32.le_trans (tv_le _) this.1, Int32.le_trans (tv_le _) this.2⟩
  · by_cases q : l = j
    · subst q
      exact Or.inr ⟨d, ht, tw_lk nj⟩
    · rw [tw_ne q (by omega)]
      rcases a5 l hl with w | ⟨e, w1, w2⟩
      · exact Or.inl w
      · exact Or.inr ⟨e, w1, Int32.le_trans w2 (tw_ge _)⟩
  · by_cases q : l = j
    · subst q
      exact Or.inr ⟨d, ht, tv_lk nj⟩
    · rw [tv_ne q (by omega)]
      rcases a6 l hl with w | ⟨e, w1, w2⟩
      · exact Or.inl w
      · exact Or.inr ⟨e, w1, Int32.le_trans (tv_le _) w2⟩
  · exact tw_F (by omega) (by omega) (hF.2 j d ht) (a7 F hF h1)
  · exact tv_F (by omega) (by omega) (hF.2 j d ht) (a8 F hF h1)
  · exact lzm_01 (lzm_01 (rzm_01 (rzm_01 a9)))
  · obtain ⟨h1, h2⟩ := tvm_0 h0
    obtain ⟨h3, h4⟩ := twm_0 h1
    rw [h2, h4]
    exact a10 h3
theorem s_3 {σ : St} {L H : Nat → Int32} {mv w : Int32} (hm : mv = 0 ∨ mv = 1) (hdy : ∀ l, l < 144 → σ.1 47 l = -1 ∨ ∃ d, d < 10 ∧ σ.1 47 l = nI d) :
    ∃ r : (Nat → Int32) × (Nat → Int32) × Int32, PtI (tEd (σ.1 47) (σ.1 48) w) (cEd (σ.1 48)) 144 L H mv r.1 r.2.1 r.2.2 ∧ Ret 3 [.ref 0, .int w] (nst σ L H mv) [] (nst σ r.1 r.2.1 r.2.2) := by
  have key := loopX (α := (Nat → Int32) × (Nat → Int32) × Int32) (β := (Nat → Int32) × (Nat → Int32) × Int32) 144
    (fun j x => PtI (tEd (σ.1 47) (σ.1 48) w) (cEd (σ.1 48)) j L H mv x.1 x.2.1 x.2.2)
    (fun j x r => Go 3 2 [.ref 0, .int w, .int (nI j), .null] [] (nst σ x.1 x.2.1 x.2.2) [] (nst σ r.1 r.2.1 r.2.2))
    (fun r => PtI (tEd (σ.1 47) (σ.1 48) w) (cEd (σ.1 48)) 144 L H mv r.1 r.2.1 r.2.2) ?_ ?_ 0 (L, H, mv) (by omega) ?_
  · obtain ⟨r, h1, h2⟩ := key
    exact ⟨r, h1, g_3_0 h2⟩
  · rintro j ⟨L1, H1, m1⟩ hj hI
    have ei : (nI j).toNatClampNeg = j := clN (by omega)
    have lt : nI j < 144 := (nI_ltL (n := 144) rfl (by omega) (by omega)).mpr hj
    by_cases q1 : nI j = w
    · refine ⟨(L1, H1, m1), hI.skip (fun d h => h.2.2.2.2 q1), fun r hr => g_3_2 (br_t lt (br_t q1 ?_))⟩
      rw [nI_S]; exact hr
    by_cases q2 : ¬ σ.1 47 j = -1 ∧ σ.1 48 j = 0
    · rcases hdy j hj with z | ⟨d, hd, ed⟩
      · exact absurd z q2.1
      have ek : (144 : Int32) + nI d = nI (144 + d) := by rw [show (144 : Int32) = nI 144 from rfl, nI_add]
      have ekc : (nI (144 + d)).toNatClampNeg = 144 + d := clN (by omega)
      refine ⟨(tw L1 j (144 + d), tv H1 j (144 + d), tvm H1 j (144 + d) (twm L1 j (144 + d) m1)), hI.step hj hd ⟨hj, hd, ed, q2.2, q1⟩ (fun e h => ?_), fun r hr => ?_⟩
      · have := h.2.2.1
        rw [ed] at this
        have h2 := h.2.1
        exact ((nI_eq (by omega) (by omega)).mp this).symm
      · refine g_3_2 (br_t lt (br_f q1 ⟨_, _, s_60t (σ := σ) hj rfl rfl q2, br_f (by decide) ⟨vp_in_nI hj (by decide), ?_⟩⟩))
        have e47 : (nst σ L1 H1 m1).1 47 (nI j).toNatClampNeg = nI d := by rw [ei]; exact ed
        rw [e47, ek, ekc, ei]
        refine ⟨vp_in_nI (by omega) (by decide), _, s_4 (by omega), vp_in_nI (by omega) (by decide), _, s_4 (by omega), _, s_5 (by omega), _, s_5 (by omega), ?_⟩
        rw [nI_S]
        exact hr
    · refine ⟨(L1, H1, m1), hI.skip (fun d h => q2 ⟨?_, h.2.2.2.1⟩), fun r hr => ?_⟩
      · rw [h.2.2.1]
        intro z
        have h0 : 0 ≤ nI d := nI0 (by have := h.2.1; omega)
        rw [z] at h0
        exact absurd h0 (by decide)
      · refine g_3_2 (br_t lt (br_f q1 ⟨_, _, s_60f (σ := σ) hj rfl rfl q2, br_t rfl ?_⟩))
        rw [nI_S]; exact hr
  · rintro ⟨L1, H1, m1⟩ hI
    exact ⟨(L1, H1, m1), hI, g_3_2 (br_f (by decide) ⟨rfl, rfl⟩)⟩
  · exact ⟨fun u => Int32.le_refl _, fun u => Int32.le_refl _, fun l d h => by omega, fun l d h => by omega, fun l _ => Or.inl rfl, fun l _ => Or.inl rfl, fun F _ h => h, fun F _ h => h, hm, fun h => ⟨h, rfl, rfl⟩⟩
