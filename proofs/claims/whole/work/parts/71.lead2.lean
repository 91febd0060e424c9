/-! lead of the class, whole -/
theorem in3_d {x y : Int32} (h : in3 x) (k : in3 y) (q : x ≤ y) : 2 - y.toNatClampNeg ≤ 2 - x.toNatClampNeg := by
  rcases h with rfl | rfl | rfl <;> rcases k with rfl | rfl | rfl <;> first | exact absurd q (by decide) | decide
theorem in3_s {x y : Int32} (h : in3 x) (k : in3 y) (q : x < y) : 2 - y.toNatClampNeg < 2 - x.toNatClampNeg := by
  rcases h with rfl | rfl | rfl <;> rcases k with rfl | rfl | rfl <;> first | exact absurd q (by decide) | decide
def mu3 (M D : Nat → Int32) : Nat := smM (fun u => 2 - (M u).toNatClampNeg) 144 + smM (fun u => 2 - (D u).toNatClampNeg) 10
theorem smM_b {f : Nat → Nat} (h : ∀ k, f k ≤ 2) : ∀ n, smM f n ≤ 2 * n
  | 0 => Nat.le_refl 0
  | n + 1 => by
    have h1 := smM_b h n
    have h2 := h n
    unfold smM
    omega
theorem mu3_b {M D : Nat → Int32} : mu3 M D ≤ 308 := by
  have h1 := smM_b (f := fun u => 2 - (M u).toNatClampNeg) (fun k => Nat.sub_le _ _) 144
  have h2 := smM_b (f := fun u => 2 - (D u).toNatClampNeg) (fun k => Nat.sub_le _ _) 10
  unfold mu3
  omega
theorem mu3_c {M D : Nat → Int32} : ∃ q, mu3 M D = q ∧ q + 0 ≤ 308 := by
  have h := mu3_b (M := M) (D := D)
  generalize mu3 M D = q at h
  exact ⟨q, rfl, h⟩
theorem mu3_lt {M D M' D' : Nat → Int32} (a1 : ∀ u, u < 144 → in3 (M u)) (a2 : ∀ u, u < 144 → in3 (M' u)) (b1 : ∀ d, d < 10 → in3 (D d)) (b2 : ∀ d, d < 10 → in3 (D' d)) (h1 : ∀ u, M u ≤ M' u) (h2 : ∀ u, D u ≤ D' u) (hc : Ch3 M D M' D') : mu3 M' D' < mu3 M D := by
  have x1 := smM_le (f := fun u => 2 - (M' u).toNatClampNeg) (g := fun u => 2 - (M u).toNatClampNeg) 144 (fun k hk => in3_d (a1 k hk) (a2 k hk) (h1 k))
  have x2 := smM_le (f := fun u => 2 - (D' u).toNatClampNeg) (g := fun u => 2 - (D u).toNatClampNeg) 10 (fun k hk => in3_d (b1 k hk) (b2 k hk) (h2 k))
  unfold mu3
  rcases hc with ⟨u, hu, q⟩ | ⟨u, hu, q⟩
  · have := smM_lt (f := fun u => 2 - (M' u).toNatClampNeg) (g := fun u => 2 - (M u).toNatClampNeg) 144 (fun k hk => in3_d (a1 k hk) (a2 k hk) (h1 k)) ⟨u, hu, in3_s (a1 u hu) (a2 u hu) q⟩
    omega
  · have := smM_lt (f := fun u => 2 - (D' u).toNatClampNeg) (g := fun u => 2 - (D u).toNatClampNeg) 10 (fun k hk => in3_d (b1 k hk) (b2 k hk) (h2 k)) ⟨u, hu, in3_s (b1 u hu) (b2 u hu) q⟩
    omega
theorem lturn {σ : St} {o : Nat} {M D : Nat → Int32} (v2 v3 : Int32) (hdy : ∀ l, l < 144 → σ.1 47 l = -1 ∨ ∃ d, d < 10 ∧ σ.1 47 l = nI d) (hG : GdI (σ.1 47) (σ.1 48) o M D) : ∃ r : (Nat → Int32) × (Nat → Int32) × Int32, (GdI (σ.1 47) (σ.1 48) o r.1 r.2.1 ∧ Gw M D 0 r.1 r.2.1 r.2.2 ∧ (r.2.2 = 0 → Cl3 (σ.1 47) (σ.1 48) o M)) ∧
    ∀ R S, ((r.2.2 = 0 → (vp_in v2 144 ∧ ((r.1 v2.toNatClampNeg = 2 → (R = [.int 1] ∧ S = lst σ r.1 r.2.1 r.2.2)) ∧ (¬ r.1 v2.toNatClampNeg = 2 → (R = [.int 0] ∧ S = lst σ r.1 r.2.1 r.2.2))))) ∧ (¬ r.2.2 = 0 → Go 56 51 [.ref 8, .null, .int v2, .int (v3 + 1), .null] [] (lst σ r.1 r.2.1 r.2.2) R S)) → Go 56 66 [.ref 8, .null, .int v2, .int v3, .int 0] [] (lst σ M D 0) R S := by
  refine loopX (α := (Nat → Int32) × Int32) (β := (Nat → Int32) × (Nat → Int32) × Int32) 6
    (fun c x => GdI (σ.1 47) (σ.1 48) o x.1 D ∧ Gw M D 0 x.1 D x.2 ∧ (x.2 = 0 → ∀ l k, k < l → l / 24 = k / 24 → l / 24 < c → σ.1 48 l = 0 → σ.1 48 k = 0 → ¬ M l = 0 → M k = 2))
    (fun c x r => ∀ R S, ((r.2.2 = 0 → (vp_in v2 144 ∧ ((r.1 v2.toNatClampNeg = 2 → (R = [.int 1] ∧ S = lst σ r.1 r.2.1 r.2.2)) ∧ (¬ r.1 v2.toNatClampNeg = 2 → (R = [.int 0] ∧ S = lst σ r.1 r.2.1 r.2.2))))) ∧ (¬ r.2.2 = 0 → Go 56 51 [.ref 8, .null, .int v2, .int (v3 + 1), .null] [] (lst σ r.1 r.2.1 r.2.2) R S)) → Go 56 66 [.ref 8, .null, .int v2, .int v3, .int (nI c)] [] (lst σ x.1 D x.2) R S)
    (fun r => GdI (σ.1 47) (σ.1 48) o r.1 r.2.1 ∧ Gw M D 0 r.1 r.2.1 r.2.2 ∧ (r.2.2 = 0 → Cl3 (σ.1 47) (σ.1 48) o M)) ?_ ?_ 0 (M, 0) (by omega) ⟨hG, Gw.rf (Or.inl rfl), fun _ l k h1 h2 h3 => by omega⟩
  · rintro c ⟨M1, m1⟩ hc ⟨a1, a2, a3⟩
    obtain ⟨⟨M2, m2⟩, ⟨b1, b2, b3⟩, hgo⟩ := s_57 (σ := σ) (dy := σ.1 47) hc a2.2.2.1 a1
    have lt : nI c < 6 := (nI_ltL (n := 6) rfl (by omega) (by omega)).mpr hc
    have em : nI c * 24 = nI (24 * c) := by
      have := mul24 (a := c) (b := 0)
      rw [nI_0, Int32.add_zero] at this
      exact this
    refine ⟨(M2, m2), ⟨b1, a2.tr b2, fun hz l k h1 h2 h3 h4 h5 h6 => ?_⟩, fun r hr R S h => g_56_66 (br_t lt ?_)⟩
    · obtain ⟨z1, z2, _⟩ := b2.2.2.2.1 hz
      obtain ⟨_, z3, _⟩ := a2.2.2.2.1 z1
      have z3 : M1 = M := z3
      have b3 : m2 = 0 → ∀ l k, 24 * c ≤ k → k < l → l < 24 * c + 24 → σ.1 48 l = 0 → σ.1 48 k = 0 → ¬ M1 l = 0 → M1 k = 2 := b3
      rw [z3] at b3
      by_cases e : l / 24 = c
      · exact b3 hz l k (by omega) h1 (by omega) h4 h5 h6
      · exact a3 z1 l k h1 h2 (by omega) h4 h5 h6
    · rw [em]
      refine ⟨_, hgo, ?_⟩
      rw [nI_S]
      exact hr R S h
  · rintro ⟨M1, m1⟩ ⟨a1, a2, a3⟩
    obtain ⟨⟨M2, D2, m2⟩, ⟨b1, b2, b3⟩, hgo⟩ := s_58 (σ := σ) a2.2.2.1 hdy a1
    refine ⟨(M2, D2, m2), ⟨b1, a2.tr b2, fun hz => ?_⟩, fun R S h => g_56_66 (br_f (by decide) ⟨_, hgo, h⟩)⟩
    obtain ⟨z1, z2, z4⟩ := b2.2.2.2.1 hz
    obtain ⟨_, z3, _⟩ := a2.2.2.2.1 z1
    have z3 : M1 = M := z3
    have b3 := b3 hz
    have b3 : ∀ l d, l < 144 → d < 10 → oP (σ.1 47) (σ.1 48) l → σ.1 47 l = nI d → M1 l = D d := b3
    rw [z3] at b3
    refine ⟨hG.1, hG.2.2.1, fun l k h1 h2 h3 h4 h5 h6 => a3 z1 l k h1 h3 (by omega) h4 h5 h6, fun l k hl hk ho hok e => ?_⟩
    obtain ⟨d, hd, ed⟩ := day_of (sk := σ.1 48) hdy hl ho
    rw [b3 l d hl hd ho ed, b3 k d hk hd hok (e ▸ ed)]
    exact Int32.le_refl _
theorem ld_iff {dy sk M D : Nat → Int32} {a b : Nat} (hb : b < 144) (sa : sk a = 0) (sb : sk b = 0) (hG : GdI dy sk a M D) (hc : Cl3 dy sk a M) : M b = 2 ↔ ldP dy sk a b := by
  constructor
  · intro e
    refine ⟨sa, sb, fun F hF => in3_2 (hF.1 b hb) ?_⟩
    rw [← e]
    exact (hG.2.2.2 F hF).1 b hb
  · intro h
    exact h.2.2 M hc
theorem lst_self {σ : St} : lst σ (σ.1 45) (σ.1 46) (σ.1 8 3) = σ := by
  unfold lst
  rw [setR_self, setR_self]
  refine St_ext (fun c j => ?_) rfl
  rw [wr_get]
  split
  · rename_i h; rw [h.1, h.2]
  · rfl
theorem lst_0 {σ : St} {M D : Nat → Int32} : setR (setR σ 45 M) 46 D = lst σ M D (σ.1 8 3) := by
  unfold lst
  refine St_ext (fun c j => ?_) rfl
  rw [wr_get]
  by_cases h : c = 8 ∧ j = 3
  · rw [if_pos h, h.1, h.2]; rfl
  · rw [if_neg h]
theorem lst_w {σ : St} {M D : Nat → Int32} {mv x : Int32} {k : Nat} : wr (lst σ M D mv) 45 k x = lst σ (upd M k x) D mv := by
  refine St_ext (fun c j => ?_) rfl
  unfold lst
  rw [wr_get, wr_get, wr_get]
  simp only [setR_get]
  by_cases h0 : c = 45
  · subst h0; simp [upd]
  · simp [h0]
theorem s_56 {σ : St} {a b : Nat} (ha : a < 144) (hb : b < 144) (hdy : ∀ l, l < 144 → σ.1 47 l = -1 ∨ ∃ d, d < 10 ∧ σ.1 47 l = nI d) : ∃ (M D : Nat → Int32) (mv : Int32), Ret 56 [.ref 8, .int (nI a), .int (nI b)] σ [.int (pI (ldP (σ.1 47) (σ.1 48) a b))] (lst σ M D mv) := by
  have ea : (nI a).toNatClampNeg = a := clN (by omega)
  have eb : (nI b).toNatClampNeg = b := clN (by omega)
  have va : vp_in (nI a) 144 := vp_in_nI ha (by decide)
  have vb : vp_in (nI b) 144 := vp_in_nI hb (by decide)
  rcases (Classical.em (σ.1 48 a = 0)).symm with sa | sa
  · refine ⟨σ.1 45, σ.1 46, σ.1 8 3, ?_⟩
    rw [lst_self]
    exact g_56_0 ⟨va, br_f (by rw [ea]; exact sa) ⟨by rw [pI_f (fun z => sa z.1)], rfl⟩⟩
  rcases (Classical.em (σ.1 48 b = 0)).symm with sb | sb
  · refine ⟨σ.1 45, σ.1 46, σ.1 8 3, ?_⟩
    rw [lst_self]
    exact g_56_0 ⟨va, br_t (by rw [ea]; exact sa) ⟨vb, br_f (by rw [eb]; exact sb) ⟨by rw [pI_f (fun z => sb z.2.1)], rfl⟩⟩⟩
  have hG : GdI (σ.1 47) (σ.1 48) a (upd (filR 0 144 (σ.1 45)) a 1) (filR 0 10 (σ.1 46)) := by
    refine ⟨fun u hu => ?_, fun d hd => Or.inl (if_pos hd), by rw [upd_at]; decide, fun F hF => ⟨fun u hu => ?_, fun l d hl hd _ _ => ?_⟩⟩
    · by_cases e : u = a
      · rw [e, upd_at]; exact Or.inr (Or.inl rfl)
      · rw [upd_n e]; exact Or.inl (if_pos hu)
    · by_cases e : u = a
      · rw [e, upd_at]; exact hF.2.1
      · rw [upd_n e, filR, if_pos hu]; exact in3_ge0 (hF.1 u hu)
    · rw [filR, if_pos hd]; exact in3_ge0 (hF.1 l hl)
  have key := loopY (α := (Nat → Int32) × (Nat → Int32) × Int32) (β := (Nat → Int32) × (Nat → Int32) × Int32) 309
    (fun t x => GdI (σ.1 47) (σ.1 48) a x.1 x.2.1 ∧ ∃ q, mu3 x.1 x.2.1 = q ∧ q + t ≤ 308)
    (fun t x r => Go 56 51 [.ref 8, .null, .int (nI b), .int (nI t), .null] [] (lst σ x.1 x.2.1 x.2.2) [.int (pI (ldP (σ.1 47) (σ.1 48) a b))] (lst σ r.1 r.2.1 r.2.2))
    (fun _ => True) ?_ ?_ 0 (upd (filR 0 144 (σ.1 45)) a 1, filR 0 10 (σ.1 46), σ.1 8 3) (by omega) ⟨hG, mu3_c⟩
  · obtain ⟨r, _, h⟩ := key
    refine ⟨r.1, r.2.1, r.2.2, g_56_0 ⟨va, br_t (by rw [ea]; exact sa) ⟨vb, br_t (by rw [eb]; exact sb) ⟨_, s_211_45, _, s_211_46, ?_⟩⟩⟩⟩
    rw [ea]
    have e : wr (setR (setR σ 45 (filR 0 144 (σ.1 45))) 46 (filR 0 10 ((setR σ 45 (filR 0 144 (σ.1 45))).1 46))) 45 a 1 = lst σ (upd (filR 0 144 (σ.1 45)) a 1) (filR 0 10 (σ.1 46)) (σ.1 8 3) := by
      show wr (setR (setR σ 45 (filR 0 144 (σ.1 45))) 46 (filR 0 10 (σ.1 46))) 45 a 1 = _
      rw [lst_0, lst_w]
    rw [e]
    exact h
  · rintro t ⟨M, D, m⟩ ht ⟨a1, q0, e0, a2⟩
    have lt : nI t < 1000 := (nI_ltL (n := 1000) rfl (by omega) (by omega)).mpr (by omega)
    obtain ⟨⟨M1, D1, m1⟩, ⟨b1, b2, b3⟩, hgo⟩ := lturn (σ := σ) (nI b) (nI t) hdy a1
    by_cases z : m1 = 0
    · refine Or.inl ⟨(M1, D1, m1), trivial, g_56_51 (br_t lt ?_)⟩
      rw [lst_mv]
      obtain ⟨_, e1, _⟩ := b2.2.2.2.1 z
      have e1 : M1 = M := e1
      have hiff := ld_iff hb sa sb a1 (b3 z)
      refine hgo _ _ ⟨fun _ => ⟨vb, fun q => ⟨?_, rfl⟩, fun q => ⟨?_, rfl⟩⟩, fun n => absurd z n⟩
      · have q : M1 (nI b).toNatClampNeg = 2 := q
        rw [eb, e1] at q
        rw [pI_t (hiff.mp q)]
      · have q : ¬ M1 (nI b).toNatClampNeg = 2 := q
        rw [eb, e1] at q
        rw [pI_f (fun w => q (hiff.mpr w))]
    · have hch : Ch3 M D M1 D1 := by
        rcases b2.2.2.2.2 z with q | q
        · exact absurd rfl q
        · exact q
      have hlt : mu3 M1 D1 < mu3 M D := mu3_lt a1.1 b1.1 a1.2.1 b1.2.1 b2.1 b2.2.1 hch
      have e0 : mu3 M D = q0 := e0
      have hle : mu3 M1 D1 + (t + 1) ≤ 308 := by omega
      refine Or.inr ⟨(M1, D1, m1), ⟨b1, _, rfl, hle⟩, fun r hr => g_56_51 (br_t lt ?_)⟩
      rw [lst_mv]
      refine hgo _ _ ⟨fun n => absurd n z, fun _ => ?_⟩
      rw [nI_S]
      exact hr
  · rintro ⟨M, D, m⟩ ⟨a1, q0, e0, a2⟩
    omega
/-! leads of the model -/
noncomputable def nwF (dy sk C : Nat → Int32) (l k : Nat) : Int32 := @ite _ (k / 24 = l / 24 ∧ k < l ∧ sk k = 0) (Classical.propDecidable _) 2 (@ite _ (¬ k = l ∧ oP dy sk l ∧ oP dy sk k ∧ dy l = dy k) (Classical.propDecidable _) (C l) 0)
theorem nwF_up {dy sk C : Nat → Int32} {l k : Nat} (h : k / 24 = l / 24 ∧ k < l ∧ sk k = 0) : nwF dy sk C l k = 2 := by unfold nwF; rw [if_pos h]
theorem nwF_same {dy sk C : Nat → Int32} {l k : Nat} (n : ¬ (k / 24 = l / 24 ∧ k < l ∧ sk k = 0)) (h : ¬ k = l ∧ oP dy sk l ∧ oP dy sk k ∧ dy l = dy k) : nwF dy sk C l k = C l := by unfold nwF; rw [if_neg n, if_pos h]
theorem nwF_no {dy sk C : Nat → Int32} {l k : Nat} (n : ¬ (k / 24 = l / 24 ∧ k < l ∧ sk k = 0)) (h : ¬ (¬ k = l ∧ oP dy sk l ∧ oP dy sk k ∧ dy l = dy k)) : nwF dy sk C l k = 0 := by unfold nwF; rw [if_neg n, if_neg h]
theorem s_199k {σ : St} {dy sk C : Nat → Int32} {l k : Nat} {v2 v3 : Int32} (hl : l < 144) (hk : k < 144) (hC : ∀ u, u < 144 → in3 (C u)) (pl : ¬ C l = 0) (hq : TmQ dy sk (σ.1 74) (σ.1 75)) {R : List Value} {S : St}
    (h : Go 199 66 [.ref 11, .null, .int v2, .int (rzm C k (nwF dy sk C l k) v3), .int (nI l), .int (nI (k + 1)), .null, .null, .null] [] (setR σ 92 (rz C k (nwF dy sk C l k))) R S) : Go 199 66 [.ref 11, .null, .int v2, .int v3, .int (nI l), .int (nI k), .null, .null, .null] [] (setR σ 92 C) R S := by
  have ek : (nI k).toNatClampNeg = k := clN (by omega)
  have el : (nI l).toNatClampNeg = l := clN (by omega)
  have ltk : nI k < 144 := (nI_ltL (n := 144) rfl (by omega) (by decide)).mpr hk
  have vk : vp_in (nI k) 144 := vp_in_nI hk (by decide)
  have vl : vp_in (nI l) 144 := vp_in_nI hl (by decide)
  have pos : ¬ (setR σ 92 C).1 92 l ≤ 0 := by
    show ¬ C l ≤ 0
    intro z
    have := in3_ge1 (hC l hl) pl
    have := Int32.le_trans this z
    exact absurd this (by decide)
  have fin : ∀ now : Int32, nwF dy sk C l k = now → ((now ≤ C k → Go 199 66 [.ref 11, .null, .int v2, .int v3, .int (nI l), .int (nI k + 1), .null, .null, .null] [] (setR σ 92 C) R S) ∧ (¬ now ≤ C k → Go 199 66 [.ref 11, .null, .int v2, .int 1, .int (nI l), .int (nI k + 1), .null, .null, .null] [] (wr (setR σ 92 C) 92 k now) R S)) := by
    intro now e
    rw [e] at h
    constructor
    · intro q
      rw [nI_S]
      unfold rz rzm at h
      rw [if_pos q, if_pos q] at h
      exact h
    · intro q
      rw [nI_S, wr_setR]
      unfold rz rzm at h
      rw [if_neg q, if_neg q] at h
      exact h
  have e75 : ∀ x, x < 144 → σ.1 75 x = sk x := fun x hx => (hq x hx).2
  have t74 : ∀ x y, x < 144 → y < 144 → oP dy sk x → oP dy sk y → (σ.1 74 x = σ.1 74 y ↔ dy x = dy y) := by
    intro x y hx hy ox oy
    rcases (hq x hx).1 with ⟨q, _⟩ | ⟨d, hd, h3, h4⟩
    · exact absurd q ox.1
    · rcases (hq y hy).1 with ⟨q, _⟩ | ⟨e, he, h5, h6⟩
      · exact absurd q oy.1
      · rw [h3, h4, h5, h6]
  have ml1 := fun (o : oP dy sk l) => m176t (τ := setR σ 92 C) hl hq o
  have ml0 := fun (o : ¬ oP dy sk l) => m176f (τ := setR σ 92 C) hl hq o
  have mk1 := fun (o : oP dy sk k) => m176t (τ := setR σ 92 C) hk hq o
  have mk0 := fun (o : ¬ oP dy sk k) => m176f (τ := setR σ 92 C) hk hq o
  have ne : ¬ k = l → ¬ nI k = nI l := fun z w => z ((nI_eq (by omega) (by omega)).mp w)
  refine g_199_66 (br_t ltk ?_)
  rw [ek, el]
  refine ⟨vl, br_f pos ?_⟩
  by_cases hc : k / 24 = l / 24
  · have hc' : nI k / 24 = nI l / 24 := by rw [div24 hk, div24 hl, hc]
    by_cases hlt : k < l
    · refine br_t hc' (br_t ((nI_ltI (by omega) (by omega)).mpr hlt) ⟨vk, ?_⟩)
      by_cases hs : sk k = 0
      · have e := nwF_up (dy := dy) (sk := sk) (C := C) ⟨hc, hlt, hs⟩
        refine br_t (by show σ.1 75 k = 0; rw [e75 k hk]; exact hs) (br_f (ne (by omega)) ?_)
        by_cases q1 : oP dy sk l
        · refine ⟨_, _, ml1 q1, br_f (by decide) ?_⟩
          by_cases q2 : oP dy sk k
          · refine ⟨_, _, mk1 q2, br_f (by decide) ⟨fun _ => fin 2 e, fun _ => fin 2 e⟩⟩
          · exact ⟨_, _, mk0 q2, br_t rfl (fin 2 e)⟩
        · exact ⟨_, _, ml0 q1, br_t rfl (fin 2 e)⟩
      · have q2 : ¬ oP dy sk k := fun z => hs z.2
        have e := nwF_no (dy := dy) (sk := sk) (C := C) (l := l) (k := k) (fun z => hs z.2.2) (fun z => q2 z.2.2.1)
        refine br_f (by show ¬ σ.1 75 k = 0; rw [e75 k hk]; exact hs) (br_f (ne (by omega)) ?_)
        by_cases q1 : oP dy sk l
        · exact ⟨_, _, ml1 q1, br_f (by decide) ⟨_, _, mk0 q2, br_t rfl (fin 0 e)⟩⟩
        · exact ⟨_, _, ml0 q1, br_t rfl (fin 0 e)⟩
    · have nu : ¬ (k / 24 = l / 24 ∧ k < l ∧ sk k = 0) := fun z => hlt z.2.1
      refine br_t hc' (br_f (fun z => hlt ((nI_ltI (by omega) (by omega)).mp z)) ?_)
      by_cases hkl : k = l
      · exact br_t (by rw [hkl]) ⟨vk, fin 0 (nwF_no nu (fun z => z.1 hkl))⟩
      · refine br_f (ne hkl) ?_
        by_cases q1 : oP dy sk l
        · refine ⟨_, _, ml1 q1, br_f (by decide) ?_⟩
          by_cases q2 : oP dy sk k
          · refine ⟨_, _, mk1 q2, br_f (by decide) ⟨vk, ?_⟩⟩
            by_cases q3 : dy l = dy k
            · exact br_t ((t74 l k hl hk q1 q2).mpr q3) (fin (C l) (nwF_same nu ⟨hkl, q1, q2, q3⟩))
            · exact br_f (fun z => q3 ((t74 l k hl hk q1 q2).mp z)) (fin 0 (nwF_no nu (fun z => q3 z.2.2.2)))
          · exact ⟨_, _, mk0 q2, br_t rfl ⟨vk, fin 0 (nwF_no nu (fun z => q2 z.2.2.1))⟩⟩
        · exact ⟨_, _, ml0 q1, br_t rfl ⟨vk, fin 0 (nwF_no nu (fun z => q1 z.2.1))⟩⟩
  · have nu : ¬ (k / 24 = l / 24 ∧ k < l ∧ sk k = 0) := fun z => hc z.1
    have hc' : ¬ nI k / 24 = nI l / 24 := by
      rw [div24 hk, div24 hl]
      exact fun z => hc ((nI_eq (by omega) (by omega)).mp z)
    refine br_f hc' ?_
    by_cases hkl : k = l
    · exact br_t (by rw [hkl]) ⟨vk, fin 0 (nwF_no nu (fun z => z.1 hkl))⟩
    · refine br_f (ne hkl) ?_
      by_cases q1 : oP dy sk l
      · refine ⟨_, _, ml1 q1, br_f (by decide) ?_⟩
        by_cases q2 : oP dy sk k
        · refine ⟨_, _, mk1 q2, br_f (by decide) ⟨vk, ?_⟩⟩
          by_cases q3 : dy l = dy k
          · exact br_t ((t74 l k hl hk q1 q2).mpr q3) (fin (C l) (nwF_same nu ⟨hkl, q1, q2, q3⟩))
          · exact br_f (fun z => q3 ((t74 l k hl hk q1 q2).mp z)) (fin 0 (nwF_no nu (fun z => q3 z.2.2.2)))
        · exact ⟨_, _, mk0 q2, br_t rfl ⟨vk, fin 0 (nwF_no nu (fun z => q2 z.2.2.1))⟩⟩
      · exact ⟨_, _, ml0 q1, br_t rfl ⟨vk, fin 0 (nwF_no nu (fun z => q1 z.2.1))⟩⟩
