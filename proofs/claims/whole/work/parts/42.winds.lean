/-! winds -/
def wyF (σ : St) (m c : Nat) : Int32 := wayF (σ.1 36 (6 + c) - σ.1 36 m) (σ.1 37 (6 + c) - σ.1 37 m)
theorem wayF_neg {e s : Int32} : wayF e s < 0 ↔ wayF e s = -6 := by
  unfold wayF
  split
  · decide
  · split
    · split <;> decide
    · split
      · split <;> decide
      · split
        · split <;> decide
        · split <;> decide
theorem way_eq2 {σ : St} (hR : Rel σ) {a b : Nat} (ha : a < 6) (hb : b < 6) : Ret 43 [.ref 5, .int (nI a), .int (nI b)] σ [.int (wyF σ a b)] σ ∧ Ret 193 [.ref 11, .int (nI a), .int (nI b)] σ [.int (wyF σ a b)] σ := by
  obtain ⟨hS, hG, hH, hL, hP, hM, hA, hT, hD, hF, hU⟩ := id hR
  have e0 : (nI a).toNatClampNeg = a := clN (by omega)
  have e1 : (nI b).toNatClampNeg = b := clN (by omega)
  have e2 : (6 + nI b : Int32).toNatClampNeg = 6 + b := by rw [show (6 : Int32) = nI 6 from rfl, nI_add]; exact clN (by omega)
  have la : 0 ≤ nI a ∧ nI a < 6 := ⟨nI0 (by omega), (nI_ltL (n := 6) rfl (by omega) (by decide)).mpr ha⟩
  have lb : 0 ≤ nI b ∧ nI b < 6 := ⟨nI0 (by omega), (nI_ltL (n := 6) rfl (by omega) (by decide)).mpr hb⟩
  have qa := hM.2.2 a ha
  have qb := hM.2.2 b hb
  exact ⟨s_43 la lb (by rw [e0, e2]) (by rw [e0, e2]), s_193 la lb (by rw [e0, e1, qa.1.1, qb.1.2.2.1]) (by rw [e0, e1, qa.1.2.1, qb.1.2.2.2]) (by grind) (by grind)⟩
theorem hourF_c {σ : St} {l d : Nat} : hourF σ l d = 0 ∨ hourF σ l d = 1 ∨ hourF σ l d = 2 := by
  unfold hourF
  split
  · exact Or.inr (Or.inr rfl)
  · split
    · exact Or.inl rfl
    · exact Or.inr (Or.inl rfl)
def wdC (σ : St) (d : Nat) (h : Int32) (m i : Nat) : Prop := σ.1 47 i = nI d ∧ (hourF σ i d = h ∨ hourF σ i d = 2) ∧ ¬ wyF σ m (i / 24) = -6
noncomputable def wdB (σ : St) (d : Nat) (h : Int32) (m : Nat) : Nat → Int32
  | 0 => 0
  | i + 1 => @ite _ (wdC σ d h m i) (Classical.propDecidable _) (wdB σ d h m i ||| ((1 : Int32) <<< (wyF σ m (i / 24) &&& 31))) (wdB σ d h m i)
theorem div24 {i : Nat} (h : i < 144) : nI i / 24 = nI (i / 24) := by
  rw [show (24 : Int32) = nI 24 from rfl]; exact pk_div (by omega) (by decide) (by decide)
theorem s_11 {σ : St} {d m : Nat} {h : Int32} (hR : Rel σ) (hd : d < 10) (hm : m < 6) (em : σ.1 16 d = nI m) : Ret 11 [.ref 1, .int (nI d), .int h] σ [.int (wdB σ d h m 144)] σ := by
  refine g_11_0 ?_
  have ed : (nI d).toNatClampNeg = d := clN (by omega)
  have gd : vp_in (nI d) 10 := vp_in_nI hd (by decide)
  refine loopN 144 (fun i => Go 11 5 [.ref 1, .int (nI d), .int h, .int (wdB σ d h m i), .int (nI i), .null, .null] [] σ [.int (wdB σ d h m 144)] σ) ?_ ?_ 0 (by omega)
  · intro i hi hx
    rw [← nI_S, wdB] at hx
    have ei : (nI i).toNatClampNeg = i := clN (by omega)
    have lt : nI i < 144 := (nI_ltL (n := 144) rfl (by omega) (by decide)).mpr hi
    have gi : vp_in (nI i) 144 := vp_in_nI hi (by decide)
    have w43 : Ret 43 [.ref 5, .int (σ.1 16 (nI d).toNatClampNeg), .int (nI i / 24)] σ [.int (wyF σ m (i / 24))] σ := by
      rw [ed, em, div24 hi]
      exact (way_eq2 hR hm (by omega)).1
    rcases (Classical.em (σ.1 47 i = nI d)).symm with h1 | h1
    · rw [if_neg (fun q => h1 q.1)] at hx
      exact g_11_5 (br_t lt ⟨gi, br_f (by rw [ei]; exact h1) hx⟩)
    have h9 := s_9 hi hd h1
    by_cases h2 : hourF σ i d = h
    · by_cases h3 : wyF σ m (i / 24) = -6
      · rw [if_neg (fun q => q.2.2 h3)] at hx
        exact g_11_5 (br_t lt ⟨gi, br_t (by rw [ei]; exact h1) ⟨_, _, h9, br_t h2 ⟨gd, _, _, w43, br_t h3 hx⟩⟩⟩)
      · rw [if_pos ⟨h1, Or.inl h2, h3⟩] at hx
        exact g_11_5 (br_t lt ⟨gi, br_t (by rw [ei]; exact h1) ⟨_, _, h9, br_t h2 ⟨gd, _, _, w43, br_f h3 hx⟩⟩⟩)
    · by_cases h4 : hourF σ i d = 2
      · by_cases h3 : wyF σ m (i / 24) = -6
        · rw [if_neg (fun q => q.2.2 h3)] at hx
          exact g_11_5 (br_t lt ⟨gi, br_t (by rw [ei]; exact h1) ⟨_, _, h9, br_f h2 (br_t h4 ⟨gd, _, _, w43, br_t h3 hx⟩)⟩⟩)
        · rw [if_pos ⟨h1, Or.inr h4, h3⟩] at hx
          exact g_11_5 (br_t lt ⟨gi, br_t (by rw [ei]; exact h1) ⟨_, _, h9, br_f h2 (br_t h4 ⟨gd, _, _, w43, br_f h3 hx⟩)⟩⟩)
      · rw [if_neg (fun q => q.2.1.elim h2 h4)] at hx
        exact g_11_5 (br_t lt ⟨gi, br_t (by rw [ei]; exact h1) ⟨_, _, h9, br_f h2 (br_f h4 hx)⟩⟩)
  · exact g_11_5 (br_f (by decide) ⟨rfl, rfl⟩)
theorem p_winds {σ : St} {a b : Int32} (hR : Rel σ) : PairI 103 195 [.int a, .int b] σ := by
  obtain ⟨n, hg⟩ := hR.gf
  obtain ⟨hS, hG, hH, hL, hP, hM, hA, hT, hD, hF, hU⟩ := id hR
  rcases (Classical.em (0 ≤ a ∧ a < 10)).symm with h1 | h1
  · exact ⟨-1, σ, σ, (g_103_0 ⟨_, _, s_114, (br_t (by (try simp only [bI_0, vp_6, vp_9, vp_10, vp_12, vp_18, vp_30, vp_31, vp_50, vp_60, vp_144, vp_154, vp_180, vp_432, vp_3600]) <;> grind) ⟨rfl, rfl⟩)⟩), (g_195_0 ⟨_, _, s_125, (br_t (by (try simp only [bI_0, vp_6, vp_9, vp_10, vp_12, vp_18, vp_30, vp_31, vp_50, vp_60, vp_144, vp_154, vp_180, vp_432, vp_3600]) <;> grind) ⟨rfl, rfl⟩)⟩), hR⟩
  rcases (Classical.em (0 ≤ b ∧ b < 2)).symm with h2 | h2
  · exact ⟨-2, σ, σ, (g_103_0 ⟨_, _, s_114, (br_f (by (try simp only [bI_0, vp_6, vp_9, vp_10, vp_12, vp_18, vp_30, vp_31, vp_50, vp_60, vp_144, vp_154, vp_180, vp_432, vp_3600]) <;> grind) ⟨_, _, s_114, (br_t (by (try simp only [bI_0, vp_6, vp_9, vp_10, vp_12, vp_18, vp_30, vp_31, vp_50, vp_60, vp_144, vp_154, vp_180, vp_432, vp_3600]) <;> grind) ⟨rfl, rfl⟩)⟩)⟩), (g_195_0 ⟨_, _, s_125, (br_f (by (try simp only [bI_0, vp_6, vp_9, vp_10, vp_12, vp_18, vp_30, vp_31, vp_50, vp_60, vp_144, vp_154, vp_180, vp_432, vp_3600]) <;> grind) ⟨_, _, s_126, (br_t (by (try simp only [bI_0, vp_6, vp_9, vp_10, vp_12, vp_18, vp_30, vp_31, vp_50, vp_60, vp_144, vp_154, vp_180, vp_432, vp_3600]) <;> grind) ⟨rfl, rfl⟩)⟩)⟩), hR⟩
  obtain ⟨d, hd, rfl⟩ := inR (x := a) (m := 10) (n := 10) rfl (by decide) h1.1 h1.2
  have ed : (nI d).toNatClampNeg = d := clN (by omega)
  have gd : vp_in (nI d) 10 := vp_in_nI hd (by decide)
  rcases hD.1 d hd with ⟨q1, q2⟩ | ⟨m, hm, q1, q2, q3⟩
  · exact ⟨-3, σ, σ, (g_103_0 ⟨_, _, s_114, (br_f (by (try simp only [bI_0, vp_6, vp_9, vp_10, vp_12, vp_18, vp_30, vp_31, vp_50, vp_60, vp_144, vp_154, vp_180, vp_432, vp_3600]) <;> grind) ⟨_, _, s_114, (br_f (by (try simp only [bI_0, vp_6, vp_9, vp_10, vp_12, vp_18, vp_30, vp_31, vp_50, vp_60, vp_144, vp_154, vp_180, vp_432, vp_3600]) <;> grind) ⟨gd, (br_t (by rw [ed]; exact q1) ⟨rfl, rfl⟩)⟩)⟩)⟩), (g_195_0 ⟨_, _, s_125, (br_f (by (try simp only [bI_0, vp_6, vp_9, vp_10, vp_12, vp_18, vp_30, vp_31, vp_50, vp_60, vp_144, vp_154, vp_180, vp_432, vp_3600]) <;> grind) ⟨_, _, s_126, (br_f (by (try simp only [bI_0, vp_6, vp_9, vp_10, vp_12, vp_18, vp_30, vp_31, vp_50, vp_60, vp_144, vp_154, vp_180, vp_432, vp_3600]) <;> grind) ⟨gd, (br_t (by rw [ed, q2]; decide) ⟨rfl, rfl⟩)⟩)⟩)⟩), hR⟩
  refine ⟨_, σ, σ, (g_103_0 ⟨_, _, s_114, (br_f (by (try simp only [bI_0, vp_6, vp_9, vp_10, vp_12, vp_18, vp_30, vp_31, vp_50, vp_60, vp_144, vp_154, vp_180, vp_432, vp_3600]) <;> grind) ⟨_, _, s_114, (br_f (by (try simp only [bI_0, vp_6, vp_9, vp_10, vp_12, vp_18, vp_30, vp_31, vp_50, vp_60, vp_144, vp_154, vp_180, vp_432, vp_3600]) <;> grind) ⟨gd, (br_f (by rw [ed, q1]; exact neg1_nI (by omega)) ⟨_, _, (s_11 hR hd hm q1), ⟨rfl, rfl⟩⟩)⟩)⟩)⟩), (g_195_0 ⟨_, _, s_125, (br_f (by (try simp only [bI_0, vp_6, vp_9, vp_10, vp_12, vp_18, vp_30, vp_31, vp_50, vp_60, vp_144, vp_154, vp_180, vp_432, vp_3600]) <;> grind) ⟨_, _, s_126, (br_f (by (try simp only [bI_0, vp_6, vp_9, vp_10, vp_12, vp_18, vp_30, vp_31, vp_50, vp_60, vp_144, vp_154, vp_180, vp_432, vp_3600]) <;> grind) ⟨gd, (br_f (by rw [ed, q2]; exact nI_pos (by omega)) ?_)⟩)⟩)⟩), hR⟩
  refine loopN 144 (fun i => Go 195 36 [.ref 11, .int (nI d), .int b, .int (wdB σ d b m i), .int (nI i), .null] [] σ [.int (wdB σ d b m 144)] σ) ?_ ?_ 0 (by omega)
  · intro i hi hx
    rw [← nI_S, wdB] at hx
    have ei : (nI i).toNatClampNeg = i := clN (by omega)
    have lt : nI i < 144 := (nI_ltL (n := 144) rfl (by omega) (by decide)).mpr hi
    have gi : vp_in (nI i) 144 := vp_in_nI hi (by decide)
    have w193 : Ret 193 [.ref 11, .int (σ.1 77 (nI d).toNatClampNeg), .int (nI i / 24)] σ [.int (wyF σ m (i / 24))] σ := by
      rw [ed, q2, div24 hi]
      exact (way_eq2 hR hm (by omega)).2
    by_cases h0 : σ.1 47 i = -1
    · rw [if_neg (fun q => neg1_nI (d := d) (by omega) (q.1.symm.trans h0))] at hx
      exact g_195_36 (br_t lt ⟨_, _, s_191f hR hg hi h0, br_t rfl hx⟩)
    obtain ⟨d1, hd1, e1, e2, hp⟩ := td_spec hR hi h0
    rcases (Classical.em (d1 = d)).symm with h1 | h1
    · have : ¬ σ.1 47 i = nI d := by rw [e1]; exact nI_ne (by omega) (by omega) h1
      rw [if_neg (fun q => this q.1)] at hx
      exact g_195_36 (br_t lt ⟨_, _, s_191t hR hg hi h0, br_f (by decide) ⟨gi, br_f (by rw [ei, e2]; exact nI_ne (by omega) (by omega) h1) hx⟩⟩)
    subst h1
    have h190 := s_190 hR hg hi hp hd1 e2
    have hc := hourF_c (σ := σ) (l := i) (d := d1)
    by_cases h2' : hourF σ i d1 = 1 - b
    · have : ¬ (hourF σ i d1 = b ∨ hourF σ i d1 = 2) := by grind
      rw [if_neg (fun q => this q.2.1)] at hx
      exact g_195_36 (br_t lt ⟨_, _, s_191t hR hg hi h0, br_f (by decide) ⟨gi, br_t (by rw [ei]; exact e2) ⟨_, _, h190, br_t h2' hx⟩⟩⟩)
    · have hor : hourF σ i d1 = b ∨ hourF σ i d1 = 2 := by grind
      by_cases h3 : wyF σ m (i / 24) = -6
      · rw [if_neg (fun q => q.2.2 h3)] at hx
        exact g_195_36 (br_t lt ⟨_, _, s_191t hR hg hi h0, br_f (by decide) ⟨gi, br_t (by rw [ei]; exact e2) ⟨_, _, h190, br_f h2' ⟨gd, _, _, w193, br_t (wayF_neg.mpr h3) (by rw [show ∀ x : Int32, x ||| 0 = x by intro x; simp]; exact hx)⟩⟩⟩⟩)
      · rw [if_pos ⟨e1, hor, h3⟩] at hx
        exact g_195_36 (br_t lt ⟨_, _, s_191t hR hg hi h0, br_f (by decide) ⟨gi, br_t (by rw [ei]; exact e2) ⟨_, _, h190, br_f h2' ⟨gd, _, _, w193, br_f (fun q => h3 (wayF_neg.mp q)) hx⟩⟩⟩⟩)
  · exact g_195_36 (br_f (by decide) ⟨rfl, rfl⟩)
/-! washed -/
def hgP (σ : St) (a b s : Nat) : Prop := ∀ k, k < s → σ.1 31 (3 * a + k) ≤ σ.1 31 (3 * b + k) ∧ σ.1 32 (3 * b + k) ≤ σ.1 32 (3 * a + k)
noncomputable def pI (p : Prop) : Int32 := @ite _ p (Classical.propDecidable p) 1 0
theorem pI_t {p : Prop} (h : p) : pI p = 1 := by unfold pI; rw [if_pos h]
theorem pI_f {p : Prop} (h : ¬ p) : pI p = 0 := by unfold pI; rw [if_neg h]
theorem pI_01 {p : Prop} : pI p = 0 ∨ pI p = 1 := by
  by_cases h : p
  · exact Or.inr (pI_t h)
  · exact Or.inl (pI_f h)
theorem pI_0 {p : Prop} : pI p = 0 ↔ ¬ p := by
  by_cases h : p
  · rw [pI_t h]; simp [h]
  · rw [pI_f h]; simp [h]
theorem hgP_S {σ : St} {a b s : Nat} : hgP σ a b (s + 1) ↔ hgP σ a b s ∧ (σ.1 31 (3 * a + s) ≤ σ.1 31 (3 * b + s) ∧ σ.1 32 (3 * b + s) ≤ σ.1 32 (3 * a + s)) := by
  constructor
  · intro h
    exact ⟨fun k hk => h k (by omega), h s (by omega)⟩
  · intro h k hk
    by_cases q : k = s
    · subst q; exact h.2
    · exact h.1 k (by omega)
/-- a loop that may end early -/
theorem loopE {α : Type} (n : Nat) (I : Nat → α → Prop) (G : Nat → α → Prop) (hs : ∀ i x, i < n → I i x → G i x ∨ ∃ x', I (i + 1) x' ∧ (G (i + 1) x' → G i x)) (hn : ∀ x, I n x → G n x) : ∀ i x, i ≤ n → I i x → G i x := by
  intro i x hi hx
  obtain ⟨k, hk⟩ : ∃ k, k + i = n := ⟨n - i, by omega⟩
  clear hi
  induction k generalizing i x with
  | zero => rw [show i = n by omega] at hx ⊢; exact hn x hx
  | succ k ih =>
    rcases hs i x (by omega) hx with h | ⟨x', h1, h2⟩
    · exact h
    · exact h2 (ih (i + 1) x' h1 (by omega))
theorem hgP_mono {σ : St} {a b s t : Nat} (h : s ≤ t) (q : hgP σ a b t) : hgP σ a b s := fun k hk => q k (by omega)
theorem s_38 {σ : St} {a b : Nat} (ha : a < 144) (hb : b < 144) : Ret 38 [.ref 4, .int (nI a), .int (nI b)] σ [.int (pI (hgP σ a b 3))] σ := by
  refine g_38_0 ?_
  have ea : ∀ s, s < 3 → (nI a * 3 + nI s).toNatClampNeg = 3 * a + s := fun s hs => by rw [mul3]; exact clN (by omega)
  have eb : ∀ s, s < 3 → (nI b * 3 + nI s).toNatClampNeg = 3 * b + s := fun s hs => by rw [mul3]; exact clN (by omega)
  refine loopE (α := Unit) 3 (fun s _ => hgP σ a b s) (fun s _ => Go 38 2 [.ref 4, .int (nI a), .int (nI b), .int (nI s), .null, .null] [] σ [.int (pI (hgP σ a b 3))] σ) ?_ ?_ 0 () (by omega) (fun k hk => by omega)
  · intro s _ hs hI
    have lt : nI s < 3 := (nI_ltL (n := 3) rfl (by omega) (by decide)).mpr hs
    have ga : vp_in (nI a * 3 + nI s) 432 := v3 (by omega) (by decide)
    have gb : vp_in (nI b * 3 + nI s) 432 := v3 (by omega) (by decide)
    by_cases q : hgP σ a b (s + 1)
    · refine Or.inr ⟨(), q, fun hx => ?_⟩
      have := (hgP_S.mp q).2
      rw [← nI_S] at hx
      exact g_38_2 (br_t lt ⟨gb, ga, br_f (by rw [ea s hs, eb s hs]; grind) (br_t (by rw [ea s hs, eb s hs]; exact this.2) hx)⟩)
    · refine Or.inl ?_
      rw [pI_f (fun z => q (hgP_mono (by omega) z))]
      have q2 : ¬ (σ.1 31 (3 * a + s) ≤ σ.1 31 (3 * b + s) ∧ σ.1 32 (3 * b + s) ≤ σ.1 32 (3 * a + s)) := fun z => q (hgP_S.mpr ⟨hI, z⟩)
      by_cases q3 : σ.1 31 (3 * b + s) < σ.1 31 (3 * a + s)
      · exact g_38_2 (br_t lt ⟨gb, ga, br_t (by rw [ea s hs, eb s hs]; exact q3) ⟨rfl, rfl⟩⟩)
      · exact g_38_2 (br_t lt ⟨gb, ga, br_f (by rw [ea s hs, eb s hs]; exact q3) (br_f (by rw [ea s hs, eb s hs]; grind) ⟨rfl, rfl⟩)⟩)
  · intro _ hI
    rw [pI_t hI]
    exact g_38_2 (br_f (by decide) ⟨rfl, rfl⟩)
theorem s_201 {σ : St} {n a b : Nat} (hR : Rel σ) (hg : GF σ n) (ha : a < 144) (hb : b < 144) (pa : 0 < σ.1 30 a) (pb : 0 < σ.1 30 b) : Ret 201 [.ref 11, .int (nI a), .int (nI b)] σ [.int (pI (hgP σ a b 3))] σ := by
  refine g_201_0 ?_
  have h0 : (1 : Int32) = pI (hgP σ a b 0) := (pI_t (fun k hk => by omega)).symm
  rw [h0]
  refine loopN 3 (fun s => Go 201 5 [.ref 11, .int (nI a), .int (nI b), .int (pI (hgP σ a b s)), .int (nI s)] [] σ [.int (pI (hgP σ a b 3))] σ) ?_ ?_ 0 (by omega)
  · intro s hs hx
    rw [← nI_S] at hx
    have lt : nI s < 3 := (nI_ltL (n := 3) rfl (by omega) (by decide)).mpr hs
    have gea := gl_eq hR hg ha pa hs
    have geb := gl_eq hR hg hb pb hs
    rcases (Classical.em (hgP σ a b s)).symm with q | q
    · rw [pI_f (fun z => q (hgP_S.mp z).1)] at hx
      exact g_201_5 (br_t lt (br_t (pI_0.mpr q) hx))
    have q0 : ¬ pI (hgP σ a b s) = 0 := fun z => pI_0.mp z q
    by_cases q1 : σ.1 31 (3 * a + s) ≤ σ.1 31 (3 * b + s)
    · by_cases q2 : σ.1 32 (3 * a + s) < σ.1 32 (3 * b + s)
      · rw [pI_f (fun z => by have := (hgP_S.mp z).2.2; grind)] at hx
        exact g_201_5 (br_t lt (br_f q0 ⟨_, _, gea.1, _, _, geb.1, br_t q1 ⟨_, _, gea.2 1 (by decide), _, _, geb.2 1 (by decide), br_t q2 hx⟩⟩))
      · rw [pI_t (hgP_S.mpr ⟨q, q1, by grind⟩)] at hx
        exact g_201_5 (br_t lt (br_f q0 ⟨_, _, gea.1, _, _, geb.1, br_t q1 ⟨_, _, gea.2 1 (by decide), _, _, geb.2 1 (by decide), br_f q2 hx⟩⟩))
    · rw [pI_f (fun z => q1 (hgP_S.mp z).2.1)] at hx
      exact g_201_5 (br_t lt (br_f q0 ⟨_, _, gea.1, _, _, geb.1, br_f q1 hx⟩))
  · exact g_201_5 (br_f (by decide) ⟨pI_01, rfl, rfl⟩)
def waC (σ : St) (l j : Nat) : Prop := σ.1 30 l < σ.1 30 j ∧ hgP σ j l 3
theorem p_washed {σ : St} {a : Int32} (hR : Rel σ) : PairI 109 202 [.int a] σ := by
  obtain ⟨n, hg⟩ := hR.gf
  rcases (Classical.em (lnP σ a)).symm with h1 | h1
  · exact ⟨-1, σ, σ, (g_109_0 ⟨_, _, (s_29f h1), (br_t (by (try simp only [bI_0, vp_6, vp_9, vp_10, vp_12, vp_18, vp_30, vp_31, vp_50, vp_60, vp_144, vp_154, vp_180, vp_432, vp_3600]) <;> grind) ⟨rfl, rfl⟩)⟩), (g_202_0 ⟨_, _, (s_140f hg h1), (br_t (by (try simp only [bI_0, vp_6, vp_9, vp_10, vp_12, vp_18, vp_30, vp_31, vp_50, vp_60, vp_144, vp_154, vp_180, vp_432, vp_3600]) <;> grind) ⟨rfl, rfl⟩)⟩), hR⟩
  obtain ⟨l, hl, rfl⟩ := inR (x := a) (m := 144) (n := 144) rfl (by decide) h1.1 h1.2.1
  have hp := (lnP_nI hl).mp h1
  have el : (nI l).toNatClampNeg = l := clN (by omega)
  obtain ⟨E, eE⟩ : ∃ E, E = (l / 24 + 1) * 24 := ⟨_, rfl⟩
  have hE : l < E ∧ E ≤ 144 := by omega
  have e1 : (nI l / 24 + 1) * 24 = nI E := by
    rw [div24 hl, nI_S, show (24 : Int32) = nI 24 from rfl, pk_mul, eE]
  have e2 : nI l - (nI l - nI l / 24 * 24) + 24 = nI E := by rw [← e1]; grind
  refine ⟨pI (∃ j, l < j ∧ j < E ∧ waC σ l j), σ, σ, (g_109_0 ⟨_, _, (s_29t h1), (br_f (by (try simp only [bI_0, vp_6, vp_9, vp_10, vp_12, vp_18, vp_30, vp_31, vp_50, vp_60, vp_144, vp_154, vp_180, vp_432, vp_3600]) <;> grind) ?_)⟩), (g_202_0 ⟨_, _, (s_140t hg h1), (br_f (by (try simp only [bI_0, vp_6, vp_9, vp_10, vp_12, vp_18, vp_30, vp_31, vp_50, vp_60, vp_144, vp_154, vp_180, vp_432, vp_3600]) <;> grind) ?_)⟩), hR⟩
  · rw [e1, nI_S]
    refine loopE (α := Unit) E (fun i _ => l < i ∧ ∀ j, l < j → j < i → ¬ waC σ l j) (fun i _ => Go 109 27 [.ref 10, .int (nI l), .int (nI E), .int (nI i)] [] σ [.int (pI (∃ j, l < j ∧ j < E ∧ waC σ l j))] σ) ?_ ?_ (l + 1) () (by omega) ⟨by omega, fun j h2 h3 => by omega⟩
    · intro i _ hi ⟨hli, hI⟩
      have ei : (nI i).toNatClampNeg = i := clN (by omega)
      have lt : nI i < nI E := (nI_ltI (by omega) (by omega)).mpr hi
      have gi : vp_in (nI i) 144 := vp_in_nI (by omega) (by decide)
      have gl : vp_in (nI l) 144 := vp_in_nI hl (by decide)
      by_cases c1 : σ.1 30 i ≤ σ.1 30 l
      · refine Or.inr ⟨(), ⟨by omega, fun j h2 h3 => ?_⟩, fun hx => ?_⟩
        · by_cases q : j = i
          · subst q; exact fun z => by have := z.1; grind
          · exact hI j h2 (by omega)
        · rw [← nI_S] at hx
          exact g_109_27 (br_t lt ⟨gi, gl, br_t (by rw [ei, el]; exact c1) hx⟩)
      · by_cases c2 : hgP σ i l 3
        · refine Or.inl ?_
          rw [pI_t ⟨i, hli, hi, by grind, c2⟩]
          exact g_109_27 (br_t lt ⟨gi, gl, br_f (by rw [ei, el]; exact c1) ⟨_, _, s_38 (by omega) hl, br_f (by rw [pI_t c2]; decide) ⟨rfl, rfl⟩⟩⟩)
        · refine Or.inr ⟨(), ⟨by omega, fun j h2 h3 => ?_⟩, fun hx => ?_⟩
          · by_cases q : j = i
            · subst q; exact fun z => c2 z.2
            · exact hI j h2 (by omega)
          · rw [← nI_S] at hx
            exact g_109_27 (br_t lt ⟨gi, gl, br_f (by rw [ei, el]; exact c1) ⟨_, _, s_38 (by omega) hl, br_t (pI_f c2) hx⟩⟩)
    · intro _ ⟨_, hI⟩
      rw [pI_f (fun ⟨j, h2, h3, h4⟩ => hI j h2 h3 h4)]
      exact g_109_27 (br_f Int32.lt_irrefl ⟨rfl, rfl⟩)
  · rw [nI_S]
    refine loopE (α := Unit) E (fun i _ => l < i ∧ ∀ j, l < j → j < i → ¬ waC σ l j) (fun i _ => Go 202 14 [.ref 11, .int (nI l), .int (nI i)] [] σ [.int (pI (∃ j, l < j ∧ j < E ∧ waC σ l j))] σ) ?_ ?_ (l + 1) () (by omega) ⟨by omega, fun j h2 h3 => by omega⟩
    · intro i _ hi ⟨hli, hI⟩
      have lt : nI i < nI l - (nI l - nI l / 24 * 24) + 24 := by rw [e2]; exact (nI_ltI (by omega) (by omega)).mpr hi
      have d1 := s_139 (a := nI i) hg.1.1 hg.2.1
      have d2 := s_139 (a := nI l) hg.1.1 hg.2.1
      rw [gf_ct hg (by omega)] at d1 d2
      by_cases c1 : σ.1 30 i ≤ σ.1 30 l
      · refine Or.inr ⟨(), ⟨by omega, fun j h2 h3 => ?_⟩, fun hx => ?_⟩
        · by_cases q : j = i
          · subst q; exact fun z => by have := z.1; grind
          · exact hI j h2 (by omega)
        · rw [← nI_S] at hx
          exact g_202_14 (br_t lt ⟨_, _, d1, _, _, d2, br_t c1 hx⟩)
      · have pi : 0 < σ.1 30 i := by grind
        have h201 := s_201 hR hg (a := i) (b := l) (by omega) hl pi hp
        by_cases c2 : hgP σ i l 3
        · refine Or.inl ?_
          rw [pI_t ⟨i, hli, hi, by grind, c2⟩]
          exact g_202_14 (br_t lt ⟨_, _, d1, _, _, d2, br_f c1 ⟨_, _, h201, br_f (by rw [pI_t c2]; decide) ⟨rfl, rfl⟩⟩⟩)
        · refine Or.inr ⟨(), ⟨by omega, fun j h2 h3 => ?_⟩, fun hx => ?_⟩
          · by_cases q : j = i
            · subst q; exact fun z => c2 z.2
            · exact hI j h2 (by omega)
          · rw [← nI_S] at hx
            exact g_202_14 (br_t lt ⟨_, _, d1, _, _, d2, br_f c1 ⟨_, _, h201, br_t (pI_f c2) hx⟩⟩)
    · intro _ ⟨_, hI⟩
      rw [pI_f (fun ⟨j, h2, h3, h4⟩ => hI j h2 h3 h4)]
      exact g_202_14 (br_f (by rw [e2]; exact Int32.lt_irrefl) ⟨rfl, rfl⟩)
