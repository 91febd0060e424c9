/-! the class's net -/
theorem loopX {α β : Type} (n : Nat) (I : Nat → α → Prop) (G : Nat → α → β → Prop) (post : β → Prop) (hs : ∀ i x, i < n → I i x → ∃ x', I (i + 1) x' ∧ ∀ r, G (i + 1) x' r → G i x r) (hn : ∀ x, I n x → ∃ r, post r ∧ G n x r) : ∀ i x, i ≤ n → I i x → ∃ r, post r ∧ G i x r := by
  intro i x hi hx
  obtain ⟨k, hk⟩ : ∃ k, k + i = n := ⟨n - i, by omega⟩
  clear hi
  induction k generalizing i x with
  | zero => rw [show i = n by omega] at hx ⊢; exact hn x hx
  | succ k ih =>
    obtain ⟨x', h1, h2⟩ := hs i x (by omega) hx
    obtain ⟨r, h3, h4⟩ := ih (i + 1) x' h1 (by omega)
    exact ⟨r, h3, h2 r h4⟩
def nst (σ : St) (L H : Nat → Int32) (mv : Int32) : St := wr (setR (setR σ 14 L) 15 H) 0 5 mv
theorem nst_L {σ : St} {L H : Nat → Int32} {mv x : Int32} {k : Nat} : wr (wr (nst σ L H mv) 14 k x) 0 5 1 = nst σ (upd L k x) H 1 := by
  refine St_ext (fun c j => ?_) rfl
  unfold nst
  rw [wr_get, wr_get, wr_get, wr_get]
  simp only [setR_get]
  by_cases h0 : c = 0
  · subst h0; by_cases h5 : j = 5 <;> simp [h5]
  · by_cases h14 : c = 14
    · subst h14; simp [upd]
    · simp [h0, h14]
theorem nst_H {σ : St} {L H : Nat → Int32} {mv x : Int32} {k : Nat} : wr (wr (nst σ L H mv) 15 k x) 0 5 1 = nst σ L (upd H k x) 1 := by
  refine St_ext (fun c j => ?_) rfl
  unfold nst
  rw [wr_get, wr_get, wr_get, wr_get]
  simp only [setR_get]
  by_cases h0 : c = 0
  · subst h0; by_cases h5 : j = 5 <;> simp [h5]
  · by_cases h15 : c = 15
    · subst h15; simp [upd]
    · simp [h0, h15]
theorem nst_mv {σ : St} {L H : Nat → Int32} {mv x : Int32} : wr (nst σ L H mv) 0 5 x = nst σ L H x := by
  refine St_ext (fun c j => ?_) rfl
  unfold nst
  rw [wr_get, wr_get, wr_get]
  by_cases h0 : c = 0
  · subst h0; by_cases h5 : j = 5 <;> simp [h5]
  · simp [h0]
/-- rows as whole numbers; beyond the knots nothing -/
def iv (L : Nat → Int32) (u : Nat) : Int := if u < 154 then (L u).toInt else 0
theorem iv_lt {L : Nat → Int32} {u : Nat} (h : u < 154) : iv L u = (L u).toInt := by unfold iv; rw [if_pos h]
def rz (L : Nat → Int32) (k : Nat) (v : Int32) : Nat → Int32 := if v ≤ L k then L else upd L k v
def rzm (L : Nat → Int32) (k : Nat) (v mv : Int32) : Int32 := if v ≤ L k then mv else 1
theorem s_4 {σ : St} {L H : Nat → Int32} {mv v : Int32} {k : Nat} (hk : k < 154) : Ret 4 [.ref 0, .int (nI k), .int v] (nst σ L H mv) [] (nst σ (rz L k v) H (rzm L k v mv)) := by
  have ek : (nI k).toNatClampNeg = k := clN (by omega)
  unfold rz rzm
  refine g_4_0 ⟨vp_in_nI hk (by decide), fun q => ?_, fun q => ?_⟩
  · have q : v ≤ L k := by rw [ek] at q; exact q
    rw [if_pos q, if_pos q]
    exact ⟨rfl, rfl⟩
  · have q : ¬ v ≤ L k := by rw [ek] at q; exact q
    rw [if_neg q, if_neg q, ek, nst_L]
    exact ⟨rfl, rfl⟩
def lz (H : Nat → Int32) (k : Nat) (v : Int32) : Nat → Int32 := if v < H k then upd H k v else H
def lzm (H : Nat → Int32) (k : Nat) (v mv : Int32) : Int32 := if v < H k then 1 else mv
theorem s_5 {σ : St} {L H : Nat → Int32} {mv v : Int32} {k : Nat} (hk : k < 154) : Ret 5 [.ref 0, .int (nI k), .int v] (nst σ L H mv) [] (nst σ L (lz H k v) (lzm H k v mv)) := by
  have ek : (nI k).toNatClampNeg = k := clN (by omega)
  unfold lz lzm
  refine g_5_0 ⟨vp_in_nI hk (by decide), fun q => ?_, fun q => ?_⟩
  · have q : v < H k := by rw [ek] at q; exact q
    rw [if_pos q, if_pos q, ek, nst_H]
    exact ⟨rfl, rfl⟩
  · have q : ¬ v < H k := by rw [ek] at q; exact q
    rw [if_neg q, if_neg q]
    exact ⟨rfl, rfl⟩
theorem rz_at {L : Nat → Int32} {k u : Nat} {v : Int32} : rz L k v u = if u = k ∧ ¬ v ≤ L k then v else L u := by
  unfold rz upd
  by_cases h : v ≤ L k
  · simp [h]
  · by_cases e : u = k <;> simp [h, e]
theorem lz_at {H : Nat → Int32} {k u : Nat} {v : Int32} : lz H k v u = if u = k ∧ v < H k then v else H u := by
  unfold lz upd
  by_cases h : v < H k
  · by_cases e : u = k <;> simp [h, e]
  · simp [h]
theorem rz_ge {L : Nat → Int32} {k : Nat} {v : Int32} (u : Nat) : L u ≤ rz L k v u := by
  rw [rz_at]
  split
  · rename_i q; rw [q.1]; exact Int32.le_of_lt (Int32.not_le.mp q.2)
  · exact Int32.le_refl _
theorem rz_v {L : Nat → Int32} {k : Nat} {v : Int32} : v ≤ rz L k v k := by
  rw [rz_at]
  split
  · exact Int32.le_refl _
  · rename_i q
    by_cases h : v ≤ L k
    · exact h
    · exact absurd ⟨rfl, h⟩ q
theorem rz_ne {L : Nat → Int32} {k u : Nat} {v : Int32} (h : u ≠ k) : rz L k v u = L u := by
  rw [rz_at, if_neg (fun q => h q.1)]
theorem lz_le {H : Nat → Int32} {k : Nat} {v : Int32} (u : Nat) : lz H k v u ≤ H u := by
  rw [lz_at]
  split
  · rename_i q; rw [q.1]; exact Int32.le_of_lt q.2
  · exact Int32.le_refl _
theorem lz_v {H : Nat → Int32} {k : Nat} {v : Int32} : lz H k v k ≤ v := by
  rw [lz_at]
  split
  · exact Int32.le_refl _
  · rename_i q
    by_cases h : v < H k
    · exact absurd ⟨rfl, h⟩ q
    · exact Int32.not_lt.mp h
theorem lz_ne {H : Nat → Int32} {k u : Nat} {v : Int32} (h : u ≠ k) : lz H k v u = H u := by
  rw [lz_at, if_neg (fun q => h q.1)]
/-- edges in a core, ties -/
def cEd (sk : Nat → Int32) (i j : Nat) : Prop := i < j ∧ i / 24 = j / 24 ∧ j < 144 ∧ sk i = 0 ∧ sk j = 0
def tEd (dy sk : Nat → Int32) (w : Int32) (l d : Nat) : Prop := l < 144 ∧ d < 10 ∧ dy l = nI d ∧ sk l = 0 ∧ ¬ nI l = w
theorem toI_le {a b : Int32} : a ≤ b ↔ a.toInt ≤ b.toInt := Int32.le_iff_toInt_le
/-- what a pass down a core does to the lower ends -/
def PdQ (sk : Nat → Int32) (tE : Nat → Nat → Prop) (top : Nat) (L : Nat → Int32) (mv : Int32) (L' : Nat → Int32) (mv' : Int32) : Prop :=
  (∀ u, L u ≤ L' u) ∧ (∀ u, u < top ∨ top + 24 ≤ u → L' u = L u) ∧ (∀ a b, top ≤ a → a < b → b < top + 24 → sk a = 0 → sk b = 0 → L' a ≤ L' b) ∧
  (∀ F : Nat → Int, Clo (cEd sk) tE F → (∀ u, iv L u ≤ F u) → (∀ u, 0 ≤ F u) → ∀ u, iv L' u ≤ F u) ∧ (mv' = 0 ∨ mv' = 1) ∧ (mv' = 0 → mv = 0 ∧ L' = L)
theorem s_1 {σ : St} {tE : Nat → Nat → Prop} {L H : Nat → Int32} {mv : Int32} {c : Nat} (hc : c < 6) (hm : mv = 0 ∨ mv = 1) (hL : ∀ u, u < 154 → 0 ≤ L u) : ∃ r : (Nat → Int32) × Int32, PdQ (σ.1 48) tE (24 * c) L mv r.1 r.2 ∧ Ret 1 [.ref 0, .int (nI (24 * c))] (nst σ L H mv) [] (nst σ r.1 H r.2) := by
  have key := loopX (α := (Nat → Int32) × Int32 × Int32) (β := (Nat → Int32) × Int32) 24
    (fun j x => (∀ u, L u ≤ x.1 u) ∧ (∀ u, u < 24 * c ∨ 24 * c + j ≤ u → x.1 u = L u) ∧ (∀ a b, 24 * c ≤ a → a < b → b < 24 * c + j → σ.1 48 a = 0 → σ.1 48 b = 0 → x.1 a ≤ x.1 b) ∧
      (∀ a, 24 * c ≤ a → a < 24 * c + j → σ.1 48 a = 0 → x.1 a ≤ x.2.1) ∧
      (∀ F : Nat → Int, Clo (cEd (σ.1 48)) tE F → (∀ u, iv L u ≤ F u) → (∀ u, 0 ≤ F u) → (∀ u, iv x.1 u ≤ F u) ∧ ∀ b, 24 * c + j ≤ b → b < 24 * c + 24 → σ.1 48 b = 0 → x.2.1.toInt ≤ F b) ∧ (x.2.2 = 0 ∨ x.2.2 = 1) ∧ (x.2.2 = 0 → mv = 0 ∧ x.1 = L))
    (fun j x r => Go 1 4 [.ref 0, .int (nI (24 * c)), .int x.2.1, .int (nI (24 * c + j))] [] (nst σ x.1 H x.2.2) [] (nst σ r.1 H r.2))
    (fun r => PdQ (σ.1 48) tE (24 * c) L mv r.1 r.2) ?_ ?_ 0 (L, 0, mv) (by omega) ?_
  · obtain ⟨r, h1, h2⟩ := key
    exact ⟨r, h1, g_1_0 h2⟩
  · rintro j ⟨L1, f, m1⟩ hj ⟨a1, a2, a3, a4, a5, a6, a7⟩
    have ei : (nI (24 * c + j)).toNatClampNeg = 24 * c + j := clN (by omega)
    have lt : nI (24 * c + j) < nI (24 * c) + 24 := by
      rw [show (24 : Int32) = nI 24 from rfl, nI_add]
      exact (nI_ltI (by omega) (by omega)).mpr (by omega)
    have gi : vp_in (nI (24 * c + j)) 144 := vp_in_nI (by omega) (by decide)
    by_cases q : σ.1 48 (24 * c + j) = 0
    · refine ⟨(rz L1 (24 * c + j) f, rz L1 (24 * c + j) f (24 * c + j), rzm L1 (24 * c + j) f m1), ⟨?_, ?_, ?_, ?_, ?_, ?_, ?_⟩, fun r hr => ?_⟩
      · exact fun u => Int32.le_trans (a1 u) (rz_ge u)
      · intro u hu
        show rz L1 (24 * c + j) f u = L u
        rw [rz_ne (by omega)]
        exact a2 u (by omega)
      · intro a b h1 h2 h3 h4 h5
        show rz L1 (24 * c + j) f a ≤ rz L1 (24 * c + j) f b
        rw [rz_ne (show a ≠ 24 * c + j by omega)]
        by_cases e : b = 24 * c + j
        · subst e
          exact Int32.le_trans (a4 a h1 (by omega) h4) rz_v
        · rw [rz_ne e]
          exact a3 a b h1 h2 (by omega) h4 h5
      · intro a h1 h2 h3
        show rz L1 (24 * c + j) f a ≤ rz L1 (24 * c + j) f (24 * c + j)
        by_cases e : a = 24 * c + j
        · subst e; exact Int32.le_refl _
        · rw [rz_ne e]
          exact Int32.le_trans (a4 a h1 (by omega) h3) rz_v
      · intro F hF hLF h0
        obtain ⟨b1, b2⟩ := a5 F hF hLF h0
        have hat : (rz L1 (24 * c + j) f (24 * c + j)).toInt ≤ F (24 * c + j) := by
          rw [rz_at]
          split
          · exact b2 (24 * c + j) (by omega) (by omega) q
          · have := b1 (24 * c + j); rw [iv_lt (by omega)] at this; exact this
        refine ⟨fun u => ?_, fun b h1 h2 h3 => ?_⟩
        · show iv (rz L1 (24 * c + j) f) u ≤ F u
          by_cases e : u = 24 * c + j
          · subst e; rw [iv_lt (by omega)]; exact hat
          · have := b1 u
            unfold iv at this ⊢
            rw [rz_ne e]
            exact this
        · exact Int.le_trans hat (hF.1 _ _ ⟨by omega, by omega, by omega, q, h3⟩)
      · show rzm L1 (24 * c + j) f m1 = 0 ∨ rzm L1 (24 * c + j) f m1 = 1
        unfold rzm
        split
        · exact a6
        · exact Or.inr rfl
      · intro hz
        have hz : rzm L1 (24 * c + j) f m1 = 0 := hz
        unfold rzm at hz
        by_cases w : f ≤ L1 (24 * c + j)
        · rw [if_pos w] at hz
          obtain ⟨c1, c2⟩ := a7 hz
          refine ⟨c1, ?_⟩
          show rz L1 (24 * c + j) f = L
          unfold rz
          rw [if_pos w]
          exact c2
        · rw [if_neg w] at hz
          exact absurd hz (by decide)
      · refine g_1_4 (br_t lt ⟨gi, br_t (by rw [ei]; exact q) ⟨_, s_4 (by omega), vp_in_nI (by omega) (by decide), ?_⟩⟩)
        rw [ei, nI_S]
        exact hr
    · refine ⟨(L1, f, m1), ⟨a1, fun u hu => a2 u (by omega), fun a b h1 h2 h3 h4 h5 => ?_, fun a h1 h2 h3 => ?_, fun F hF hLF h0 => ?_, a6, a7⟩, fun r hr => ?_⟩
      · exact a3 a b h1 h2 (Nat.lt_of_le_of_ne (by omega) (fun e => q (e ▸ h5))) h4 h5
      · exact a4 a h1 (Nat.lt_of_le_of_ne (by omega) (fun e => q (e ▸ h3))) h3
      · obtain ⟨b1, b2⟩ := a5 F hF hLF h0
        exact ⟨b1, fun b h1 h2 h3 => b2 b (by omega) h2 h3⟩
      · refine g_1_4 (br_t lt ⟨gi, br_f (by rw [ei]; exact q) ?_⟩)
        rw [nI_S]
        exact hr
  · rintro ⟨L1, f, m1⟩ ⟨a1, a2, a3, a4, a5, a6, a7⟩
    refine ⟨(L1, m1), ⟨a1, a2, a3, fun F hF hLF h0 => (a5 F hF hLF h0).1, a6, a7⟩, g_1_4 (br_f ?_ ⟨rfl, rfl⟩)⟩
    rw [show (24 : Int32) = nI 24 from rfl, nI_add]
    exact Int32.lt_irrefl
  · refine ⟨fun u => Int32.le_refl _, fun u _ => rfl, fun a b h1 h2 h3 => by omega, fun a h1 h2 => by omega, fun F hF hLF h0 => ⟨hLF, fun b _ _ _ => h0 b⟩, hm, fun h => ⟨h, rfl⟩⟩
