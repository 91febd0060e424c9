/-! one turn of the class's net, all turns -/
def rvE (cE : Nat → Nat → Prop) (i j : Nat) : Prop := cE j i
def ng (X : Nat → Int) (u : Nat) : Int := - X u
theorem iv_mono {L L' : Nat → Int32} (h : ∀ u, L u ≤ L' u) (u : Nat) : iv L u ≤ iv L' u := by
  unfold iv
  split
  · exact toI_le.mp (h u)
  · exact Int.le_refl _
theorem Clo_ng {cE tE : Nat → Nat → Prop} {F : Nat → Int} (h : Clo (rvE cE) tE F) : Clo cE tE (ng F) := by
  refine ⟨fun i j hij => ?_, fun l d hld => ?_⟩
  · have := h.1 j i hij
    unfold ng; omega
  · have := h.2 l d hld
    unfold ng; omega
/-- along the cores, before the c-th -/
def PcI (sk : Nat → Int32) (tE : Nat → Nat → Prop) (c : Nat) (L H : Nat → Int32) (mv : Int32) (L' H' : Nat → Int32) (mv' : Int32) : Prop :=
  (∀ u, L u ≤ L' u) ∧ (∀ u, H' u ≤ H u) ∧ (∀ i j, cEd sk i j → i / 24 < c → L' i ≤ L' j ∧ H' i ≤ H' j) ∧
  (∀ F : Nat → Int, Clo (cEd sk) tE F → (∀ u, iv L u ≤ F u) → (∀ u, 0 ≤ F u) → ∀ u, iv L' u ≤ F u) ∧ (∀ F : Nat → Int, Clo (cEd sk) tE F → (∀ u, F u ≤ iv H u) → (∀ u, F u ≤ 9999) → ∀ u, F u ≤ iv H' u) ∧
  (mv' = 0 ∨ mv' = 1) ∧ (mv' = 0 → mv = 0 ∧ L' = L ∧ H' = H)
theorem PcI.step {sk : Nat → Int32} {tE : Nat → Nat → Prop} {c : Nat} {L H L' H' L2 H2 : Nat → Int32} {mv m1 m2 m3 : Int32} (hI : PcI sk tE c L H mv L' H' m1) (hd : PdQ sk tE (24 * c) L' m1 L2 m2) (hu : PuQ sk tE (24 * c) H' m2 H2 m3) : PcI sk tE (c + 1) L H mv L2 H2 m3 := by
  obtain ⟨a1, a2, a3, a4, a5, a6, a7⟩ := hI
  obtain ⟨b1, b2, b3, b4, b5, b6⟩ := hd
  obtain ⟨c1, c2, c3, c4, c5, c6⟩ := hu
  refine ⟨fun u => Int32.le_trans (a1 u) (b1 u), fun u => Int32.le_trans (c1 u) (a2 u), fun i j hij hc => ?_, fun F hF h1 h0 => b4 F hF (a4 F hF h1 h0) h0, fun F hF h1 h0 => c4 F hF (a5 F hF h1 h0) h0, c5, fun h => ?_⟩
  · obtain ⟨e1, e2, e3, e4, e5⟩ := hij
    by_cases e : i / 24 = c
    · exact ⟨b3 i j (by omega) e1 (by omega) e4 e5, c3 i j (by omega) e1 (by omega) e4 e5⟩
    · rw [b2 i (by omega), b2 j (by omega), c2 i (by omega), c2 j (by omega)]
      exact a3 i j ⟨e1, e2, e3, e4, e5⟩ (by omega)
  · obtain ⟨h1, h2⟩ := c6 h
    obtain ⟨h3, h4⟩ := b6 h1
    rw [h2, h4]
    exact a7 h3
/-- one turn, purely -/
def TuQ (sk : Nat → Int32) (tE : Nat → Nat → Prop) (L H L' H' : Nat → Int32) (mv' : Int32) : Prop :=
  Tn (cEd sk) tE (iv L) (iv L') ∧ Tn (rvE (cEd sk)) tE (ng (iv H)) (ng (iv H')) ∧ (mv' = 0 ∨ mv' = 1) ∧ (mv' = 0 → L' = L ∧ H' = H)
theorem TuQ.mk' {sk : Nat → Int32} {tE : Nat → Nat → Prop} {L H L1 H1 L2 H2 : Nat → Int32} {m1 m2 : Int32} (ht : ∀ l d, tE l d → l < 144 ∧ d < 10) (hL : ∀ u, u < 154 → 0 ≤ L u) (hH : ∀ u, u < 154 → H u ≤ 9999)
    (hc : PcI sk tE 6 L H 0 L1 H1 m1) (hp : PtI tE (cEd sk) 144 L1 H1 m1 L2 H2 m2) : TuQ sk tE L H L2 H2 m2 := by
  obtain ⟨a1, a2, a3, a4, a5, a6, a7⟩ := hc
  obtain ⟨b1, b2, b3, b4, b5, b6, b7, b8, b9, b10⟩ := hp
  have hL0 : ∀ u, 0 ≤ iv L u := by
    intro u
    unfold iv
    split
    · rename_i q; exact toI_le.mp (hL u q)
    · exact Int.le_refl _
  have hH0 : ∀ u, iv H u ≤ 9999 := by
    intro u
    unfold iv
    split
    · rename_i q; exact toI_le.mp (hH u q)
    · decide
  refine ⟨⟨iv L1, iv_mono a1, iv_mono b1, fun i j hij => ?_, fun l d hld => ?_, fun l hl => ?_, fun F hF h1 => ?_⟩, ⟨ng (iv H1), fun u => ?_, fun u => ?_, fun i j hij => ?_, fun l d hld => ?_, fun l hl => ?_, fun F hF h1 => ?_⟩, b9, fun h => ?_⟩
  · rw [iv_lt (by have := hij.1; have := hij.2.2.1; omega), iv_lt (by have := hij.2.2.1; omega)]
    exact toI_le.mp (a3 i j hij (by have := hij.1; have := hij.2.2.1; omega)).1
  · obtain ⟨e1, e2⟩ := ht l d hld
    rw [iv_lt (by omega), iv_lt (by omega), iv_lt (by omega), iv_lt (by omega)]
    have := b3 l d e1 hld
    exact ⟨Int.le_trans (toI_le.mp (a1 _)) (toI_le.mp this.1), toI_le.mp this.2⟩
  · rw [iv_lt (by omega), iv_lt (by omega)]
    rcases b5 l hl with q | ⟨d, q1, q2⟩
    · exact Or.inl (by rw [q])
    · refine Or.inr ⟨d, q1, ?_⟩
      have := ht l d q1
      rw [iv_lt (by omega)]
      exact toI_le.mp q2
  · exact b7 F hF (a4 F hF h1 (fun u => Int.le_trans (hL0 u) (h1 u)))
  · have := iv_mono a2 u; unfold ng; omega
  · have := iv_mono b2 u; unfold ng; omega
  · have hij : cEd sk j i := hij
    unfold ng
    rw [iv_lt (by have := hij.1; have := hij.2.2.1; omega), iv_lt (by have := hij.1; have := hij.2.2.1; omega)]
    have := toI_le.mp (a3 j i hij (by have := hij.1; have := hij.2.2.1; omega)).2
    omega
  · obtain ⟨e1, e2⟩ := ht l d hld
    unfold ng
    rw [iv_lt (by omega), iv_lt (by omega), iv_lt (by omega), iv_lt (by omega)]
    have h1 := toI_le.mp (b4 l d e1 hld).1
    have h2 := toI_le.mp (b4 l d e1 hld).2
    have h3 := toI_le.mp (a2 (144 + d))
    exact ⟨by omega, by omega⟩
  · unfold ng
    rw [iv_lt (by omega), iv_lt (by omega)]
    rcases b6 l hl with q | ⟨d, q1, q2⟩
    · exact Or.inl (by rw [q])
    · refine Or.inr ⟨d, q1, ?_⟩
      have := ht l d q1
      rw [iv_lt (by omega)]
      have := toI_le.mp q2
      omega
  · have hG := Clo_ng hF
    have g1 : ∀ u, ng F u ≤ iv H u := by
      intro u
      have := h1 u
      unfold ng at this ⊢
      omega
    intro u
    have := b8 _ hG (a5 _ hG g1 (fun u => Int.le_trans (g1 u) (hH0 u))) u
    unfold ng at this ⊢
    omega
  · obtain ⟨h1, h2, h3⟩ := b10 h
    obtain ⟨_, h4, h5⟩ := a7 h1
    exact ⟨by rw [h2, h4], by rw [h3, h5]⟩
theorem tEd_rng {dy sk : Nat → Int32} {w : Int32} (l d : Nat) (h : tEd dy sk w l d) : l < 144 ∧ d < 10 := ⟨h.1, h.2.1⟩
theorem cEd_rng {sk : Nat → Int32} (i j : Nat) (h : cEd sk i j) : i < 144 ∧ j < 144 := ⟨by have := h.1; have := h.2.2.1; omega, h.2.2.1⟩
/-- the turn, walked -/
theorem turn {σ : St} {L H : Nat → Int32} {w : Int32} (v : Int32) (hdy : ∀ l, l < 144 → σ.1 47 l = -1 ∨ ∃ d, d < 10 ∧ σ.1 47 l = nI d) (hL : ∀ u, u < 154 → 0 ≤ L u) (hH : ∀ u, u < 154 → H u ≤ 9999) :
    ∃ r : (Nat → Int32) × (Nat → Int32) × Int32, TuQ (σ.1 48) (tEd (σ.1 47) (σ.1 48) w) L H r.1 r.2.1 r.2.2 ∧
      ∀ R S, (r.2.2 = 0 → Go 0 99 [.ref 0, .null, .int 0, .null] [] (nst σ r.1 r.2.1 r.2.2) R S) → (¬ r.2.2 = 0 → Go 0 34 [.ref 0, .int w, .int (v + 1), .null] [] (nst σ r.1 r.2.1 r.2.2) R S) → Go 0 48 [.ref 0, .int w, .int v, .int 0] [] (nst σ L H 0) R S := by
  refine loopX (α := (Nat → Int32) × (Nat → Int32) × Int32) (β := (Nat → Int32) × (Nat → Int32) × Int32) 6
    (fun c x => PcI (σ.1 48) (tEd (σ.1 47) (σ.1 48) w) c L H 0 x.1 x.2.1 x.2.2)
    (fun c x r => ∀ R S, (r.2.2 = 0 → Go 0 99 [.ref 0, .null, .int 0, .null] [] (nst σ r.1 r.2.1 r.2.2) R S) → (¬ r.2.2 = 0 → Go 0 34 [.ref 0, .int w, .int (v + 1), .null] [] (nst σ r.1 r.2.1 r.2.2) R S) → Go 0 48 [.ref 0, .int w, .int v, .int (nI c)] [] (nst σ x.1 x.2.1 x.2.2) R S)
    (fun r => TuQ (σ.1 48) (tEd (σ.1 47) (σ.1 48) w) L H r.1 r.2.1 r.2.2) ?_ ?_ 0 (L, H, 0) (by omega) ?_
  · rintro c ⟨L1, H1, m1⟩ hc hI
    have hL1 : ∀ u, u < 154 → 0 ≤ L1 u := fun u hu => Int32.le_trans (hL u hu) (hI.1 u)
    obtain ⟨r1, h1, h2⟩ := s_1 (σ := σ) (tE := tEd (σ.1 47) (σ.1 48) w) (L := L1) (H := H1) (mv := m1) hc hI.2.2.2.2.2.1 hL1
    obtain ⟨r2, h3, h4⟩ := s_2 (σ := σ) (tE := tEd (σ.1 47) (σ.1 48) w) (L := r1.1) (H := H1) (mv := r1.2) hc h1.2.2.2.2.1
    refine ⟨(r1.1, r2.1, r2.2), hI.step h1 h3, fun r hr R S k1 k2 => ?_⟩
    have lt : nI c < 6 := (nI_ltL (n := 6) rfl (by omega) (by omega)).mpr hc
    have em : nI c * 24 = nI (24 * c) := by
      have := mul24 (a := c) (b := 0)
      rw [nI_0, Int32.add_zero] at this
      exact this
    refine g_0_48 (br_t lt ?_)
    rw [em]
    refine ⟨_, h2, _, h4, ?_⟩
    rw [nI_S]
    exact hr R S k1 k2
  · rintro ⟨L1, H1, m1⟩ hI
    obtain ⟨r, h1, h2⟩ := s_3 (σ := σ) (L := L1) (H := H1) (mv := m1) (w := w) hI.2.2.2.2.2.1 hdy
    refine ⟨r, TuQ.mk' tEd_rng hL hH hI h1, fun R S k1 k2 => g_0_48 (br_f (by decide) ⟨_, h2, ?_⟩)⟩
    exact ⟨k1, k2⟩
  · exact ⟨fun u => Int32.le_refl _, fun u => Int32.le_refl _, fun i j _ h => by omega, fun F _ h _ => h, fun F _ h _ => h, Or.inl rfl, fun h => ⟨h, rfl, rfl⟩⟩
/-- where no turn moves any more, all is closed -/
theorem Tn.fix {cE tE : Nat → Nat → Prop} {X : Nat → Int} (h : Tn cE tE X X) : Clo cE tE X := by
  obtain ⟨Y, h1, h2, h3, h4, h5, h6⟩ := h
  have e : ∀ u, Y u = X u := fun u => Int.le_antisymm (h2 u) (h1 u)
  refine ⟨fun i j hij => ?_, fun l d hld => ?_⟩
  · have := h3 i j hij; rw [e, e] at this; exact this
  · have := h4 l d hld; rw [e] at this; exact Int.le_antisymm this.2 this.1
/-- so many turns from a first state -/
def Tns (cE tE : Nat → Nat → Prop) (t : Nat) (X0 X : Nat → Int) : Prop := ∃ f : Nat → Nat → Int, f 0 = X0 ∧ f t = X ∧ ∀ s, s < t → Tn cE tE (f s) (f (s + 1))
theorem Tns.zero {cE tE : Nat → Nat → Prop} {X : Nat → Int} : Tns cE tE 0 X X := ⟨fun _ => X, rfl, rfl, fun s h => by omega⟩
theorem Tns.succ {cE tE : Nat → Nat → Prop} {t : Nat} {X0 X X' : Nat → Int} (h : Tns cE tE t X0 X) (k : Tn cE tE X X') : Tns cE tE (t + 1) X0 X' := by
  obtain ⟨f, h1, h2, h3⟩ := h
  refine ⟨fun s => if s ≤ t then f s else X', by simp [h1], if_neg (show ¬ t + 1 ≤ t by omega), fun s hs => ?_⟩
  show Tn cE tE (if s ≤ t then f s else X') (if s + 1 ≤ t then f (s + 1) else X')
  rw [if_pos (by omega)]
  by_cases e : s + 1 ≤ t
  · rw [if_pos e]; exact h3 s (by omega)
  · rw [if_neg e, show s = t by omega, h2]; exact k
theorem Tns.least {cE tE : Nat → Nat → Prop} {t : Nat} {X0 X : Nat → Int} (h : Tns cE tE t X0 X) : (∀ u, X0 u ≤ X u) ∧ ∀ F : Nat → Int, Clo cE tE F → (∀ u, X0 u ≤ F u) → ∀ u, X u ≤ F u := by
  obtain ⟨f, rfl, rfl, h3⟩ := h
  have all : ∀ s, s ≤ t → (∀ u, f 0 u ≤ f s u) ∧ ∀ F : Nat → Int, Clo cE tE F → (∀ u, f 0 u ≤ F u) → ∀ u, f s u ≤ F u := by
    intro s
    induction s with
    | zero => exact fun _ => ⟨fun u => Int.le_refl _, fun F _ h => h⟩
    | succ s ih =>
      intro hs
      obtain ⟨i1, i2⟩ := ih (by omega)
      have k := h3 s (by omega)
      refine ⟨fun u => Int.le_trans (i1 u) (k.le u), fun F hF h => ?_⟩
      obtain ⟨Y, _, _, _, _, _, h6⟩ := k
      exact h6 F hF (i2 F hF h)
  exact all t (by omega)
theorem Tns.settle {cE tE : Nat → Nat → Prop} (hc : ∀ i j, cE i j → i < 144 ∧ j < 144) (ht : ∀ l d, tE l d → l < 144 ∧ d < 10) {t : Nat} {X0 X : Nat → Int} (h : Tns cE tE t X0 X) (h22 : 22 ≤ t) (B : Int) (hB : ∀ u, X0 u ≤ B) : Lst cE tE X0 X := by
  have hl := h.least
  refine ⟨?_, hl.1, hl.2⟩
  obtain ⟨f, rfl, rfl, h3⟩ := h
  refine settled hc ht h22 h3 B (fun s u hs => ?_)
  have k : Tns cE tE s (f 0) (f s) := ⟨f, rfl, rfl, fun r hr => h3 r (by omega)⟩
  exact k.least.2 (fun _ => B) ⟨fun _ _ _ => Int.le_refl _, fun _ _ _ => rfl⟩ hB u
theorem Tns.fix {cE tE : Nat → Nat → Prop} {t : Nat} {X0 X : Nat → Int} (h : Tns cE tE t X0 X) (k : Tn cE tE X X) : Lst cE tE X0 X := ⟨k.fix, h.least.1, h.least.2⟩
theorem s_0scan {σ : St} : Go 0 99 [.ref 0, .null, .int 0, .null] [] σ [.int (pI (∃ k, k < 154 ∧ σ.1 15 k < σ.1 14 k))] σ := by
  refine loopE (α := Unit) 154 (fun i _ => ∀ k, k < i → σ.1 14 k ≤ σ.1 15 k) (fun i _ => Go 0 99 [.ref 0, .null, .int (nI i), .null] [] σ [.int (pI (∃ k, k < 154 ∧ σ.1 15 k < σ.1 14 k))] σ) ?_ ?_ 0 () (by omega) (fun k h => by omega)
  · intro i _ hi hI
    have ei : (nI i).toNatClampNeg = i := clN (by omega)
    have lt : nI i < 154 := (nI_ltL (n := 154) rfl (by omega) (by omega)).mpr hi
    by_cases q : σ.1 14 i ≤ σ.1 15 i
    · refine Or.inr ⟨(), fun k hk => ?_, fun h => g_0_99 (br_t lt ⟨vp_in_nI hi (by decide), br_t (by rw [ei]; exact q) ?_⟩)⟩
      · by_cases e : k = i
        · subst e; exact q
        · exact hI k (by omega)
      · rw [nI_S]; exact h
    · refine Or.inl (g_0_99 (br_t lt ⟨vp_in_nI hi (by decide), br_f (by rw [ei]; exact q) ⟨?_, rfl⟩⟩))
      rw [pI_t ⟨i, hi, Int32.not_le.mp q⟩]
  · intro _ hI
    refine g_0_99 (br_f (by decide) ⟨?_, rfl⟩)
    rw [pI_f]
    rintro ⟨k, h1, h2⟩
    exact absurd (hI k h1) (Int32.not_le.mpr h2)
theorem cpy_iv {f g : Nat → Int32} : iv (va_cpy f g 0 0 154) = iv f := by
  funext u
  unfold iv va_cpy
  by_cases h : u < 154
  · rw [if_pos h, if_pos h, if_pos ⟨Nat.zero_le _, by omega⟩]
    simp
  · rw [if_neg h, if_neg h]
theorem loopY {α β : Type} (n : Nat) (I : Nat → α → Prop) (G : Nat → α → β → Prop) (post : β → Prop) (hs : ∀ i x, i < n → I i x → (∃ r, post r ∧ G i x r) ∨ ∃ x', I (i + 1) x' ∧ ∀ r, G (i + 1) x' r → G i x r) (hn : ∀ x, I n x → ∃ r, post r ∧ G n x r) : ∀ i x, i ≤ n → I i x → ∃ r, post r ∧ G i x r := by
  intro i x hi hx
  obtain ⟨k, hk⟩ : ∃ k, k + i = n := ⟨n - i, by omega⟩
  clear hi
  induction k generalizing i x with
  | zero => rw [show i = n by omega] at hx ⊢; exact hn x hx
  | succ k ih =>
    rcases hs i x (by omega) hx with h | ⟨x', h1, h2⟩
    · exact h
    · obtain ⟨r, h3, h4⟩ := ih (i + 1) x' h1 (by omega)
      exact ⟨r, h3, h2 r h4⟩
theorem nst_0 {σ : St} {L H : Nat → Int32} : setR (setR σ 14 L) 15 H = nst σ L H (σ.1 0 5) := by
  refine St_ext (fun c j => ?_) rfl
  unfold nst
  rw [wr_get]
  by_cases h : c = 0 ∧ j = 5
  · rw [h.1, h.2]; simp [setR_get]
  · rw [if_neg h]
/-- the bounds of ages that both nets start from -/
def AgB (σ : St) : Prop := (∀ l, l < 144 → σ.1 47 l = -1 ∨ ∃ d, d < 10 ∧ σ.1 47 l = nI d) ∧ ∀ u, u < 154 → 0 ≤ σ.1 12 u ∧ σ.1 12 u ≤ 9999 ∧ 0 ≤ σ.1 13 u ∧ σ.1 13 u ≤ 9999
/-- what the class's net reckons -/
def NetQ (σ : St) (w : Int32) (L H : Nat → Int32) : Prop := Lst (cEd (σ.1 48)) (tEd (σ.1 47) (σ.1 48) w) (iv (σ.1 12)) (iv L) ∧ Lst (rvE (cEd (σ.1 48))) (tEd (σ.1 47) (σ.1 48) w) (ng (iv (σ.1 13))) (ng (iv H))
theorem s_0 {σ : St} {w : Int32} (hA : AgB σ) : ∃ r : (Nat → Int32) × (Nat → Int32) × Int32, NetQ σ w r.1 r.2.1 ∧ Ret 0 [.ref 0, .int w] σ [.int (pI (∃ k, k < 154 ∧ r.2.1 k < r.1 k))] (nst σ r.1 r.2.1 r.2.2) := by
  obtain ⟨hdy, hB⟩ := hA
  have key := loopY (α := (Nat → Int32) × (Nat → Int32) × Int32) (β := (Nat → Int32) × (Nat → Int32) × Int32) 1000
    (fun t x => Tns (cEd (σ.1 48)) (tEd (σ.1 47) (σ.1 48) w) t (iv (σ.1 12)) (iv x.1) ∧ Tns (rvE (cEd (σ.1 48))) (tEd (σ.1 47) (σ.1 48) w) t (ng (iv (σ.1 13))) (ng (iv x.2.1)))
    (fun t x r => Go 0 34 [.ref 0, .int w, .int (nI t), .null] [] (nst σ x.1 x.2.1 x.2.2) [.int (pI (∃ k, k < 154 ∧ r.2.1 k < r.1 k))] (nst σ r.1 r.2.1 r.2.2))
    (fun r => NetQ σ w r.1 r.2.1) ?_ ?_ 0 (va_cpy (σ.1 12) (σ.1 14) 0 0 154, va_cpy (σ.1 13) (σ.1 15) 0 0 154, σ.1 0 5) (by omega) ?_
  · obtain ⟨r, h1, h2⟩ := key
    refine ⟨r, h1, g_0_0 ⟨by decide, ?_⟩⟩
    rw [nst_0]
    exact h2
  · rintro t ⟨L, H, m⟩ ht ⟨k1, k2⟩
    have lt : nI t < 1000 := (nI_ltL (n := 1000) rfl (by omega) (by omega)).mpr ht
    have hL : ∀ u, u < 154 → 0 ≤ L u := by
      intro u hu
      have h1 := k1.least.1 u
      rw [iv_lt hu, iv_lt hu] at h1
      exact Int32.le_trans (hB u hu).1 (toI_le.mpr h1)
    have hH : ∀ u, u < 154 → H u ≤ 9999 := by
      intro u hu
      have h1 := k2.least.1 u
      unfold ng at h1
      rw [iv_lt hu, iv_lt hu] at h1
      have h1 : - (σ.1 13 u).toInt ≤ - (H u).toInt := h1
      have h2 : H u ≤ σ.1 13 u := toI_le.mpr (by omega)
      exact Int32.le_trans h2 (hB u hu).2.2.2
    obtain ⟨r, ⟨t1, t2, t3, t4⟩, hgo⟩ := turn (σ := σ) (L := L) (H := H) (w := w) (nI t) hdy hL hH
    by_cases z : r.2.2 = 0
    · obtain ⟨e1, e2⟩ := t4 z
      refine Or.inl ⟨r, ⟨?_, ?_⟩, g_0_34 (br_t lt ?_)⟩
      · rw [e1] at t1 ⊢; exact k1.fix t1
      · rw [e2] at t2 ⊢; exact k2.fix t2
      · rw [nst_mv]
        exact hgo _ _ (fun _ => s_0scan) (fun n => absurd z n)
    · refine Or.inr ⟨r, ⟨k1.succ t1, k2.succ t2⟩, fun q hq => g_0_34 (br_t lt ?_)⟩
      rw [nst_mv]
      refine hgo _ _ (fun n => absurd n z) (fun _ => ?_)
      rw [nI_S]
      exact hq
  · rintro ⟨L, H, m⟩ ⟨k1, k2⟩
    refine ⟨(L, H, m), ⟨k1.settle cEd_rng tEd_rng (by omega) 9999 (fun u => ?_), k2.settle (fun i j h => ⟨(cEd_rng j i h).2, (cEd_rng j i h).1⟩) tEd_rng (by omega) 0 (fun u => ?_)⟩, g_0_34 (br_f (by decide) s_0scan)⟩
    · unfold iv
      split
      · rename_i q; exact toI_le.mp (hB u q).2.1
      · decide
    · unfold ng iv
      split
      · rename_i q
        have := toI_le.mp (hB u q).2.2.1
        have : (0 : Int32).toInt = 0 := rfl
        omega
      · decide
  · show Tns _ _ 0 (iv (σ.1 12)) (iv (va_cpy (σ.1 12) (σ.1 14) 0 0 154)) ∧ Tns _ _ 0 (ng (iv (σ.1 13))) (ng (iv (va_cpy (σ.1 13) (σ.1 15) 0 0 154)))
    rw [cpy_iv, cpy_iv]
    exact ⟨Tns.zero, Tns.zero⟩
