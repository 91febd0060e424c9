/-! THE NET, purely: numbers on 144 inches and 10 days (144 + d); cE i j: j is no less than i; tE l d: an inch is as its day -/
def Clo (cE tE : Nat → Nat → Prop) (X : Nat → Int) : Prop := (∀ i j, cE i j → X i ≤ X j) ∧ ∀ l d, tE l d → X l = X (144 + d)
/-- one turn: first along the cores (Y), then by the ties -/
def Tn (cE tE : Nat → Nat → Prop) (X X' : Nat → Int) : Prop := ∃ Y : Nat → Int, (∀ u, X u ≤ Y u) ∧ (∀ u, Y u ≤ X' u) ∧ (∀ i j, cE i j → Y i ≤ Y j) ∧
  (∀ l d, tE l d → X (144 + d) ≤ X' l ∧ Y l ≤ X' (144 + d)) ∧ (∀ l, l < 144 → X' l = Y l ∨ ∃ d, tE l d ∧ X' l ≤ X' (144 + d)) ∧
  (∀ F : Nat → Int, Clo cE tE F → (∀ u, X u ≤ F u) → ∀ u, X' u ≤ F u)
theorem Tn.le {cE tE : Nat → Nat → Prop} {X X' : Nat → Int} (h : Tn cE tE X X') (u : Nat) : X u ≤ X' u := by
  obtain ⟨Y, h1, h2, _⟩ := h
  exact Int.le_trans (h1 u) (h2 u)
/-- closed at a level -/
def CloC (cE tE : Nat → Nat → Prop) (c : Int) (X : Nat → Int) : Prop := (∀ i j, cE i j → c ≤ X i → c ≤ X j) ∧ ∀ l d, tE l d → (c ≤ X l ↔ c ≤ X (144 + d))
theorem two_turns {cE tE : Nat → Nat → Prop} {X X' X'' : Nat → Int} {c : Int} (hc : ∀ i j, cE i j → i < 144 ∧ j < 144) (ht : ∀ l d, tE l d → l < 144 ∧ d < 10) (h1 : Tn cE tE X X') (h2 : Tn cE tE X' X'') (hd : ∀ d, d < 10 → c ≤ X'' (144 + d) → c ≤ X (144 + d)) : CloC cE tE c X'' := by
  obtain ⟨Y, a1, a2, a3, a4, a5, a6⟩ := h1
  obtain ⟨Z, b1, b2, b3, b4, b5, b6⟩ := h2
  have key : ∀ l, l < 144 → c ≤ X'' l → c ≤ Z l := by
    intro l hl hcl
    rcases b5 l hl with q | ⟨d, q1, q2⟩
    · rw [← q]; exact hcl
    · have h3 := hd d (ht l d q1).2 (Int.le_trans hcl q2)
      have h4 := (a4 l d q1).1
      have h5 := b1 l
      omega
  refine ⟨fun i j hij hci => ?_, fun l d hld => ⟨fun hcl => ?_, fun hcd => ?_⟩⟩
  · have h3 := key i (hc i j hij).1 hci
    have h4 := b3 i j hij
    have h5 := b2 j
    omega
  · have h3 := key l (ht l d hld).1 hcl
    have h4 := (b4 l d hld).2
    omega
  · have h3 := hd d (ht l d hld).2 hcd
    have h4 := (a4 l d hld).1
    have h5 := b1 l
    have h6 := b2 l
    omega
theorem CloC.keep {cE tE : Nat → Nat → Prop} {X X' : Nat → Int} {c : Int} (h : CloC cE tE c X) (ht : Tn cE tE X X') (B : Int) (hB : ∀ u, X u ≤ B) (hcB : c ≤ B) : CloC cE tE c X' := by
  have same : ∀ u, c ≤ X' u ↔ c ≤ X u := by
    intro u
    constructor
    · intro hu
      obtain ⟨Y, _, _, _, _, _, a6⟩ := ht
      have h1 := a6 (fun u => if c ≤ X u then B else c - 1) ⟨fun i j hij => ?_, fun l d hld => ?_⟩ (fun u => ?_) u
      · by_cases q : c ≤ X u
        · exact q
        · rw [if_neg q] at h1
          omega
      · show (if c ≤ X i then B else c - 1) ≤ (if c ≤ X j then B else c - 1)
        by_cases q : c ≤ X i
        · rw [if_pos q, if_pos (h.1 i j hij q)]; exact Int.le_refl _
        · rw [if_neg q]; split <;> omega
      · show (if c ≤ X l then B else c - 1) = (if c ≤ X (144 + d) then B else c - 1)
        have := h.2 l d hld
        by_cases q : c ≤ X l
        · rw [if_pos q, if_pos (this.mp q)]
        · rw [if_neg q, if_neg (fun z => q (this.mpr z))]
      · show X u ≤ (if c ≤ X u then B else c - 1)
        split
        · exact hB u
        · omega
    · intro hu
      have := ht.le u
      omega
  exact ⟨fun i j hij q => (same j).mpr (h.1 i j hij ((same i).mp q)), fun l d hld => ⟨fun q => (same _).mpr ((h.2 l d hld).mp ((same _).mp q)), fun q => (same _).mpr ((h.2 l d hld).mpr ((same _).mp q))⟩⟩
/-- how many of the first n hold -/
noncomputable def cntP (p : Nat → Prop) : Nat → Nat
  | 0 => 0
  | n + 1 => cntP p n + @ite _ (p n) (Classical.propDecidable _) 1 0
theorem cntP_le {p : Nat → Prop} : ∀ n, cntP p n ≤ n
  | 0 => Nat.le_refl 0
  | n + 1 => by
    have := cntP_le (p := p) n
    unfold cntP
    split <;> omega
theorem cntP_mono {p q : Nat → Prop} : ∀ n, (∀ k, k < n → p k → q k) → cntP p n ≤ cntP q n
  | 0, _ => Nat.le_refl 0
  | n + 1, h => by
    have ih := cntP_mono (p := p) (q := q) n (fun k hk => h k (by omega))
    unfold cntP
    by_cases hp : p n
    · rw [if_pos hp, if_pos (h n (by omega) hp)]; omega
    · rw [if_neg hp]; split <;> omega
theorem cntP_grow {p q : Nat → Prop} : ∀ n, (∀ k, k < n → p k → q k) → (∃ k, k < n ∧ q k ∧ ¬ p k) → cntP p n + 1 ≤ cntP q n
  | 0, _, ⟨k, hk, _⟩ => by omega
  | n + 1, h, ⟨k, hk, h1, h2⟩ => by
    unfold cntP
    by_cases e : k = n
    · subst e
      have := cntP_mono (p := p) (q := q) k (fun j hj => h j (by omega))
      rw [if_pos h1, if_neg h2]
      omega
    · have ih := cntP_grow (p := p) (q := q) n (fun j hj => h j (by omega)) ⟨k, by omega, h1, h2⟩
      by_cases hp : p n
      · rw [if_pos hp, if_pos (h n (by omega) hp)]; omega
      · rw [if_neg hp]; split <;> omega
/-- from the twenty-second turn on all is settled -/
theorem settled {cE tE : Nat → Nat → Prop} (hc : ∀ i j, cE i j → i < 144 ∧ j < 144) (ht : ∀ l d, tE l d → l < 144 ∧ d < 10) {f : Nat → Nat → Int} {T : Nat} (hT : 22 ≤ T) (hs : ∀ t, t < T → Tn cE tE (f t) (f (t + 1))) (B : Int) (hB : ∀ t u, t ≤ T → f t u ≤ B) : Clo cE tE (f T) := by
  have mono : ∀ a b, a ≤ b → b ≤ T → ∀ u, f a u ≤ f b u := by
    intro a b hab hb u
    obtain ⟨k, rfl⟩ : ∃ k, b = a + k := ⟨b - a, by omega⟩
    clear hab
    induction k with
    | zero => exact Int.le_refl _
    | succ k ih => exact Int.le_trans (ih (by omega)) ((hs (a + k) (by omega)).le u)
  have level : ∀ c, c ≤ B → CloC cE tE c (f T) := by
    intro c hcB
    have ex : ∃ s, s ≤ 20 ∧ ∀ d, d < 10 → c ≤ f (s + 2) (144 + d) → c ≤ f s (144 + d) := by
      apply Classical.byContradiction
      intro hno
      have grow : ∀ s, s ≤ 20 → cntP (fun d => c ≤ f s (144 + d)) 10 + 1 ≤ cntP (fun d => c ≤ f (s + 2) (144 + d)) 10 := by
        intro s hs20
        refine cntP_grow 10 (fun d hd q => Int.le_trans q (mono s (s + 2) (by omega) (by omega) _)) ?_
        apply Classical.byContradiction
        intro hn
        exact hno ⟨s, hs20, fun d hd q => Classical.byContradiction fun z => hn ⟨d, hd, q, z⟩⟩
      have all : ∀ k, k ≤ 11 → k ≤ cntP (fun d => c ≤ f (2 * k) (144 + d)) 10 := by
        intro k
        induction k with
        | zero => intro _; exact Nat.zero_le _
        | succ k ih =>
          intro hk
          have h1 := ih (by omega)
          have h2 := grow (2 * k) (by omega)
          rw [show 2 * (k + 1) = 2 * k + 2 by omega]
          omega
      have h1 := all 11 (by omega)
      have h2 := cntP_le (p := fun d => c ≤ f (2 * 11) (144 + d)) 10
      omega
    obtain ⟨s, hs20, hd⟩ := ex
    have h0 := two_turns hc ht (hs s (by omega)) (hs (s + 1) (by omega)) hd
    obtain ⟨k, hk⟩ : ∃ k, s + 2 + k = T := ⟨T - (s + 2), by omega⟩
    have go : ∀ k, s + 2 + k ≤ T → CloC cE tE c (f (s + 2 + k)) := by
      intro k
      induction k with
      | zero => intro _; exact h0
      | succ k ih => intro hk; exact CloC.keep (ih (by omega)) (hs (s + 2 + k) (by omega)) B (fun u => hB _ u (by omega)) hcB
    rw [← hk]
    exact go k (by omega)
  refine ⟨fun i j hij => ?_, fun l d hld => ?_⟩
  · exact (level (f T i) (hB T i (by omega))).1 i j hij (Int.le_refl _)
  · have h1 := ((level (f T l) (hB T l (by omega))).2 l d hld).mp (Int.le_refl _)
    have h2 := ((level (f T (144 + d)) (hB T _ (by omega))).2 l d hld).mpr (Int.le_refl _)
    omega
/-- the least above: what both reckon -/
def Lst (cE tE : Nat → Nat → Prop) (t X : Nat → Int) : Prop := Clo cE tE X ∧ (∀ u, t u ≤ X u) ∧ ∀ F : Nat → Int, Clo cE tE F → (∀ u, t u ≤ F u) → ∀ u, X u ≤ F u
theorem Lst.uniq {cE tE : Nat → Nat → Prop} {t X Y : Nat → Int} (h : Lst cE tE t X) (k : Lst cE tE t Y) (u : Nat) : X u = Y u := Int.le_antisymm (h.2.2 Y k.1 k.2.1 u) (k.2.2 X h.1 h.2.1 u)
