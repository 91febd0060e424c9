/-! the model's net comes to an end -/
def smM (f : Nat → Nat) : Nat → Nat
  | 0 => 0
  | n + 1 => smM f n + f n
theorem smM_le {f g : Nat → Nat} : ∀ n, (∀ k, k < n → f k ≤ g k) → smM f n ≤ smM g n
  | 0, _ => Nat.le_refl 0
  | n + 1, h => by
    have h1 := smM_le n (fun k hk => h k (by omega))
    have h2 := h n (by omega)
    unfold smM
    omega
theorem smM_lt {f g : Nat → Nat} : ∀ n, (∀ k, k < n → f k ≤ g k) → (∃ k, k < n ∧ f k < g k) → smM f n < smM g n
  | 0, _, ⟨k, hk, _⟩ => by omega
  | n + 1, h, ⟨k, hk, hf⟩ => by
    unfold smM
    by_cases e : k = n
    · subst e
      have h1 := smM_le k (fun j hj => h j (by omega))
      omega
    · have h1 := smM_lt n (fun j hj => h j (by omega)) ⟨k, by omega, hf⟩
      have h2 := h n (by omega)
      omega
def mu (L H : Nat → Int32) : Nat := smM (fun u => (9999 - iv L u).toNat + (iv H u).toNat) 154
theorem mu_lt {L H L' H' : Nat → Int32} (h1 : ∀ u, L u ≤ L' u) (h2 : ∀ u, H' u ≤ H u) (h3 : ∀ u, iv L' u ≤ 9999) (h4 : ∀ u, 0 ≤ iv H' u) (hc : Ch L H L' H') : mu L' H' < mu L H := by
  have a1 := iv_mono h1
  have a2 := iv_mono h2
  refine smM_lt 154 (fun u hu => ?_) ?_
  · have := a1 u; have := a2 u; have := h3 u; have := h4 u
    show (9999 - iv L' u).toNat + (iv H' u).toNat ≤ (9999 - iv L u).toNat + (iv H u).toNat
    omega
  · obtain ⟨u, hu, q⟩ := hc
    refine ⟨u, hu, ?_⟩
    have := a1 u; have := a2 u; have := h3 u; have := h4 u
    show (9999 - iv L' u).toNat + (iv H' u).toNat < (9999 - iv L u).toNat + (iv H u).toNat
    rcases q with q | q
    · have q := Int32.lt_iff_toInt_lt.mp q
      have e1 : iv L u = (L u).toInt := iv_lt hu
      have e2 : iv L' u = (L' u).toInt := iv_lt hu
      omega
    · have q := Int32.lt_iff_toInt_lt.mp q
      have e1 : iv H u = (H u).toInt := iv_lt hu
      have e2 : iv H' u = (H' u).toInt := iv_lt hu
      omega
/-- what holds at each turn's start: between the first rows and all closed ones -/
def MnI (sk : Nat → Int32) (tE : Nat → Nat → Prop) (L0 H0 L H : Nat → Int32) : Prop :=
  (∀ u, L0 u ≤ L u) ∧ (∀ u, H u ≤ H0 u) ∧ (∀ F : Nat → Int, Clo (cEd sk) tE F → (∀ u, iv L0 u ≤ F u) → ∀ u, iv L u ≤ F u) ∧ (∀ F : Nat → Int, Clo (cEd sk) tE F → (∀ u, F u ≤ iv H0 u) → ∀ u, F u ≤ iv H u)
theorem mloop {σ : St} {L0 H0 : Nat → Int32} {w : Int32} (hdy : ∀ l, l < 144 → σ.1 74 l < 0 ∨ ∃ d, d < 10 ∧ σ.1 74 l = nI d) (hB : ∀ u, u < 154 → 0 ≤ L0 u ∧ L0 u ≤ 9999 ∧ 0 ≤ H0 u ∧ H0 u ≤ 9999) :
    ∀ n L H m, mu L H < n → ¬ m = 0 → MnI (σ.1 75) (tEd (σ.1 74) (σ.1 75) w) L0 H0 L H → ∃ r : (Nat → Int32) × (Nat → Int32), (Lst (cEd (σ.1 75)) (tEd (σ.1 74) (σ.1 75) w) (iv L0) (iv r.1) ∧ Lst (rvE (cEd (σ.1 75))) (tEd (σ.1 74) (σ.1 75) w) (ng (iv H0)) (ng (iv r.2))) ∧
      ∀ R S, Go 183 322 [.ref 11, .null, .null, .int 1, .int 0, .null, .null] [] (mst σ r.1 r.2) R S → Go 183 79 [.ref 11, .int w, .int m, .null, .null, .null, .null] [] (mst σ L H) R S := by
  have bL : ∀ u, 0 ≤ iv L0 u ∧ iv L0 u ≤ 9999 := by
    intro u
    unfold iv
    split
    · rename_i q; exact ⟨toI_le.mp (hB u q).1, toI_le.mp (hB u q).2.1⟩
    · decide
  have bH : ∀ u, 0 ≤ iv H0 u ∧ iv H0 u ≤ 9999 := by
    intro u
    unfold iv
    split
    · rename_i q; exact ⟨toI_le.mp (hB u q).2.2.1, toI_le.mp (hB u q).2.2.2⟩
    · decide
  intro n
  induction n with
  | zero => intro L H m h; omega
  | succ n ih =>
    intro L H m hn hm hI
    obtain ⟨⟨L', H', m'⟩, ⟨a1, a2, a3, a4, a5, a6, a7⟩, hgo⟩ := mturn (σ := σ) (L := L) (H := H) (w := w) hdy
    obtain ⟨i1, i2, i3, i4⟩ := hI
    by_cases z : m' = 0
    · obtain ⟨e1, e2, c1, c2⟩ := a6 z
      have e1 : L' = L := e1
      have e2 : H' = H := e2
      refine ⟨(L, H), ⟨⟨c1, iv_mono i1, i3⟩, ⟨⟨fun i j hij => ?_, fun l d hld => ?_⟩, fun u => ?_, fun F hF h => ?_⟩⟩, fun R S k => g_183_79 (br_f hm (hgo R S ?_))⟩
      · have := c2.1 j i hij; show - iv H i ≤ - iv H j; omega
      · have := c2.2 l d hld; show - iv H l = - iv H (144 + d); omega
      · have := iv_mono i2 u; show - iv H0 u ≤ - iv H u; omega
      · intro u
        have := i4 (ng F) (Clo_ng hF) (fun v => by have := h v; unfold ng at this ⊢; omega) u
        show - iv H u ≤ F u
        unfold ng at this
        omega
      · show Go 183 79 [.ref 11, .int w, .int m', .null, .null, .null, .null] [] (mst σ L' H') R S
        rw [e1, e2]
        exact g_183_79 (br_t z k)
    · have j3 : ∀ F : Nat → Int, Clo (cEd (σ.1 75)) (tEd (σ.1 74) (σ.1 75) w) F → (∀ u, iv L0 u ≤ F u) → ∀ u, iv L' u ≤ F u := fun F hF h => a3 F hF (i3 F hF h) (fun u => Int.le_trans (bL u).1 (h u))
      have j4 : ∀ F : Nat → Int, Clo (cEd (σ.1 75)) (tEd (σ.1 74) (σ.1 75) w) F → (∀ u, F u ≤ iv H0 u) → ∀ u, F u ≤ iv H' u := fun F hF h => a4 F hF (i4 F hF h) (fun u => Int.le_trans (h u) (bH u).2)
      have hlt := mu_lt a1 a2 (j3 (fun _ => 9999) ⟨fun _ _ _ => Int.le_refl _, fun _ _ _ => rfl⟩ (fun u => (bL u).2)) (j4 (fun _ => 0) ⟨fun _ _ _ => Int.le_refl _, fun _ _ _ => rfl⟩ (fun u => (bH u).1)) (a7 z)
      obtain ⟨r, h1, h2⟩ := ih L' H' m' (by have : mu L' H' < mu L H := hlt; omega) z ⟨fun u => Int32.le_trans (i1 u) (a1 u), fun u => Int32.le_trans (a2 u) (i2 u), j3, j4⟩
      exact ⟨r, h1, fun R S k => g_183_79 (br_f hm (hgo R S (h2 R S k)))⟩
