/-! leans are made narrow, purely and in the class -/
def S9 (X Y : Nat → Int32) : Prop := ∀ u, u < 9 → -9 ≤ X u ∧ X u ≤ Y u ∧ Y u ≤ 9
def NrI (Sol : (Nat → Int32) → (Nat → Int32) → Prop) (L H : Nat → Int32) (f : Int32) (L' H' : Nat → Int32) (f' : Int32) : Prop :=
  (∀ u, L u ≤ L' u) ∧ (∀ u, H' u ≤ H u) ∧ (∀ u, 9 ≤ u → L' u = L u ∧ H' u = H u) ∧ (∀ X Y, Sol X Y → ∀ u, u < 9 → L' u ≤ X u ∧ Y u ≤ H' u) ∧ (f' = 0 ∨ f' = 1) ∧ (f' = 0 → f = 0 ∧ L' = L ∧ H' = H) ∧ (¬ f' = 0 → ¬ f = 0 ∨ ∃ u, u < 9 ∧ (L u < L' u ∨ H' u < H u))
theorem NrI.rf {Sol : (Nat → Int32) → (Nat → Int32) → Prop} {L H : Nat → Int32} {f : Int32} (hf : f = 0 ∨ f = 1) (h : ∀ X Y, Sol X Y → ∀ u, u < 9 → L u ≤ X u ∧ Y u ≤ H u) : NrI Sol L H f L H f :=
  ⟨fun _ => Int32.le_refl _, fun _ => Int32.le_refl _, fun _ _ => ⟨rfl, rfl⟩, h, hf, fun z => ⟨z, rfl, rfl⟩, fun z => Or.inl z⟩
theorem NrI.up {Sol : (Nat → Int32) → (Nat → Int32) → Prop} {L H L1 H1 : Nat → Int32} {f f1 v : Int32} {k : Nat} (hk : k < 9) (h : NrI Sol L H f L1 H1 f1) (hv : ∀ X Y, Sol X Y → v ≤ X k) : NrI Sol L H f (rz L1 k v) H1 (rzm L1 k v f1) := by
  obtain ⟨a1, a2, a3, a4, a5, a6, a7⟩ := h
  refine ⟨fun u => Int32.le_trans (a1 u) (rz_ge u), a2, fun u hu => ⟨by rw [rz_ne (by omega)]; exact (a3 u hu).1, (a3 u hu).2⟩, fun X Y hS u hu => ⟨?_, (a4 X Y hS u hu).2⟩, rzm_01 a5, fun z => ?_, fun z => ?_⟩
  · rw [rz_at]
    split
    · rename_i q; rw [q.1]; exact hv X Y hS
    · exact (a4 X Y hS u hu).1
  · obtain ⟨z1, z2⟩ := rzm_0 z
    rw [z2]
    exact a6 z1
  · by_cases q : v ≤ L1 k
    · unfold rzm at z
      rw [if_pos q] at z
      rcases a7 z with y | ⟨u, u1, u2⟩
      · exact Or.inl y
      · exact Or.inr ⟨u, u1, u2.imp (fun w => Int32.lt_of_lt_of_le w (rz_ge u)) id⟩
    · refine Or.inr ⟨k, hk, Or.inl ?_⟩
      rw [rz_at, if_pos ⟨rfl, q⟩]
      exact Int32.lt_of_le_of_lt (a1 k) (Int32.not_le.mp q)
theorem NrI.dn {Sol : (Nat → Int32) → (Nat → Int32) → Prop} {L H L1 H1 : Nat → Int32} {f f1 v : Int32} {k : Nat} (hk : k < 9) (h : NrI Sol L H f L1 H1 f1) (hv : ∀ X Y, Sol X Y → Y k ≤ v) : NrI Sol L H f L1 (lz H1 k v) (lzm H1 k v f1) := by
  obtain ⟨a1, a2, a3, a4, a5, a6, a7⟩ := h
  refine ⟨a1, fun u => Int32.le_trans (lz_le u) (a2 u), fun u hu => ⟨(a3 u hu).1, by rw [lz_ne (by omega)]; exact (a3 u hu).2⟩, fun X Y hS u hu => ⟨(a4 X Y hS u hu).1, ?_⟩, lzm_01 a5, fun z => ?_, fun z => ?_⟩
  · rw [lz_at]
    split
    · rename_i q; rw [q.1]; exact hv X Y hS
    · exact (a4 X Y hS u hu).2
  · obtain ⟨z1, z2⟩ := lzm_0 z
    rw [z2]
    exact a6 z1
  · by_cases q : v < H1 k
    · refine Or.inr ⟨k, hk, Or.inr ?_⟩
      rw [lz_at, if_pos ⟨rfl, q⟩]
      exact Int32.lt_of_lt_of_le q (a2 k)
    · unfold lzm at z
      rw [if_neg q] at z
      rcases a7 z with y | ⟨u, u1, u2⟩
      · exact Or.inl y
      · exact Or.inr ⟨u, u1, u2.imp id (fun w => Int32.lt_of_le_of_lt (lz_le u) w)⟩
theorem lzm_v {H : Nat → Int32} {k : Nat} {v m : Int32} (h : lzm H k v m = 0) : H k ≤ v := by
  unfold lzm at h
  by_cases w : v < H k
  · rw [if_pos w] at h; exact absurd h (by decide)
  · exact Int32.not_lt.mp w
/-- widths together -/
def wdN (L H : Nat → Int32) : Nat := smM (fun u => ((H u).toInt - (L u).toInt).toNat) 9
theorem wd_lt {L H L' H' : Nat → Int32} (h1 : ∀ u, L u ≤ L' u) (h2 : ∀ u, H' u ≤ H u) (hne : ∀ u, u < 9 → L' u ≤ H' u) (hc : ∃ u, u < 9 ∧ (L u < L' u ∨ H' u < H u)) : wdN L' H' < wdN L H := by
  refine smM_lt 9 (fun u hu => ?_) ?_
  · have := toI_le.mp (h1 u); have := toI_le.mp (h2 u)
    show ((H' u).toInt - (L' u).toInt).toNat ≤ ((H u).toInt - (L u).toInt).toNat
    omega
  · obtain ⟨u, hu, q⟩ := hc
    refine ⟨u, hu, ?_⟩
    have := toI_le.mp (h1 u); have := toI_le.mp (h2 u); have := toI_le.mp (hne u hu)
    show ((H' u).toInt - (L' u).toInt).toNat < ((H u).toInt - (L u).toInt).toNat
    rcases q with q | q
    · have := Int32.lt_iff_toInt_lt.mp q; omega
    · have := Int32.lt_iff_toInt_lt.mp q; omega
theorem wd_b {L H : Nat → Int32} (h : ∀ u, u < 9 → -9 ≤ L u ∧ H u ≤ 9) : wdN L H ≤ 162 := by
  have go : ∀ n, n ≤ 9 → smM (fun u => ((H u).toInt - (L u).toInt).toNat) n ≤ 18 * n := by
    intro n
    induction n with
    | zero => intro _; exact Nat.le_refl 0
    | succ n ih =>
      intro hn
      have h1 := ih (by omega)
      have h2 := toI_le.mp (h n (by omega)).1
      have h3 := toI_le.mp (h n (by omega)).2
      have e1 : (-9 : Int32).toInt = -9 := by decide
      have e2 : (9 : Int32).toInt = 9 := by decide
      show smM _ n + ((H n).toInt - (L n).toInt).toNat ≤ 18 * (n + 1)
      omega
  exact go 9 (by omega)
theorem wd_c {L H : Nat → Int32} (h : ∀ u, u < 9 → -9 ≤ L u ∧ H u ≤ 9) : ∃ q, wdN L H = q ∧ q + 0 ≤ 162 := by
  have h := wd_b h
  generalize wdN L H = q at h
  exact ⟨q, rfl, h⟩
/-! the class -/
def cst (σ : St) (L H : Nat → Int32) : St := setR (setR σ 19 L) 20 H
theorem cst_L {σ : St} {L H : Nat → Int32} {k : Nat} {x : Int32} : wr (cst σ L H) 19 k x = cst σ (upd L k x) H := by
  unfold cst
  rw [wr_setR_ne (by decide), wr_setR]
theorem cst_H {σ : St} {L H : Nat → Int32} {k : Nat} {x : Int32} : wr (cst σ L H) 20 k x = cst σ L (upd H k x) := by
  unfold cst
  rw [wr_setR]
theorem s_27 {σ : St} {L H : Nat → Int32} {k : Nat} {v : Int32} (hk : k < 9) : Ret 27 [.ref 3, .int (nI k), .int v] (cst σ L H) [.int (rzm L k v 0)] (cst σ (rz L k v) H) := by
  have ek : (nI k).toNatClampNeg = k := clN (by omega)
  unfold rz rzm
  refine g_27_0 ⟨vp_in_nI hk (by decide), fun q => ?_, fun q => ?_⟩
  · have q : v ≤ L k := by rw [ek] at q; exact q
    rw [if_pos q, if_pos q]
    exact ⟨rfl, rfl⟩
  · have q : ¬ v ≤ L k := by rw [ek] at q; exact q
    rw [if_neg q, if_neg q, ek, cst_L]
    exact ⟨rfl, rfl⟩
theorem s_28 {σ : St} {L H : Nat → Int32} {k : Nat} {v : Int32} (hk : k < 9) : Ret 28 [.ref 3, .int (nI k), .int v] (cst σ L H) [.int (lzm H k v 0)] (cst σ L (lz H k v)) := by
  have ek : (nI k).toNatClampNeg = k := clN (by omega)
  unfold lz lzm
  refine g_28_0 ⟨vp_in_nI hk (by decide), fun q => ?_, fun q => ?_⟩
  · have q : v < H k := by rw [ek] at q; exact q
    rw [if_pos q, if_pos q, ek, cst_H]
    exact ⟨rfl, rfl⟩
  · have q : ¬ v < H k := by rw [ek] at q; exact q
    rw [if_neg q, if_neg q]
    exact ⟨rfl, rfl⟩
theorem or_rzm {L : Nat → Int32} {k : Nat} {v f : Int32} (hf : f = 0 ∨ f = 1) : f ||| rzm L k v 0 = rzm L k v f := by
  unfold rzm
  rcases hf with rfl | rfl <;> split <;> rfl
theorem or_lzm {L : Nat → Int32} {k : Nat} {v f : Int32} (hf : f = 0 ∨ f = 1) : f ||| lzm L k v 0 = lzm L k v f := by
  unfold lzm
  rcases hf with rfl | rfl <;> split <;> rfl
/-- what rounds want -/
def CR (a b : Nat → Nat) (c d : Nat → Int32) (k : Nat) (X Y : Nat → Int32) : Prop := ∀ j, j < k → X (b j) + c j ≤ X (a j) ∧ Y (a j) ≤ Y (b j) + d j ∧ X (a j) - d j ≤ X (b j) ∧ Y (b j) ≤ Y (a j) - c j
def RdQ (σ : St) (a b : Nat → Nat) (c d : Nat → Int32) (k : Nat) : Prop := k ≤ 30 ∧ σ.1 3 8 = nI k ∧ ∀ j, j < k → (a j < 9 ∧ σ.1 23 j = nI (a j)) ∧ (b j < 9 ∧ σ.1 24 j = nI (b j)) ∧ (σ.1 25 j = c j ∧ -105 ≤ c j ∧ c j ≤ 105) ∧ (σ.1 26 j = d j ∧ -105 ≤ d j ∧ d j ≤ 105)
theorem ov1 {l x o r : Int32} (h1 : -9 ≤ l) (h2 : l ≤ x) (h3 : x ≤ 9) (h4 : -105 ≤ r ∧ r ≤ 105) (h5 : x + r ≤ o) : l + r ≤ o := by grind
theorem ov2 {h y o r : Int32} (h1 : h ≤ 9) (h2 : y ≤ h) (h3 : -9 ≤ y) (h4 : -105 ≤ r ∧ r ≤ 105) (h5 : o ≤ y + r) : o ≤ h + r := by grind
theorem ov3 {l x o r : Int32} (h1 : -9 ≤ l) (h2 : l ≤ x) (h3 : x ≤ 9) (h4 : -105 ≤ r ∧ r ≤ 105) (h5 : x - r ≤ o) : l - r ≤ o := by grind
theorem ov4 {h y o r : Int32} (h1 : h ≤ 9) (h2 : y ≤ h) (h3 : -9 ≤ y) (h4 : -105 ≤ r ∧ r ≤ 105) (h5 : o ≤ y - r) : o ≤ h - r := by grind
theorem s_26 {σ : St} {Sol : (Nat → Int32) → (Nat → Int32) → Prop} {a b : Nat → Nat} {c d : Nat → Int32} {k : Nat} {L H : Nat → Int32} (hq : RdQ σ a b c d k) (hL : ∀ u, u < 9 → -9 ≤ L u ∧ H u ≤ 9) (hS9 : ∀ X Y, Sol X Y → S9 X Y ∧ CR a b c d k X Y) (hS : ∀ X Y, Sol X Y → ∀ u, u < 9 → L u ≤ X u ∧ Y u ≤ H u) :
    ∃ r : (Nat → Int32) × (Nat → Int32) × Int32, (NrI Sol L H 0 r.1 r.2.1 r.2.2 ∧ (r.2.2 = 0 → CR a b c d k L H)) ∧ Ret 26 [.ref 3] (cst σ L H) [.int r.2.2] (cst σ r.1 r.2.1) := by
  obtain ⟨hk, e38, hrow⟩ := hq
  have key := loopX (α := (Nat → Int32) × (Nat → Int32) × Int32) (β := (Nat → Int32) × (Nat → Int32) × Int32) k
    (fun j x => NrI Sol L H 0 x.1 x.2.1 x.2.2 ∧ (x.2.2 = 0 → CR a b c d j L H))
    (fun j x r => Go 26 4 [.ref 3, .int x.2.2, .int (nI j), .null, .null] [] (cst σ x.1 x.2.1) [.int r.2.2] (cst σ r.1 r.2.1))
    (fun r => NrI Sol L H 0 r.1 r.2.1 r.2.2 ∧ (r.2.2 = 0 → CR a b c d k L H)) ?_ ?_ 0 (L, H, 0) (by omega) ⟨NrI.rf (Or.inl rfl) hS, fun _ j h => by omega⟩
  · obtain ⟨r, h1, h2⟩ := key
    exact ⟨r, h1, g_26_0 h2⟩
  · rintro j ⟨L1, H1, f1⟩ hj ⟨hI, hc⟩
    obtain ⟨⟨ha, ea⟩, ⟨hb, eb⟩, ⟨ec, c1, c2⟩, ⟨ed, d1, d2⟩⟩ := hrow j hj
    have ej : (nI j).toNatClampNeg = j := clN (by omega)
    have eac : (nI (a j)).toNatClampNeg = a j := clN (by omega)
    have ebc : (nI (b j)).toNatClampNeg = b j := clN (by omega)
    have b9 : ∀ L1 H1 f1, NrI Sol L H 0 L1 H1 f1 → ∀ u, u < 9 → -9 ≤ L1 u ∧ H1 u ≤ 9 := fun L1 H1 f1 h u hu => ⟨Int32.le_trans (hL u hu).1 (h.1 u), Int32.le_trans (h.2.1 u) (hL u hu).2⟩
    have k1 := hI.up (k := a j) (v := L1 (b j) + c j) ha (fun X Y hXY => by
      obtain ⟨s9, cr⟩ := hS9 X Y hXY
      exact ov1 (b9 _ _ _ hI _ hb).1 (hI.2.2.2.1 X Y hXY _ hb).1 (Int32.le_trans (s9 _ hb).2.1 (s9 _ hb).2.2) ⟨c1, c2⟩ (cr j hj).1)
    have k2 := k1.dn (k := a j) (v := H1 (b j) + d j) ha (fun X Y hXY => by
      obtain ⟨s9, cr⟩ := hS9 X Y hXY
      exact ov2 (b9 _ _ _ hI _ hb).2 (hI.2.2.2.1 X Y hXY _ hb).2 (Int32.le_trans (s9 _ hb).1 (s9 _ hb).2.1) ⟨d1, d2⟩ (cr j hj).2.1)
    have k3 := k2.up (k := b j) (v := rz L1 (a j) (L1 (b j) + c j) (a j) - d j) hb (fun X Y hXY => by
      obtain ⟨s9, cr⟩ := hS9 X Y hXY
      exact ov3 (b9 _ _ _ k2 _ ha).1 (k2.2.2.2.1 X Y hXY _ ha).1 (Int32.le_trans (s9 _ ha).2.1 (s9 _ ha).2.2) ⟨d1, d2⟩ (cr j hj).2.2.1)
    have k4 := k3.dn (k := b j) (v := lz H1 (a j) (H1 (b j) + d j) (a j) - c j) hb (fun X Y hXY => by
      obtain ⟨s9, cr⟩ := hS9 X Y hXY
      exact ov4 (b9 _ _ _ k3 _ ha).2 (k3.2.2.2.1 X Y hXY _ ha).2 (Int32.le_trans (s9 _ ha).1 (s9 _ ha).2.1) ⟨c1, c2⟩ (cr j hj).2.2.2)
    refine ⟨(_, _, _), ⟨k4, fun hz => ?_⟩, fun r hr => ?_⟩
    · have hz : lzm (lz H1 (a j) (H1 (b j) + d j)) (b j) (lz H1 (a j) (H1 (b j) + d j) (a j) - c j) (rzm (rz L1 (a j) (L1 (b j) + c j)) (b j) (rz L1 (a j) (L1 (b j) + c j) (a j) - d j) (lzm H1 (a j) (H1 (b j) + d j) (rzm L1 (a j) (L1 (b j) + c j) f1))) = 0 := hz
      have v4 := lzm_v hz
      obtain ⟨z3, _⟩ := lzm_0 hz
      have v3 := rzm_v z3
      obtain ⟨z2, _⟩ := rzm_0 z3
      have v2 := lzm_v z2
      obtain ⟨z1, w2⟩ := lzm_0 z2
      have v1 := rzm_v z1
      obtain ⟨z0, w1⟩ := rzm_0 z1
      obtain ⟨_, eL, eH⟩ := hI.2.2.2.2.2.1 z0
      have eL : L1 = L := eL
      have eH : H1 = H := eH
      rw [w1, eL] at v3
      rw [w2, eH] at v4
      rw [eL] at v1
      rw [eH] at v2
      intro i hi
      by_cases e : i = j
      · subst e; exact ⟨v1, v2, v3, v4⟩
      · exact hc z0 i (by omega)
    · have hf1 := hI.2.2.2.2.1
      have lt : nI j < (cst σ L1 H1).1 3 8 := by show nI j < σ.1 3 8; rw [e38]; exact (nI_ltI (by omega) (by omega)).mpr hj
      have f23 : (cst σ L1 H1).1 23 (nI j).toNatClampNeg = nI (a j) := by rw [ej]; exact ea
      have f24 : (cst σ L1 H1).1 24 (nI j).toNatClampNeg = nI (b j) := by rw [ej]; exact eb
      refine g_26_4 (br_t lt ⟨vp_in_nI (by omega) (by decide), ?_⟩)
      rw [f23, f24, eac, ebc, ej]
      have hr : Go 26 4 [.ref 3, .int (lzm (lz H1 (a j) (H1 (b j) + d j)) (b j) (lz H1 (a j) (H1 (b j) + d j) (a j) - c j) (rzm (rz L1 (a j) (L1 (b j) + c j)) (b j) (rz L1 (a j) (L1 (b j) + c j) (a j) - d j) (lzm H1 (a j) (H1 (b j) + d j) (rzm L1 (a j) (L1 (b j) + c j) f1)))), .int (nI (j + 1)), .null, .null] [] (cst σ (rz (rz L1 (a j) (L1 (b j) + c j)) (b j) (rz L1 (a j) (L1 (b j) + c j) (a j) - d j)) (lz (lz H1 (a j) (H1 (b j) + d j)) (b j) (lz H1 (a j) (H1 (b j) + d j) (a j) - c j))) [.int r.2.2] (cst σ r.1 r.2.1) := hr
      have q1 : Ret 27 [.ref 3, .int (nI (a j)), .int ((cst σ L1 H1).1 19 (b j) + (cst σ L1 H1).1 25 j)] (cst σ L1 H1) [.int (rzm L1 (a j) (L1 (b j) + c j) 0)] (cst σ (rz L1 (a j) (L1 (b j) + c j)) H1) := by
        show Ret 27 [.ref 3, .int (nI (a j)), .int (L1 (b j) + σ.1 25 j)] (cst σ L1 H1) _ _
        rw [ec]; exact s_27 ha
      have q2 : Ret 28 [.ref 3, .int (nI (a j)), .int ((cst σ (rz L1 (a j) (L1 (b j) + c j)) H1).1 20 (b j) + (cst σ (rz L1 (a j) (L1 (b j) + c j)) H1).1 26 j)] (cst σ (rz L1 (a j) (L1 (b j) + c j)) H1) [.int (lzm H1 (a j) (H1 (b j) + d j) 0)] (cst σ (rz L1 (a j) (L1 (b j) + c j)) (lz H1 (a j) (H1 (b j) + d j))) := by
        show Ret 28 [.ref 3, .int (nI (a j)), .int (H1 (b j) + σ.1 26 j)] (cst σ _ H1) _ _
        rw [ed]; exact s_28 ha
      have q3 : Ret 27 [.ref 3, .int (nI (b j)), .int ((cst σ (rz L1 (a j) (L1 (b j) + c j)) (lz H1 (a j) (H1 (b j) + d j))).1 19 (a j) - (cst σ (rz L1 (a j) (L1 (b j) + c j)) (lz H1 (a j) (H1 (b j) + d j))).1 26 j)] (cst σ (rz L1 (a j) (L1 (b j) + c j)) (lz H1 (a j) (H1 (b j) + d j))) [.int (rzm (rz L1 (a j) (L1 (b j) + c j)) (b j) (rz L1 (a j) (L1 (b j) + c j) (a j) - d j) 0)] (cst σ (rz (rz L1 (a j) (L1 (b j) + c j)) (b j) (rz L1 (a j) (L1 (b j) + c j) (a j) - d j)) (lz H1 (a j) (H1 (b j) + d j))) := by
        show Ret 27 [.ref 3, .int (nI (b j)), .int (rz L1 (a j) (L1 (b j) + c j) (a j) - σ.1 26 j)] (cst σ _ _) _ _
        rw [ed]; exact s_27 hb
      have q4 : Ret 28 [.ref 3, .int (nI (b j)), .int ((cst σ (rz (rz L1 (a j) (L1 (b j) + c j)) (b j) (rz L1 (a j) (L1 (b j) + c j) (a j) - d j)) (lz H1 (a j) (H1 (b j) + d j))).1 20 (a j) - (cst σ (rz (rz L1 (a j) (L1 (b j) + c j)) (b j) (rz L1 (a j) (L1 (b j) + c j) (a j) - d j)) (lz H1 (a j) (H1 (b j) + d j))).1 25 j)] (cst σ (rz (rz L1 (a j) (L1 (b j) + c j)) (b j) (rz L1 (a j) (L1 (b j) + c j) (a j) - d j)) (lz H1 (a j) (H1 (b j) + d j))) [.int (lzm (lz H1 (a j) (H1 (b j) + d j)) (b j) (lz H1 (a j) (H1 (b j) + d j) (a j) - c j) 0)] (cst σ (rz (rz L1 (a j) (L1 (b j) + c j)) (b j) (rz L1 (a j) (L1 (b j) + c j) (a j) - d j)) (lz (lz H1 (a j) (H1 (b j) + d j)) (b j) (lz H1 (a j) (H1 (b j) + d j) (a j) - c j))) := by
        show Ret 28 [.ref 3, .int (nI (b j)), .int (lz H1 (a j) (H1 (b j) + d j) (a j) - σ.1 25 j)] (cst σ _ _) _ _
        rw [ec]; exact s_28 hb
      refine ⟨vp_in_nI hb (by decide), _, _, q1, _, _, q2, vp_in_nI ha (by decide), _, _, q3, _, _, q4, ?_⟩
      rw [or_rzm hf1, or_lzm (rzm_01 hf1), or_rzm (lzm_01 (rzm_01 hf1)), or_lzm (rzm_01 (lzm_01 (rzm_01 hf1))), nI_S]
      exact hr
  · rintro ⟨L1, H1, f1⟩ ⟨hI, hc⟩
    exact ⟨(L1, H1, f1), ⟨hI, hc⟩, g_26_4 (br_f (by show ¬ nI k < σ.1 3 8; rw [e38]; exact Int32.lt_irrefl) ⟨hI.2.2.2.2.1, rfl, rfl⟩)⟩
def nem (L H : Nat → Int32) : Prop := ∀ u, u < 9 → L u ≤ H u
theorem s_25 {σ : St} {L H : Nat → Int32} : Ret 25 [.ref 3] (cst σ L H) [.int (pI (¬ nem L H))] (cst σ L H) := by
  refine g_25_0 (loopE (α := Unit) 9 (fun i _ => ∀ u, u < i → L u ≤ H u) (fun i _ => Go 25 2 [.ref 3, .int (nI i)] [] (cst σ L H) [.int (pI (¬ nem L H))] (cst σ L H)) ?_ ?_ 0 () (by omega) (fun u h => by omega))
  · intro i _ hi hI
    have ei : (nI i).toNatClampNeg = i := clN (by omega)
    have lt : nI i < 9 := (nI_ltL (n := 9) rfl (by omega) (by decide)).mpr hi
    by_cases q : L i ≤ H i
    · refine Or.inr ⟨(), fun u hu => ?_, fun h => g_25_2 (br_t lt ⟨vp_in_nI hi (by decide), br_t (by rw [ei]; exact q) ?_⟩)⟩
      · by_cases e : u = i
        · subst e; exact q
        · exact hI u (by omega)
      · rw [nI_S]; exact h
    · refine Or.inl (g_25_2 (br_t lt ⟨vp_in_nI hi (by decide), br_f (by rw [ei]; exact q) ⟨?_, rfl⟩⟩))
      rw [pI_t (fun z => q (z i hi))]
  · intro _ hI
    exact g_25_2 (br_f (by decide) ⟨by rw [pI_f (fun z => z hI)], rfl⟩)
/-- what narrowing comes to: the narrowest, or nothing -/
def NarQ (Sol : (Nat → Int32) → (Nat → Int32) → Prop) (L' H' : Nat → Int32) (ans : Int32) : Prop := (ans = 1 ∧ Sol L' H' ∧ ∀ X Y, Sol X Y → ∀ u, u < 9 → L' u ≤ X u ∧ Y u ≤ H' u) ∨ (ans = 0 ∧ ∀ X Y, ¬ Sol X Y)
def SolC (a b : Nat → Nat) (c d : Nat → Int32) (k : Nat) (L H X Y : Nat → Int32) : Prop := S9 X Y ∧ (∀ u, u < 9 → L u ≤ X u ∧ Y u ≤ H u) ∧ CR a b c d k X Y
theorem s_24 {σ : St} {a b : Nat → Nat} {c d : Nat → Int32} {k : Nat} {L H : Nat → Int32} (hq : RdQ σ a b c d k) (hL : ∀ u, u < 9 → -9 ≤ L u ∧ H u ≤ 9) : ∃ r : (Nat → Int32) × (Nat → Int32) × Int32, (NarQ (SolC a b c d k L H) r.1 r.2.1 r.2.2 ∧ ∀ u, 9 ≤ u → r.1 u = L u ∧ r.2.1 u = H u) ∧ Ret 24 [.ref 3] (cst σ L H) [.int r.2.2] (cst σ r.1 r.2.1) := by
  have key := loopY (α := (Nat → Int32) × (Nat → Int32)) (β := (Nat → Int32) × (Nat → Int32) × Int32) 1000
    (fun t x => ((∀ u, L u ≤ x.1 u) ∧ (∀ u, x.2 u ≤ H u) ∧ (∀ u, 9 ≤ u → x.1 u = L u ∧ x.2 u = H u) ∧ ∀ X Y, SolC a b c d k L H X Y → ∀ u, u < 9 → x.1 u ≤ X u ∧ Y u ≤ x.2 u) ∧ (nem x.1 x.2 → ∃ q, wdN x.1 x.2 = q ∧ q + t ≤ 162))
    (fun t x r => Go 24 2 [.ref 3, .int (nI t)] [] (cst σ x.1 x.2) [.int r.2.2] (cst σ r.1 r.2.1))
    (fun r => NarQ (SolC a b c d k L H) r.1 r.2.1 r.2.2 ∧ ∀ u, 9 ≤ u → r.1 u = L u ∧ r.2.1 u = H u) ?_ ?_ 0 (L, H) (by omega) ⟨⟨fun _ => Int32.le_refl _, fun _ => Int32.le_refl _, fun _ _ => ⟨rfl, rfl⟩, fun X Y h => h.2.1⟩, fun _ => wd_c hL⟩
  · obtain ⟨r, h1, h2⟩ := key
    exact ⟨r, h1, g_24_0 h2⟩
  · rintro t ⟨L1, H1⟩ ht ⟨⟨a1, a2, a3, a4⟩, a5⟩
    have lt : nI t < 1000 := (nI_ltL (n := 1000) rfl (by omega) (by decide)).mpr ht
    by_cases ne : nem L1 H1
    · obtain ⟨⟨L2, H2, f2⟩, ⟨hI, hc⟩, hgo⟩ := s_26 (σ := σ) (Sol := SolC a b c d k L H) (L := L1) (H := H1) hq (fun u hu => ⟨Int32.le_trans (hL u hu).1 (a1 u), Int32.le_trans (a2 u) (hL u hu).2⟩) (fun X Y h => ⟨h.1, h.2.2⟩) a4
      have x25 := s_25 (σ := σ) (L := L1) (H := H1)
      rw [pI_f (fun z => z ne)] at x25
      by_cases z : f2 = 0
      · obtain ⟨_, e1, e2⟩ := hI.2.2.2.2.2.1 z
        have e1 : L2 = L1 := e1
        have e2 : H2 = H1 := e2
        have hgo : Ret 26 [.ref 3] (cst σ L1 H1) [.int f2] (cst σ L2 H2) := hgo
        rw [e1, e2] at hgo
        refine Or.inl ⟨(L1, H1, 1), ⟨Or.inl ⟨rfl, ⟨fun u hu => ⟨Int32.le_trans (hL u hu).1 (a1 u), ne u hu, Int32.le_trans (a2 u) (hL u hu).2⟩, fun u _ => ⟨a1 u, a2 u⟩, hc z⟩, a4⟩, a3⟩, g_24_2 (br_t lt ⟨_, _, x25, br_t rfl ⟨_, _, hgo, br_t z ⟨rfl, rfl⟩⟩⟩)⟩
      · refine Or.inr ⟨(L2, H2), ⟨⟨fun u => Int32.le_trans (a1 u) (hI.1 u), fun u => Int32.le_trans (hI.2.1 u) (a2 u), fun u hu => ⟨((hI.2.2.1 u hu).1).trans (a3 u hu).1, ((hI.2.2.1 u hu).2).trans (a3 u hu).2⟩, hI.2.2.2.1⟩, fun ne2 => ?_⟩, fun r hr => g_24_2 (br_t lt ⟨_, _, x25, br_t rfl ⟨_, _, hgo, br_f z ?_⟩⟩)⟩
        · obtain ⟨q, eq, hq2⟩ := a5 ne
          have eq : wdN L1 H1 = q := eq
          have hch : ∃ u, u < 9 ∧ (L1 u < L2 u ∨ H2 u < H1 u) := (hI.2.2.2.2.2.2 z).elim (fun w => absurd rfl w) id
          have hlt : wdN L2 H2 < wdN L1 H1 := wd_lt hI.1 hI.2.1 ne2 hch
          have hle : wdN L2 H2 + (t + 1) ≤ 162 := by omega
          exact ⟨_, rfl, hle⟩
        · rw [nI_S]; exact hr
    · have x25 := s_25 (σ := σ) (L := L1) (H := H1)
      rw [pI_t ne] at x25
      refine Or.inl ⟨(L1, H1, 0), ⟨Or.inr ⟨rfl, fun X Y h => ne (fun u hu => ?_)⟩, a3⟩, g_24_2 (br_t lt ⟨_, _, x25, br_f (by decide) ⟨rfl, rfl⟩⟩)⟩
      have h1 := a4 X Y h u hu
      exact Int32.le_trans h1.1 (Int32.le_trans (h.1 u hu).2.1 h1.2)
  · rintro ⟨L1, H1⟩ ⟨⟨a1, a2, a3, a4⟩, a5⟩
    have ne : ¬ nem L1 H1 := fun z => by obtain ⟨q, _, hq⟩ := a5 z; omega
    refine ⟨(L1, H1, 0), ⟨Or.inr ⟨rfl, fun X Y h => ne (fun u hu => ?_)⟩, a3⟩, g_24_2 (br_f (by decide) ⟨rfl, rfl⟩)⟩
    have h1 := a4 X Y h u hu
    exact Int32.le_trans h1.1 (Int32.le_trans (h.1 u hu).2.1 h1.2)
