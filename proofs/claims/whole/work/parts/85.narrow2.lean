/-! leans are made narrow in the model -/
def nrs (σ : St) (L H : Nat → Int32) (f : Int32) : St := wr (setR (setR σ 52 L) 53 H) 11 36 f
theorem nrs_L {σ : St} {L H : Nat → Int32} {f g x : Int32} {k : Nat} : wr (wr (nrs σ L H f) 11 36 g) 52 k x = nrs σ (upd L k x) H g := by
  refine St_ext (fun c j => ?_) rfl
  unfold nrs
  simp only [wr_get, setR_get]
  by_cases h : c = 52
  · subst h; simp [upd]
  · by_cases h2 : c = 11 ∧ j = 36
    · simp [h2]
    · simp [h, h2]
theorem nrs_H {σ : St} {L H : Nat → Int32} {f g x : Int32} {k : Nat} : wr (wr (nrs σ L H f) 11 36 g) 53 k x = nrs σ L (upd H k x) g := by
  refine St_ext (fun c j => ?_) rfl
  unfold nrs
  simp only [wr_get, setR_get]
  by_cases h : c = 53
  · subst h; simp [upd]
  · by_cases h2 : c = 11 ∧ j = 36
    · simp [h2]
    · simp [h, h2]
theorem nrs_f {σ : St} {L H : Nat → Int32} {f g : Int32} : wr (nrs σ L H f) 11 36 g = nrs σ L H g := by
  refine St_ext (fun c j => ?_) rfl
  unfold nrs
  simp only [wr_get, setR_get]
  by_cases h2 : c = 11 ∧ j = 36
  · simp [h2]
  · simp [h2]
theorem s_127 {σ : St} {L H : Nat → Int32} {f v : Int32} {k : Nat} (hk : k < 9) (hf : f = 0 ∨ f = 1) : Ret 127 [.ref 11, .int (nI k), .int v] (nrs σ L H f) [] (nrs σ (rz L k v) H (rzm L k v f)) := by
  have ek : (nI k).toNatClampNeg = k := clN (by omega)
  have vk : vp_in (nI k) 9 := vp_in_nI hk (by decide)
  have e52 : (nrs σ L H f).1 52 k = L k := rfl
  unfold rz rzm
  rcases hf with rfl | rfl
  · refine g_127_0 (br_t rfl ⟨vk, ?_⟩)
    rw [ek, e52]
    refine ⟨fun q => ?_, fun q => ?_⟩
    · rw [if_pos q, if_pos q, nrs_L, upd_self]; exact ⟨rfl, rfl⟩
    · rw [if_neg q, if_neg q, nrs_L]; exact ⟨rfl, rfl⟩
  · refine g_127_0 (br_f (show ¬ (1 : Int32) = 0 by decide) ⟨vk, ?_⟩)
    rw [ek, e52]
    refine ⟨fun q => ?_, fun q => ?_⟩
    · rw [if_pos q, if_pos q, nrs_L, upd_self]; exact ⟨rfl, rfl⟩
    · rw [if_neg q, if_neg q, nrs_L]; exact ⟨rfl, rfl⟩
theorem s_128 {σ : St} {L H : Nat → Int32} {f v : Int32} {k : Nat} (hk : k < 9) (hf : f = 0 ∨ f = 1) : Ret 128 [.ref 11, .int (nI k), .int v] (nrs σ L H f) [] (nrs σ L (lz H k v) (lzm H k v f)) := by
  have ek : (nI k).toNatClampNeg = k := clN (by omega)
  have vk : vp_in (nI k) 9 := vp_in_nI hk (by decide)
  have e53 : (nrs σ L H f).1 53 k = H k := rfl
  unfold lz lzm
  rcases hf with rfl | rfl
  · refine g_128_0 (br_t rfl ⟨vk, ?_⟩)
    rw [ek, e53]
    refine ⟨fun q => ?_, fun q => ?_⟩
    · rw [if_pos q, if_pos q, nrs_H]; exact ⟨rfl, rfl⟩
    · rw [if_neg q, if_neg q, nrs_H, upd_self]; exact ⟨rfl, rfl⟩
  · refine g_128_0 (br_f (show ¬ (1 : Int32) = 0 by decide) ⟨vk, ?_⟩)
    rw [ek, e53]
    refine ⟨fun q => ?_, fun q => ?_⟩
    · rw [if_pos q, if_pos q, nrs_H]; exact ⟨rfl, rfl⟩
    · rw [if_neg q, if_neg q, nrs_H, upd_self]; exact ⟨rfl, rfl⟩
/-- what the p-th piece wants -/
def MCp (r55 r57 r58 : Nat → Int32) (hh oo : Nat → Nat) (X Y : Nat → Int32) (p : Nat) : Prop := (¬ 0 ≤ r55 p → r57 p - r58 p ≤ X (hh p) ∧ Y (hh p) ≤ r57 p + r58 p) ∧
  (0 ≤ r55 p → X (oo p) + r57 p - 2 * r58 p ≤ X (hh p) ∧ Y (hh p) ≤ Y (oo p) + r57 p + 2 * r58 p ∧ X (hh p) - r57 p - 2 * r58 p ≤ X (oo p) ∧ Y (oo p) ≤ Y (hh p) - r57 p + 2 * r58 p)
def PcR (σ : St) (n : Nat) (hh oo : Nat → Nat) : Prop := n ≤ 31 ∧ σ.1 11 3 = nI n ∧ ∀ p, p < n → (hh p < 9 ∧ 3 * σ.1 54 p + σ.1 56 p = nI (hh p)) ∧ (0 ≤ σ.1 55 p → oo p < 9 ∧ 3 * σ.1 55 p + σ.1 56 p = nI (oo p)) ∧ (-99 ≤ σ.1 57 p ∧ σ.1 57 p ≤ 99) ∧ (0 ≤ σ.1 58 p ∧ σ.1 58 p ≤ 3)
def SolM (σ : St) (n : Nat) (hh oo : Nat → Nat) (L H X Y : Nat → Int32) : Prop := S9 X Y ∧ (∀ u, u < 9 → L u ≤ X u ∧ Y u ≤ H u) ∧ ∀ p, p < n → MCp (σ.1 55) (σ.1 57) (σ.1 58) hh oo X Y p
theorem ow1 {l x o b r : Int32} (h1 : -9 ≤ l) (h2 : l ≤ x) (h3 : x ≤ 9) (h4 : -99 ≤ b ∧ b ≤ 99) (h6 : 0 ≤ r ∧ r ≤ 3) (h5 : x + b - 2 * r ≤ o) : l + b - 2 * r ≤ o := by grind
theorem ow2 {h y o b r : Int32} (h1 : h ≤ 9) (h2 : y ≤ h) (h3 : -9 ≤ y) (h4 : -99 ≤ b ∧ b ≤ 99) (h6 : 0 ≤ r ∧ r ≤ 3) (h5 : o ≤ y + b + 2 * r) : o ≤ h + b + 2 * r := by grind
theorem ow3 {l x o b r : Int32} (h1 : -9 ≤ l) (h2 : l ≤ x) (h3 : x ≤ 9) (h4 : -99 ≤ b ∧ b ≤ 99) (h6 : 0 ≤ r ∧ r ≤ 3) (h5 : x - b - 2 * r ≤ o) : l - b - 2 * r ≤ o := by grind
theorem ow4 {h y o b r : Int32} (h1 : h ≤ 9) (h2 : y ≤ h) (h3 : -9 ≤ y) (h4 : -99 ≤ b ∧ b ≤ 99) (h6 : 0 ≤ r ∧ r ≤ 3) (h5 : o ≤ y - b + 2 * r) : o ≤ h - b + 2 * r := by grind
theorem mpass {σ : St} {Sol : (Nat → Int32) → (Nat → Int32) → Prop} {n : Nat} {hh oo : Nat → Nat} {L H : Nat → Int32} (v1 : Int32) (hq : PcR σ n hh oo) (hL : ∀ u, u < 9 → -9 ≤ L u ∧ H u ≤ 9) (hS9 : ∀ X Y, Sol X Y → S9 X Y ∧ ∀ p, p < n → MCp (σ.1 55) (σ.1 57) (σ.1 58) hh oo X Y p) (hS : ∀ X Y, Sol X Y → ∀ u, u < 9 → L u ≤ X u ∧ Y u ≤ H u) :
    ∃ r : (Nat → Int32) × (Nat → Int32) × Int32, (NrI Sol L H 0 r.1 r.2.1 r.2.2 ∧ (r.2.2 = 0 → ∀ p, p < n → MCp (σ.1 55) (σ.1 57) (σ.1 58) hh oo L H p)) ∧ ∀ R S, Go 129 202 [.ref 11, .int v1, .int 0, .null, .null, .null, .null] [] (nrs σ r.1 r.2.1 r.2.2) R S → Go 129 25 [.ref 11, .int v1, .int 0, .null, .null, .null, .null] [] (nrs σ L H 0) R S := by
  obtain ⟨hn, e113, hrow⟩ := hq
  refine loopX (α := (Nat → Int32) × (Nat → Int32) × Int32) (β := (Nat → Int32) × (Nat → Int32) × Int32) n
    (fun p x => NrI Sol L H 0 x.1 x.2.1 x.2.2 ∧ (x.2.2 = 0 → ∀ q, q < p → MCp (σ.1 55) (σ.1 57) (σ.1 58) hh oo L H q))
    (fun p x r => ∀ R S, Go 129 202 [.ref 11, .int v1, .int 0, .null, .null, .null, .null] [] (nrs σ r.1 r.2.1 r.2.2) R S → Go 129 25 [.ref 11, .int v1, .int (nI p), .null, .null, .null, .null] [] (nrs σ x.1 x.2.1 x.2.2) R S)
    (fun r => NrI Sol L H 0 r.1 r.2.1 r.2.2 ∧ (r.2.2 = 0 → ∀ p, p < n → MCp (σ.1 55) (σ.1 57) (σ.1 58) hh oo L H p)) ?_ ?_ 0 (L, H, 0) (by omega) ⟨NrI.rf (Or.inl rfl) hS, fun _ q h => by omega⟩
  · rintro p ⟨L1, H1, f1⟩ hp ⟨hI, hc⟩
    obtain ⟨⟨h9, eh⟩, ho, hby, hfar⟩ := hrow p hp
    have ep : (nI p).toNatClampNeg = p := clN (by omega)
    have ehc : (nI (hh p)).toNatClampNeg = hh p := clN (by omega)
    have hf1 := hI.2.2.2.2.1
    have lt : nI p < (nrs σ L1 H1 f1).1 11 3 := by show nI p < σ.1 11 3; rw [e113]; exact (nI_ltI (by omega) (by omega)).mpr hp
    have vp : vp_in (nI p) 31 := vp_in_nI (by omega) (by decide)
    have g54 : (3 : Int32) * (nrs σ L1 H1 f1).1 54 (nI p).toNatClampNeg + (nrs σ L1 H1 f1).1 56 (nI p).toNatClampNeg = nI (hh p) := by rw [ep]; exact eh
    have g55 : (nrs σ L1 H1 f1).1 55 (nI p).toNatClampNeg = σ.1 55 p := by rw [ep]; rfl
    have g57 : (nrs σ L1 H1 f1).1 57 (nI p).toNatClampNeg = σ.1 57 p := by rw [ep]; rfl
    have g58 : (nrs σ L1 H1 f1).1 58 (nI p).toNatClampNeg = σ.1 58 p := by rw [ep]; rfl
    have b9 : ∀ L1 H1 f1, NrI Sol L H 0 L1 H1 f1 → ∀ u, u < 9 → -9 ≤ L1 u ∧ H1 u ≤ 9 := fun L1 H1 f1 h u hu => ⟨Int32.le_trans (hL u hu).1 (h.1 u), Int32.le_trans (h.2.1 u) (hL u hu).2⟩
    by_cases q : 0 ≤ σ.1 55 p
    · obtain ⟨o9, eo⟩ := ho q
      have eoc : (nI (oo p)).toNatClampNeg = oo p := clN (by omega)
      have go55 : (3 : Int32) * (nrs σ L1 H1 f1).1 55 (nI p).toNatClampNeg + (nrs σ L1 H1 f1).1 56 (nI p).toNatClampNeg = nI (oo p) := by rw [ep]; exact eo
      have k1 := hI.up (k := hh p) (v := L1 (oo p) + σ.1 57 p - 2 * σ.1 58 p) h9 (fun X Y hXY => by
        obtain ⟨s9, cr⟩ := hS9 X Y hXY
        exact ow1 (b9 _ _ _ hI _ o9).1 (hI.2.2.2.1 X Y hXY _ o9).1 (Int32.le_trans (s9 _ o9).2.1 (s9 _ o9).2.2) hby hfar ((cr p hp).2 q).1)
      have k2 := k1.dn (k := hh p) (v := H1 (oo p) + σ.1 57 p + 2 * σ.1 58 p) h9 (fun X Y hXY => by
        obtain ⟨s9, cr⟩ := hS9 X Y hXY
        exact ow2 (b9 _ _ _ hI _ o9).2 (hI.2.2.2.1 X Y hXY _ o9).2 (Int32.le_trans (s9 _ o9).1 (s9 _ o9).2.1) hby hfar ((cr p hp).2 q).2.1)
      have k3 := k2.up (k := oo p) (v := rz L1 (hh p) (L1 (oo p) + σ.1 57 p - 2 * σ.1 58 p) (hh p) - σ.1 57 p - 2 * σ.1 58 p) o9 (fun X Y hXY => by
        obtain ⟨s9, cr⟩ := hS9 X Y hXY
        exact ow3 (b9 _ _ _ k2 _ h9).1 (k2.2.2.2.1 X Y hXY _ h9).1 (Int32.le_trans (s9 _ h9).2.1 (s9 _ h9).2.2) hby hfar ((cr p hp).2 q).2.2.1)
      have k4 := k3.dn (k := oo p) (v := lz H1 (hh p) (H1 (oo p) + σ.1 57 p + 2 * σ.1 58 p) (hh p) - σ.1 57 p + 2 * σ.1 58 p) o9 (fun X Y hXY => by
        obtain ⟨s9, cr⟩ := hS9 X Y hXY
        exact ow4 (b9 _ _ _ k3 _ h9).2 (k3.2.2.2.1 X Y hXY _ h9).2 (Int32.le_trans (s9 _ h9).1 (s9 _ h9).2.1) hby hfar ((cr p hp).2 q).2.2.2)
      refine ⟨(_, _, _), ⟨k4, fun hz => ?_⟩, fun r hr R S hRS => ?_⟩
      · have v4 := lzm_v hz
        obtain ⟨z3, _⟩ := lzm_0 hz
        have v3 := rzm_v z3
        obtain ⟨z2, _⟩ := rzm_0 z3
        have v2 := lzm_v z2
        obtain ⟨z1, w2⟩ := lzm_0 z2
        have v1 := rzm_v z1
        obtain ⟨z0, w1⟩ := rzm_0 z1
        obtain ⟨_, eL, eH⟩ := hI.2.2.2.2.2.1 z0
        have eL : L1 = L := eL
        have eH : H1 = H := eH
        rw [w1, eL] at v3
        rw [w2, eH] at v4
        rw [eL] at v1
        rw [eH] at v2
        intro i hi
        by_cases e : i = p
        · subst e; exact ⟨fun z => absurd q z, fun _ => ⟨v1, v2, v3, v4⟩⟩
        · exact hc z0 i (by omega)
      · refine g_129_25 (br_t lt ⟨vp, ?_⟩)
        rw [g54, go55, g55, g57, g58, ehc, eoc, nI_S]
        refine br_f (Int32.not_lt.mpr q) ⟨vp_in_nI o9 (by decide), _, s_127 h9 hf1, _, s_128 h9 (rzm_01 hf1), vp_in_nI h9 (by decide), _, s_127 o9 (lzm_01 (rzm_01 hf1)), _, s_128 o9 (rzm_01 (lzm_01 (rzm_01 hf1))), ?_⟩
        exact hr R S hRS
    · have k1 := hI.up (k := hh p) (v := σ.1 57 p - σ.1 58 p) h9 (fun X Y hXY => (((hS9 X Y hXY).2 p hp).1 q).1)
      have k2 := k1.dn (k := hh p) (v := σ.1 57 p + σ.1 58 p) h9 (fun X Y hXY => (((hS9 X Y hXY).2 p hp).1 q).2)
      refine ⟨(_, _, _), ⟨k2, fun hz => ?_⟩, fun r hr R S hRS => ?_⟩
      · have v2 := lzm_v hz
        obtain ⟨z1, w2⟩ := lzm_0 hz
        have v1 := rzm_v z1
        obtain ⟨z0, w1⟩ := rzm_0 z1
        obtain ⟨_, eL, eH⟩ := hI.2.2.2.2.2.1 z0
        have eL : L1 = L := eL
        have eH : H1 = H := eH
        rw [eL] at v1
        rw [eH] at v2
        intro i hi
        by_cases e : i = p
        · subst e; exact ⟨fun _ => ⟨v1, v2⟩, fun z => absurd z q⟩
        · exact hc z0 i (by omega)
      · refine g_129_25 (br_t lt ⟨vp, ?_⟩)
        rw [g54, g55, g57, g58, nI_S]
        exact br_t (Int32.not_le.mp q) ⟨_, s_127 h9 hf1, _, s_128 h9 (rzm_01 hf1), hr R S hRS⟩
  · rintro ⟨L1, H1, f1⟩ ⟨hI, hc⟩
    exact ⟨(L1, H1, f1), ⟨hI, hc⟩, fun R S h => g_129_25 (br_f (by show ¬ nI n < σ.1 11 3; rw [e113]; exact Int32.lt_irrefl) h)⟩
theorem mleft {σ : St} {L H : Nat → Int32} {f : Int32} {R : List Value} {S : St} (h : Go 129 7 [.ref 11, .int (pI (nem L H)), .null, .null, .null, .null, .null] [] (nrs σ L H f) R S) : Go 129 202 [.ref 11, .int 1, .int 0, .null, .null, .null, .null] [] (nrs σ L H f) R S := by
  have go : ∀ i, i ≤ 9 → Go 129 202 [.ref 11, .int (pI (∀ u, u < i → L u ≤ H u)), .int (nI i), .null, .null, .null, .null] [] (nrs σ L H f) R S := by
    refine loopN 9 _ (fun i hi h => ?_) (g_129_202 (br_f (by decide) h))
    have ei : (nI i).toNatClampNeg = i := clN (by omega)
    have lt : nI i < 9 := (nI_ltL (n := 9) rfl (by omega) (by decide)).mpr hi
    refine g_129_202 (br_t lt ?_)
    rw [nI_S, ei]
    by_cases q : ∀ u, u < i → L u ≤ H u
    · refine br_f (by rw [pI_t q]; decide) ⟨vp_in_nI hi (by decide), ?_⟩
      by_cases p : L i ≤ H i
      · rw [pI_t (show ∀ u, u < i + 1 → L u ≤ H u from fun u hu => by
          by_cases e : u = i
          · subst e; exact p
          · exact q u (by omega))] at h
        exact br_t p h
      · rw [pI_f (fun z => p (z i (by omega)))] at h
        exact br_f p h
    · rw [pI_f (fun z => q (fun u hu => z u (by omega)))] at h
      exact br_t (pI_f q) h
  have := go 0 (by omega)
  rw [pI_t (fun u hu => by omega)] at this
  exact this
theorem s_129 {σ : St} {n : Nat} {hh oo : Nat → Nat} {L H : Nat → Int32} {f : Int32} (hq : PcR σ n hh oo) (hL : ∀ u, u < 9 → -9 ≤ L u ∧ H u ≤ 9) (hne : nem L H) : ∃ r : (Nat → Int32) × (Nat → Int32) × Int32 × Int32, (NarQ (SolM σ n hh oo L H) r.1 r.2.1 r.2.2.1) ∧ Ret 129 [.ref 11] (nrs σ L H f) [.int r.2.2.1] (nrs σ r.1 r.2.1 r.2.2.2) := by
  have main : ∀ m L1 H1 f1, wdN L1 H1 < m → ¬ f1 = 0 → nem L1 H1 → (∀ u, L u ≤ L1 u) → (∀ u, H1 u ≤ H u) → (∀ X Y, SolM σ n hh oo L H X Y → ∀ u, u < 9 → L1 u ≤ X u ∧ Y u ≤ H1 u) → ∃ r : (Nat → Int32) × (Nat → Int32) × Int32 × Int32, (NarQ (SolM σ n hh oo L H) r.1 r.2.1 r.2.2.1) ∧ Go 129 7 [.ref 11, .int 1, .null, .null, .null, .null, .null] [] (nrs σ L1 H1 f1) [.int r.2.2.1] (nrs σ r.1 r.2.1 r.2.2.2) := by
    intro m
    induction m with
    | zero => intro L1 H1 f1 h; exact absurd h (Nat.not_lt_zero _)
    | succ m ih =>
      intro L1 H1 f1 hm hf hne a1 a2 a4
      obtain ⟨⟨L2, H2, f2⟩, ⟨hI, hc⟩, hgo⟩ := mpass (σ := σ) (Sol := SolM σ n hh oo L H) (L := L1) (H := H1) 1 hq (fun u hu => ⟨Int32.le_trans (hL u hu).1 (a1 u), Int32.le_trans (a2 u) (hL u hu).2⟩) (fun X Y h => ⟨h.1, h.2.2⟩) a4
      have start : ∀ R S, Go 129 7 [.ref 11, .int (pI (nem L2 H2)), .null, .null, .null, .null, .null] [] (nrs σ L2 H2 f2) R S → Go 129 7 [.ref 11, .int 1, .null, .null, .null, .null, .null] [] (nrs σ L1 H1 f1) R S := by
        intro R S h
        refine g_129_7 (br_f hf (br_f (by decide) ?_))
        rw [nrs_f]
        exact hgo R S (mleft h)
      by_cases ne : nem L2 H2
      · rw [pI_t ne] at start
        by_cases z : f2 = 0
        · obtain ⟨_, e1, e2⟩ := hI.2.2.2.2.2.1 z
          have e1 : L2 = L1 := e1
          have e2 : H2 = H1 := e2
          refine ⟨(L1, H1, 1, f2), Or.inl ⟨rfl, ⟨fun u hu => ⟨Int32.le_trans (hL u hu).1 (a1 u), hne u hu, Int32.le_trans (a2 u) (hL u hu).2⟩, fun u _ => ⟨a1 u, a2 u⟩, hc z⟩, a4⟩, start _ _ ?_⟩
          rw [e1, e2]
          exact g_129_7 (br_t z ⟨Or.inr rfl, rfl, rfl⟩)
        · have hch : ∃ u, u < 9 ∧ (L1 u < L2 u ∨ H2 u < H1 u) := (hI.2.2.2.2.2.2 z).elim (fun w => absurd rfl w) id
          have hlt : wdN L2 H2 < wdN L1 H1 := wd_lt hI.1 hI.2.1 ne hch
          obtain ⟨r, h1, h2⟩ := ih L2 H2 f2 (Nat.lt_of_lt_of_le hlt (Nat.le_of_lt_succ hm)) z ne (fun u => Int32.le_trans (a1 u) (hI.1 u)) (fun u => Int32.le_trans (hI.2.1 u) (a2 u)) hI.2.2.2.1
          exact ⟨r, h1, start _ _ h2⟩
      · rw [pI_f ne] at start
        refine ⟨(L2, H2, 0, f2), Or.inr ⟨rfl, fun X Y h => ne (fun u hu => ?_)⟩, start _ _ ?_⟩
        · have h1 := hI.2.2.2.1 X Y h u hu
          exact Int32.le_trans h1.1 (Int32.le_trans (h.1 u hu).2.1 h1.2)
        · by_cases z : f2 = 0
          · exact g_129_7 (br_t z ⟨Or.inl rfl, rfl, rfl⟩)
          · exact g_129_7 (br_f z (br_t rfl ⟨Or.inl rfl, rfl, rfl⟩))
  obtain ⟨r, h1, h2⟩ := main _ L H 1 (Nat.lt_succ_self _) (by decide) hne (fun _ => Int32.le_refl _) (fun _ => Int32.le_refl _) (fun X Y h => h.2.1)
  refine ⟨r, h1, g_129_0 ?_⟩
  rw [nrs_f]
  exact h2
theorem nar_both {S1 S2 : (Nat → Int32) → (Nat → Int32) → Prop} {L1 H1 L2 H2 : Nat → Int32} {a1 a2 : Int32} (h : NarQ S1 L1 H1 a1) (k : NarQ S2 L2 H2 a2) (e : ∀ X Y, S1 X Y ↔ S2 X Y) : (a1 = 1 ∧ a2 = 1 ∧ S1 L1 H1 ∧ S2 L2 H2 ∧ ∀ u, u < 9 → L1 u = L2 u ∧ H1 u = H2 u) ∨ (a1 = 0 ∧ a2 = 0) := by
  rcases h with ⟨h1, h2, h3⟩ | ⟨h1, h2⟩
  · rcases k with ⟨k1, k2, k3⟩ | ⟨k1, k2⟩
    · refine Or.inl ⟨h1, k1, h2, k2, fun u hu => ⟨?_, ?_⟩⟩
      · exact Int32.le_antisymm (h3 L2 H2 ((e _ _).mpr k2) u hu).1 (k3 L1 H1 ((e _ _).mp h2) u hu).1
      · exact Int32.le_antisymm (k3 L1 H1 ((e _ _).mp h2) u hu).2 (h3 L2 H2 ((e _ _).mpr k2) u hu).2
    · exact absurd ((e _ _).mp h2) (k2 L1 H1)
  · rcases k with ⟨k1, k2, k3⟩ | ⟨k1, k2⟩
    · exact absurd ((e _ _).mpr k2) (h2 L2 H2)
    · exact Or.inr ⟨h1, k1⟩
/-! add: what is kept, what is put back -/
def kpm (σ : St) (i : Nat) : St := setR (setR σ 81 (cpj (σ.1 52) (σ.1 81) i)) 82 (cpj (σ.1 53) (σ.1 82) i)
theorem kpm_S {σ : St} {j : Nat} : wr (wr (kpm σ j) 81 j (σ.1 52 j)) 82 j (σ.1 53 j) = kpm σ (j + 1) := by
  refine St_ext (fun c u => ?_) rfl
  unfold kpm
  rw [wr_get, wr_get]
  simp only [setR_get]
  by_cases h : c = 81
  · subst h; simp [cpj_S]
  · by_cases h2 : c = 82
    · subst h2; simp [cpj_S]
    · simp [h, h2]
theorem kpm_0 {σ : St} : kpm σ 0 = σ := by
  refine St_ext (fun c u => ?_) rfl
  unfold kpm
  simp only [setR_get]
  by_cases h : c = 82
  · subst h; simp [cpj]
  · by_cases h2 : c = 81
    · subst h2; simp [cpj]
    · simp [h, h2]
def spm (σ : St) (n : Nat) (h o s b : Int32) : St := wr (wr (wr (wr (wr (wr (kpm σ 9) 54 n h) 55 n o) 56 n s) 57 n b) 58 n (σ.1 11 0)) 11 3 (nI (n + 1))
def bkm (τ : St) (i : Nat) : St := setR (setR τ 52 (cpj (τ.1 81) (τ.1 52) i)) 53 (cpj (τ.1 82) (τ.1 53) i)
theorem bkm_S {σ : St} {j : Nat} : wr (wr (bkm σ j) 52 j (σ.1 81 j)) 53 j (σ.1 82 j) = bkm σ (j + 1) := by
  refine St_ext (fun c u => ?_) rfl
  unfold bkm
  rw [wr_get, wr_get]
  simp only [setR_get]
  by_cases h : c = 52
  · subst h; simp [cpj_S]
  · by_cases h2 : c = 53
    · subst h2; simp [cpj_S]
    · simp [h, h2]
theorem bkm_0 {σ : St} : bkm σ 0 = σ := by
  refine St_ext (fun c u => ?_) rfl
  unfold bkm
  simp only [setR_get]
  by_cases h : c = 53
  · subst h; simp [cpj]
  · by_cases h2 : c = 52
    · subst h2; simp [cpj]
    · simp [h, h2]
theorem nrs_self {σ : St} : nrs σ (σ.1 52) (σ.1 53) (σ.1 11 36) = σ := by
  unfold nrs
  rw [setR_self, setR_self]
  refine St_ext (fun c j => ?_) rfl
  rw [wr_get]
  split
  · rename_i h; rw [h.1, h.2]
  · rfl
theorem s_130 {σ : St} {n : Nat} {hh oo : Nat → Nat} {h o s b : Int32} (hn : n < 30) (e3 : σ.1 11 3 = nI n) (hq : PcR (spm σ n h o s b) (n + 1) hh oo) (hL : ∀ u, u < 9 → -9 ≤ σ.1 52 u ∧ σ.1 53 u ≤ 9) (hne : nem (σ.1 52) (σ.1 53)) : ∃ (L' H' : Nat → Int32) (a f : Int32), NarQ (SolM (spm σ n h o s b) (n + 1) hh oo (σ.1 52) (σ.1 53)) L' H' a ∧
    (a = 1 → Ret 130 [.ref 11, .int h, .int o, .int s, .int b] σ [.int (nI (n + 1))] (nrs (spm σ n h o s b) L' H' f)) ∧ (a = 0 → Ret 130 [.ref 11, .int h, .int o, .int s, .int b] σ [.int (-5)] (bkm (wr (nrs (spm σ n h o s b) L' H' f) 11 3 (nI n)) 9)) := by
  obtain ⟨⟨L', H', a, f⟩, hN, hgo⟩ := s_129 (σ := spm σ n h o s b) (f := (spm σ n h o s b).1 11 36) hq hL hne
  have hgo : Ret 129 [.ref 11] (nrs (spm σ n h o s b) (σ.1 52) (σ.1 53) ((spm σ n h o s b).1 11 36)) [.int a] (nrs (spm σ n h o s b) L' H' f) := hgo
  have e0 : nrs (spm σ n h o s b) (σ.1 52) (σ.1 53) ((spm σ n h o s b).1 11 36) = spm σ n h o s b := nrs_self (σ := spm σ n h o s b)
  rw [e0] at hgo
  have n30 : ¬ σ.1 11 3 = 30 := by
    rw [e3]
    exact nI_ne (b := 30) (by omega) (by decide) (by omega)
  have pre : ∀ R S, ((a = 0 → Go 130 145 [.ref 11, .null, .null, .null, .null, .int 0] [] (wr (nrs (spm σ n h o s b) L' H' f) 11 3 (nI n)) R S) ∧ (¬ a = 0 → (R = [.int (nI (n + 1))] ∧ S = nrs (spm σ n h o s b) L' H' f))) → Ret 130 [.ref 11, .int h, .int o, .int s, .int b] σ R S := by
    intro R S hk
    refine g_130_0 (br_f n30 ?_)
    have key := loopN 9 (fun i => Go 130 15 [.ref 11, .int h, .int o, .int s, .int b, .int (nI i)] [] (kpm σ i) R S) (fun i hi hx => ?_) ?_ 0 (by omega)
    · rw [kpm_0] at key; exact key
    · have ei : (nI i).toNatClampNeg = i := clN (by omega)
      refine g_130_15 (br_t ((nI_ltL (n := 9) rfl (by omega) (by decide)).mpr hi) ⟨vp_in_nI hi (by decide), ?_⟩)
      rw [ei, nI_S]
      have e := kpm_S (σ := σ) (j := i)
      rw [← e] at hx
      exact hx
    · have f3 : (kpm σ 9).1 11 3 = nI n := e3
      have en : (nI n).toNatClampNeg = n := clN (by omega)
      refine g_130_15 (br_f (by decide) ?_)
      rw [f3, en, nI_S]
      refine ⟨vp_in_nI (by omega) (by decide), _, _, hgo, ?_⟩
      have g3 : (nrs (spm σ n h o s b) L' H' f).1 11 3 = nI (n + 1) := rfl
      rw [g3, show nI (n + 1) - 1 = nI n by rw [← nI_S]; grind]
      exact hk
  refine ⟨L', H', a, f, hN, fun ha => pre _ _ ⟨fun z => absurd (z.symm.trans ha) (by decide), fun _ => ⟨rfl, rfl⟩⟩, fun ha => pre _ _ ⟨fun _ => ?_, fun z => absurd ha z⟩⟩
  generalize wr (nrs (spm σ n h o s b) L' H' f) 11 3 (nI n) = τ
  have key := loopN 9 (fun i => Go 130 145 [.ref 11, .null, .null, .null, .null, .int (nI i)] [] (bkm τ i) [.int (-5)] (bkm τ 9)) (fun i hi hx => ?_) (g_130_145 (br_f (by decide) ⟨rfl, rfl⟩)) 0 (by omega)
  · rw [bkm_0] at key; exact key
  · have ei : (nI i).toNatClampNeg = i := clN (by omega)
    refine g_130_145 (br_t ((nI_ltL (n := 9) rfl (by omega) (by decide)).mpr hi) ⟨vp_in_nI hi (by decide), ?_⟩)
    rw [ei, nI_S]
    have e := bkm_S (σ := τ) (j := i)
    rw [← e] at hx
    exact hx
