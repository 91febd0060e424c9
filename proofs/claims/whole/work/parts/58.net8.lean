/-! the model's ties -/
theorem tw_le' {L : Nat → Int32} {l k : Nat} (h : l ≠ k) (q : L l ≤ L k) : tw L l k = upd (upd L l (L k)) k (L k) := by
  funext u
  by_cases e : u = k
  · subst e
    rw [upd_at]
    have h1 : rz L l (L u) l = L u := by
      rw [rz_at]
      split
      · rfl
      · rename_i n
        by_cases w : L u ≤ L l
        · exact Int32.le_antisymm q w
        · exact absurd ⟨rfl, w⟩ n
    unfold tw
    rw [h1, rz_at, rz_ne (Ne.symm h)]
    split <;> rfl
  · unfold upd
    rw [if_neg e]
    by_cases e2 : u = l
    · subst e2
      rw [if_pos rfl]
      unfold tw
      rw [rz_ne e, rz_at]
      split
      · rfl
      · rename_i n
        by_cases w : L k ≤ L u
        · exact Int32.le_antisymm q w
        · exact absurd ⟨rfl, w⟩ n
    · rw [if_neg e2, tw_ne e2 e]
theorem tw_gt' {L : Nat → Int32} {l k : Nat} (h : l ≠ k) (q : ¬ L l ≤ L k) : tw L l k = upd (upd L l (L l)) k (L l) := by
  have q' : L k ≤ L l := Int32.le_of_lt (Int32.not_le.mp q)
  have h1 : rz L l (L k) = L := if_pos q'
  unfold tw
  rw [h1, upd_self]
  exact if_neg q
theorem tv_lt' {H : Nat → Int32} {l k : Nat} (h : l ≠ k) (q : H l < H k) : tv H l k = upd (upd H l (H l)) k (H l) := by
  have h1 : lz H l (H k) = H := if_neg (Int32.not_lt.mpr (Int32.le_of_lt q))
  unfold tv
  rw [h1, upd_self]
  exact if_pos q
theorem tv_ge' {H : Nat → Int32} {l k : Nat} (h : l ≠ k) (q : ¬ H l < H k) : tv H l k = upd (upd H l (H k)) k (H k) := by
  have q' : H k ≤ H l := Int32.not_lt.mp q
  funext u
  have h1 : lz H l (H k) l = H k := by
    rw [lz_at]
    split
    · rfl
    · rename_i n
      by_cases w : H k < H l
      · exact absurd ⟨rfl, w⟩ n
      · exact Int32.le_antisymm (Int32.not_lt.mp w) q'
  by_cases e : u = k
  · subst e
    rw [upd_at]
    unfold tv
    rw [h1, lz_at, lz_ne (Ne.symm h)]
    split <;> rfl
  · unfold upd
    rw [if_neg e]
    by_cases e2 : u = l
    · subst e2
      rw [if_pos rfl]
      unfold tv
      rw [lz_ne e, h1]
    · rw [if_neg e2, tv_ne e2 e]
noncomputable def flg (L H : Nat → Int32) (l k : Nat) (m : Int32) : Int32 := pI (¬ (m = 0 ∧ L l = L k ∧ H l = H k))
theorem flg_1 {L H : Nat → Int32} {l k : Nat} {m : Int32} (h : m = 0 → L l = L k → H l = H k → False) : flg L H l k m = 1 := pI_t (fun z => h z.1 z.2.1 z.2.2)
theorem flg_0 {L H : Nat → Int32} {l k : Nat} {m : Int32} (h1 : m = 0) (h2 : L l = L k) (h3 : H l = H k) : flg L H l k m = 0 := pI_f (fun z => z ⟨h1, h2, h3⟩)
theorem s_176t {σ τ : St} {l d : Nat} (hl : l < 144) (hd : d < 10) (e1 : τ.1 74 = σ.1 74) (e2 : τ.1 75 = σ.1 75) (h1 : σ.1 74 l = nI d) (h2 : σ.1 75 l = 0) : Ret 176 [.ref 11, .int (nI l)] τ [.int 1] τ := by
  have el : (nI l).toNatClampNeg = l := clN (by omega)
  refine g_176_0 ⟨vp_in_nI hl (by decide), br_f ?_ (br_t (by rw [el, e2]; exact h2) ⟨rfl, rfl⟩)⟩
  rw [el, e1, h1]
  exact Int32.not_lt.mpr (nI0 (by omega))
theorem s_176f {σ τ : St} {l : Nat} (hl : l < 144) (e1 : τ.1 74 = σ.1 74) (e2 : τ.1 75 = σ.1 75) (h : σ.1 74 l < 0 ∨ ¬ σ.1 75 l = 0) : Ret 176 [.ref 11, .int (nI l)] τ [.int 0] τ := by
  have el : (nI l).toNatClampNeg = l := clN (by omega)
  by_cases q : σ.1 74 l < 0
  · exact g_176_0 ⟨vp_in_nI hl (by decide), br_t (by rw [el, e1]; exact q) ⟨rfl, rfl⟩⟩
  · exact g_176_0 ⟨vp_in_nI hl (by decide), br_f (by rw [el, e1]; exact q) (br_f (by rw [el, e2]; exact h.resolve_left q) ⟨rfl, rfl⟩)⟩
theorem s_183tie {σ : St} {L H : Nat → Int32} {m w : Int32} {l d : Nat} (hl : l < 144) (hd : d < 10) (h1 : σ.1 74 l = nI d) (h2 : σ.1 75 l = 0) (h3 : ¬ nI l = w) {R : List Value} {S : St}
    (hr : Go 183 87 [.ref 11, .int w, .int (flg L H l (144 + d) m), .int (nI l + 1), .null, .null, .null] [] (mst σ (tw L l (144 + d)) (tv H l (144 + d))) R S) : Go 183 87 [.ref 11, .int w, .int m, .int (nI l), .null, .null, .null] [] (mst σ L H) R S := by
  have ei : (nI l).toNatClampNeg = l := clN (by omega)
  have ed : (nI d).toNatClampNeg = d := clN (by omega)
  have lt : nI l < 144 := (nI_ltL (n := 144) rfl (by omega) (by omega)).mpr hl
  have e74 : (mst σ L H).1 74 (nI l).toNatClampNeg = nI d := by rw [ei]; exact h1
  have ne : l ≠ 144 + d := by omega
  refine g_183_87 (br_t lt ⟨_, _, s_176t (σ := σ) hl hd rfl rfl h1 h2, br_f (by decide) (br_f h3 ⟨vp_in_nI hl (by decide), ?_⟩)⟩)
  rw [e74, ei, ed, mst_88 hl, mst_89 hl, mst_90 hd, mst_91 hd]
  refine ⟨vp_in_nI hd (by decide), ?_⟩
  simp only [mst_w88 hl, mst_w89 hl, mst_w90 hd, mst_w91 hd]
  refine ⟨fun q4 => ⟨fun q5 => ?_, fun q5 => ?_⟩, fun q4 => ⟨fun q5 => ?_, fun q5 => ?_⟩⟩
  · rw [tw_le' ne q4, tv_lt' ne q5, flg_1 (fun _ _ z => absurd (z ▸ q5) Int32.lt_irrefl)] at hr
    exact ⟨fun _ => ⟨fun _ => ⟨fun _ => ⟨fun _ => hr, fun _ => hr⟩, fun _ => hr⟩, fun _ => hr⟩, fun _ => hr⟩
  · rw [tw_le' ne q4, tv_ge' ne q5] at hr
    refine ⟨fun q6 => ⟨fun q7 => ⟨fun _ => ⟨fun q9 => ?_, fun q9 => ⟨fun q10 => absurd q10 Int32.lt_irrefl, fun _ => ?_⟩⟩, fun n => absurd (Int32.le_refl _) n⟩, fun q7 => ?_⟩, fun q6 => ?_⟩
    · rw [flg_1 (fun _ _ z => absurd (z ▸ q9) Int32.lt_irrefl)] at hr; exact hr
    · rw [flg_0 q6 (Int32.le_antisymm q4 q7) (Int32.le_antisymm (Int32.not_lt.mp q9) (Int32.not_lt.mp q5))] at hr; exact hr
    · rw [flg_1 (fun _ z _ => q7 (Int32.le_of_eq z.symm))] at hr; exact hr
    · rw [flg_1 (fun z _ _ => q6 z)] at hr; exact hr
  · rw [tw_gt' ne q4, tv_lt' ne q5, flg_1 (fun _ _ z => absurd (z ▸ q5) Int32.lt_irrefl)] at hr
    exact ⟨fun _ => ⟨fun _ => hr, fun _ => hr⟩, fun _ => hr⟩
  · rw [tw_gt' ne q4, tv_ge' ne q5, flg_1 (fun _ z _ => q4 (Int32.le_of_eq z))] at hr
    exact ⟨fun _ => ⟨fun _ => hr, fun _ => hr⟩, fun _ => hr⟩
