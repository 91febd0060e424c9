/-! the fields of each kind of object: their words, their types, their names apart -/
def fPL : List (List Nat) := [[239, 241, 243, 245, 247, 249], [356, 358, 360, 362, 364], [304, 306, 308, 310], [114, 116, 118, 120, 122, 124, 126, 128, 130, 132, 134], [163, 165, 167, 169, 171, 173, 175, 177, 179, 181], [329, 331, 333, 335, 337, 339], [275, 277, 279, 281, 283, 285, 287, 289, 291], [394, 396], [377, 379, 381, 383], [208, 210, 212, 214, 216, 218], [409, 411, 413, 415, 417, 419, 421, 423, 425, 427], [1017, 1019, 1021, 1023, 1025, 1027, 1029, 1031, 1033, 1035, 1037, 1039, 1041, 1043, 1045, 1047, 1049, 1051, 1053, 1055, 1057, 1059, 1061, 1063, 1065, 1067, 1069, 1071, 1073, 1075, 1077, 1079, 1081, 1083, 1085, 1087, 1089, 1091, 1093, 1095, 1097, 1099, 1101, 1103, 1105, 1107, 1109, 1111]]
def okF (c : Nat) : Bool := (List.range (nF c)).all (fun k => inG ((fPL.getD c []).getD k 0) (u_lay (RC c) (TW c) k) && decide (parseFieldDescriptor (TW c k).2.2.1 = some (tyF c k)) && (List.range (nF c)).all (fun j => Nat.beq j k || decide ((TW c j).2.1 ≠ (TW c k).2.1)) && decide (hk c = (3, nF c)))
set_option maxRecDepth 100000 in
theorem okF_all : (List.range 12).all okF = true := by decide +kernel
theorem okF_k {c k : Nat} (hc : c < 12) (hq : k < nF c) : u_lay (RC c) (TW c) k ∈ lw_g ∧ parseFieldDescriptor (TW c k).2.2.1 = some (tyF c k) ∧ (∀ j, j < nF c → j ≠ k → (TW c j).2.1 ≠ (TW c k).2.1) ∧ hk c = (3, nF c) := by
  have h1 := List.all_eq_true.mp (List.all_eq_true.mp okF_all c (List.mem_range.mpr hc)) k (List.mem_range.mpr hq)
  simp only [Bool.and_eq_true, decide_eq_true_iff] at h1
  refine ⟨inG_mem h1.1.1.1, h1.1.1.2, fun j hj hn => ?_, h1.2⟩
  have h2 := List.all_eq_true.mp h1.1.2 j (List.mem_range.mpr hj)
  rcases Bool.or_eq_true _ _ |>.mp h2 with h3 | h3
  · exact absurd (Nat.eq_of_beq_eq_true h3) hn
  · exact of_decide_eq_true h3
theorem u_inW {c : Nat} (hc : c < 12) : ∀ w ∈ u_ws (RC c) (TW c) (nF c), w ∈ lw_g := by
  intro w hw
  obtain ⟨k, hk, rfl⟩ := List.mem_map.mp hw
  exact (okF_k hc (List.mem_range.mp hk)).1
theorem okW_z {z : Nat} (h : z < 212) : Cond.code (mN z) (mB z) (mL z) (mR z) ∈ lw_g := by
  have h1 := congrArg (fun l => l[z]?) okW_all
  simp only [List.getElem?_map, List.getElem?_range h, Option.map_some, Option.some.injEq] at h1
  exact List.mem_filter.mpr ⟨List.mem_of_getElem? h1, rfl⟩
theorem lk_mem {l : List (Nat × En)} {pc : Nat} {e : En} (h : lk l pc = some e) : (pc, e) ∈ l := by
  induction l with
  | nil => exact absurd h (by simp [lk])
  | cons x r ih =>
    obtain ⟨q, e'⟩ := x
    simp only [lk, cond_eq_ite] at h
    split at h
    · rename_i hq
      have := Nat.eq_of_beq_eq_true hq
      cases h
      subst this
      exact List.mem_cons_self
    · exact List.mem_cons_of_mem _ (ih h)
theorem codeOf_ok {y pc : Nat} {e : En} (h : codeOf y pc = some e) (hy : y < 212) : okE y pc e = true := by
  have h1 := okK_all hy
  unfold okK at h1
  exact List.all_eq_true.mp h1 (pc, e) (lk_mem h)
