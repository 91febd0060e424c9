/-! the model's constructor itself (written by wip/whole/mdgen.py) -/
abbrev bC_11 : ByteArray := prog_13_method_1_code
def yC_11 : MethodName := ⟨"AshLinesModel", "<init>", "()V"⟩
theorem wC_11 : Cond.code yC_11 bC_11 2 none ∈ lw_g := inG_mem (c := 967) (by decide +kernel)
def LA_11 : List SpA := [(1, 13, 970, 9, 0, 2), (2, 17, 971, 9, 0, 2), (4, 20, 973, 31, 0, 2), (5, 23, 974, 31, 0, 2), (6, 26, 975, 31, 0, 2), (7, 29, 976, 31, 0, 2), (8, 32, 977, 31, 0, 2), (10, 35, 979, 60, 0, 2), (11, 38, 980, 60, 0, 2), (12, 41, 981, 180, 0, 3), (14, 44, 983, 50, 0, 2), (16, 47, 985, 50, 0, 2), (17, 50, 986, 18, 0, 2), (18, 53, 987, 6, 0, 2), (19, 56, 988, 6, 0, 2), (20, 59, 989, 6, 0, 2), (21, 62, 990, 6, 0, 2), (22, 65, 991, 6, 0, 2), (23, 68, 992, 10, 0, 2), (24, 71, 993, 10, 0, 2), (25, 74, 994, 144, 0, 3), (26, 77, 995, 144, 0, 3), (27, 80, 996, 144, 0, 3), (28, 83, 997, 144, 1, 3), (29, 87, 998, 144, 0, 3), (30, 90, 999, 10, 0, 2), (31, 93, 1000, 60, 0, 2), (32, 96, 1001, 60, 0, 2), (33, 99, 1002, 6, 0, 2), (34, 102, 1003, 9, 0, 2), (35, 105, 1004, 9, 0, 2), (38, 108, 1007, 60, 0, 2), (39, 111, 1008, 3600, 1, 3), (40, 114, 1009, 60, 1, 2), (41, 117, 1010, 10, 0, 2), (42, 120, 1011, 144, 0, 3), (43, 123, 1012, 144, 0, 3), (44, 126, 1013, 144, 0, 3), (45, 129, 1014, 10, 0, 2), (46, 132, 1015, 10, 0, 2), (47, 135, 1016, 144, 0, 3)]
set_option maxRecDepth 100000 in
theorem oA_11 : okAs 11 bC_11 9 LA_11 = true := by decide +kernel
def st_0 : List SpS := [(1, 13, 970, 52, 2, -9), (2, 17, 971, 53, 2, 9)]
set_option maxRecDepth 100000 in
theorem oL_0 : okLp bC_11 350 9 2 378 st_0 = true := by decide +kernel
def st_1 : List SpS := [(18, 53, 987, 65, 2, -6)]
set_option maxRecDepth 100000 in
theorem oL_1 : okLp bC_11 380 6 2 400 st_1 = true := by decide +kernel
def st_2 : List SpS := [(24, 71, 993, 71, 3, 9999), (30, 90, 999, 77, 2, -6)]
set_option maxRecDepth 100000 in
theorem oL_2 : okLp bC_11 402 10 2 431 st_2 = true := by decide +kernel
def st_3 : List SpS := [(26, 77, 995, 73, 3, 9999), (27, 80, 996, 74, 2, -6), (29, 87, 998, 76, 2, -6)]
set_option maxRecDepth 100000 in
theorem oL_3 : okLp bC_11 433 144 3 471 st_3 = true := by decide +kernel
def sE : St := loopF (loopF (loopF (loopF s1 st_0 9) st_1 6) st_2 10) st_3 144
def spR (c : Nat) : Bool := Nat.beq c 52 || Nat.beq c 53 || Nat.beq c 65 || Nat.beq c 71 || Nat.beq c 73 || Nat.beq c 74 || Nat.beq c 76 || Nat.beq c 77
theorem sE_sp : [52, 53, 65, 71, 73, 74, 76, 77].all (fun c => (List.range (hk c).2).all (fun j => decide (sE.1 c j = s0.1 c j))) = true := by decide +kernel
theorem sE_ne {c j : Nat} (h : spR c = false) : sE.1 c j = s1.1 c j := by
  have h2 : ∀ k, Nat.beq c k = false → c ≠ k := fun k hk e => by rw [e] at hk; simp at hk
  simp only [spR, Bool.or_eq_false_iff] at h
  obtain ⟨⟨⟨⟨⟨⟨⟨a1, a2⟩, a3⟩, a4⟩, a5⟩, a6⟩, a7⟩, a8⟩ := h
  simp [sE, loopF, stV, st_0, st_1, st_2, st_3, h2 _ a1, h2 _ a2, h2 _ a3, h2 _ a4, h2 _ a5, h2 _ a6, h2 _ a7, h2 _ a8]
theorem s0_ne : (osN 11 52 41).all (fun c => spR c || (Nat.beq c 11 && (List.range 48).all (fun j => decide (s1.1 11 j = s0.1 11 j))) || (Nat.ble 52 c && decide (s0V c = 0))) = true := by decide +kernel
theorem sp_mem {c : Nat} (h : spR c = true) : c ∈ [52, 53, 65, 71, 73, 74, 76, 77] := by
  simp only [spR, Bool.or_eq_true] at h
  rcases h with ((((((h | h) | h) | h) | h) | h) | h) | h <;> (rw [Nat.eq_of_beq_eq_true h]; decide)
theorem sE_s0 (c : Nat) (hc : c ∈ osN 11 52 41) (j : Nat) (hj : j < (hk c).2) : sE.1 c j = s0.1 c j := by
  cases hs : spR c with
  | true => exact of_decide_eq_true (List.all_eq_true.mp (List.all_eq_true.mp sE_sp c (sp_mem hs)) j (List.mem_range.mpr hj))
  | false =>
    rw [sE_ne hs]
    have h := List.all_eq_true.mp s0_ne c hc
    rw [hs, Bool.false_or, Bool.or_eq_true] at h
    rcases h with h | h
    · rw [Bool.and_eq_true] at h
      have h1 := Nat.eq_of_beq_eq_true h.1
      subst h1
      exact of_decide_eq_true (List.all_eq_true.mp h.2 j (List.mem_range.mpr hj))
    · rw [Bool.and_eq_true] at h
      have h1 := Nat.le_of_ble_eq_true h.1
      have h3 : Nat.beq c 11 = false := by
        cases h4 : Nat.beq c 11 with
        | true => have := Nat.eq_of_beq_eq_true h4; omega
        | false => rfl
      have h5 : Nat.blt c 12 = false := by
        cases h4 : Nat.blt c 12 with
        | true => have : c < 12 := Nat.le_of_ble_eq_true h4; omega
        | false => rfl
      simp only [s1, s0, h3, h5, Bool.false_and, cond_false]
      exact (of_decide_eq_true h.2).symm
theorem d11_4 : decode bC_11 4 = .ok (.aload_n 0, 1) := by decide +kernel
theorem d11_5 : decode bC_11 5 = .ok (.iconst 1, 1) := by decide +kernel
