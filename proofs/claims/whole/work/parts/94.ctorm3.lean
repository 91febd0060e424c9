/-! the model's constructor: its world -/
theorem end_11 : endA 9 LA_11 = 348 := by decide +kernel
theorem len_11 : LA_11.length = 41 := by decide +kernel
theorem sum_11 : sumA LA_11 = 5841 := by decide +kernel
theorem nul_11 : ((nulC 11).set 0 (.int 1)).length = 48 := by decide +kernel
def ixA : List SpA → Nat → Option Nat
  | [], _ => none
  | x :: L, k => match ixA L k with
    | some i => some (i + 1)
    | none => if k = x.1 then some 0 else none
theorem ixA_lt : ∀ (L : List SpA) (k i : Nat), ixA L k = some i → i < L.length := by
  intro L
  induction L with
  | nil => intro k i h; cases h
  | cons x L ih =>
    intro k i h
    unfold ixA at h
    split at h
    · rename_i i' h'
      cases h
      have := ih k _ h'
      simp only [List.length_cons]
      omega
    · split at h
      · cases h; simp
      · cases h
theorem setA_get : ∀ (L : List SpA) (qs : List Nat) (fs : List Value) (k : Nat), qs.length = L.length → k < fs.length → (setA fs L qs)[k]? = match ixA L k with
    | some i => some (.ref (qs.getD i 0))
    | none => fs[k]? := by
  intro L
  induction L with
  | nil => intro qs fs k hl hk9; cases qs <;> rfl
  | cons x L ih =>
    intro qs fs k hl hk9
    cases qs with
    | nil => cases hl
    | cons q qs =>
      have h := ih qs (fs.set x.1 (.ref q)) k (by simpa using hl) (by rw [List.length_set]; exact hk9)
      show (setA (fs.set x.1 (.ref q)) L qs)[k]? = _
      rw [h]
      cases hix : ixA L k with
      | some i => simp [ixA, hix]
      | none =>
        simp only [ixA, hix]
        by_cases hkx : k = x.1
        · subst hkx
          rw [if_pos rfl]
          show (fs.set x.1 (.ref q))[x.1]? = some (.ref q)
          rw [List.getElem?_set, if_pos rfl, if_pos hk9]
        · rw [if_neg hkx]
          show (fs.set x.1 (.ref q))[k]? = fs[k]?
          rw [List.getElem?_set, if_neg (fun e => hkx e.symm)]
theorem setA_len : ∀ (L : List SpA) (qs : List Nat) (fs : List Value), (setA fs L qs).length = fs.length := by
  intro L
  induction L with
  | nil => intro qs fs; cases qs <;> rfl
  | cons x L ih =>
    intro qs fs
    cases qs with
    | nil => rfl
    | cons q qs =>
      show (setA (fs.set x.1 (.ref q)) L qs).length = _
      rw [ih, List.length_set]
theorem rowsA_eq (cy : Nat → ClassId) : ∀ (L : List SpA) (qs : List Nat), qs.length = L.length → rowsA cy L qs = (List.range L.length).map (fun i => (qs.getD i 0, a0T cy (L.getD i (0, 0, 0, 0, 0, 0)).2.2.2.2.1 (L.getD i (0, 0, 0, 0, 0, 0)).2.2.2.1)) := by
  intro L
  induction L with
  | nil => intro qs h; cases qs <;> rfl
  | cons x L ih =>
    intro qs h
    cases qs with
    | nil => cases h
    | cons q qs =>
      show (q, a0T cy x.2.2.2.2.1 x.2.2.2.1) :: rowsA cy L qs = _
      rw [ih qs (by simpa using h), List.length_cons, List.range_succ_eq_map, List.map_cons, List.map_map]
      rfl
theorem ent_s1 {ad : Nat → Nat} {cy : Nat → ClassId} {c : Nat} (h1 : c ≠ 11) (h2 : (hk c).1 ≤ 2) : ent ad cy s1 c = a0T cy (hk c).1 (hk c).2 := by
  have h3 : s1.1 c = fun _ => 0 := by
    funext k
    have h4 : Nat.beq c 11 = false := by
      cases h5 : Nat.beq c 11 with
      | true => exact absurd (Nat.eq_of_beq_eq_true h5) h1
      | false => rfl
    simp only [s1, h4, Bool.false_and, cond_false]
  unfold ent a0T
  rw [h3]
  split
  · rename_i q; rfl
  · split
    · rfl
    · split
      · rfl
      · omega
theorem ck_1 : (List.range 48).all (fun k => match ixA LA_11 k with
    | some i => decide (hr 11 k = some (52 + i))
    | none => decide (hr 11 k = none) && decide (((nulC 11).set 0 (.int 1))[k]? = some (.int (s1.1 11 k)))) = true := by decide +kernel
theorem ck_2 : (List.range 41).all (fun i => decide (hk (52 + i) = ((LA_11.getD i (0, 0, 0, 0, 0, 0)).2.2.2.2.1, (LA_11.getD i (0, 0, 0, 0, 0, 0)).2.2.2.1)) && Nat.ble (hk (52 + i)).1 2) = true := by decide +kernel
theorem adN_r {ad : Nat → Nat} {ci h0 c0 r i : Nat} {g : Nat → Nat} (h : i < r) (hc : c0 + i ≠ ci) : adN ad ci h0 c0 r g (c0 + i) = g i := by
  unfold adN
  have h1 : Nat.beq (c0 + i) ci = false := by
    cases h5 : Nat.beq (c0 + i) ci with
    | true => exact absurd (Nat.eq_of_beq_eq_true h5) hc
    | false => rfl
  have h2 : Nat.ble c0 (c0 + i) = true := Nat.ble_eq_true_of_le (by omega)
  have h3 : Nat.blt (c0 + i) (c0 + r) = true := Nat.ble_eq_true_of_le (by omega)
  rw [h1, h2, h3, cond_false, Bool.and_self, cond_true, Nat.add_sub_cancel_left]
theorem adN_c {ad : Nat → Nat} {ci h0 c0 r : Nat} {g : Nat → Nat} : adN ad ci h0 c0 r g ci = h0 := by
  unfold adN
  have h1 : Nat.beq ci ci = true := by simp
  rw [h1, cond_true]
theorem getD_map {g : Nat → Nat} {n i : Nat} (h : i < n) : ((List.range n).map g).getD i 0 = g i := by
  simp [h]
theorem w_11 (cy : Nat → ClassId) (ad : Nat → Nat) (h0 : Nat) (g : Nat → Nat) : (h0, .inr (11, setA ((nulC 11).set 0 (.int 1)) LA_11 ((List.range 41).map g))) :: ([] ++ rowsA cy LA_11 ((List.range 41).map g)) = subW (osN 11 52 41) (adN ad 11 h0 52 41 g) cy s1 := by
  have hq : ((List.range 41).map g).length = LA_11.length := by rw [len_11]; simp
  rw [sub_0, adN_c, rowsA_eq cy LA_11 _ hq, len_11, List.nil_append]
  have hA : setA ((nulC 11).set 0 (.int 1)) LA_11 ((List.range 41).map g) = (List.range 48).map (fv (adN ad 11 h0 52 41 g) s1 11) := by
    apply List.ext_getElem?
    intro k
    by_cases hk9 : k < 48
    · rw [setA_get LA_11 _ _ k hq (by rw [nul_11]; exact hk9), List.getElem?_map, List.getElem?_range hk9]
      have h := List.all_eq_true.mp ck_1 k (List.mem_range.mpr hk9)
      cases hix : ixA LA_11 k with
      | some i =>
        rw [hix] at h
        have hi : i < 41 := by have := ixA_lt LA_11 k i hix; rwa [len_11] at this
        show some (Value.ref (((List.range 41).map g).getD i 0)) = some (fv _ s1 11 k)
        unfold fv
        rw [of_decide_eq_true h, getD_map hi]
        show some (Value.ref (g i)) = some (Value.ref (adN ad 11 h0 52 41 g (52 + i)))
        rw [adN_r hi (by omega)]
      | none =>
        rw [hix] at h
        have h := (Bool.and_eq_true _ _).mp h
        show ((nulC 11).set 0 (.int 1))[k]? = some (fv _ s1 11 k)
        unfold fv
        rw [of_decide_eq_true h.1, of_decide_eq_true h.2]
    · rw [List.getElem?_eq_none (by rw [setA_len, nul_11]; omega), List.getElem?_eq_none (by simp; omega)]
  have hB : (List.range 41).map (fun i => (((List.range 41).map g).getD i 0, a0T cy (LA_11.getD i (0, 0, 0, 0, 0, 0)).2.2.2.2.1 (LA_11.getD i (0, 0, 0, 0, 0, 0)).2.2.2.1)) = (List.range 41).map (fun i => (adN ad 11 h0 52 41 g (52 + i), ent (adN ad 11 h0 52 41 g) cy s1 (52 + i))) := by
    apply List.map_congr_left
    intro i hi9
    have hi := List.mem_range.mp hi9
    have h := (Bool.and_eq_true _ _).mp (List.all_eq_true.mp ck_2 i hi9)
    have h1 := of_decide_eq_true h.1
    rw [getD_map hi, adN_r hi (by omega), ent_s1 (by omega) (Nat.le_of_ble_eq_true h.2), h1]
  rw [hA, hB]
