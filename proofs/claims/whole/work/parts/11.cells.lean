/-! THE CELLS of the heap, as the abstract machine has them. -/
def cv (ad : Nat → Nat) : Value → Value
  | .ref i => .ref (ad i)
  | v => v
def fv (ad : Nat → Nat) (σ : St) (i k : Nat) : Value := match hr i k with
  | some j => .ref (ad j)
  | none => .int (σ.1 i k)
def ent (ad : Nat → Nat) (cy : Nat → ClassId) (σ : St) (i : Nat) : va_E :=
  if (hk i).1 = 0 then .inl (cy 0, (hk i).2, .inl (σ.1 i)) else
  if (hk i).1 = 1 then .inl (cy 1, (hk i).2, .inl (σ.1 i)) else
  if (hk i).1 = 2 then .inl (cy 2, (hk i).2, .inr (.inl σ.2)) else
  .inr (i, (List.range (hk i).2).map (fv ad σ i))
def wsW (ad : Nat → Nat) (cy : Nat → ClassId) (σ : St) : va_W := (List.range 93).map fun i => (ad i, ent ad cy σ i)
def tyW (cy : Nat → ClassId) : List (ClassId × FieldType) := [(cy 0, .int), (cy 1, .boolean), (cy 2, .long)]
def adA (ad : Nat → Nat) : Nat → Prop := fun q => ∃ i, i < 93 ∧ q = ad i
def injW (ad : Nat → Nat) : Prop := ∀ i j, i < 93 → j < 93 → ad i = ad j → i = j
theorem wsW_get {ad : Nat → Nat} {cy : Nat → ClassId} {σ : St} {i : Nat} (h : i < 93) : (wsW ad cy σ)[i]? = some (ad i, ent ad cy σ i) := by
  simp [wsW, h]
theorem wsW_set {ad : Nat → Nat} {cy : Nat → ClassId} {σ σ' : St} {i : Nat} (hs : ∀ j, j ≠ i → ent ad cy σ' j = ent ad cy σ j) : (wsW ad cy σ).set i (ad i, ent ad cy σ' i) = wsW ad cy σ' := by
  apply List.ext_getElem?
  intro j
  rw [List.getElem?_set]
  by_cases hj : i = j
  · subst hj
    by_cases h : i < 93
    · rw [if_pos rfl, if_pos (by simpa [wsW] using h), wsW_get h]
    · rw [if_pos rfl, if_neg (by simpa [wsW] using h)]
      simp [wsW, h]
  · rw [if_neg hj]
    by_cases h : j < 93
    · rw [wsW_get h, wsW_get h, hs j (Ne.symm hj)]
    · simp [wsW, h]
theorem vaD_wsW {ad : Nat → Nat} {cy : Nat → ClassId} (hi : injW ad) (σ : St) : va_D (adA ad) (wsW ad cy σ) := by
  have key : ∀ (k : Nat) (q : Nat × va_E), (wsW ad cy σ)[k]? = some q → k < 93 ∧ q.1 = ad k := by
    intro k q h
    by_cases hk : k < 93
    · rw [wsW_get hk] at h
      cases h
      exact ⟨hk, rfl⟩
    · simp [wsW, hk] at h
  constructor
  · intro i j p q h1 h2 he
    obtain ⟨a1, a2⟩ := key i p h1
    obtain ⟨b1, b2⟩ := key j q h2
    exact hi i j a1 b1 (by rw [← a2, ← b2, he])
  · intro k q h
    obtain ⟨a1, a2⟩ := key k q h
    exact ⟨k, a1, a2⟩
theorem setR_ne {σ : St} {c j : Nat} {f : Nat → Int32} (h : j ≠ c) : (setR σ c f).1 j = σ.1 j := by simp [setR, h]
theorem setR_eq {σ : St} {c : Nat} {f : Nat → Int32} : (setR σ c f).1 c = f := by simp [setR]
theorem ent_setR {ad : Nat → Nat} {cy : Nat → ClassId} {σ : St} {c j : Nat} {f : Nat → Int32} (h : j ≠ c) : ent ad cy (setR σ c f) j = ent ad cy σ j := by
  have h1 := setR_ne (σ := σ) (f := f) h
  have h2 : fv ad (setR σ c f) j = fv ad σ j := by funext k; simp only [fv, h1]
  unfold ent
  rw [h1, h2]
  rfl
theorem hk_lt {j : Nat} (h : (hk j).1 ≤ 3) : j < 93 := by
  rcases Nat.lt_or_ge j 93 with q | q
  · exact q
  · exfalso
    have : hk j = (9, 0) := by
      unfold hk
      rw [List.getD_eq_getElem?_getD, List.getElem?_eq_none (by exact q)]
      rfl
    rw [this] at h
    exact absurd h (by decide)
theorem hk_long : ∀ j, j < 93 → (hk j).1 = 2 → j = 18 := by decide +kernel
theorem hk_obj : ∀ j, j < 93 → (hk j).1 = 3 → j < 12 := by decide +kernel
/-- a row of ints -/
theorem ent_i {ad : Nat → Nat} {cy : Nat → ClassId} {σ : St} {c : Nat} (h : (hk c).1 = 0) : ent ad cy σ c = .inl (cy 0, (hk c).2, .inl (σ.1 c)) := by simp [ent, h]
theorem ent_z {ad : Nat → Nat} {cy : Nat → ClassId} {σ : St} {c : Nat} (h : (hk c).1 = 1) : ent ad cy σ c = .inl (cy 1, (hk c).2, .inl (σ.1 c)) := by simp [ent, h]
theorem ent_l {ad : Nat → Nat} {cy : Nat → ClassId} {σ : St} {c : Nat} (h : (hk c).1 = 2) : ent ad cy σ c = .inl (cy 2, (hk c).2, .inr (.inl σ.2)) := by simp [ent, h]
theorem ent_o {ad : Nat → Nat} {cy : Nat → ClassId} {σ : St} {c : Nat} (h : (hk c).1 = 3) : ent ad cy σ c = .inr (c, (List.range (hk c).2).map (fv ad σ c)) := by simp [ent, h]
theorem set_i {ad : Nat → Nat} {cy : Nat → ClassId} {σ : St} {c : Nat} {f : Nat → Int32} (h : (hk c).1 = 0) : (wsW ad cy σ).set c (ad c, .inl (cy 0, (hk c).2, .inl f)) = wsW ad cy (setR σ c f) := by
  rw [← wsW_set (σ := σ) (σ' := setR σ c f) (i := c) (fun j hj => ent_setR hj), ent_i h, setR_eq]
theorem set_z {ad : Nat → Nat} {cy : Nat → ClassId} {σ : St} {c : Nat} {f : Nat → Int32} (h : (hk c).1 = 1) : (wsW ad cy σ).set c (ad c, .inl (cy 1, (hk c).2, .inl f)) = wsW ad cy (setR σ c f) := by
  rw [← wsW_set (σ := σ) (σ' := setR σ c f) (i := c) (fun j hj => ent_setR hj), ent_z h, setR_eq]
theorem set_l {ad : Nat → Nat} {cy : Nat → ClassId} {σ : St} {c k : Nat} {x : Int64} (h : (hk c).1 = 2) : (wsW ad cy σ).set c (ad c, .inl (cy 2, (hk c).2, .inr (.inl (vp_updL σ.2 k x)))) = wsW ad cy (wrL σ k x) := by
  have hc := hk_long c (hk_lt (by omega)) h
  rw [← wsW_set (σ := σ) (σ' := wrL σ k x) (i := c) ?_, ent_l h]
  · rfl
  · intro j hj
    have h2 : ¬ (hk j).1 = 2 := fun q => hj (by rw [hc]; exact hk_long j (hk_lt (by omega)) q)
    unfold ent
    rw [if_neg h2, if_neg h2]
    rfl
theorem set_o {ad : Nat → Nat} {cy : Nat → ClassId} {σ : St} {c k : Nat} {x : Int32} (h : (hk c).1 = 3) (hn : hr c k = none) : (wsW ad cy σ).set c (ad c, .inr (c, ((List.range (hk c).2).map (fv ad σ c)).set k (.int x))) = wsW ad cy (wr σ c k x) := by
  rw [← wsW_set (σ := σ) (σ' := wr σ c k x) (i := c) (fun j hj => ent_setR hj), ent_o h]
  congr 4
  apply List.ext_getElem?
  intro j
  rw [List.getElem?_set]
  by_cases hj : k = j
  · subst hj
    by_cases hl : k < (hk c).2
    · simp [hl, fv, hn, wr, setR, upd]
    · simp [hl]
  · rw [if_neg hj]
    by_cases hl : j < (hk c).2
    · have : fv ad (wr σ c k x) c j = fv ad σ c j := by
        have h9 : ¬ j = k := fun q => hj q.symm
        simp [fv, wr, setR, upd, h9]
      simp [hl, this]
    · simp [hl]
/-! LOCALS -/
def LV (ad : Nat → Nat) (ls : Array Slot) (lv : List Value) : Prop := ls.size = lv.length ∧ lv_wf ls ∧ ∀ (i : Nat) (v : Value), lv[i]? = some v → v ≠ .null → ls[i]? = some (.val (cv ad v))
def prV (ad : Nat → Nat) (lv : List Value) : List (Nat × Value) := (List.range lv.length).filterMap fun i => if lv.getD i .null = .null then none else some (i, cv ad (lv.getD i .null))
theorem LV.at {ad : Nat → Nat} {ls : Array Slot} {lv : List Value} (h : LV ad ls lv) {a : Nat} {v : Value} (hv : lv.getD a .null = v) (hn : v ≠ .null) : ls[a]? = some (.val (cv ad v)) := by
  refine h.2.2 a v ?_ hn
  rw [List.getD_eq_getElem?_getD] at hv
  cases hq : lv[a]? with
  | none => rw [hq] at hv; exact absurd hv.symm hn
  | some w => rw [hq] at hv; cases hv; rfl
theorem prV_mem {ad : Nat → Nat} {lv : List Value} {i : Nat} {w : Value} : (i, w) ∈ prV ad lv ↔ ∃ v, lv[i]? = some v ∧ v ≠ .null ∧ w = cv ad v := by
  unfold prV
  rw [List.mem_filterMap]
  constructor
  · rintro ⟨j, hj, h⟩
    rw [List.mem_range] at hj
    split at h
    · cases h
    · rename_i hn
      cases h
      refine ⟨lv.getD i .null, ?_, hn, rfl⟩
      rw [List.getD_eq_getElem?_getD, List.getElem?_eq_getElem hj]
      rfl
  · rintro ⟨v, h1, h2, rfl⟩
    have hj : i < lv.length := (List.getElem?_eq_some_iff.mp h1).1
    have h3 : lv.getD i .null = v := by rw [List.getD_eq_getElem?_getD, h1]; rfl
    refine ⟨i, List.mem_range.mpr hj, ?_⟩
    rw [h3, if_neg h2]
theorem LV.has {ad : Nat → Nat} {ls : Array Slot} {lv : List Value} (h : LV ad ls lv) : lv_has ls lv.length (prV ad lv) := by
  refine ⟨h.1, h.2.1, ?_⟩
  rintro ⟨i, w⟩ hq
  obtain ⟨v, h1, h2, rfl⟩ := prV_mem.mp hq
  exact h.2.2 i v h1 h2
theorem cv_cat (ad : Nat → Nat) (v : Value) : (cv ad v).category = v.category := by cases v <;> rfl
theorem clrV_len (lv : List Value) (a : Nat) : (clrV lv a).length = lv.length := by
  unfold clrV
  split
  · rfl
  · split <;> simp
theorem st1V_len (lv : List Value) (a : Nat) (v : Value) : (st1V lv a v).length = lv.length := by
  unfold st1V
  rw [List.length_set, clrV_len]
theorem st2V_len (lv : List Value) (a : Nat) (v : Value) : (st2V lv a v).length = lv.length := by
  unfold st2V
  rw [List.length_set, List.length_set, clrV_len]
theorem clrV_get {lv : List Value} {a j : Nat} {w : Value} (h : (clrV lv a)[j]? = some w) (hn : w ≠ .null) : lv[j]? = some w ∧ ¬ (j + 1 = a ∧ w.category = 2) := by
  unfold clrV at h
  split at h
  · exact ⟨h, fun q => by omega⟩
  · rename_i b
    have key : (lv.set b .null)[j]? = some w → lv[j]? = some w ∧ ¬ (j + 1 = b + 1 ∧ w.category = 2) := by
      intro h
      rw [List.getElem?_set] at h
      split at h
      · split at h
        · cases h; exact absurd rfl hn
        · cases h
      · exact ⟨h, fun q => by omega⟩
    split at h
    · exact key h
    · exact key h
    · rename_i h1 h2
      refine ⟨h, fun q => ?_⟩
      have hjb : j = b := by omega
      subst hjb
      have h3 : lv.getD j .null = w := by rw [List.getD_eq_getElem?_getD, h]; rfl
      rw [h3] at h1 h2
      cases w with
      | long x => exact h1 x rfl
      | double x => exact h2 x rfl
      | int x => exact absurd q.2 (by simp [Value.category])
      | float x => exact absurd q.2 (by simp [Value.category])
      | null => exact hn rfl
      | ref x => exact absurd q.2 (by simp [Value.category])
      | retAddr x => exact absurd q.2 (by simp [Value.category])
theorem LV.st1 {ad : Nat → Nat} {ls' : Array Slot} {lv : List Value} {a : Nat} {v : Value} (h' : lv_has ls' lv.length ((a, cv ad v) :: (prV ad lv).filter (fun q => !(q.1 == a) && !(q.1 + 1 == a && q.2.category == 2)))) : LV ad ls' (st1V lv a v) := by
  refine ⟨by rw [st1V_len]; exact h'.1, h'.2.1, fun j w hj hn => ?_⟩
  unfold st1V at hj
  rw [List.getElem?_set] at hj
  split at hj
  · rename_i haj
    subst haj
    split at hj
    · cases hj
      exact h'.2.2 (a, cv ad v) List.mem_cons_self
    · cases hj
  · rename_i haj
    obtain ⟨h1, h2⟩ := clrV_get hj hn
    refine h'.2.2 (j, cv ad w) (List.mem_cons_of_mem _ (List.mem_filter.mpr ⟨prV_mem.mpr ⟨w, h1, hn, rfl⟩, ?_⟩))
    simp only [cv_cat]
    have : ¬ j = a := fun q => haj q.symm
    simp only [Bool.and_eq_true, Bool.not_eq_true', Bool.and_eq_false_imp, beq_iff_eq, beq_eq_false_iff_ne, ne_eq]
    exact ⟨this, fun q => by intro z; exact h2 ⟨q, z⟩⟩
theorem LV.st2 {ad : Nat → Nat} {ls' : Array Slot} {lv : List Value} {a : Nat} {v : Value} (h' : lv_has ls' lv.length ((a, cv ad v) :: (prV ad lv).filter (fun q => !(q.1 == a) && (!(q.1 == a + 1) && !(q.1 + 1 == a && q.2.category == 2))))) : LV ad ls' (st2V lv a v) := by
  refine ⟨by rw [st2V_len]; exact h'.1, h'.2.1, fun j w hj hn => ?_⟩
  unfold st2V at hj
  rw [List.getElem?_set] at hj
  split at hj
  · split at hj
    · cases hj; exact absurd rfl hn
    · cases hj
  rename_i ha1
  rw [List.getElem?_set] at hj
  split at hj
  · rename_i haj
    subst haj
    split at hj
    · cases hj
      exact h'.2.2 (a, cv ad v) List.mem_cons_self
    · cases hj
  · rename_i haj
    obtain ⟨h1, h2⟩ := clrV_get hj hn
    refine h'.2.2 (j, cv ad w) (List.mem_cons_of_mem _ (List.mem_filter.mpr ⟨prV_mem.mpr ⟨w, h1, hn, rfl⟩, ?_⟩))
    simp only [cv_cat]
    have : ¬ j = a := fun q => haj q.symm
    have h4 : ¬ j = a + 1 := fun q => ha1 q.symm
    simp only [Bool.and_eq_true, Bool.not_eq_true', Bool.and_eq_false_imp, beq_iff_eq, beq_eq_false_iff_ne, ne_eq]
    exact ⟨this, h4, fun q => by intro z; exact h2 ⟨q, z⟩⟩
theorem lgs_cons (a : Value) (r : List Value) : lg_sl (a :: r) = (if a.category = 2 then [Slot.val a, Slot.second] else [Slot.val a]) ++ lg_sl r := rfl
theorem flat_1 {ad : Nat → Nat} {a : Value} {r : List Value} (h : a.category = 1) (ih : ∀ (i : Nat) (w : Value), (flatV r)[i]? = some w → w ≠ .null → (lg_sl (r.map (cv ad)))[i]? = some (.val (cv ad w))) (i : Nat) (w : Value) (hi : (a :: flatV r)[i]? = some w) (hn : w ≠ .null) : (lg_sl ((a :: r).map (cv ad)))[i]? = some (.val (cv ad w)) := by
  rw [List.map_cons, lgs_cons, if_neg (by rw [cv_cat, h]; decide)]
  rcases i with _ | i
  · cases hi; rfl
  · exact ih i w hi hn
theorem flat_2 {ad : Nat → Nat} {a : Value} {r : List Value} (h : a.category = 2) (ih : ∀ (i : Nat) (w : Value), (flatV r)[i]? = some w → w ≠ .null → (lg_sl (r.map (cv ad)))[i]? = some (.val (cv ad w))) (i : Nat) (w : Value) (hi : (a :: .null :: flatV r)[i]? = some w) (hn : w ≠ .null) : (lg_sl ((a :: r).map (cv ad)))[i]? = some (.val (cv ad w)) := by
  rw [List.map_cons, lgs_cons, if_pos (by rw [cv_cat, h])]
  rcases i with _ | _ | i
  · cases hi; rfl
  · cases hi; exact absurd rfl hn
  · exact ih i w hi hn
theorem flat_sl {ad : Nat → Nat} (as : List Value) : ∀ (i : Nat) (w : Value), (flatV as)[i]? = some w → w ≠ .null → (lg_sl (as.map (cv ad)))[i]? = some (.val (cv ad w)) := by
  induction as with
  | nil => intro i w h; simp [flatV] at h
  | cons a r ih =>
    intro i w h hn
    cases a
    all_goals first
      | exact flat_1 rfl ih i w h hn
      | exact flat_2 rfl ih i w h hn
theorem flat_len {ad : Nat → Nat} (as : List Value) : (lg_sl (as.map (cv ad))).length = (flatV as).length := by
  induction as with
  | nil => rfl
  | cons a r ih =>
    rw [List.map_cons, lgs_cons, List.length_append, ih, cv_cat]
    cases a <;> simp [Value.category, flatV] <;> omega
theorem LV.entry {ad : Nat → Nat} {as : List Value} {n : Nat} (h : (flatV as).length ≤ n) : LV ad ((lg_sl (as.map (cv ad)) ++ List.replicate (n - (lg_sl (as.map (cv ad))).length) Slot.unset).toArray) (entL as n) := by
  have h0 := lv_entry (as.map (cv ad)) (n := n) (by rw [flat_len]; exact h)
  refine ⟨by rw [h0.1]; simp [entL]; omega, h0.2.1, fun i w hi hn => ?_⟩
  unfold entL at hi
  rw [List.getElem?_append] at hi
  split at hi
  · rename_i hl
    have h1 := flat_sl (ad := ad) as i w hi hn
    rw [List.getElem?_toArray, List.getElem?_append_left (by rw [flat_len]; exact hl)]
    exact h1
  · rw [List.getElem?_replicate] at hi
    split at hi
    · cases hi; exact absurd rfl hn
    · cases hi
theorem entL_len {as : List Value} {n : Nat} (h : (flatV as).length ≤ n) : (entL as n).length = n := by
  simp [entL]; omega
theorem catS_eq (ad : Nat → Nat) (r : List Value) : ((r.map (cv ad)).map fun v => v.category).sum = catS r := by
  induction r with
  | nil => rfl
  | cons a r ih => simp only [List.map_cons, List.sum_cons, catS, cv_cat, ih]
theorem prV_getD {ad : Nat → Nat} {lv : List Value} {i : Nat} {v : Value} (h : lv.getD i .null = v) (hn : v ≠ .null) : (i, cv ad v) ∈ prV ad lv := by
  refine prV_mem.mpr ⟨v, ?_, hn, rfl⟩
  rw [List.getD_eq_getElem?_getD] at h
  cases hq : lv[i]? with
  | none => rw [hq] at h; exact absurd h.symm hn
  | some w => rw [hq] at h; cases h; rfl
