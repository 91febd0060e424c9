/-! The least relation that is closed under the instructions: from here the method comes to its end with R, the cells then hold S. -/
def stepA (P : AP) (y pc : Nat) (lv st : List Value) (σ : St) (R : List Value) (S : St) : Prop := match codeOf y pc with
  | some en => stepC P y en pc lv st σ R S
  | none => False
def Go (y pc : Nat) (lv st : List Value) (σ : St) (R : List Value) (S : St) : Prop :=
  ∀ P : AP, (∀ y pc lv st σ R S, stepA P y pc lv st σ R S → P y pc lv st σ R S) → P y pc lv st σ R S
theorem brC_mono {c A B A' B' : Prop} (ha : A → A') (hb : B → B') (h : brC c A B) : brC c A' B' := ⟨fun q => ha (h.1 q), fun q => hb (h.2 q)⟩
theorem callC_mono {P P' : AP} (h : ∀ y pc lv st σ R S, P y pc lv st σ R S → P' y pc lv st σ R S) {y z n pc : Nat} {lv st : List Value} {σ : St} {R : List Value} {S : St} (q : callC P y z n pc lv st σ R S) : callC P' y z n pc lv st σ R S := by
  unfold callC at q ⊢
  rw [cond_eq_ite] at q ⊢
  split at q
  · rw [if_pos (by assumption)]
    split at q
    · obtain ⟨σ1, h1, h2⟩ := q
      exact ⟨σ1, h _ _ _ _ _ _ _ h1, h _ _ _ _ _ _ _ h2⟩
    · obtain ⟨r, σ1, h1, h2⟩ := q
      exact ⟨r, σ1, h _ _ _ _ _ _ _ h1, h _ _ _ _ _ _ _ h2⟩
    · obtain ⟨r, σ1, h1, h2⟩ := q
      exact ⟨r, σ1, h _ _ _ _ _ _ _ h1, h _ _ _ _ _ _ _ h2⟩
  · exact q.elim
theorem callC_spec {P : AP} {y z n pc : Nat} {lv st : List Value} {σ : St} {R : List Value} {S : St} (q : callC P y z n pc lv st σ R S) : n ≤ st.length ∧ catS (st.drop n) ≤ 8 ∧ (flatV (st.take n).reverse).length ≤ mL z ∧ ∃ (rs : List Value) (σ1 : St), P z 0 (entL (st.take n).reverse (mL z)) [] σ rs σ1 ∧ P y pc lv (rs ++ st.drop n) σ1 R S := by
  unfold callC at q
  rw [cond_eq_ite] at q
  split at q
  · rename_i hg
    simp only [Bool.and_eq_true] at hg
    refine ⟨Nat.le_of_ble_eq_true hg.1, Nat.le_of_ble_eq_true hg.2.1, Nat.le_of_ble_eq_true hg.2.2, ?_⟩
    split at q
    · obtain ⟨σ1, h1, h2⟩ := q
      exact ⟨[], σ1, h1, h2⟩
    · obtain ⟨r, σ1, h1, h2⟩ := q
      exact ⟨[.long r], σ1, h1, h2⟩
    · obtain ⟨r, σ1, h1, h2⟩ := q
      exact ⟨[.int r], σ1, h1, h2⟩
  · exact q.elim
set_option maxHeartbeats 4000000 in
theorem stepC_mono {P P' : AP} (h : ∀ y pc lv st σ R S, P y pc lv st σ R S → P' y pc lv st σ R S) {y : Nat} {en : En} {pc : Nat} {lv st : List Value} {σ : St} {R : List Value} {S : St} (q : stepC P y en pc lv st σ R S) : stepC P' y en pc lv st σ R S := by
  obtain ⟨ins, ln, a, b, c, v⟩ := en
  cases ins
  all_goals first
    | exact q
    | exact h _ _ _ _ _ _ _ q
    | exact callC_mono h q
    | skip
  all_goals simp only [stepC, cond_eq_ite] at q ⊢
  all_goals repeat' (first
    | exact q.elim
    | exact h _ _ _ _ _ _ _ q
    | exact callC_mono h q
    | exact ⟨q.1, h _ _ _ _ _ _ _ q.2⟩
    | exact ⟨q.1, q.2.1, h _ _ _ _ _ _ _ q.2.2⟩
    | exact q
    | exact brC_mono (h _ _ _ _ _ _ _) (h _ _ _ _ _ _ _) q
    | exact brC_mono (h _ _ _ _ _ _ _) (fun g off ho tgt ht => h _ _ _ _ _ _ _ (g off ho tgt ht)) q
    | (rw [if_neg (by assumption)]; exact callC_mono h q)
    | split at q
    | (split <;> simp_all))
  all_goals exact callC_mono (fun y pc lv st σ R S g => h y pc lv st σ.1 σ.2 R S.1 S.2 g) q
/-- closed under the instructions -/
theorem Go.step {y pc : Nat} {lv st : List Value} {σ : St} {R : List Value} {S : St} (q : stepA Go y pc lv st σ R S) : Go y pc lv st σ R S := by
  intro P hP
  refine hP _ _ _ _ _ _ _ ?_
  unfold stepA at q ⊢
  split at q
  · exact stepC_mono (fun _ _ _ _ _ _ _ g => g P hP) q
  · exact q.elim
/-- the same, with the instruction's row at hand -/
theorem Go.one {y pc : Nat} {lv st : List Value} {σ : St} {R : List Value} {S : St} {en : En} (he : codeOf y pc = some en) (q : stepC Go y en pc lv st σ R S) : Go y pc lv st σ R S := by
  refine Go.step ?_
  unfold stepA
  rw [he]
  exact q
/-! LOCALS THAT NOBODY READS: fewer known values do -/
def leV (lv lv' : List Value) : Prop := lv.length = lv'.length ∧ ∀ i, lv.getD i .null = .null ∨ lv.getD i .null = lv'.getD i .null
theorem leV.get {lv lv' : List Value} (h : leV lv lv') {a : Nat} {v : Value} (hv : lv.getD a .null = v) (hn : v ≠ .null) : lv'.getD a .null = v := by
  rcases h.2 a with q | q
  · rw [q] at hv; exact absurd hv.symm hn
  · rw [← q]; exact hv
theorem getD_set {l : List Value} {a i : Nat} {v : Value} : (l.set a v).getD i .null = if a = i ∧ i < l.length then v else l.getD i .null := by
  rw [List.getD_eq_getElem?_getD, List.getElem?_set, List.getD_eq_getElem?_getD]
  by_cases h : a = i
  · subst h
    by_cases h2 : a < l.length
    · simp [h2]
    · simp [h2]
  · simp [h]
theorem leV.set {lv lv' : List Value} (h : leV lv lv') (a : Nat) (v : Value) : leV (lv.set a v) (lv'.set a v) := by
  refine ⟨by simpa using h.1, fun i => ?_⟩
  rw [getD_set, getD_set, ← h.1]
  split
  · exact Or.inr rfl
  · exact h.2 i
theorem leV.setN {lv lv' : List Value} (h : leV lv lv') (a : Nat) : leV (lv.set a .null) lv' := by
  refine ⟨by simpa using h.1, fun i => ?_⟩
  rw [getD_set]
  split
  · exact Or.inl rfl
  · exact h.2 i
theorem leV.clr {lv lv' : List Value} (h : leV lv lv') (a : Nat) : leV (clrV lv a) (clrV lv' a) := by
  unfold clrV
  split
  · exact h
  · rename_i b
    have key : lv.getD b .null = .null → leV lv (lv'.set b .null) := by
      intro q
      refine ⟨by simpa using h.1, fun i => ?_⟩
      rw [getD_set]
      split
      · rename_i hi
        rw [← hi.1]
        exact Or.inl q
      · exact h.2 i
    rcases h.2 b with q | q
    · rw [q]
      show leV lv (match lv'.getD b .null with | .long _ => lv'.set b .null | .double _ => lv'.set b .null | _ => lv')
      split
      · exact key q
      · exact key q
      · exact h
    · rw [q]
      split
      · exact h.set b .null
      · exact h.set b .null
      · exact h
theorem leV.st1 {lv lv' : List Value} (h : leV lv lv') (a : Nat) (v : Value) : leV (st1V lv a v) (st1V lv' a v) := (h.clr a).set a v
theorem leV.st2 {lv lv' : List Value} (h : leV lv lv') (a : Nat) (v : Value) : leV (st2V lv a v) (st2V lv' a v) := ((h.clr a).set a v).set (a + 1) .null
set_option maxHeartbeats 4000000 in
theorem stepC_weak {P P' : AP} (hP : ∀ y pc lv lv' st σ R S, leV lv lv' → P y pc lv st σ R S → P' y pc lv' st σ R S) (hR : ∀ lv, leV lv lv) {y : Nat} {en : En} {pc : Nat} {lv lv' st : List Value} {σ : St} {R : List Value} {S : St} (hl : leV lv lv') (q : stepC P y en pc lv st σ R S) : stepC P' y en pc lv' st σ R S := by
  obtain ⟨ins, ln, a, b, c, v⟩ := en
  have hc : ∀ {z n pc}, callC P y z n pc lv st σ R S → callC P' y z n pc lv' st σ R S := by
    intro z n pc q
    unfold callC at q ⊢
    rw [cond_eq_ite] at q ⊢
    split at q
    · rw [if_pos (by assumption)]
      split at q
      · obtain ⟨σ1, h1, h2⟩ := q
        exact ⟨σ1, hP _ _ _ _ _ _ _ _ (hR _) h1, hP _ _ _ _ _ _ _ _ hl h2⟩
      · obtain ⟨r, σ1, h1, h2⟩ := q
        exact ⟨r, σ1, hP _ _ _ _ _ _ _ _ (hR _) h1, hP _ _ _ _ _ _ _ _ hl h2⟩
      · obtain ⟨r, σ1, h1, h2⟩ := q
        exact ⟨r, σ1, hP _ _ _ _ _ _ _ _ (hR _) h1, hP _ _ _ _ _ _ _ _ hl h2⟩
    · exact q.elim
  have h : ∀ {pc st σ}, P y pc lv st σ R S → P' y pc lv' st σ R S := fun q => hP _ _ _ _ _ _ _ _ hl q
  have h1 : ∀ {pc st σ v}, P y pc (st1V lv a v) st σ R S → P' y pc (st1V lv' a v) st σ R S := fun q => hP _ _ _ _ _ _ _ _ (hl.st1 _ _) q
  have h2 : ∀ {pc st σ v}, P y pc (st2V lv a v) st σ R S → P' y pc (st2V lv' a v) st σ R S := fun q => hP _ _ _ _ _ _ _ _ (hl.st2 _ _) q
  have hg : ∀ {x : Value}, lv.getD a .null = x → x ≠ .null → lv'.getD a .null = x := fun e n => hl.get e n
  clear hP hR hl
  cases ins
  all_goals first
    | exact q
    | exact h q
    | exact hc q
    | skip
  all_goals simp only [stepC, cond_eq_ite] at q ⊢
  all_goals repeat' (first
    | exact q.elim
    | exact h q
    | exact h1 q
    | exact h2 q
    | exact hc q
    | exact ⟨q.1, h q.2⟩
    | exact ⟨q.1, q.2.1, h q.2.2⟩
    | exact q
    | exact brC_mono h h q
    | exact brC_mono h (fun g off ho tgt ht => h (g off ho tgt ht)) q
    | (rw [if_neg (by assumption)]; exact hc q)
    | (rw [hg (by assumption) (fun e => by cases e)]; first | exact h q | exact h1 q)
    | (rw [hg (by assumption) (fun e => by cases e)]; simp only []; first | exact h q | exact h1 q)
    | split at q
    | (split <;> simp_all))
theorem leV.rf (lv : List Value) : leV lv lv := ⟨rfl, fun _ => Or.inr rfl⟩
theorem leV.tr {a b c : List Value} (h : leV a b) (k : leV b c) : leV a c := ⟨h.1.trans k.1, fun i => by
  rcases h.2 i with q | q
  · exact Or.inl q
  · rcases k.2 i with r | r
    · exact Or.inl (by rw [q, r])
    · exact Or.inr (by rw [q, r])⟩
theorem Go.weak {y pc : Nat} {lv lv' st : List Value} {σ : St} {R : List Value} {S : St} (hl : leV lv lv') (q : Go y pc lv st σ R S) : Go y pc lv' st σ R S := by
  refine q (fun y pc lv st σ R S => ∀ lv', leV lv lv' → Go y pc lv' st σ R S) ?_ lv' hl
  intro y pc lv st σ R S q lv' hl
  refine Go.step ?_
  unfold stepA at q ⊢
  split at q
  · exact stepC_weak (fun _ _ _ _ _ _ _ _ hl q => q _ hl) leV.rf hl q
  · exact q.elim
def maskV : List Bool → List Value → List Value
  | true :: m, v :: r => v :: maskV m r
  | false :: m, _ :: r => .null :: maskV m r
  | [], r => r
  | _, [] => []
theorem maskV_le : ∀ (m : List Bool) (lv : List Value), leV (maskV m lv) lv := by
  have cons : ∀ {v w : Value} {a b : List Value}, leV a b → (v = .null ∨ v = w) → leV (v :: a) (w :: b) := by
    intro v w a b h hv
    refine ⟨by simp [h.1], fun i => ?_⟩
    rcases i with _ | i
    · simpa using hv
    · simpa using h.2 i
  intro m
  induction m with
  | nil => intro lv; cases lv <;> exact leV.rf _
  | cons x m ih =>
    intro lv
    cases lv with
    | nil => cases x <;> exact leV.rf _
    | cons v r =>
      cases x
      · exact cons (ih r) (Or.inl rfl)
      · exact cons (ih r) (Or.inr rfl)
/-- a place of a list, and which locals are read from there on -/
def cutAt : List (Nat × List Bool) → Nat → Option (List Bool)
  | [], _ => none
  | (q, m) :: r, pc => bif Nat.beq q pc then some m else cutAt r pc
/-- n instructions, but no further than to a place of the list -/
def runC (P : AP) (cut : List (Nat × List Bool)) : Nat → AP
  | 0 => P
  | n + 1 => fun y pc lv st σ R S => match cutAt cut pc with
    | some m => P y pc (maskV m lv) st σ R S
    | none => match codeOf y pc with
      | some en => stepC (fun y' pc' lv' st' σ' R' S' => bif Nat.beq y' y && !(Nat.beq pc' 0) then runC P cut n y' pc' lv' st' σ' R' S' else P y' pc' lv' st' σ' R' S') y en pc lv st σ R S
      | none => False
theorem Go.of_runC (cut : List (Nat × List Bool)) : ∀ (n : Nat) {y pc : Nat} {lv st : List Value} {σ : St} {R : List Value} {S : St}, runC Go cut n y pc lv st σ R S → Go y pc lv st σ R S := by
  intro n
  induction n with
  | zero => exact fun q => q
  | succ n ih =>
    intro y pc lv st σ R S q
    simp only [runC, cond_eq_ite] at q
    split at q
    · exact Go.weak (maskV_le _ _) q
    · split at q
      · rename_i en he
        refine Go.one he (stepC_mono ?_ q)
        intro y' pc' lv' st' σ' R' S' g
        split at g
        · exact ih g
        · exact g
      · exact q.elim
/-- one instruction at least, then on to a place of the list -/
theorem Go.run (cut : List (Nat × List Bool)) (n : Nat) {y pc : Nat} {lv st : List Value} {σ : St} {R : List Value} {S : St} {en : En} (he : codeOf y pc = some en) (q : stepC (fun y' pc' lv' st' σ' R' S' => bif Nat.beq y' y && !(Nat.beq pc' 0) then runC Go cut n y' pc' lv' st' σ' R' S' else Go y' pc' lv' st' σ' R' S') y en pc lv st σ R S) : Go y pc lv st σ R S := by
  refine Go.one he (stepC_mono ?_ q)
  intro y' pc' lv' st' σ' R' S' g
  rw [cond_eq_ite] at g
  split at g
  · exact Go.of_runC cut n g
  · exact g
/-- what a method answers: its whole way from its entry -/
def Ret (z : Nat) (as : List Value) (σ : St) (rs : List Value) (σ1 : St) : Prop := Go z 0 (entL as (mL z)) [] σ rs σ1
