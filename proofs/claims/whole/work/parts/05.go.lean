/-! The least relation that is closed under the instructions: from here the method comes to its end with R, the cells then hold S. -/
def stepA (P : AP) (y pc : Nat) (lv st : List Value) (σ : St) (R : List Value) (S : St) : Prop := match codeOf y pc with
  | some en => stepC P y en pc lv st σ R S
  | none => False
def Go (y pc : Nat) (lv st : List Value) (σ : St) (R : List Value) (S : St) : Prop :=
  ∀ P : AP, (∀ y pc lv st σ R S, stepA P y pc lv st σ R S → P y pc lv st σ R S) → P y pc lv st σ R S
theorem brC_mono {c A B A' B' : Prop} (ha : A → A') (hb : B → B') (h : brC c A B) : brC c A' B' := ⟨fun q => ha (h.1 q), fun q => hb (h.2 q)⟩
theorem callC_mono {P P' : AP} (h : ∀ y pc lv st σ R S, P y pc lv st σ R S → P' y pc lv st σ R S) {y z n pc : Nat} {lv st : List Value} {σ : St} {R : List Value} {S : St} (q : callC P y z n pc lv st σ R S) : callC P' y z n pc lv st σ R S := by
  unfold callC at q ⊢
  rw [cond_eq_ite] at q ⊢
  split at q
  · rw [if_pos (by assumption)]
    obtain ⟨rs, σ1, h1, h2⟩ := q
    exact ⟨rs, σ1, h _ _ _ _ _ _ _ h1, h _ _ _ _ _ _ _ h2⟩
  · exact q.elim
set_option maxHeartbeats 4000000 in
theorem stepC_mono {P P' : AP} (h : ∀ y pc lv st σ R S, P y pc lv st σ R S → P' y pc lv st σ R S) {y : Nat} {en : En} {pc : Nat} {lv st : List Value} {σ : St} {R : List Value} {S : St} (q : stepC P y en pc lv st σ R S) : stepC P' y en pc lv st σ R S := by
  obtain ⟨ins, ln, a, b, c, v⟩ := en
  cases ins
  all_goals first
    | exact q
    | exact h _ _ _ _ _ _ _ q
    | exact callC_mono h q
    | skip
  all_goals simp only [stepC, cond_eq_ite] at q ⊢
  all_goals repeat' (first
    | exact q.elim
    | exact h _ _ _ _ _ _ _ q
    | exact callC_mono h q
    | exact ⟨q.1, h _ _ _ _ _ _ _ q.2⟩
    | exact ⟨q.1, q.2.1, h _ _ _ _ _ _ _ q.2.2⟩
    | exact q
    | exact brC_mono (h _ _ _ _ _ _ _) (h _ _ _ _ _ _ _) q
    | exact brC_mono (h _ _ _ _ _ _ _) (fun g off ho tgt ht => h _ _ _ _ _ _ _ (g off ho tgt ht)) q
    | (rw [if_neg (by assumption)]; exact callC_mono h q)
    | split at q
    | (split <;> simp_all))
  all_goals exact callC_mono (fun y pc lv st σ R S g => h y pc lv st σ.1 σ.2 R S.1 S.2 g) q
/-- closed under the instructions -/
theorem Go.step {y pc : Nat} {lv st : List Value} {σ : St} {R : List Value} {S : St} (q : stepA Go y pc lv st σ R S) : Go y pc lv st σ R S := by
  intro P hP
  refine hP _ _ _ _ _ _ _ ?_
  unfold stepA at q ⊢
  split at q
  · exact stepC_mono (fun _ _ _ _ _ _ _ g => g P hP) q
  · exact q.elim
/-- the same, with the instruction's row at hand -/
theorem Go.one {y pc : Nat} {lv st : List Value} {σ : St} {R : List Value} {S : St} {en : En} (he : codeOf y pc = some en) (q : stepC Go y en pc lv st σ R S) : Go y pc lv st σ R S := by
  refine Go.step ?_
  unfold stepA
  rw [he]
  exact q
/-- n instructions, but no further than to a place of the list -/
def runC (P : AP) (cut : List Nat) : Nat → AP
  | 0 => P
  | n + 1 => fun y pc lv st σ R S => bif cut.any (fun k => Nat.beq k pc) then P y pc lv st σ R S else match codeOf y pc with
    | some en => stepC (fun y' pc' lv' st' σ' R' S' => bif Nat.beq y' y && !(Nat.beq pc' 0) then runC P cut n y' pc' lv' st' σ' R' S' else P y' pc' lv' st' σ' R' S') y en pc lv st σ R S
    | none => False
theorem Go.of_runC (cut : List Nat) : ∀ (n : Nat) {y pc : Nat} {lv st : List Value} {σ : St} {R : List Value} {S : St}, runC Go cut n y pc lv st σ R S → Go y pc lv st σ R S := by
  intro n
  induction n with
  | zero => exact fun q => q
  | succ n ih =>
    intro y pc lv st σ R S q
    simp only [runC, cond_eq_ite] at q
    split at q
    · exact q
    · split at q
      · rename_i en he
        refine Go.one he (stepC_mono ?_ q)
        intro y' pc' lv' st' σ' R' S' g
        split at g
        · exact ih g
        · exact g
      · exact q.elim
/-- one instruction at least, then on to a place of the list -/
theorem Go.run (cut : List Nat) (n : Nat) {y pc : Nat} {lv st : List Value} {σ : St} {R : List Value} {S : St} {en : En} (he : codeOf y pc = some en) (q : stepC (fun y' pc' lv' st' σ' R' S' => bif Nat.beq y' y && !(Nat.beq pc' 0) then runC Go cut n y' pc' lv' st' σ' R' S' else Go y' pc' lv' st' σ' R' S') y en pc lv st σ R S) : Go y pc lv st σ R S := by
  refine Go.one he (stepC_mono ?_ q)
  intro y' pc' lv' st' σ' R' S' g
  rw [cond_eq_ite] at g
  split at g
  · exact Go.of_runC cut n g
  · exact g
/-- what a method answers: its whole way from its entry -/
def Ret (z : Nat) (as : List Value) (σ : St) (rs : List Value) (σ1 : St) : Prop := Go z 0 (entL as (mL z)) [] σ rs σ1
