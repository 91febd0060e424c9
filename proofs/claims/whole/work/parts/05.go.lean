/-! The least relation that is closed under the instructions: from here the method comes to its end with R, the cells then hold S. -/
def stepA (P : AP) (y pc : Nat) (lv st : List Value) (σ : St) (R : List Value) (S : St) : Prop := match codeOf y pc with
  | some en => stepC P y en pc lv st σ R S
  | none => False
def Go (y pc : Nat) (lv st : List Value) (σ : St) (R : List Value) (S : St) : Prop :=
  ∀ P : AP, (∀ y pc lv st σ R S, stepA P y pc lv st σ R S → P y pc lv st σ R S) → P y pc lv st σ R S
theorem brC_mono {c A B A' B' : Prop} (ha : A → A') (hb : B → B') (h : brC c A B) : brC c A' B' := ⟨fun q => ha (h.1 q), fun q => hb (h.2 q)⟩
theorem callC_mono {P P' : AP} (h : ∀ y pc lv st σ R S, P y pc lv st σ R S → P' y pc lv st σ R S) {y z n pc : Nat} {lv st : List Value} {σ : St} {R : List Value} {S : St} (q : callC P y z n pc lv st σ R S) : callC P' y z n pc lv st σ R S := by
  obtain ⟨rs, σ1, h1, h2⟩ := q
  exact ⟨rs, σ1, h _ _ _ _ _ _ _ h1, h _ _ _ _ _ _ _ h2⟩
set_option maxHeartbeats 4000000 in
theorem stepC_mono {P P' : AP} (h : ∀ y pc lv st σ R S, P y pc lv st σ R S → P' y pc lv st σ R S) {y : Nat} {en : En} {pc : Nat} {lv st : List Value} {σ : St} {R : List Value} {S : St} (q : stepC P y en pc lv st σ R S) : stepC P' y en pc lv st σ R S := by
  obtain ⟨ins, ln, a, b, c, v⟩ := en
  cases ins
  all_goals first
    | exact q
    | exact h _ _ _ _ _ _ _ q
    | exact callC_mono h q
    | skip
  all_goals simp only [stepC] at q ⊢
  all_goals try split at q
  all_goals first
    | exact q.elim
    | exact h _ _ _ _ _ _ _ q
    | exact ⟨q.1, h _ _ _ _ _ _ _ q.2⟩
    | exact brC_mono (h _ _ _ _ _ _ _) (h _ _ _ _ _ _ _) q
    | skip
  all_goals sorry
