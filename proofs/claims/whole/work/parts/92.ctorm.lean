/-! THE MODEL'S CONSTRUCTOR (written by wip/whole/mdgen.py) -/
def s1 : St := (fun i k => bif Nat.beq i 11 && Nat.beq k 0 then 1 else 0, fun _ => 0)
/-- a store: field, link, word, ce, width of the push, value -/
abbrev SpS : Type := Nat × Nat × Nat × Nat × Nat × Int
def okS (b : ByteArray) (pc : Nat) (x : SpS) : Bool := match x with
  | (k, i, cw, ce, w, v) => decide (decode b pc = .ok (.aload_n 0, 1)) && decide (decode b (pc + 1) = .ok (.getfield i, 3)) && decide (decode b (pc + 1 + 3) = .ok (.iload_n 1, 1)) && okP b (pc + 1 + 3 + 1) w v && decide (decode b (pc + 1 + 3 + 1 + w) = .ok (.iastore, 1)) && Nat.blt k (nF 11) && inG cw (.fieldLink (RC 11) i (RC 11) (fld 11 k).1 (fld 11 k).2.1) && decide (hr 11 k = some ce) && Nat.ble 52 ce && Nat.blt ce 93 && decide ((hk ce).1 = 0)
def lenS (x : SpS) : Nat := 1 + 3 + 1 + x.2.2.2.2.1 + 1
def okSs (b : ByteArray) (N : Nat) : Nat → List SpS → Bool
  | _, [] => true
  | pc, x :: L => okS b pc x && decide ((hk x.2.2.2.1).2 = N) && okSs b N (pc + lenS x) L
def endS : Nat → List SpS → Nat
  | pc, [] => pc
  | pc, x :: L => endS (pc + lenS x) L
def stA (σ : St) (i : Nat) : List SpS → St
  | [] => σ
  | x :: L => stA (wr σ x.2.2.2.1 i (Int32.ofInt x.2.2.2.2.2)) i L
def stV (c : Nat) : List SpS → Int32 → Int32
  | [], d => d
  | x :: L, d => stV c L (if c = x.2.2.2.1 then Int32.ofInt x.2.2.2.2.2 else d)
def loopF (σ : St) (st : List SpS) (i : Nat) : St := (fun c j => if j < i then stV c st (σ.1 c j) else σ.1 c j, σ.2)
theorem stA_spec {i c j : Nat} : ∀ (st : List SpS) (σ : St), (stA σ i st).1 c j = if j = i then stV c st (σ.1 c j) else σ.1 c j := by
  intro st
  induction st with
  | nil => intro σ; simp [stA, stV]
  | cons x L ih =>
    intro σ
    rw [stA, ih, stV]
    by_cases hj : j = i
    · rw [if_pos hj, if_pos hj]
      congr 1
      by_cases hc : c = x.2.2.2.1
      · rw [if_pos hc]
        subst hc
        simp [wr, setR, upd, hj]
      · rw [if_neg hc]
        simp [wr, setR, hc]
    · rw [if_neg hj, if_neg hj]
      by_cases hc : c = x.2.2.2.1
      · subst hc
        simp [wr, setR, upd, hj]
      · simp [wr, setR, hc]
theorem stA_2 {i : Nat} : ∀ (st : List SpS) (σ : St), (stA σ i st).2 = σ.2 := by
  intro st
  induction st with
  | nil => intro σ; rfl
  | cons x L ih => intro σ; rw [stA, ih]; rfl
theorem loopF_0 (σ : St) (st : List SpS) : loopF σ st 0 = σ := by
  apply Prod.ext
  · funext c j
    simp [loopF]
  · rfl
theorem loopF_1 (σ : St) (st : List SpS) (i : Nat) : stA (loopF σ st i) i st = loopF σ st (i + 1) := by
  apply Prod.ext
  · funext c j
    rw [stA_spec]
    simp only [loopF]
    by_cases h1 : j = i
    · subst h1
      rw [if_pos rfl, if_neg (Nat.lt_irrefl j), if_pos (Nat.lt_succ_self j)]
    · rw [if_neg h1]
      by_cases h2 : j < i
      · rw [if_pos h2, if_pos (by omega)]
      · rw [if_neg h2, if_neg (by omega)]
  · rw [stA_2]
    rfl
/-! the world of the model's cells -/
theorem sub_0 {ad : Nat → Nat} {cy : Nat → ClassId} {σ : St} : subW (osN 11 52 41) ad cy σ = (ad 11, .inr (11, (List.range 48).map (fv ad σ 11))) :: (List.range 41).map (fun i => (ad (52 + i), ent ad cy σ (52 + i))) := by
  unfold subW osN
  rw [List.map_cons, List.map_map, ent_o (by decide +kernel)]
  rfl
theorem sub_get {ad : Nat → Nat} {cy : Nat → ClassId} {σ : St} {c : Nat} (h1 : 52 ≤ c) (h2 : c < 93) : (subW (osN 11 52 41) ad cy σ)[c - 51]? = some (ad c, ent ad cy σ c) := by
  rw [sub_0, show c - 51 = (c - 52) + 1 by omega, List.getElem?_cons_succ, List.getElem?_map, List.getElem?_range (show c - 52 < 41 by omega)]
  show some (ad (52 + (c - 52)), ent ad cy σ (52 + (c - 52))) = _
  rw [show 52 + (c - 52) = c by omega]
theorem sub_set {ad : Nat → Nat} {cy : Nat → ClassId} {σ : St} {c k : Nat} {x : Int32} (h0 : (hk c).1 = 0) (h1 : 52 ≤ c) (h2 : c < 93) : (subW (osN 11 52 41) ad cy σ).set (c - 51) (ad c, .inl (cy 0, (hk c).2, .inl (upd (σ.1 c) k x))) = subW (osN 11 52 41) ad cy (wr σ c k x) := by
  have hone : ∀ j, j ≠ c → ent ad cy (wr σ c k x) j = ent ad cy σ j := fun j hj => ent_setR hj
  apply List.ext_getElem?
  intro j
  rw [List.getElem?_set]
  by_cases hj : c - 51 = j
  · rw [if_pos hj, if_pos (by simp [subW, osN]; omega), ← hj, sub_get h1 h2, ent_i h0]
    simp [wr, setR]
  · rw [if_neg hj]
    rw [sub_0, sub_0]
    rcases j with _ | j
    · show some (ad 11, Sum.inr (11, _)) = some (ad 11, Sum.inr (11, _))
      have h11 : ent ad cy (wr σ c k x) 11 = ent ad cy σ 11 := hone 11 (by omega)
      rw [ent_o (by decide +kernel), ent_o (by decide +kernel)] at h11
      rw [show (48 : Nat) = (hk 11).2 by decide +kernel]
      rw [h11]
    · rw [List.getElem?_cons_succ, List.getElem?_cons_succ, List.getElem?_map, List.getElem?_map]
      by_cases hl : j < 41
      · rw [List.getElem?_range hl]
        show some (ad (52 + j), ent ad cy σ (52 + j)) = some (ad (52 + j), ent ad cy (wr σ c k x) (52 + j))
        rw [hone (52 + j) (by omega)]
      · rw [List.getElem?_eq_none (by rw [List.length_range]; omega)]
        rfl
set_option maxHeartbeats 1000000 in
theorem bodyS {p : Program} {l : Launch} {e : Env} {s : State} {m : MethodId} {args : Array Value} {below : List Frame} {meth : Method} {c : Code} {R : Room} {H0 : Heap} {cells slots : Nat} {Q : State → Prop} {D : va_G} {cy : Nat → ClassId} {A : Nat → Prop} {cc : ByteArray} {nl : Nat} {ls : Array Slot} {ad : Nat → Nat} {i N : Nat}
    (C : CtB D cy 11 cc nl p s m args meth c) (hl0 : ls[0]? = some (.val (.ref (ad 11)))) (hl1 : ls[1]? = some (.val (.int (nI i)))) (hi : i < N) (hN : N < 2 ^ 31) (L : List SpS) :
    ∀ (pc : Nat) (σ : St) (H : Heap) (locs : List Loc), okSs cc N pc L = true → va_P D vwCl (subW (osN 11 52 41) ad cy σ) H → va_D A (subW (osN 11 52 41) ad cy σ) → va_S A H0 H locs →
      (∀ (H1 : Heap) (locs1 : List Loc), va_P D vwCl (subW (osN 11 52 41) ad cy (stA σ i L)) H1 → va_D A (subW (osN 11 52 41) ad cy (stA σ i L)) → va_S A H0 H1 locs1 → W p l e R s m args below meth c H1 locs1 cells slots Q (F0 m (endS pc L) ls [])) →
      W p l e R s m args below meth c H locs cells slots Q (F0 m pc ls []) := by
  induction L with
  | nil => intro pc σ H locs _ hP hD hS kk; exact kk H locs hP hD hS
  | cons x L ih =>
    intro pc σ H locs hok hP hD hS kk
    obtain ⟨k, il, cw, ce, w, v⟩ := x
    obtain ⟨hx, hb, hml, hown, hts, hin, hK⟩ := id C
    simp only [okSs, Bool.and_eq_true, decide_eq_true_iff] at hok
    obtain ⟨⟨hok, hlen⟩, hoks⟩ := hok
    simp only [okS, Bool.and_eq_true, decide_eq_true_iff] at hok
    obtain ⟨⟨⟨⟨⟨⟨⟨⟨⟨⟨h1, h2⟩, h3⟩, h4⟩, h5⟩, h6⟩, h7⟩, h8⟩, h9⟩, h10⟩, h11⟩ := hok
    have g1 : 52 ≤ ce := Nat.le_of_ble_eq_true h9
    have g2 : ce < 93 := Nat.le_of_ble_eq_true h10
    have hk48 : k < 48 := Nat.le_of_ble_eq_true h6
    refine lv_aload_n hx hb h1 rfl hl0 ?_
    have hP0 := hP
    rw [sub_0] at hP0
    refine getR C (by decide) hP0 (v := .ref (ad ce)) (Nat.le_of_ble_eq_true h6) ?_ h7 h2 ?_
    · rw [List.getElem?_map, List.getElem?_range hk48]
      show some (fv ad σ 11 k) = _
      unfold fv
      rw [h8]
    refine lv_iload_n hx hb h3 rfl hl1 ?_
    refine pushV hx hb h4 ?_
    have he : (subW (osN 11 52 41) ad cy σ)[ce - 51]? = some (ad ce, .inl (cy 0, (hk ce).2, .inl (σ.1 ce))) := by rw [sub_get g1 g2, ent_i h11]
    refine va_iast hx hb hK hP hD hS (ce - 51) 0 he rfl (by rw [hlen]; exact vp_of hi hN) h5 ?_
    intro H1 locs1 hP1 hD1 hS1
    rw [nI_clamp (by omega), sub_set h11 g1 g2] at hP1 hD1
    refine ih _ _ H1 locs1 ?_ hP1 hD1 hS1 ?_
    · rw [show pc + 1 + 3 + 1 + w + 1 = pc + lenS (k, il, cw, ce, w, v) by simp only [lenS]; omega]
      exact hoks
    · intro H2 locs2 hP2 hD2 hS2
      have h := kk H2 locs2 hP2 hD2 hS2
      have e4 : endS pc ((k, il, cw, ce, w, v) :: L) = endS (pc + 1 + 3 + 1 + w + 1) L := by
        show endS (pc + lenS (k, il, cw, ce, w, v)) L = _
        rw [show pc + lenS (k, il, cw, ce, w, v) = pc + 1 + 3 + 1 + w + 1 by simp only [lenS]; omega]
      rw [e4] at h
      exact h
/-- a loop of stores: from its head -/
def okLp (b : ByteArray) (pc N w out : Nat) (st : List SpS) : Bool := decide (decode b pc = .ok (.iload_n 1, 1)) && okP b (pc + 1) w N && decide (Int32.ofInt N = nI N) && decide (decode b (pc + 1 + w) = .ok (.if_icmp .ge ((out : Int) - (pc + 1 + w : Nat)), 3)) && okSs b N (pc + 1 + w + 3) st && decide (decode b (endS (pc + 1 + w + 3) st) = .ok (.iinc 1 1, 3)) && decide (decode b (endS (pc + 1 + w + 3) st + 3) = .ok (.goto ((pc : Int) - (endS (pc + 1 + w + 3) st + 3 : Nat)), 3)) && Nat.ble N 200
set_option maxHeartbeats 1000000 in
theorem loopS {p : Program} {l : Launch} {e : Env} {s : State} {m : MethodId} {args : Array Value} {below : List Frame} {meth : Method} {c : Code} {R : Room} {H0 : Heap} {cells slots : Nat} {Q : State → Prop} {D : va_G} {cy : Nat → ClassId} {A : Nat → Prop} {cc : ByteArray} {ad : Nat → Nat} {N pc w out : Nat} {st : List SpS} {σ : St}
    (C : CtB D cy 11 cc 2 p s m args meth c) (hok : okLp cc pc N w out st = true)
    (kk : ∀ (H1 : Heap) (locs1 : List Loc) (ls : Array Slot), va_P D vwCl (subW (osN 11 52 41) ad cy (loopF σ st N)) H1 → va_D A (subW (osN 11 52 41) ad cy (loopF σ st N)) → va_S A H0 H1 locs1 → lv_has ls 2 [(0, .ref (ad 11))] → W p l e R s m args below meth c H1 locs1 cells slots Q (F0 m out ls [])) :
    ∀ (n i : Nat) (H : Heap) (locs : List Loc) (ls : Array Slot), i ≤ N → N - i < n → va_P D vwCl (subW (osN 11 52 41) ad cy (loopF σ st i)) H → va_D A (subW (osN 11 52 41) ad cy (loopF σ st i)) → va_S A H0 H locs → lv_has ls 2 [(1, .int (nI i)), (0, .ref (ad 11))] →
      W p l e R s m args below meth c H locs cells slots Q (F0 m pc ls []) := by
  simp only [okLp, Bool.and_eq_true, decide_eq_true_iff] at hok
  obtain ⟨⟨⟨⟨⟨⟨⟨h1, h2⟩, h3⟩, h4⟩, h5⟩, h6⟩, h7⟩, h8⟩ := hok
  have hN := Nat.le_of_ble_eq_true h8
  obtain ⟨hx, hb, hml, hown, hts, hin, hK⟩ := id C
  intro n
  induction n with
  | zero => intro i H locs ls a1 a2; omega
  | succ n ih =>
    intro i H locs ls hi hn hP hD hS hl
    refine lv_iload_n hx hb h1 rfl (lv_at hl 0 rfl) ?_
    refine pushV hx hb h2 ?_
    rw [h3]
    refine lv_icmp_ge (tgt := out) hx hb h4 (by omega) (fun h => ?_) (fun h => ?_)
    · have hiN : i = N := by
        have := (nI_leI (by omega) (by omega)).mp h
        omega
      subst hiN
      exact kk H locs ls hP hD hS (lv_sub hl [1] rfl)
    · have hlt : i < N := by
        rcases Nat.lt_or_ge i N with q | q
        · exact q
        · exact absurd ((nI_leI (by omega) (by omega)).mpr q) h
      refine bodyS C (lv_at hl 1 rfl) (lv_at hl 0 rfl) hlt (by omega) st _ _ H locs h5 hP hD hS ?_
      intro H1 locs1 hP1 hD1 hS1
      rw [loopF_1] at hP1 hD1
      refine lv_iinc (v := nI (i + 1)) hx hb h6 hl (k := 0) rfl (nI_1 i) (by decide) rfl (fun ls1 hl1 => ?_)
      refine lv_goto (tgt := pc) hx hb h7 (by omega) ?_
      exact ih (i + 1) H1 locs1 ls1 hlt (by omega) hP1 hD1 hS1 hl1
/-- cells that agree as far as they go -/
theorem ent_at {D : va_G} {ad : Nat → Nat} {cy : Nat → ClassId} {σ τ : St} {c : Nat} {H : Heap} (h2 : σ.2 = τ.2) (h : ∀ j, j < (hk c).2 → σ.1 c j = τ.1 c j) (hP : va_at D vwCl (ad c, ent ad cy σ c) H) : va_at D vwCl (ad c, ent ad cy τ c) H := by
  unfold ent at hP ⊢
  split at hP
  · rename_i h0
    rw [if_pos h0]
    show H[ad c]? = some (vp_cell _ _)
    rw [← arr_congr h]
    exact hP
  · rename_i h0
    rw [if_neg h0]
    split at hP
    · rename_i h1
      rw [if_pos h1]
      show H[ad c]? = some (vp_cell _ _)
      rw [← arr_congr h]
      exact hP
    · rename_i h1
      rw [if_neg h1]
      split at hP
      · rename_i h3
        rw [if_pos h3, ← h2]
        exact hP
      · rename_i h3
        rw [if_neg h3]
        have e1 : (List.range (hk c).2).map (fv ad τ c) = (List.range (hk c).2).map (fv ad σ c) := by
          apply List.map_congr_left
          intro k hk9
          have hk8 := List.mem_range.mp hk9
          unfold fv
          split
          · rfl
          · rw [h k hk8]
        rw [e1]
        exact hP
theorem subW_at {D : va_G} {os : List Nat} {ad : Nat → Nat} {cy : Nat → ClassId} {σ τ : St} {H : Heap} (h2 : σ.2 = τ.2) (h : ∀ c, c ∈ os → ∀ j, j < (hk c).2 → σ.1 c j = τ.1 c j) (hP : va_P D vwCl (subW os ad cy σ) H) : va_P D vwCl (subW os ad cy τ) H := by
  intro k q hq
  unfold subW at hq
  rw [List.getElem?_map] at hq
  cases hk9 : os[k]? with
  | none => rw [hk9] at hq; cases hq
  | some c =>
    rw [hk9] at hq
    cases hq
    refine ent_at h2 (h c (List.mem_of_getElem? hk9)) (hP k (ad c, ent ad cy σ c) ?_)
    unfold subW
    rw [List.getElem?_map, hk9]
    rfl
theorem subW_D {A : Nat → Prop} {os : List Nat} {ad : Nat → Nat} {cy : Nat → ClassId} {σ τ : St} (hD : va_D A (subW os ad cy σ)) : va_D A (subW os ad cy τ) := by
  have key : ∀ (k : Nat) (q : Nat × va_E), (subW os ad cy τ)[k]? = some q → ∃ q', (subW os ad cy σ)[k]? = some q' ∧ q'.1 = q.1 := by
    intro k q hq
    unfold subW at hq ⊢
    rw [List.getElem?_map] at hq ⊢
    cases hk9 : os[k]? with
    | none => rw [hk9] at hq; cases hq
    | some c =>
      rw [hk9] at hq
      cases hq
      exact ⟨_, rfl, rfl⟩
  constructor
  · intro i j x y h1 h2 he
    obtain ⟨x', a1, a2⟩ := key i x h1
    obtain ⟨y', b1, b2⟩ := key j y h2
    exact hD.1 i j x' y' a1 b1 (by rw [a2, b2, he])
  · intro k q hq
    obtain ⟨q', a1, a2⟩ := key k q hq
    rw [← a2]
    exact hD.2 k q' a1
