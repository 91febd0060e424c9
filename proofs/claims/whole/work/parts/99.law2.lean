/-! THE LAW: one row of the script -/
def e1G (pc : Nat) (ks : List Nat) : Nat := endG (pc + 1) ks
def e2G (pc : Nat) (ks : List Nat) : Nat := endG (e1G pc ks + 3 + 1) ks
def okC2 (pc : Nat) (ks : List Nat) (z1 z2 i1 i2 w1 w2 : Nat) : Bool := decide (decode code pc = .ok (.aload_n 1, 1)) && okArgs (pc + 1) ks && decide (decode code (e1G pc ks) = .ok (.invokevirtual i1, 3)) && decide (decode code (e1G pc ks + 3) = .ok (.aload_n 2, 1)) && okArgs (e1G pc ks + 3 + 1) ks && decide (decode code (e2G pc ks) = .ok (.invokevirtual i2, 3)) && okV z1 10 ks.length i1 w1 && okV z2 11 ks.length i2 w2
def okCI (pc : Nat) (ks : List Nat) (z1 z2 i1 i2 w1 w2 : Nat) : Bool := okC2 pc ks z1 z2 i1 i2 w1 w2 && decide (decode code (e2G pc ks + 3) = .ok (.if_icmp .eq ((1662 : Int) - (e2G pc ks + 3 : Nat)), 3))
def okCJ (pc : Nat) (ks : List Nat) (z1 z2 i1 i2 w1 w2 : Nat) : Bool := okC2 pc ks z1 z2 i1 i2 w1 w2 && decide (decode code (e2G pc ks + 3) = .ok (.lcmp, 1)) && decide (decode code (e2G pc ks + 3 + 1) = .ok (.ifCond .eq ((1662 : Int) - (e2G pc ks + 3 + 1 : Nat)), 3))
section LAW
variable {p : Program} {l : Launch} {e : Env} {s : State} {m : MethodId} {below : List Frame} {meth : Method} {c : Code} {Hc : Heap} {Q : State → Prop} {D : va_G} {cy : Nat → ClassId} {ls : Array Slot} {b L i : Nat} {xs : Nat → Int32} {ad : Nat → Nat}
/-- from a place in the law's loop to its end, whatever the state -/
def LG (p : Program) (l : Launch) (e : Env) (s : State) (m : MethodId) (below : List Frame) (meth : Method) (c : Code) (Hc : Heap) (Q : State → Prop) (D : va_G) (cy : Nat → ClassId) (ls : Array Slot) (b : Nat) (ad : Nat → Nat) (pc : Nat) : Prop :=
  ∀ (σ : St) (H : Heap) (locs : List Loc), Rel σ → va_P D vwCl (wsW ad cy σ) H → va_S (adA ad) Hc H locs → W p l e room_1 s m #[Value.ref b] below meth c H locs 93 9420 Q (F0 m pc ls [])
/-- what stays through the loop -/
def LK (D : va_G) (cy : Nat → ClassId) (p : Program) (s : State) (m : MethodId) (b L : Nat) (xs : Nat → Int32) (meth : Method) (c : Code) (Hc : Heap) (ad : Nat → Nat) : Prop :=
  injW ad ∧ LwC D cy p s m b L xs meth c ∧ va_X b L xs s Hc ∧ b < Hc.size ∧ ¬ adA ad b ∧ L ≤ 3584
theorem call2 {ks : List Nat} {z1 z2 i1 i2 w1 w2 pc : Nat} {r1 r2 : Value} {σ σ1 σ2 : St} {H : Heap} {locs : List Loc} (K : LK D cy p s m b L xs meth c Hc ad) (hl : lv_has ls 4 [(3, .int (nI i)), (0, .ref b), (1, .ref (ad 10)), (2, .ref (ad 11))]) (hi : i + 7 ≤ L) (hok : okC2 pc ks z1 z2 i1 i2 w1 w2 = true) (hr1 : Ret z1 (.ref 10 :: ks.map fun k => Value.int (xs (i + k))) σ [r1] σ1) (hr2 : Ret z2 (.ref 11 :: ks.map fun k => Value.int (xs (i + k))) σ1 [r2] σ2) (hcv : cv ad r1 = r1 ∧ cv ad r2 = r2 ∧ r1.category ≤ 2)
    (hP : va_P D vwCl (wsW ad cy σ) H) (hS : va_S (adA ad) Hc H locs)
    (kk : ∀ (H1 : Heap) (locs1 : List Loc), va_P D vwCl (wsW ad cy σ2) H1 → va_S (adA ad) Hc H1 locs1 → W p l e room_1 s m #[Value.ref b] below meth c H1 locs1 93 9420 Q (F0 m (e2G pc ks + 3) ls [r2, r1])) : W p l e room_1 s m #[Value.ref b] below meth c H locs 93 9420 Q (F0 m pc ls []) := by
  obtain ⟨hinj, C, hX, hbl, hbA, hL⟩ := K
  obtain ⟨hx, hb, -⟩ := id C
  simp only [okC2, Bool.and_eq_true, decide_eq_true_iff] at hok
  obtain ⟨⟨⟨⟨⟨⟨⟨h1, h2⟩, h3⟩, h4⟩, h5⟩, h6⟩, h7⟩, h8⟩ := hok
  have hl0 := lv_at hl 1 rfl
  have hl3 := lv_at hl 0 rfl
  have hmap : (ks.map fun k => xs (i + k)).map Value.int = ks.map fun k => Value.int (xs (i + k)) := by rw [List.map_map]; rfl
  have hlen : (ks.map fun k => xs (i + k)).length = ks.length := List.length_map _
  refine lv_aload_n hx hb h1 rfl (lv_at hl 2 rfl) ?_
  refine argsL C hX hbl hbA hS hl0 hl3 hL hi ks (pc + 1) _ h2 ?_
  rw [← hmap] at hr1 hr2 ⊢
  refine callL hinj C hl.1 hP hS (as := ks.map fun k => xs (i + k)) (by rw [hlen]; exact h7) (Nat.le_of_ble_eq_true rfl) h3 hr1 ⟨Nat.le_refl _, Nat.le_refl _⟩ (fun H1 locs1 hP1 hS1 => ?_)
  have e1 : [r1].map (cv ad) ++ [] = [r1] := by simp [hcv.1]
  rw [e1]
  refine lv_aload_n hx hb h4 rfl (lv_at hl 3 rfl) ?_
  refine argsL C hX hbl hbA hS1 hl0 hl3 hL hi ks _ _ h5 ?_
  rw [← hmap]
  refine callL hinj C hl.1 hP1 hS1 (as := ks.map fun k => xs (i + k)) (rest := [r1]) (by rw [hlen]; exact h8) (by show r1.category + 0 ≤ 8; omega) h6 hr2 ⟨Nat.le_refl _, Nat.le_refl _⟩ (fun H2 locs2 hP2 hS2 => ?_)
  have e2 : [r2].map (cv ad) ++ [r1] = [r2, r1] := by simp [hcv.2.1]
  rw [e2]
  exact kk H2 locs2 hP2 hS2
theorem caseI {ks : List Nat} {z1 z2 i1 i2 w1 w2 pc : Nat} (K : LK D cy p s m b L xs meth c Hc ad) (hl : lv_has ls 4 [(3, .int (nI i)), (0, .ref b), (1, .ref (ad 10)), (2, .ref (ad 11))]) (hi : i + 7 ≤ L) (hok : okCI pc ks z1 z2 i1 i2 w1 w2 = true) (hp : ∀ σ, Rel σ → PairI z1 z2 (ks.map fun k => Value.int (xs (i + k))) σ) (kk : LG p l e s m below meth c Hc Q D cy ls b ad 1662) : LG p l e s m below meth c Hc Q D cy ls b ad pc := by
  intro σ H locs hR hP hS
  obtain ⟨hx, hb, -⟩ := id K.2.1
  obtain ⟨r, σ1, σ2, hr1, hr2, hR2⟩ := hp σ hR
  simp only [okCI, Bool.and_eq_true, decide_eq_true_iff] at hok
  refine call2 K hl hi hok.1 hr1 hr2 ⟨rfl, rfl, by show 1 ≤ 2; decide⟩ hP hS (fun H1 locs1 hP1 hS1 => ?_)
  refine lv_icmp_eq (tgt := 1662) hx hb hok.2 (by omega) (fun _ => ?_) (fun h => absurd rfl h)
  exact kk σ2 H1 locs1 hR2 hP1 hS1
theorem caseJ {ks : List Nat} {z1 z2 i1 i2 w1 w2 pc : Nat} (K : LK D cy p s m b L xs meth c Hc ad) (hl : lv_has ls 4 [(3, .int (nI i)), (0, .ref b), (1, .ref (ad 10)), (2, .ref (ad 11))]) (hi : i + 7 ≤ L) (hok : okCJ pc ks z1 z2 i1 i2 w1 w2 = true) (hp : ∀ σ, Rel σ → PairJ z1 z2 (ks.map fun k => Value.int (xs (i + k))) σ) (kk : LG p l e s m below meth c Hc Q D cy ls b ad 1662) : LG p l e s m below meth c Hc Q D cy ls b ad pc := by
  intro σ H locs hR hP hS
  obtain ⟨hx, hb, -⟩ := id K.2.1
  obtain ⟨r, σ1, σ2, hr1, hr2, hR2⟩ := hp σ hR
  simp only [okCJ, Bool.and_eq_true, decide_eq_true_iff] at hok
  refine call2 K hl hi hok.1.1 hr1 hr2 ⟨rfl, rfl, by show 2 ≤ 2; decide⟩ hP hS (fun H1 locs1 hP1 hS1 => ?_)
  refine W.lcmp hx hb hok.1.2 ?_
  have e0 : lg_cmp r r = 0 := by
    unfold lg_cmp
    rw [if_neg (by exact Int64.lt_irrefl), if_pos rfl]
  rw [e0]
  refine lv_if_eq (tgt := 1662) hx hb hok.2 (by omega) (fun _ => ?_) (fun h => absurd rfl h)
  exact kk σ2 H1 locs1 hR2 hP1 hS1
theorem d_s1056 : decode code 1056 = .ok (.ifCond .eq 7, 3) := by decide +kernel
theorem d_s1059 : decode code 1059 = .ok (.iconst 1, 1) := by decide +kernel
theorem d_s1060 : decode code 1060 = .ok (.goto 4, 3) := by decide +kernel
theorem d_s1063 : decode code 1063 = .ok (.iconst 0, 1) := by decide +kernel
theorem d_s1078 : decode code 1078 = .ok (.ifCond .eq 7, 3) := by decide +kernel
theorem d_s1081 : decode code 1081 = .ok (.iconst 1, 1) := by decide +kernel
theorem d_s1082 : decode code 1082 = .ok (.goto 4, 3) := by decide +kernel
theorem d_s1085 : decode code 1085 = .ok (.iconst 0, 1) := by decide +kernel
theorem d_s1045 : decode code 1045 = .ok (.aload_n 1, 1) := by decide +kernel
theorem d_s1064 : decode code 1064 = .ok (.invokevirtual 109, 3) := by decide +kernel
theorem d_s1067 : decode code 1067 = .ok (.aload_n 2, 1) := by decide +kernel
theorem d_s1086 : decode code 1086 = .ok (.invokevirtual 113, 3) := by decide +kernel
theorem d_s1089 : decode code 1089 = .ok (.if_icmp .eq 573, 3) := by decide +kernel
theorem o_s1046 : okArgs 1046 [1, 2] = true := by decide +kernel
theorem o_s1068 : okArgs 1068 [1, 2] = true := by decide +kernel
theorem v_s1 : okV 93 10 2 109 763 = true := by decide +kernel
theorem v_s2 : okV 175 11 2 113 1340 = true := by decide +kernel
def bI2 (x : Int32) : Int32 := if x = 0 then 0 else 1
theorem caseS (K : LK D cy p s m b L xs meth c Hc ad) (hl : lv_has ls 4 [(3, .int (nI i)), (0, .ref b), (1, .ref (ad 10)), (2, .ref (ad 11))]) (hi : i + 7 ≤ L) (kk : LG p l e s m below meth c Hc Q D cy ls b ad 1662) : LG p l e s m below meth c Hc Q D cy ls b ad 1045 := by
  intro σ H locs hR hP hS
  obtain ⟨hinj, C, hX, hbl, hbA, hL⟩ := K
  obtain ⟨hx, hb, -⟩ := id C
  have hl0 := lv_at hl 1 rfl
  have hl3 := lv_at hl 0 rfl
  obtain ⟨r, σ1, σ2, hr1, hr2, hR2⟩ := p_sunk (σ := σ) (a := xs (i + 1)) (b := bI2 (xs (i + 2))) (by unfold bI2; split <;> simp) hR
  refine lv_aload_n hx hb d_s1045 rfl (lv_at hl 2 rfl) ?_
  refine argsL C hX hbl hbA hS hl0 hl3 hL hi [1, 2] 1046 _ o_s1046 ?_
  refine W.eq (g2 := F0 m 1056 ls [.int (xs (i + 2)), .int (xs (i + 1)), .ref (ad 10)]) rfl ?_
  have fin1 : W p l e room_1 s m #[Value.ref b] below meth c H locs 93 9420 Q (F0 m 1064 ls [.int (bI2 (xs (i + 2))), .int (xs (i + 1)), .ref (ad 10)]) := by
    refine callL hinj C hl.1 hP hS (as := [xs (i + 1), bI2 (xs (i + 2))]) (rest := []) v_s1 (Nat.le_of_ble_eq_true rfl) d_s1064 hr1 ⟨Nat.le_refl _, Nat.le_refl _⟩ (fun H1 locs1 hP1 hS1 => ?_)
    refine lv_aload_n (i := 2) hx hb d_s1067 rfl (lv_at hl 3 rfl) ?_
    refine argsL C hX hbl hbA hS1 hl0 hl3 hL hi [1, 2] 1068 _ o_s1068 ?_
    refine W.eq (g2 := F0 m 1078 ls [.int (xs (i + 2)), .int (xs (i + 1)), .ref (ad 11), .int r]) rfl ?_
    have fin2 : W p l e room_1 s m #[Value.ref b] below meth c H1 locs1 93 9420 Q (F0 m 1086 ls [.int (bI2 (xs (i + 2))), .int (xs (i + 1)), .ref (ad 11), .int r]) := by
      refine callL hinj C hl.1 hP1 hS1 (as := [xs (i + 1), bI2 (xs (i + 2))]) (rest := [.int r]) v_s2 (Nat.le_of_ble_eq_true rfl) d_s1086 hr2 ⟨Nat.le_refl _, Nat.le_refl _⟩ (fun H2 locs2 hP2 hS2 => ?_)
      refine lv_icmp_eq (tgt := 1662) (x := r) (y := r) hx hb d_s1089 (by decide) (fun _ => ?_) (fun h => absurd rfl h)
      exact kk σ2 H2 locs2 hR2 hP2 hS2
    refine lv_if_eq (tgt := 1085) hx hb d_s1078 (by decide) (fun h => ?_) (fun h => ?_)
    · refine lv_iconst (v := 0) hx hb d_s1085 (by decide) ?_
      rw [show bI2 (xs (i + 2)) = 0 from if_pos h] at fin2
      exact fin2
    · refine lv_iconst (v := 1) hx hb d_s1081 (by decide) ?_
      refine lv_goto (tgt := 1086) hx hb d_s1082 (by decide) ?_
      rw [show bI2 (xs (i + 2)) = 1 from if_neg h] at fin2
      exact fin2
  refine lv_if_eq (tgt := 1063) hx hb d_s1056 (by decide) (fun h => ?_) (fun h => ?_)
  · refine lv_iconst (v := 0) hx hb d_s1063 (by decide) ?_
    rw [show bI2 (xs (i + 2)) = 0 from if_pos h] at fin1
    exact fin1
  · refine lv_iconst (v := 1) hx hb d_s1059 (by decide) ?_
    refine lv_goto (tgt := 1064) hx hb d_s1060 (by decide) ?_
    rw [show bI2 (xs (i + 2)) = 1 from if_neg h] at fin1
    exact fin1
end LAW
