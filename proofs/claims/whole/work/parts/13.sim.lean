/-! ONE INSTRUCTION -/
theorem okE_spec {y pc : Nat} {ins : Instr} {ln a b c : Nat} {v : Value} (h : okE y pc (ins, ln, a, b, c, v) = true) : decode (mB y) pc = .ok (ins, ln) ∧ okL ins ln = true ∧ okX y pc ins a b c v = true := by
  simp only [okE, Bool.and_eq_true, decide_eq_true_iff] at h
  exact ⟨h.1, h.2.1, h.2.2⟩
theorem lt_ge {x z : Int32} : ¬ z ≤ x → x < z := fun h => Int32.not_le.mp h
theorem ge_lt {x z : Int32} : z ≤ x → ¬ x < z := fun h => Int32.not_lt.mpr h
theorem le_gt {x z : Int32} : ¬ z < x → x ≤ z := fun h => Int32.not_lt.mp h
theorem gt_le {x z : Int32} : z < x → ¬ x ≤ z := fun h => Int32.not_le.mpr h
set_option maxHeartbeats 4000000 in
set_option maxRecDepth 100000 in
theorem simI (l : Launch) (D : va_G) (ad : Nat → Nat) (cy : Nat → ClassId) (hi : injW ad) : ∀ (y pc : Nat) (lv st : List Value) (σ : St) (R : List Value) (S : St), stepA (PM l D ad cy) y pc lv st σ R S → PM l D ad cy y pc lv st σ R S := by
  intro y pc lv st σ R S h hy hlv p e s m args below meth c H locs ls Rm cells slots Qf hC hP hS hL hfin
  unfold stepA at h
  split at h
  case h_2 => exact h.elim
  rename_i en he
  have hok := codeOf_ok he hy
  clear he
  obtain ⟨hx, hb, hml, hown, hts, hnw, hrm, hK⟩ := id hC
  have hD : ∀ σ1, va_D (adA ad) (wsW ad cy σ1) := vaD_wsW hi
  have K : ∀ {pc1 : Nat} {lv1 st1 : List Value} {σ1 : St} {H1 : Heap} {locs1 : List Loc} {ls1 : Array Slot}, PM l D ad cy y pc1 lv1 st1 σ1 R S → lv1.length = mL y → va_P D vwCl (wsW ad cy σ1) H1 → va_S (adA ad) s.heap H1 locs1 → LV ad ls1 lv1 → W p l e Rm s m args below meth c H1 locs1 cells slots Qf (F0 m pc1 ls1 (st1.map (cv ad))) := fun q a1 b1 c1 d1 => q hy a1 p e s m args below meth c _ _ _ Rm cells slots Qf hC b1 c1 d1 hfin
  obtain ⟨ins, ln, a, b, cp, v⟩ := en
  have hok2 := okE_spec hok
  clear hok
  obtain ⟨hdg, hln, hok⟩ := hok2
  cases ins
  case iconst n => 
    have hln : ln = 1 := Nat.eq_of_beq_eq_true hln
    subst hln
    have hok := of_decide_eq_true hok
    subst hok
    exact lv_iconst hx hb hdg rfl (K h hlv hP hS hL)
  case bipush n => 
    have hln : ln = 2 := Nat.eq_of_beq_eq_true hln
    subst hln
    have hok := of_decide_eq_true hok
    subst hok
    exact lv_bipush hx hb hdg rfl (K h hlv hP hS hL)
  case sipush n => 
    have hln : ln = 3 := Nat.eq_of_beq_eq_true hln
    subst hln
    have hok := of_decide_eq_true hok
    subst hok
    exact lv_sipush hx hb hdg rfl (K h hlv hP hS hL)
  case lconst n => 
    have hln : ln = 1 := Nat.eq_of_beq_eq_true hln
    subst hln
    have hok := of_decide_eq_true hok
    subst hok
    exact lv_lconst hx hb hdg rfl (K h hlv hP hS hL)
  case ldc n => 
    have hln : ln = 2 := Nat.eq_of_beq_eq_true hln
    subst hln
    cases v <;> first | exact lv_ldc hx hb hown (hts _ (inG_mem hok)) hdg (K h hlv hP hS hL) | exact absurd hok (by simp [okX])
  case ldc_w n => 
    have hln : ln = 3 := Nat.eq_of_beq_eq_true hln
    subst hln
    cases v <;> first | exact lv_ldcw hx hb hown (hts _ (inG_mem hok)) hdg (K h hlv hP hS hL) | exact absurd hok (by simp [okX])
  case ldc2_w n => 
    have hln : ln = 3 := Nat.eq_of_beq_eq_true hln
    subst hln
    cases v <;> first | exact lv_ldc2 hx hb hown (hts _ (inG_mem hok)) hdg (K h hlv hP hS hL) | exact absurd hok (by simp [okX])
  case iload n => 
    have hln : ln = 2 := Nat.eq_of_beq_eq_true hln
    subst hln
    have hok : _ = a := Nat.eq_of_beq_eq_true hok
    subst hok
    simp only [stepC] at h
    split at h
    case h_2 => exact h.elim
    rename_i x hv
    exact lv_iload hx hb hdg (LV.at hL hv (fun q => by cases q)) (K h hlv hP hS hL)
  case lload n => 
    have hln : ln = 2 := Nat.eq_of_beq_eq_true hln
    subst hln
    have hok : _ = a := Nat.eq_of_beq_eq_true hok
    subst hok
    simp only [stepC] at h
    split at h
    case h_2 => exact h.elim
    rename_i x hv
    exact lv_lload hx hb hdg (LV.at hL hv (fun q => by cases q)) (K h hlv hP hS hL)
  case aload n => 
    have hln : ln = 2 := Nat.eq_of_beq_eq_true hln
    subst hln
    have hok : _ = a := Nat.eq_of_beq_eq_true hok
    subst hok
    simp only [stepC] at h
    split at h
    case h_2 => exact h.elim
    rename_i x hv
    exact lv_aload hx hb hdg (LV.at hL hv (fun q => by cases q)) (K h hlv hP hS hL)
  case iload_n n => 
    have hln : ln = 1 := Nat.eq_of_beq_eq_true hln
    subst hln
    have hok : _ = a := Nat.eq_of_beq_eq_true hok
    subst hok
    simp only [stepC] at h
    split at h
    case h_2 => exact h.elim
    rename_i x hv
    exact lv_iload_n hx hb hdg rfl (LV.at hL hv (fun q => by cases q)) (K h hlv hP hS hL)
  case lload_n n => 
    have hln : ln = 1 := Nat.eq_of_beq_eq_true hln
    subst hln
    have hok : _ = a := Nat.eq_of_beq_eq_true hok
    subst hok
    simp only [stepC] at h
    split at h
    case h_2 => exact h.elim
    rename_i x hv
    exact lv_lload_n hx hb hdg rfl (LV.at hL hv (fun q => by cases q)) (K h hlv hP hS hL)
  case aload_n n => 
    have hln : ln = 1 := Nat.eq_of_beq_eq_true hln
    subst hln
    have hok : _ = a := Nat.eq_of_beq_eq_true hok
    subst hok
    simp only [stepC] at h
    split at h
    case h_2 => exact h.elim
    rename_i x hv
    exact lv_aload_n hx hb hdg rfl (LV.at hL hv (fun q => by cases q)) (K h hlv hP hS hL)
  case istore n => 
    have hln : ln = 2 := Nat.eq_of_beq_eq_true hln
    subst hln
    have hok := (Bool.and_eq_true _ _).mp hok
    have ha : _ = a := Nat.eq_of_beq_eq_true hok.1
    subst ha
    have hlt := Nat.le_of_ble_eq_true hok.2
    simp only [stepC] at h
    split at h
    case h_2 => exact h.elim
    exact lv_istore hx hb hdg hL.has (by rw [hlv]; exact hlt) rfl (fun ls1 hl1 => K h (by rw [st1V_len]; exact hlv) hP hS (LV.st1 hl1))
  case istore_n n => 
    have hln : ln = 1 := Nat.eq_of_beq_eq_true hln
    subst hln
    have hok := (Bool.and_eq_true _ _).mp hok
    have ha : _ = a := Nat.eq_of_beq_eq_true hok.1
    subst ha
    have hlt := Nat.le_of_ble_eq_true hok.2
    simp only [stepC] at h
    split at h
    case h_2 => exact h.elim
    exact lv_istore_n hx hb hdg rfl hL.has (by rw [hlv]; exact hlt) rfl (fun ls1 hl1 => K h (by rw [st1V_len]; exact hlv) hP hS (LV.st1 hl1))
  case lstore n => 
    have hln : ln = 2 := Nat.eq_of_beq_eq_true hln
    subst hln
    have hok := (Bool.and_eq_true _ _).mp hok
    have ha : _ = a := Nat.eq_of_beq_eq_true hok.1
    subst ha
    have hlt := Nat.le_of_ble_eq_true hok.2
    simp only [stepC] at h
    split at h
    case h_2 => exact h.elim
    exact lv_lstore hx hb hdg hL.has (by rw [hlv]; exact hlt) rfl (fun ls1 hl1 => K h (by rw [st2V_len]; exact hlv) hP hS (LV.st2 hl1))
  case lstore_n n => 
    have hln : ln = 1 := Nat.eq_of_beq_eq_true hln
    subst hln
    have hok := (Bool.and_eq_true _ _).mp hok
    have ha : _ = a := Nat.eq_of_beq_eq_true hok.1
    subst ha
    have hlt := Nat.le_of_ble_eq_true hok.2
    simp only [stepC] at h
    split at h
    case h_2 => exact h.elim
    exact lv_lstore_n hx hb hdg rfl hL.has (by rw [hlv]; exact hlt) rfl (fun ls1 hl1 => K h (by rw [st2V_len]; exact hlv) hP hS (LV.st2 hl1))
  case iinc i n => 
    have hln : ln = 3 := Nat.eq_of_beq_eq_true hln
    subst hln
    have hok := (Bool.and_eq_true _ _).mp hok
    have hok1 := (Bool.and_eq_true _ _).mp hok.1
    have ha : _ = a := Nat.eq_of_beq_eq_true hok1.1
    subst ha
    have hlt := Nat.le_of_ble_eq_true hok1.2
    have hv := of_decide_eq_true hok.2
    subst hv
    simp only [stepC] at h
    split at h
    case h_2 => exact h.elim
    rename_i x hvx
    have hmem : (i, Value.int x) ∈ prV ad lv := prV_getD hvx (fun q => by cases q)
    obtain ⟨k, hk⟩ := List.mem_iff_getElem?.mp hmem
    exact lv_iinc hx hb hdg hL.has hk rfl (by rw [hlv]; exact hlt) rfl (fun ls1 hl1 => K h (by rw [st1V_len]; exact hlv) hP hS (LV.st1 hl1))
  case iadd => 
    have hln : ln = 1 := Nat.eq_of_beq_eq_true hln
    subst hln
    simp only [stepC] at h
    split at h
    case h_2 => exact h.elim
    exact lv_iadd hx hb hdg (K h hlv hP hS hL)
  case isub => 
    have hln : ln = 1 := Nat.eq_of_beq_eq_true hln
    subst hln
    simp only [stepC] at h
    split at h
    case h_2 => exact h.elim
    exact lv_isub hx hb hdg (K h hlv hP hS hL)
  case imul => 
    have hln : ln = 1 := Nat.eq_of_beq_eq_true hln
    subst hln
    simp only [stepC] at h
    split at h
    case h_2 => exact h.elim
    exact lv_imul hx hb hdg (K h hlv hP hS hL)
  case iand => 
    have hln : ln = 1 := Nat.eq_of_beq_eq_true hln
    subst hln
    simp only [stepC] at h
    split at h
    case h_2 => exact h.elim
    exact lv_iand hx hb hdg (K h hlv hP hS hL)
  case ior => 
    have hln : ln = 1 := Nat.eq_of_beq_eq_true hln
    subst hln
    simp only [stepC] at h
    split at h
    case h_2 => exact h.elim
    exact lv_ior hx hb hdg (K h hlv hP hS hL)
  case ixor => 
    have hln : ln = 1 := Nat.eq_of_beq_eq_true hln
    subst hln
    simp only [stepC] at h
    split at h
    case h_2 => exact h.elim
    exact lv_ixor hx hb hdg (K h hlv hP hS hL)
  case ishl => 
    have hln : ln = 1 := Nat.eq_of_beq_eq_true hln
    subst hln
    simp only [stepC] at h
    split at h
    case h_2 => exact h.elim
    exact lv_ishl hx hb hdg (K h hlv hP hS hL)
  case ishr => 
    have hln : ln = 1 := Nat.eq_of_beq_eq_true hln
    subst hln
    simp only [stepC] at h
    split at h
    case h_2 => exact h.elim
    exact lv_ishr hx hb hdg (K h hlv hP hS hL)
  case ladd => 
    have hln : ln = 1 := Nat.eq_of_beq_eq_true hln
    subst hln
    simp only [stepC] at h
    split at h
    case h_2 => exact h.elim
    exact lv_ladd hx hb hdg (K h hlv hP hS hL)
  case lsub => 
    have hln : ln = 1 := Nat.eq_of_beq_eq_true hln
    subst hln
    simp only [stepC] at h
    split at h
    case h_2 => exact h.elim
    exact lv_lsub hx hb hdg (K h hlv hP hS hL)
  case lmul => 
    have hln : ln = 1 := Nat.eq_of_beq_eq_true hln
    subst hln
    simp only [stepC] at h
    split at h
    case h_2 => exact h.elim
    exact lv_lmul hx hb hdg (K h hlv hP hS hL)
  case land => 
    have hln : ln = 1 := Nat.eq_of_beq_eq_true hln
    subst hln
    simp only [stepC] at h
    split at h
    case h_2 => exact h.elim
    exact lv_land hx hb hdg (K h hlv hP hS hL)
  case lor => 
    have hln : ln = 1 := Nat.eq_of_beq_eq_true hln
    subst hln
    simp only [stepC] at h
    split at h
    case h_2 => exact h.elim
    exact lv_lor hx hb hdg (K h hlv hP hS hL)
  case lxor => 
    have hln : ln = 1 := Nat.eq_of_beq_eq_true hln
    subst hln
    simp only [stepC] at h
    split at h
    case h_2 => exact h.elim
    exact lv_lxor hx hb hdg (K h hlv hP hS hL)
  case ineg => 
    have hln : ln = 1 := Nat.eq_of_beq_eq_true hln
    subst hln
    simp only [stepC] at h
    split at h
    case h_2 => exact h.elim
    exact lv_ineg hx hb hdg (K h hlv hP hS hL)
  case iushr => 
    have hln : ln = 1 := Nat.eq_of_beq_eq_true hln
    subst hln
    simp only [stepC] at h
    split at h
    case h_2 => exact h.elim
    exact lv_iushr hx hb hdg rfl (K h hlv hP hS hL)
  case lshl => 
    have hln : ln = 1 := Nat.eq_of_beq_eq_true hln
    subst hln
    simp only [stepC] at h
    split at h
    case h_2 => exact h.elim
    exact lv_lshl hx hb hdg rfl (K h hlv hP hS hL)
  case lshr => 
    have hln : ln = 1 := Nat.eq_of_beq_eq_true hln
    subst hln
    simp only [stepC] at h
    split at h
    case h_2 => exact h.elim
    exact lv_lshr hx hb hdg rfl (K h hlv hP hS hL)
  case lushr => 
    have hln : ln = 1 := Nat.eq_of_beq_eq_true hln
    subst hln
    simp only [stepC] at h
    split at h
    case h_2 => exact h.elim
    exact lv_lushr hx hb hdg rfl (K h hlv hP hS hL)
  case i2l => 
    have hln : ln = 1 := Nat.eq_of_beq_eq_true hln
    subst hln
    simp only [stepC] at h
    split at h
    case h_2 => exact h.elim
    exact lv_i2l hx hb hdg rfl (K h hlv hP hS hL)
  case l2i => 
    have hln : ln = 1 := Nat.eq_of_beq_eq_true hln
    subst hln
    simp only [stepC] at h
    split at h
    case h_2 => exact h.elim
    exact lv_l2i hx hb hdg rfl (K h hlv hP hS hL)
  case lcmp => 
    have hln : ln = 1 := Nat.eq_of_beq_eq_true hln
    subst hln
    simp only [stepC] at h
    split at h
    case h_2 => exact h.elim
    exact W.lcmp hx hb hdg (K h hlv hP hS hL)
  case idiv => 
    have hln : ln = 1 := Nat.eq_of_beq_eq_true hln
    subst hln
    simp only [stepC] at h
    split at h
    case h_2 => exact h.elim
    exact lv_idiv hx hb hdg h.1 (K h.2 hlv hP hS hL)
  case irem => 
    have hln : ln = 1 := Nat.eq_of_beq_eq_true hln
    subst hln
    simp only [stepC] at h
    split at h
    case h_2 => exact h.elim
    exact lv_irem hx hb hdg h.1 (K h.2 hlv hP hS hL)
  case ldiv => 
    have hln : ln = 1 := Nat.eq_of_beq_eq_true hln
    subst hln
    simp only [stepC] at h
    split at h
    case h_2 => exact h.elim
    exact lv_ldiv hx hb hdg h.1 (K h.2 hlv hP hS hL)
  case lrem => 
    have hln : ln = 1 := Nat.eq_of_beq_eq_true hln
    subst hln
    simp only [stepC] at h
    split at h
    case h_2 => exact h.elim
    exact lv_lrem hx hb hdg h.1 (K h.2 hlv hP hS hL)
  case dup => 
    have hln : ln = 1 := Nat.eq_of_beq_eq_true hln
    subst hln
    simp only [stepC] at h
    split at h
    case h_3 => exact h.elim
    all_goals exact lv_dup hx hb hdg rfl (K h hlv hP hS hL)
  case dup2 => 
    have hln : ln = 1 := Nat.eq_of_beq_eq_true hln
    subst hln
    simp only [stepC] at h
    split at h
    case h_2 => exact h.elim
    exact lv_dup2_11 hx hb hdg rfl rfl (K h hlv hP hS hL)
  case pop => 
    have hln : ln = 1 := Nat.eq_of_beq_eq_true hln
    subst hln
    simp only [stepC] at h
    split at h
    case h_2 => exact h.elim
    exact lv_pop hx hb hdg rfl (K h hlv hP hS hL)
  case goto off => 
    have hln : ln = 3 := Nat.eq_of_beq_eq_true hln
    subst hln
    exact lv_goto hx hb hdg (of_decide_eq_true hok) (K h hlv hP hS hL)
  case ifCond cc off => 
    have hln : ln = 3 := Nat.eq_of_beq_eq_true hln
    subst hln
    have ht := of_decide_eq_true hok
    simp only [stepC] at h
    split at h
    case h_2 => exact h.elim
    cases cc
    case eq => exact lv_if_eq hx hb hdg ht (fun q => K (h.1 q) hlv hP hS hL) (fun q => K (h.2 q) hlv hP hS hL)
    case ne => exact lv_if_ne hx hb hdg ht (fun q => K (h.2 q) hlv hP hS hL) (fun q => K (h.1 q) hlv hP hS hL)
    case lt => exact lv_if_lt hx hb hdg ht (fun q => K (h.1 q) hlv hP hS hL) (fun q => K (h.2 q) hlv hP hS hL)
    case ge => exact lv_if_ge hx hb hdg ht (fun q => K (h.2 (ge_lt q)) hlv hP hS hL) (fun q => K (h.1 (lt_ge q)) hlv hP hS hL)
    case gt => exact lv_if_gt hx hb hdg ht (fun q => K (h.2 (gt_le q)) hlv hP hS hL) (fun q => K (h.1 (le_gt q)) hlv hP hS hL)
    case le => exact lv_if_le hx hb hdg ht (fun q => K (h.1 q) hlv hP hS hL) (fun q => K (h.2 q) hlv hP hS hL)
  case if_icmp cc off => 
    have hln : ln = 3 := Nat.eq_of_beq_eq_true hln
    subst hln
    have ht := of_decide_eq_true hok
    simp only [stepC] at h
    split at h
    case h_2 => exact h.elim
    cases cc
    case eq => exact lv_icmp_eq hx hb hdg ht (fun q => K (h.1 q) hlv hP hS hL) (fun q => K (h.2 q) hlv hP hS hL)
    case ne => exact lv_icmp_ne hx hb hdg ht (fun q => K (h.2 q) hlv hP hS hL) (fun q => K (h.1 q) hlv hP hS hL)
    case lt => exact lv_icmp_lt hx hb hdg ht (fun q => K (h.1 q) hlv hP hS hL) (fun q => K (h.2 q) hlv hP hS hL)
    case ge => exact lv_icmp_ge hx hb hdg ht (fun q => K (h.2 (ge_lt q)) hlv hP hS hL) (fun q => K (h.1 (lt_ge q)) hlv hP hS hL)
    case gt => exact lv_icmp_gt hx hb hdg ht (fun q => K (h.2 (gt_le q)) hlv hP hS hL) (fun q => K (h.1 (le_gt q)) hlv hP hS hL)
    case le => exact lv_icmp_le hx hb hdg ht (fun q => K (h.1 q) hlv hP hS hL) (fun q => K (h.2 q) hlv hP hS hL)
  case tableswitch d lo hi offs => 
    simp only [okX, Bool.and_eq_true, decide_eq_true_iff] at hok
    simp only [stepC] at h
    split at h
    case h_2 => exact h.elim
    rename_i x r
    by_cases hq : x.toInt < lo ∨ hi < x.toInt
    · exact lv_tableOut hx hb hdg hq hok.1.1 (K (h.1 hq) hlv hP hS hL)
    · have h1 : ¬ x.toInt < lo := fun z => hq (Or.inl z)
      have h2 : ¬ hi < x.toInt := fun z => hq (Or.inr z)
      have hlt : (x.toInt - lo).toNat < offs.size := by rw [hok.1.2]; omega
      have ho : offs[(x.toInt - lo).toNat]? = some offs[(x.toInt - lo).toNat] := Array.getElem?_eq_getElem hlt
      have hpos := of_decide_eq_true (List.all_eq_true.mp hok.2 offs[(x.toInt - lo).toNat] (by simp))
      have ht : (pc : Int) + offs[(x.toInt - lo).toNat] = (((pc : Int) + offs[(x.toInt - lo).toNat]).toNat : Int) := (Int.toNat_of_nonneg hpos).symm
      exact lv_tableIn hx hb hdg h1 h2 ho ht (K (h.2 hq _ ho _ ht) hlv hP hS hL)
  case getfield n => 
    have hln : ln = 3 := Nat.eq_of_beq_eq_true hln
    subst hln
    simp only [okX, Bool.and_eq_true] at hok
    have ha := Nat.le_of_ble_eq_true hok.1.1
    have hbb := Nat.le_of_ble_eq_true hok.1.2
    have hkc := (okF_k ha hbb).2.2.2
    have hk3 : (hk a).1 = 3 := by rw [hkc]
    simp only [stepC, cond_eq_ite] at h
    split at h
    case h_2 => exact h.elim
    rename_i i r
    split at h
    case isFalse => exact h.elim
    rename_i hia
    have hia := Nat.eq_of_beq_eq_true hia
    subst hia
    have he : (wsW ad cy σ)[i]? = some (ad i, .inr (i, (List.range (hk i).2).map (fv ad σ i))) := by rw [wsW_get (by omega), ent_o hk3]
    have hc : vwCl[i]? = some (RC i, TW i, nF i) := by rw [vwCl, List.getElem?_map, List.getElem?_range (show i < 12 from ha)]; rfl
    have hv : ((List.range (hk i).2).map (fv ad σ i))[b]? = some (fv ad σ i b) := by rw [hkc, List.getElem?_map, List.getElem?_range (show b < nF i from hbb)]; rfl
    have W1 : W p l e Rm s m args below meth c H locs cells slots Qf (F0 m (pc + 3) ls (fv ad σ i b :: r.map (cv ad))) := by
      split at h
      · rename_i j hj
        have e1 : fv ad σ i b = .ref (ad j) := by simp [fv, hj]
        rw [e1]
        exact K h hlv hP hS hL
      · rename_i hj
        have e1 : fv ad σ i b = .int (σ.1 i b) := by simp [fv, hj]
        rw [e1]
        exact K h hlv hP hS hL
    exact va_get hx hb hts (u_inW ha) hown hK hP i he hc b hbb (hts _ (inG_mem hok.2)) (fun _ h9 => h9) hv hdg W1
  case putfield n => 
    have hln : ln = 3 := Nat.eq_of_beq_eq_true hln
    subst hln
    simp only [okX, Bool.and_eq_true, decide_eq_true_iff] at hok
    have ha := Nat.le_of_ble_eq_true hok.1.1.1.1.1
    have hbb := Nat.le_of_ble_eq_true hok.1.1.1.1.2
    have hkc := (okF_k ha hbb).2.2.2
    have hk3 : (hk a).1 = 3 := by rw [hkc]
    simp only [stepC, cond_eq_ite] at h
    split at h
    case h_2 => exact h.elim
    rename_i x i r
    split at h
    case isFalse => exact h.elim
    rename_i hia
    have hia := Nat.eq_of_beq_eq_true hia
    subst hia
    have he : (wsW ad cy σ)[i]? = some (ad i, .inr (i, (List.range (hk i).2).map (fv ad σ i))) := by rw [wsW_get (by omega), ent_o hk3]
    have hc : vwCl[i]? = some (RC i, TW i, nF i) := by rw [vwCl, List.getElem?_map, List.getElem?_range (show i < 12 from ha)]; rfl
    have hll : b < ((List.range (hk i).2).map (fv ad σ i)).length := by rw [hkc, List.length_map, List.length_range]; exact hbb
    have go : ∀ ty, tyF i b = ty → narrow ty (.int x) = .int x → fits ty (.int x) = true → PM l D ad cy y (pc + 3) lv r (wr σ i b x) R S → W p l e Rm s m args below meth c H locs cells slots Qf (F0 m pc ls ((Value.int x :: Value.ref i :: r).map (cv ad))) := by
      intro ty hty hn hf hh
      refine va_put (v := .int x) (ty := ty) hx hb hts (u_inW ha) (tyF i) (fun k hk => (okF_k ha hk).2.1) (fun a1 h1 b1 h2 hne => (okF_k ha h2).2.2.1 a1 h1 hne) hown hK hP (hD σ) hS i he hc b hbb (hts _ (inG_mem hok.1.1.1.2)) (fun _ h9 => h9) hok.1.2 (by rw [(okF_k ha hbb).2.1, hty]) hn hf hll hdg ?_
      intro H1 locs1 hP1 _ hS1
      rw [set_o hk3 hok.1.1.2] at hP1
      exact K hh hlv hP1 hS1 hL
    cases v
    case int q =>
      refine go .boolean (of_decide_eq_true hok.2) ?_ ?_ h.2
      · rcases h.1 with rfl | rfl <;> rfl
      · rcases h.1 with rfl | rfl <;> rfl
    all_goals exact go .int (of_decide_eq_true hok.2) rfl rfl h
  case iaload => 
    have hln : ln = 1 := Nat.eq_of_beq_eq_true hln
    subst hln
    simp only [stepC, cond_eq_ite] at h
    split at h
    case h_2 => exact h.elim
    rename_i i j r
    split at h
    case isFalse => exact h.elim
    rename_i hkb
    have hk0 := Nat.eq_of_beq_eq_true hkb
    have hj := hk_lt (j := j) (by omega)
    have he : (wsW ad cy σ)[j]? = some (ad j, .inl (cy 0, (hk j).2, .inl (σ.1 j))) := by rw [wsW_get hj, ent_i hk0]
    exact va_iald hx hb hK hP j 0 he rfl h.1 hdg (K h.2 hlv hP hS hL)
  case baload => 
    have hln : ln = 1 := Nat.eq_of_beq_eq_true hln
    subst hln
    simp only [stepC, cond_eq_ite] at h
    split at h
    case h_2 => exact h.elim
    rename_i i j r
    split at h
    case isFalse => exact h.elim
    rename_i hkb
    have hk0 := Nat.eq_of_beq_eq_true hkb
    have hj := hk_lt (j := j) (by omega)
    have he : (wsW ad cy σ)[j]? = some (ad j, .inl (cy 1, (hk j).2, .inl (σ.1 j))) := by rw [wsW_get hj, ent_z hk0]
    exact va_zald hx hb hK hP j 1 he rfl h.1 hdg (K h.2 hlv hP hS hL)
  case laload => 
    have hln : ln = 1 := Nat.eq_of_beq_eq_true hln
    subst hln
    simp only [stepC, cond_eq_ite] at h
    split at h
    case h_2 => exact h.elim
    rename_i i j r
    split at h
    case isFalse => exact h.elim
    rename_i hkb
    have hk0 := Nat.eq_of_beq_eq_true hkb
    have hj := hk_lt (j := j) (by omega)
    have he : (wsW ad cy σ)[j]? = some (ad j, .inl (cy 2, (hk j).2, .inr (.inl σ.2))) := by rw [wsW_get hj, ent_l hk0]
    exact va_lald hx hb hK hP j 2 he rfl h.1 hdg (K h.2 hlv hP hS hL)
  case iastore => 
    have hln : ln = 1 := Nat.eq_of_beq_eq_true hln
    subst hln
    simp only [stepC, cond_eq_ite] at h
    split at h
    case h_2 => exact h.elim
    rename_i x i j r
    split at h
    case isFalse => exact h.elim
    rename_i hkb
    have hk0 := Nat.eq_of_beq_eq_true hkb
    have hj := hk_lt (j := j) (by omega)
    have he : (wsW ad cy σ)[j]? = some (ad j, .inl (cy 0, (hk j).2, .inl (σ.1 j))) := by rw [wsW_get hj, ent_i hk0]
    refine va_iast hx hb hK hP (hD σ) hS j 0 he rfl h.1 hdg ?_
    intro H1 locs1 hP1 _ hS1
    rw [set_i hk0] at hP1
    exact K h.2 hlv hP1 hS1 hL
  case bastore => 
    have hln : ln = 1 := Nat.eq_of_beq_eq_true hln
    subst hln
    simp only [stepC, cond_eq_ite] at h
    split at h
    case h_2 => exact h.elim
    rename_i x i j r
    split at h
    case isFalse => exact h.elim
    rename_i hkb
    have hk0 := Nat.eq_of_beq_eq_true hkb
    have hj := hk_lt (j := j) (by omega)
    have he : (wsW ad cy σ)[j]? = some (ad j, .inl (cy 1, (hk j).2, .inl (σ.1 j))) := by rw [wsW_get hj, ent_z hk0]
    refine va_zast hx hb hK hP (hD σ) hS j 1 he rfl h.1 hdg ?_
    intro H1 locs1 hP1 _ hS1
    have hnar : vp_nar .boolean x = x := by rcases h.2.1 with rfl | rfl <;> rfl
    rw [hnar] at hP1
    rw [set_z hk0] at hP1
    exact K h.2.2 hlv hP1 hS1 hL
  case lastore => 
    have hln : ln = 1 := Nat.eq_of_beq_eq_true hln
    subst hln
    simp only [stepC, cond_eq_ite] at h
    split at h
    case h_2 => exact h.elim
    rename_i x i j r
    split at h
    case isFalse => exact h.elim
    rename_i hkb
    have hk0 := Nat.eq_of_beq_eq_true hkb
    have hj := hk_lt (j := j) (by omega)
    have he : (wsW ad cy σ)[j]? = some (ad j, .inl (cy 2, (hk j).2, .inr (.inl σ.2))) := by rw [wsW_get hj, ent_l hk0]
    refine va_last hx hb hK hP (hD σ) hS j 2 he rfl h.1 hdg ?_
    intro H1 locs1 hP1 _ hS1
    rw [set_l hk0] at hP1
    exact K h.2 hlv hP1 hS1 hL
  case arraylength => 
    have hln : ln = 1 := Nat.eq_of_beq_eq_true hln
    subst hln
    simp only [stepC, cond_eq_ite] at h
    split at h
    case h_2 => exact h.elim
    rename_i j r
    split at h
    case isFalse => exact h.elim
    rename_i hkb
    have hk0 := Nat.le_of_ble_eq_true hkb
    have hj := hk_lt (j := j) (by omega)
    have h3 : (hk j).1 = 0 ∨ (hk j).1 = 1 ∨ (hk j).1 = 2 := by omega
    rcases h3 with h3 | h3 | h3
    · exact va_alen (x := ((hk j).2, .inl (σ.1 j))) hx hb hK hP j 0 (by rw [wsW_get hj, ent_i h3]) rfl rfl hdg (K h hlv hP hS hL)
    · exact va_alen (x := ((hk j).2, .inl (σ.1 j))) hx hb hK hP j 1 (by rw [wsW_get hj, ent_z h3]) rfl rfl hdg (K h hlv hP hS hL)
    · exact va_alen (x := ((hk j).2, .inr (.inl σ.2))) hx hb hK hP j 2 (by rw [wsW_get hj, ent_l h3]) rfl rfl hdg (K h hlv hP hS hL)
  case ireturn => 
    have hln : ln = 1 := Nat.eq_of_beq_eq_true hln
    subst hln
    simp only [stepC] at h
    split at h
    case h_2 => exact h.elim
    rename_i x
    cases v
    case int q => obtain ⟨h1, rfl, rfl⟩ := h; exact hfin _ _ _ _ hP hS ⟨hdg, Or.inr ⟨of_decide_eq_true hok, h1⟩⟩
    all_goals (obtain ⟨rfl, rfl⟩ := h; exact hfin _ _ _ _ hP hS ⟨hdg, Or.inl (of_decide_eq_true hok)⟩)
  case lreturn => 
    have hln : ln = 1 := Nat.eq_of_beq_eq_true hln
    subst hln
    simp only [stepC] at h
    split at h
    case h_2 => exact h.elim
    obtain ⟨rfl, rfl⟩ := h
    exact hfin _ _ _ _ hP hS ⟨hdg, of_decide_eq_true hok⟩
  case return_ => 
    have hln : ln = 1 := Nat.eq_of_beq_eq_true hln
    subst hln
    simp only [stepC] at h
    split at h
    case h_2 => exact h.elim
    obtain ⟨rfl, rfl⟩ := h
    exact hfin _ _ _ _ hP hS ⟨hdg, of_decide_eq_true hok⟩
  case invokestatic n => 
    have hln : ln = 3 := Nat.eq_of_beq_eq_true hln
    subst hln
    simp only [okX, cond_eq_ite] at hok
    simp only [stepC, cond_eq_ite] at h
    split at hok
    case isTrue q0 =>
      rw [if_pos q0] at h
      simp only [Bool.and_eq_true] at hok
      have f1 := Nat.le_trans (Nat.le_of_ble_eq_true hok.1.2) hrm.1
      have f2 := Nat.le_trans (Nat.le_of_ble_eq_true hok.2) hrm.2.1
      split at h
      case h_2 => exact h.elim
      rename_i nn dp d sp sr r
      split at h
      case isFalse => exact h.elim
      rename_i hg
      simp only [Bool.and_eq_true] at hg
      have k0 := Nat.eq_of_beq_eq_true hg.1
      have k1 := Nat.eq_of_beq_eq_true hg.2.1
      have g2 := Nat.le_of_ble_eq_true hg.2.2
      obtain ⟨⟨c1, c2, c3, c4, c5⟩, hcont⟩ := h
      refine va_copyi (ty := .int) hx hb (by rw [hml, ← hlv]; exact hL.1.symm) hown (hts _ (inG_mem hok.1.1)) (hts _ jw_nat) (hts _ jw_sta) (hts _ jw_sys) hK hP (hD σ) hS sr d 0 0 (by rw [wsW_get (hk_lt (by omega)), ent_i k0]) (by rw [wsW_get (hk_lt (by omega)), ent_i k1]) rfl rfl rfl c1 c2 c3 c4 c5 (fun i hi => rfl) f1 ?_ hdg ?_
      · rw [catS_eq]
        have e1 : nativeFrameWords "java/lang/System" "arraycopy" 5 = 7 := by decide +kernel
        rw [e1]
        omega
      · intro H1 locs1 hP1 _ hS1
        rw [set_i k1] at hP1
        exact K hcont hlv hP1 hS1 hL
    case isFalse q0 =>
    rw [if_neg q0] at h
    split at hok
    case isTrue q1 =>
      rw [if_pos q1] at h
      simp only [Bool.and_eq_true] at hok
      have f1 := Nat.le_trans (Nat.le_of_ble_eq_true hok.1.2) hrm.1
      have f2 := Nat.le_trans (Nat.le_of_ble_eq_true hok.2) hrm.2.1
      split at h
      case h_2 => exact h.elim
      split at h
      case isFalse => exact h.elim
      rename_i hg
      have g2 := Nat.le_of_ble_eq_true hg
      exact va_mabs hx hb (by rw [hml, ← hlv]; exact hL.1.symm) hown (hts _ (inG_mem hok.1.1)) (hts _ jw_sabs) (hts _ jw_mat) (hts _ jw_cabs) f1 (by rw [catS_eq]; omega) hrm.2.2.1 hrm.2.2.2 hdg (K h hlv hP hS hL)
    case isFalse q1 =>
    rw [if_neg q1] at h
    split at hok
    case isTrue q2 =>
      rw [if_pos q2] at h
      simp only [Bool.and_eq_true] at hok
      have f1 := Nat.le_trans (Nat.le_of_ble_eq_true hok.1.2) hrm.1
      have f2 := Nat.le_trans (Nat.le_of_ble_eq_true hok.2) hrm.2.1
      split at h
      case h_2 => exact h.elim
      split at h
      case isFalse => exact h.elim
      rename_i hg
      have g2 := Nat.le_of_ble_eq_true hg
      exact va_mmax hx hb (by rw [hml, ← hlv]; exact hL.1.symm) hown (hts _ (inG_mem hok.1.1)) (hts _ jw_smax) (hts _ jw_mat) (hts _ jw_cmax) f1 (by rw [catS_eq]; omega) hrm.2.2.1 hrm.2.2.2 hdg (K h hlv hP hS hL)
    case isFalse q2 =>
    rw [if_neg q2] at h
    split at hok
    case isTrue q3 =>
      rw [if_pos q3] at h
      simp only [Bool.and_eq_true] at hok
      have f1 := Nat.le_trans (Nat.le_of_ble_eq_true hok.1.2) hrm.1
      have f2 := Nat.le_trans (Nat.le_of_ble_eq_true hok.2) hrm.2.1
      split at h
      case h_2 => exact h.elim
      split at h
      case isFalse => exact h.elim
      rename_i hg
      have g2 := Nat.le_of_ble_eq_true hg
      exact va_mmin hx hb (by rw [hml, ← hlv]; exact hL.1.symm) hown (hts _ (inG_mem hok.1.1)) (hts _ jw_smin) (hts _ jw_mat) (hts _ jw_cmin) f1 (by rw [catS_eq]; omega) hrm.2.2.1 hrm.2.2.2 hdg (K h hlv hP hS hL)
    case isFalse q3 =>
    rw [if_neg q3] at h
    have hok1 := (Bool.and_eq_true _ _).mp hok
    have hz := okC_lt hok1.1
    have hnine := Nat.eq_of_beq_eq_true hok1.2
    have hspec := (okM_spec hz).2.2.2
    rw [if_pos hnine] at hspec
    obtain ⟨hb1, hb2, hb3, hb4⟩ := callB_W hz hts ⟨hrm.1, hrm.2.1⟩ hok1.1
    obtain ⟨g1, g2, g3, rs, σ1, hcal, hcont⟩ := callC_spec h
    have hM := metW (l := l) (D := D) (ad := ad) (cy := cy) hz g3 hcal
    have hstk : st.map (cv ad) = (((st.take b).reverse).map (cv ad)).reverse ++ (st.drop b).map (cv ad) := by
      conv => lhs; rw [← List.take_append_drop b st]
      simp
    have hlen : (((st.take b).reverse).map (cv ad)).length = b := by
      simp
      omega
    have hpre : PreS s H (PcW D ad cy σ ((st.take b).reverse)) (((st.take b).reverse).map (cv ad)) := ⟨blindW, fun U hU hW => ⟨rfl, by rw [hU]; exact hP, va_K.moved hW.alike hK, hnw.warm hW⟩⟩
    have hroom : 2 * (F0 m pc ls (st.map (cv ad))).monitorRoom + (((st.drop b).map (cv ad)).map fun v => v.category).sum ≤ 8 := lv_room (by rw [catS_eq]; exact g2)
    refine callG (rest := (st.drop b).map (cv ad)) (rs := rs) (σ1 := σ1) (a := (((st.take b).reverse).map (cv ad)).toArray) ?_ hS (fun H1 locs1 hP1 hS1 => by have := K hcont hlv hP1 hS1 hL; rwa [List.map_append] at this)
    cases v
    case int q => 
      have hnl : Cond.methodLinkNest (mN y).cls n (mN a) "AshLines" ∈ lw_tbl := by
        have h2 := hok1.1
        simp only [okC, Bool.and_eq_true, decide_eq_true_iff] at h2
        exact List.mem_of_getElem? h2.2
      exact va_runSN ⟨hx, hb, hml, hown, hts⟩ hM ⟨va_cnB b hts (goodM hz) rfl rfl rfl (hnw _ _ _ _ hnl) hb1 ⟨(okM_spec hz).2.2.1.1, (okM_spec hz).2.2.1.2.1, by rw [hb2]; exact (okM_spec hz).2.2.1.2.2⟩ ⟨hb3, hb4⟩, hts _ hspec, trivial⟩ hpre rfl hlen (by show ls.size = _; rw [hL.1, hlv]) hstk hroom hdg ⟨hrm.2.2.1, hrm.2.2.2⟩
    all_goals (
      have hnl : Cond.methodLink (mN y).cls n (mN a) ∈ lw_g := by
        have h2 := hok1.1
        simp only [okC, Bool.and_eq_true] at h2
        exact inG_mem h2.2
      exact va_runS ⟨hx, hb, hml, hown, hts⟩ hM ⟨callB_of b hts (goodM hz) rfl rfl rfl hb1 (hts _ hnl) ⟨(okM_spec hz).2.2.1.1, (okM_spec hz).2.2.1.2.1, by rw [hb2]; exact (okM_spec hz).2.2.1.2.2⟩ ⟨hb3, hb4⟩, hts _ hspec⟩ hpre rfl hlen (by show ls.size = _; rw [hL.1, hlv]) hstk hroom hdg ⟨hrm.2.2.1, hrm.2.2.2⟩)
  case invokevirtual n => 
    have hln : ln = 3 := Nat.eq_of_beq_eq_true hln
    subst hln
    have hok1 := (Bool.and_eq_true _ _).mp hok
    have hz := okC_lt hok1.1
    have hnine : ¬ (mP a).2.2.2 = 9999 := by
      intro q
      have h2 := hok1.2
      rw [q] at h2
      exact absurd h2 (by decide)
    have hspec := (okM_spec hz).2.2.2
    rw [if_neg hnine] at hspec
    obtain ⟨hb1, hb2, hb3, hb4⟩ := callB_W hz hts ⟨hrm.1, hrm.2.1⟩ hok1.1
    simp only [stepC, cond_eq_ite] at h
    split at h
    case h_2 => exact h.elim
    rename_i i r hst
    split at h
    case isFalse => exact h.elim
    rename_i hib
    have hib := Nat.eq_of_beq_eq_true hib
    subst hib
    obtain ⟨g1, g2, g3, rs, σ1, hcal, hcont⟩ := callC_spec h
    have hdrop : st.drop (b + 1) = r := by rw [← List.drop_drop, hst]; rfl
    have htk : (st.take (b + 1)).reverse = .ref (mC a) :: (st.take b).reverse := by
      have h1 : st.take (b + 1) = st.take b ++ [.ref (mC a)] := by
        have h3 : st[b]? = some (.ref (mC a)) := by
          have h4 := congrArg (fun l => l[0]?) hst
          simpa using h4
        rw [List.take_succ, h3]
        rfl
      rw [h1]
      simp
    have hM := metW (l := l) (D := D) (ad := ad) (cy := cy) hz g3 hcal
    rw [htk] at hM
    rw [hdrop] at hcont g2
    have hstk : st.map (cv ad) = (((st.take b).reverse).map (cv ad)).reverse ++ Value.ref (ad (mC a)) :: r.map (cv ad) := by
      conv => lhs; rw [← List.take_append_drop b st, hst]
      simp [cv]
    have hlen : (((st.take b).reverse).map (cv ad)).length = b := by
      simp
      omega
    have hk3 : (hk (mC a)).1 = 3 := by
      have : ∀ j, j < 12 → (hk j).1 = 3 := by decide +kernel
      exact this _ hspec.2.2.1
    have hrec := va_recv (q := (RC (mC a), TW (mC a), nF (mC a))) hK hP (show vwCl[mC a]? = _ by rw [vwCl, List.getElem?_map, List.getElem?_range hspec.2.2.1]; rfl) (show (wsW ad cy σ)[mC a]? = some (ad (mC a), .inr (mC a, _)) by rw [wsW_get (by omega), ent_o hk3])
    have hpre : PreV s H (mN a).cls (ad (mC a)) (PcW D ad cy σ (.ref (mC a) :: (st.take b).reverse)) (((st.take b).reverse).map (cv ad)) := ⟨blindW, by rw [← hspec.2.2.2]; exact hrec, fun U hU hW => ⟨rfl, by rw [hU]; exact hP, va_K.moved hW.alike hK, hnw.warm hW⟩⟩
    have hroom : 2 * (F0 m pc ls (st.map (cv ad))).monitorRoom + ((r.map (cv ad)).map fun v => v.category).sum ≤ 8 := lv_room (by rw [catS_eq]; exact g2)
    refine callG (rest := r.map (cv ad)) (rs := rs) (σ1 := σ1) (a := (Value.ref (ad (mC a)) :: ((st.take b).reverse).map (cv ad)).toArray) ?_ hS (fun H1 locs1 hP1 hS1 => by have := K hcont hlv hP1 hS1 hL; rwa [List.map_append] at this)
    cases v
    case int q => 
      have hnl : Cond.methodLinkNest (mN y).cls n (mN a) "AshLines" ∈ lw_tbl := by
        have h2 := hok1.1
        simp only [okC, Bool.and_eq_true, decide_eq_true_iff] at h2
        exact List.mem_of_getElem? h2.2
      exact va_runVN ⟨hx, hb, hml, hown, hts⟩ hM ⟨va_cnB b hts (goodM hz) rfl rfl rfl (hnw _ _ _ _ hnl) hb1 ⟨(okM_spec hz).2.2.1.1, (okM_spec hz).2.2.1.2.1, by rw [hb2]; exact (okM_spec hz).2.2.1.2.2⟩ ⟨hb3, hb4⟩, hts _ hspec.1, hts _ hspec.2.1⟩ hpre rfl hlen (by show ls.size = _; rw [hL.1, hlv]) hstk hroom hdg ⟨hrm.2.2.1, hrm.2.2.2⟩
    all_goals (
      have hnl : Cond.methodLink (mN y).cls n (mN a) ∈ lw_g := by
        have h2 := hok1.1
        simp only [okC, Bool.and_eq_true] at h2
        exact inG_mem h2.2
      exact va_runV ⟨hx, hb, hml, hown, hts⟩ hM ⟨callB_of b hts (goodM hz) rfl rfl rfl hb1 (hts _ hnl) ⟨(okM_spec hz).2.2.1.1, (okM_spec hz).2.2.1.2.1, by rw [hb2]; exact (okM_spec hz).2.2.1.2.2⟩ ⟨hb3, hb4⟩, hts _ hspec.1, hts _ hspec.2.1⟩ hpre rfl hlen (by show ls.size = _; rw [hL.1, hlv]) hstk hroom hdg ⟨hrm.2.2.1, hrm.2.2.2⟩)
  all_goals exact h.elim
/-- what the abstract machine does, the real one does -/
theorem simG (l : Launch) (D : va_G) (ad : Nat → Nat) (cy : Nat → ClassId) (hi : injW ad) {y pc : Nat} {lv st : List Value} {σ : St} {R : List Value} {S : St} (h : Go y pc lv st σ R S) : PM l D ad cy y pc lv st σ R S := h _ (simI l D ad cy hi)
/-- a method's contract -/
theorem metG (l : Launch) (D : va_G) (ad : Nat → Nat) (cy : Nat → ClassId) (hi : injW ad) {z : Nat} {as : List Value} {σ : St} {R : List Value} {S : St} (hz : z < 212) (hfl : (flatV as).length ≤ mL z) (h : Ret z as σ R S) : Met l (mN z) (wsM z) (rmM z) (PcW D ad cy σ as) (QcW D ad cy R S) 0 0 (adA ad) := metW hz hfl (simG l D ad cy hi h)
