/-! THE LAW: its loop (written by wip/whole/lawgen.py) -/
def swO : Array Int := #[183, 236, 299, 342, 365, 440, 483, 506, 549, 572, 585, 598, 611, 654, 687, 720, 733, 796, 849, 882, 926, 979, 1012, 1061, 1094, 1107, 1130, 1173, 1196, 1229, 1282, 1305, 1338, 1371, 1404, 1417, 1440, 1473, 1496, 1539, 1573, 1606]
def tgL : List Nat := [216, 269, 332, 375, 398, 473, 516, 539, 582, 605, 618, 631, 644, 687, 720, 753, 766, 829, 882, 915, 959, 1012, 1045, 1094, 1127, 1140, 1163, 1206, 1229, 1262, 1315, 1338, 1371, 1404, 1437, 1450, 1473, 1506, 1529, 1572, 1606, 1639]
theorem sw_t : ∀ k, k < 42 → swO[k]? = some ((tgL.getD k 0 : Int) - 33) := by decide +kernel
theorem d_l33 : decode code 33 = .ok (.tableswitch 1629 0 41 swO, 183) := by decide +kernel
section LAW
variable {p : Program} {l : Launch} {e : Env} {s : State} {m : MethodId} {below : List Frame} {meth : Method} {c : Code} {Hc : Heap} {Q : State → Prop} {D : va_G} {cy : Nat → ClassId} {ls : Array Slot} {b L i : Nat} {xs : Nat → Int32} {ad : Nat → Nat}
theorem row (K : LK D cy p s m b L xs meth c Hc ad) (hl : lv_has ls 4 [(3, .int (nI i)), (0, .ref b), (1, .ref (ad 10)), (2, .ref (ad 11))]) (hi : i + 7 ≤ L) (kk : LG p l e s m below meth c Hc Q D cy ls b ad 1662) : ∀ k, k < 42 → LG p l e s m below meth c Hc Q D cy ls b ad (tgL.getD k 0) := by
  intro k hk
  have hk : k = 0 ∨ k = 1 ∨ k = 2 ∨ k = 3 ∨ k = 4 ∨ k = 5 ∨ k = 6 ∨ k = 7 ∨ k = 8 ∨ k = 9 ∨ k = 10 ∨ k = 11 ∨ k = 12 ∨ k = 13 ∨ k = 14 ∨ k = 15 ∨ k = 16 ∨ k = 17 ∨ k = 18 ∨ k = 19 ∨ k = 20 ∨ k = 21 ∨ k = 22 ∨ k = 23 ∨ k = 24 ∨ k = 25 ∨ k = 26 ∨ k = 27 ∨ k = 28 ∨ k = 29 ∨ k = 30 ∨ k = 31 ∨ k = 32 ∨ k = 33 ∨ k = 34 ∨ k = 35 ∨ k = 36 ∨ k = 37 ∨ k = 38 ∨ k = 39 ∨ k = 40 ∨ k = 41 := by omega
  rcases hk with rfl | rfl | rfl | rfl | rfl | rfl | rfl | rfl | rfl | rfl | rfl | rfl | rfl | rfl | rfl | rfl | rfl | rfl | rfl | rfl | rfl | rfl | rfl | rfl | rfl | rfl | rfl | rfl | rfl | rfl | rfl | rfl | rfl | rfl | rfl | rfl | rfl | rfl | rfl | rfl | rfl | rfl
  · exact caseI K hl hi lo_piece (fun σ hR => p_piece hR) kk
  · exact caseI K hl hi lo_round (fun σ hR => p_round hR) kk
  · exact caseI K hl hi lo_lean (fun σ hR => p_lean hR) kk
  · exact caseI K hl hi lo_slack (fun σ hR => p_slack hR) kk
  · exact caseI K hl hi lo_grain (fun σ hR => p_grain hR) kk
  · exact caseI K hl hi lo_truly (fun σ hR => p_truly hR) kk
  · exact caseI K hl hi lo_grains (fun σ hR => p_grains hR) kk
  · exact caseI K hl hi lo_glass (fun σ hR => p_glass hR) kk
  · exact caseI K hl hi lo_say (fun σ hR => p_say hR) kk
  · exact caseI K hl hi lo_wipe (fun σ hR => p_wipe hR) kk
  · exact caseI K hl hi lo_fault (fun σ hR => p_fault hR) kk
  · exact caseI K hl hi lo_rule (fun σ hR => p_rule hR) kk
  · exact caseI K hl hi lo_gap (fun σ hR => p_gap hR) kk
  · exact caseI K hl hi lo_alike (fun σ hR => p_alike hR) kk
  · exact caseI K hl hi lo_chain (fun σ hR => p_chain hR) kk
  · exact caseI K hl hi lo_broken (fun σ hR => p_broken hR) kk
  · exact caseI K hl hi lo_mountain (fun σ hR => p_mountain hR) kk
  · exact caseI K hl hi lo_place (fun σ hR => p_place hR) kk
  · exact caseI K hl hi lo_weight (fun σ hR => p_weight hR) kk
  · exact caseJ K hl hi lo_whose (fun σ hR => p_whose hR) kk
  · exact caseI K hl hi lo_age (fun σ hR => p_age hR) kk
  · exact caseI K hl hi lo_tie (fun σ hR => p_tie hR) kk
  · exact caseS K hl hi kk
  · exact caseI K hl hi lo_above (fun σ hR => p_above hR) kk
  · exact caseI K hl hi lo_untrue (fun σ hR => p_untrue hR) kk
  · exact caseI K hl hi lo_drop (fun σ hR => p_drop hR) kk
  · exact caseI K hl hi lo_net (fun σ hR => p_net hR) kk
  · exact caseI K hl hi lo_gain (fun σ hR => p_gain hR) kk
  · exact caseI K hl hi lo_born (fun σ hR => p_born hR) kk
  · exact caseI K hl hi lo_shade (fun σ hR => p_shade hR) kk
  · exact caseI K hl hi lo_hour (fun σ hR => p_hour hR) kk
  · exact caseI K hl hi lo_way (fun σ hR => p_way hR) kk
  · exact caseI K hl hi lo_winds (fun σ hR => p_winds hR) kk
  · exact caseI K hl hi lo_name (fun σ hR => p_name hR) kk
  · exact caseI K hl hi lo_several (fun σ hR => p_several hR) kk
  · exact caseI K hl hi lo_called (fun σ hR => p_called hR) kk
  · exact caseI K hl hi lo_first (fun σ hR => p_first hR) kk
  · exact caseI K hl hi lo_washed (fun σ hR => p_washed hR) kk
  · exact caseI K hl hi lo_look (fun σ hR => p_look hR) kk
  · exact caseJ K hl hi lo_worth (fun σ hR => p_worth hR) kk
  · exact caseI K hl hi lo_next (fun σ hR => p_next hR) kk
  · exact caseI K hl hi lo_told (fun σ hR => p_told hR) kk
end LAW
