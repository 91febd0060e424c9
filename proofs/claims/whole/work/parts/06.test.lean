theorem tst1 : goodWord (.native arraycopyName) = true := by decide +kernel
theorem tst2 : goodWord (.superclass "a" "b") = true := by decide +kernel
theorem tst3 : goodWord (.soleField "a" "b") = true := by decide +kernel
theorem tst4 : goodWord (.instantiable "a" 3) = true := by decide +kernel
theorem tst5 : (lw_tbl.filter (fun w => !goodWord w)).all (fun w => match w with | .methodLinkNest _ _ _ _ => true | .superclass _ _ => true | .soleField _ _ => true | _ => false) = true := by decide +kernel
theorem tst6 : (lw_tbl.filter (fun w => !goodWord w)).all (fun w => match w with | .methodLinkNest _ _ _ _ => true | .soleField _ _ => true | _ => false) = true := by decide +kernel
