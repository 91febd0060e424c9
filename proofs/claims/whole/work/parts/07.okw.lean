set_option maxRecDepth 100000 in
set_option maxHeartbeats 4000000 in
theorem okW_all : (List.range 212).map (fun z => lw_tbl[(mP z).1]?) = (List.range 212).map (fun z => some (Cond.code (mN z) (mB z) (mL z) (mR z))) := rfl
