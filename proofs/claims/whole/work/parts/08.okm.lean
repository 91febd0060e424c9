set_option maxRecDepth 100000 in
theorem okM_c0 : (List.range 20).all (fun k => okM (0 + k)) = true := by decide +kernel
set_option maxRecDepth 100000 in
theorem okM_c20 : (List.range 20).all (fun k => okM (20 + k)) = true := by decide +kernel
set_option maxRecDepth 100000 in
theorem okM_c40 : (List.range 20).all (fun k => okM (40 + k)) = true := by decide +kernel
set_option maxRecDepth 100000 in
theorem okM_c60 : (List.range 20).all (fun k => okM (60 + k)) = true := by decide +kernel
set_option maxRecDepth 100000 in
theorem okM_c80 : (List.range 20).all (fun k => okM (80 + k)) = true := by decide +kernel
set_option maxRecDepth 100000 in
theorem okM_c100 : (List.range 20).all (fun k => okM (100 + k)) = true := by decide +kernel
set_option maxRecDepth 100000 in
theorem okM_c120 : (List.range 20).all (fun k => okM (120 + k)) = true := by decide +kernel
set_option maxRecDepth 100000 in
theorem okM_c140 : (List.range 20).all (fun k => okM (140 + k)) = true := by decide +kernel
set_option maxRecDepth 100000 in
theorem okM_c160 : (List.range 20).all (fun k => okM (160 + k)) = true := by decide +kernel
set_option maxRecDepth 100000 in
theorem okM_c180 : (List.range 20).all (fun k => okM (180 + k)) = true := by decide +kernel
set_option maxRecDepth 100000 in
theorem okM_c200 : (List.range 12).all (fun k => okM (200 + k)) = true := by decide +kernel
theorem okM_all {z : Nat} (h : z < 212) : okM z = true := by
  rcases Nat.lt_or_ge z 20 with h0 | h0
  · have := List.all_eq_true.mp okM_c0 (z - 0) (List.mem_range.mpr (by omega))
    rwa [show 0 + (z - 0) = z by omega] at this
  rcases Nat.lt_or_ge z 40 with h20 | h20
  · have := List.all_eq_true.mp okM_c20 (z - 20) (List.mem_range.mpr (by omega))
    rwa [show 20 + (z - 20) = z by omega] at this
  rcases Nat.lt_or_ge z 60 with h40 | h40
  · have := List.all_eq_true.mp okM_c40 (z - 40) (List.mem_range.mpr (by omega))
    rwa [show 40 + (z - 40) = z by omega] at this
  rcases Nat.lt_or_ge z 80 with h60 | h60
  · have := List.all_eq_true.mp okM_c60 (z - 60) (List.mem_range.mpr (by omega))
    rwa [show 60 + (z - 60) = z by omega] at this
  rcases Nat.lt_or_ge z 100 with h80 | h80
  · have := List.all_eq_true.mp okM_c80 (z - 80) (List.mem_range.mpr (by omega))
    rwa [show 80 + (z - 80) = z by omega] at this
  rcases Nat.lt_or_ge z 120 with h100 | h100
  · have := List.all_eq_true.mp okM_c100 (z - 100) (List.mem_range.mpr (by omega))
    rwa [show 100 + (z - 100) = z by omega] at this
  rcases Nat.lt_or_ge z 140 with h120 | h120
  · have := List.all_eq_true.mp okM_c120 (z - 120) (List.mem_range.mpr (by omega))
    rwa [show 120 + (z - 120) = z by omega] at this
  rcases Nat.lt_or_ge z 160 with h140 | h140
  · have := List.all_eq_true.mp okM_c140 (z - 140) (List.mem_range.mpr (by omega))
    rwa [show 140 + (z - 140) = z by omega] at this
  rcases Nat.lt_or_ge z 180 with h160 | h160
  · have := List.all_eq_true.mp okM_c160 (z - 160) (List.mem_range.mpr (by omega))
    rwa [show 160 + (z - 160) = z by omega] at this
  rcases Nat.lt_or_ge z 200 with h180 | h180
  · have := List.all_eq_true.mp okM_c180 (z - 180) (List.mem_range.mpr (by omega))
    rwa [show 180 + (z - 180) = z by omega] at this
  rcases Nat.lt_or_ge z 212 with h200 | h200
  · have := List.all_eq_true.mp okM_c200 (z - 200) (List.mem_range.mpr (by omega))
    rwa [show 200 + (z - 200) = z by omega] at this
  omega
