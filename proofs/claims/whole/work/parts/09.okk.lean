set_option maxRecDepth 100000 in
theorem okK_c0 : (List.range 10).all (fun k => okK (0 + k)) = true := by decide +kernel
set_option maxRecDepth 100000 in
theorem okK_c10 : (List.range 10).all (fun k => okK (10 + k)) = true := by decide +kernel
set_option maxRecDepth 100000 in
theorem okK_c20 : (List.range 10).all (fun k => okK (20 + k)) = true := by decide +kernel
set_option maxRecDepth 100000 in
theorem okK_c30 : (List.range 10).all (fun k => okK (30 + k)) = true := by decide +kernel
set_option maxRecDepth 100000 in
theorem okK_c40 : (List.range 10).all (fun k => okK (40 + k)) = true := by decide +kernel
set_option maxRecDepth 100000 in
theorem okK_c50 : (List.range 10).all (fun k => okK (50 + k)) = true := by decide +kernel
set_option maxRecDepth 100000 in
theorem okK_c60 : (List.range 10).all (fun k => okK (60 + k)) = true := by decide +kernel
set_option maxRecDepth 100000 in
theorem okK_c70 : (List.range 10).all (fun k => okK (70 + k)) = true := by decide +kernel
set_option maxRecDepth 100000 in
theorem okK_c80 : (List.range 10).all (fun k => okK (80 + k)) = true := by decide +kernel
set_option maxRecDepth 100000 in
theorem okK_c90 : (List.range 10).all (fun k => okK (90 + k)) = true := by decide +kernel
set_option maxRecDepth 100000 in
theorem okK_c100 : (List.range 10).all (fun k => okK (100 + k)) = true := by decide +kernel
set_option maxRecDepth 100000 in
theorem okK_c110 : (List.range 10).all (fun k => okK (110 + k)) = true := by decide +kernel
set_option maxRecDepth 100000 in
theorem okK_c120 : (List.range 10).all (fun k => okK (120 + k)) = true := by decide +kernel
set_option maxRecDepth 100000 in
theorem okK_c130 : (List.range 10).all (fun k => okK (130 + k)) = true := by decide +kernel
set_option maxRecDepth 100000 in
theorem okK_c140 : (List.range 10).all (fun k => okK (140 + k)) = true := by decide +kernel
set_option maxRecDepth 100000 in
theorem okK_c150 : (List.range 10).all (fun k => okK (150 + k)) = true := by decide +kernel
set_option maxRecDepth 100000 in
theorem okK_c160 : (List.range 10).all (fun k => okK (160 + k)) = true := by decide +kernel
set_option maxRecDepth 100000 in
theorem okK_c170 : (List.range 10).all (fun k => okK (170 + k)) = true := by decide +kernel
set_option maxRecDepth 100000 in
theorem okK_c180 : (List.range 10).all (fun k => okK (180 + k)) = true := by decide +kernel
set_option maxRecDepth 100000 in
theorem okK_c190 : (List.range 10).all (fun k => okK (190 + k)) = true := by decide +kernel
set_option maxRecDepth 100000 in
theorem okK_c200 : (List.range 10).all (fun k => okK (200 + k)) = true := by decide +kernel
set_option maxRecDepth 100000 in
theorem okK_c210 : (List.range 2).all (fun k => okK (210 + k)) = true := by decide +kernel
theorem okK_all {z : Nat} (h : z < 212) : okK z = true := by
  rcases Nat.lt_or_ge z 10 with h0 | h0
  · have := List.all_eq_true.mp okK_c0 (z - 0) (List.mem_range.mpr (by omega))
    rwa [show 0 + (z - 0) = z by omega] at this
  rcases Nat.lt_or_ge z 20 with h10 | h10
  · have := List.all_eq_true.mp okK_c10 (z - 10) (List.mem_range.mpr (by omega))
    rwa [show 10 + (z - 10) = z by omega] at this
  rcases Nat.lt_or_ge z 30 with h20 | h20
  · have := List.all_eq_true.mp okK_c20 (z - 20) (List.mem_range.mpr (by omega))
    rwa [show 20 + (z - 20) = z by omega] at this
  rcases Nat.lt_or_ge z 40 with h30 | h30
  · have := List.all_eq_true.mp okK_c30 (z - 30) (List.mem_range.mpr (by omega))
    rwa [show 30 + (z - 30) = z by omega] at this
  rcases Nat.lt_or_ge z 50 with h40 | h40
  · have := List.all_eq_true.mp okK_c40 (z - 40) (List.mem_range.mpr (by omega))
    rwa [show 40 + (z - 40) = z by omega] at this
  rcases Nat.lt_or_ge z 60 with h50 | h50
  · have := List.all_eq_true.mp okK_c50 (z - 50) (List.mem_range.mpr (by omega))
    rwa [show 50 + (z - 50) = z by omega] at this
  rcases Nat.lt_or_ge z 70 with h60 | h60
  · have := List.all_eq_true.mp okK_c60 (z - 60) (List.mem_range.mpr (by omega))
    rwa [show 60 + (z - 60) = z by omega] at this
  rcases Nat.lt_or_ge z 80 with h70 | h70
  · have := List.all_eq_true.mp okK_c70 (z - 70) (List.mem_range.mpr (by omega))
    rwa [show 70 + (z - 70) = z by omega] at this
  rcases Nat.lt_or_ge z 90 with h80 | h80
  · have := List.all_eq_true.mp okK_c80 (z - 80) (List.mem_range.mpr (by omega))
    rwa [show 80 + (z - 80) = z by omega] at this
  rcases Nat.lt_or_ge z 100 with h90 | h90
  · have := List.all_eq_true.mp okK_c90 (z - 90) (List.mem_range.mpr (by omega))
    rwa [show 90 + (z - 90) = z by omega] at this
  rcases Nat.lt_or_ge z 110 with h100 | h100
  · have := List.all_eq_true.mp okK_c100 (z - 100) (List.mem_range.mpr (by omega))
    rwa [show 100 + (z - 100) = z by omega] at this
  rcases Nat.lt_or_ge z 120 with h110 | h110
  · have := List.all_eq_true.mp okK_c110 (z - 110) (List.mem_range.mpr (by omega))
    rwa [show 110 + (z - 110) = z by omega] at this
  rcases Nat.lt_or_ge z 130 with h120 | h120
  · have := List.all_eq_true.mp okK_c120 (z - 120) (List.mem_range.mpr (by omega))
    rwa [show 120 + (z - 120) = z by omega] at this
  rcases Nat.lt_or_ge z 140 with h130 | h130
  · have := List.all_eq_true.mp okK_c130 (z - 130) (List.mem_range.mpr (by omega))
    rwa [show 130 + (z - 130) = z by omega] at this
  rcases Nat.lt_or_ge z 150 with h140 | h140
  · have := List.all_eq_true.mp okK_c140 (z - 140) (List.mem_range.mpr (by omega))
    rwa [show 140 + (z - 140) = z by omega] at this
  rcases Nat.lt_or_ge z 160 with h150 | h150
  · have := List.all_eq_true.mp okK_c150 (z - 150) (List.mem_range.mpr (by omega))
    rwa [show 150 + (z - 150) = z by omega] at this
  rcases Nat.lt_or_ge z 170 with h160 | h160
  · have := List.all_eq_true.mp okK_c160 (z - 160) (List.mem_range.mpr (by omega))
    rwa [show 160 + (z - 160) = z by omega] at this
  rcases Nat.lt_or_ge z 180 with h170 | h170
  · have := List.all_eq_true.mp okK_c170 (z - 170) (List.mem_range.mpr (by omega))
    rwa [show 170 + (z - 170) = z by omega] at this
  rcases Nat.lt_or_ge z 190 with h180 | h180
  · have := List.all_eq_true.mp okK_c180 (z - 180) (List.mem_range.mpr (by omega))
    rwa [show 180 + (z - 180) = z by omega] at this
  rcases Nat.lt_or_ge z 200 with h190 | h190
  · have := List.all_eq_true.mp okK_c190 (z - 190) (List.mem_range.mpr (by omega))
    rwa [show 190 + (z - 190) = z by omega] at this
  rcases Nat.lt_or_ge z 210 with h200 | h200
  · have := List.all_eq_true.mp okK_c200 (z - 200) (List.mem_range.mpr (by omega))
    rwa [show 200 + (z - 200) = z by omega] at this
  rcases Nat.lt_or_ge z 212 with h210 | h210
  · have := List.all_eq_true.mp okK_c210 (z - 210) (List.mem_range.mpr (by omega))
    rwa [show 210 + (z - 210) = z by omega] at this
  omega
