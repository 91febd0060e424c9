/-! THE LAW: the 42 rows (written by wip/whole/lawgen.py) -/
set_option maxRecDepth 100000 in
theorem lo_piece : okCI 216 [1, 2, 3, 4] 69 131 13 17 430 1114 = true := by decide +kernel
set_option maxRecDepth 100000 in
theorem lo_round : okCI 269 [1, 2, 3, 4, 5] 70 132 18 22 496 1143 = true := by decide +kernel
set_option maxRecDepth 100000 in
theorem lo_lean : okCI 332 [1, 2, 3] 71 133 23 27 504 1147 = true := by decide +kernel
set_option maxRecDepth 100000 in
theorem lo_slack : okCI 375 [1] 72 134 28 32 510 1156 = true := by decide +kernel
set_option maxRecDepth 100000 in
theorem lo_grain : okCI 398 [1, 2, 3, 4, 5, 6] 73 135 33 37 514 1160 = true := by decide +kernel
set_option maxRecDepth 100000 in
theorem lo_truly : okCI 473 [1, 2, 3] 74 138 38 41 526 1167 = true := by decide +kernel
set_option maxRecDepth 100000 in
theorem lo_grains : okCI 516 [1] 75 141 42 45 532 1179 = true := by decide +kernel
set_option maxRecDepth 100000 in
theorem lo_glass : okCI 539 [1, 2, 3] 76 143 46 49 536 1190 = true := by decide +kernel
set_option maxRecDepth 100000 in
theorem lo_say : okCI 582 [1] 77 144 50 53 545 1202 = true := by decide +kernel
set_option maxRecDepth 100000 in
theorem lo_wipe : okCI 605 [] 78 145 54 58 549 1206 = true := by decide +kernel
set_option maxRecDepth 100000 in
theorem lo_fault : okCI 618 [] 79 147 59 62 553 1210 = true := by decide +kernel
set_option maxRecDepth 100000 in
theorem lo_rule : okCI 631 [] 80 149 63 66 573 1218 = true := by decide +kernel
set_option maxRecDepth 100000 in
theorem lo_gap : okCI 644 [1, 2, 3] 81 153 67 70 585 1226 = true := by decide +kernel
set_option maxRecDepth 100000 in
theorem lo_alike : okCI 687 [1, 2] 82 158 71 75 634 1253 = true := by decide +kernel
set_option maxRecDepth 100000 in
theorem lo_chain : okCI 720 [1, 2] 83 161 76 79 657 1273 = true := by decide +kernel
set_option maxRecDepth 100000 in
theorem lo_broken : okCI 753 [] 84 163 80 83 688 1285 = true := by decide +kernel
set_option maxRecDepth 100000 in
theorem lo_mountain : okCI 766 [1, 2, 3, 4, 5] 87 165 84 87 703 1293 = true := by decide +kernel
set_option maxRecDepth 100000 in
theorem lo_place : okCI 829 [1, 2, 3, 4] 88 166 88 91 716 1297 = true := by decide +kernel
set_option maxRecDepth 100000 in
theorem lo_weight : okCI 882 [1, 2] 89 169 92 95 720 1301 = true := by decide +kernel
set_option maxRecDepth 100000 in
theorem lo_whose : okCJ 915 [1, 2, 3] 90 172 96 100 734 1316 = true := by decide +kernel
set_option maxRecDepth 100000 in
theorem lo_age : okCI 959 [1, 2, 3, 4] 91 173 101 104 752 1329 = true := by decide +kernel
set_option maxRecDepth 100000 in
theorem lo_tie : okCI 1012 [1, 2] 92 174 105 108 756 1336 = true := by decide +kernel
set_option maxRecDepth 100000 in
theorem lo_above : okCI 1094 [1, 2] 94 177 114 117 767 1344 = true := by decide +kernel
set_option maxRecDepth 100000 in
theorem lo_untrue : okCI 1127 [] 95 180 118 121 780 1348 = true := by decide +kernel
set_option maxRecDepth 100000 in
theorem lo_drop : okCI 1140 [1] 96 182 122 125 789 1360 = true := by decide +kernel
set_option maxRecDepth 100000 in
theorem lo_net : okCI 1163 [1, 2, 3] 97 185 126 129 809 1367 = true := by decide +kernel
set_option maxRecDepth 100000 in
theorem lo_gain : okCI 1206 [1] 98 187 130 133 813 1371 = true := by decide +kernel
set_option maxRecDepth 100000 in
theorem lo_born : okCI 1229 [1, 2] 99 188 134 137 822 1379 = true := by decide +kernel
set_option maxRecDepth 100000 in
theorem lo_shade : okCI 1262 [1, 2, 3, 4] 100 189 138 141 826 1383 = true := by decide +kernel
set_option maxRecDepth 100000 in
theorem lo_hour : okCI 1315 [1] 101 192 142 145 834 1387 = true := by decide +kernel
set_option maxRecDepth 100000 in
theorem lo_way : okCI 1338 [1, 2] 102 194 146 149 851 1399 = true := by decide +kernel
set_option maxRecDepth 100000 in
theorem lo_winds : okCI 1371 [1, 2] 103 195 150 153 859 1407 = true := by decide +kernel
set_option maxRecDepth 100000 in
theorem lo_name : okCI 1404 [1, 2] 104 196 154 157 869 1411 = true := by decide +kernel
set_option maxRecDepth 100000 in
theorem lo_several : okCI 1437 [] 105 197 158 161 873 1415 = true := by decide +kernel
set_option maxRecDepth 100000 in
theorem lo_called : okCI 1450 [1] 106 198 162 165 881 1419 = true := by decide +kernel
set_option maxRecDepth 100000 in
theorem lo_first : okCI 1473 [1, 2] 107 200 166 169 889 1423 = true := by decide +kernel
set_option maxRecDepth 100000 in
theorem lo_washed : okCI 1506 [1] 109 202 170 173 915 1432 = true := by decide +kernel
set_option maxRecDepth 100000 in
theorem lo_look : okCI 1529 [1, 2, 3] 110 203 174 177 923 1440 = true := by decide +kernel
set_option maxRecDepth 100000 in
theorem lo_worth : okCJ 1572 [1, 2] 111 205 178 182 931 1444 = true := by decide +kernel
set_option maxRecDepth 100000 in
theorem lo_next : okCI 1606 [1, 2] 112 207 183 186 941 1454 = true := by decide +kernel
set_option maxRecDepth 100000 in
theorem lo_told : okCI 1639 [1] 113 208 187 190 955 1462 = true := by decide +kernel
