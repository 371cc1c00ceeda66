/-! the checks, decided (written by wip/whole/genok.py) -/
set_option maxRecDepth 100000 in
set_option maxHeartbeats 4000000 in
theorem ok_c_0 : ((List.range' 0 13).all (fun i => mm_oks i 0 (mm_code i))) = true := by decide +kernel
set_option maxRecDepth 100000 in
set_option maxHeartbeats 4000000 in
theorem ok_c_13 : ((List.range' 13 21).all (fun i => mm_oks i 0 (mm_code i))) = true := by decide +kernel
set_option maxRecDepth 100000 in
set_option maxHeartbeats 4000000 in
theorem ok_c_34 : ((List.range' 34 13).all (fun i => mm_oks i 0 (mm_code i))) = true := by decide +kernel
set_option maxRecDepth 100000 in
set_option maxHeartbeats 4000000 in
theorem ok_c_47 : ((List.range' 47 18).all (fun i => mm_oks i 0 (mm_code i))) = true := by decide +kernel
set_option maxRecDepth 100000 in
set_option maxHeartbeats 4000000 in
theorem ok_c_65 : ((List.range' 65 13).all (fun i => mm_oks i 0 (mm_code i))) = true := by decide +kernel
set_option maxRecDepth 100000 in
set_option maxHeartbeats 4000000 in
theorem ok_c_78 : ((List.range' 78 10).all (fun i => mm_oks i 0 (mm_code i))) = true := by decide +kernel
set_option maxRecDepth 100000 in
set_option maxHeartbeats 4000000 in
theorem ok_c_88 : ((List.range' 88 9).all (fun i => mm_oks i 0 (mm_code i))) = true := by decide +kernel
set_option maxRecDepth 100000 in
set_option maxHeartbeats 4000000 in
theorem ok_c_97 : ((List.range' 97 15).all (fun i => mm_oks i 0 (mm_code i))) = true := by decide +kernel
set_option maxRecDepth 100000 in
set_option maxHeartbeats 4000000 in
theorem ok_c_112 : ((List.range' 112 12).all (fun i => mm_oks i 0 (mm_code i))) = true := by decide +kernel
set_option maxRecDepth 100000 in
set_option maxHeartbeats 4000000 in
theorem ok_c_124 : ((List.range' 124 10).all (fun i => mm_oks i 0 (mm_code i))) = true := by decide +kernel
set_option maxRecDepth 100000 in
set_option maxHeartbeats 4000000 in
theorem ok_c_134 : ((List.range' 134 10).all (fun i => mm_oks i 0 (mm_code i))) = true := by decide +kernel
set_option maxRecDepth 100000 in
set_option maxHeartbeats 4000000 in
theorem ok_c_144 : ((List.range' 144 11).all (fun i => mm_oks i 0 (mm_code i))) = true := by decide +kernel
set_option maxRecDepth 100000 in
set_option maxHeartbeats 4000000 in
theorem ok_c_155 : ((List.range' 155 11).all (fun i => mm_oks i 0 (mm_code i))) = true := by decide +kernel
set_option maxRecDepth 100000 in
set_option maxHeartbeats 4000000 in
theorem ok_c_166 : ((List.range' 166 4).all (fun i => mm_oks i 0 (mm_code i))) = true := by decide +kernel
set_option maxRecDepth 100000 in
set_option maxHeartbeats 4000000 in
theorem ok_c_170 : ((List.range' 170 5).all (fun i => mm_oks i 0 (mm_code i))) = true := by decide +kernel
set_option maxRecDepth 100000 in
set_option maxHeartbeats 4000000 in
theorem ok_l_0 : mm_oks 175 0 mc_La_law_0 = true := by decide +kernel
set_option maxRecDepth 100000 in
set_option maxHeartbeats 4000000 in
theorem ok_l_1 : mm_oks 175 80 mc_La_law_1 = true := by decide +kernel
set_option maxRecDepth 100000 in
set_option maxHeartbeats 4000000 in
theorem ok_l_2 : mm_oks 175 160 mc_La_law_2 = true := by decide +kernel
set_option maxRecDepth 100000 in
set_option maxHeartbeats 4000000 in
theorem ok_l_3 : mm_oks 175 240 mc_La_law_3 = true := by decide +kernel
set_option maxRecDepth 100000 in
set_option maxHeartbeats 4000000 in
theorem ok_l_4 : mm_oks 175 320 mc_La_law_4 = true := by decide +kernel
set_option maxRecDepth 100000 in
set_option maxHeartbeats 4000000 in
theorem ok_l_5 : mm_oks 175 400 mc_La_law_5 = true := by decide +kernel
set_option maxRecDepth 100000 in
set_option maxHeartbeats 4000000 in
theorem ok_l_6 : mm_oks 175 480 mc_La_law_6 = true := by decide +kernel
set_option maxRecDepth 100000 in
set_option maxHeartbeats 4000000 in
theorem ok_l_7 : mm_oks 175 560 mc_La_law_7 = true := by decide +kernel
