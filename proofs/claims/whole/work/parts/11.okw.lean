/-- a method's own words -/
def mm_okw (j : Nat) : Bool := ((mm_has (mm_wp j).1 (.code (mm_y j) (mm_by j) (mm_mx j) (mm_re (mm_rt j)))) && mm_has (mm_wp j).2.1 (.initialized (mm_y j).cls)) && (((plainFor (mm_y j) && decide ((parseMethodDescriptor (mm_y j).desc).map (fun d => d.parameters.length) = some (bif mm_sta j then mm_na j else mm_na j - 1))) && (decide ((mm_y j).cls ≠ "java/lang/invoke/MethodHandle") && decide ((mm_y j).cls ≠ "java/lang/invoke/VarHandle"))))
set_option maxRecDepth 100000 in
set_option maxHeartbeats 4000000 in
theorem ok_w_0 : ((List.range' 0 25).all (fun i => mm_okw i)) = true := by decide +kernel
set_option maxRecDepth 100000 in
set_option maxHeartbeats 4000000 in
theorem ok_w_25 : ((List.range' 25 25).all (fun i => mm_okw i)) = true := by decide +kernel
set_option maxRecDepth 100000 in
set_option maxHeartbeats 4000000 in
theorem ok_w_50 : ((List.range' 50 25).all (fun i => mm_okw i)) = true := by decide +kernel
set_option maxRecDepth 100000 in
set_option maxHeartbeats 4000000 in
theorem ok_w_75 : ((List.range' 75 25).all (fun i => mm_okw i)) = true := by decide +kernel
set_option maxRecDepth 100000 in
set_option maxHeartbeats 4000000 in
theorem ok_w_100 : ((List.range' 100 25).all (fun i => mm_okw i)) = true := by decide +kernel
set_option maxRecDepth 100000 in
set_option maxHeartbeats 4000000 in
theorem ok_w_125 : ((List.range' 125 25).all (fun i => mm_okw i)) = true := by decide +kernel
set_option maxRecDepth 100000 in
set_option maxHeartbeats 4000000 in
theorem ok_w_150 : ((List.range' 150 25).all (fun i => mm_okw i)) = true := by decide +kernel
