theorem lOk0 : (List.range 120).all (fun i => chkP code cd313 (0 + i)) = true := by decide +kernel
theorem lOk1 : (List.range 120).all (fun i => chkP code cd313 (120 + i)) = true := by decide +kernel
theorem lOk2 : (List.range 120).all (fun i => chkP code cd313 (240 + i)) = true := by decide +kernel
theorem lOk3 : (List.range 120).all (fun i => chkP code cd313 (360 + i)) = true := by decide +kernel
