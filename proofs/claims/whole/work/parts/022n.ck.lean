theorem lOk8 : (List.range 120).all (fun i => chkP code cd313 (960 + i)) = true := by decide +kernel
theorem lOk9 : (List.range 120).all (fun i => chkP code cd313 (1080 + i)) = true := by decide +kernel
theorem lOk10 : (List.range 120).all (fun i => chkP code cd313 (1200 + i)) = true := by decide +kernel
theorem lOk11 : (List.range 120).all (fun i => chkP code cd313 (1320 + i)) = true := by decide +kernel
