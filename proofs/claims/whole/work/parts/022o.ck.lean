theorem lOk12 : (List.range 120).all (fun i => chkP code cd313 (1440 + i)) = true := by decide +kernel
theorem lOk13 : (List.range 120).all (fun i => chkP code cd313 (1560 + i)) = true := by decide +kernel
theorem lOk14 : (List.range 120).all (fun i => chkP code cd313 (1680 + i)) = true := by decide +kernel
theorem lOk15 : (List.range 120).all (fun i => chkP code cd313 (1800 + i)) = true := by decide +kernel
