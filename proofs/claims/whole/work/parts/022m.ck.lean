theorem lOk4 : (List.range 120).all (fun i => chkP code cd313 (480 + i)) = true := by decide +kernel
theorem lOk5 : (List.range 120).all (fun i => chkP code cd313 (600 + i)) = true := by decide +kernel
theorem lOk6 : (List.range 120).all (fun i => chkP code cd313 (720 + i)) = true := by decide +kernel
theorem lOk7 : (List.range 120).all (fun i => chkP code cd313 (840 + i)) = true := by decide +kernel
