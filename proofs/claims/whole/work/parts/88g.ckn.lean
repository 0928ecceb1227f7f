/-! The law's own bytes, the rest. -/
set_option maxRecDepth 100000 in
theorem ckl_2050 : (List.range' 2050 50).all (fun pc => chkP 317 pc) = true := by decide +kernel
set_option maxRecDepth 100000 in
theorem ckl_2100 : (List.range' 2100 50).all (fun pc => chkP 317 pc) = true := by decide +kernel
set_option maxRecDepth 100000 in
theorem ckl_2150 : (List.range' 2150 50).all (fun pc => chkP 317 pc) = true := by decide +kernel
set_option maxRecDepth 100000 in
theorem ckl_2200 : (List.range' 2200 50).all (fun pc => chkP 317 pc) = true := by decide +kernel
set_option maxRecDepth 100000 in
theorem ckl_2250 : (List.range' 2250 50).all (fun pc => chkP 317 pc) = true := by decide +kernel
set_option maxRecDepth 100000 in
theorem ckl_2300 : (List.range' 2300 50).all (fun pc => chkP 317 pc) = true := by decide +kernel
set_option maxRecDepth 100000 in
theorem ckl_2350 : (List.range' 2350 50).all (fun pc => chkP 317 pc) = true := by decide +kernel
set_option maxRecDepth 100000 in
theorem ckl_2400 : (List.range' 2400 50).all (fun pc => chkP 317 pc) = true := by decide +kernel
set_option maxRecDepth 100000 in
theorem ckl_2450 : (List.range' 2450 50).all (fun pc => chkP 317 pc) = true := by decide +kernel
set_option maxRecDepth 100000 in
theorem ckl_2500 : (List.range' 2500 28).all (fun pc => chkP 317 pc) = true := by decide +kernel
