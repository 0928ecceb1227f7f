/-! The law's own bytes, further. -/
set_option maxRecDepth 100000 in
theorem ckl_1500 : (List.range' 1500 50).all (fun pc => chkP 317 pc) = true := by decide +kernel
set_option maxRecDepth 100000 in
theorem ckl_1550 : (List.range' 1550 50).all (fun pc => chkP 317 pc) = true := by decide +kernel
set_option maxRecDepth 100000 in
theorem ckl_1600 : (List.range' 1600 50).all (fun pc => chkP 317 pc) = true := by decide +kernel
set_option maxRecDepth 100000 in
theorem ckl_1650 : (List.range' 1650 50).all (fun pc => chkP 317 pc) = true := by decide +kernel
set_option maxRecDepth 100000 in
theorem ckl_1700 : (List.range' 1700 50).all (fun pc => chkP 317 pc) = true := by decide +kernel
set_option maxRecDepth 100000 in
theorem ckl_1750 : (List.range' 1750 50).all (fun pc => chkP 317 pc) = true := by decide +kernel
set_option maxRecDepth 100000 in
theorem ckl_1800 : (List.range' 1800 50).all (fun pc => chkP 317 pc) = true := by decide +kernel
set_option maxRecDepth 100000 in
theorem ckl_1850 : (List.range' 1850 50).all (fun pc => chkP 317 pc) = true := by decide +kernel
set_option maxRecDepth 100000 in
theorem ckl_1900 : (List.range' 1900 50).all (fun pc => chkP 317 pc) = true := by decide +kernel
set_option maxRecDepth 100000 in
theorem ckl_1950 : (List.range' 1950 50).all (fun pc => chkP 317 pc) = true := by decide +kernel
set_option maxRecDepth 100000 in
theorem ckl_2000 : (List.range' 2000 50).all (fun pc => chkP 317 pc) = true := by decide +kernel
