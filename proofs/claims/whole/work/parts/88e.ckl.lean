/-! The law's own bytes. -/
set_option maxRecDepth 100000 in
theorem ckl_0 : (List.range' 0 200).all (fun pc => chkP 317 pc) = true := by decide +kernel
set_option maxRecDepth 100000 in
theorem ckl_200 : (List.range' 200 200).all (fun pc => chkP 317 pc) = true := by decide +kernel
set_option maxRecDepth 100000 in
theorem ckl_400 : (List.range' 400 200).all (fun pc => chkP 317 pc) = true := by decide +kernel
set_option maxRecDepth 100000 in
theorem ckl_600 : (List.range' 600 100).all (fun pc => chkP 317 pc) = true := by decide +kernel
set_option maxRecDepth 100000 in
theorem ckl_700 : (List.range' 700 100).all (fun pc => chkP 317 pc) = true := by decide +kernel
set_option maxRecDepth 100000 in
theorem ckl_800 : (List.range' 800 100).all (fun pc => chkP 317 pc) = true := by decide +kernel
set_option maxRecDepth 100000 in
theorem ckl_900 : (List.range' 900 100).all (fun pc => chkP 317 pc) = true := by decide +kernel
set_option maxRecDepth 100000 in
theorem ckl_1000 : (List.range' 1000 100).all (fun pc => chkP 317 pc) = true := by decide +kernel
set_option maxRecDepth 100000 in
theorem ckl_1100 : (List.range' 1100 100).all (fun pc => chkP 317 pc) = true := by decide +kernel
set_option maxRecDepth 100000 in
theorem ckl_1200 : (List.range' 1200 50).all (fun pc => chkP 317 pc) = true := by decide +kernel
set_option maxRecDepth 100000 in
theorem ckl_1250 : (List.range' 1250 50).all (fun pc => chkP 317 pc) = true := by decide +kernel
set_option maxRecDepth 100000 in
theorem ckl_1300 : (List.range' 1300 50).all (fun pc => chkP 317 pc) = true := by decide +kernel
set_option maxRecDepth 100000 in
theorem ckl_1350 : (List.range' 1350 50).all (fun pc => chkP 317 pc) = true := by decide +kernel
set_option maxRecDepth 100000 in
theorem ckl_1400 : (List.range' 1400 50).all (fun pc => chkP 317 pc) = true := by decide +kernel
set_option maxRecDepth 100000 in
theorem ckl_1450 : (List.range' 1450 50).all (fun pc => chkP 317 pc) = true := by decide +kernel
