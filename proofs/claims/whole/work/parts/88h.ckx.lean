/-! Masks and ends of the tables: decided by the kernel. -/
noncomputable def chkXP (mn pc : Nat) : Bool := match cd mn pc with
  | none => true
  | some e => chkX mn e
set_option maxRecDepth 100000 in
theorem cx_0 : (List.range' 0 20).all (fun mn => (List.range (cln mn)).all (fun pc => chkXP mn pc)) = true := by decide +kernel
set_option maxRecDepth 100000 in
theorem cx_20 : (List.range' 20 20).all (fun mn => (List.range (cln mn)).all (fun pc => chkXP mn pc)) = true := by decide +kernel
set_option maxRecDepth 100000 in
theorem cx_40 : (List.range' 40 20).all (fun mn => (List.range (cln mn)).all (fun pc => chkXP mn pc)) = true := by decide +kernel
set_option maxRecDepth 100000 in
theorem cx_60 : (List.range' 60 20).all (fun mn => (List.range (cln mn)).all (fun pc => chkXP mn pc)) = true := by decide +kernel
set_option maxRecDepth 100000 in
theorem cx_80 : (List.range' 80 20).all (fun mn => (List.range (cln mn)).all (fun pc => chkXP mn pc)) = true := by decide +kernel
set_option maxRecDepth 100000 in
theorem cx_100 : (List.range' 100 20).all (fun mn => (List.range (cln mn)).all (fun pc => chkXP mn pc)) = true := by decide +kernel
set_option maxRecDepth 100000 in
theorem cx_120 : (List.range' 120 20).all (fun mn => (List.range (cln mn)).all (fun pc => chkXP mn pc)) = true := by decide +kernel
set_option maxRecDepth 100000 in
theorem cx_140 : (List.range' 140 20).all (fun mn => (List.range (cln mn)).all (fun pc => chkXP mn pc)) = true := by decide +kernel
set_option maxRecDepth 100000 in
theorem cx_160 : (List.range' 160 20).all (fun mn => (List.range (cln mn)).all (fun pc => chkXP mn pc)) = true := by decide +kernel
set_option maxRecDepth 100000 in
theorem cx_180 : (List.range' 180 20).all (fun mn => (List.range (cln mn)).all (fun pc => chkXP mn pc)) = true := by decide +kernel
set_option maxRecDepth 100000 in
theorem cx_200 : (List.range' 200 20).all (fun mn => (List.range (cln mn)).all (fun pc => chkXP mn pc)) = true := by decide +kernel
set_option maxRecDepth 100000 in
theorem cx_220 : (List.range' 220 20).all (fun mn => (List.range (cln mn)).all (fun pc => chkXP mn pc)) = true := by decide +kernel
set_option maxRecDepth 100000 in
theorem cx_240 : (List.range' 240 20).all (fun mn => (List.range (cln mn)).all (fun pc => chkXP mn pc)) = true := by decide +kernel
set_option maxRecDepth 100000 in
theorem cx_260 : (List.range' 260 20).all (fun mn => (List.range (cln mn)).all (fun pc => chkXP mn pc)) = true := by decide +kernel
set_option maxRecDepth 100000 in
theorem cx_280 : (List.range' 280 20).all (fun mn => (List.range (cln mn)).all (fun pc => chkXP mn pc)) = true := by decide +kernel
set_option maxRecDepth 100000 in
theorem cx_300 : (List.range' 300 18).all (fun mn => (List.range (cln mn)).all (fun pc => chkXP mn pc)) = true := by decide +kernel
