/-! the tables tell the code: the law (printed by wip/whole/gen16.py) -/
set_option maxRecDepth 100000 in
theorem kl0 : (List.range 100).all (fun i => chk 334 (0 + i)) = true := by decide +kernel
set_option maxRecDepth 100000 in
theorem kl100 : (List.range 100).all (fun i => chk 334 (100 + i)) = true := by decide +kernel
set_option maxRecDepth 100000 in
theorem kl200 : (List.range 100).all (fun i => chk 334 (200 + i)) = true := by decide +kernel
set_option maxRecDepth 100000 in
theorem kl300 : (List.range 100).all (fun i => chk 334 (300 + i)) = true := by decide +kernel
set_option maxRecDepth 100000 in
theorem kl400 : (List.range 100).all (fun i => chk 334 (400 + i)) = true := by decide +kernel
set_option maxRecDepth 100000 in
theorem kl500 : (List.range 100).all (fun i => chk 334 (500 + i)) = true := by decide +kernel
set_option maxRecDepth 100000 in
theorem kl600 : (List.range 100).all (fun i => chk 334 (600 + i)) = true := by decide +kernel
set_option maxRecDepth 100000 in
theorem kl700 : (List.range 100).all (fun i => chk 334 (700 + i)) = true := by decide +kernel
set_option maxRecDepth 100000 in
theorem kl800 : (List.range 100).all (fun i => chk 334 (800 + i)) = true := by decide +kernel
set_option maxRecDepth 100000 in
theorem kl900 : (List.range 100).all (fun i => chk 334 (900 + i)) = true := by decide +kernel
