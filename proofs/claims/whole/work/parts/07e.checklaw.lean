/-! the tables tell the code: the law (printed by wip/whole/gen16.py) -/
set_option maxRecDepth 100000 in
theorem kl1000 : (List.range 100).all (fun i => chk 334 (1000 + i)) = true := by decide +kernel
set_option maxRecDepth 100000 in
theorem kl1100 : (List.range 100).all (fun i => chk 334 (1100 + i)) = true := by decide +kernel
set_option maxRecDepth 100000 in
theorem kl1200 : (List.range 100).all (fun i => chk 334 (1200 + i)) = true := by decide +kernel
set_option maxRecDepth 100000 in
theorem kl1300 : (List.range 100).all (fun i => chk 334 (1300 + i)) = true := by decide +kernel
set_option maxRecDepth 100000 in
theorem kl1400 : (List.range 100).all (fun i => chk 334 (1400 + i)) = true := by decide +kernel
set_option maxRecDepth 100000 in
theorem kl1500 : (List.range 100).all (fun i => chk 334 (1500 + i)) = true := by decide +kernel
set_option maxRecDepth 100000 in
theorem kl1600 : (List.range 100).all (fun i => chk 334 (1600 + i)) = true := by decide +kernel
set_option maxRecDepth 100000 in
theorem kl1700 : (List.range 100).all (fun i => chk 334 (1700 + i)) = true := by decide +kernel
set_option maxRecDepth 100000 in
theorem kl1800 : (List.range 100).all (fun i => chk 334 (1800 + i)) = true := by decide +kernel
set_option maxRecDepth 100000 in
theorem kl1900 : (List.range 100).all (fun i => chk 334 (1900 + i)) = true := by decide +kernel
