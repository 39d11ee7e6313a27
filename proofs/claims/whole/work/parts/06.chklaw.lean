set_option maxRecDepth 100000 in
theorem chk_law_0 : (List.range 150).all (fun i => chk 247 (0 + i)) = true := by decide +kernel
set_option maxRecDepth 100000 in
theorem chk_law_1 : (List.range 150).all (fun i => chk 247 (150 + i)) = true := by decide +kernel
set_option maxRecDepth 100000 in
theorem chk_law_2 : (List.range 150).all (fun i => chk 247 (300 + i)) = true := by decide +kernel
set_option maxRecDepth 100000 in
theorem chk_law_3 : (List.range 150).all (fun i => chk 247 (450 + i)) = true := by decide +kernel
set_option maxRecDepth 100000 in
theorem chk_law_4 : (List.range 150).all (fun i => chk 247 (600 + i)) = true := by decide +kernel
set_option maxRecDepth 100000 in
theorem chk_law_5 : (List.range 150).all (fun i => chk 247 (750 + i)) = true := by decide +kernel
set_option maxRecDepth 100000 in
theorem chk_law_6 : (List.range 150).all (fun i => chk 247 (900 + i)) = true := by decide +kernel
set_option maxRecDepth 100000 in
theorem chk_law_7 : (List.range 150).all (fun i => chk 247 (1050 + i)) = true := by decide +kernel
set_option maxRecDepth 100000 in
theorem chk_law_8 : (List.range 150).all (fun i => chk 247 (1200 + i)) = true := by decide +kernel
