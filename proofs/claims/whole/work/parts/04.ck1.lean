set_option maxRecDepth 100000 in
theorem am_ckL990 : (List.range' 990 18).all (fun q => am_chk 0 q (am_code 0 q)) = true := by decide +kernel
set_option maxRecDepth 100000 in
theorem am_ckL1008 : (List.range' 1008 24).all (fun q => am_chk 0 q (am_code 0 q)) = true := by decide +kernel
set_option maxRecDepth 100000 in
theorem am_ckL1032 : (List.range' 1032 12).all (fun q => am_chk 0 q (am_code 0 q)) = true := by decide +kernel
set_option maxRecDepth 100000 in
theorem am_ckL1044 : (List.range' 1044 14).all (fun q => am_chk 0 q (am_code 0 q)) = true := by decide +kernel
set_option maxRecDepth 100000 in
theorem am_ckL1058 : (List.range' 1058 21).all (fun q => am_chk 0 q (am_code 0 q)) = true := by decide +kernel
set_option maxRecDepth 100000 in
theorem am_ckL1079 : (List.range' 1079 13).all (fun q => am_chk 0 q (am_code 0 q)) = true := by decide +kernel
set_option maxRecDepth 100000 in
theorem am_ckL1092 : (List.range' 1092 15).all (fun q => am_chk 0 q (am_code 0 q)) = true := by decide +kernel
set_option maxRecDepth 100000 in
theorem am_ckL1107 : (List.range' 1107 13).all (fun q => am_chk 0 q (am_code 0 q)) = true := by decide +kernel
set_option maxRecDepth 100000 in
theorem am_ckL1120 : (List.range' 1120 15).all (fun q => am_chk 0 q (am_code 0 q)) = true := by decide +kernel
set_option maxRecDepth 100000 in
theorem am_ckL1135 : (List.range' 1135 13).all (fun q => am_chk 0 q (am_code 0 q)) = true := by decide +kernel
set_option maxRecDepth 100000 in
theorem am_ckL1148 : (List.range' 1148 21).all (fun q => am_chk 0 q (am_code 0 q)) = true := by decide +kernel
set_option maxRecDepth 100000 in
theorem am_ckL1169 : (List.range' 1169 16).all (fun q => am_chk 0 q (am_code 0 q)) = true := by decide +kernel
set_option maxRecDepth 100000 in
theorem am_ckL1185 : (List.range' 1185 16).all (fun q => am_chk 0 q (am_code 0 q)) = true := by decide +kernel
set_option maxRecDepth 100000 in
theorem am_ckL1201 : (List.range' 1201 12).all (fun q => am_chk 0 q (am_code 0 q)) = true := by decide +kernel
set_option maxRecDepth 100000 in
theorem am_ckL1213 : (List.range' 1213 12).all (fun q => am_chk 0 q (am_code 0 q)) = true := by decide +kernel
set_option maxRecDepth 100000 in
theorem am_ckL1225 : (List.range' 1225 12).all (fun q => am_chk 0 q (am_code 0 q)) = true := by decide +kernel
set_option maxRecDepth 100000 in
theorem am_ckL1237 : (List.range' 1237 12).all (fun q => am_chk 0 q (am_code 0 q)) = true := by decide +kernel
set_option maxRecDepth 100000 in
theorem am_ckL1249 : (List.range' 1249 10).all (fun q => am_chk 0 q (am_code 0 q)) = true := by decide +kernel
set_option maxRecDepth 100000 in
theorem am_ckL1259 : (List.range' 1259 14).all (fun q => am_chk 0 q (am_code 0 q)) = true := by decide +kernel
set_option maxRecDepth 100000 in
theorem am_ckL1273 : (List.range' 1273 18).all (fun q => am_chk 0 q (am_code 0 q)) = true := by decide +kernel
set_option maxRecDepth 100000 in
theorem am_ckL1291 : (List.range' 1291 13).all (fun q => am_chk 0 q (am_code 0 q)) = true := by decide +kernel
set_option maxRecDepth 100000 in
theorem am_ckL1304 : (List.range' 1304 11).all (fun q => am_chk 0 q (am_code 0 q)) = true := by decide +kernel
set_option maxRecDepth 100000 in
theorem am_ckL1315 : (List.range' 1315 13).all (fun q => am_chk 0 q (am_code 0 q)) = true := by decide +kernel
set_option maxRecDepth 100000 in
theorem am_ckL1328 : (List.range' 1328 13).all (fun q => am_chk 0 q (am_code 0 q)) = true := by decide +kernel
set_option maxRecDepth 100000 in
theorem am_ckL1341 : (List.range' 1341 17).all (fun q => am_chk 0 q (am_code 0 q)) = true := by decide +kernel
set_option maxRecDepth 100000 in
theorem am_ckL1358 : (List.range' 1358 15).all (fun q => am_chk 0 q (am_code 0 q)) = true := by decide +kernel
set_option maxRecDepth 100000 in
theorem am_ckL1373 : (List.range' 1373 9).all (fun q => am_chk 0 q (am_code 0 q)) = true := by decide +kernel
set_option maxRecDepth 100000 in
theorem am_ckL1382 : (List.range' 1382 11).all (fun q => am_chk 0 q (am_code 0 q)) = true := by decide +kernel
set_option maxRecDepth 100000 in
theorem am_ckL1393 : (List.range' 1393 13).all (fun q => am_chk 0 q (am_code 0 q)) = true := by decide +kernel
