set_option maxRecDepth 100000 in
theorem am_ckL1107 : (List.range' 1107 13).all (fun q => am_chk 0 q (am_code 0 q)) = true := by decide +kernel
set_option maxRecDepth 100000 in
theorem am_ckL1120 : (List.range' 1120 15).all (fun q => am_chk 0 q (am_code 0 q)) = true := by decide +kernel
set_option maxRecDepth 100000 in
theorem am_ckL1135 : (List.range' 1135 13).all (fun q => am_chk 0 q (am_code 0 q)) = true := by decide +kernel
set_option maxRecDepth 100000 in
theorem am_ckL1148 : (List.range' 1148 21).all (fun q => am_chk 0 q (am_code 0 q)) = true := by decide +kernel
set_option maxRecDepth 100000 in
theorem am_ckL1169 : (List.range' 1169 16).all (fun q => am_chk 0 q (am_code 0 q)) = true := by decide +kernel
set_option maxRecDepth 100000 in
theorem am_ckL1185 : (List.range' 1185 16).all (fun q => am_chk 0 q (am_code 0 q)) = true := by decide +kernel
set_option maxRecDepth 100000 in
theorem am_ckL1201 : (List.range' 1201 12).all (fun q => am_chk 0 q (am_code 0 q)) = true := by decide +kernel
set_option maxRecDepth 100000 in
theorem am_ckL1213 : (List.range' 1213 12).all (fun q => am_chk 0 q (am_code 0 q)) = true := by decide +kernel
set_option maxRecDepth 100000 in
theorem am_ckL1225 : (List.range' 1225 12).all (fun q => am_chk 0 q (am_code 0 q)) = true := by decide +kernel
set_option maxRecDepth 100000 in
theorem am_ckL1237 : (List.range' 1237 12).all (fun q => am_chk 0 q (am_code 0 q)) = true := by decide +kernel
set_option maxRecDepth 100000 in
theorem am_ckL1249 : (List.range' 1249 10).all (fun q => am_chk 0 q (am_code 0 q)) = true := by decide +kernel
set_option maxRecDepth 100000 in
theorem am_ckL1259 : (List.range' 1259 14).all (fun q => am_chk 0 q (am_code 0 q)) = true := by decide +kernel
set_option maxRecDepth 100000 in
theorem am_ckL1273 : (List.range' 1273 18).all (fun q => am_chk 0 q (am_code 0 q)) = true := by decide +kernel
set_option maxRecDepth 100000 in
theorem am_ckL1291 : (List.range' 1291 13).all (fun q => am_chk 0 q (am_code 0 q)) = true := by decide +kernel
set_option maxRecDepth 100000 in
theorem am_ckL1304 : (List.range' 1304 11).all (fun q => am_chk 0 q (am_code 0 q)) = true := by decide +kernel
set_option maxRecDepth 100000 in
theorem am_ckL1315 : (List.range' 1315 13).all (fun q => am_chk 0 q (am_code 0 q)) = true := by decide +kernel
set_option maxRecDepth 100000 in
theorem am_ckL1328 : (List.range' 1328 13).all (fun q => am_chk 0 q (am_code 0 q)) = true := by decide +kernel
set_option maxRecDepth 100000 in
theorem am_ckL1341 : (List.range' 1341 17).all (fun q => am_chk 0 q (am_code 0 q)) = true := by decide +kernel
set_option maxRecDepth 100000 in
theorem am_ckL1358 : (List.range' 1358 15).all (fun q => am_chk 0 q (am_code 0 q)) = true := by decide +kernel
set_option maxRecDepth 100000 in
theorem am_ckL1373 : (List.range' 1373 9).all (fun q => am_chk 0 q (am_code 0 q)) = true := by decide +kernel
set_option maxRecDepth 100000 in
theorem am_ckL1382 : (List.range' 1382 11).all (fun q => am_chk 0 q (am_code 0 q)) = true := by decide +kernel
set_option maxRecDepth 100000 in
theorem am_ckL1393 : (List.range' 1393 13).all (fun q => am_chk 0 q (am_code 0 q)) = true := by decide +kernel
set_option maxRecDepth 100000 in
theorem am_ckL1406 : (List.range' 1406 17).all (fun q => am_chk 0 q (am_code 0 q)) = true := by decide +kernel
set_option maxRecDepth 100000 in
theorem am_ckL1423 : (List.range' 1423 13).all (fun q => am_chk 0 q (am_code 0 q)) = true := by decide +kernel
set_option maxRecDepth 100000 in
theorem am_ckL1436 : (List.range' 1436 13).all (fun q => am_chk 0 q (am_code 0 q)) = true := by decide +kernel
set_option maxRecDepth 100000 in
theorem am_ckL1449 : (List.range' 1449 13).all (fun q => am_chk 0 q (am_code 0 q)) = true := by decide +kernel
set_option maxRecDepth 100000 in
theorem am_ck1 : (List.range' 1 2).all am_chkM = true := by decide +kernel
set_option maxRecDepth 100000 in
theorem am_ck3 : (List.range' 3 14).all am_chkM = true := by decide +kernel
set_option maxRecDepth 100000 in
theorem am_ck17 : (List.range' 17 3).all am_chkM = true := by decide +kernel
set_option maxRecDepth 100000 in
theorem am_ck20 : (List.range' 20 3).all am_chkM = true := by decide +kernel
set_option maxRecDepth 100000 in
theorem am_ck23 : (List.range' 23 2).all am_chkM = true := by decide +kernel
set_option maxRecDepth 100000 in
theorem am_ck25 : (List.range' 25 1).all am_chkM = true := by decide +kernel
set_option maxRecDepth 100000 in
theorem am_ck26 : (List.range' 26 5).all am_chkM = true := by decide +kernel
set_option maxRecDepth 100000 in
theorem am_ck31 : (List.range' 31 3).all am_chkM = true := by decide +kernel
set_option maxRecDepth 100000 in
theorem am_ck34 : (List.range' 34 6).all am_chkM = true := by decide +kernel
set_option maxRecDepth 100000 in
theorem am_ck40 : (List.range' 40 9).all am_chkM = true := by decide +kernel
set_option maxRecDepth 100000 in
theorem am_ck49 : (List.range' 49 2).all am_chkM = true := by decide +kernel
set_option maxRecDepth 100000 in
theorem am_ck51 : (List.range' 51 9).all am_chkM = true := by decide +kernel
set_option maxRecDepth 100000 in
theorem am_ck60 : (List.range' 60 6).all am_chkM = true := by decide +kernel
