set_option maxRecDepth 100000 in
theorem am_ckL1406 : (List.range' 1406 17).all (fun q => am_chk 0 q (am_code 0 q)) = true := by decide +kernel
set_option maxRecDepth 100000 in
theorem am_ckL1423 : (List.range' 1423 13).all (fun q => am_chk 0 q (am_code 0 q)) = true := by decide +kernel
set_option maxRecDepth 100000 in
theorem am_ckL1436 : (List.range' 1436 13).all (fun q => am_chk 0 q (am_code 0 q)) = true := by decide +kernel
set_option maxRecDepth 100000 in
theorem am_ckL1449 : (List.range' 1449 13).all (fun q => am_chk 0 q (am_code 0 q)) = true := by decide +kernel
set_option maxRecDepth 100000 in
theorem am_ck1 : (List.range' 1 2).all am_chkM = true := by decide +kernel
set_option maxRecDepth 100000 in
theorem am_ck3 : (List.range' 3 14).all am_chkM = true := by decide +kernel
set_option maxRecDepth 100000 in
theorem am_ck17 : (List.range' 17 3).all am_chkM = true := by decide +kernel
set_option maxRecDepth 100000 in
theorem am_ck20 : (List.range' 20 3).all am_chkM = true := by decide +kernel
set_option maxRecDepth 100000 in
theorem am_ck23 : (List.range' 23 2).all am_chkM = true := by decide +kernel
set_option maxRecDepth 100000 in
theorem am_ck25 : (List.range' 25 1).all am_chkM = true := by decide +kernel
set_option maxRecDepth 100000 in
theorem am_ck26 : (List.range' 26 5).all am_chkM = true := by decide +kernel
set_option maxRecDepth 100000 in
theorem am_ck31 : (List.range' 31 3).all am_chkM = true := by decide +kernel
set_option maxRecDepth 100000 in
theorem am_ck34 : (List.range' 34 6).all am_chkM = true := by decide +kernel
set_option maxRecDepth 100000 in
theorem am_ck40 : (List.range' 40 9).all am_chkM = true := by decide +kernel
set_option maxRecDepth 100000 in
theorem am_ck49 : (List.range' 49 2).all am_chkM = true := by decide +kernel
set_option maxRecDepth 100000 in
theorem am_ck51 : (List.range' 51 9).all am_chkM = true := by decide +kernel
set_option maxRecDepth 100000 in
theorem am_ck60 : (List.range' 60 6).all am_chkM = true := by decide +kernel
set_option maxRecDepth 100000 in
theorem am_ck66 : (List.range' 66 5).all am_chkM = true := by decide +kernel
set_option maxRecDepth 100000 in
theorem am_ck71 : (List.range' 71 8).all am_chkM = true := by decide +kernel
set_option maxRecDepth 100000 in
theorem am_ck79 : (List.range' 79 2).all am_chkM = true := by decide +kernel
set_option maxRecDepth 100000 in
theorem am_ck81 : (List.range' 81 3).all am_chkM = true := by decide +kernel
set_option maxRecDepth 100000 in
theorem am_ck84 : (List.range' 84 7).all am_chkM = true := by decide +kernel
set_option maxRecDepth 100000 in
theorem am_ck91 : (List.range' 91 4).all am_chkM = true := by decide +kernel
set_option maxRecDepth 100000 in
theorem am_ck95 : (List.range' 95 4).all am_chkM = true := by decide +kernel
set_option maxRecDepth 100000 in
theorem am_ck99 : (List.range' 99 1).all am_chkM = true := by decide +kernel
set_option maxRecDepth 100000 in
theorem am_ck100 : (List.range' 100 8).all am_chkM = true := by decide +kernel
set_option maxRecDepth 100000 in
theorem am_ck108 : (List.range' 108 3).all am_chkM = true := by decide +kernel
set_option maxRecDepth 100000 in
theorem am_ck111 : (List.range' 111 4).all am_chkM = true := by decide +kernel
set_option maxRecDepth 100000 in
theorem am_ck115 : (List.range' 115 7).all am_chkM = true := by decide +kernel
set_option maxRecDepth 100000 in
theorem am_ck122 : (List.range' 122 6).all am_chkM = true := by decide +kernel
set_option maxRecDepth 100000 in
theorem am_ck128 : (List.range' 128 2).all am_chkM = true := by decide +kernel
set_option maxRecDepth 100000 in
theorem am_ck130 : (List.range' 130 2).all am_chkM = true := by decide +kernel
set_option maxRecDepth 100000 in
theorem am_ck132 : (List.range' 132 4).all am_chkM = true := by decide +kernel
set_option maxRecDepth 100000 in
theorem am_ck136 : (List.range' 136 3).all am_chkM = true := by decide +kernel
set_option maxRecDepth 100000 in
theorem am_ck139 : (List.range' 139 2).all am_chkM = true := by decide +kernel
set_option maxRecDepth 100000 in
theorem am_ck141 : (List.range' 141 5).all am_chkM = true := by decide +kernel
