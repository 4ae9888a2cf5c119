set_option maxRecDepth 100000 in
theorem am_ckL0 : (List.range' 0 302).all (fun q => am_chk 0 q (am_code 0 q)) = true := by decide +kernel
set_option maxRecDepth 100000 in
theorem am_ckL302 : (List.range' 302 42).all (fun q => am_chk 0 q (am_code 0 q)) = true := by decide +kernel
set_option maxRecDepth 100000 in
theorem am_ckL344 : (List.range' 344 36).all (fun q => am_chk 0 q (am_code 0 q)) = true := by decide +kernel
set_option maxRecDepth 100000 in
theorem am_ckL380 : (List.range' 380 32).all (fun q => am_chk 0 q (am_code 0 q)) = true := by decide +kernel
set_option maxRecDepth 100000 in
theorem am_ckL412 : (List.range' 412 28).all (fun q => am_chk 0 q (am_code 0 q)) = true := by decide +kernel
set_option maxRecDepth 100000 in
theorem am_ckL440 : (List.range' 440 31).all (fun q => am_chk 0 q (am_code 0 q)) = true := by decide +kernel
set_option maxRecDepth 100000 in
theorem am_ckL471 : (List.range' 471 37).all (fun q => am_chk 0 q (am_code 0 q)) = true := by decide +kernel
set_option maxRecDepth 100000 in
theorem am_ckL508 : (List.range' 508 26).all (fun q => am_chk 0 q (am_code 0 q)) = true := by decide +kernel
set_option maxRecDepth 100000 in
theorem am_ckL534 : (List.range' 534 27).all (fun q => am_chk 0 q (am_code 0 q)) = true := by decide +kernel
set_option maxRecDepth 100000 in
theorem am_ckL561 : (List.range' 561 32).all (fun q => am_chk 0 q (am_code 0 q)) = true := by decide +kernel
set_option maxRecDepth 100000 in
theorem am_ckL593 : (List.range' 593 29).all (fun q => am_chk 0 q (am_code 0 q)) = true := by decide +kernel
set_option maxRecDepth 100000 in
theorem am_ckL622 : (List.range' 622 24).all (fun q => am_chk 0 q (am_code 0 q)) = true := by decide +kernel
set_option maxRecDepth 100000 in
theorem am_ckL646 : (List.range' 646 30).all (fun q => am_chk 0 q (am_code 0 q)) = true := by decide +kernel
set_option maxRecDepth 100000 in
theorem am_ckL676 : (List.range' 676 19).all (fun q => am_chk 0 q (am_code 0 q)) = true := by decide +kernel
set_option maxRecDepth 100000 in
theorem am_ckL695 : (List.range' 695 21).all (fun q => am_chk 0 q (am_code 0 q)) = true := by decide +kernel
set_option maxRecDepth 100000 in
theorem am_ckL716 : (List.range' 716 22).all (fun q => am_chk 0 q (am_code 0 q)) = true := by decide +kernel
set_option maxRecDepth 100000 in
theorem am_ckL738 : (List.range' 738 18).all (fun q => am_chk 0 q (am_code 0 q)) = true := by decide +kernel
set_option maxRecDepth 100000 in
theorem am_ckL756 : (List.range' 756 21).all (fun q => am_chk 0 q (am_code 0 q)) = true := by decide +kernel
set_option maxRecDepth 100000 in
theorem am_ckL777 : (List.range' 777 25).all (fun q => am_chk 0 q (am_code 0 q)) = true := by decide +kernel
set_option maxRecDepth 100000 in
theorem am_ckL802 : (List.range' 802 21).all (fun q => am_chk 0 q (am_code 0 q)) = true := by decide +kernel
set_option maxRecDepth 100000 in
theorem am_ckL823 : (List.range' 823 16).all (fun q => am_chk 0 q (am_code 0 q)) = true := by decide +kernel
set_option maxRecDepth 100000 in
theorem am_ckL839 : (List.range' 839 18).all (fun q => am_chk 0 q (am_code 0 q)) = true := by decide +kernel
set_option maxRecDepth 100000 in
theorem am_ckL857 : (List.range' 857 20).all (fun q => am_chk 0 q (am_code 0 q)) = true := by decide +kernel
set_option maxRecDepth 100000 in
theorem am_ckL877 : (List.range' 877 21).all (fun q => am_chk 0 q (am_code 0 q)) = true := by decide +kernel
set_option maxRecDepth 100000 in
theorem am_ckL898 : (List.range' 898 17).all (fun q => am_chk 0 q (am_code 0 q)) = true := by decide +kernel
set_option maxRecDepth 100000 in
theorem am_ckL915 : (List.range' 915 15).all (fun q => am_chk 0 q (am_code 0 q)) = true := by decide +kernel
set_option maxRecDepth 100000 in
theorem am_ckL930 : (List.range' 930 15).all (fun q => am_chk 0 q (am_code 0 q)) = true := by decide +kernel
set_option maxRecDepth 100000 in
theorem am_ckL945 : (List.range' 945 15).all (fun q => am_chk 0 q (am_code 0 q)) = true := by decide +kernel
set_option maxRecDepth 100000 in
theorem am_ckL960 : (List.range' 960 14).all (fun q => am_chk 0 q (am_code 0 q)) = true := by decide +kernel
set_option maxRecDepth 100000 in
theorem am_ckL974 : (List.range' 974 16).all (fun q => am_chk 0 q (am_code 0 q)) = true := by decide +kernel
