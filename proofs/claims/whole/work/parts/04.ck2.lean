set_option maxRecDepth 100000 in
theorem am_ck66 : (List.range' 66 5).all am_chkM = true := by decide +kernel
set_option maxRecDepth 100000 in
theorem am_ck71 : (List.range' 71 8).all am_chkM = true := by decide +kernel
set_option maxRecDepth 100000 in
theorem am_ck79 : (List.range' 79 2).all am_chkM = true := by decide +kernel
set_option maxRecDepth 100000 in
theorem am_ck81 : (List.range' 81 3).all am_chkM = true := by decide +kernel
set_option maxRecDepth 100000 in
theorem am_ck84 : (List.range' 84 7).all am_chkM = true := by decide +kernel
set_option maxRecDepth 100000 in
theorem am_ck91 : (List.range' 91 4).all am_chkM = true := by decide +kernel
set_option maxRecDepth 100000 in
theorem am_ck95 : (List.range' 95 4).all am_chkM = true := by decide +kernel
set_option maxRecDepth 100000 in
theorem am_ck99 : (List.range' 99 1).all am_chkM = true := by decide +kernel
set_option maxRecDepth 100000 in
theorem am_ck100 : (List.range' 100 8).all am_chkM = true := by decide +kernel
set_option maxRecDepth 100000 in
theorem am_ck108 : (List.range' 108 3).all am_chkM = true := by decide +kernel
set_option maxRecDepth 100000 in
theorem am_ck111 : (List.range' 111 4).all am_chkM = true := by decide +kernel
set_option maxRecDepth 100000 in
theorem am_ck115 : (List.range' 115 7).all am_chkM = true := by decide +kernel
set_option maxRecDepth 100000 in
theorem am_ck122 : (List.range' 122 6).all am_chkM = true := by decide +kernel
set_option maxRecDepth 100000 in
theorem am_ck128 : (List.range' 128 2).all am_chkM = true := by decide +kernel
set_option maxRecDepth 100000 in
theorem am_ck130 : (List.range' 130 2).all am_chkM = true := by decide +kernel
set_option maxRecDepth 100000 in
theorem am_ck132 : (List.range' 132 4).all am_chkM = true := by decide +kernel
set_option maxRecDepth 100000 in
theorem am_ck136 : (List.range' 136 3).all am_chkM = true := by decide +kernel
set_option maxRecDepth 100000 in
theorem am_ck139 : (List.range' 139 2).all am_chkM = true := by decide +kernel
set_option maxRecDepth 100000 in
theorem am_ck141 : (List.range' 141 5).all am_chkM = true := by decide +kernel
set_option maxRecDepth 100000 in
theorem am_ck146 : (List.range' 146 3).all am_chkM = true := by decide +kernel
set_option maxRecDepth 100000 in
theorem am_ck149 : (List.range' 149 3).all am_chkM = true := by decide +kernel
set_option maxRecDepth 100000 in
theorem am_ck152 : (List.range' 152 1).all am_chkM = true := by decide +kernel
set_option maxRecDepth 100000 in
theorem am_ck153 : (List.range' 153 2).all am_chkM = true := by decide +kernel
set_option maxRecDepth 100000 in
theorem am_ck155 : (List.range' 155 4).all am_chkM = true := by decide +kernel
set_option maxRecDepth 100000 in
theorem am_ck159 : (List.range' 159 1).all am_chkM = true := by decide +kernel
set_option maxRecDepth 100000 in
theorem am_ck160 : (List.range' 160 2).all am_chkM = true := by decide +kernel
set_option maxRecDepth 100000 in
theorem am_ck162 : (List.range' 162 3).all am_chkM = true := by decide +kernel
set_option maxRecDepth 100000 in
theorem am_ck165 : (List.range' 165 6).all am_chkM = true := by decide +kernel
set_option maxRecDepth 100000 in
theorem am_ck171 : (List.range' 171 2).all am_chkM = true := by decide +kernel
set_option maxRecDepth 100000 in
theorem am_ck173 : (List.range' 173 4).all am_chkM = true := by decide +kernel
set_option maxRecDepth 100000 in
theorem am_ck177 : (List.range' 177 4).all am_chkM = true := by decide +kernel
set_option maxRecDepth 100000 in
theorem am_ck181 : (List.range' 181 5).all am_chkM = true := by decide +kernel
set_option maxRecDepth 100000 in
theorem am_ck186 : (List.range' 186 3).all am_chkM = true := by decide +kernel
set_option maxRecDepth 100000 in
theorem am_ck189 : (List.range' 189 1).all am_chkM = true := by decide +kernel
set_option maxRecDepth 100000 in
theorem am_ck190 : (List.range' 190 3).all am_chkM = true := by decide +kernel
set_option maxRecDepth 100000 in
theorem am_ck193 : (List.range' 193 1).all am_chkM = true := by decide +kernel
set_option maxRecDepth 100000 in
theorem am_ck194 : (List.range' 194 4).all am_chkM = true := by decide +kernel
set_option maxRecDepth 100000 in
theorem am_ck198 : (List.range' 198 1).all am_chkM = true := by decide +kernel
set_option maxRecDepth 100000 in
theorem am_ck199 : (List.range' 199 1).all am_chkM = true := by decide +kernel
set_option maxRecDepth 100000 in
theorem am_ck200 : (List.range' 200 1).all am_chkM = true := by decide +kernel
