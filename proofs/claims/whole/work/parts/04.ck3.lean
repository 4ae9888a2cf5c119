set_option maxRecDepth 100000 in
theorem am_ck146 : (List.range' 146 3).all am_chkM = true := by decide +kernel
set_option maxRecDepth 100000 in
theorem am_ck149 : (List.range' 149 3).all am_chkM = true := by decide +kernel
set_option maxRecDepth 100000 in
theorem am_ck152 : (List.range' 152 1).all am_chkM = true := by decide +kernel
set_option maxRecDepth 100000 in
theorem am_ck153 : (List.range' 153 2).all am_chkM = true := by decide +kernel
set_option maxRecDepth 100000 in
theorem am_ck155 : (List.range' 155 4).all am_chkM = true := by decide +kernel
set_option maxRecDepth 100000 in
theorem am_ck159 : (List.range' 159 1).all am_chkM = true := by decide +kernel
set_option maxRecDepth 100000 in
theorem am_ck160 : (List.range' 160 2).all am_chkM = true := by decide +kernel
set_option maxRecDepth 100000 in
theorem am_ck162 : (List.range' 162 3).all am_chkM = true := by decide +kernel
set_option maxRecDepth 100000 in
theorem am_ck165 : (List.range' 165 6).all am_chkM = true := by decide +kernel
set_option maxRecDepth 100000 in
theorem am_ck171 : (List.range' 171 2).all am_chkM = true := by decide +kernel
set_option maxRecDepth 100000 in
theorem am_ck173 : (List.range' 173 4).all am_chkM = true := by decide +kernel
set_option maxRecDepth 100000 in
theorem am_ck177 : (List.range' 177 4).all am_chkM = true := by decide +kernel
set_option maxRecDepth 100000 in
theorem am_ck181 : (List.range' 181 5).all am_chkM = true := by decide +kernel
set_option maxRecDepth 100000 in
theorem am_ck186 : (List.range' 186 3).all am_chkM = true := by decide +kernel
set_option maxRecDepth 100000 in
theorem am_ck189 : (List.range' 189 1).all am_chkM = true := by decide +kernel
set_option maxRecDepth 100000 in
theorem am_ck190 : (List.range' 190 3).all am_chkM = true := by decide +kernel
set_option maxRecDepth 100000 in
theorem am_ck193 : (List.range' 193 1).all am_chkM = true := by decide +kernel
set_option maxRecDepth 100000 in
theorem am_ck194 : (List.range' 194 4).all am_chkM = true := by decide +kernel
set_option maxRecDepth 100000 in
theorem am_ck198 : (List.range' 198 1).all am_chkM = true := by decide +kernel
set_option maxRecDepth 100000 in
theorem am_ck199 : (List.range' 199 1).all am_chkM = true := by decide +kernel
set_option maxRecDepth 100000 in
theorem am_ck200 : (List.range' 200 1).all am_chkM = true := by decide +kernel
set_option maxRecDepth 100000 in
theorem am_ck201 : (List.range' 201 7).all am_chkM = true := by decide +kernel
set_option maxRecDepth 100000 in
theorem am_ck208 : (List.range' 208 5).all am_chkM = true := by decide +kernel
set_option maxRecDepth 100000 in
theorem am_ck213 : (List.range' 213 2).all am_chkM = true := by decide +kernel
set_option maxRecDepth 100000 in
theorem am_ck215 : (List.range' 215 2).all am_chkM = true := by decide +kernel
set_option maxRecDepth 100000 in
theorem am_ck217 : (List.range' 217 2).all am_chkM = true := by decide +kernel
set_option maxRecDepth 100000 in
theorem am_ck219 : (List.range' 219 2).all am_chkM = true := by decide +kernel
set_option maxRecDepth 100000 in
theorem am_ck221 : (List.range' 221 4).all am_chkM = true := by decide +kernel
set_option maxRecDepth 100000 in
theorem am_ck225 : (List.range' 225 3).all am_chkM = true := by decide +kernel
set_option maxRecDepth 100000 in
theorem am_ck228 : (List.range' 228 1).all am_chkM = true := by decide +kernel
set_option maxRecDepth 100000 in
theorem am_ck229 : (List.range' 229 3).all am_chkM = true := by decide +kernel
set_option maxRecDepth 100000 in
theorem am_ck232 : (List.range' 232 1).all am_chkM = true := by decide +kernel
