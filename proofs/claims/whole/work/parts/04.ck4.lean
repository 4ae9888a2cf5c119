set_option maxRecDepth 100000 in
theorem am_ck233 : (List.range' 233 2).all am_chkM = true := by decide +kernel
set_option maxRecDepth 100000 in
theorem am_ck235 : (List.range' 235 3).all am_chkM = true := by decide +kernel
set_option maxRecDepth 100000 in
theorem am_ck238 : (List.range' 238 1).all am_chkM = true := by decide +kernel
set_option maxRecDepth 100000 in
theorem am_ck239 : (List.range' 239 3).all am_chkM = true := by decide +kernel
set_option maxRecDepth 100000 in
theorem am_ck242 : (List.range' 242 3).all am_chkM = true := by decide +kernel
set_option maxRecDepth 100000 in
theorem am_ck245 : (List.range' 245 2).all am_chkM = true := by decide +kernel
set_option maxRecDepth 100000 in
theorem am_ck247 : (List.range' 247 1).all am_chkM = true := by decide +kernel
set_option maxRecDepth 100000 in
theorem am_ck248 : (List.range' 248 5).all am_chkM = true := by decide +kernel
set_option maxRecDepth 100000 in
theorem am_ck253 : (List.range' 253 3).all am_chkM = true := by decide +kernel
set_option maxRecDepth 100000 in
theorem am_ck256 : (List.range' 256 2).all am_chkM = true := by decide +kernel
set_option maxRecDepth 100000 in
theorem am_ck258 : (List.range' 258 1).all am_chkM = true := by decide +kernel
set_option maxRecDepth 100000 in
theorem am_ck259 : (List.range' 259 1).all am_chkM = true := by decide +kernel
set_option maxRecDepth 100000 in
theorem am_ck260 : (List.range' 260 2).all am_chkM = true := by decide +kernel
set_option maxRecDepth 100000 in
theorem am_ck262 : (List.range' 262 3).all am_chkM = true := by decide +kernel
set_option maxRecDepth 100000 in
theorem am_ck265 : (List.range' 265 2).all am_chkM = true := by decide +kernel
set_option maxRecDepth 100000 in
theorem am_ck267 : (List.range' 267 3).all am_chkM = true := by decide +kernel
set_option maxRecDepth 100000 in
theorem am_ck270 : (List.range' 270 1).all am_chkM = true := by decide +kernel
set_option maxRecDepth 100000 in
theorem am_ck271 : (List.range' 271 3).all am_chkM = true := by decide +kernel
set_option maxRecDepth 100000 in
theorem am_ck274 : (List.range' 274 1).all am_chkM = true := by decide +kernel
set_option maxRecDepth 100000 in
theorem am_ck275 : (List.range' 275 3).all am_chkM = true := by decide +kernel
set_option maxRecDepth 100000 in
theorem am_ck278 : (List.range' 278 1).all am_chkM = true := by decide +kernel
set_option maxRecDepth 100000 in
theorem am_ck279 : (List.range' 279 1).all am_chkM = true := by decide +kernel
set_option maxRecDepth 100000 in
theorem am_ck280 : (List.range' 280 1).all am_chkM = true := by decide +kernel
set_option maxRecDepth 100000 in
theorem am_ck281 : (List.range' 281 3).all am_chkM = true := by decide +kernel
set_option maxRecDepth 100000 in
theorem am_ck284 : (List.range' 284 1).all am_chkM = true := by decide +kernel
set_option maxRecDepth 100000 in
theorem am_ck285 : (List.range' 285 1).all am_chkM = true := by decide +kernel
set_option maxRecDepth 100000 in
theorem am_ck286 : (List.range' 286 4).all am_chkM = true := by decide +kernel
set_option maxRecDepth 100000 in
theorem am_ck290 : (List.range' 290 1).all am_chkM = true := by decide +kernel
set_option maxRecDepth 100000 in
theorem am_ck291 : (List.range' 291 1).all am_chkM = true := by decide +kernel
theorem am_ckH0 : am_chkH 0 = true := rfl
theorem am_ck (k : Nat) (hk : k < am_mN) : am_chkM k = true := by
  have hk : k < 292 := hk
  by_cases h : k < 1
  · have hk0 : k = 0 := by omega
    subst hk0
    refine Bool.and_eq_true_iff.mpr ⟨am_ckH0, List.all_eq_true.mpr fun q hq => ?_⟩
    have hq : q < 1462 := List.mem_range.mp hq
    by_cases h0 : q < 302
    · exact List.all_eq_true.mp am_ckL0 q (List.mem_range'_1.mpr ⟨by omega, by omega⟩)
    by_cases h302 : q < 344
    · exact List.all_eq_true.mp am_ckL302 q (List.mem_range'_1.mpr ⟨by omega, by omega⟩)
    by_cases h344 : q < 380
    · exact List.all_eq_true.mp am_ckL344 q (List.mem_range'_1.mpr ⟨by omega, by omega⟩)
    by_cases h380 : q < 412
    · exact List.all_eq_true.mp am_ckL380 q (List.mem_range'_1.mpr ⟨by omega, by omega⟩)
    by_cases h412 : q < 440
    · exact List.all_eq_true.mp am_ckL412 q (List.mem_range'_1.mpr ⟨by omega, by omega⟩)
    by_cases h440 : q < 471
    · exact List.all_eq_true.mp am_ckL440 q (List.mem_range'_1.mpr ⟨by omega, by omega⟩)
    by_cases h471 : q < 508
    · exact List.all_eq_true.mp am_ckL471 q (List.mem_range'_1.mpr ⟨by omega, by omega⟩)
    by_cases h508 : q < 534
    · exact List.all_eq_true.mp am_ckL508 q (List.mem_range'_1.mpr ⟨by omega, by omega⟩)
    by_cases h534 : q < 561
    · exact List.all_eq_true.mp am_ckL534 q (List.mem_range'_1.mpr ⟨by omega, by omega⟩)
    by_cases h561 : q < 593
    · exact List.all_eq_true.mp am_ckL561 q (List.mem_range'_1.mpr ⟨by omega, by omega⟩)
    by_cases h593 : q < 622
    · exact List.all_eq_true.mp am_ckL593 q (List.mem_range'_1.mpr ⟨by omega, by omega⟩)
    by_cases h622 : q < 646
    · exact List.all_eq_true.mp am_ckL622 q (List.mem_range'_1.mpr ⟨by omega, by omega⟩)
    by_cases h646 : q < 676
    · exact List.all_eq_true.mp am_ckL646 q (List.mem_range'_1.mpr ⟨by omega, by omega⟩)
    by_cases h676 : q < 695
    · exact List.all_eq_true.mp am_ckL676 q (List.mem_range'_1.mpr ⟨by omega, by omega⟩)
    by_cases h695 : q < 716
    · exact List.all_eq_true.mp am_ckL695 q (List.mem_range'_1.mpr ⟨by omega, by omega⟩)
    by_cases h716 : q < 738
    · exact List.all_eq_true.mp am_ckL716 q (List.mem_range'_1.mpr ⟨by omega, by omega⟩)
    by_cases h738 : q < 756
    · exact List.all_eq_true.mp am_ckL738 q (List.mem_range'_1.mpr ⟨by omega, by omega⟩)
    by_cases h756 : q < 777
    · exact List.all_eq_true.mp am_ckL756 q (List.mem_range'_1.mpr ⟨by omega, by omega⟩)
    by_cases h777 : q < 802
    · exact List.all_eq_true.mp am_ckL777 q (List.mem_range'_1.mpr ⟨by omega, by omega⟩)
    by_cases h802 : q < 823
    · exact List.all_eq_true.mp am_ckL802 q (List.mem_range'_1.mpr ⟨by omega, by omega⟩)
    by_cases h823 : q < 839
    · exact List.all_eq_true.mp am_ckL823 q (List.mem_range'_1.mpr ⟨by omega, by omega⟩)
    by_cases h839 : q < 857
    · exact List.all_eq_true.mp am_ckL839 q (List.mem_range'_1.mpr ⟨by omega, by omega⟩)
    by_cases h857 : q < 877
    · exact List.all_eq_true.mp am_ckL857 q (List.mem_range'_1.mpr ⟨by omega, by omega⟩)
    by_cases h877 : q < 898
    · exact List.all_eq_true.mp am_ckL877 q (List.mem_range'_1.mpr ⟨by omega, by omega⟩)
    by_cases h898 : q < 915
    · exact List.all_eq_true.mp am_ckL898 q (List.mem_range'_1.mpr ⟨by omega, by omega⟩)
    by_cases h915 : q < 930
    · exact List.all_eq_true.mp am_ckL915 q (List.mem_range'_1.mpr ⟨by omega, by omega⟩)
    by_cases h930 : q < 945
    · exact List.all_eq_true.mp am_ckL930 q (List.mem_range'_1.mpr ⟨by omega, by omega⟩)
    by_cases h945 : q < 960
    · exact List.all_eq_true.mp am_ckL945 q (List.mem_range'_1.mpr ⟨by omega, by omega⟩)
    by_cases h960 : q < 974
    · exact List.all_eq_true.mp am_ckL960 q (List.mem_range'_1.mpr ⟨by omega, by omega⟩)
    by_cases h974 : q < 990
    · exact List.all_eq_true.mp am_ckL974 q (List.mem_range'_1.mpr ⟨by omega, by omega⟩)
    by_cases h990 : q < 1008
    · exact List.all_eq_true.mp am_ckL990 q (List.mem_range'_1.mpr ⟨by omega, by omega⟩)
    by_cases h1008 : q < 1032
    · exact List.all_eq_true.mp am_ckL1008 q (List.mem_range'_1.mpr ⟨by omega, by omega⟩)
    by_cases h1032 : q < 1044
    · exact List.all_eq_true.mp am_ckL1032 q (List.mem_range'_1.mpr ⟨by omega, by omega⟩)
    by_cases h1044 : q < 1058
    · exact List.all_eq_true.mp am_ckL1044 q (List.mem_range'_1.mpr ⟨by omega, by omega⟩)
    by_cases h1058 : q < 1079
    · exact List.all_eq_true.mp am_ckL1058 q (List.mem_range'_1.mpr ⟨by omega, by omega⟩)
    by_cases h1079 : q < 1092
    · exact List.all_eq_true.mp am_ckL1079 q (List.mem_range'_1.mpr ⟨by omega, by omega⟩)
    by_cases h1092 : q < 1107
    · exact List.all_eq_true.mp am_ckL1092 q (List.mem_range'_1.mpr ⟨by omega, by omega⟩)
    by_cases h1107 : q < 1120
    · exact List.all_eq_true.mp am_ckL1107 q (List.mem_range'_1.mpr ⟨by omega, by omega⟩)
    by_cases h1120 : q < 1135
    · exact List.all_eq_true.mp am_ckL1120 q (List.mem_range'_1.mpr ⟨by omega, by omega⟩)
    by_cases h1135 : q < 1148
    · exact List.all_eq_true.mp am_ckL1135 q (List.mem_range'_1.mpr ⟨by omega, by omega⟩)
    by_cases h1148 : q < 1169
    · exact List.all_eq_true.mp am_ckL1148 q (List.mem_range'_1.mpr ⟨by omega, by omega⟩)
    by_cases h1169 : q < 1185
    · exact List.all_eq_true.mp am_ckL1169 q (List.mem_range'_1.mpr ⟨by omega, by omega⟩)
    by_cases h1185 : q < 1201
    · exact List.all_eq_true.mp am_ckL1185 q (List.mem_range'_1.mpr ⟨by omega, by omega⟩)
    by_cases h1201 : q < 1213
    · exact List.all_eq_true.mp am_ckL1201 q (List.mem_range'_1.mpr ⟨by omega, by omega⟩)
    by_cases h1213 : q < 1225
    · exact List.all_eq_true.mp am_ckL1213 q (List.mem_range'_1.mpr ⟨by omega, by omega⟩)
    by_cases h1225 : q < 1237
    · exact List.all_eq_true.mp am_ckL1225 q (List.mem_range'_1.mpr ⟨by omega, by omega⟩)
    by_cases h1237 : q < 1249
    · exact List.all_eq_true.mp am_ckL1237 q (List.mem_range'_1.mpr ⟨by omega, by omega⟩)
    by_cases h1249 : q < 1259
    · exact List.all_eq_true.mp am_ckL1249 q (List.mem_range'_1.mpr ⟨by omega, by omega⟩)
    by_cases h1259 : q < 1273
    · exact List.all_eq_true.mp am_ckL1259 q (List.mem_range'_1.mpr ⟨by omega, by omega⟩)
    by_cases h1273 : q < 1291
    · exact List.all_eq_true.mp am_ckL1273 q (List.mem_range'_1.mpr ⟨by omega, by omega⟩)
    by_cases h1291 : q < 1304
    · exact List.all_eq_true.mp am_ckL1291 q (List.mem_range'_1.mpr ⟨by omega, by omega⟩)
    by_cases h1304 : q < 1315
    · exact List.all_eq_true.mp am_ckL1304 q (List.mem_range'_1.mpr ⟨by omega, by omega⟩)
    by_cases h1315 : q < 1328
    · exact List.all_eq_true.mp am_ckL1315 q (List.mem_range'_1.mpr ⟨by omega, by omega⟩)
    by_cases h1328 : q < 1341
    · exact List.all_eq_true.mp am_ckL1328 q (List.mem_range'_1.mpr ⟨by omega, by omega⟩)
    by_cases h1341 : q < 1358
    · exact List.all_eq_true.mp am_ckL1341 q (List.mem_range'_1.mpr ⟨by omega, by omega⟩)
    by_cases h1358 : q < 1373
    · exact List.all_eq_true.mp am_ckL1358 q (List.mem_range'_1.mpr ⟨by omega, by omega⟩)
    by_cases h1373 : q < 1382
    · exact List.all_eq_true.mp am_ckL1373 q (List.mem_range'_1.mpr ⟨by omega, by omega⟩)
    by_cases h1382 : q < 1393
    · exact List.all_eq_true.mp am_ckL1382 q (List.mem_range'_1.mpr ⟨by omega, by omega⟩)
    by_cases h1393 : q < 1406
    · exact List.all_eq_true.mp am_ckL1393 q (List.mem_range'_1.mpr ⟨by omega, by omega⟩)
    by_cases h1406 : q < 1423
    · exact List.all_eq_true.mp am_ckL1406 q (List.mem_range'_1.mpr ⟨by omega, by omega⟩)
    by_cases h1423 : q < 1436
    · exact List.all_eq_true.mp am_ckL1423 q (List.mem_range'_1.mpr ⟨by omega, by omega⟩)
    by_cases h1436 : q < 1449
    · exact List.all_eq_true.mp am_ckL1436 q (List.mem_range'_1.mpr ⟨by omega, by omega⟩)
    by_cases h1449 : q < 1462
    · exact List.all_eq_true.mp am_ckL1449 q (List.mem_range'_1.mpr ⟨by omega, by omega⟩)
    omega
  by_cases h1 : k < 3
  · exact List.all_eq_true.mp am_ck1 k (List.mem_range'_1.mpr ⟨by omega, by omega⟩)
  by_cases h3 : k < 17
  · exact List.all_eq_true.mp am_ck3 k (List.mem_range'_1.mpr ⟨by omega, by omega⟩)
  by_cases h17 : k < 20
  · exact List.all_eq_true.mp am_ck17 k (List.mem_range'_1.mpr ⟨by omega, by omega⟩)
  by_cases h20 : k < 23
  · exact List.all_eq_true.mp am_ck20 k (List.mem_range'_1.mpr ⟨by omega, by omega⟩)
  by_cases h23 : k < 25
  · exact List.all_eq_true.mp am_ck23 k (List.mem_range'_1.mpr ⟨by omega, by omega⟩)
  by_cases h25 : k < 26
  · exact List.all_eq_true.mp am_ck25 k (List.mem_range'_1.mpr ⟨by omega, by omega⟩)
  by_cases h26 : k < 31
  · exact List.all_eq_true.mp am_ck26 k (List.mem_range'_1.mpr ⟨by omega, by omega⟩)
  by_cases h31 : k < 34
  · exact List.all_eq_true.mp am_ck31 k (List.mem_range'_1.mpr ⟨by omega, by omega⟩)
  by_cases h34 : k < 40
  · exact List.all_eq_true.mp am_ck34 k (List.mem_range'_1.mpr ⟨by omega, by omega⟩)
  by_cases h40 : k < 49
  · exact List.all_eq_true.mp am_ck40 k (List.mem_range'_1.mpr ⟨by omega, by omega⟩)
  by_cases h49 : k < 51
  · exact List.all_eq_true.mp am_ck49 k (List.mem_range'_1.mpr ⟨by omega, by omega⟩)
  by_cases h51 : k < 60
  · exact List.all_eq_true.mp am_ck51 k (List.mem_range'_1.mpr ⟨by omega, by omega⟩)
  by_cases h60 : k < 66
  · exact List.all_eq_true.mp am_ck60 k (List.mem_range'_1.mpr ⟨by omega, by omega⟩)
  by_cases h66 : k < 71
  · exact List.all_eq_true.mp am_ck66 k (List.mem_range'_1.mpr ⟨by omega, by omega⟩)
  by_cases h71 : k < 79
  · exact List.all_eq_true.mp am_ck71 k (List.mem_range'_1.mpr ⟨by omega, by omega⟩)
  by_cases h79 : k < 81
  · exact List.all_eq_true.mp am_ck79 k (List.mem_range'_1.mpr ⟨by omega, by omega⟩)
  by_cases h81 : k < 84
  · exact List.all_eq_true.mp am_ck81 k (List.mem_range'_1.mpr ⟨by omega, by omega⟩)
  by_cases h84 : k < 91
  · exact List.all_eq_true.mp am_ck84 k (List.mem_range'_1.mpr ⟨by omega, by omega⟩)
  by_cases h91 : k < 95
  · exact List.all_eq_true.mp am_ck91 k (List.mem_range'_1.mpr ⟨by omega, by omega⟩)
  by_cases h95 : k < 99
  · exact List.all_eq_true.mp am_ck95 k (List.mem_range'_1.mpr ⟨by omega, by omega⟩)
  by_cases h99 : k < 100
  · exact List.all_eq_true.mp am_ck99 k (List.mem_range'_1.mpr ⟨by omega, by omega⟩)
  by_cases h100 : k < 108
  · exact List.all_eq_true.mp am_ck100 k (List.mem_range'_1.mpr ⟨by omega, by omega⟩)
  by_cases h108 : k < 111
  · exact List.all_eq_true.mp am_ck108 k (List.mem_range'_1.mpr ⟨by omega, by omega⟩)
  by_cases h111 : k < 115
  · exact List.all_eq_true.mp am_ck111 k (List.mem_range'_1.mpr ⟨by omega, by omega⟩)
  by_cases h115 : k < 122
  · exact List.all_eq_true.mp am_ck115 k (List.mem_range'_1.mpr ⟨by omega, by omega⟩)
  by_cases h122 : k < 128
  · exact List.all_eq_true.mp am_ck122 k (List.mem_range'_1.mpr ⟨by omega, by omega⟩)
  by_cases h128 : k < 130
  · exact List.all_eq_true.mp am_ck128 k (List.mem_range'_1.mpr ⟨by omega, by omega⟩)
  by_cases h130 : k < 132
  · exact List.all_eq_true.mp am_ck130 k (List.mem_range'_1.mpr ⟨by omega, by omega⟩)
  by_cases h132 : k < 136
  · exact List.all_eq_true.mp am_ck132 k (List.mem_range'_1.mpr ⟨by omega, by omega⟩)
  by_cases h136 : k < 139
  · exact List.all_eq_true.mp am_ck136 k (List.mem_range'_1.mpr ⟨by omega, by omega⟩)
  by_cases h139 : k < 141
  · exact List.all_eq_true.mp am_ck139 k (List.mem_range'_1.mpr ⟨by omega, by omega⟩)
  by_cases h141 : k < 146
  · exact List.all_eq_true.mp am_ck141 k (List.mem_range'_1.mpr ⟨by omega, by omega⟩)
  by_cases h146 : k < 149
  · exact List.all_eq_true.mp am_ck146 k (List.mem_range'_1.mpr ⟨by omega, by omega⟩)
  by_cases h149 : k < 152
  · exact List.all_eq_true.mp am_ck149 k (List.mem_range'_1.mpr ⟨by omega, by omega⟩)
  by_cases h152 : k < 153
  · exact List.all_eq_true.mp am_ck152 k (List.mem_range'_1.mpr ⟨by omega, by omega⟩)
  by_cases h153 : k < 155
  · exact List.all_eq_true.mp am_ck153 k (List.mem_range'_1.mpr ⟨by omega, by omega⟩)
  by_cases h155 : k < 159
  · exact List.all_eq_true.mp am_ck155 k (List.mem_range'_1.mpr ⟨by omega, by omega⟩)
  by_cases h159 : k < 160
  · exact List.all_eq_true.mp am_ck159 k (List.mem_range'_1.mpr ⟨by omega, by omega⟩)
  by_cases h160 : k < 162
  · exact List.all_eq_true.mp am_ck160 k (List.mem_range'_1.mpr ⟨by omega, by omega⟩)
  by_cases h162 : k < 165
  · exact List.all_eq_true.mp am_ck162 k (List.mem_range'_1.mpr ⟨by omega, by omega⟩)
  by_cases h165 : k < 171
  · exact List.all_eq_true.mp am_ck165 k (List.mem_range'_1.mpr ⟨by omega, by omega⟩)
  by_cases h171 : k < 173
  · exact List.all_eq_true.mp am_ck171 k (List.mem_range'_1.mpr ⟨by omega, by omega⟩)
  by_cases h173 : k < 177
  · exact List.all_eq_true.mp am_ck173 k (List.mem_range'_1.mpr ⟨by omega, by omega⟩)
  by_cases h177 : k < 181
  · exact List.all_eq_true.mp am_ck177 k (List.mem_range'_1.mpr ⟨by omega, by omega⟩)
  by_cases h181 : k < 186
  · exact List.all_eq_true.mp am_ck181 k (List.mem_range'_1.mpr ⟨by omega, by omega⟩)
  by_cases h186 : k < 189
  · exact List.all_eq_true.mp am_ck186 k (List.mem_range'_1.mpr ⟨by omega, by omega⟩)
  by_cases h189 : k < 190
  · exact List.all_eq_true.mp am_ck189 k (List.mem_range'_1.mpr ⟨by omega, by omega⟩)
  by_cases h190 : k < 193
  · exact List.all_eq_true.mp am_ck190 k (List.mem_range'_1.mpr ⟨by omega, by omega⟩)
  by_cases h193 : k < 194
  · exact List.all_eq_true.mp am_ck193 k (List.mem_range'_1.mpr ⟨by omega, by omega⟩)
  by_cases h194 : k < 198
  · exact List.all_eq_true.mp am_ck194 k (List.mem_range'_1.mpr ⟨by omega, by omega⟩)
  by_cases h198 : k < 199
  · exact List.all_eq_true.mp am_ck198 k (List.mem_range'_1.mpr ⟨by omega, by omega⟩)
  by_cases h199 : k < 200
  · exact List.all_eq_true.mp am_ck199 k (List.mem_range'_1.mpr ⟨by omega, by omega⟩)
  by_cases h200 : k < 201
  · exact List.all_eq_true.mp am_ck200 k (List.mem_range'_1.mpr ⟨by omega, by omega⟩)
  by_cases h201 : k < 208
  · exact List.all_eq_true.mp am_ck201 k (List.mem_range'_1.mpr ⟨by omega, by omega⟩)
  by_cases h208 : k < 213
  · exact List.all_eq_true.mp am_ck208 k (List.mem_range'_1.mpr ⟨by omega, by omega⟩)
  by_cases h213 : k < 215
  · exact List.all_eq_true.mp am_ck213 k (List.mem_range'_1.mpr ⟨by omega, by omega⟩)
  by_cases h215 : k < 217
  · exact List.all_eq_true.mp am_ck215 k (List.mem_range'_1.mpr ⟨by omega, by omega⟩)
  by_cases h217 : k < 219
  · exact List.all_eq_true.mp am_ck217 k (List.mem_range'_1.mpr ⟨by omega, by omega⟩)
  by_cases h219 : k < 221
  · exact List.all_eq_true.mp am_ck219 k (List.mem_range'_1.mpr ⟨by omega, by omega⟩)
  by_cases h221 : k < 225
  · exact List.all_eq_true.mp am_ck221 k (List.mem_range'_1.mpr ⟨by omega, by omega⟩)
  by_cases h225 : k < 228
  · exact List.all_eq_true.mp am_ck225 k (List.mem_range'_1.mpr ⟨by omega, by omega⟩)
  by_cases h228 : k < 229
  · exact List.all_eq_true.mp am_ck228 k (List.mem_range'_1.mpr ⟨by omega, by omega⟩)
  by_cases h229 : k < 232
  · exact List.all_eq_true.mp am_ck229 k (List.mem_range'_1.mpr ⟨by omega, by omega⟩)
  by_cases h232 : k < 233
  · exact List.all_eq_true.mp am_ck232 k (List.mem_range'_1.mpr ⟨by omega, by omega⟩)
  by_cases h233 : k < 235
  · exact List.all_eq_true.mp am_ck233 k (List.mem_range'_1.mpr ⟨by omega, by omega⟩)
  by_cases h235 : k < 238
  · exact List.all_eq_true.mp am_ck235 k (List.mem_range'_1.mpr ⟨by omega, by omega⟩)
  by_cases h238 : k < 239
  · exact List.all_eq_true.mp am_ck238 k (List.mem_range'_1.mpr ⟨by omega, by omega⟩)
  by_cases h239 : k < 242
  · exact List.all_eq_true.mp am_ck239 k (List.mem_range'_1.mpr ⟨by omega, by omega⟩)
  by_cases h242 : k < 245
  · exact List.all_eq_true.mp am_ck242 k (List.mem_range'_1.mpr ⟨by omega, by omega⟩)
  by_cases h245 : k < 247
  · exact List.all_eq_true.mp am_ck245 k (List.mem_range'_1.mpr ⟨by omega, by omega⟩)
  by_cases h247 : k < 248
  · exact List.all_eq_true.mp am_ck247 k (List.mem_range'_1.mpr ⟨by omega, by omega⟩)
  by_cases h248 : k < 253
  · exact List.all_eq_true.mp am_ck248 k (List.mem_range'_1.mpr ⟨by omega, by omega⟩)
  by_cases h253 : k < 256
  · exact List.all_eq_true.mp am_ck253 k (List.mem_range'_1.mpr ⟨by omega, by omega⟩)
  by_cases h256 : k < 258
  · exact List.all_eq_true.mp am_ck256 k (List.mem_range'_1.mpr ⟨by omega, by omega⟩)
  by_cases h258 : k < 259
  · exact List.all_eq_true.mp am_ck258 k (List.mem_range'_1.mpr ⟨by omega, by omega⟩)
  by_cases h259 : k < 260
  · exact List.all_eq_true.mp am_ck259 k (List.mem_range'_1.mpr ⟨by omega, by omega⟩)
  by_cases h260 : k < 262
  · exact List.all_eq_true.mp am_ck260 k (List.mem_range'_1.mpr ⟨by omega, by omega⟩)
  by_cases h262 : k < 265
  · exact List.all_eq_true.mp am_ck262 k (List.mem_range'_1.mpr ⟨by omega, by omega⟩)
  by_cases h265 : k < 267
  · exact List.all_eq_true.mp am_ck265 k (List.mem_range'_1.mpr ⟨by omega, by omega⟩)
  by_cases h267 : k < 270
  · exact List.all_eq_true.mp am_ck267 k (List.mem_range'_1.mpr ⟨by omega, by omega⟩)
  by_cases h270 : k < 271
  · exact List.all_eq_true.mp am_ck270 k (List.mem_range'_1.mpr ⟨by omega, by omega⟩)
  by_cases h271 : k < 274
  · exact List.all_eq_true.mp am_ck271 k (List.mem_range'_1.mpr ⟨by omega, by omega⟩)
  by_cases h274 : k < 275
  · exact List.all_eq_true.mp am_ck274 k (List.mem_range'_1.mpr ⟨by omega, by omega⟩)
  by_cases h275 : k < 278
  · exact List.all_eq_true.mp am_ck275 k (List.mem_range'_1.mpr ⟨by omega, by omega⟩)
  by_cases h278 : k < 279
  · exact List.all_eq_true.mp am_ck278 k (List.mem_range'_1.mpr ⟨by omega, by omega⟩)
  by_cases h279 : k < 280
  · exact List.all_eq_true.mp am_ck279 k (List.mem_range'_1.mpr ⟨by omega, by omega⟩)
  by_cases h280 : k < 281
  · exact List.all_eq_true.mp am_ck280 k (List.mem_range'_1.mpr ⟨by omega, by omega⟩)
  by_cases h281 : k < 284
  · exact List.all_eq_true.mp am_ck281 k (List.mem_range'_1.mpr ⟨by omega, by omega⟩)
  by_cases h284 : k < 285
  · exact List.all_eq_true.mp am_ck284 k (List.mem_range'_1.mpr ⟨by omega, by omega⟩)
  by_cases h285 : k < 286
  · exact List.all_eq_true.mp am_ck285 k (List.mem_range'_1.mpr ⟨by omega, by omega⟩)
  by_cases h286 : k < 290
  · exact List.all_eq_true.mp am_ck286 k (List.mem_range'_1.mpr ⟨by omega, by omega⟩)
  by_cases h290 : k < 291
  · exact List.all_eq_true.mp am_ck290 k (List.mem_range'_1.mpr ⟨by omega, by omega⟩)
  by_cases h291 : k < 292
  · exact List.all_eq_true.mp am_ck291 k (List.mem_range'_1.mpr ⟨by omega, by omega⟩)
  omega
