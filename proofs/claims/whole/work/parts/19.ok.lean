theorem zR_law6_0 : (zk345_6.take 30).all (fun q => zckI 345 q.1 q.2) = true := by decide +kernel
theorem zR_law6_1 : ((zk345_6.drop 30).take 30).all (fun q => zckI 345 q.1 q.2) = true := by decide +kernel
theorem zR_law6_2 : (((zk345_6.drop 30).drop 30).take 30).all (fun q => zckI 345 q.1 q.2) = true := by decide +kernel
theorem zR_law6_3 : ((((zk345_6.drop 30).drop 30).drop 30)).all (fun q => zckI 345 q.1 q.2) = true := by decide +kernel
theorem zR_law6 : zk345_6.all (fun q => zckI 345 q.1 q.2) = true := zall_td 30 zR_law6_0 (zall_td 30 zR_law6_1 (zall_td 30 zR_law6_2 zR_law6_3))
theorem zR_law7_0 : (zk345_7.take 30).all (fun q => zckI 345 q.1 q.2) = true := by decide +kernel
theorem zR_law7_1 : ((zk345_7.drop 30).take 30).all (fun q => zckI 345 q.1 q.2) = true := by decide +kernel
theorem zR_law7_2 : (((zk345_7.drop 30).drop 30).take 30).all (fun q => zckI 345 q.1 q.2) = true := by decide +kernel
theorem zR_law7_3 : ((((zk345_7.drop 30).drop 30).drop 30)).all (fun q => zckI 345 q.1 q.2) = true := by decide +kernel
theorem zR_law7 : zk345_7.all (fun q => zckI 345 q.1 q.2) = true := zall_td 30 zR_law7_0 (zall_td 30 zR_law7_1 (zall_td 30 zR_law7_2 zR_law7_3))
theorem zR_law8_0 : (zk345_8.take 30).all (fun q => zckI 345 q.1 q.2) = true := by decide +kernel
theorem zR_law8_1 : ((zk345_8.drop 30).take 30).all (fun q => zckI 345 q.1 q.2) = true := by decide +kernel
theorem zR_law8_2 : (((zk345_8.drop 30).drop 30).take 30).all (fun q => zckI 345 q.1 q.2) = true := by decide +kernel
theorem zR_law8_3 : ((((zk345_8.drop 30).drop 30).drop 30)).all (fun q => zckI 345 q.1 q.2) = true := by decide +kernel
theorem zR_law8 : zk345_8.all (fun q => zckI 345 q.1 q.2) = true := zall_td 30 zR_law8_0 (zall_td 30 zR_law8_1 (zall_td 30 zR_law8_2 zR_law8_3))
theorem zR_law9_0 : (zk345_9.take 30).all (fun q => zckI 345 q.1 q.2) = true := by decide +kernel
theorem zR_law9_1 : ((zk345_9.drop 30).take 30).all (fun q => zckI 345 q.1 q.2) = true := by decide +kernel
theorem zR_law9_2 : (((zk345_9.drop 30).drop 30).take 30).all (fun q => zckI 345 q.1 q.2) = true := by decide +kernel
theorem zR_law9_3 : ((((zk345_9.drop 30).drop 30).drop 30)).all (fun q => zckI 345 q.1 q.2) = true := by decide +kernel
theorem zR_law9 : zk345_9.all (fun q => zckI 345 q.1 q.2) = true := zall_td 30 zR_law9_0 (zall_td 30 zR_law9_1 (zall_td 30 zR_law9_2 zR_law9_3))
theorem zR_law10_0 : (zk345_10.take 30).all (fun q => zckI 345 q.1 q.2) = true := by decide +kernel
theorem zR_law10_1 : ((zk345_10.drop 30).take 30).all (fun q => zckI 345 q.1 q.2) = true := by decide +kernel
theorem zR_law10_2 : (((zk345_10.drop 30).drop 30).take 30).all (fun q => zckI 345 q.1 q.2) = true := by decide +kernel
theorem zR_law10_3 : ((((zk345_10.drop 30).drop 30).drop 30)).all (fun q => zckI 345 q.1 q.2) = true := by decide +kernel
theorem zR_law10 : zk345_10.all (fun q => zckI 345 q.1 q.2) = true := zall_td 30 zR_law10_0 (zall_td 30 zR_law10_1 (zall_td 30 zR_law10_2 zR_law10_3))
theorem zR_law11_0 : (zk345_11.take 30).all (fun q => zckI 345 q.1 q.2) = true := by decide +kernel
theorem zR_law11_1 : ((zk345_11.drop 30).take 30).all (fun q => zckI 345 q.1 q.2) = true := by decide +kernel
theorem zR_law11_2 : (((zk345_11.drop 30).drop 30).take 30).all (fun q => zckI 345 q.1 q.2) = true := by decide +kernel
theorem zR_law11_3 : ((((zk345_11.drop 30).drop 30).drop 30)).all (fun q => zckI 345 q.1 q.2) = true := by decide +kernel
theorem zR_law11 : zk345_11.all (fun q => zckI 345 q.1 q.2) = true := zall_td 30 zR_law11_0 (zall_td 30 zR_law11_1 (zall_td 30 zR_law11_2 zR_law11_3))
theorem zR_law : zk345.all (fun q => zckI 345 q.1 q.2) = true := zall_app zR_law0 (zall_app zR_law1 (zall_app zR_law2 (zall_app zR_law3 (zall_app zR_law4 (zall_app zR_law5 (zall_app zR_law6 (zall_app zR_law7 (zall_app zR_law8 (zall_app zR_law9 (zall_app zR_law10 (zR_law11)))))))))))
theorem zP_law : zP 345 = some (zk345, 7, ret, []) := rfl
theorem zHH_law : zHH 345 = [] := by decide +kernel
theorem zR_of {a n M : Nat} (h : zckR a n = true) (h1 : a ≤ M) (h2 : M < a + n) : zckM M = true := by
  have h3 := List.all_eq_true.mp h (M - a) (List.mem_range.mpr (by omega))
  rw [show a + (M - a) = M by omega] at h3
  exact h3
theorem zM_law : zckM 345 = true := by
  unfold zckM
  rw [zP_law]
  simp only [zR_law, List.all_nil, zHH_law, Bool.and_eq_true, decide_eq_true_eq]
  exact ⟨⟨trivial, trivial⟩, trivial⟩
theorem zM_all {M : Nat} (hM : M < 346) : zckM M = true := by
  by_cases h0 : M < 7
  · exact zR_of zR_0 (by omega) h0
  by_cases h7 : M < 13
  · exact zR_of zR_7 (by omega) h7
  by_cases h13 : M < 19
  · exact zR_of zR_13 (by omega) h13
  by_cases h19 : M < 24
  · exact zR_of zR_19 (by omega) h19
  by_cases h24 : M < 29
  · exact zR_of zR_24 (by omega) h24
  by_cases h29 : M < 39
  · exact zR_of zR_29 (by omega) h29
  by_cases h39 : M < 48
  · exact zR_of zR_39 (by omega) h39
  by_cases h48 : M < 55
  · exact zR_of zR_48 (by omega) h48
  by_cases h55 : M < 63
  · exact zR_of zR_55 (by omega) h55
  by_cases h63 : M < 68
  · exact zR_of zR_63 (by omega) h63
  by_cases h68 : M < 73
  · exact zR_of zR_68 (by omega) h68
  by_cases h73 : M < 78
  · exact zR_of zR_73 (by omega) h73
  by_cases h78 : M < 84
  · exact zR_of zR_78 (by omega) h78
  by_cases h84 : M < 89
  · exact zR_of zR_84 (by omega) h84
  by_cases h89 : M < 96
  · exact zR_of zR_89 (by omega) h89
  by_cases h96 : M < 101
  · exact zR_of zR_96 (by omega) h96
  by_cases h101 : M < 106
  · exact zR_of zR_101 (by omega) h101
  by_cases h106 : M < 116
  · exact zR_of zR_106 (by omega) h106
  by_cases h116 : M < 138
  · exact zR_of zR_116 (by omega) h116
  by_cases h138 : M < 150
  · exact zR_of zR_138 (by omega) h138
  by_cases h150 : M < 155
  · exact zR_of zR_150 (by omega) h150
  by_cases h155 : M < 165
  · exact zR_of zR_155 (by omega) h155
  by_cases h165 : M < 175
  · exact zR_of zR_165 (by omega) h165
  by_cases h175 : M < 183
  · exact zR_of zR_175 (by omega) h175
  by_cases h183 : M < 187
  · exact zR_of zR_183 (by omega) h183
  by_cases h187 : M < 189
  · exact zR_of zR_187 (by omega) h187
  by_cases h189 : M < 194
  · exact zR_of zR_189 (by omega) h189
  by_cases h194 : M < 198
  · exact zR_of zR_194 (by omega) h194
  by_cases h198 : M < 205
  · exact zR_of zR_198 (by omega) h198
  by_cases h205 : M < 207
  · exact zR_of zR_205 (by omega) h205
  by_cases h207 : M < 214
  · exact zR_of zR_207 (by omega) h207
  by_cases h214 : M < 222
  · exact zR_of zR_214 (by omega) h214
  by_cases h222 : M < 231
  · exact zR_of zR_222 (by omega) h222
  by_cases h231 : M < 238
  · exact zR_of zR_231 (by omega) h231
  by_cases h238 : M < 246
  · exact zR_of zR_238 (by omega) h238
  by_cases h246 : M < 249
  · exact zR_of zR_246 (by omega) h246
  by_cases h249 : M < 254
  · exact zR_of zR_249 (by omega) h249
  by_cases h254 : M < 256
  · exact zR_of zR_254 (by omega) h254
  by_cases h256 : M < 261
  · exact zR_of zR_256 (by omega) h256
  by_cases h261 : M < 270
  · exact zR_of zR_261 (by omega) h261
  by_cases h270 : M < 274
  · exact zR_of zR_270 (by omega) h270
  by_cases h274 : M < 277
  · exact zR_of zR_274 (by omega) h274
  by_cases h277 : M < 280
  · exact zR_of zR_277 (by omega) h277
  by_cases h280 : M < 283
  · exact zR_of zR_280 (by omega) h280
  by_cases h283 : M < 286
  · exact zR_of zR_283 (by omega) h283
  by_cases h286 : M < 292
  · exact zR_of zR_286 (by omega) h286
  by_cases h292 : M < 295
  · exact zR_of zR_292 (by omega) h292
  by_cases h295 : M < 297
  · exact zR_of zR_295 (by omega) h295
  by_cases h297 : M < 300
  · exact zR_of zR_297 (by omega) h297
  by_cases h300 : M < 307
  · exact zR_of zR_300 (by omega) h300
  by_cases h307 : M < 324
  · exact zR_of zR_307 (by omega) h307
  by_cases h324 : M < 340
  · exact zR_of zR_324 (by omega) h324
  by_cases h340 : M < 345
  · exact zR_of zR_340 (by omega) h340
  rw [show M = 345 by omega]
  exact zM_law
theorem z_ok : ∀ M mt, zP M = some mt → z_okM zP zCd zSx zWb zNc zFm zCl zTs zY zB zHH M mt := fun M mt h => zM_ok h (zM_all (zP_lt h))
theorem zCl100 : zCl[100]? = none := by decide +kernel
