theorem zall_td {α : Type} {p : α → Bool} {l : List α} (n : Nat) (h1 : (l.take n).all p = true) (h2 : (l.drop n).all p = true) : l.all p = true := by
  rw [← List.take_append_drop n l]
  exact zall_app h1 h2
theorem zR_law0_0 : (zk345_0.take 30).all (fun q => zckI 345 q.1 q.2) = true := by decide +kernel
theorem zR_law0_1 : ((zk345_0.drop 30).take 30).all (fun q => zckI 345 q.1 q.2) = true := by decide +kernel
theorem zR_law0_2 : (((zk345_0.drop 30).drop 30).take 30).all (fun q => zckI 345 q.1 q.2) = true := by decide +kernel
theorem zR_law0_3 : ((((zk345_0.drop 30).drop 30).drop 30)).all (fun q => zckI 345 q.1 q.2) = true := by decide +kernel
theorem zR_law0 : zk345_0.all (fun q => zckI 345 q.1 q.2) = true := zall_td 30 zR_law0_0 (zall_td 30 zR_law0_1 (zall_td 30 zR_law0_2 zR_law0_3))
theorem zR_law1_0 : (zk345_1.take 30).all (fun q => zckI 345 q.1 q.2) = true := by decide +kernel
theorem zR_law1_1 : ((zk345_1.drop 30).take 30).all (fun q => zckI 345 q.1 q.2) = true := by decide +kernel
theorem zR_law1_2 : (((zk345_1.drop 30).drop 30).take 30).all (fun q => zckI 345 q.1 q.2) = true := by decide +kernel
theorem zR_law1_3 : ((((zk345_1.drop 30).drop 30).drop 30)).all (fun q => zckI 345 q.1 q.2) = true := by decide +kernel
theorem zR_law1 : zk345_1.all (fun q => zckI 345 q.1 q.2) = true := zall_td 30 zR_law1_0 (zall_td 30 zR_law1_1 (zall_td 30 zR_law1_2 zR_law1_3))
theorem zR_law2_0 : (zk345_2.take 30).all (fun q => zckI 345 q.1 q.2) = true := by decide +kernel
theorem zR_law2_1 : ((zk345_2.drop 30).take 30).all (fun q => zckI 345 q.1 q.2) = true := by decide +kernel
theorem zR_law2_2 : (((zk345_2.drop 30).drop 30).take 30).all (fun q => zckI 345 q.1 q.2) = true := by decide +kernel
theorem zR_law2_3 : ((((zk345_2.drop 30).drop 30).drop 30)).all (fun q => zckI 345 q.1 q.2) = true := by decide +kernel
theorem zR_law2 : zk345_2.all (fun q => zckI 345 q.1 q.2) = true := zall_td 30 zR_law2_0 (zall_td 30 zR_law2_1 (zall_td 30 zR_law2_2 zR_law2_3))
theorem zR_law3_0 : (zk345_3.take 30).all (fun q => zckI 345 q.1 q.2) = true := by decide +kernel
theorem zR_law3_1 : ((zk345_3.drop 30).take 30).all (fun q => zckI 345 q.1 q.2) = true := by decide +kernel
theorem zR_law3_2 : (((zk345_3.drop 30).drop 30).take 30).all (fun q => zckI 345 q.1 q.2) = true := by decide +kernel
theorem zR_law3_3 : ((((zk345_3.drop 30).drop 30).drop 30)).all (fun q => zckI 345 q.1 q.2) = true := by decide +kernel
theorem zR_law3 : zk345_3.all (fun q => zckI 345 q.1 q.2) = true := zall_td 30 zR_law3_0 (zall_td 30 zR_law3_1 (zall_td 30 zR_law3_2 zR_law3_3))
theorem zR_law4_0 : (zk345_4.take 30).all (fun q => zckI 345 q.1 q.2) = true := by decide +kernel
theorem zR_law4_1 : ((zk345_4.drop 30).take 30).all (fun q => zckI 345 q.1 q.2) = true := by decide +kernel
theorem zR_law4_2 : (((zk345_4.drop 30).drop 30).take 30).all (fun q => zckI 345 q.1 q.2) = true := by decide +kernel
theorem zR_law4_3 : ((((zk345_4.drop 30).drop 30).drop 30)).all (fun q => zckI 345 q.1 q.2) = true := by decide +kernel
theorem zR_law4 : zk345_4.all (fun q => zckI 345 q.1 q.2) = true := zall_td 30 zR_law4_0 (zall_td 30 zR_law4_1 (zall_td 30 zR_law4_2 zR_law4_3))
theorem zR_law5_0 : (zk345_5.take 30).all (fun q => zckI 345 q.1 q.2) = true := by decide +kernel
theorem zR_law5_1 : ((zk345_5.drop 30).take 30).all (fun q => zckI 345 q.1 q.2) = true := by decide +kernel
theorem zR_law5_2 : (((zk345_5.drop 30).drop 30).take 30).all (fun q => zckI 345 q.1 q.2) = true := by decide +kernel
theorem zR_law5_3 : ((((zk345_5.drop 30).drop 30).drop 30)).all (fun q => zckI 345 q.1 q.2) = true := by decide +kernel
theorem zR_law5 : zk345_5.all (fun q => zckI 345 q.1 q.2) = true := zall_td 30 zR_law5_0 (zall_td 30 zR_law5_1 (zall_td 30 zR_law5_2 zR_law5_3))
