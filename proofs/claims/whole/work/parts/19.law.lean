theorem zR_law0 : zk345_0.all (fun q => zckI 345 q.1 q.2) = true := by decide +kernel
theorem zR_law1 : zk345_1.all (fun q => zckI 345 q.1 q.2) = true := by decide +kernel
theorem zR_law2 : zk345_2.all (fun q => zckI 345 q.1 q.2) = true := by decide +kernel
theorem zR_law3 : zk345_3.all (fun q => zckI 345 q.1 q.2) = true := by decide +kernel
theorem zR_law4 : zk345_4.all (fun q => zckI 345 q.1 q.2) = true := by decide +kernel
theorem zR_law5 : zk345_5.all (fun q => zckI 345 q.1 q.2) = true := by decide +kernel
