/-! the tables, checked -/
theorem jk_t1 : (((jv_mt.zip jv_pt).drop 1).take 13).all (fun q => jv_ckt q.1 0 q.2) = true := by decide +kernel
theorem jk_t14 : (((jv_mt.zip jv_pt).drop 14).take 13).all (fun q => jv_ckt q.1 0 q.2) = true := by decide +kernel
theorem jk_t27 : (((jv_mt.zip jv_pt).drop 27).take 13).all (fun q => jv_ckt q.1 0 q.2) = true := by decide +kernel
theorem jk_t40 : (((jv_mt.zip jv_pt).drop 40).take 13).all (fun q => jv_ckt q.1 0 q.2) = true := by decide +kernel
