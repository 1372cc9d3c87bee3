/-! the tables, checked -/
theorem jk_t105 : (((jv_mt.zip jv_pt).drop 105).take 13).all (fun q => jv_ckt q.1 0 q.2) = true := by decide +kernel
theorem jk_t118 : (((jv_mt.zip jv_pt).drop 118).take 13).all (fun q => jv_ckt q.1 0 q.2) = true := by decide +kernel
theorem jk_t131 : (((jv_mt.zip jv_pt).drop 131).take 13).all (fun q => jv_ckt q.1 0 q.2) = true := by decide +kernel
theorem jk_t144 : (((jv_mt.zip jv_pt).drop 144).take 8).all (fun q => jv_ckt q.1 0 q.2) = true := by decide +kernel
