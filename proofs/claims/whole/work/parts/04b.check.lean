/-! the tables, checked -/
theorem jk_t53 : (((jv_mt.zip jv_pt).drop 53).take 13).all (fun q => jv_ckt q.1 0 q.2) = true := by decide +kernel
theorem jk_t66 : (((jv_mt.zip jv_pt).drop 66).take 13).all (fun q => jv_ckt q.1 0 q.2) = true := by decide +kernel
theorem jk_t79 : (((jv_mt.zip jv_pt).drop 79).take 13).all (fun q => jv_ckt q.1 0 q.2) = true := by decide +kernel
theorem jk_t92 : (((jv_mt.zip jv_pt).drop 92).take 13).all (fun q => jv_ckt q.1 0 q.2) = true := by decide +kernel
