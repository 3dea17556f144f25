set_option maxRecDepth 16384 in
theorem zz_w7_0 : ((tables_1_7.drop 0).take 30).all zz_g = true := by decide +kernel
set_option maxRecDepth 16384 in
theorem zz_w7_30 : ((tables_1_7.drop 30).take 30).all zz_g = true := by decide +kernel
set_option maxRecDepth 16384 in
theorem zz_w7_60 : ((tables_1_7.drop 60).take 30).all zz_g = true := by decide +kernel
set_option maxRecDepth 16384 in
theorem zz_w7_90 : ((tables_1_7.drop 90).take 30).all zz_g = true := by decide +kernel
theorem zz_w7_120 : (tables_1_7.drop 120).all zz_g = true := by decide +kernel
theorem zz_w7 : tables_1_7.all zz_g = true := zz_split0 _ (zz_split 30 0 _ zz_w7_0 (zz_split 30 30 _ zz_w7_30 (zz_split 30 60 _ zz_w7_60 (zz_split 30 90 _ zz_w7_90 zz_w7_120))))
