set_option maxRecDepth 16384 in
theorem zz_w4_0 : ((tables_1_4.drop 0).take 30).all zz_g = true := by decide +kernel
set_option maxRecDepth 16384 in
theorem zz_w4_30 : ((tables_1_4.drop 30).take 30).all zz_g = true := by decide +kernel
set_option maxRecDepth 16384 in
theorem zz_w4_60 : ((tables_1_4.drop 60).take 30).all zz_g = true := by decide +kernel
set_option maxRecDepth 16384 in
theorem zz_w4_90 : ((tables_1_4.drop 90).take 30).all zz_g = true := by decide +kernel
set_option maxRecDepth 16384 in
theorem zz_w4_120 : ((tables_1_4.drop 120).take 30).all zz_g = true := by decide +kernel
set_option maxRecDepth 16384 in
theorem zz_w4_150 : ((tables_1_4.drop 150).take 30).all zz_g = true := by decide +kernel
set_option maxRecDepth 16384 in
theorem zz_w4_180 : ((tables_1_4.drop 180).take 30).all zz_g = true := by decide +kernel
set_option maxRecDepth 16384 in
theorem zz_w4_210 : ((tables_1_4.drop 210).take 30).all zz_g = true := by decide +kernel
theorem zz_w4_240 : (tables_1_4.drop 240).all zz_g = true := by decide +kernel
theorem zz_w4 : tables_1_4.all zz_g = true := zz_split0 _ (zz_split 30 0 _ zz_w4_0 (zz_split 30 30 _ zz_w4_30 (zz_split 30 60 _ zz_w4_60 (zz_split 30 90 _ zz_w4_90 (zz_split 30 120 _ zz_w4_120 (zz_split 30 150 _ zz_w4_150 (zz_split 30 180 _ zz_w4_180 (zz_split 30 210 _ zz_w4_210 zz_w4_240))))))))
