set_option maxRecDepth 16384 in
theorem zz_w3_0 : ((tables_1_3.drop 0).take 30).all zz_g = true := by decide +kernel
set_option maxRecDepth 16384 in
theorem zz_w3_30 : ((tables_1_3.drop 30).take 30).all zz_g = true := by decide +kernel
set_option maxRecDepth 16384 in
theorem zz_w3_60 : ((tables_1_3.drop 60).take 30).all zz_g = true := by decide +kernel
set_option maxRecDepth 16384 in
theorem zz_w3_90 : ((tables_1_3.drop 90).take 30).all zz_g = true := by decide +kernel
set_option maxRecDepth 16384 in
theorem zz_w3_120 : ((tables_1_3.drop 120).take 30).all zz_g = true := by decide +kernel
set_option maxRecDepth 16384 in
theorem zz_w3_150 : ((tables_1_3.drop 150).take 30).all zz_g = true := by decide +kernel
set_option maxRecDepth 16384 in
theorem zz_w3_180 : ((tables_1_3.drop 180).take 30).all zz_g = true := by decide +kernel
set_option maxRecDepth 16384 in
theorem zz_w3_210 : ((tables_1_3.drop 210).take 30).all zz_g = true := by decide +kernel
theorem zz_w3_240 : (tables_1_3.drop 240).all zz_g = true := by decide +kernel
theorem zz_w3 : tables_1_3.all zz_g = true := zz_split0 _ (zz_split 30 0 _ zz_w3_0 (zz_split 30 30 _ zz_w3_30 (zz_split 30 60 _ zz_w3_60 (zz_split 30 90 _ zz_w3_90 (zz_split 30 120 _ zz_w3_120 (zz_split 30 150 _ zz_w3_150 (zz_split 30 180 _ zz_w3_180 (zz_split 30 210 _ zz_w3_210 zz_w3_240))))))))
