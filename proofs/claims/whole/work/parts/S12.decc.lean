set_option maxRecDepth 100000 in
theorem am_okL_0 : am_decs 8 1 code am_p264 ((am_p264.drop 0).take 81) ((am_c264.drop 0).take 80) = true := by decide +kernel
set_option maxRecDepth 100000 in
theorem am_okL_80 : am_decs 8 1 code am_p264 ((am_p264.drop 80).take 81) ((am_c264.drop 80).take 80) = true := by decide +kernel
set_option maxRecDepth 100000 in
theorem am_okL_160 : am_decs 8 1 code am_p264 ((am_p264.drop 160).take 81) ((am_c264.drop 160).take 80) = true := by decide +kernel
set_option maxRecDepth 100000 in
theorem am_okL_240 : am_decs 8 1 code am_p264 ((am_p264.drop 240).take 81) ((am_c264.drop 240).take 80) = true := by decide +kernel
set_option maxRecDepth 100000 in
theorem am_okL_320 : am_decs 8 1 code am_p264 ((am_p264.drop 320).take 81) ((am_c264.drop 320).take 80) = true := by decide +kernel
set_option maxRecDepth 100000 in
theorem am_okL_400 : am_decs 8 1 code am_p264 ((am_p264.drop 400).take 81) ((am_c264.drop 400).take 80) = true := by decide +kernel
set_option maxRecDepth 100000 in
theorem am_okL_480 : am_decs 8 1 code am_p264 ((am_p264.drop 480).take 81) ((am_c264.drop 480).take 80) = true := by decide +kernel
set_option maxRecDepth 100000 in
theorem am_okL_560 : am_decs 8 1 code am_p264 ((am_p264.drop 560).take 81) ((am_c264.drop 560).take 80) = true := by decide +kernel
set_option maxRecDepth 100000 in
theorem am_okL_640 : am_decs 8 1 code am_p264 ((am_p264.drop 640).take 81) ((am_c264.drop 640).take 80) = true := by decide +kernel
set_option maxRecDepth 100000 in
theorem am_okL_720 : am_decs 8 1 code am_p264 ((am_p264.drop 720).take 81) ((am_c264.drop 720).take 80) = true := by decide +kernel
set_option maxRecDepth 100000 in
theorem am_okL_800 : am_decs 8 1 code am_p264 ((am_p264.drop 800).take 81) ((am_c264.drop 800).take 80) = true := by decide +kernel
set_option maxRecDepth 100000 in
theorem am_okL_880 : am_decs 8 1 code am_p264 ((am_p264.drop 880).take 81) ((am_c264.drop 880).take 80) = true := by decide +kernel
set_option maxRecDepth 100000 in
theorem am_okL_960 : am_decs 8 1 code am_p264 ((am_p264.drop 960).take 81) ((am_c264.drop 960).take 80) = true := by decide +kernel
set_option maxRecDepth 100000 in
theorem am_okL_1040 : am_decs 8 1 code am_p264 ((am_p264.drop 1040).take 81) ((am_c264.drop 1040).take 80) = true := by decide +kernel
set_option maxRecDepth 100000 in
theorem am_okL_1120 : am_decs 8 1 code am_p264 ((am_p264.drop 1120).take 46) ((am_c264.drop 1120).take 45) = true := by decide +kernel
