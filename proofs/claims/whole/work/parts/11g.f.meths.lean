/-! ===== the blocks of each method agree with its bytes (printed) ===== -/
theorem pm_c296_0 : ((pm_LAW_law.drop 0).take 2).all (fun b => pm_ob pm_F15 pm_q296 b.1 b.2) = true := by decide +kernel
theorem pm_c296_2 : ((pm_LAW_law.drop 2).take 2).all (fun b => pm_ob pm_F15 pm_q296 b.1 b.2) = true := by decide +kernel
theorem pm_c296_4 : ((pm_LAW_law.drop 4).take 2).all (fun b => pm_ob pm_F15 pm_q296 b.1 b.2) = true := by decide +kernel
theorem pm_c296_6 : ((pm_LAW_law.drop 6).take 2).all (fun b => pm_ob pm_F15 pm_q296 b.1 b.2) = true := by decide +kernel
theorem pm_c296_8 : ((pm_LAW_law.drop 8).take 2).all (fun b => pm_ob pm_F15 pm_q296 b.1 b.2) = true := by decide +kernel
theorem pm_c296_10 : ((pm_LAW_law.drop 10).take 2).all (fun b => pm_ob pm_F15 pm_q296 b.1 b.2) = true := by decide +kernel
theorem pm_c296_12 : ((pm_LAW_law.drop 12).take 2).all (fun b => pm_ob pm_F15 pm_q296 b.1 b.2) = true := by decide +kernel
theorem pm_c296_14 : ((pm_LAW_law.drop 14).take 2).all (fun b => pm_ob pm_F15 pm_q296 b.1 b.2) = true := by decide +kernel
theorem pm_c296_16 : ((pm_LAW_law.drop 16).take 2).all (fun b => pm_ob pm_F15 pm_q296 b.1 b.2) = true := by decide +kernel
theorem pm_c296_18 : ((pm_LAW_law.drop 18).take 2).all (fun b => pm_ob pm_F15 pm_q296 b.1 b.2) = true := by decide +kernel
theorem pm_c296_20 : ((pm_LAW_law.drop 20).take 2).all (fun b => pm_ob pm_F15 pm_q296 b.1 b.2) = true := by decide +kernel
theorem pm_c296_22 : ((pm_LAW_law.drop 22).take 2).all (fun b => pm_ob pm_F15 pm_q296 b.1 b.2) = true := by decide +kernel
theorem pm_c296_24 : ((pm_LAW_law.drop 24).take 2).all (fun b => pm_ob pm_F15 pm_q296 b.1 b.2) = true := by decide +kernel
theorem pm_c296_26 : ((pm_LAW_law.drop 26).take 2).all (fun b => pm_ob pm_F15 pm_q296 b.1 b.2) = true := by decide +kernel
theorem pm_c296_28 : ((pm_LAW_law.drop 28).take 2).all (fun b => pm_ob pm_F15 pm_q296 b.1 b.2) = true := by decide +kernel
theorem pm_c296_30 : ((pm_LAW_law.drop 30).take 2).all (fun b => pm_ob pm_F15 pm_q296 b.1 b.2) = true := by decide +kernel
theorem pm_c296_32 : ((pm_LAW_law.drop 32).take 2).all (fun b => pm_ob pm_F15 pm_q296 b.1 b.2) = true := by decide +kernel
theorem pm_c296_34 : ((pm_LAW_law.drop 34).take 2).all (fun b => pm_ob pm_F15 pm_q296 b.1 b.2) = true := by decide +kernel
theorem pm_c296_36 : ((pm_LAW_law.drop 36).take 2).all (fun b => pm_ob pm_F15 pm_q296 b.1 b.2) = true := by decide +kernel
theorem pm_c296_38 : ((pm_LAW_law.drop 38).take 2).all (fun b => pm_ob pm_F15 pm_q296 b.1 b.2) = true := by decide +kernel
theorem pm_c296_40 : ((pm_LAW_law.drop 40).take 2).all (fun b => pm_ob pm_F15 pm_q296 b.1 b.2) = true := by decide +kernel
theorem pm_c296_42 : ((pm_LAW_law.drop 42).take 2).all (fun b => pm_ob pm_F15 pm_q296 b.1 b.2) = true := by decide +kernel
set_option maxRecDepth 20000 in
theorem pm_c296 : (pm_LAW_law.drop 0).all (fun b => pm_ob pm_F15 pm_q296 b.1 b.2) = true := pm_all_td pm_c296_0 (pm_all_td pm_c296_2 (pm_all_td pm_c296_4 (pm_all_td pm_c296_6 (pm_all_td pm_c296_8 (pm_all_td pm_c296_10 (pm_all_td pm_c296_12 (pm_all_td pm_c296_14 (pm_all_td pm_c296_16 (pm_all_td pm_c296_18 (pm_all_td pm_c296_20 (pm_all_td pm_c296_22 (pm_all_td pm_c296_24 (pm_all_td pm_c296_26 (pm_all_td pm_c296_28 (pm_all_td pm_c296_30 (pm_all_td pm_c296_32 (pm_all_td pm_c296_34 (pm_all_td pm_c296_36 (pm_all_td pm_c296_38 (pm_all_td pm_c296_40 (pm_all_td pm_c296_42 (by decide +kernel))))))))))))))))))))))
theorem pm_g296 : pm_gd 296 pm_q296 := pm_gd_of (X := pm_LAW_law) pm_Fo15 rfl (by decide +kernel) rfl (by decide) pm_c296
