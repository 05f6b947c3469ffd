/-! ===== the blocks of each method agree with its bytes (printed) ===== -/
theorem pm_c160_0 : pm_ob pm_F12 pm_q160 0 (((pm_blk 160 0).drop 0).take 30) = true ∧ pm_pcs 0 (((pm_blk 160 0).drop 0).take 30) = 62 := by decide +kernel
theorem pm_c160_30 : pm_ob pm_F12 pm_q160 62 (((pm_blk 160 0).drop 30).take 30) = true ∧ pm_pcs 62 (((pm_blk 160 0).drop 30).take 30) = 105 := by decide +kernel
theorem pm_c160_60 : pm_ob pm_F12 pm_q160 105 (((pm_blk 160 0).drop 60).take 30) = true ∧ pm_pcs 105 (((pm_blk 160 0).drop 60).take 30) = 149 := by decide +kernel
theorem pm_c160_90 : pm_ob pm_F12 pm_q160 149 (((pm_blk 160 0).drop 90).take 30) = true ∧ pm_pcs 149 (((pm_blk 160 0).drop 90).take 30) = 195 := by decide +kernel
theorem pm_c160_120 : pm_ob pm_F12 pm_q160 195 (((pm_blk 160 0).drop 120).take 30) = true ∧ pm_pcs 195 (((pm_blk 160 0).drop 120).take 30) = 239 := by decide +kernel
theorem pm_c160_150 : pm_ob pm_F12 pm_q160 239 (((pm_blk 160 0).drop 150).take 30) = true ∧ pm_pcs 239 (((pm_blk 160 0).drop 150).take 30) = 285 := by decide +kernel
theorem pm_c160_180 : pm_ob pm_F12 pm_q160 285 (((pm_blk 160 0).drop 180).take 30) = true ∧ pm_pcs 285 (((pm_blk 160 0).drop 180).take 30) = 329 := by decide +kernel
theorem pm_c160_210 : pm_ob pm_F12 pm_q160 329 (((pm_blk 160 0).drop 210).take 30) = true ∧ pm_pcs 329 (((pm_blk 160 0).drop 210).take 30) = 375 := by decide +kernel
theorem pm_c160_240 : pm_ob pm_F12 pm_q160 375 (((pm_blk 160 0).drop 240).take 30) = true ∧ pm_pcs 375 (((pm_blk 160 0).drop 240).take 30) = 419 := by decide +kernel
theorem pm_c160_270 : pm_ob pm_F12 pm_q160 419 (((pm_blk 160 0).drop 270).take 30) = true ∧ pm_pcs 419 (((pm_blk 160 0).drop 270).take 30) = 465 := by decide +kernel
theorem pm_c160_300 : pm_ob pm_F12 pm_q160 465 (((pm_blk 160 0).drop 300).take 30) = true ∧ pm_pcs 465 (((pm_blk 160 0).drop 300).take 30) = 509 := by decide +kernel
theorem pm_c160_330 : pm_ob pm_F12 pm_q160 509 (((pm_blk 160 0).drop 330).take 30) = true ∧ pm_pcs 509 (((pm_blk 160 0).drop 330).take 30) = 555 := by decide +kernel
theorem pm_c160_360 : pm_ob pm_F12 pm_q160 555 (((pm_blk 160 0).drop 360).take 30) = true ∧ pm_pcs 555 (((pm_blk 160 0).drop 360).take 30) = 599 := by decide +kernel
theorem pm_c160_390 : pm_ob pm_F12 pm_q160 599 (((pm_blk 160 0).drop 390).take 30) = true ∧ pm_pcs 599 (((pm_blk 160 0).drop 390).take 30) = 645 := by decide +kernel
theorem pm_c160_420 : pm_ob pm_F12 pm_q160 645 (((pm_blk 160 0).drop 420).take 30) = true ∧ pm_pcs 645 (((pm_blk 160 0).drop 420).take 30) = 689 := by decide +kernel
theorem pm_c160_450 : pm_ob pm_F12 pm_q160 689 (((pm_blk 160 0).drop 450).take 30) = true ∧ pm_pcs 689 (((pm_blk 160 0).drop 450).take 30) = 735 := by decide +kernel
theorem pm_c160_480 : pm_ob pm_F12 pm_q160 735 (((pm_blk 160 0).drop 480).take 30) = true ∧ pm_pcs 735 (((pm_blk 160 0).drop 480).take 30) = 779 := by decide +kernel
theorem pm_c160_510 : pm_ob pm_F12 pm_q160 779 (((pm_blk 160 0).drop 510).take 30) = true ∧ pm_pcs 779 (((pm_blk 160 0).drop 510).take 30) = 836 := by decide +kernel
theorem pm_c160_540 : pm_ob pm_F12 pm_q160 836 (((pm_blk 160 0).drop 540).take 30) = true ∧ pm_pcs 836 (((pm_blk 160 0).drop 540).take 30) = 898 := by decide +kernel
theorem pm_c160_570 : pm_ob pm_F12 pm_q160 898 (((pm_blk 160 0).drop 570).take 30) = true ∧ pm_pcs 898 (((pm_blk 160 0).drop 570).take 30) = 957 := by decide +kernel
set_option maxRecDepth 20000 in
theorem pm_c160 : pm_ob pm_F12 pm_q160 0 ((pm_blk 160 0).drop 0) = true := pm_ob_td pm_c160_0 (pm_ob_td pm_c160_30 (pm_ob_td pm_c160_60 (pm_ob_td pm_c160_90 (pm_ob_td pm_c160_120 (pm_ob_td pm_c160_150 (pm_ob_td pm_c160_180 (pm_ob_td pm_c160_210 (pm_ob_td pm_c160_240 (pm_ob_td pm_c160_270 (pm_ob_td pm_c160_300 (pm_ob_td pm_c160_330 (pm_ob_td pm_c160_360 (pm_ob_td pm_c160_390 (pm_ob_td pm_c160_420 (pm_ob_td pm_c160_450 (pm_ob_td pm_c160_480 (pm_ob_td pm_c160_510 (pm_ob_td pm_c160_540 (pm_ob_td pm_c160_570 (by decide +kernel))))))))))))))))))))
theorem pm_g160 : pm_gd 160 pm_q160 := pm_gd_of (X := pm_MO_init) pm_Fo12 rfl (by decide +kernel) rfl (by decide) (List.all_eq_true.mpr (List.forall_mem_cons.mpr ⟨pm_c160, fun _ h => absurd h List.not_mem_nil⟩))
