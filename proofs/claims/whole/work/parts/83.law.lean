/-! ===== the law's own loop ===== -/
theorem bL_0 : pm_blk 296 0 = [(.new 7, [0]), (.dup, []), (.invokespecial 9, [0, 0, 1, 0]), (.astore_n 1, []), (.new 10, [12]), (.dup, []), (.invokespecial 12, [0, 160, 1, 12]), (.astore_n 2, []), (.iconst 0, []), (.istore_n 3, []), (.nop, [18])] := rfl
theorem bL_18 : pm_blk 296 18 = [(.iload_n 3, []), (.aload_n 0, []), (.arraylength, []), (.bipush 6, []), (.isub, []), (.if_icmp .gt 1181, [1205]), (.aload_n 0, []), (.iload_n 3, []), (.iaload, []), (.bipush 63, []), (.iand, []), (.tableswitch 1166 0 34 #[155, 178, 201, 234, 267, 310, 343, 366, 389, 412, 475, 498, 521, 544, 577, 610, 643, 676, 709, 742, 775, 808, 831, 844, 877, 900, 923, 946, 979, 1002, 1035, 1068, 1091, 1104, 1143], [1199, 188, 211, 234, 267, 300, 343, 376, 399, 422, 445, 508, 531, 554, 577, 610, 643, 676, 709, 742, 775, 808, 841, 864, 877, 910, 933, 956, 979, 1012, 1035, 1068, 1101, 1124, 1137, 1176])] := rfl
theorem bL_188 : pm_blk 296 188 = [(.aload_n 1, []), (.aload_n 0, []), (.iload_n 3, []), (.iconst 1, []), (.iadd, []), (.iaload, []), (.invokevirtual 13, [0, 1, 2, 0]), (.aload_n 2, []), (.aload_n 0, []), (.iload_n 3, []), (.iconst 1, []), (.iadd, []), (.iaload, []), (.invokevirtual 17, [0, 162, 2, 12]), (.if_icmp .eq 993, [1199]), (.iconst 0, []), (.ireturn, [1])] := rfl
theorem bL_211 : pm_blk 296 211 = [(.aload_n 1, []), (.aload_n 0, []), (.iload_n 3, []), (.iconst 1, []), (.iadd, []), (.iaload, []), (.invokevirtual 18, [0, 2, 2, 0]), (.aload_n 2, []), (.aload_n 0, []), (.iload_n 3, []), (.iconst 1, []), (.iadd, []), (.iaload, []), (.invokevirtual 22, [0, 163, 2, 12]), (.if_icmp .eq 970, [1199]), (.iconst 0, []), (.ireturn, [1])] := rfl
theorem bL_234 : pm_blk 296 234 = [(.aload_n 1, []), (.aload_n 0, []), (.iload_n 3, []), (.iconst 1, []), (.iadd, []), (.iaload, []), (.aload_n 0, []), (.iload_n 3, []), (.iconst 2, []), (.iadd, []), (.iaload, []), (.invokevirtual 23, [0, 4, 3, 0]), (.aload_n 2, []), (.aload_n 0, []), (.iload_n 3, []), (.iconst 1, []), (.iadd, []), (.iaload, []), (.aload_n 0, []), (.iload_n 3, []), (.iconst 2, []), (.iadd, []), (.iaload, []), (.invokevirtual 27, [0, 165, 3, 12]), (.if_icmp .eq 937, [1199]), (.iconst 0, []), (.ireturn, [1])] := rfl
theorem bL_267 : pm_blk 296 267 = [(.aload_n 1, []), (.aload_n 0, []), (.iload_n 3, []), (.iconst 1, []), (.iadd, []), (.iaload, []), (.aload_n 0, []), (.iload_n 3, []), (.iconst 2, []), (.iadd, []), (.iaload, []), (.invokevirtual 28, [0, 5, 3, 0]), (.aload_n 2, []), (.aload_n 0, []), (.iload_n 3, []), (.iconst 1, []), (.iadd, []), (.iaload, []), (.aload_n 0, []), (.iload_n 3, []), (.iconst 2, []), (.iadd, []), (.iaload, []), (.invokevirtual 31, [0, 168, 3, 12]), (.if_icmp .eq 904, [1199]), (.iconst 0, []), (.ireturn, [1])] := rfl
theorem bL_300 : pm_blk 296 300 = [(.aload_n 1, []), (.aload_n 0, []), (.iload_n 3, []), (.iconst 1, []), (.iadd, []), (.iaload, []), (.aload_n 0, []), (.iload_n 3, []), (.iconst 2, []), (.iadd, []), (.iaload, []), (.aload_n 0, []), (.iload_n 3, []), (.iconst 3, []), (.iadd, []), (.iaload, []), (.invokevirtual 32, [0, 6, 4, 0]), (.aload_n 2, []), (.aload_n 0, []), (.iload_n 3, []), (.iconst 1, []), (.iadd, []), (.iaload, []), (.aload_n 0, []), (.iload_n 3, []), (.iconst 2, []), (.iadd, []), (.iaload, []), (.aload_n 0, []), (.iload_n 3, []), (.iconst 3, []), (.iadd, []), (.iaload, []), (.invokevirtual 36, [0, 169, 4, 12]), (.if_icmp .eq 861, [1199]), (.iconst 0, []), (.ireturn, [1])] := rfl
theorem bL_343 : pm_blk 296 343 = [(.aload_n 1, []), (.aload_n 0, []), (.iload_n 3, []), (.iconst 1, []), (.iadd, []), (.iaload, []), (.aload_n 0, []), (.iload_n 3, []), (.iconst 2, []), (.iadd, []), (.iaload, []), (.invokevirtual 37, [0, 9, 3, 0]), (.aload_n 2, []), (.aload_n 0, []), (.iload_n 3, []), (.iconst 1, []), (.iadd, []), (.iaload, []), (.aload_n 0, []), (.iload_n 3, []), (.iconst 2, []), (.iadd, []), (.iaload, []), (.invokevirtual 40, [0, 208, 3, 12]), (.if_icmp .eq 828, [1199]), (.iconst 0, []), (.ireturn, [1])] := rfl
theorem bL_376 : pm_blk 296 376 = [(.aload_n 1, []), (.aload_n 0, []), (.iload_n 3, []), (.iconst 1, []), (.iadd, []), (.iaload, []), (.invokevirtual 41, [0, 11, 2, 0]), (.aload_n 2, []), (.aload_n 0, []), (.iload_n 3, []), (.iconst 1, []), (.iadd, []), (.iaload, []), (.invokevirtual 44, [0, 225, 2, 12]), (.if_icmp .eq 805, [1199]), (.iconst 0, []), (.ireturn, [1])] := rfl
theorem bL_399 : pm_blk 296 399 = [(.aload_n 1, []), (.aload_n 0, []), (.iload_n 3, []), (.iconst 1, []), (.iadd, []), (.iaload, []), (.invokevirtual 45, [0, 12, 2, 0]), (.aload_n 2, []), (.aload_n 0, []), (.iload_n 3, []), (.iconst 1, []), (.iadd, []), (.iaload, []), (.invokevirtual 48, [0, 227, 2, 12]), (.if_icmp .eq 782, [1199]), (.iconst 0, []), (.ireturn, [1])] := rfl
theorem bL_422 : pm_blk 296 422 = [(.aload_n 1, []), (.aload_n 0, []), (.iload_n 3, []), (.iconst 1, []), (.iadd, []), (.iaload, []), (.invokevirtual 49, [0, 13, 2, 0]), (.aload_n 2, []), (.aload_n 0, []), (.iload_n 3, []), (.iconst 1, []), (.iadd, []), (.iaload, []), (.invokevirtual 52, [0, 229, 2, 12]), (.if_icmp .eq 759, [1199]), (.iconst 0, []), (.ireturn, [1])] := rfl
theorem bL_445 : pm_blk 296 445 = [(.aload_n 1, []), (.aload_n 0, []), (.iload_n 3, []), (.iconst 1, []), (.iadd, []), (.iaload, []), (.aload_n 0, []), (.iload_n 3, []), (.iconst 2, []), (.iadd, []), (.iaload, []), (.aload_n 0, []), (.iload_n 3, []), (.iconst 3, []), (.iadd, []), (.iaload, []), (.aload_n 0, []), (.iload_n 3, []), (.iconst 4, []), (.iadd, []), (.iaload, []), (.aload_n 0, []), (.iload_n 3, []), (.iconst 5, []), (.iadd, []), (.iaload, []), (.invokevirtual 53, [0, 14, 6, 0]), (.aload_n 2, []), (.aload_n 0, []), (.iload_n 3, []), (.iconst 1, []), (.iadd, []), (.iaload, []), (.aload_n 0, []), (.iload_n 3, []), (.iconst 2, []), (.iadd, []), (.iaload, []), (.aload_n 0, []), (.iload_n 3, []), (.iconst 3, []), (.iadd, []), (.iaload, []), (.aload_n 0, []), (.iload_n 3, []), (.iconst 4, []), (.iadd, []), (.iaload, []), (.aload_n 0, []), (.iload_n 3, []), (.iconst 5, []), (.iadd, []), (.iaload, []), (.invokevirtual 57, [0, 173, 6, 12]), (.if_icmp .eq 696, [1199]), (.iconst 0, []), (.ireturn, [1])] := rfl
theorem bL_508 : pm_blk 296 508 = [(.aload_n 1, []), (.aload_n 0, []), (.iload_n 3, []), (.iconst 1, []), (.iadd, []), (.iaload, []), (.invokevirtual 58, [0, 15, 2, 0]), (.aload_n 2, []), (.aload_n 0, []), (.iload_n 3, []), (.iconst 1, []), (.iadd, []), (.iaload, []), (.invokevirtual 61, [0, 175, 2, 12]), (.if_icmp .eq 673, [1199]), (.iconst 0, []), (.ireturn, [1])] := rfl
theorem bL_531 : pm_blk 296 531 = [(.aload_n 1, []), (.aload_n 0, []), (.iload_n 3, []), (.iconst 1, []), (.iadd, []), (.iaload, []), (.invokevirtual 62, [0, 16, 2, 0]), (.aload_n 2, []), (.aload_n 0, []), (.iload_n 3, []), (.iconst 1, []), (.iadd, []), (.iaload, []), (.invokevirtual 65, [0, 176, 2, 12]), (.if_icmp .eq 650, [1199]), (.iconst 0, []), (.ireturn, [1])] := rfl
theorem bL_554 : pm_blk 296 554 = [(.aload_n 1, []), (.aload_n 0, []), (.iload_n 3, []), (.iconst 1, []), (.iadd, []), (.iaload, []), (.invokevirtual 66, [0, 18, 2, 0]), (.aload_n 2, []), (.aload_n 0, []), (.iload_n 3, []), (.iconst 1, []), (.iadd, []), (.iaload, []), (.invokevirtual 69, [0, 207, 2, 12]), (.if_icmp .eq 627, [1199]), (.iconst 0, []), (.ireturn, [1])] := rfl
theorem bL_577 : pm_blk 296 577 = [(.aload_n 1, []), (.aload_n 0, []), (.iload_n 3, []), (.iconst 1, []), (.iadd, []), (.iaload, []), (.aload_n 0, []), (.iload_n 3, []), (.iconst 2, []), (.iadd, []), (.iaload, []), (.invokevirtual 70, [0, 19, 3, 0]), (.aload_n 2, []), (.aload_n 0, []), (.iload_n 3, []), (.iconst 1, []), (.iadd, []), (.iaload, []), (.aload_n 0, []), (.iload_n 3, []), (.iconst 2, []), (.iadd, []), (.iaload, []), (.invokevirtual 73, [0, 242, 3, 12]), (.if_icmp .eq 594, [1199]), (.iconst 0, []), (.ireturn, [1])] := rfl
theorem bL_610 : pm_blk 296 610 = [(.aload_n 1, []), (.aload_n 0, []), (.iload_n 3, []), (.iconst 1, []), (.iadd, []), (.iaload, []), (.aload_n 0, []), (.iload_n 3, []), (.iconst 2, []), (.iadd, []), (.iaload, []), (.invokevirtual 74, [0, 20, 3, 0]), (.aload_n 2, []), (.aload_n 0, []), (.iload_n 3, []), (.iconst 1, []), (.iadd, []), (.iaload, []), (.aload_n 0, []), (.iload_n 3, []), (.iconst 2, []), (.iadd, []), (.iaload, []), (.invokevirtual 77, [0, 245, 3, 12]), (.if_icmp .eq 561, [1199]), (.iconst 0, []), (.ireturn, [1])] := rfl
theorem bL_643 : pm_blk 296 643 = [(.aload_n 1, []), (.aload_n 0, []), (.iload_n 3, []), (.iconst 1, []), (.iadd, []), (.iaload, []), (.aload_n 0, []), (.iload_n 3, []), (.iconst 2, []), (.iadd, []), (.iaload, []), (.invokevirtual 78, [0, 21, 3, 0]), (.aload_n 2, []), (.aload_n 0, []), (.iload_n 3, []), (.iconst 1, []), (.iadd, []), (.iaload, []), (.aload_n 0, []), (.iload_n 3, []), (.iconst 2, []), (.iadd, []), (.iaload, []), (.invokevirtual 81, [0, 246, 3, 12]), (.if_icmp .eq 528, [1199]), (.iconst 0, []), (.ireturn, [1])] := rfl
theorem bL_676 : pm_blk 296 676 = [(.aload_n 1, []), (.aload_n 0, []), (.iload_n 3, []), (.iconst 1, []), (.iadd, []), (.iaload, []), (.aload_n 0, []), (.iload_n 3, []), (.iconst 2, []), (.iadd, []), (.iaload, []), (.invokevirtual 82, [0, 22, 3, 0]), (.aload_n 2, []), (.aload_n 0, []), (.iload_n 3, []), (.iconst 1, []), (.iadd, []), (.iaload, []), (.aload_n 0, []), (.iload_n 3, []), (.iconst 2, []), (.iadd, []), (.iaload, []), (.invokevirtual 85, [0, 247, 3, 12]), (.if_icmp .eq 495, [1199]), (.iconst 0, []), (.ireturn, [1])] := rfl
theorem bL_709 : pm_blk 296 709 = [(.aload_n 1, []), (.aload_n 0, []), (.iload_n 3, []), (.iconst 1, []), (.iadd, []), (.iaload, []), (.aload_n 0, []), (.iload_n 3, []), (.iconst 2, []), (.iadd, []), (.iaload, []), (.invokevirtual 86, [0, 23, 3, 0]), (.aload_n 2, []), (.aload_n 0, []), (.iload_n 3, []), (.iconst 1, []), (.iadd, []), (.iaload, []), (.aload_n 0, []), (.iload_n 3, []), (.iconst 2, []), (.iadd, []), (.iaload, []), (.invokevirtual 89, [0, 248, 3, 12]), (.if_icmp .eq 462, [1199]), (.iconst 0, []), (.ireturn, [1])] := rfl
theorem bL_742 : pm_blk 296 742 = [(.aload_n 1, []), (.aload_n 0, []), (.iload_n 3, []), (.iconst 1, []), (.iadd, []), (.iaload, []), (.aload_n 0, []), (.iload_n 3, []), (.iconst 2, []), (.iadd, []), (.iaload, []), (.invokevirtual 90, [0, 24, 3, 0]), (.aload_n 2, []), (.aload_n 0, []), (.iload_n 3, []), (.iconst 1, []), (.iadd, []), (.iaload, []), (.aload_n 0, []), (.iload_n 3, []), (.iconst 2, []), (.iadd, []), (.iaload, []), (.invokevirtual 93, [0, 251, 3, 12]), (.if_icmp .eq 429, [1199]), (.iconst 0, []), (.ireturn, [1])] := rfl
theorem bL_775 : pm_blk 296 775 = [(.aload_n 1, []), (.aload_n 0, []), (.iload_n 3, []), (.iconst 1, []), (.iadd, []), (.iaload, []), (.aload_n 0, []), (.iload_n 3, []), (.iconst 2, []), (.iadd, []), (.iaload, []), (.invokevirtual 94, [0, 25, 3, 0]), (.aload_n 2, []), (.aload_n 0, []), (.iload_n 3, []), (.iconst 1, []), (.iadd, []), (.iaload, []), (.aload_n 0, []), (.iload_n 3, []), (.iconst 2, []), (.iadd, []), (.iaload, []), (.invokevirtual 97, [0, 252, 3, 12]), (.if_icmp .eq 396, [1199]), (.iconst 0, []), (.ireturn, [1])] := rfl
theorem bL_808 : pm_blk 296 808 = [(.aload_n 1, []), (.aload_n 0, []), (.iload_n 3, []), (.iconst 1, []), (.iadd, []), (.iaload, []), (.aload_n 0, []), (.iload_n 3, []), (.iconst 2, []), (.iadd, []), (.iaload, []), (.invokevirtual 98, [0, 26, 3, 0]), (.aload_n 2, []), (.aload_n 0, []), (.iload_n 3, []), (.iconst 1, []), (.iadd, []), (.iaload, []), (.aload_n 0, []), (.iload_n 3, []), (.iconst 2, []), (.iadd, []), (.iaload, []), (.invokevirtual 101, [0, 255, 3, 12]), (.if_icmp .eq 363, [1199]), (.iconst 0, []), (.ireturn, [1])] := rfl
theorem bL_841 : pm_blk 296 841 = [(.aload_n 1, []), (.aload_n 0, []), (.iload_n 3, []), (.iconst 1, []), (.iadd, []), (.iaload, []), (.invokevirtual 102, [0, 27, 2, 0]), (.aload_n 2, []), (.aload_n 0, []), (.iload_n 3, []), (.iconst 1, []), (.iadd, []), (.iaload, []), (.invokevirtual 105, [0, 261, 2, 12]), (.if_icmp .eq 340, [1199]), (.iconst 0, []), (.ireturn, [1])] := rfl
theorem bL_864 : pm_blk 296 864 = [(.aload_n 1, []), (.invokevirtual 106, [0, 29, 1, 0]), (.aload_n 2, []), (.invokevirtual 110, [0, 264, 1, 12]), (.if_icmp .eq 327, [1199]), (.iconst 0, []), (.ireturn, [1])] := rfl
theorem bL_877 : pm_blk 296 877 = [(.aload_n 1, []), (.aload_n 0, []), (.iload_n 3, []), (.iconst 1, []), (.iadd, []), (.iaload, []), (.aload_n 0, []), (.iload_n 3, []), (.iconst 2, []), (.iadd, []), (.iaload, []), (.invokevirtual 111, [0, 30, 3, 0]), (.aload_n 2, []), (.aload_n 0, []), (.iload_n 3, []), (.iconst 1, []), (.iadd, []), (.iaload, []), (.aload_n 0, []), (.iload_n 3, []), (.iconst 2, []), (.iadd, []), (.iaload, []), (.invokevirtual 114, [0, 266, 3, 12]), (.if_icmp .eq 294, [1199]), (.iconst 0, []), (.ireturn, [1])] := rfl
theorem bL_910 : pm_blk 296 910 = [(.aload_n 1, []), (.aload_n 0, []), (.iload_n 3, []), (.iconst 1, []), (.iadd, []), (.iaload, []), (.invokevirtual 115, [0, 31, 2, 0]), (.aload_n 2, []), (.aload_n 0, []), (.iload_n 3, []), (.iconst 1, []), (.iadd, []), (.iaload, []), (.invokevirtual 118, [0, 267, 2, 12]), (.if_icmp .eq 271, [1199]), (.iconst 0, []), (.ireturn, [1])] := rfl
theorem bL_933 : pm_blk 296 933 = [(.aload_n 1, []), (.aload_n 0, []), (.iload_n 3, []), (.iconst 1, []), (.iadd, []), (.iaload, []), (.invokevirtual 119, [0, 32, 2, 0]), (.aload_n 2, []), (.aload_n 0, []), (.iload_n 3, []), (.iconst 1, []), (.iadd, []), (.iaload, []), (.invokevirtual 122, [0, 273, 2, 12]), (.if_icmp .eq 248, [1199]), (.iconst 0, []), (.ireturn, [1])] := rfl
theorem bL_956 : pm_blk 296 956 = [(.aload_n 1, []), (.aload_n 0, []), (.iload_n 3, []), (.iconst 1, []), (.iadd, []), (.iaload, []), (.invokevirtual 123, [0, 33, 2, 0]), (.aload_n 2, []), (.aload_n 0, []), (.iload_n 3, []), (.iconst 1, []), (.iadd, []), (.iaload, []), (.invokevirtual 126, [0, 274, 2, 12]), (.if_icmp .eq 225, [1199]), (.iconst 0, []), (.ireturn, [1])] := rfl
theorem bL_979 : pm_blk 296 979 = [(.aload_n 1, []), (.aload_n 0, []), (.iload_n 3, []), (.iconst 1, []), (.iadd, []), (.iaload, []), (.aload_n 0, []), (.iload_n 3, []), (.iconst 2, []), (.iadd, []), (.iaload, []), (.invokevirtual 127, [0, 34, 3, 0]), (.aload_n 2, []), (.aload_n 0, []), (.iload_n 3, []), (.iconst 1, []), (.iadd, []), (.iaload, []), (.aload_n 0, []), (.iload_n 3, []), (.iconst 2, []), (.iadd, []), (.iaload, []), (.invokevirtual 130, [0, 276, 3, 12]), (.if_icmp .eq 192, [1199]), (.iconst 0, []), (.ireturn, [1])] := rfl
theorem bL_1012 : pm_blk 296 1012 = [(.aload_n 1, []), (.aload_n 0, []), (.iload_n 3, []), (.iconst 1, []), (.iadd, []), (.iaload, []), (.invokevirtual 131, [0, 35, 2, 0]), (.aload_n 2, []), (.aload_n 0, []), (.iload_n 3, []), (.iconst 1, []), (.iadd, []), (.iaload, []), (.invokevirtual 134, [0, 278, 2, 12]), (.if_icmp .eq 169, [1199]), (.iconst 0, []), (.ireturn, [1])] := rfl
theorem bL_1035 : pm_blk 296 1035 = [(.aload_n 1, []), (.aload_n 0, []), (.iload_n 3, []), (.iconst 1, []), (.iadd, []), (.iaload, []), (.aload_n 0, []), (.iload_n 3, []), (.iconst 2, []), (.iadd, []), (.iaload, []), (.invokevirtual 135, [0, 36, 3, 0]), (.aload_n 2, []), (.aload_n 0, []), (.iload_n 3, []), (.iconst 1, []), (.iadd, []), (.iaload, []), (.aload_n 0, []), (.iload_n 3, []), (.iconst 2, []), (.iadd, []), (.iaload, []), (.invokevirtual 138, [0, 282, 3, 12]), (.if_icmp .eq 136, [1199]), (.iconst 0, []), (.ireturn, [1])] := rfl
theorem bL_1068 : pm_blk 296 1068 = [(.aload_n 1, []), (.aload_n 0, []), (.iload_n 3, []), (.iconst 1, []), (.iadd, []), (.iaload, []), (.aload_n 0, []), (.iload_n 3, []), (.iconst 2, []), (.iadd, []), (.iaload, []), (.invokevirtual 139, [0, 37, 3, 0]), (.aload_n 2, []), (.aload_n 0, []), (.iload_n 3, []), (.iconst 1, []), (.iadd, []), (.iaload, []), (.aload_n 0, []), (.iload_n 3, []), (.iconst 2, []), (.iadd, []), (.iaload, []), (.invokevirtual 142, [0, 283, 3, 12]), (.if_icmp .eq 103, [1199]), (.iconst 0, []), (.ireturn, [1])] := rfl
theorem bL_1101 : pm_blk 296 1101 = [(.aload_n 1, []), (.aload_n 0, []), (.iload_n 3, []), (.iconst 1, []), (.iadd, []), (.iaload, []), (.invokevirtual 143, [0, 38, 2, 0]), (.aload_n 2, []), (.aload_n 0, []), (.iload_n 3, []), (.iconst 1, []), (.iadd, []), (.iaload, []), (.invokevirtual 146, [0, 285, 2, 12]), (.if_icmp .eq 80, [1199]), (.iconst 0, []), (.ireturn, [1])] := rfl
theorem bL_1124 : pm_blk 296 1124 = [(.aload_n 1, []), (.invokevirtual 147, [0, 39, 1, 0]), (.aload_n 2, []), (.invokevirtual 151, [0, 161, 1, 12]), (.if_icmp .eq 67, [1199]), (.iconst 0, []), (.ireturn, [1])] := rfl
theorem bL_1137 : pm_blk 296 1137 = [(.aload_n 1, []), (.aload_n 0, []), (.iload_n 3, []), (.iconst 1, []), (.iadd, []), (.iaload, []), (.ifCond .eq 7, [1150]), (.iconst 1, []), (.goto 4, [1151])] := rfl
theorem bL_1150 : pm_blk 296 1150 = [(.iconst 0, []), (.nop, [1151])] := rfl
theorem bL_1151 : pm_blk 296 1151 = [(.invokevirtual 152, [0, 40, 2, 0]), (.aload_n 2, []), (.aload_n 0, []), (.iload_n 3, []), (.iconst 1, []), (.iadd, []), (.iaload, []), (.ifCond .eq 7, [1167]), (.iconst 1, []), (.goto 4, [1168])] := rfl
theorem bL_1167 : pm_blk 296 1167 = [(.iconst 0, []), (.nop, [1168])] := rfl
theorem bL_1168 : pm_blk 296 1168 = [(.invokevirtual 156, [0, 286, 2, 12]), (.if_icmp .eq 28, [1199]), (.iconst 0, []), (.ireturn, [1])] := rfl
theorem bL_1176 : pm_blk 296 1176 = [(.aload_n 1, []), (.aload_n 0, []), (.iload_n 3, []), (.iconst 1, []), (.iadd, []), (.iaload, []), (.invokevirtual 157, [0, 41, 2, 0]), (.aload_n 2, []), (.aload_n 0, []), (.iload_n 3, []), (.iconst 1, []), (.iadd, []), (.iaload, []), (.invokevirtual 160, [0, 290, 2, 12]), (.if_icmp .eq 5, [1199]), (.iconst 0, []), (.ireturn, [1])] := rfl
theorem bL_1199 : pm_blk 296 1199 = [(.iinc 3 6, []), (.goto (-1184), [18])] := rfl
theorem bL_1205 : pm_blk 296 1205 = [(.iconst 1, []), (.ireturn, [1])] := rfl
section LW2
variable {sc : Nat × (Nat → Int32)} {c m : Nat → Nat → Int32} {w : Nat → Int64}
theorem ev_scl {d mm : Nat} {is : List ma_I} {L : ma_L} {S : List Value} {o : List Nat} {h : List ma_C} : ev sc d mm ((.arraylength, o) :: is) L (.ref 4096 :: S) h = ev sc d mm is L (.int (nI sc.1) :: S) h := by
  refine rv_s rfl ?_
  show ma_s sc _ _ _ _ _ _ = _
  simp only [ma_s, ma_g, if_true]
  rfl
theorem ev_sci {d mm i : Nat} {is : List ma_I} {L : ma_L} {S : List Value} {o : List Nat} {h : List ma_C} (hs : sc.1 ≤ 3072) (hi : i < sc.1) : ev sc d mm ((.iaload, o) :: is) L (.int (nI i) :: .ref 4096 :: S) h = ev sc d mm is L (.int (sc.2 i) :: S) h := by
  refine rv_s rfl ?_
  show ma_s sc _ _ _ _ _ _ = _
  simp only [ma_s, ma_g, if_true]
  rw [if_neg (nI_ix hi (by omega)), nI_clamp (by omega)]
noncomputable def hLaw (sc : Nat × (Nat → Int32)) (t i : Nat) (h : List ma_C) : Option (Option Value × List ma_C) := ev sc 60 296 (pm_blk 296 t) [some (.ref 4096), some (.ref 0), some (.ref 138), some (.int (nI i))] [] h
def lawS (sc : Nat × (Nat → Int32)) (w : Nat → Int64) (t i : Nat) (c m : Nat → Nat → Int32) : Prop := ∃ c' w' m', gR c' m' ∧ hLaw sc t i (hp c w m) = hLaw sc 18 (i + 6) (hp c' w' m')
theorem lS_0 (i : Nat) (hs : sc.1 ≤ 3072) (hi : i + 6 ≤ sc.1) (h : gR c m) : lawS sc w 188 i c m := by
  obtain ⟨c', m', v, q1, q2, g⟩ := p_state (sc := sc) (w := w) 39 (sc.2 (i + 1)) h
  have q1 : ∀ m0, cc sc 59 1 [.ref 0, .int (sc.2 (i + 1))] (hp c w m0) = some (some (.int v), hp c' w m0) := q1
  have q2 : ∀ c0, cc sc 59 162 [.ref 138, .int (sc.2 (i + 1))] (hp c0 w m) = some (some (.int v), hp c0 w m') := q2
  refine ⟨c', w, m', g, ?_⟩
  unfold hLaw
  conv => lhs; rw [bL_188]
  simp (disch := first | assumption | omega | decide | (simp only [ma_wd0, ma_wdi, ma_wdr, ma_wdl, ma_wdn] <;> omega)) only [↓reduceIte, evK, evL, evS, evA, evJ, Option.bind_some, Option.toList, List.cons_append, List.nil_append, nI_add, pk_mul, bI0, ite_not, ev_rbb, up_n, up_s, up_u, pk_us, pk_un, Nat.reduceAdd, nI_ltT, nI_ltF, nI_leT, nI_leF, nI_eqT, nI_eqF, ev_sci, ce_LH_state, q1, ce_MO_state, q2, bL_1199]
theorem lS_1 (i : Nat) (hs : sc.1 ≤ 3072) (hi : i + 6 ≤ sc.1) (h : gR c m) : lawS sc w 211 i c m := by
  obtain ⟨c', m', v, q1, q2, g⟩ := p_sea (sc := sc) (w := w) 39 (sc.2 (i + 1)) h
  have q1 : ∀ m0, cc sc 59 2 [.ref 0, .int (sc.2 (i + 1))] (hp c w m0) = some (some (.int v), hp c' w m0) := q1
  have q2 : ∀ c0, cc sc 59 163 [.ref 138, .int (sc.2 (i + 1))] (hp c0 w m) = some (some (.int v), hp c0 w m') := q2
  refine ⟨c', w, m', g, ?_⟩
  unfold hLaw
  conv => lhs; rw [bL_211]
  simp (disch := first | assumption | omega | decide | (simp only [ma_wd0, ma_wdi, ma_wdr, ma_wdl, ma_wdn] <;> omega)) only [↓reduceIte, evK, evL, evS, evA, evJ, Option.bind_some, Option.toList, List.cons_append, List.nil_append, nI_add, pk_mul, bI0, ite_not, ev_rbb, up_n, up_s, up_u, pk_us, pk_un, Nat.reduceAdd, nI_ltT, nI_ltF, nI_leT, nI_leF, nI_eqT, nI_eqF, ev_sci, ce_LH_sea, q1, ce_MO_sea, q2, bL_1199]
theorem lS_2 (i : Nat) (hs : sc.1 ≤ 3072) (hi : i + 6 ≤ sc.1) (h : gR c m) : lawS sc w 234 i c m := by
  obtain ⟨c', m', v, q1, q2, g⟩ := p_ship (sc := sc) (w := w) 39 (sc.2 (i + 1)) (sc.2 (i + 2)) h
  have q1 : ∀ m0, cc sc 59 4 [.ref 0, .int (sc.2 (i + 1)), .int (sc.2 (i + 2))] (hp c w m0) = some (some (.int v), hp c' w m0) := q1
  have q2 : ∀ c0, cc sc 59 165 [.ref 138, .int (sc.2 (i + 1)), .int (sc.2 (i + 2))] (hp c0 w m) = some (some (.int v), hp c0 w m') := q2
  refine ⟨c', w, m', g, ?_⟩
  unfold hLaw
  conv => lhs; rw [bL_234]
  simp (disch := first | assumption | omega | decide | (simp only [ma_wd0, ma_wdi, ma_wdr, ma_wdl, ma_wdn] <;> omega)) only [↓reduceIte, evK, evL, evS, evA, evJ, Option.bind_some, Option.toList, List.cons_append, List.nil_append, nI_add, pk_mul, bI0, ite_not, ev_rbb, up_n, up_s, up_u, pk_us, pk_un, Nat.reduceAdd, nI_ltT, nI_ltF, nI_leT, nI_leF, nI_eqT, nI_eqF, ev_sci, ce_LH_ship, q1, ce_MO_ship, q2, bL_1199]
theorem lS_3 (i : Nat) (hs : sc.1 ≤ 3072) (hi : i + 6 ≤ sc.1) (h : gR c m) : lawS sc w 267 i c m := by
  obtain ⟨c', m', v, q1, q2, g⟩ := p_pier (sc := sc) (w := w) 39 (sc.2 (i + 1)) (sc.2 (i + 2)) h
  have q1 : ∀ m0, cc sc 59 5 [.ref 0, .int (sc.2 (i + 1)), .int (sc.2 (i + 2))] (hp c w m0) = some (some (.int v), hp c' w m0) := q1
  have q2 : ∀ c0, cc sc 59 168 [.ref 138, .int (sc.2 (i + 1)), .int (sc.2 (i + 2))] (hp c0 w m) = some (some (.int v), hp c0 w m') := q2
  refine ⟨c', w, m', g, ?_⟩
  unfold hLaw
  conv => lhs; rw [bL_267]
  simp (disch := first | assumption | omega | decide | (simp only [ma_wd0, ma_wdi, ma_wdr, ma_wdl, ma_wdn] <;> omega)) only [↓reduceIte, evK, evL, evS, evA, evJ, Option.bind_some, Option.toList, List.cons_append, List.nil_append, nI_add, pk_mul, bI0, ite_not, ev_rbb, up_n, up_s, up_u, pk_us, pk_un, Nat.reduceAdd, nI_ltT, nI_ltF, nI_leT, nI_leF, nI_eqT, nI_eqF, ev_sci, ce_LH_pier, q1, ce_MO_pier, q2, bL_1199]
theorem lS_4 (i : Nat) (hs : sc.1 ≤ 3072) (hi : i + 6 ≤ sc.1) (h : gR c m) : lawS sc w 300 i c m := by
  obtain ⟨c', m', v, q1, q2, g⟩ := p_set (sc := sc) (w := w) 39 (sc.2 (i + 1)) (sc.2 (i + 2)) (sc.2 (i + 3)) h
  have q1 : ∀ m0, cc sc 59 6 [.ref 0, .int (sc.2 (i + 1)), .int (sc.2 (i + 2)), .int (sc.2 (i + 3))] (hp c w m0) = some (some (.int v), hp c' w m0) := q1
  have q2 : ∀ c0, cc sc 59 169 [.ref 138, .int (sc.2 (i + 1)), .int (sc.2 (i + 2)), .int (sc.2 (i + 3))] (hp c0 w m) = some (some (.int v), hp c0 w m') := q2
  refine ⟨c', w, m', g, ?_⟩
  unfold hLaw
  conv => lhs; rw [bL_300]
  simp (disch := first | assumption | omega | decide | (simp only [ma_wd0, ma_wdi, ma_wdr, ma_wdl, ma_wdn] <;> omega)) only [↓reduceIte, evK, evL, evS, evA, evJ, Option.bind_some, Option.toList, List.cons_append, List.nil_append, nI_add, pk_mul, bI0, ite_not, ev_rbb, up_n, up_s, up_u, pk_us, pk_un, Nat.reduceAdd, nI_ltT, nI_ltF, nI_leT, nI_leF, nI_eqT, nI_eqF, ev_sci, ce_LH_set, q1, ce_MO_set, q2, bL_1199]
theorem lS_5 (i : Nat) (hs : sc.1 ≤ 3072) (hi : i + 6 ≤ sc.1) (h : gR c m) : lawS sc w 343 i c m := by
  obtain ⟨c', m', v, q1, q2, g⟩ := p_raise (sc := sc) (w := w) 39 (sc.2 (i + 1)) (sc.2 (i + 2)) h
  have q1 : ∀ m0, cc sc 59 9 [.ref 0, .int (sc.2 (i + 1)), .int (sc.2 (i + 2))] (hp c w m0) = some (some (.int v), hp c' w m0) := q1
  have q2 : ∀ c0, cc sc 59 208 [.ref 138, .int (sc.2 (i + 1)), .int (sc.2 (i + 2))] (hp c0 w m) = some (some (.int v), hp c0 w m') := q2
  refine ⟨c', w, m', g, ?_⟩
  unfold hLaw
  conv => lhs; rw [bL_343]
  simp (disch := first | assumption | omega | decide | (simp only [ma_wd0, ma_wdi, ma_wdr, ma_wdl, ma_wdn] <;> omega)) only [↓reduceIte, evK, evL, evS, evA, evJ, Option.bind_some, Option.toList, List.cons_append, List.nil_append, nI_add, pk_mul, bI0, ite_not, ev_rbb, up_n, up_s, up_u, pk_us, pk_un, Nat.reduceAdd, nI_ltT, nI_ltF, nI_leT, nI_leF, nI_eqT, nI_eqF, ev_sci, ce_LH_raise, q1, ce_MO_raise, q2, bL_1199]
theorem lS_6 (i : Nat) (hs : sc.1 ≤ 3072) (hi : i + 6 ≤ sc.1) (h : gR c m) : lawS sc w 376 i c m := by
  obtain ⟨c', m', v, q1, q2, g⟩ := p_lift (sc := sc) (w := w) 39 (sc.2 (i + 1)) h
  have q1 : ∀ m0, cc sc 59 11 [.ref 0, .int (sc.2 (i + 1))] (hp c w m0) = some (some (.int v), hp c' w m0) := q1
  have q2 : ∀ c0, cc sc 59 225 [.ref 138, .int (sc.2 (i + 1))] (hp c0 w m) = some (some (.int v), hp c0 w m') := q2
  refine ⟨c', w, m', g, ?_⟩
  unfold hLaw
  conv => lhs; rw [bL_376]
  simp (disch := first | assumption | omega | decide | (simp only [ma_wd0, ma_wdi, ma_wdr, ma_wdl, ma_wdn] <;> omega)) only [↓reduceIte, evK, evL, evS, evA, evJ, Option.bind_some, Option.toList, List.cons_append, List.nil_append, nI_add, pk_mul, bI0, ite_not, ev_rbb, up_n, up_s, up_u, pk_us, pk_un, Nat.reduceAdd, nI_ltT, nI_ltF, nI_leT, nI_leF, nI_eqT, nI_eqF, ev_sci, ce_LH_lift, q1, ce_MO_lift, q2, bL_1199]
theorem lS_7 (i : Nat) (hs : sc.1 ≤ 3072) (hi : i + 6 ≤ sc.1) (h : gR c m) : lawS sc w 399 i c m := by
  obtain ⟨c', m', v, q1, q2, g⟩ := p_mend (sc := sc) (w := w) 39 (sc.2 (i + 1)) h
  have q1 : ∀ m0, cc sc 59 12 [.ref 0, .int (sc.2 (i + 1))] (hp c w m0) = some (some (.int v), hp c' w m0) := q1
  have q2 : ∀ c0, cc sc 59 227 [.ref 138, .int (sc.2 (i + 1))] (hp c0 w m) = some (some (.int v), hp c0 w m') := q2
  refine ⟨c', w, m', g, ?_⟩
  unfold hLaw
  conv => lhs; rw [bL_399]
  simp (disch := first | assumption | omega | decide | (simp only [ma_wd0, ma_wdi, ma_wdr, ma_wdl, ma_wdn] <;> omega)) only [↓reduceIte, evK, evL, evS, evA, evJ, Option.bind_some, Option.toList, List.cons_append, List.nil_append, nI_add, pk_mul, bI0, ite_not, ev_rbb, up_n, up_s, up_u, pk_us, pk_un, Nat.reduceAdd, nI_ltT, nI_ltF, nI_leT, nI_leF, nI_eqT, nI_eqF, ev_sci, ce_LH_mend, q1, ce_MO_mend, q2, bL_1199]
theorem lS_8 (i : Nat) (hs : sc.1 ≤ 3072) (hi : i + 6 ≤ sc.1) (h : gR c m) : lawS sc w 422 i c m := by
  obtain ⟨c', m', v, q1, q2, g⟩ := p_hours (sc := sc) (w := w) 39 (sc.2 (i + 1)) h
  have q1 : ∀ m0, cc sc 59 13 [.ref 0, .int (sc.2 (i + 1))] (hp c w m0) = some (some (.int v), hp c' w m0) := q1
  have q2 : ∀ c0, cc sc 59 229 [.ref 138, .int (sc.2 (i + 1))] (hp c0 w m) = some (some (.int v), hp c0 w m') := q2
  refine ⟨c', w, m', g, ?_⟩
  unfold hLaw
  conv => lhs; rw [bL_422]
  simp (disch := first | assumption | omega | decide | (simp only [ma_wd0, ma_wdi, ma_wdr, ma_wdl, ma_wdn] <;> omega)) only [↓reduceIte, evK, evL, evS, evA, evJ, Option.bind_some, Option.toList, List.cons_append, List.nil_append, nI_add, pk_mul, bI0, ite_not, ev_rbb, up_n, up_s, up_u, pk_us, pk_un, Nat.reduceAdd, nI_ltT, nI_ltF, nI_leT, nI_leF, nI_eqT, nI_eqF, ev_sci, ce_LH_hours, q1, ce_MO_hours, q2, bL_1199]
theorem lS_9 (i : Nat) (hs : sc.1 ≤ 3072) (hi : i + 6 ≤ sc.1) (h : gR c m) : lawS sc w 445 i c m := by
  obtain ⟨c', m', v, q1, q2, g⟩ := p_feed (sc := sc) (w := w) 39 (sc.2 (i + 1)) (sc.2 (i + 2)) (sc.2 (i + 3)) (sc.2 (i + 4)) (sc.2 (i + 5)) h
  have q1 : ∀ m0, cc sc 59 14 [.ref 0, .int (sc.2 (i + 1)), .int (sc.2 (i + 2)), .int (sc.2 (i + 3)), .int (sc.2 (i + 4)), .int (sc.2 (i + 5))] (hp c w m0) = some (some (.int v), hp c' w m0) := q1
  have q2 : ∀ c0, cc sc 59 173 [.ref 138, .int (sc.2 (i + 1)), .int (sc.2 (i + 2)), .int (sc.2 (i + 3)), .int (sc.2 (i + 4)), .int (sc.2 (i + 5))] (hp c0 w m) = some (some (.int v), hp c0 w m') := q2
  refine ⟨c', w, m', g, ?_⟩
  unfold hLaw
  conv => lhs; rw [bL_445]
  simp (disch := first | assumption | omega | decide | (simp only [ma_wd0, ma_wdi, ma_wdr, ma_wdl, ma_wdn] <;> omega)) only [↓reduceIte, evK, evL, evS, evA, evJ, Option.bind_some, Option.toList, List.cons_append, List.nil_append, nI_add, pk_mul, bI0, ite_not, ev_rbb, up_n, up_s, up_u, pk_us, pk_un, Nat.reduceAdd, nI_ltT, nI_ltF, nI_leT, nI_leF, nI_eqT, nI_eqF, ev_sci, ce_LH_feed, q1, ce_MO_feed, q2, bL_1199]
theorem lS_10 (i : Nat) (hs : sc.1 ≤ 3072) (hi : i + 6 ≤ sc.1) (h : gR c m) : lawS sc w 508 i c m := by
  obtain ⟨c', m', v, q1, q2, g⟩ := p_end (sc := sc) (w := w) 39 (sc.2 (i + 1)) h
  have q1 : ∀ m0, cc sc 59 15 [.ref 0, .int (sc.2 (i + 1))] (hp c w m0) = some (some (.int v), hp c' w m0) := q1
  have q2 : ∀ c0, cc sc 59 175 [.ref 138, .int (sc.2 (i + 1))] (hp c0 w m) = some (some (.int v), hp c0 w m') := q2
  refine ⟨c', w, m', g, ?_⟩
  unfold hLaw
  conv => lhs; rw [bL_508]
  simp (disch := first | assumption | omega | decide | (simp only [ma_wd0, ma_wdi, ma_wdr, ma_wdl, ma_wdn] <;> omega)) only [↓reduceIte, evK, evL, evS, evA, evJ, Option.bind_some, Option.toList, List.cons_append, List.nil_append, nI_add, pk_mul, bI0, ite_not, ev_rbb, up_n, up_s, up_u, pk_us, pk_un, Nat.reduceAdd, nI_ltT, nI_ltF, nI_leT, nI_leF, nI_eqT, nI_eqF, ev_sci, ce_LH_end, q1, ce_MO_end, q2, bL_1199]
theorem lS_11 (i : Nat) (hs : sc.1 ≤ 3072) (hi : i + 6 ≤ sc.1) (h : gR c m) : lawS sc w 531 i c m := by
  obtain ⟨c', m', v, q1, q2, g⟩ := p_text (sc := sc) (w := w) 29 (sc.2 (i + 1)) h
  have q1 : ∀ m0, cc sc 59 16 [.ref 0, .int (sc.2 (i + 1))] (hp c w m0) = some (some (.int v), hp c' w m0) := q1
  have q2 : ∀ c0, cc sc 59 176 [.ref 138, .int (sc.2 (i + 1))] (hp c0 w m) = some (some (.int v), hp c0 w m') := q2
  refine ⟨c', w, m', g, ?_⟩
  unfold hLaw
  conv => lhs; rw [bL_531]
  simp (disch := first | assumption | omega | decide | (simp only [ma_wd0, ma_wdi, ma_wdr, ma_wdl, ma_wdn] <;> omega)) only [↓reduceIte, evK, evL, evS, evA, evJ, Option.bind_some, Option.toList, List.cons_append, List.nil_append, nI_add, pk_mul, bI0, ite_not, ev_rbb, up_n, up_s, up_u, pk_us, pk_un, Nat.reduceAdd, nI_ltT, nI_ltF, nI_leT, nI_leF, nI_eqT, nI_eqF, ev_sci, ce_LH_text, q1, ce_MO_text, q2, bL_1199]
theorem lS_12 (i : Nat) (hs : sc.1 ≤ 3072) (hi : i + 6 ≤ sc.1) (h : gR c m) : lawS sc w 554 i c m := by
  obtain ⟨c', m', v, q1, q2, g⟩ := p_fault (sc := sc) (w := w) 39 (sc.2 (i + 1)) h
  have q1 : ∀ m0, cc sc 59 18 [.ref 0, .int (sc.2 (i + 1))] (hp c w m0) = some (some (.int v), hp c' w m0) := q1
  have q2 : ∀ c0, cc sc 59 207 [.ref 138, .int (sc.2 (i + 1))] (hp c0 w m) = some (some (.int v), hp c0 w m') := q2
  refine ⟨c', w, m', g, ?_⟩
  unfold hLaw
  conv => lhs; rw [bL_554]
  simp (disch := first | assumption | omega | decide | (simp only [ma_wd0, ma_wdi, ma_wdr, ma_wdl, ma_wdn] <;> omega)) only [↓reduceIte, evK, evL, evS, evA, evJ, Option.bind_some, Option.toList, List.cons_append, List.nil_append, nI_add, pk_mul, bI0, ite_not, ev_rbb, up_n, up_s, up_u, pk_us, pk_un, Nat.reduceAdd, nI_ltT, nI_ltF, nI_leT, nI_leF, nI_eqT, nI_eqF, ev_sci, ce_LH_fault, q1, ce_MO_fault, q2, bL_1199]
theorem lS_13 (i : Nat) (hs : sc.1 ≤ 3072) (hi : i + 6 ≤ sc.1) (h : gR c m) : lawS sc w 577 i c m := by
  obtain ⟨c', m', v, q1, q2, g⟩ := p_of (sc := sc) (w := w) 39 (sc.2 (i + 1)) (sc.2 (i + 2)) h
  have q1 : ∀ m0, cc sc 59 19 [.ref 0, .int (sc.2 (i + 1)), .int (sc.2 (i + 2))] (hp c w m0) = some (some (.int v), hp c' w m0) := q1
  have q2 : ∀ c0, cc sc 59 242 [.ref 138, .int (sc.2 (i + 1)), .int (sc.2 (i + 2))] (hp c0 w m) = some (some (.int v), hp c0 w m') := q2
  refine ⟨c', w, m', g, ?_⟩
  unfold hLaw
  conv => lhs; rw [bL_577]
  simp (disch := first | assumption | omega | decide | (simp only [ma_wd0, ma_wdi, ma_wdr, ma_wdl, ma_wdn] <;> omega)) only [↓reduceIte, evK, evL, evS, evA, evJ, Option.bind_some, Option.toList, List.cons_append, List.nil_append, nI_add, pk_mul, bI0, ite_not, ev_rbb, up_n, up_s, up_u, pk_us, pk_un, Nat.reduceAdd, nI_ltT, nI_ltF, nI_leT, nI_leF, nI_eqT, nI_eqF, ev_sci, ce_LH_of, q1, ce_MO_of, q2, bL_1199]
theorem lS_14 (i : Nat) (hs : sc.1 ≤ 3072) (hi : i + 6 ≤ sc.1) (h : gR c m) : lawS sc w 610 i c m := by
  obtain ⟨c', m', v, q1, q2, g⟩ := p_sun (sc := sc) (w := w) 39 (sc.2 (i + 1)) (sc.2 (i + 2)) h
  have q1 : ∀ m0, cc sc 59 20 [.ref 0, .int (sc.2 (i + 1)), .int (sc.2 (i + 2))] (hp c w m0) = some (some (.int v), hp c' w m0) := q1
  have q2 : ∀ c0, cc sc 59 245 [.ref 138, .int (sc.2 (i + 1)), .int (sc.2 (i + 2))] (hp c0 w m) = some (some (.int v), hp c0 w m') := q2
  refine ⟨c', w, m', g, ?_⟩
  unfold hLaw
  conv => lhs; rw [bL_610]
  simp (disch := first | assumption | omega | decide | (simp only [ma_wd0, ma_wdi, ma_wdr, ma_wdl, ma_wdn] <;> omega)) only [↓reduceIte, evK, evL, evS, evA, evJ, Option.bind_some, Option.toList, List.cons_append, List.nil_append, nI_add, pk_mul, bI0, ite_not, ev_rbb, up_n, up_s, up_u, pk_us, pk_un, Nat.reduceAdd, nI_ltT, nI_ltF, nI_leT, nI_leF, nI_eqT, nI_eqF, ev_sci, ce_LH_sun, q1, ce_MO_sun, q2, bL_1199]
theorem lS_15 (i : Nat) (hs : sc.1 ≤ 3072) (hi : i + 6 ≤ sc.1) (h : gR c m) : lawS sc w 643 i c m := by
  obtain ⟨c', m', v, q1, q2, g⟩ := p_costs (sc := sc) (w := w) 39 (sc.2 (i + 1)) (sc.2 (i + 2)) h
  have q1 : ∀ m0, cc sc 59 21 [.ref 0, .int (sc.2 (i + 1)), .int (sc.2 (i + 2))] (hp c w m0) = some (some (.int v), hp c' w m0) := q1
  have q2 : ∀ c0, cc sc 59 246 [.ref 138, .int (sc.2 (i + 1)), .int (sc.2 (i + 2))] (hp c0 w m) = some (some (.int v), hp c0 w m') := q2
  refine ⟨c', w, m', g, ?_⟩
  unfold hLaw
  conv => lhs; rw [bL_643]
  simp (disch := first | assumption | omega | decide | (simp only [ma_wd0, ma_wdi, ma_wdr, ma_wdl, ma_wdn] <;> omega)) only [↓reduceIte, evK, evL, evS, evA, evJ, Option.bind_some, Option.toList, List.cons_append, List.nil_append, nI_add, pk_mul, bI0, ite_not, ev_rbb, up_n, up_s, up_u, pk_us, pk_un, Nat.reduceAdd, nI_ltT, nI_ltF, nI_leT, nI_leF, nI_eqT, nI_eqF, ev_sci, ce_LH_costs, q1, ce_MO_costs, q2, bL_1199]
theorem lS_16 (i : Nat) (hs : sc.1 ≤ 3072) (hi : i + 6 ≤ sc.1) (h : gR c m) : lawS sc w 676 i c m := by
  obtain ⟨c', m', v, q1, q2, g⟩ := p_shipOf (sc := sc) (w := w) 39 (sc.2 (i + 1)) (sc.2 (i + 2)) h
  have q1 : ∀ m0, cc sc 59 22 [.ref 0, .int (sc.2 (i + 1)), .int (sc.2 (i + 2))] (hp c w m0) = some (some (.int v), hp c' w m0) := q1
  have q2 : ∀ c0, cc sc 59 247 [.ref 138, .int (sc.2 (i + 1)), .int (sc.2 (i + 2))] (hp c0 w m) = some (some (.int v), hp c0 w m') := q2
  refine ⟨c', w, m', g, ?_⟩
  unfold hLaw
  conv => lhs; rw [bL_676]
  simp (disch := first | assumption | omega | decide | (simp only [ma_wd0, ma_wdi, ma_wdr, ma_wdl, ma_wdn] <;> omega)) only [↓reduceIte, evK, evL, evS, evA, evJ, Option.bind_some, Option.toList, List.cons_append, List.nil_append, nI_add, pk_mul, bI0, ite_not, ev_rbb, up_n, up_s, up_u, pk_us, pk_un, Nat.reduceAdd, nI_ltT, nI_ltF, nI_leT, nI_leF, nI_eqT, nI_eqF, ev_sci, ce_LH_shipOf, q1, ce_MO_shipOf, q2, bL_1199]
theorem lS_17 (i : Nat) (hs : sc.1 ≤ 3072) (hi : i + 6 ≤ sc.1) (h : gR c m) : lawS sc w 709 i c m := by
  obtain ⟨c', m', v, q1, q2, g⟩ := p_pierOf (sc := sc) (w := w) 39 (sc.2 (i + 1)) (sc.2 (i + 2)) h
  have q1 : ∀ m0, cc sc 59 23 [.ref 0, .int (sc.2 (i + 1)), .int (sc.2 (i + 2))] (hp c w m0) = some (some (.int v), hp c' w m0) := q1
  have q2 : ∀ c0, cc sc 59 248 [.ref 138, .int (sc.2 (i + 1)), .int (sc.2 (i + 2))] (hp c0 w m) = some (some (.int v), hp c0 w m') := q2
  refine ⟨c', w, m', g, ?_⟩
  unfold hLaw
  conv => lhs; rw [bL_709]
  simp (disch := first | assumption | omega | decide | (simp only [ma_wd0, ma_wdi, ma_wdr, ma_wdl, ma_wdn] <;> omega)) only [↓reduceIte, evK, evL, evS, evA, evJ, Option.bind_some, Option.toList, List.cons_append, List.nil_append, nI_add, pk_mul, bI0, ite_not, ev_rbb, up_n, up_s, up_u, pk_us, pk_un, Nat.reduceAdd, nI_ltT, nI_ltF, nI_leT, nI_leF, nI_eqT, nI_eqF, ev_sci, ce_LH_pierOf, q1, ce_MO_pierOf, q2, bL_1199]
theorem lS_18 (i : Nat) (hs : sc.1 ≤ 3072) (hi : i + 6 ≤ sc.1) (h : gR c m) : lawS sc w 742 i c m := by
  obtain ⟨c', m', v, q1, q2, g⟩ := p_book (sc := sc) (w := w) 39 (sc.2 (i + 1)) (sc.2 (i + 2)) h
  have q1 : ∀ m0, cc sc 59 24 [.ref 0, .int (sc.2 (i + 1)), .int (sc.2 (i + 2))] (hp c w m0) = some (some (.int v), hp c' w m0) := q1
  have q2 : ∀ c0, cc sc 59 251 [.ref 138, .int (sc.2 (i + 1)), .int (sc.2 (i + 2))] (hp c0 w m) = some (some (.int v), hp c0 w m') := q2
  refine ⟨c', w, m', g, ?_⟩
  unfold hLaw
  conv => lhs; rw [bL_742]
  simp (disch := first | assumption | omega | decide | (simp only [ma_wd0, ma_wdi, ma_wdr, ma_wdl, ma_wdn] <;> omega)) only [↓reduceIte, evK, evL, evS, evA, evJ, Option.bind_some, Option.toList, List.cons_append, List.nil_append, nI_add, pk_mul, bI0, ite_not, ev_rbb, up_n, up_s, up_u, pk_us, pk_un, Nat.reduceAdd, nI_ltT, nI_ltF, nI_leT, nI_leF, nI_eqT, nI_eqF, ev_sci, ce_LH_book, q1, ce_MO_book, q2, bL_1199]
theorem lS_19 (i : Nat) (hs : sc.1 ≤ 3072) (hi : i + 6 ≤ sc.1) (h : gR c m) : lawS sc w 775 i c m := by
  obtain ⟨c', m', v, q1, q2, g⟩ := p_goes (sc := sc) (w := w) 39 (sc.2 (i + 1)) (sc.2 (i + 2)) h
  have q1 : ∀ m0, cc sc 59 25 [.ref 0, .int (sc.2 (i + 1)), .int (sc.2 (i + 2))] (hp c w m0) = some (some (.int v), hp c' w m0) := q1
  have q2 : ∀ c0, cc sc 59 252 [.ref 138, .int (sc.2 (i + 1)), .int (sc.2 (i + 2))] (hp c0 w m) = some (some (.int v), hp c0 w m') := q2
  refine ⟨c', w, m', g, ?_⟩
  unfold hLaw
  conv => lhs; rw [bL_775]
  simp (disch := first | assumption | omega | decide | (simp only [ma_wd0, ma_wdi, ma_wdr, ma_wdl, ma_wdn] <;> omega)) only [↓reduceIte, evK, evL, evS, evA, evJ, Option.bind_some, Option.toList, List.cons_append, List.nil_append, nI_add, pk_mul, bI0, ite_not, ev_rbb, up_n, up_s, up_u, pk_us, pk_un, Nat.reduceAdd, nI_ltT, nI_ltF, nI_leT, nI_leF, nI_eqT, nI_eqF, ev_sci, ce_LH_goes, q1, ce_MO_goes, q2, bL_1199]
theorem lS_20 (i : Nat) (hs : sc.1 ≤ 3072) (hi : i + 6 ≤ sc.1) (h : gR c m) : lawS sc w 808 i c m := by
  obtain ⟨c', m', v, q1, q2, g⟩ := p_meets (sc := sc) (w := w) 39 (sc.2 (i + 1)) (sc.2 (i + 2)) h
  have q1 : ∀ m0, cc sc 59 26 [.ref 0, .int (sc.2 (i + 1)), .int (sc.2 (i + 2))] (hp c w m0) = some (some (.int v), hp c' w m0) := q1
  have q2 : ∀ c0, cc sc 59 255 [.ref 138, .int (sc.2 (i + 1)), .int (sc.2 (i + 2))] (hp c0 w m) = some (some (.int v), hp c0 w m') := q2
  refine ⟨c', w, m', g, ?_⟩
  unfold hLaw
  conv => lhs; rw [bL_808]
  simp (disch := first | assumption | omega | decide | (simp only [ma_wd0, ma_wdi, ma_wdr, ma_wdl, ma_wdn] <;> omega)) only [↓reduceIte, evK, evL, evS, evA, evJ, Option.bind_some, Option.toList, List.cons_append, List.nil_append, nI_add, pk_mul, bI0, ite_not, ev_rbb, up_n, up_s, up_u, pk_us, pk_un, Nat.reduceAdd, nI_ltT, nI_ltF, nI_leT, nI_leF, nI_eqT, nI_eqF, ev_sci, ce_LH_meets, q1, ce_MO_meets, q2, bL_1199]
theorem lS_21 (i : Nat) (hs : sc.1 ≤ 3072) (hi : i + 6 ≤ sc.1) (h : gR c m) : lawS sc w 841 i c m := by
  obtain ⟨c', m', v, q1, q2, g⟩ := p_smooth (sc := sc) (w := w) 39 (sc.2 (i + 1)) h
  have q1 : ∀ m0, cc sc 59 27 [.ref 0, .int (sc.2 (i + 1))] (hp c w m0) = some (some (.int v), hp c' w m0) := q1
  have q2 : ∀ c0, cc sc 59 261 [.ref 138, .int (sc.2 (i + 1))] (hp c0 w m) = some (some (.int v), hp c0 w m') := q2
  refine ⟨c', w, m', g, ?_⟩
  unfold hLaw
  conv => lhs; rw [bL_841]
  simp (disch := first | assumption | omega | decide | (simp only [ma_wd0, ma_wdi, ma_wdr, ma_wdl, ma_wdn] <;> omega)) only [↓reduceIte, evK, evL, evS, evA, evJ, Option.bind_some, Option.toList, List.cons_append, List.nil_append, nI_add, pk_mul, bI0, ite_not, ev_rbb, up_n, up_s, up_u, pk_us, pk_un, Nat.reduceAdd, nI_ltT, nI_ltF, nI_leT, nI_leF, nI_eqT, nI_eqF, ev_sci, ce_LH_smooth, q1, ce_MO_smooth, q2, bL_1199]
theorem lS_22 (i : Nat) (hs : sc.1 ≤ 3072) (hi : i + 6 ≤ sc.1) (h : gR c m) : lawS sc w 864 i c m := by
  obtain ⟨c', m', v, q1, q2, g⟩ := p_folds (sc := sc) (w := w) 39  h
  have q1 : ∀ m0, cc sc 59 29 [.ref 0] (hp c w m0) = some (some (.int v), hp c' w m0) := q1
  have q2 : ∀ c0, cc sc 59 264 [.ref 138] (hp c0 w m) = some (some (.int v), hp c0 w m') := q2
  refine ⟨c', w, m', g, ?_⟩
  unfold hLaw
  conv => lhs; rw [bL_864]
  simp (disch := first | assumption | omega | decide | (simp only [ma_wd0, ma_wdi, ma_wdr, ma_wdl, ma_wdn] <;> omega)) only [↓reduceIte, evK, evL, evS, evA, evJ, Option.bind_some, Option.toList, List.cons_append, List.nil_append, nI_add, pk_mul, bI0, ite_not, ev_rbb, up_n, up_s, up_u, pk_us, pk_un, Nat.reduceAdd, nI_ltT, nI_ltF, nI_leT, nI_leF, nI_eqT, nI_eqF, ev_sci, ce_LH_folds, q1, ce_MO_folds, q2, bL_1199]
theorem lS_23 (i : Nat) (hs : sc.1 ≤ 3072) (hi : i + 6 ≤ sc.1) (h : gR c m) : lawS sc w 877 i c m := by
  obtain ⟨c', m', v, q1, q2, g⟩ := p_sunset (sc := sc) (w := w) 39 (sc.2 (i + 1)) (sc.2 (i + 2)) h
  have q1 : ∀ m0, cc sc 59 30 [.ref 0, .int (sc.2 (i + 1)), .int (sc.2 (i + 2))] (hp c w m0) = some (some (.int v), hp c' w m0) := q1
  have q2 : ∀ c0, cc sc 59 266 [.ref 138, .int (sc.2 (i + 1)), .int (sc.2 (i + 2))] (hp c0 w m) = some (some (.int v), hp c0 w m') := q2
  refine ⟨c', w, m', g, ?_⟩
  unfold hLaw
  conv => lhs; rw [bL_877]
  simp (disch := first | assumption | omega | decide | (simp only [ma_wd0, ma_wdi, ma_wdr, ma_wdl, ma_wdn] <;> omega)) only [↓reduceIte, evK, evL, evS, evA, evJ, Option.bind_some, Option.toList, List.cons_append, List.nil_append, nI_add, pk_mul, bI0, ite_not, ev_rbb, up_n, up_s, up_u, pk_us, pk_un, Nat.reduceAdd, nI_ltT, nI_ltF, nI_leT, nI_leF, nI_eqT, nI_eqF, ev_sci, ce_LH_sunset, q1, ce_MO_sunset, q2, bL_1199]
theorem lS_24 (i : Nat) (hs : sc.1 ≤ 3072) (hi : i + 6 ≤ sc.1) (h : gR c m) : lawS sc w 910 i c m := by
  obtain ⟨c', m', v, q1, q2, g⟩ := p_lifted (sc := sc) (w := w) 39 (sc.2 (i + 1)) h
  have q1 : ∀ m0, cc sc 59 31 [.ref 0, .int (sc.2 (i + 1))] (hp c w m0) = some (some (.int v), hp c' w m0) := q1
  have q2 : ∀ c0, cc sc 59 267 [.ref 138, .int (sc.2 (i + 1))] (hp c0 w m) = some (some (.int v), hp c0 w m') := q2
  refine ⟨c', w, m', g, ?_⟩
  unfold hLaw
  conv => lhs; rw [bL_910]
  simp (disch := first | assumption | omega | decide | (simp only [ma_wd0, ma_wdi, ma_wdr, ma_wdl, ma_wdn] <;> omega)) only [↓reduceIte, evK, evL, evS, evA, evJ, Option.bind_some, Option.toList, List.cons_append, List.nil_append, nI_add, pk_mul, bI0, ite_not, ev_rbb, up_n, up_s, up_u, pk_us, pk_un, Nat.reduceAdd, nI_ltT, nI_ltF, nI_leT, nI_leF, nI_eqT, nI_eqF, ev_sci, ce_LH_lifted, q1, ce_MO_lifted, q2, bL_1199]
theorem lS_25 (i : Nat) (hs : sc.1 ≤ 3072) (hi : i + 6 ≤ sc.1) (h : gR c m) : lawS sc w 933 i c m := by
  obtain ⟨c', m', v, q1, q2, g⟩ := p_over (sc := sc) (w := w) 39 (sc.2 (i + 1)) h
  have q1 : ∀ m0, cc sc 59 32 [.ref 0, .int (sc.2 (i + 1))] (hp c w m0) = some (some (.int v), hp c' w m0) := q1
  have q2 : ∀ c0, cc sc 59 273 [.ref 138, .int (sc.2 (i + 1))] (hp c0 w m) = some (some (.int v), hp c0 w m') := q2
  refine ⟨c', w, m', g, ?_⟩
  unfold hLaw
  conv => lhs; rw [bL_933]
  simp (disch := first | assumption | omega | decide | (simp only [ma_wd0, ma_wdi, ma_wdr, ma_wdl, ma_wdn] <;> omega)) only [↓reduceIte, evK, evL, evS, evA, evJ, Option.bind_some, Option.toList, List.cons_append, List.nil_append, nI_add, pk_mul, bI0, ite_not, ev_rbb, up_n, up_s, up_u, pk_us, pk_un, Nat.reduceAdd, nI_ltT, nI_ltF, nI_leT, nI_leF, nI_eqT, nI_eqF, ev_sci, ce_LH_over, q1, ce_MO_over, q2, bL_1199]
theorem lS_26 (i : Nat) (hs : sc.1 ≤ 3072) (hi : i + 6 ≤ sc.1) (h : gR c m) : lawS sc w 956 i c m := by
  obtain ⟨c', m', v, q1, q2, g⟩ := p_watch (sc := sc) (w := w) 39 (sc.2 (i + 1)) h
  have q1 : ∀ m0, cc sc 59 33 [.ref 0, .int (sc.2 (i + 1))] (hp c w m0) = some (some (.int v), hp c' w m0) := q1
  have q2 : ∀ c0, cc sc 59 274 [.ref 138, .int (sc.2 (i + 1))] (hp c0 w m) = some (some (.int v), hp c0 w m') := q2
  refine ⟨c', w, m', g, ?_⟩
  unfold hLaw
  conv => lhs; rw [bL_956]
  simp (disch := first | assumption | omega | decide | (simp only [ma_wd0, ma_wdi, ma_wdr, ma_wdl, ma_wdn] <;> omega)) only [↓reduceIte, evK, evL, evS, evA, evJ, Option.bind_some, Option.toList, List.cons_append, List.nil_append, nI_add, pk_mul, bI0, ite_not, ev_rbb, up_n, up_s, up_u, pk_us, pk_un, Nat.reduceAdd, nI_ltT, nI_ltF, nI_leT, nI_leF, nI_eqT, nI_eqF, ev_sci, ce_LH_watch, q1, ce_MO_watch, q2, bL_1199]
theorem lS_27 (i : Nat) (hs : sc.1 ≤ 3072) (hi : i + 6 ≤ sc.1) (h : gR c m) : lawS sc w 979 i c m := by
  obtain ⟨c', m', v, q1, q2, g⟩ := p_coils (sc := sc) (w := w) 39 (sc.2 (i + 1)) (sc.2 (i + 2)) h
  have q1 : ∀ m0, cc sc 59 34 [.ref 0, .int (sc.2 (i + 1)), .int (sc.2 (i + 2))] (hp c w m0) = some (some (.int v), hp c' w m0) := q1
  have q2 : ∀ c0, cc sc 59 276 [.ref 138, .int (sc.2 (i + 1)), .int (sc.2 (i + 2))] (hp c0 w m) = some (some (.int v), hp c0 w m') := q2
  refine ⟨c', w, m', g, ?_⟩
  unfold hLaw
  conv => lhs; rw [bL_979]
  simp (disch := first | assumption | omega | decide | (simp only [ma_wd0, ma_wdi, ma_wdr, ma_wdl, ma_wdn] <;> omega)) only [↓reduceIte, evK, evL, evS, evA, evJ, Option.bind_some, Option.toList, List.cons_append, List.nil_append, nI_add, pk_mul, bI0, ite_not, ev_rbb, up_n, up_s, up_u, pk_us, pk_un, Nat.reduceAdd, nI_ltT, nI_ltF, nI_leT, nI_leF, nI_eqT, nI_eqF, ev_sci, ce_LH_coils, q1, ce_MO_coils, q2, bL_1199]
theorem lS_28 (i : Nat) (hs : sc.1 ≤ 3072) (hi : i + 6 ≤ sc.1) (h : gR c m) : lawS sc w 1012 i c m := by
  obtain ⟨c', w', m', v, q1, q2, g⟩ := p_moors (sc := sc) (w := w) 39 (sc.2 (i + 1)) h
  have q1 : ∀ m0, cc sc 59 35 [.ref 0, .int (sc.2 (i + 1))] (hp c w m0) = some (some (.int v), hp c' w' m0) := q1
  have q2 : ∀ c0 w0, cc sc 59 278 [.ref 138, .int (sc.2 (i + 1))] (hp c0 w0 m) = some (some (.int v), hp c0 w0 m') := q2
  refine ⟨c', w', m', g, ?_⟩
  unfold hLaw
  conv => lhs; rw [bL_1012]
  simp (disch := first | assumption | omega | decide | (simp only [ma_wd0, ma_wdi, ma_wdr, ma_wdl, ma_wdn] <;> omega)) only [↓reduceIte, evK, evL, evS, evA, evJ, Option.bind_some, Option.toList, List.cons_append, List.nil_append, nI_add, pk_mul, bI0, ite_not, ev_rbb, up_n, up_s, up_u, pk_us, pk_un, Nat.reduceAdd, nI_ltT, nI_ltF, nI_leT, nI_leF, nI_eqT, nI_eqF, ev_sci, ce_LH_moors, q1, ce_MO_moors, q2, bL_1199]
theorem lS_29 (i : Nat) (hs : sc.1 ≤ 3072) (hi : i + 6 ≤ sc.1) (h : gR c m) : lawS sc w 1035 i c m := by
  obtain ⟨c', m', v, q1, q2, g⟩ := p_fee (sc := sc) (w := w) 39 (sc.2 (i + 1)) (sc.2 (i + 2)) h
  have q1 : ∀ m0, cc sc 59 36 [.ref 0, .int (sc.2 (i + 1)), .int (sc.2 (i + 2))] (hp c w m0) = some (some (.int v), hp c' w m0) := q1
  have q2 : ∀ c0, cc sc 59 282 [.ref 138, .int (sc.2 (i + 1)), .int (sc.2 (i + 2))] (hp c0 w m) = some (some (.int v), hp c0 w m') := q2
  refine ⟨c', w, m', g, ?_⟩
  unfold hLaw
  conv => lhs; rw [bL_1035]
  simp (disch := first | assumption | omega | decide | (simp only [ma_wd0, ma_wdi, ma_wdr, ma_wdl, ma_wdn] <;> omega)) only [↓reduceIte, evK, evL, evS, evA, evJ, Option.bind_some, Option.toList, List.cons_append, List.nil_append, nI_add, pk_mul, bI0, ite_not, ev_rbb, up_n, up_s, up_u, pk_us, pk_un, Nat.reduceAdd, nI_ltT, nI_ltF, nI_leT, nI_leF, nI_eqT, nI_eqF, ev_sci, ce_LH_fee, q1, ce_MO_fee, q2, bL_1199]
theorem lS_30 (i : Nat) (hs : sc.1 ≤ 3072) (hi : i + 6 ≤ sc.1) (h : gR c m) : lawS sc w 1068 i c m := by
  obtain ⟨c', m', v, q1, q2, g⟩ := p_part (sc := sc) (w := w) 39 (sc.2 (i + 1)) (sc.2 (i + 2)) h
  have q1 : ∀ m0, cc sc 59 37 [.ref 0, .int (sc.2 (i + 1)), .int (sc.2 (i + 2))] (hp c w m0) = some (some (.int v), hp c' w m0) := q1
  have q2 : ∀ c0, cc sc 59 283 [.ref 138, .int (sc.2 (i + 1)), .int (sc.2 (i + 2))] (hp c0 w m) = some (some (.int v), hp c0 w m') := q2
  refine ⟨c', w, m', g, ?_⟩
  unfold hLaw
  conv => lhs; rw [bL_1068]
  simp (disch := first | assumption | omega | decide | (simp only [ma_wd0, ma_wdi, ma_wdr, ma_wdl, ma_wdn] <;> omega)) only [↓reduceIte, evK, evL, evS, evA, evJ, Option.bind_some, Option.toList, List.cons_append, List.nil_append, nI_add, pk_mul, bI0, ite_not, ev_rbb, up_n, up_s, up_u, pk_us, pk_un, Nat.reduceAdd, nI_ltT, nI_ltF, nI_leT, nI_leF, nI_eqT, nI_eqF, ev_sci, ce_LH_part, q1, ce_MO_part, q2, bL_1199]
theorem lS_31 (i : Nat) (hs : sc.1 ≤ 3072) (hi : i + 6 ≤ sc.1) (h : gR c m) : lawS sc w 1101 i c m := by
  obtain ⟨c', m', v, q1, q2, g⟩ := p_game (sc := sc) (w := w) 39 (sc.2 (i + 1)) h
  have q1 : ∀ m0, cc sc 59 38 [.ref 0, .int (sc.2 (i + 1))] (hp c w m0) = some (some (.int v), hp c' w m0) := q1
  have q2 : ∀ c0, cc sc 59 285 [.ref 138, .int (sc.2 (i + 1))] (hp c0 w m) = some (some (.int v), hp c0 w m') := q2
  refine ⟨c', w, m', g, ?_⟩
  unfold hLaw
  conv => lhs; rw [bL_1101]
  simp (disch := first | assumption | omega | decide | (simp only [ma_wd0, ma_wdi, ma_wdr, ma_wdl, ma_wdn] <;> omega)) only [↓reduceIte, evK, evL, evS, evA, evJ, Option.bind_some, Option.toList, List.cons_append, List.nil_append, nI_add, pk_mul, bI0, ite_not, ev_rbb, up_n, up_s, up_u, pk_us, pk_un, Nat.reduceAdd, nI_ltT, nI_ltF, nI_leT, nI_leF, nI_eqT, nI_eqF, ev_sci, ce_LH_game, q1, ce_MO_game, q2, bL_1199]
theorem lS_32 (i : Nat) (hs : sc.1 ≤ 3072) (hi : i + 6 ≤ sc.1) (h : gR c m) : lawS sc w 1124 i c m := by
  obtain ⟨c', m', v, q1, q2, g⟩ := p_undo (sc := sc) (w := w) 39  h
  have q1 : ∀ m0, cc sc 59 39 [.ref 0] (hp c w m0) = some (some (.int v), hp c' w m0) := q1
  have q2 : ∀ c0, cc sc 59 161 [.ref 138] (hp c0 w m) = some (some (.int v), hp c0 w m') := q2
  refine ⟨c', w, m', g, ?_⟩
  unfold hLaw
  conv => lhs; rw [bL_1124]
  simp (disch := first | assumption | omega | decide | (simp only [ma_wd0, ma_wdi, ma_wdr, ma_wdl, ma_wdn] <;> omega)) only [↓reduceIte, evK, evL, evS, evA, evJ, Option.bind_some, Option.toList, List.cons_append, List.nil_append, nI_add, pk_mul, bI0, ite_not, ev_rbb, up_n, up_s, up_u, pk_us, pk_un, Nat.reduceAdd, nI_ltT, nI_ltF, nI_leT, nI_leF, nI_eqT, nI_eqF, ev_sci, ce_LH_undo, q1, ce_MO_undo, q2, bL_1199]
theorem lS_33 (i : Nat) (hs : sc.1 ≤ 3072) (hi : i + 6 ≤ sc.1) (h : gR c m) : lawS sc w 1137 i c m := by
  by_cases z : sc.2 (i + 1) = nI 0
  · obtain ⟨c', m', v, q1, q2, g⟩ := p_image (sc := sc) (w := w) 39 (nI 0) (Or.inl rfl) h
    have q1 : ∀ m0, cc sc 59 40 [.ref 0, .int (nI 0)] (hp c w m0) = some (some (.int v), hp c' w m0) := q1
    have q2 : ∀ c0, cc sc 59 286 [.ref 138, .int (nI 0)] (hp c0 w m) = some (some (.int v), hp c0 w m') := q2
    refine ⟨c', w, m', g, ?_⟩
    unfold hLaw
    conv => lhs; rw [bL_1137]
    have e0 : (sc.2 (i + 1) = nI 0) = True := eq_true z
    simp (disch := first | assumption | omega | decide | (simp only [ma_wd0, ma_wdi, ma_wdr, ma_wdl, ma_wdn] <;> omega)) only [↓reduceIte, evK, evL, evS, evA, evJ, Option.bind_some, Option.toList, List.cons_append, List.nil_append, nI_add, pk_mul, bI0, ite_not, ev_rbb, up_n, up_s, up_u, pk_us, pk_un, Nat.reduceAdd, nI_ltT, nI_ltF, nI_leT, nI_leF, nI_eqT, nI_eqF, ev_sci, e0, bL_1150, bL_1151, bL_1167, bL_1168, ce_LH_image, q1, ce_MO_image, q2, bL_1199]
  · obtain ⟨c', m', v, q1, q2, g⟩ := p_image (sc := sc) (w := w) 39 (nI 1) (Or.inr rfl) h
    have q1 : ∀ m0, cc sc 59 40 [.ref 0, .int (nI 1)] (hp c w m0) = some (some (.int v), hp c' w m0) := q1
    have q2 : ∀ c0, cc sc 59 286 [.ref 138, .int (nI 1)] (hp c0 w m) = some (some (.int v), hp c0 w m') := q2
    refine ⟨c', w, m', g, ?_⟩
    unfold hLaw
    conv => lhs; rw [bL_1137]
    have e0 : (sc.2 (i + 1) = nI 0) = False := eq_false z
    simp (disch := first | assumption | omega | decide | (simp only [ma_wd0, ma_wdi, ma_wdr, ma_wdl, ma_wdn] <;> omega)) only [↓reduceIte, evK, evL, evS, evA, evJ, Option.bind_some, Option.toList, List.cons_append, List.nil_append, nI_add, pk_mul, bI0, ite_not, ev_rbb, up_n, up_s, up_u, pk_us, pk_un, Nat.reduceAdd, nI_ltT, nI_ltF, nI_leT, nI_leF, nI_eqT, nI_eqF, ev_sci, e0, bL_1150, bL_1151, bL_1167, bL_1168, ce_LH_image, q1, ce_MO_image, q2, bL_1199]
theorem lS_34 (i : Nat) (hs : sc.1 ≤ 3072) (hi : i + 6 ≤ sc.1) (h : gR c m) : lawS sc w 1176 i c m := by
  obtain ⟨c', m', v, q1, q2, g⟩ := p_look (sc := sc) (w := w) 39 (sc.2 (i + 1)) h
  have q1 : ∀ m0, cc sc 59 41 [.ref 0, .int (sc.2 (i + 1))] (hp c w m0) = some (some (.int v), hp c' w m0) := q1
  have q2 : ∀ c0, cc sc 59 290 [.ref 138, .int (sc.2 (i + 1))] (hp c0 w m) = some (some (.int v), hp c0 w m') := q2
  refine ⟨c', w, m', g, ?_⟩
  unfold hLaw
  conv => lhs; rw [bL_1176]
  simp (disch := first | assumption | omega | decide | (simp only [ma_wd0, ma_wdi, ma_wdr, ma_wdl, ma_wdn] <;> omega)) only [↓reduceIte, evK, evL, evS, evA, evJ, Option.bind_some, Option.toList, List.cons_append, List.nil_append, nI_add, pk_mul, bI0, ite_not, ev_rbb, up_n, up_s, up_u, pk_us, pk_un, Nat.reduceAdd, nI_ltT, nI_ltF, nI_leT, nI_leF, nI_eqT, nI_eqF, ev_sci, ce_LH_look, q1, ce_MO_look, q2, bL_1199]
theorem lS_no (i : Nat) (h : gR c m) : lawS sc w 1199 i c m := by
  refine ⟨c, w, m, h, ?_⟩
  unfold hLaw
  conv => lhs; rw [bL_1199]
  simp (disch := first | assumption | omega | decide | (simp only [ma_wd0, ma_wdi, ma_wdr, ma_wdl, ma_wdn] <;> omega)) only [↓reduceIte, evK, evL, evS, evA, evJ, Option.bind_some, Option.toList, List.cons_append, List.nil_append, nI_add, pk_mul, bI0, ite_not, ev_rbb, up_n, up_s, up_u, pk_us, pk_un, Nat.reduceAdd, nI_ltT, nI_ltF, nI_leT, nI_leF, nI_eqT, nI_eqF, nI_add]
theorem lS_all (i j : Nat) (hs : sc.1 ≤ 3072) (hi : i + 6 ≤ sc.1) (h : gR c m) (hj : j < 64) : ∃ t, lawS sc w t i c m ∧ swc sc 60 296 [some (.ref 4096), some (.ref 0), some (.ref 138), some (.int (nI i))] [] (hp c w m) (nI j) 1199 0 [188, 211, 234, 267, 300, 343, 376, 399, 422, 445, 508, 531, 554, 577, 610, 643, 676, 709, 742, 775, 808, 841, 864, 877, 910, 933, 956, 979, 1012, 1035, 1068, 1101, 1124, 1137, 1176] = hLaw sc t i (hp c w m) := by
  rcases Nat.lt_or_ge j 35 with z | z
  · have : j = 0 ∨ j = 1 ∨ j = 2 ∨ j = 3 ∨ j = 4 ∨ j = 5 ∨ j = 6 ∨ j = 7 ∨ j = 8 ∨ j = 9 ∨ j = 10 ∨ j = 11 ∨ j = 12 ∨ j = 13 ∨ j = 14 ∨ j = 15 ∨ j = 16 ∨ j = 17 ∨ j = 18 ∨ j = 19 ∨ j = 20 ∨ j = 21 ∨ j = 22 ∨ j = 23 ∨ j = 24 ∨ j = 25 ∨ j = 26 ∨ j = 27 ∨ j = 28 ∨ j = 29 ∨ j = 30 ∨ j = 31 ∨ j = 32 ∨ j = 33 ∨ j = 34 := by omega
    rcases this with rfl | rfl | rfl | rfl | rfl | rfl | rfl | rfl | rfl | rfl | rfl | rfl | rfl | rfl | rfl | rfl | rfl | rfl | rfl | rfl | rfl | rfl | rfl | rfl | rfl | rfl | rfl | rfl | rfl | rfl | rfl | rfl | rfl | rfl | rfl
    · exact ⟨188, lS_0 i hs hi h, swc_in _ _ _ 0 0 _ rfl rfl (by decide)⟩
    · exact ⟨211, lS_1 i hs hi h, swc_in _ _ _ 0 1 _ rfl rfl (by decide)⟩
    · exact ⟨234, lS_2 i hs hi h, swc_in _ _ _ 0 2 _ rfl rfl (by decide)⟩
    · exact ⟨267, lS_3 i hs hi h, swc_in _ _ _ 0 3 _ rfl rfl (by decide)⟩
    · exact ⟨300, lS_4 i hs hi h, swc_in _ _ _ 0 4 _ rfl rfl (by decide)⟩
    · exact ⟨343, lS_5 i hs hi h, swc_in _ _ _ 0 5 _ rfl rfl (by decide)⟩
    · exact ⟨376, lS_6 i hs hi h, swc_in _ _ _ 0 6 _ rfl rfl (by decide)⟩
    · exact ⟨399, lS_7 i hs hi h, swc_in _ _ _ 0 7 _ rfl rfl (by decide)⟩
    · exact ⟨422, lS_8 i hs hi h, swc_in _ _ _ 0 8 _ rfl rfl (by decide)⟩
    · exact ⟨445, lS_9 i hs hi h, swc_in _ _ _ 0 9 _ rfl rfl (by decide)⟩
    · exact ⟨508, lS_10 i hs hi h, swc_in _ _ _ 0 10 _ rfl rfl (by decide)⟩
    · exact ⟨531, lS_11 i hs hi h, swc_in _ _ _ 0 11 _ rfl rfl (by decide)⟩
    · exact ⟨554, lS_12 i hs hi h, swc_in _ _ _ 0 12 _ rfl rfl (by decide)⟩
    · exact ⟨577, lS_13 i hs hi h, swc_in _ _ _ 0 13 _ rfl rfl (by decide)⟩
    · exact ⟨610, lS_14 i hs hi h, swc_in _ _ _ 0 14 _ rfl rfl (by decide)⟩
    · exact ⟨643, lS_15 i hs hi h, swc_in _ _ _ 0 15 _ rfl rfl (by decide)⟩
    · exact ⟨676, lS_16 i hs hi h, swc_in _ _ _ 0 16 _ rfl rfl (by decide)⟩
    · exact ⟨709, lS_17 i hs hi h, swc_in _ _ _ 0 17 _ rfl rfl (by decide)⟩
    · exact ⟨742, lS_18 i hs hi h, swc_in _ _ _ 0 18 _ rfl rfl (by decide)⟩
    · exact ⟨775, lS_19 i hs hi h, swc_in _ _ _ 0 19 _ rfl rfl (by decide)⟩
    · exact ⟨808, lS_20 i hs hi h, swc_in _ _ _ 0 20 _ rfl rfl (by decide)⟩
    · exact ⟨841, lS_21 i hs hi h, swc_in _ _ _ 0 21 _ rfl rfl (by decide)⟩
    · exact ⟨864, lS_22 i hs hi h, swc_in _ _ _ 0 22 _ rfl rfl (by decide)⟩
    · exact ⟨877, lS_23 i hs hi h, swc_in _ _ _ 0 23 _ rfl rfl (by decide)⟩
    · exact ⟨910, lS_24 i hs hi h, swc_in _ _ _ 0 24 _ rfl rfl (by decide)⟩
    · exact ⟨933, lS_25 i hs hi h, swc_in _ _ _ 0 25 _ rfl rfl (by decide)⟩
    · exact ⟨956, lS_26 i hs hi h, swc_in _ _ _ 0 26 _ rfl rfl (by decide)⟩
    · exact ⟨979, lS_27 i hs hi h, swc_in _ _ _ 0 27 _ rfl rfl (by decide)⟩
    · exact ⟨1012, lS_28 i hs hi h, swc_in _ _ _ 0 28 _ rfl rfl (by decide)⟩
    · exact ⟨1035, lS_29 i hs hi h, swc_in _ _ _ 0 29 _ rfl rfl (by decide)⟩
    · exact ⟨1068, lS_30 i hs hi h, swc_in _ _ _ 0 30 _ rfl rfl (by decide)⟩
    · exact ⟨1101, lS_31 i hs hi h, swc_in _ _ _ 0 31 _ rfl rfl (by decide)⟩
    · exact ⟨1124, lS_32 i hs hi h, swc_in _ _ _ 0 32 _ rfl rfl (by decide)⟩
    · exact ⟨1137, lS_33 i hs hi h, swc_in _ _ _ 0 33 _ rfl rfl (by decide)⟩
    · exact ⟨1176, lS_34 i hs hi h, swc_in _ _ _ 0 34 _ rfl rfl (by decide)⟩
  · exact ⟨1199, lS_no i h, swc_out _ _ _ 0 (fun k hk e => by have hk : k < 35 := hk; rw [nI_eq (by omega) (by omega)] at e; omega)⟩
theorem law_loop (hs : sc.1 ≤ 3072) : ∀ (k i : Nat) (c m : Nat → Nat → Int32) (w : Nat → Int64), sc.1 < i + k → i ≤ 4000 → gR c m → ∃ c' w' m', hLaw sc 18 i (hp c w m) = some (some (.int (nI 1)), hp c' w' m') := by
  intro k
  induction k using Nat.strongRecOn with
  | ind k ih =>
  intro i c m w hk hi h
  by_cases z : i + 6 ≤ sc.1
  · obtain ⟨j, hj, ej⟩ := pk_andE (sc.2 i) (m := nI 63) 6 (by decide +kernel)
    obtain ⟨t, ⟨c', w', m', g, e⟩, e2⟩ := lS_all (sc := sc) (w := w) i j hs z h (by omega)
    have hk6 : 6 ≤ k := by omega
    obtain ⟨c2, w2, m2, e3⟩ := ih (k - 6) (by omega) (i + 6) c' m' w' (by omega) (by omega) g
    refine ⟨c2, w2, m2, ?_⟩
    rw [← e3, ← e, ← e2]
    have a6 : nI sc.1 - nI 6 = nI (sc.1 - 6) := pk_sub (by omega)
    unfold hLaw
    conv => lhs; rw [bL_18]
    simp (disch := first | assumption | omega | decide | (simp only [ma_wd0, ma_wdi, ma_wdr, ma_wdl, ma_wdn] <;> omega)) only [↓reduceIte, evK, evL, evS, evA, evJ, Option.bind_some, Option.toList, List.cons_append, List.nil_append, nI_add, pk_mul, bI0, ite_not, ev_rbb, up_n, up_s, up_u, pk_us, pk_un, Nat.reduceAdd, nI_ltT, nI_ltF, nI_leT, nI_leF, nI_eqT, nI_eqF, ev_scl, a6, ev_sci, ej, ev_sw]
  · refine ⟨c, w, m, ?_⟩
    have a6 : (nI i ≤ nI sc.1 - nI 6) = False := by
      apply eq_false
      rw [Int32.le_iff_toInt_le, Int32_sub_toInt (by rw [nI_toInt (by omega)]; omega) (by rw [nI_toInt (by omega)]; omega), nI_toInt (by omega), nI_toInt (by omega), nI_toInt (by omega)]
      omega
    unfold hLaw
    rw [bL_18]
    simp (disch := first | assumption | omega | decide | (simp only [ma_wd0, ma_wdi, ma_wdr, ma_wdl, ma_wdn] <;> omega)) only [↓reduceIte, evK, evL, evS, evA, evJ, Option.bind_some, Option.toList, List.cons_append, List.nil_append, nI_add, pk_mul, bI0, ite_not, ev_rbb, up_n, up_s, up_u, pk_us, pk_un, Nat.reduceAdd, nI_ltT, nI_ltF, nI_leT, nI_leF, nI_eqT, nI_eqF, ev_scl, a6, bL_1205, gfC, gfM, ev_r0, ev_r1, eq_self, n_m1e, true_and, and_true, false_and, and_false, and_self, not_true_eq_false, not_false_eq_true]
end LW2
