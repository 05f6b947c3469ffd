/-! ===== texts: the words of the calls (printed) ===== -/
def jq_len : ma_M := (⟨"java/lang/String", "length", "()I"⟩, prog_18_method_54_code, 1, (Option.some FieldType.int), false)
def jq_coder : ma_M := (⟨"java/lang/String", "coder", "()B"⟩, prog_18_method_152_code, 1, (Option.some FieldType.byte), false)
def jq_lat : ma_M := (⟨"java/lang/String", "isLatin1", "()Z"⟩, prog_18_method_154_code, 1, (Option.some FieldType.boolean), false)
def jq_chr : ma_M := (⟨"java/lang/String", "charAt", "(I)C"⟩, prog_18_method_56_code, 2, (Option.some FieldType.char), false)
def jq_lchr : ma_M := (⟨"java/lang/StringLatin1", "charAt", "([BI)C"⟩, prog_19_method_2_code, 2, (Option.some FieldType.char), true)
def jq_ci : ma_M := (⟨"java/lang/String", "checkIndex", "(II)V"⟩, prog_18_method_155_code, 2, (Option.none : Option Jvm.ClassFile.FieldType), true)
def jq_pci : ma_M := (⟨"jdk/internal/util/Preconditions", "checkIndex", "(IILjava/util/function/BiFunction;)I"⟩, prog_22_method_11_code, 3, (Option.some FieldType.int), true)
def jq_io : ma_M := (⟨"java/lang/String", "indexOf", "(I)I"⟩, prog_18_method_79_code, 2, (Option.some FieldType.int), false)
def jq_io2 : ma_M := (⟨"java/lang/String", "indexOf", "(II)I"⟩, prog_18_method_80_code, 3, (Option.some FieldType.int), false)
def jq_lio : ma_M := (⟨"java/lang/StringLatin1", "indexOf", "([BIII)I"⟩, prog_19_method_22_code, 4, (Option.some FieldType.int), true)
def jq_can : ma_M := (⟨"java/lang/StringLatin1", "canEncode", "(I)Z"⟩, prog_19_method_4_code, 1, (Option.some FieldType.boolean), true)
def jq_ioc : ma_M := (⟨"java/lang/StringLatin1", "indexOfChar", "([BIII)I"⟩, prog_19_method_23_code, 6, (Option.some FieldType.int), true)
def jq_max : ma_M := (⟨"java/lang/Math", "max", "(II)I"⟩, prog_17_method_65_code, 2, (Option.some FieldType.int), true)
def jq_min : ma_M := (⟨"java/lang/Math", "min", "(II)I"⟩, prog_17_method_69_code, 2, (Option.some FieldType.int), true)
theorem jv_len : jcV pm_G jq_len := ⟨rfl, gt 710 (by decide +kernel), gt 711 (by decide +kernel)⟩
theorem jn_len : Jvm.Cond.initialized jq_len.1.cls ∈ pm_G ∧ Jvm.Cond.code jq_len.1 jq_len.2.1 jq_len.2.2.1 jq_len.2.2.2.1 ∈ pm_G ∧ (jq_len.1.cls ≠ "java/lang/invoke/MethodHandle" ∧ jq_len.1.cls ≠ "java/lang/invoke/VarHandle" ∧ (parseMethodDescriptor jq_len.1.desc).map (fun d => d.parameters.length) = some 0) ∧ jq_len.2.2.1 ≤ 80 := ⟨gt 16 (by decide +kernel), gc3 232 rfl rfl, ⟨(by decide +kernel), (by decide +kernel), (by decide +kernel)⟩, (by decide +kernel)⟩
theorem jv_coder : jcV pm_G jq_coder := ⟨rfl, gt 714 (by decide +kernel), gt 715 (by decide +kernel)⟩
theorem jn_coder : Jvm.Cond.initialized jq_coder.1.cls ∈ pm_G ∧ Jvm.Cond.code jq_coder.1 jq_coder.2.1 jq_coder.2.2.1 jq_coder.2.2.2.1 ∈ pm_G ∧ (jq_coder.1.cls ≠ "java/lang/invoke/MethodHandle" ∧ jq_coder.1.cls ≠ "java/lang/invoke/VarHandle" ∧ (parseMethodDescriptor jq_coder.1.desc).map (fun d => d.parameters.length) = some 0) ∧ jq_coder.2.2.1 ≤ 80 := ⟨gt 16 (by decide +kernel), gc3 236 rfl rfl, ⟨(by decide +kernel), (by decide +kernel), (by decide +kernel)⟩, (by decide +kernel)⟩
theorem jv_lat : jcV pm_G jq_lat := ⟨rfl, gt 724 (by decide +kernel), gt 725 (by decide +kernel)⟩
theorem jn_lat : Jvm.Cond.initialized jq_lat.1.cls ∈ pm_G ∧ Jvm.Cond.code jq_lat.1 jq_lat.2.1 jq_lat.2.2.1 jq_lat.2.2.2.1 ∈ pm_G ∧ (jq_lat.1.cls ≠ "java/lang/invoke/MethodHandle" ∧ jq_lat.1.cls ≠ "java/lang/invoke/VarHandle" ∧ (parseMethodDescriptor jq_lat.1.desc).map (fun d => d.parameters.length) = some 0) ∧ jq_lat.2.2.1 ≤ 80 := ⟨gt 16 (by decide +kernel), gc4 6 rfl rfl, ⟨(by decide +kernel), (by decide +kernel), (by decide +kernel)⟩, (by decide +kernel)⟩
theorem jv_chr : jcV pm_G jq_chr := ⟨rfl, gt 720 (by decide +kernel), gt 721 (by decide +kernel)⟩
theorem jn_chr : Jvm.Cond.initialized jq_chr.1.cls ∈ pm_G ∧ Jvm.Cond.code jq_chr.1 jq_chr.2.1 jq_chr.2.2.1 jq_chr.2.2.2.1 ∈ pm_G ∧ (jq_chr.1.cls ≠ "java/lang/invoke/MethodHandle" ∧ jq_chr.1.cls ≠ "java/lang/invoke/VarHandle" ∧ (parseMethodDescriptor jq_chr.1.desc).map (fun d => d.parameters.length) = some 1) ∧ jq_chr.2.2.1 ≤ 80 := ⟨gt 16 (by decide +kernel), gc4 2 rfl rfl, ⟨(by decide +kernel), (by decide +kernel), (by decide +kernel)⟩, (by decide +kernel)⟩
theorem js_lchr : jcS pm_G jq_lchr := gt 728 (by decide +kernel)
theorem jn_lchr : Jvm.Cond.initialized jq_lchr.1.cls ∈ pm_G ∧ Jvm.Cond.code jq_lchr.1 jq_lchr.2.1 jq_lchr.2.2.1 jq_lchr.2.2.2.1 ∈ pm_G ∧ (jq_lchr.1.cls ≠ "java/lang/invoke/MethodHandle" ∧ jq_lchr.1.cls ≠ "java/lang/invoke/VarHandle" ∧ (parseMethodDescriptor jq_lchr.1.desc).map (fun d => d.parameters.length) = some 2) ∧ jq_lchr.2.2.1 ≤ 80 := ⟨gt 17 (by decide +kernel), gc4 9 rfl rfl, ⟨(by decide +kernel), (by decide +kernel), (by decide +kernel)⟩, (by decide +kernel)⟩
theorem js_ci : jcS pm_G jq_ci := gt 731 (by decide +kernel)
theorem jn_ci : Jvm.Cond.initialized jq_ci.1.cls ∈ pm_G ∧ Jvm.Cond.code jq_ci.1 jq_ci.2.1 jq_ci.2.2.1 jq_ci.2.2.2.1 ∈ pm_G ∧ (jq_ci.1.cls ≠ "java/lang/invoke/MethodHandle" ∧ jq_ci.1.cls ≠ "java/lang/invoke/VarHandle" ∧ (parseMethodDescriptor jq_ci.1.desc).map (fun d => d.parameters.length) = some 2) ∧ jq_ci.2.2.1 ≤ 80 := ⟨gt 16 (by decide +kernel), gc4 12 rfl rfl, ⟨(by decide +kernel), (by decide +kernel), (by decide +kernel)⟩, (by decide +kernel)⟩
theorem js_pci : jcS pm_G jq_pci := gt 736 (by decide +kernel)
theorem jn_pci : Jvm.Cond.initialized jq_pci.1.cls ∈ pm_G ∧ Jvm.Cond.code jq_pci.1 jq_pci.2.1 jq_pci.2.2.1 jq_pci.2.2.2.1 ∈ pm_G ∧ (jq_pci.1.cls ≠ "java/lang/invoke/MethodHandle" ∧ jq_pci.1.cls ≠ "java/lang/invoke/VarHandle" ∧ (parseMethodDescriptor jq_pci.1.desc).map (fun d => d.parameters.length) = some 3) ∧ jq_pci.2.2.1 ≤ 80 := ⟨gt 18 (by decide +kernel), gc4 17 rfl rfl, ⟨(by decide +kernel), (by decide +kernel), (by decide +kernel)⟩, (by decide +kernel)⟩
theorem jv_io : jcV pm_G jq_io := ⟨rfl, gt 770 (by decide +kernel), gt 771 (by decide +kernel)⟩
theorem jn_io : Jvm.Cond.initialized jq_io.1.cls ∈ pm_G ∧ Jvm.Cond.code jq_io.1 jq_io.2.1 jq_io.2.2.1 jq_io.2.2.2.1 ∈ pm_G ∧ (jq_io.1.cls ≠ "java/lang/invoke/MethodHandle" ∧ jq_io.1.cls ≠ "java/lang/invoke/VarHandle" ∧ (parseMethodDescriptor jq_io.1.desc).map (fun d => d.parameters.length) = some 1) ∧ jq_io.2.2.1 ≤ 80 := ⟨gt 16 (by decide +kernel), gc4 52 rfl rfl, ⟨(by decide +kernel), (by decide +kernel), (by decide +kernel)⟩, (by decide +kernel)⟩
theorem jv_io2 : jcV pm_G jq_io2 := ⟨rfl, gt 774 (by decide +kernel), gt 775 (by decide +kernel)⟩
theorem jn_io2 : Jvm.Cond.initialized jq_io2.1.cls ∈ pm_G ∧ Jvm.Cond.code jq_io2.1 jq_io2.2.1 jq_io2.2.2.1 jq_io2.2.2.2.1 ∈ pm_G ∧ (jq_io2.1.cls ≠ "java/lang/invoke/MethodHandle" ∧ jq_io2.1.cls ≠ "java/lang/invoke/VarHandle" ∧ (parseMethodDescriptor jq_io2.1.desc).map (fun d => d.parameters.length) = some 2) ∧ jq_io2.2.2.1 ≤ 80 := ⟨gt 16 (by decide +kernel), gc4 56 rfl rfl, ⟨(by decide +kernel), (by decide +kernel), (by decide +kernel)⟩, (by decide +kernel)⟩
theorem js_lio : jcS pm_G jq_lio := gt 779 (by decide +kernel)
theorem jn_lio : Jvm.Cond.initialized jq_lio.1.cls ∈ pm_G ∧ Jvm.Cond.code jq_lio.1 jq_lio.2.1 jq_lio.2.2.1 jq_lio.2.2.2.1 ∈ pm_G ∧ (jq_lio.1.cls ≠ "java/lang/invoke/MethodHandle" ∧ jq_lio.1.cls ≠ "java/lang/invoke/VarHandle" ∧ (parseMethodDescriptor jq_lio.1.desc).map (fun d => d.parameters.length) = some 4) ∧ jq_lio.2.2.1 ≤ 80 := ⟨gt 17 (by decide +kernel), gc4 60 rfl rfl, ⟨(by decide +kernel), (by decide +kernel), (by decide +kernel)⟩, (by decide +kernel)⟩
theorem js_can : jcS pm_G jq_can := gt 782 (by decide +kernel)
theorem jn_can : Jvm.Cond.initialized jq_can.1.cls ∈ pm_G ∧ Jvm.Cond.code jq_can.1 jq_can.2.1 jq_can.2.2.1 jq_can.2.2.2.1 ∈ pm_G ∧ (jq_can.1.cls ≠ "java/lang/invoke/MethodHandle" ∧ jq_can.1.cls ≠ "java/lang/invoke/VarHandle" ∧ (parseMethodDescriptor jq_can.1.desc).map (fun d => d.parameters.length) = some 1) ∧ jq_can.2.2.1 ≤ 80 := ⟨gt 17 (by decide +kernel), gc4 63 rfl rfl, ⟨(by decide +kernel), (by decide +kernel), (by decide +kernel)⟩, (by decide +kernel)⟩
theorem js_ioc : jcS pm_G jq_ioc := gt 787 (by decide +kernel)
theorem jn_ioc : Jvm.Cond.initialized jq_ioc.1.cls ∈ pm_G ∧ Jvm.Cond.code jq_ioc.1 jq_ioc.2.1 jq_ioc.2.2.1 jq_ioc.2.2.2.1 ∈ pm_G ∧ (jq_ioc.1.cls ≠ "java/lang/invoke/MethodHandle" ∧ jq_ioc.1.cls ≠ "java/lang/invoke/VarHandle" ∧ (parseMethodDescriptor jq_ioc.1.desc).map (fun d => d.parameters.length) = some 4) ∧ jq_ioc.2.2.1 ≤ 80 := ⟨gt 17 (by decide +kernel), gc4 68 rfl rfl, ⟨(by decide +kernel), (by decide +kernel), (by decide +kernel)⟩, (by decide +kernel)⟩
theorem js_max : jcS pm_G jq_max := gt 672 (by decide +kernel)
theorem jn_max : Jvm.Cond.initialized jq_max.1.cls ∈ pm_G ∧ Jvm.Cond.code jq_max.1 jq_max.2.1 jq_max.2.2.1 jq_max.2.2.2.1 ∈ pm_G ∧ (jq_max.1.cls ≠ "java/lang/invoke/MethodHandle" ∧ jq_max.1.cls ≠ "java/lang/invoke/VarHandle" ∧ (parseMethodDescriptor jq_max.1.desc).map (fun d => d.parameters.length) = some 2) ∧ jq_max.2.2.1 ≤ 80 := ⟨gt 15 (by decide +kernel), gc3 193 rfl rfl, ⟨(by decide +kernel), (by decide +kernel), (by decide +kernel)⟩, (by decide +kernel)⟩
theorem js_min : jcS pm_G jq_min := gt 559 (by decide +kernel)
theorem jn_min : Jvm.Cond.initialized jq_min.1.cls ∈ pm_G ∧ Jvm.Cond.code jq_min.1 jq_min.2.1 jq_min.2.2.1 jq_min.2.2.2.1 ∈ pm_G ∧ (jq_min.1.cls ≠ "java/lang/invoke/MethodHandle" ∧ jq_min.1.cls ≠ "java/lang/invoke/VarHandle" ∧ (parseMethodDescriptor jq_min.1.desc).map (fun d => d.parameters.length) = some 2) ∧ jq_min.2.2.1 ≤ 80 := ⟨gt 15 (by decide +kernel), gc3 80 rfl rfl, ⟨(by decide +kernel), (by decide +kernel), (by decide +kernel)⟩, (by decide +kernel)⟩
theorem jc_335_coder : jc pm_G "java/lang/String" 335 jq_coder 0 := ⟨gt 713 (by decide +kernel), jn_coder⟩
theorem jc_492_lat : jc pm_G "java/lang/String" 492 jq_lat 0 := ⟨gt 723 (by decide +kernel), jn_lat⟩
theorem jc_495_lchr : jc pm_G "java/lang/String" 495 jq_lchr 2 := ⟨gt 727 (by decide +kernel), jn_lchr⟩
theorem jc_9_ci : jc pm_G "java/lang/StringLatin1" 9 jq_ci 2 := ⟨gt 730 (by decide +kernel), jn_ci⟩
theorem jc_1059_pci : jc pm_G "java/lang/String" 1059 jq_pci 3 := ⟨gt 735 (by decide +kernel), jn_pci⟩
theorem jc_633_io2 : jc pm_G "java/lang/String" 633 jq_io2 2 := ⟨gt 773 (by decide +kernel), jn_io2⟩
theorem jc_505_len : jc pm_G "java/lang/String" 505 jq_len 0 := ⟨gt 777 (by decide +kernel), jn_len⟩
theorem jc_637_lio : jc pm_G "java/lang/String" 637 jq_lio 4 := ⟨gt 778 (by decide +kernel), jn_lio⟩
theorem jc_88_can : jc pm_G "java/lang/StringLatin1" 88 jq_can 1 := ⟨gt 781 (by decide +kernel), jn_can⟩
theorem jc_92_max : jc pm_G "java/lang/StringLatin1" 92 jq_max 2 := ⟨gt 784 (by decide +kernel), jn_max⟩
theorem jc_38_min : jc pm_G "java/lang/StringLatin1" 38 jq_min 2 := ⟨gt 785 (by decide +kernel), jn_min⟩
theorem jc_95_ioc : jc pm_G "java/lang/StringLatin1" 95 jq_ioc 4 := ⟨gt 786 (by decide +kernel), jn_ioc⟩
theorem jc_75_len : jc pm_G "LetHorizon$Tokens" 75 jq_len 0 := ⟨gt 709 (by decide +kernel), jn_len⟩
theorem jc_78_chr : jc pm_G "LetHorizon$Tokens" 78 jq_chr 1 := ⟨gt 719 (by decide +kernel), jn_chr⟩
theorem jc_68_io : jc pm_G "LetHorizon$Tokens" 68 jq_io 1 := ⟨gt 769 (by decide +kernel), jn_io⟩
theorem jf_compact : Jvm.Cond.fieldLink "java/lang/String" 38 "java/lang/String" "COMPACT_STRINGS" "Z" ∈ pm_G := gt 717 (by decide +kernel)
theorem jf_sioobe : Jvm.Cond.fieldLink "java/lang/String" 1053 "jdk/internal/util/Preconditions" "SIOOBE_FORMATTER" "Ljava/util/function/BiFunction;" ∈ pm_G := gt 733 (by decide +kernel)
theorem jf_value : Jvm.Cond.fieldLink "java/lang/String" 9 "java/lang/String" "value" "[B" ∈ pm_G := gt 1910 (by decide +kernel)
theorem jf_coder : Jvm.Cond.fieldLink "java/lang/String" 15 "java/lang/String" "coder" "B" ∈ pm_G := gt 1911 (by decide +kernel)
