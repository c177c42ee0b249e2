theorem kw1716 : Jvm.Cond.fieldLink "PlantKeeperModel" (462 : Nat) "PlantKeeperModel" "blocks" "I" ∈ zk_BW := zk_inT 1716 (by decide +kernel) rfl
theorem kw1738 : Jvm.Cond.fieldLink "PlantKeeperModel" (590 : Nat) "PlantKeeperModel" "total" "I" ∈ zk_BW := zk_inT 1738 (by decide +kernel) rfl
theorem kw1739 : Jvm.Cond.fieldLink "PlantKeeperModel" (652 : Nat) "PlantKeeperModel" "code" "I" ∈ zk_BW := zk_inT 1739 (by decide +kernel) rfl
theorem kw1756 : Jvm.Cond.fieldLink "PlantKeeperModel" (832 : Nat) "PlantKeeperModel" "now" "I" ∈ zk_BW := zk_inT 1756 (by decide +kernel) rfl
theorem kw1757 : Jvm.Cond.fieldLink "PlantKeeperModel" (817 : Nat) "PlantKeeperModel" "steps" "I" ∈ zk_BW := zk_inT 1757 (by decide +kernel) rfl
theorem kw1761 : Jvm.Cond.fieldLink "PlantKeeperModel" (844 : Nat) "PlantKeeperModel" "taped" "I" ∈ zk_BW := zk_inT 1761 (by decide +kernel) rfl
theorem kw1763 : Jvm.Cond.fieldLink "PlantKeeperModel" (856 : Nat) "PlantKeeperModel" "loadFault" "I" ∈ zk_BW := zk_inT 1763 (by decide +kernel) rfl
theorem kw1765 : Jvm.Cond.fieldLink "PlantKeeperModel" (874 : Nat) "PlantKeeperModel" "has" "Z" ∈ zk_BW := zk_inT 1765 (by decide +kernel) rfl
theorem kw1767 : Jvm.Cond.fieldLink "PlantKeeperModel" (877 : Nat) "PlantKeeperModel" "scans" "I" ∈ zk_BW := zk_inT 1767 (by decide +kernel) rfl
theorem kw1768 : Jvm.Cond.fieldLink "PlantKeeperModel" (880 : Nat) "PlantKeeperModel" "over" "I" ∈ zk_BW := zk_inT 1768 (by decide +kernel) rfl
theorem kw1769 : Jvm.Cond.fieldLink "PlantKeeperModel" (892 : Nat) "PlantKeeperModel" "halted" "Z" ∈ zk_BW := zk_inT 1769 (by decide +kernel) rfl
theorem kw1770 : Jvm.Cond.fieldLink "PlantKeeperModel" (937 : Nat) "PlantKeeperModel" "seen" "I" ∈ zk_BW := zk_inT 1770 (by decide +kernel) rfl
theorem kw1771 : Jvm.Cond.fieldLink "PlantKeeperModel" (956 : Nat) "PlantKeeperModel" "outSize" "I" ∈ zk_BW := zk_inT 1771 (by decide +kernel) rfl
theorem kw1989 : Jvm.Cond.methodLink "PlantKeeperModel" (850 : Nat) ({ cls := "PlantKeeperModel", name := "useTape", desc := "()I" } : Jvm.MethodName) ∈ zk_BW := zk_inT 1989 (by decide +kernel) rfl
theorem kw1991 : Jvm.Cond.instanceMethod ({ cls := "PlantKeeperModel", name := "useTape", desc := "()I" } : Jvm.MethodName) ∈ zk_BW := zk_inT 1991 (by decide +kernel) rfl
theorem kw1992 : Jvm.Cond.code ({ cls := "PlantKeeperModel", name := "useTape", desc := "()I" } : Jvm.MethodName) prog_14_method_164_code (2 : Nat) (Option.some FieldType.int) ∈ zk_BW := zk_inT 1992 (by decide +kernel) rfl
theorem kw2567 : Jvm.Cond.methodLink "PlantKeeperModel" (803 : Nat) ({ cls := "PlantKeeperModel", name := "narrow", desc := "(I)I" } : Jvm.MethodName) ∈ zk_BW := zk_inT 2567 (by decide +kernel) rfl
theorem kw2568 : Jvm.Cond.static ({ cls := "PlantKeeperModel", name := "narrow", desc := "(I)I" } : Jvm.MethodName) ∈ zk_BW := zk_inT 2568 (by decide +kernel) rfl
theorem kw2569 : Jvm.Cond.code ({ cls := "PlantKeeperModel", name := "narrow", desc := "(I)I" } : Jvm.MethodName) prog_14_method_149_code (2 : Nat) (Option.some FieldType.int) ∈ zk_BW := zk_inT 2569 (by decide +kernel) rfl
theorem kw2570 : Jvm.Cond.constant "PlantKeeperModel" (801 : Nat) (65535 : Int32) ∈ zk_BW := zk_inT 2570 (by decide +kernel) rfl
theorem kw2571 : Jvm.Cond.constant "PlantKeeperModel" (802 : Nat) (65536 : Int32) ∈ zk_BW := zk_inT 2571 (by decide +kernel) rfl
theorem kw2817 : Jvm.Cond.instanceMethod ({ cls := "PlantKeeperModel", name := "watched", desc := "()I" } : Jvm.MethodName) ∈ zk_BW := zk_inT 2817 (by decide +kernel) rfl
theorem kw2818 : Jvm.Cond.selects "PlantKeeperModel" ({ cls := "PlantKeeperModel", name := "watched", desc := "()I" } : Jvm.MethodName) ({ cls := "PlantKeeperModel", name := "watched", desc := "()I" } : Jvm.MethodName) ∈ zk_BW := zk_inT 2818 (by decide +kernel) rfl
theorem kw2819 : Jvm.Cond.code ({ cls := "PlantKeeperModel", name := "watched", desc := "()I" } : Jvm.MethodName) prog_14_method_187_code (1 : Nat) (Option.some FieldType.int) ∈ zk_BW := zk_inT 2819 (by decide +kernel) rfl
theorem kw2821 : Jvm.Cond.instanceMethod ({ cls := "PlantKeeperModel", name := "frame", desc := "()I" } : Jvm.MethodName) ∈ zk_BW := zk_inT 2821 (by decide +kernel) rfl
theorem kw2822 : Jvm.Cond.selects "PlantKeeperModel" ({ cls := "PlantKeeperModel", name := "frame", desc := "()I" } : Jvm.MethodName) ({ cls := "PlantKeeperModel", name := "frame", desc := "()I" } : Jvm.MethodName) ∈ zk_BW := zk_inT 2822 (by decide +kernel) rfl
theorem kw2823 : Jvm.Cond.code ({ cls := "PlantKeeperModel", name := "frame", desc := "()I" } : Jvm.MethodName) prog_14_method_192_code (6 : Nat) (Option.some FieldType.int) ∈ zk_BW := zk_inT 2823 (by decide +kernel) rfl
theorem kw2824 : Jvm.Cond.methodLink "PlantKeeperModel" (953 : Nat) ({ cls := "PlantKeeperModel", name := "heard", desc := "(I)I" } : Jvm.MethodName) ∈ zk_BW := zk_inT 2824 (by decide +kernel) rfl
theorem kw2826 : Jvm.Cond.instanceMethod ({ cls := "PlantKeeperModel", name := "heard", desc := "(I)I" } : Jvm.MethodName) ∈ zk_BW := zk_inT 2826 (by decide +kernel) rfl
theorem kw2827 : Jvm.Cond.code ({ cls := "PlantKeeperModel", name := "heard", desc := "(I)I" } : Jvm.MethodName) prog_14_method_189_code (2 : Nat) (Option.some FieldType.int) ∈ zk_BW := zk_inT 2827 (by decide +kernel) rfl
theorem kw2828 : Jvm.Cond.methodLink "PlantKeeperModel" (959 : Nat) ({ cls := "PlantKeeperModel", name := "summed", desc := "(II)I" } : Jvm.MethodName) ∈ zk_BW := zk_inT 2828 (by decide +kernel) rfl
theorem kw2829 : Jvm.Cond.static ({ cls := "PlantKeeperModel", name := "summed", desc := "(II)I" } : Jvm.MethodName) ∈ zk_BW := zk_inT 2829 (by decide +kernel) rfl
theorem kw2830 : Jvm.Cond.code ({ cls := "PlantKeeperModel", name := "summed", desc := "(II)I" } : Jvm.MethodName) prog_14_method_188_code (4 : Nat) (Option.some FieldType.int) ∈ zk_BW := zk_inT 2830 (by decide +kernel) rfl
theorem kw2831 : Jvm.Cond.constant "PlantKeeperModel" (952 : Nat) (40961 : Int32) ∈ zk_BW := zk_inT 2831 (by decide +kernel) rfl
theorem kw2832 : Jvm.Cond.methodLink "PlantKeeperModel" (962 : Nat) ({ cls := "PlantKeeperModel", name := "refusal", desc := "(II)I" } : Jvm.MethodName) ∈ zk_BW := zk_inT 2832 (by decide +kernel) rfl
theorem kw2834 : Jvm.Cond.instanceMethod ({ cls := "PlantKeeperModel", name := "refusal", desc := "(II)I" } : Jvm.MethodName) ∈ zk_BW := zk_inT 2834 (by decide +kernel) rfl
theorem kw2835 : Jvm.Cond.code ({ cls := "PlantKeeperModel", name := "refusal", desc := "(II)I" } : Jvm.MethodName) prog_14_method_194_code (5 : Nat) (Option.some FieldType.int) ∈ zk_BW := zk_inT 2835 (by decide +kernel) rfl
theorem kw2836 : Jvm.Cond.methodLink "PlantKeeperModel" (971 : Nat) ({ cls := "PlantKeeperModel", name := "dataTwo", desc := "(I)I" } : Jvm.MethodName) ∈ zk_BW := zk_inT 2836 (by decide +kernel) rfl
theorem kw2838 : Jvm.Cond.instanceMethod ({ cls := "PlantKeeperModel", name := "dataTwo", desc := "(I)I" } : Jvm.MethodName) ∈ zk_BW := zk_inT 2838 (by decide +kernel) rfl
theorem kw2839 : Jvm.Cond.code ({ cls := "PlantKeeperModel", name := "dataTwo", desc := "(I)I" } : Jvm.MethodName) prog_14_method_190_code (2 : Nat) (Option.some FieldType.int) ∈ zk_BW := zk_inT 2839 (by decide +kernel) rfl
theorem kw2840 : Jvm.Cond.constant "PlantKeeperModel" (974 : Nat) (65280 : Int32) ∈ zk_BW := zk_inT 2840 (by decide +kernel) rfl
theorem kw2841 : Jvm.Cond.methodLink "PlantKeeperModel" (975 : Nat) ({ cls := "PlantKeeperModel", name := "tableSize", desc := "(I)I" } : Jvm.MethodName) ∈ zk_BW := zk_inT 2841 (by decide +kernel) rfl
theorem kw2842 : Jvm.Cond.static ({ cls := "PlantKeeperModel", name := "tableSize", desc := "(I)I" } : Jvm.MethodName) ∈ zk_BW := zk_inT 2842 (by decide +kernel) rfl
theorem kw2843 : Jvm.Cond.code ({ cls := "PlantKeeperModel", name := "tableSize", desc := "(I)I" } : Jvm.MethodName) prog_14_method_193_code (1 : Nat) (Option.some FieldType.int) ∈ zk_BW := zk_inT 2843 (by decide +kernel) rfl
theorem kw2844 : Jvm.Cond.methodLink "PlantKeeperModel" (965 : Nat) ({ cls := "PlantKeeperModel", name := "obey", desc := "(I)V" } : Jvm.MethodName) ∈ zk_BW := zk_inT 2844 (by decide +kernel) rfl
theorem kw2846 : Jvm.Cond.instanceMethod ({ cls := "PlantKeeperModel", name := "obey", desc := "(I)V" } : Jvm.MethodName) ∈ zk_BW := zk_inT 2846 (by decide +kernel) rfl
theorem kw2847 : Jvm.Cond.code ({ cls := "PlantKeeperModel", name := "obey", desc := "(I)V" } : Jvm.MethodName) prog_14_method_195_code (5 : Nat) (Option.none : Option FieldType) ∈ zk_BW := zk_inT 2847 (by decide +kernel) rfl
theorem kw2848 : Jvm.Cond.methodLink "PlantKeeperModel" (968 : Nat) ({ cls := "PlantKeeperModel", name := "reply", desc := "(II)V" } : Jvm.MethodName) ∈ zk_BW := zk_inT 2848 (by decide +kernel) rfl
theorem kw2850 : Jvm.Cond.instanceMethod ({ cls := "PlantKeeperModel", name := "reply", desc := "(II)V" } : Jvm.MethodName) ∈ zk_BW := zk_inT 2850 (by decide +kernel) rfl
theorem kw2851 : Jvm.Cond.code ({ cls := "PlantKeeperModel", name := "reply", desc := "(II)V" } : Jvm.MethodName) prog_14_method_197_code (8 : Nat) (Option.none : Option FieldType) ∈ zk_BW := zk_inT 2851 (by decide +kernel) rfl
theorem kw2852 : Jvm.Cond.methodLink "PlantKeeperModel" (978 : Nat) ({ cls := "PlantKeeperModel", name := "answer", desc := "(I)V" } : Jvm.MethodName) ∈ zk_BW := zk_inT 2852 (by decide +kernel) rfl
theorem kw2854 : Jvm.Cond.instanceMethod ({ cls := "PlantKeeperModel", name := "answer", desc := "(I)V" } : Jvm.MethodName) ∈ zk_BW := zk_inT 2854 (by decide +kernel) rfl
theorem kw2855 : Jvm.Cond.code ({ cls := "PlantKeeperModel", name := "answer", desc := "(I)V" } : Jvm.MethodName) prog_14_method_191_code (2 : Nat) (Option.none : Option FieldType) ∈ zk_BW := zk_inT 2855 (by decide +kernel) rfl
theorem kw2856 : Jvm.Cond.methodLink "PlantKeeperModel" (981 : Nat) ({ cls := "PlantKeeperModel", name := "told", desc := "(II)I" } : Jvm.MethodName) ∈ zk_BW := zk_inT 2856 (by decide +kernel) rfl
theorem kw2858 : Jvm.Cond.instanceMethod ({ cls := "PlantKeeperModel", name := "told", desc := "(II)I" } : Jvm.MethodName) ∈ zk_BW := zk_inT 2858 (by decide +kernel) rfl
theorem kw2859 : Jvm.Cond.code ({ cls := "PlantKeeperModel", name := "told", desc := "(II)I" } : Jvm.MethodName) prog_14_method_196_code (3 : Nat) (Option.some FieldType.int) ∈ zk_BW := zk_inT 2859 (by decide +kernel) rfl
theorem kw2861 : Jvm.Cond.instanceMethod ({ cls := "PlantKeeperModel", name := "station", desc := "(I)I" } : Jvm.MethodName) ∈ zk_BW := zk_inT 2861 (by decide +kernel) rfl
theorem kw2862 : Jvm.Cond.selects "PlantKeeperModel" ({ cls := "PlantKeeperModel", name := "station", desc := "(I)I" } : Jvm.MethodName) ({ cls := "PlantKeeperModel", name := "station", desc := "(I)I" } : Jvm.MethodName) ∈ zk_BW := zk_inT 2862 (by decide +kernel) rfl
theorem kw2863 : Jvm.Cond.code ({ cls := "PlantKeeperModel", name := "station", desc := "(I)I" } : Jvm.MethodName) prog_14_method_198_code (3 : Nat) (Option.some FieldType.int) ∈ zk_BW := zk_inT 2863 (by decide +kernel) rfl
theorem kw2865 : Jvm.Cond.instanceMethod ({ cls := "PlantKeeperModel", name := "byteAt", desc := "(I)I" } : Jvm.MethodName) ∈ zk_BW := zk_inT 2865 (by decide +kernel) rfl
theorem kw2866 : Jvm.Cond.selects "PlantKeeperModel" ({ cls := "PlantKeeperModel", name := "byteAt", desc := "(I)I" } : Jvm.MethodName) ({ cls := "PlantKeeperModel", name := "byteAt", desc := "(I)I" } : Jvm.MethodName) ∈ zk_BW := zk_inT 2866 (by decide +kernel) rfl
theorem kw2867 : Jvm.Cond.code ({ cls := "PlantKeeperModel", name := "byteAt", desc := "(I)I" } : Jvm.MethodName) prog_14_method_199_code (2 : Nat) (Option.some FieldType.int) ∈ zk_BW := zk_inT 2867 (by decide +kernel) rfl
theorem kw2869 : Jvm.Cond.instanceMethod ({ cls := "PlantKeeperModel", name := "count", desc := "(I)I" } : Jvm.MethodName) ∈ zk_BW := zk_inT 2869 (by decide +kernel) rfl
theorem kw2870 : Jvm.Cond.selects "PlantKeeperModel" ({ cls := "PlantKeeperModel", name := "count", desc := "(I)I" } : Jvm.MethodName) ({ cls := "PlantKeeperModel", name := "count", desc := "(I)I" } : Jvm.MethodName) ∈ zk_BW := zk_inT 2870 (by decide +kernel) rfl
theorem kw2871 : Jvm.Cond.code ({ cls := "PlantKeeperModel", name := "count", desc := "(I)I" } : Jvm.MethodName) prog_14_method_200_code (2 : Nat) (Option.some FieldType.int) ∈ zk_BW := zk_inT 2871 (by decide +kernel) rfl
abbrev kc_Mo_answer : ByteArray := prog_14_method_191_code
def km_Mo_answer : zk_MT := (⟨"PlantKeeperModel", "answer", "(I)V"⟩, kc_Mo_answer, 2, none, 1)
theorem ku_Mo_answer : zk_My km_Mo_answer := ⟨kw2855, kw17, by decide, by decide, by decide, by decide +kernel⟩
theorem kv_Mo_answer : zk_Mv km_Mo_answer := ⟨kw2854, zk_inS 311 (q := (⟨"PlantKeeperModel", "answer", "(I)V"⟩, 96)) (by decide +kernel)⟩
abbrev kc_Mo_byteAt : ByteArray := prog_14_method_199_code
def km_Mo_byteAt : zk_MT := (⟨"PlantKeeperModel", "byteAt", "(I)I"⟩, kc_Mo_byteAt, 2, some .int, 1)
theorem ku_Mo_byteAt : zk_My km_Mo_byteAt := ⟨kw2867, kw17, by decide, by decide, by decide, by decide +kernel⟩
theorem kv_Mo_byteAt : zk_Mv km_Mo_byteAt := ⟨kw2865, kw2866⟩
abbrev kc_Mo_count : ByteArray := prog_14_method_200_code
def km_Mo_count : zk_MT := (⟨"PlantKeeperModel", "count", "(I)I"⟩, kc_Mo_count, 2, some .int, 1)
theorem ku_Mo_count : zk_My km_Mo_count := ⟨kw2871, kw17, by decide, by decide, by decide, by decide +kernel⟩
theorem kv_Mo_count : zk_Mv km_Mo_count := ⟨kw2869, kw2870⟩
abbrev kc_Mo_dataTwo : ByteArray := prog_14_method_190_code
def km_Mo_dataTwo : zk_MT := (⟨"PlantKeeperModel", "dataTwo", "(I)I"⟩, kc_Mo_dataTwo, 2, some .int, 1)
theorem ku_Mo_dataTwo : zk_My km_Mo_dataTwo := ⟨kw2839, kw17, by decide, by decide, by decide, by decide +kernel⟩
theorem kv_Mo_dataTwo : zk_Mv km_Mo_dataTwo := ⟨kw2838, zk_inS 308 (q := (⟨"PlantKeeperModel", "dataTwo", "(I)I"⟩, 96)) (by decide +kernel)⟩
abbrev kc_Mo_frame : ByteArray := prog_14_method_192_code
def km_Mo_frame : zk_MT := (⟨"PlantKeeperModel", "frame", "()I"⟩, kc_Mo_frame, 6, some .int, 0)
theorem ku_Mo_frame : zk_My km_Mo_frame := ⟨kw2823, kw17, by decide, by decide, by decide, by decide +kernel⟩
theorem kv_Mo_frame : zk_Mv km_Mo_frame := ⟨kw2821, kw2822⟩
abbrev kc_Mo_heard : ByteArray := prog_14_method_189_code
def km_Mo_heard : zk_MT := (⟨"PlantKeeperModel", "heard", "(I)I"⟩, kc_Mo_heard, 2, some .int, 1)
theorem ku_Mo_heard : zk_My km_Mo_heard := ⟨kw2827, kw17, by decide, by decide, by decide, by decide +kernel⟩
theorem kv_Mo_heard : zk_Mv km_Mo_heard := ⟨kw2826, zk_inS 306 (q := (⟨"PlantKeeperModel", "heard", "(I)I"⟩, 96)) (by decide +kernel)⟩
abbrev kc_Mo_narrow : ByteArray := prog_14_method_149_code
def km_Mo_narrow : zk_MT := (⟨"PlantKeeperModel", "narrow", "(I)I"⟩, kc_Mo_narrow, 2, some .int, 1)
theorem ku_Mo_narrow : zk_My km_Mo_narrow := ⟨kw2569, kw17, by decide, by decide, by decide, by decide +kernel⟩
theorem ks_Mo_narrow : Cond.static km_Mo_narrow.1 ∈ zk_BW := kw2568
abbrev kc_Mo_obey : ByteArray := prog_14_method_195_code
def km_Mo_obey : zk_MT := (⟨"PlantKeeperModel", "obey", "(I)V"⟩, kc_Mo_obey, 5, none, 1)
theorem ku_Mo_obey : zk_My km_Mo_obey := ⟨kw2847, kw17, by decide, by decide, by decide, by decide +kernel⟩
theorem kv_Mo_obey : zk_Mv km_Mo_obey := ⟨kw2846, zk_inS 309 (q := (⟨"PlantKeeperModel", "obey", "(I)V"⟩, 96)) (by decide +kernel)⟩
abbrev kc_Mo_refusal : ByteArray := prog_14_method_194_code
def km_Mo_refusal : zk_MT := (⟨"PlantKeeperModel", "refusal", "(II)I"⟩, kc_Mo_refusal, 5, some .int, 2)
theorem ku_Mo_refusal : zk_My km_Mo_refusal := ⟨kw2835, kw17, by decide, by decide, by decide, by decide +kernel⟩
theorem kv_Mo_refusal : zk_Mv km_Mo_refusal := ⟨kw2834, zk_inS 307 (q := (⟨"PlantKeeperModel", "refusal", "(II)I"⟩, 96)) (by decide +kernel)⟩
abbrev kc_Mo_reply : ByteArray := prog_14_method_197_code
def km_Mo_reply : zk_MT := (⟨"PlantKeeperModel", "reply", "(II)V"⟩, kc_Mo_reply, 8, none, 2)
theorem ku_Mo_reply : zk_My km_Mo_reply := ⟨kw2851, kw17, by decide, by decide, by decide, by decide +kernel⟩
theorem kv_Mo_reply : zk_Mv km_Mo_reply := ⟨kw2850, zk_inS 310 (q := (⟨"PlantKeeperModel", "reply", "(II)V"⟩, 96)) (by decide +kernel)⟩
abbrev kc_Mo_station : ByteArray := prog_14_method_198_code
def km_Mo_station : zk_MT := (⟨"PlantKeeperModel", "station", "(I)I"⟩, kc_Mo_station, 3, some .int, 1)
theorem ku_Mo_station : zk_My km_Mo_station := ⟨kw2863, kw17, by decide, by decide, by decide, by decide +kernel⟩
theorem kv_Mo_station : zk_Mv km_Mo_station := ⟨kw2861, kw2862⟩
abbrev kc_Mo_summed : ByteArray := prog_14_method_188_code
def km_Mo_summed : zk_MT := (⟨"PlantKeeperModel", "summed", "(II)I"⟩, kc_Mo_summed, 4, some .int, 2)
theorem ku_Mo_summed : zk_My km_Mo_summed := ⟨kw2830, kw17, by decide, by decide, by decide, by decide +kernel⟩
theorem ks_Mo_summed : Cond.static km_Mo_summed.1 ∈ zk_BW := kw2829
abbrev kc_Mo_tableSize : ByteArray := prog_14_method_193_code
def km_Mo_tableSize : zk_MT := (⟨"PlantKeeperModel", "tableSize", "(I)I"⟩, kc_Mo_tableSize, 1, some .int, 1)
theorem ku_Mo_tableSize : zk_My km_Mo_tableSize := ⟨kw2843, kw17, by decide, by decide, by decide, by decide +kernel⟩
theorem ks_Mo_tableSize : Cond.static km_Mo_tableSize.1 ∈ zk_BW := kw2842
abbrev kc_Mo_told : ByteArray := prog_14_method_196_code
def km_Mo_told : zk_MT := (⟨"PlantKeeperModel", "told", "(II)I"⟩, kc_Mo_told, 3, some .int, 2)
theorem ku_Mo_told : zk_My km_Mo_told := ⟨kw2859, kw17, by decide, by decide, by decide, by decide +kernel⟩
theorem kv_Mo_told : zk_Mv km_Mo_told := ⟨kw2858, zk_inS 312 (q := (⟨"PlantKeeperModel", "told", "(II)I"⟩, 96)) (by decide +kernel)⟩
abbrev kc_Mo_useTape : ByteArray := prog_14_method_164_code
def km_Mo_useTape : zk_MT := (⟨"PlantKeeperModel", "useTape", "()I"⟩, kc_Mo_useTape, 2, some .int, 0)
theorem ku_Mo_useTape : zk_My km_Mo_useTape := ⟨kw1992, kw17, by decide, by decide, by decide, by decide +kernel⟩
theorem kv_Mo_useTape : zk_Mv km_Mo_useTape := ⟨kw1991, zk_inS 147 (q := (⟨"PlantKeeperModel", "useTape", "()I"⟩, 96)) (by decide +kernel)⟩
abbrev kc_Mo_watched : ByteArray := prog_14_method_187_code
def km_Mo_watched : zk_MT := (⟨"PlantKeeperModel", "watched", "()I"⟩, kc_Mo_watched, 1, some .int, 0)
theorem ku_Mo_watched : zk_My km_Mo_watched := ⟨kw2819, kw17, by decide, by decide, by decide, by decide +kernel⟩
theorem kv_Mo_watched : zk_Mv km_Mo_watched := ⟨kw2817, kw2818⟩
theorem kd_Mo_answer_0 : decode kc_Mo_answer 0 = .ok (.aload_n 0, 1) := by decide +kernel
theorem kd_Mo_answer_1 : decode kc_Mo_answer 1 = .ok (.getfield 166, 3) := by decide +kernel
theorem kd_Mo_answer_4 : decode kc_Mo_answer 4 = .ok (.aload_n 0, 1) := by decide +kernel
theorem kd_Mo_answer_5 : decode kc_Mo_answer 5 = .ok (.getfield 956, 3) := by decide +kernel
theorem kd_Mo_answer_8 : decode kc_Mo_answer 8 = .ok (.iload_n 1, 1) := by decide +kernel
theorem kd_Mo_answer_9 : decode kc_Mo_answer 9 = .ok (.sipush 255, 3) := by decide +kernel
theorem kd_Mo_answer_12 : decode kc_Mo_answer 12 = .ok (.iand, 1) := by decide +kernel
theorem kd_Mo_answer_13 : decode kc_Mo_answer 13 = .ok (.iastore, 1) := by decide +kernel
theorem kd_Mo_answer_14 : decode kc_Mo_answer 14 = .ok (.aload_n 0, 1) := by decide +kernel
theorem kd_Mo_answer_15 : decode kc_Mo_answer 15 = .ok (.dup, 1) := by decide +kernel
theorem kd_Mo_answer_16 : decode kc_Mo_answer 16 = .ok (.getfield 956, 3) := by decide +kernel
theorem kd_Mo_answer_19 : decode kc_Mo_answer 19 = .ok (.iconst 1, 1) := by decide +kernel
theorem kd_Mo_answer_20 : decode kc_Mo_answer 20 = .ok (.iadd, 1) := by decide +kernel
theorem kd_Mo_answer_21 : decode kc_Mo_answer 21 = .ok (.putfield 956, 3) := by decide +kernel
theorem kd_Mo_answer_24 : decode kc_Mo_answer 24 = .ok (.return_, 1) := by decide +kernel
theorem kd_Mo_byteAt_0 : decode kc_Mo_byteAt 0 = .ok (.iload_n 1, 1) := by decide +kernel
theorem kd_Mo_byteAt_1 : decode kc_Mo_byteAt 1 = .ok (.ifCond .lt 11, 3) := by decide +kernel
theorem kd_Mo_byteAt_4 : decode kc_Mo_byteAt 4 = .ok (.iload_n 1, 1) := by decide +kernel
theorem kd_Mo_byteAt_5 : decode kc_Mo_byteAt 5 = .ok (.aload_n 0, 1) := by decide +kernel
theorem kd_Mo_byteAt_6 : decode kc_Mo_byteAt 6 = .ok (.getfield 956, 3) := by decide +kernel
theorem kd_Mo_byteAt_9 : decode kc_Mo_byteAt 9 = .ok (.if_icmp .lt 7, 3) := by decide +kernel
theorem kd_Mo_byteAt_12 : decode kc_Mo_byteAt 12 = .ok (.iconst (-1), 1) := by decide +kernel
theorem kd_Mo_byteAt_13 : decode kc_Mo_byteAt 13 = .ok (.goto 9, 3) := by decide +kernel
theorem kd_Mo_byteAt_16 : decode kc_Mo_byteAt 16 = .ok (.aload_n 0, 1) := by decide +kernel
theorem kd_Mo_byteAt_17 : decode kc_Mo_byteAt 17 = .ok (.getfield 166, 3) := by decide +kernel
theorem kd_Mo_byteAt_20 : decode kc_Mo_byteAt 20 = .ok (.iload_n 1, 1) := by decide +kernel
theorem kd_Mo_byteAt_21 : decode kc_Mo_byteAt 21 = .ok (.iaload, 1) := by decide +kernel
theorem kd_Mo_byteAt_22 : decode kc_Mo_byteAt 22 = .ok (.ireturn, 1) := by decide +kernel
theorem kd_Mo_count_0 : decode kc_Mo_count 0 = .ok (.iload_n 1, 1) := by decide +kernel
theorem kd_Mo_count_1 : decode kc_Mo_count 1 = .ok (.tableswitch 217 0 9 #[55, 60, 77, 101, 117, 133, 149, 165, 181, 197], 55) := by decide +kernel
theorem kd_Mo_count_56 : decode kc_Mo_count 56 = .ok (.aload_n 0, 1) := by decide +kernel
theorem kd_Mo_count_57 : decode kc_Mo_count 57 = .ok (.getfield 856, 3) := by decide +kernel
theorem kd_Mo_count_60 : decode kc_Mo_count 60 = .ok (.ireturn, 1) := by decide +kernel
theorem kd_Mo_count_61 : decode kc_Mo_count 61 = .ok (.aload_n 0, 1) := by decide +kernel
theorem kd_Mo_count_62 : decode kc_Mo_count 62 = .ok (.getfield 856, 3) := by decide +kernel
theorem kd_Mo_count_65 : decode kc_Mo_count 65 = .ok (.ifCond .ne 8, 3) := by decide +kernel
theorem kd_Mo_count_68 : decode kc_Mo_count 68 = .ok (.bipush (-5), 2) := by decide +kernel
theorem kd_Mo_count_70 : decode kc_Mo_count 70 = .ok (.goto 7, 3) := by decide +kernel
theorem kd_Mo_count_73 : decode kc_Mo_count 73 = .ok (.aload_n 0, 1) := by decide +kernel
theorem kd_Mo_count_74 : decode kc_Mo_count 74 = .ok (.getfield 159, 3) := by decide +kernel
theorem kd_Mo_count_77 : decode kc_Mo_count 77 = .ok (.ireturn, 1) := by decide +kernel
theorem kd_Mo_count_78 : decode kc_Mo_count 78 = .ok (.aload_n 0, 1) := by decide +kernel
theorem kd_Mo_count_79 : decode kc_Mo_count 79 = .ok (.getfield 874, 3) := by decide +kernel
theorem kd_Mo_count_82 : decode kc_Mo_count 82 = .ok (.ifCond .eq 18, 3) := by decide +kernel
theorem kd_Mo_count_85 : decode kc_Mo_count 85 = .ok (.aload_n 0, 1) := by decide +kernel
theorem kd_Mo_count_86 : decode kc_Mo_count 86 = .ok (.getfield 133, 3) := by decide +kernel
theorem kd_Mo_count_89 : decode kc_Mo_count 89 = .ok (.aload_n 0, 1) := by decide +kernel
theorem kd_Mo_count_90 : decode kc_Mo_count 90 = .ok (.getfield 462, 3) := by decide +kernel
theorem kd_Mo_count_93 : decode kc_Mo_count 93 = .ok (.iconst 1, 1) := by decide +kernel
theorem kd_Mo_count_94 : decode kc_Mo_count 94 = .ok (.isub, 1) := by decide +kernel
theorem kd_Mo_count_95 : decode kc_Mo_count 95 = .ok (.laload, 1) := by decide +kernel
theorem kd_Mo_count_96 : decode kc_Mo_count 96 = .ok (.l2i, 1) := by decide +kernel
theorem kd_Mo_count_97 : decode kc_Mo_count 97 = .ok (.goto 4, 3) := by decide +kernel
theorem kd_Mo_count_100 : decode kc_Mo_count 100 = .ok (.iconst 0, 1) := by decide +kernel
theorem kd_Mo_count_101 : decode kc_Mo_count 101 = .ok (.ireturn, 1) := by decide +kernel
theorem kd_Mo_count_102 : decode kc_Mo_count 102 = .ok (.aload_n 0, 1) := by decide +kernel
theorem kd_Mo_count_103 : decode kc_Mo_count 103 = .ok (.getfield 874, 3) := by decide +kernel
theorem kd_Mo_count_106 : decode kc_Mo_count 106 = .ok (.ifCond .eq 10, 3) := by decide +kernel
theorem kd_Mo_count_109 : decode kc_Mo_count 109 = .ok (.aload_n 0, 1) := by decide +kernel
theorem kd_Mo_count_110 : decode kc_Mo_count 110 = .ok (.getfield 652, 3) := by decide +kernel
theorem kd_Mo_count_113 : decode kc_Mo_count 113 = .ok (.goto 4, 3) := by decide +kernel
theorem kd_Mo_count_116 : decode kc_Mo_count 116 = .ok (.iconst 0, 1) := by decide +kernel
theorem kd_Mo_count_117 : decode kc_Mo_count 117 = .ok (.ireturn, 1) := by decide +kernel
theorem kd_Mo_count_118 : decode kc_Mo_count 118 = .ok (.aload_n 0, 1) := by decide +kernel
theorem kd_Mo_count_119 : decode kc_Mo_count 119 = .ok (.getfield 874, 3) := by decide +kernel
theorem kd_Mo_count_122 : decode kc_Mo_count 122 = .ok (.ifCond .eq 10, 3) := by decide +kernel
theorem kd_Mo_count_125 : decode kc_Mo_count 125 = .ok (.aload_n 0, 1) := by decide +kernel
theorem kd_Mo_count_126 : decode kc_Mo_count 126 = .ok (.getfield 590, 3) := by decide +kernel
theorem kd_Mo_count_129 : decode kc_Mo_count 129 = .ok (.goto 4, 3) := by decide +kernel
theorem kd_Mo_count_132 : decode kc_Mo_count 132 = .ok (.iconst 0, 1) := by decide +kernel
theorem kd_Mo_count_133 : decode kc_Mo_count 133 = .ok (.ireturn, 1) := by decide +kernel
theorem kd_Mo_count_134 : decode kc_Mo_count 134 = .ok (.aload_n 0, 1) := by decide +kernel
theorem kd_Mo_count_135 : decode kc_Mo_count 135 = .ok (.getfield 874, 3) := by decide +kernel
theorem kd_Mo_count_138 : decode kc_Mo_count 138 = .ok (.ifCond .eq 10, 3) := by decide +kernel
theorem kd_Mo_count_141 : decode kc_Mo_count 141 = .ok (.aload_n 0, 1) := by decide +kernel
theorem kd_Mo_count_142 : decode kc_Mo_count 142 = .ok (.getfield 817, 3) := by decide +kernel
theorem kd_Mo_count_145 : decode kc_Mo_count 145 = .ok (.goto 4, 3) := by decide +kernel
theorem kd_Mo_count_148 : decode kc_Mo_count 148 = .ok (.iconst 0, 1) := by decide +kernel
theorem kd_Mo_count_149 : decode kc_Mo_count 149 = .ok (.ireturn, 1) := by decide +kernel
theorem kd_Mo_count_150 : decode kc_Mo_count 150 = .ok (.aload_n 0, 1) := by decide +kernel
theorem kd_Mo_count_151 : decode kc_Mo_count 151 = .ok (.getfield 874, 3) := by decide +kernel
theorem kd_Mo_count_154 : decode kc_Mo_count 154 = .ok (.ifCond .eq 10, 3) := by decide +kernel
theorem kd_Mo_count_157 : decode kc_Mo_count 157 = .ok (.aload_n 0, 1) := by decide +kernel
theorem kd_Mo_count_158 : decode kc_Mo_count 158 = .ok (.getfield 877, 3) := by decide +kernel
theorem kd_Mo_count_161 : decode kc_Mo_count 161 = .ok (.goto 4, 3) := by decide +kernel
theorem kd_Mo_count_164 : decode kc_Mo_count 164 = .ok (.iconst 0, 1) := by decide +kernel
theorem kd_Mo_count_165 : decode kc_Mo_count 165 = .ok (.ireturn, 1) := by decide +kernel
theorem kd_Mo_count_166 : decode kc_Mo_count 166 = .ok (.aload_n 0, 1) := by decide +kernel
theorem kd_Mo_count_167 : decode kc_Mo_count 167 = .ok (.getfield 874, 3) := by decide +kernel
theorem kd_Mo_count_170 : decode kc_Mo_count 170 = .ok (.ifCond .eq 10, 3) := by decide +kernel
theorem kd_Mo_count_173 : decode kc_Mo_count 173 = .ok (.aload_n 0, 1) := by decide +kernel
theorem kd_Mo_count_174 : decode kc_Mo_count 174 = .ok (.getfield 880, 3) := by decide +kernel
theorem kd_Mo_count_177 : decode kc_Mo_count 177 = .ok (.goto 4, 3) := by decide +kernel
theorem kd_Mo_count_180 : decode kc_Mo_count 180 = .ok (.iconst 0, 1) := by decide +kernel
theorem kd_Mo_count_181 : decode kc_Mo_count 181 = .ok (.ireturn, 1) := by decide +kernel
theorem kd_Mo_count_182 : decode kc_Mo_count 182 = .ok (.aload_n 0, 1) := by decide +kernel
theorem kd_Mo_count_183 : decode kc_Mo_count 183 = .ok (.getfield 874, 3) := by decide +kernel
theorem kd_Mo_count_186 : decode kc_Mo_count 186 = .ok (.ifCond .eq 10, 3) := by decide +kernel
theorem kd_Mo_count_189 : decode kc_Mo_count 189 = .ok (.aload_n 0, 1) := by decide +kernel
theorem kd_Mo_count_190 : decode kc_Mo_count 190 = .ok (.getfield 832, 3) := by decide +kernel
theorem kd_Mo_count_193 : decode kc_Mo_count 193 = .ok (.goto 4, 3) := by decide +kernel
theorem kd_Mo_count_196 : decode kc_Mo_count 196 = .ok (.iconst 0, 1) := by decide +kernel
theorem kd_Mo_count_197 : decode kc_Mo_count 197 = .ok (.ireturn, 1) := by decide +kernel
theorem kd_Mo_count_198 : decode kc_Mo_count 198 = .ok (.aload_n 0, 1) := by decide +kernel
theorem kd_Mo_count_199 : decode kc_Mo_count 199 = .ok (.getfield 874, 3) := by decide +kernel
theorem kd_Mo_count_202 : decode kc_Mo_count 202 = .ok (.ifCond .eq 14, 3) := by decide +kernel
theorem kd_Mo_count_205 : decode kc_Mo_count 205 = .ok (.aload_n 0, 1) := by decide +kernel
theorem kd_Mo_count_206 : decode kc_Mo_count 206 = .ok (.getfield 892, 3) := by decide +kernel
theorem kd_Mo_count_209 : decode kc_Mo_count 209 = .ok (.ifCond .eq 7, 3) := by decide +kernel
theorem kd_Mo_count_212 : decode kc_Mo_count 212 = .ok (.iconst 1, 1) := by decide +kernel
theorem kd_Mo_count_213 : decode kc_Mo_count 213 = .ok (.goto 4, 3) := by decide +kernel
theorem kd_Mo_count_216 : decode kc_Mo_count 216 = .ok (.iconst 0, 1) := by decide +kernel
theorem kd_Mo_count_217 : decode kc_Mo_count 217 = .ok (.ireturn, 1) := by decide +kernel
theorem kd_Mo_count_218 : decode kc_Mo_count 218 = .ok (.iconst (-1), 1) := by decide +kernel
theorem kd_Mo_count_219 : decode kc_Mo_count 219 = .ok (.ireturn, 1) := by decide +kernel
theorem kd_Mo_dataTwo_0 : decode kc_Mo_dataTwo 0 = .ok (.sipush 256, 3) := by decide +kernel
theorem kd_Mo_dataTwo_3 : decode kc_Mo_dataTwo 3 = .ok (.aload_n 0, 1) := by decide +kernel
theorem kd_Mo_dataTwo_4 : decode kc_Mo_dataTwo 4 = .ok (.iconst 2, 1) := by decide +kernel
theorem kd_Mo_dataTwo_5 : decode kc_Mo_dataTwo 5 = .ok (.iload_n 1, 1) := by decide +kernel
theorem kd_Mo_dataTwo_6 : decode kc_Mo_dataTwo 6 = .ok (.iadd, 1) := by decide +kernel
theorem kd_Mo_dataTwo_7 : decode kc_Mo_dataTwo 7 = .ok (.invokevirtual 953, 3) := by decide +kernel
theorem kd_Mo_dataTwo_10 : decode kc_Mo_dataTwo 10 = .ok (.imul, 1) := by decide +kernel
theorem kd_Mo_dataTwo_11 : decode kc_Mo_dataTwo 11 = .ok (.aload_n 0, 1) := by decide +kernel
theorem kd_Mo_dataTwo_12 : decode kc_Mo_dataTwo 12 = .ok (.iconst 3, 1) := by decide +kernel
theorem kd_Mo_dataTwo_13 : decode kc_Mo_dataTwo 13 = .ok (.iload_n 1, 1) := by decide +kernel
theorem kd_Mo_dataTwo_14 : decode kc_Mo_dataTwo 14 = .ok (.iadd, 1) := by decide +kernel
theorem kd_Mo_dataTwo_15 : decode kc_Mo_dataTwo 15 = .ok (.invokevirtual 953, 3) := by decide +kernel
theorem kd_Mo_dataTwo_18 : decode kc_Mo_dataTwo 18 = .ok (.iadd, 1) := by decide +kernel
theorem kd_Mo_dataTwo_19 : decode kc_Mo_dataTwo 19 = .ok (.ireturn, 1) := by decide +kernel
theorem kd_Mo_frame_0 : decode kc_Mo_frame 0 = .ok (.aload_n 0, 1) := by decide +kernel
theorem kd_Mo_frame_1 : decode kc_Mo_frame 1 = .ok (.invokevirtual 850, 3) := by decide +kernel
theorem kd_Mo_frame_4 : decode kc_Mo_frame 4 = .ok (.istore_n 1, 1) := by decide +kernel
theorem kd_Mo_frame_5 : decode kc_Mo_frame 5 = .ok (.aload_n 0, 1) := by decide +kernel
theorem kd_Mo_frame_6 : decode kc_Mo_frame 6 = .ok (.iconst 0, 1) := by decide +kernel
theorem kd_Mo_frame_7 : decode kc_Mo_frame 7 = .ok (.putfield 956, 3) := by decide +kernel
theorem kd_Mo_frame_10 : decode kc_Mo_frame 10 = .ok (.aload_n 0, 1) := by decide +kernel
theorem kd_Mo_frame_11 : decode kc_Mo_frame 11 = .ok (.getfield 874, 3) := by decide +kernel
theorem kd_Mo_frame_14 : decode kc_Mo_frame 14 = .ok (.ifCond .eq 15, 3) := by decide +kernel
theorem kd_Mo_frame_17 : decode kc_Mo_frame 17 = .ok (.iload_n 1, 1) := by decide +kernel
theorem kd_Mo_frame_18 : decode kc_Mo_frame 18 = .ok (.iconst 4, 1) := by decide +kernel
theorem kd_Mo_frame_19 : decode kc_Mo_frame 19 = .ok (.if_icmp .lt 10, 3) := by decide +kernel
theorem kd_Mo_frame_22 : decode kc_Mo_frame 22 = .ok (.iload_n 1, 1) := by decide +kernel
theorem kd_Mo_frame_23 : decode kc_Mo_frame 23 = .ok (.sipush 256, 3) := by decide +kernel
theorem kd_Mo_frame_26 : decode kc_Mo_frame 26 = .ok (.if_icmp .le 5, 3) := by decide +kernel
theorem kd_Mo_frame_29 : decode kc_Mo_frame 29 = .ok (.iconst 0, 1) := by decide +kernel
theorem kd_Mo_frame_30 : decode kc_Mo_frame 30 = .ok (.ireturn, 1) := by decide +kernel
theorem kd_Mo_frame_31 : decode kc_Mo_frame 31 = .ok (.ldc_w 801, 3) := by decide +kernel
theorem kd_Mo_frame_34 : decode kc_Mo_frame 34 = .ok (.istore_n 2, 1) := by decide +kernel
theorem kd_Mo_frame_35 : decode kc_Mo_frame 35 = .ok (.iconst 0, 1) := by decide +kernel
theorem kd_Mo_frame_36 : decode kc_Mo_frame 36 = .ok (.istore_n 3, 1) := by decide +kernel
theorem kd_Mo_frame_37 : decode kc_Mo_frame 37 = .ok (.iload_n 3, 1) := by decide +kernel
theorem kd_Mo_frame_38 : decode kc_Mo_frame 38 = .ok (.iload_n 1, 1) := by decide +kernel
theorem kd_Mo_frame_39 : decode kc_Mo_frame 39 = .ok (.iconst 2, 1) := by decide +kernel
theorem kd_Mo_frame_40 : decode kc_Mo_frame 40 = .ok (.isub, 1) := by decide +kernel
theorem kd_Mo_frame_41 : decode kc_Mo_frame 41 = .ok (.if_icmp .ge 19, 3) := by decide +kernel
theorem kd_Mo_frame_44 : decode kc_Mo_frame 44 = .ok (.iload_n 2, 1) := by decide +kernel
theorem kd_Mo_frame_45 : decode kc_Mo_frame 45 = .ok (.aload_n 0, 1) := by decide +kernel
theorem kd_Mo_frame_46 : decode kc_Mo_frame 46 = .ok (.iload_n 3, 1) := by decide +kernel
theorem kd_Mo_frame_47 : decode kc_Mo_frame 47 = .ok (.invokevirtual 953, 3) := by decide +kernel
theorem kd_Mo_frame_50 : decode kc_Mo_frame 50 = .ok (.invokestatic 959, 3) := by decide +kernel
theorem kd_Mo_frame_53 : decode kc_Mo_frame 53 = .ok (.istore_n 2, 1) := by decide +kernel
theorem kd_Mo_frame_54 : decode kc_Mo_frame 54 = .ok (.iinc 3 1, 3) := by decide +kernel
theorem kd_Mo_frame_57 : decode kc_Mo_frame 57 = .ok (.goto (-20), 3) := by decide +kernel
theorem kd_Mo_frame_60 : decode kc_Mo_frame 60 = .ok (.aload_n 0, 1) := by decide +kernel
theorem kd_Mo_frame_61 : decode kc_Mo_frame 61 = .ok (.iconst 0, 1) := by decide +kernel
theorem kd_Mo_frame_62 : decode kc_Mo_frame 62 = .ok (.invokevirtual 953, 3) := by decide +kernel
theorem kd_Mo_frame_65 : decode kc_Mo_frame 65 = .ok (.ifCond .eq 15, 3) := by decide +kernel
theorem kd_Mo_frame_68 : decode kc_Mo_frame 68 = .ok (.aload_n 0, 1) := by decide +kernel
theorem kd_Mo_frame_69 : decode kc_Mo_frame 69 = .ok (.iconst 0, 1) := by decide +kernel
theorem kd_Mo_frame_70 : decode kc_Mo_frame 70 = .ok (.invokevirtual 953, 3) := by decide +kernel
theorem kd_Mo_frame_73 : decode kc_Mo_frame 73 = .ok (.aload_n 0, 1) := by decide +kernel
theorem kd_Mo_frame_74 : decode kc_Mo_frame 74 = .ok (.getfield 163, 3) := by decide +kernel
theorem kd_Mo_frame_77 : decode kc_Mo_frame 77 = .ok (.if_icmp .ne 7, 3) := by decide +kernel
theorem kd_Mo_frame_80 : decode kc_Mo_frame 80 = .ok (.iconst 1, 1) := by decide +kernel
theorem kd_Mo_frame_81 : decode kc_Mo_frame 81 = .ok (.goto 4, 3) := by decide +kernel
theorem kd_Mo_frame_84 : decode kc_Mo_frame 84 = .ok (.iconst 0, 1) := by decide +kernel
theorem kd_Mo_frame_85 : decode kc_Mo_frame 85 = .ok (.istore_n 3, 1) := by decide +kernel
theorem kd_Mo_frame_86 : decode kc_Mo_frame 86 = .ok (.aload_n 0, 1) := by decide +kernel
theorem kd_Mo_frame_87 : decode kc_Mo_frame 87 = .ok (.iload_n 1, 1) := by decide +kernel
theorem kd_Mo_frame_88 : decode kc_Mo_frame 88 = .ok (.iconst 2, 1) := by decide +kernel
theorem kd_Mo_frame_89 : decode kc_Mo_frame 89 = .ok (.isub, 1) := by decide +kernel
theorem kd_Mo_frame_90 : decode kc_Mo_frame 90 = .ok (.invokevirtual 953, 3) := by decide +kernel
theorem kd_Mo_frame_93 : decode kc_Mo_frame 93 = .ok (.iload_n 2, 1) := by decide +kernel
theorem kd_Mo_frame_94 : decode kc_Mo_frame 94 = .ok (.sipush 256, 3) := by decide +kernel
theorem kd_Mo_frame_97 : decode kc_Mo_frame 97 = .ok (.irem, 1) := by decide +kernel
theorem kd_Mo_frame_98 : decode kc_Mo_frame 98 = .ok (.if_icmp .ne 22, 3) := by decide +kernel
theorem kd_Mo_frame_101 : decode kc_Mo_frame 101 = .ok (.aload_n 0, 1) := by decide +kernel
theorem kd_Mo_frame_102 : decode kc_Mo_frame 102 = .ok (.iload_n 1, 1) := by decide +kernel
theorem kd_Mo_frame_103 : decode kc_Mo_frame 103 = .ok (.iconst 1, 1) := by decide +kernel
theorem kd_Mo_frame_104 : decode kc_Mo_frame 104 = .ok (.isub, 1) := by decide +kernel
theorem kd_Mo_frame_105 : decode kc_Mo_frame 105 = .ok (.invokevirtual 953, 3) := by decide +kernel
theorem kd_Mo_frame_108 : decode kc_Mo_frame 108 = .ok (.iload_n 2, 1) := by decide +kernel
theorem kd_Mo_frame_109 : decode kc_Mo_frame 109 = .ok (.sipush 256, 3) := by decide +kernel
theorem kd_Mo_frame_112 : decode kc_Mo_frame 112 = .ok (.idiv, 1) := by decide +kernel
theorem kd_Mo_frame_113 : decode kc_Mo_frame 113 = .ok (.if_icmp .ne 7, 3) := by decide +kernel
theorem kd_Mo_frame_116 : decode kc_Mo_frame 116 = .ok (.iload_n 3, 1) := by decide +kernel
theorem kd_Mo_frame_117 : decode kc_Mo_frame 117 = .ok (.ifCond .ne 5, 3) := by decide +kernel
theorem kd_Mo_frame_120 : decode kc_Mo_frame 120 = .ok (.iconst 0, 1) := by decide +kernel
theorem kd_Mo_frame_121 : decode kc_Mo_frame 121 = .ok (.ireturn, 1) := by decide +kernel
theorem kd_Mo_frame_122 : decode kc_Mo_frame 122 = .ok (.aload_n 0, 1) := by decide +kernel
theorem kd_Mo_frame_123 : decode kc_Mo_frame 123 = .ok (.iconst 1, 1) := by decide +kernel
theorem kd_Mo_frame_124 : decode kc_Mo_frame 124 = .ok (.invokevirtual 953, 3) := by decide +kernel
theorem kd_Mo_frame_127 : decode kc_Mo_frame 127 = .ok (.istore 4, 2) := by decide +kernel
theorem kd_Mo_frame_129 : decode kc_Mo_frame 129 = .ok (.aload_n 0, 1) := by decide +kernel
theorem kd_Mo_frame_130 : decode kc_Mo_frame 130 = .ok (.iload 4, 2) := by decide +kernel
theorem kd_Mo_frame_132 : decode kc_Mo_frame 132 = .ok (.iload_n 1, 1) := by decide +kernel
theorem kd_Mo_frame_133 : decode kc_Mo_frame 133 = .ok (.iconst 4, 1) := by decide +kernel
theorem kd_Mo_frame_134 : decode kc_Mo_frame 134 = .ok (.isub, 1) := by decide +kernel
theorem kd_Mo_frame_135 : decode kc_Mo_frame 135 = .ok (.invokevirtual 962, 3) := by decide +kernel
theorem kd_Mo_frame_138 : decode kc_Mo_frame 138 = .ok (.istore 5, 2) := by decide +kernel
theorem kd_Mo_frame_140 : decode kc_Mo_frame 140 = .ok (.iload 5, 2) := by decide +kernel
theorem kd_Mo_frame_142 : decode kc_Mo_frame 142 = .ok (.ifCond .ne 9, 3) := by decide +kernel
theorem kd_Mo_frame_145 : decode kc_Mo_frame 145 = .ok (.aload_n 0, 1) := by decide +kernel
theorem kd_Mo_frame_146 : decode kc_Mo_frame 146 = .ok (.iload 4, 2) := by decide +kernel
theorem kd_Mo_frame_148 : decode kc_Mo_frame 148 = .ok (.invokevirtual 965, 3) := by decide +kernel
theorem kd_Mo_frame_151 : decode kc_Mo_frame 151 = .ok (.aload_n 0, 1) := by decide +kernel
theorem kd_Mo_frame_152 : decode kc_Mo_frame 152 = .ok (.iconst 0, 1) := by decide +kernel
theorem kd_Mo_frame_153 : decode kc_Mo_frame 153 = .ok (.invokevirtual 953, 3) := by decide +kernel
theorem kd_Mo_frame_156 : decode kc_Mo_frame 156 = .ok (.ifCond .le 11, 3) := by decide +kernel
theorem kd_Mo_frame_159 : decode kc_Mo_frame 159 = .ok (.aload_n 0, 1) := by decide +kernel
theorem kd_Mo_frame_160 : decode kc_Mo_frame 160 = .ok (.iload 4, 2) := by decide +kernel
theorem kd_Mo_frame_162 : decode kc_Mo_frame 162 = .ok (.iload 5, 2) := by decide +kernel
theorem kd_Mo_frame_164 : decode kc_Mo_frame 164 = .ok (.invokevirtual 968, 3) := by decide +kernel
theorem kd_Mo_frame_167 : decode kc_Mo_frame 167 = .ok (.aload_n 0, 1) := by decide +kernel
theorem kd_Mo_frame_168 : decode kc_Mo_frame 168 = .ok (.getfield 956, 3) := by decide +kernel
theorem kd_Mo_frame_171 : decode kc_Mo_frame 171 = .ok (.ireturn, 1) := by decide +kernel
theorem kd_Mo_heard_0 : decode kc_Mo_heard 0 = .ok (.aload_n 0, 1) := by decide +kernel
theorem kd_Mo_heard_1 : decode kc_Mo_heard 1 = .ok (.getfield 156, 3) := by decide +kernel
theorem kd_Mo_heard_4 : decode kc_Mo_heard 4 = .ok (.iload_n 1, 1) := by decide +kernel
theorem kd_Mo_heard_5 : decode kc_Mo_heard 5 = .ok (.baload, 1) := by decide +kernel
theorem kd_Mo_heard_6 : decode kc_Mo_heard 6 = .ok (.sipush 255, 3) := by decide +kernel
theorem kd_Mo_heard_9 : decode kc_Mo_heard 9 = .ok (.iand, 1) := by decide +kernel
theorem kd_Mo_heard_10 : decode kc_Mo_heard 10 = .ok (.ireturn, 1) := by decide +kernel
theorem kd_Mo_narrow_0 : decode kc_Mo_narrow 0 = .ok (.iload_n 0, 1) := by decide +kernel
theorem kd_Mo_narrow_1 : decode kc_Mo_narrow 1 = .ok (.ldc_w 801, 3) := by decide +kernel
theorem kd_Mo_narrow_4 : decode kc_Mo_narrow 4 = .ok (.iand, 1) := by decide +kernel
theorem kd_Mo_narrow_5 : decode kc_Mo_narrow 5 = .ok (.istore_n 1, 1) := by decide +kernel
theorem kd_Mo_narrow_6 : decode kc_Mo_narrow 6 = .ok (.iload_n 1, 1) := by decide +kernel
theorem kd_Mo_narrow_7 : decode kc_Mo_narrow 7 = .ok (.sipush 32767, 3) := by decide +kernel
theorem kd_Mo_narrow_10 : decode kc_Mo_narrow 10 = .ok (.if_icmp .le 11, 3) := by decide +kernel
theorem kd_Mo_narrow_13 : decode kc_Mo_narrow 13 = .ok (.iload_n 1, 1) := by decide +kernel
theorem kd_Mo_narrow_14 : decode kc_Mo_narrow 14 = .ok (.ldc_w 802, 3) := by decide +kernel
theorem kd_Mo_narrow_17 : decode kc_Mo_narrow 17 = .ok (.isub, 1) := by decide +kernel
theorem kd_Mo_narrow_18 : decode kc_Mo_narrow 18 = .ok (.goto 4, 3) := by decide +kernel
theorem kd_Mo_narrow_21 : decode kc_Mo_narrow 21 = .ok (.iload_n 1, 1) := by decide +kernel
theorem kd_Mo_narrow_22 : decode kc_Mo_narrow 22 = .ok (.ireturn, 1) := by decide +kernel
theorem kd_Mo_obey_0 : decode kc_Mo_obey 0 = .ok (.aload_n 0, 1) := by decide +kernel
theorem kd_Mo_obey_1 : decode kc_Mo_obey 1 = .ok (.iconst 0, 1) := by decide +kernel
theorem kd_Mo_obey_2 : decode kc_Mo_obey 2 = .ok (.invokevirtual 971, 3) := by decide +kernel
theorem kd_Mo_obey_5 : decode kc_Mo_obey 5 = .ok (.istore_n 2, 1) := by decide +kernel
theorem kd_Mo_obey_6 : decode kc_Mo_obey 6 = .ok (.aload_n 0, 1) := by decide +kernel
theorem kd_Mo_obey_7 : decode kc_Mo_obey 7 = .ok (.iconst 2, 1) := by decide +kernel
theorem kd_Mo_obey_8 : decode kc_Mo_obey 8 = .ok (.invokevirtual 971, 3) := by decide +kernel
theorem kd_Mo_obey_11 : decode kc_Mo_obey 11 = .ok (.istore_n 3, 1) := by decide +kernel
theorem kd_Mo_obey_12 : decode kc_Mo_obey 12 = .ok (.iload_n 1, 1) := by decide +kernel
theorem kd_Mo_obey_13 : decode kc_Mo_obey 13 = .ok (.iconst 5, 1) := by decide +kernel
theorem kd_Mo_obey_14 : decode kc_Mo_obey 14 = .ok (.if_icmp .ne 25, 3) := by decide +kernel
theorem kd_Mo_obey_17 : decode kc_Mo_obey 17 = .ok (.aload_n 0, 1) := by decide +kernel
theorem kd_Mo_obey_18 : decode kc_Mo_obey 18 = .ok (.getfield 150, 3) := by decide +kernel
theorem kd_Mo_obey_21 : decode kc_Mo_obey 21 = .ok (.sipush 512, 3) := by decide +kernel
theorem kd_Mo_obey_24 : decode kc_Mo_obey 24 = .ok (.iload_n 2, 1) := by decide +kernel
theorem kd_Mo_obey_25 : decode kc_Mo_obey 25 = .ok (.iadd, 1) := by decide +kernel
theorem kd_Mo_obey_26 : decode kc_Mo_obey 26 = .ok (.iload_n 3, 1) := by decide +kernel
theorem kd_Mo_obey_27 : decode kc_Mo_obey 27 = .ok (.ifCond .le 7, 3) := by decide +kernel
theorem kd_Mo_obey_30 : decode kc_Mo_obey 30 = .ok (.iconst 1, 1) := by decide +kernel
theorem kd_Mo_obey_31 : decode kc_Mo_obey 31 = .ok (.goto 4, 3) := by decide +kernel
theorem kd_Mo_obey_34 : decode kc_Mo_obey 34 = .ok (.iconst 0, 1) := by decide +kernel
theorem kd_Mo_obey_35 : decode kc_Mo_obey 35 = .ok (.iastore, 1) := by decide +kernel
theorem kd_Mo_obey_36 : decode kc_Mo_obey 36 = .ok (.goto 23, 3) := by decide +kernel
theorem kd_Mo_obey_39 : decode kc_Mo_obey 39 = .ok (.iload_n 1, 1) := by decide +kernel
theorem kd_Mo_obey_40 : decode kc_Mo_obey 40 = .ok (.bipush 6, 2) := by decide +kernel
theorem kd_Mo_obey_42 : decode kc_Mo_obey 42 = .ok (.if_icmp .ne 17, 3) := by decide +kernel
theorem kd_Mo_obey_45 : decode kc_Mo_obey 45 = .ok (.aload_n 0, 1) := by decide +kernel
theorem kd_Mo_obey_46 : decode kc_Mo_obey 46 = .ok (.getfield 150, 3) := by decide +kernel
theorem kd_Mo_obey_49 : decode kc_Mo_obey 49 = .ok (.sipush 896, 3) := by decide +kernel
theorem kd_Mo_obey_52 : decode kc_Mo_obey 52 = .ok (.iload_n 2, 1) := by decide +kernel
theorem kd_Mo_obey_53 : decode kc_Mo_obey 53 = .ok (.iadd, 1) := by decide +kernel
theorem kd_Mo_obey_54 : decode kc_Mo_obey 54 = .ok (.iload_n 3, 1) := by decide +kernel
theorem kd_Mo_obey_55 : decode kc_Mo_obey 55 = .ok (.invokestatic 803, 3) := by decide +kernel
theorem kd_Mo_obey_58 : decode kc_Mo_obey 58 = .ok (.iastore, 1) := by decide +kernel
theorem kd_Mo_obey_59 : decode kc_Mo_obey 59 = .ok (.iconst 0, 1) := by decide +kernel
theorem kd_Mo_obey_60 : decode kc_Mo_obey 60 = .ok (.istore 4, 2) := by decide +kernel
theorem kd_Mo_obey_62 : decode kc_Mo_obey 62 = .ok (.iload 4, 2) := by decide +kernel
theorem kd_Mo_obey_64 : decode kc_Mo_obey 64 = .ok (.iload_n 3, 1) := by decide +kernel
theorem kd_Mo_obey_65 : decode kc_Mo_obey 65 = .ok (.if_icmp .ge 83, 3) := by decide +kernel
theorem kd_Mo_obey_68 : decode kc_Mo_obey 68 = .ok (.iload_n 1, 1) := by decide +kernel
theorem kd_Mo_obey_69 : decode kc_Mo_obey 69 = .ok (.bipush 14, 2) := by decide +kernel
theorem kd_Mo_obey_71 : decode kc_Mo_obey 71 = .ok (.if_icmp .le 77, 3) := by decide +kernel
theorem kd_Mo_obey_74 : decode kc_Mo_obey 74 = .ok (.iload_n 1, 1) := by decide +kernel
theorem kd_Mo_obey_75 : decode kc_Mo_obey 75 = .ok (.bipush 15, 2) := by decide +kernel
theorem kd_Mo_obey_77 : decode kc_Mo_obey 77 = .ok (.if_icmp .ne 39, 3) := by decide +kernel
theorem kd_Mo_obey_80 : decode kc_Mo_obey 80 = .ok (.aload_n 0, 1) := by decide +kernel
theorem kd_Mo_obey_81 : decode kc_Mo_obey 81 = .ok (.getfield 150, 3) := by decide +kernel
theorem kd_Mo_obey_84 : decode kc_Mo_obey 84 = .ok (.sipush 512, 3) := by decide +kernel
theorem kd_Mo_obey_87 : decode kc_Mo_obey 87 = .ok (.iload_n 2, 1) := by decide +kernel
theorem kd_Mo_obey_88 : decode kc_Mo_obey 88 = .ok (.iadd, 1) := by decide +kernel
theorem kd_Mo_obey_89 : decode kc_Mo_obey 89 = .ok (.iload 4, 2) := by decide +kernel
theorem kd_Mo_obey_91 : decode kc_Mo_obey 91 = .ok (.iadd, 1) := by decide +kernel
theorem kd_Mo_obey_92 : decode kc_Mo_obey 92 = .ok (.aload_n 0, 1) := by decide +kernel
theorem kd_Mo_obey_93 : decode kc_Mo_obey 93 = .ok (.bipush 7, 2) := by decide +kernel
theorem kd_Mo_obey_95 : decode kc_Mo_obey 95 = .ok (.iload 4, 2) := by decide +kernel
theorem kd_Mo_obey_97 : decode kc_Mo_obey 97 = .ok (.bipush 8, 2) := by decide +kernel
theorem kd_Mo_obey_99 : decode kc_Mo_obey 99 = .ok (.idiv, 1) := by decide +kernel
theorem kd_Mo_obey_100 : decode kc_Mo_obey 100 = .ok (.iadd, 1) := by decide +kernel
theorem kd_Mo_obey_101 : decode kc_Mo_obey 101 = .ok (.invokevirtual 953, 3) := by decide +kernel
theorem kd_Mo_obey_104 : decode kc_Mo_obey 104 = .ok (.iload 4, 2) := by decide +kernel
theorem kd_Mo_obey_106 : decode kc_Mo_obey 106 = .ok (.bipush 8, 2) := by decide +kernel
theorem kd_Mo_obey_108 : decode kc_Mo_obey 108 = .ok (.irem, 1) := by decide +kernel
theorem kd_Mo_obey_109 : decode kc_Mo_obey 109 = .ok (.ishr, 1) := by decide +kernel
theorem kd_Mo_obey_110 : decode kc_Mo_obey 110 = .ok (.iconst 1, 1) := by decide +kernel
theorem kd_Mo_obey_111 : decode kc_Mo_obey 111 = .ok (.iand, 1) := by decide +kernel
theorem kd_Mo_obey_112 : decode kc_Mo_obey 112 = .ok (.iastore, 1) := by decide +kernel
theorem kd_Mo_obey_113 : decode kc_Mo_obey 113 = .ok (.goto 29, 3) := by decide +kernel
theorem kd_Mo_obey_116 : decode kc_Mo_obey 116 = .ok (.aload_n 0, 1) := by decide +kernel
theorem kd_Mo_obey_117 : decode kc_Mo_obey 117 = .ok (.getfield 150, 3) := by decide +kernel
theorem kd_Mo_obey_120 : decode kc_Mo_obey 120 = .ok (.sipush 896, 3) := by decide +kernel
theorem kd_Mo_obey_123 : decode kc_Mo_obey 123 = .ok (.iload_n 2, 1) := by decide +kernel
theorem kd_Mo_obey_124 : decode kc_Mo_obey 124 = .ok (.iadd, 1) := by decide +kernel
theorem kd_Mo_obey_125 : decode kc_Mo_obey 125 = .ok (.iload 4, 2) := by decide +kernel
theorem kd_Mo_obey_127 : decode kc_Mo_obey 127 = .ok (.iadd, 1) := by decide +kernel
theorem kd_Mo_obey_128 : decode kc_Mo_obey 128 = .ok (.aload_n 0, 1) := by decide +kernel
theorem kd_Mo_obey_129 : decode kc_Mo_obey 129 = .ok (.iconst 5, 1) := by decide +kernel
theorem kd_Mo_obey_130 : decode kc_Mo_obey 130 = .ok (.iconst 2, 1) := by decide +kernel
theorem kd_Mo_obey_131 : decode kc_Mo_obey 131 = .ok (.iload 4, 2) := by decide +kernel
theorem kd_Mo_obey_133 : decode kc_Mo_obey 133 = .ok (.imul, 1) := by decide +kernel
theorem kd_Mo_obey_134 : decode kc_Mo_obey 134 = .ok (.iadd, 1) := by decide +kernel
theorem kd_Mo_obey_135 : decode kc_Mo_obey 135 = .ok (.invokevirtual 971, 3) := by decide +kernel
theorem kd_Mo_obey_138 : decode kc_Mo_obey 138 = .ok (.invokestatic 803, 3) := by decide +kernel
theorem kd_Mo_obey_141 : decode kc_Mo_obey 141 = .ok (.iastore, 1) := by decide +kernel
theorem kd_Mo_obey_142 : decode kc_Mo_obey 142 = .ok (.iinc 4 1, 3) := by decide +kernel
theorem kd_Mo_obey_145 : decode kc_Mo_obey 145 = .ok (.goto (-83), 3) := by decide +kernel
theorem kd_Mo_obey_148 : decode kc_Mo_obey 148 = .ok (.return_, 1) := by decide +kernel
theorem kd_Mo_refusal_0 : decode kc_Mo_refusal 0 = .ok (.iload_n 1, 1) := by decide +kernel
theorem kd_Mo_refusal_1 : decode kc_Mo_refusal 1 = .ok (.iconst 1, 1) := by decide +kernel
theorem kd_Mo_refusal_2 : decode kc_Mo_refusal 2 = .ok (.if_icmp .lt 9, 3) := by decide +kernel
theorem kd_Mo_refusal_5 : decode kc_Mo_refusal 5 = .ok (.iload_n 1, 1) := by decide +kernel
theorem kd_Mo_refusal_6 : decode kc_Mo_refusal 6 = .ok (.bipush 6, 2) := by decide +kernel
theorem kd_Mo_refusal_8 : decode kc_Mo_refusal 8 = .ok (.if_icmp .le 17, 3) := by decide +kernel
theorem kd_Mo_refusal_11 : decode kc_Mo_refusal 11 = .ok (.iload_n 1, 1) := by decide +kernel
theorem kd_Mo_refusal_12 : decode kc_Mo_refusal 12 = .ok (.bipush 15, 2) := by decide +kernel
theorem kd_Mo_refusal_14 : decode kc_Mo_refusal 14 = .ok (.if_icmp .eq 11, 3) := by decide +kernel
theorem kd_Mo_refusal_17 : decode kc_Mo_refusal 17 = .ok (.iload_n 1, 1) := by decide +kernel
theorem kd_Mo_refusal_18 : decode kc_Mo_refusal 18 = .ok (.bipush 16, 2) := by decide +kernel
theorem kd_Mo_refusal_20 : decode kc_Mo_refusal 20 = .ok (.if_icmp .eq 5, 3) := by decide +kernel
theorem kd_Mo_refusal_23 : decode kc_Mo_refusal 23 = .ok (.iconst 1, 1) := by decide +kernel
theorem kd_Mo_refusal_24 : decode kc_Mo_refusal 24 = .ok (.ireturn, 1) := by decide +kernel
theorem kd_Mo_refusal_25 : decode kc_Mo_refusal 25 = .ok (.iload_n 1, 1) := by decide +kernel
theorem kd_Mo_refusal_26 : decode kc_Mo_refusal 26 = .ok (.bipush 7, 2) := by decide +kernel
theorem kd_Mo_refusal_28 : decode kc_Mo_refusal 28 = .ok (.if_icmp .ge 11, 3) := by decide +kernel
theorem kd_Mo_refusal_31 : decode kc_Mo_refusal 31 = .ok (.iload_n 2, 1) := by decide +kernel
theorem kd_Mo_refusal_32 : decode kc_Mo_refusal 32 = .ok (.iconst 4, 1) := by decide +kernel
theorem kd_Mo_refusal_33 : decode kc_Mo_refusal 33 = .ok (.if_icmp .eq 26, 3) := by decide +kernel
theorem kd_Mo_refusal_36 : decode kc_Mo_refusal 36 = .ok (.goto 21, 3) := by decide +kernel
theorem kd_Mo_refusal_39 : decode kc_Mo_refusal 39 = .ok (.iload_n 2, 1) := by decide +kernel
theorem kd_Mo_refusal_40 : decode kc_Mo_refusal 40 = .ok (.bipush 6, 2) := by decide +kernel
theorem kd_Mo_refusal_42 : decode kc_Mo_refusal 42 = .ok (.if_icmp .lt 15, 3) := by decide +kernel
theorem kd_Mo_refusal_45 : decode kc_Mo_refusal 45 = .ok (.iload_n 2, 1) := by decide +kernel
theorem kd_Mo_refusal_46 : decode kc_Mo_refusal 46 = .ok (.iconst 5, 1) := by decide +kernel
theorem kd_Mo_refusal_47 : decode kc_Mo_refusal 47 = .ok (.aload_n 0, 1) := by decide +kernel
theorem kd_Mo_refusal_48 : decode kc_Mo_refusal 48 = .ok (.bipush 6, 2) := by decide +kernel
theorem kd_Mo_refusal_50 : decode kc_Mo_refusal 50 = .ok (.invokevirtual 953, 3) := by decide +kernel
theorem kd_Mo_refusal_53 : decode kc_Mo_refusal 53 = .ok (.iadd, 1) := by decide +kernel
theorem kd_Mo_refusal_54 : decode kc_Mo_refusal 54 = .ok (.if_icmp .eq 5, 3) := by decide +kernel
theorem kd_Mo_refusal_57 : decode kc_Mo_refusal 57 = .ok (.iconst 3, 1) := by decide +kernel
theorem kd_Mo_refusal_58 : decode kc_Mo_refusal 58 = .ok (.ireturn, 1) := by decide +kernel
theorem kd_Mo_refusal_59 : decode kc_Mo_refusal 59 = .ok (.aload_n 0, 1) := by decide +kernel
theorem kd_Mo_refusal_60 : decode kc_Mo_refusal 60 = .ok (.iconst 2, 1) := by decide +kernel
theorem kd_Mo_refusal_61 : decode kc_Mo_refusal 61 = .ok (.invokevirtual 971, 3) := by decide +kernel
theorem kd_Mo_refusal_64 : decode kc_Mo_refusal 64 = .ok (.istore_n 3, 1) := by decide +kernel
theorem kd_Mo_refusal_65 : decode kc_Mo_refusal 65 = .ok (.iload_n 1, 1) := by decide +kernel
theorem kd_Mo_refusal_66 : decode kc_Mo_refusal 66 = .ok (.iconst 3, 1) := by decide +kernel
theorem kd_Mo_refusal_67 : decode kc_Mo_refusal 67 = .ok (.if_icmp .ge 23, 3) := by decide +kernel
theorem kd_Mo_refusal_70 : decode kc_Mo_refusal 70 = .ok (.iload_n 3, 1) := by decide +kernel
theorem kd_Mo_refusal_71 : decode kc_Mo_refusal 71 = .ok (.iconst 1, 1) := by decide +kernel
theorem kd_Mo_refusal_72 : decode kc_Mo_refusal 72 = .ok (.if_icmp .lt 10, 3) := by decide +kernel
theorem kd_Mo_refusal_75 : decode kc_Mo_refusal 75 = .ok (.iload_n 3, 1) := by decide +kernel
theorem kd_Mo_refusal_76 : decode kc_Mo_refusal 76 = .ok (.sipush 2000, 3) := by decide +kernel
theorem kd_Mo_refusal_79 : decode kc_Mo_refusal 79 = .ok (.if_icmp .le 7, 3) := by decide +kernel
theorem kd_Mo_refusal_82 : decode kc_Mo_refusal 82 = .ok (.iconst 1, 1) := by decide +kernel
theorem kd_Mo_refusal_83 : decode kc_Mo_refusal 83 = .ok (.goto 131, 3) := by decide +kernel
theorem kd_Mo_refusal_86 : decode kc_Mo_refusal 86 = .ok (.iconst 0, 1) := by decide +kernel
theorem kd_Mo_refusal_87 : decode kc_Mo_refusal 87 = .ok (.goto 127, 3) := by decide +kernel
theorem kd_Mo_refusal_90 : decode kc_Mo_refusal 90 = .ok (.iload_n 1, 1) := by decide +kernel
theorem kd_Mo_refusal_91 : decode kc_Mo_refusal 91 = .ok (.iconst 5, 1) := by decide +kernel
theorem kd_Mo_refusal_92 : decode kc_Mo_refusal 92 = .ok (.if_icmp .ge 22, 3) := by decide +kernel
theorem kd_Mo_refusal_95 : decode kc_Mo_refusal 95 = .ok (.iload_n 3, 1) := by decide +kernel
theorem kd_Mo_refusal_96 : decode kc_Mo_refusal 96 = .ok (.iconst 1, 1) := by decide +kernel
theorem kd_Mo_refusal_97 : decode kc_Mo_refusal 97 = .ok (.if_icmp .lt 9, 3) := by decide +kernel
theorem kd_Mo_refusal_100 : decode kc_Mo_refusal 100 = .ok (.iload_n 3, 1) := by decide +kernel
theorem kd_Mo_refusal_101 : decode kc_Mo_refusal 101 = .ok (.bipush 125, 2) := by decide +kernel
theorem kd_Mo_refusal_103 : decode kc_Mo_refusal 103 = .ok (.if_icmp .le 7, 3) := by decide +kernel
theorem kd_Mo_refusal_106 : decode kc_Mo_refusal 106 = .ok (.iconst 1, 1) := by decide +kernel
theorem kd_Mo_refusal_107 : decode kc_Mo_refusal 107 = .ok (.goto 107, 3) := by decide +kernel
theorem kd_Mo_refusal_110 : decode kc_Mo_refusal 110 = .ok (.iconst 0, 1) := by decide +kernel
theorem kd_Mo_refusal_111 : decode kc_Mo_refusal 111 = .ok (.goto 103, 3) := by decide +kernel
theorem kd_Mo_refusal_114 : decode kc_Mo_refusal 114 = .ok (.iload_n 1, 1) := by decide +kernel
theorem kd_Mo_refusal_115 : decode kc_Mo_refusal 115 = .ok (.iconst 5, 1) := by decide +kernel
theorem kd_Mo_refusal_116 : decode kc_Mo_refusal 116 = .ok (.if_icmp .ne 22, 3) := by decide +kernel
theorem kd_Mo_refusal_119 : decode kc_Mo_refusal 119 = .ok (.iload_n 3, 1) := by decide +kernel
theorem kd_Mo_refusal_120 : decode kc_Mo_refusal 120 = .ok (.ifCond .eq 14, 3) := by decide +kernel
theorem kd_Mo_refusal_123 : decode kc_Mo_refusal 123 = .ok (.iload_n 3, 1) := by decide +kernel
theorem kd_Mo_refusal_124 : decode kc_Mo_refusal 124 = .ok (.ldc_w 974, 3) := by decide +kernel
theorem kd_Mo_refusal_127 : decode kc_Mo_refusal 127 = .ok (.if_icmp .eq 7, 3) := by decide +kernel
theorem kd_Mo_refusal_130 : decode kc_Mo_refusal 130 = .ok (.iconst 1, 1) := by decide +kernel
theorem kd_Mo_refusal_131 : decode kc_Mo_refusal 131 = .ok (.goto 83, 3) := by decide +kernel
theorem kd_Mo_refusal_134 : decode kc_Mo_refusal 134 = .ok (.iconst 0, 1) := by decide +kernel
theorem kd_Mo_refusal_135 : decode kc_Mo_refusal 135 = .ok (.goto 79, 3) := by decide +kernel
theorem kd_Mo_refusal_138 : decode kc_Mo_refusal 138 = .ok (.iload_n 1, 1) := by decide +kernel
theorem kd_Mo_refusal_139 : decode kc_Mo_refusal 139 = .ok (.bipush 15, 2) := by decide +kernel
theorem kd_Mo_refusal_141 : decode kc_Mo_refusal 141 = .ok (.if_icmp .ne 39, 3) := by decide +kernel
theorem kd_Mo_refusal_144 : decode kc_Mo_refusal 144 = .ok (.iload_n 3, 1) := by decide +kernel
theorem kd_Mo_refusal_145 : decode kc_Mo_refusal 145 = .ok (.iconst 1, 1) := by decide +kernel
theorem kd_Mo_refusal_146 : decode kc_Mo_refusal 146 = .ok (.if_icmp .lt 26, 3) := by decide +kernel
theorem kd_Mo_refusal_149 : decode kc_Mo_refusal 149 = .ok (.iload_n 3, 1) := by decide +kernel
theorem kd_Mo_refusal_150 : decode kc_Mo_refusal 150 = .ok (.sipush 1968, 3) := by decide +kernel
theorem kd_Mo_refusal_153 : decode kc_Mo_refusal 153 = .ok (.if_icmp .gt 19, 3) := by decide +kernel
theorem kd_Mo_refusal_156 : decode kc_Mo_refusal 156 = .ok (.aload_n 0, 1) := by decide +kernel
theorem kd_Mo_refusal_157 : decode kc_Mo_refusal 157 = .ok (.bipush 6, 2) := by decide +kernel
theorem kd_Mo_refusal_159 : decode kc_Mo_refusal 159 = .ok (.invokevirtual 953, 3) := by decide +kernel
theorem kd_Mo_refusal_162 : decode kc_Mo_refusal 162 = .ok (.iload_n 3, 1) := by decide +kernel
theorem kd_Mo_refusal_163 : decode kc_Mo_refusal 163 = .ok (.bipush 7, 2) := by decide +kernel
theorem kd_Mo_refusal_165 : decode kc_Mo_refusal 165 = .ok (.iadd, 1) := by decide +kernel
theorem kd_Mo_refusal_166 : decode kc_Mo_refusal 166 = .ok (.bipush 8, 2) := by decide +kernel
theorem kd_Mo_refusal_168 : decode kc_Mo_refusal 168 = .ok (.idiv, 1) := by decide +kernel
theorem kd_Mo_refusal_169 : decode kc_Mo_refusal 169 = .ok (.if_icmp .eq 7, 3) := by decide +kernel
theorem kd_Mo_refusal_172 : decode kc_Mo_refusal 172 = .ok (.iconst 1, 1) := by decide +kernel
theorem kd_Mo_refusal_173 : decode kc_Mo_refusal 173 = .ok (.goto 41, 3) := by decide +kernel
theorem kd_Mo_refusal_176 : decode kc_Mo_refusal 176 = .ok (.iconst 0, 1) := by decide +kernel
theorem kd_Mo_refusal_177 : decode kc_Mo_refusal 177 = .ok (.goto 37, 3) := by decide +kernel
theorem kd_Mo_refusal_180 : decode kc_Mo_refusal 180 = .ok (.iload_n 1, 1) := by decide +kernel
theorem kd_Mo_refusal_181 : decode kc_Mo_refusal 181 = .ok (.bipush 16, 2) := by decide +kernel
theorem kd_Mo_refusal_183 : decode kc_Mo_refusal 183 = .ok (.if_icmp .ne 30, 3) := by decide +kernel
theorem kd_Mo_refusal_186 : decode kc_Mo_refusal 186 = .ok (.iload_n 3, 1) := by decide +kernel
theorem kd_Mo_refusal_187 : decode kc_Mo_refusal 187 = .ok (.iconst 1, 1) := by decide +kernel
theorem kd_Mo_refusal_188 : decode kc_Mo_refusal 188 = .ok (.if_icmp .lt 21, 3) := by decide +kernel
theorem kd_Mo_refusal_191 : decode kc_Mo_refusal 191 = .ok (.iload_n 3, 1) := by decide +kernel
theorem kd_Mo_refusal_192 : decode kc_Mo_refusal 192 = .ok (.bipush 123, 2) := by decide +kernel
theorem kd_Mo_refusal_194 : decode kc_Mo_refusal 194 = .ok (.if_icmp .gt 15, 3) := by decide +kernel
theorem kd_Mo_refusal_197 : decode kc_Mo_refusal 197 = .ok (.aload_n 0, 1) := by decide +kernel
theorem kd_Mo_refusal_198 : decode kc_Mo_refusal 198 = .ok (.bipush 6, 2) := by decide +kernel
theorem kd_Mo_refusal_200 : decode kc_Mo_refusal 200 = .ok (.invokevirtual 953, 3) := by decide +kernel
theorem kd_Mo_refusal_203 : decode kc_Mo_refusal 203 = .ok (.iconst 2, 1) := by decide +kernel
theorem kd_Mo_refusal_204 : decode kc_Mo_refusal 204 = .ok (.iload_n 3, 1) := by decide +kernel
theorem kd_Mo_refusal_205 : decode kc_Mo_refusal 205 = .ok (.imul, 1) := by decide +kernel
theorem kd_Mo_refusal_206 : decode kc_Mo_refusal 206 = .ok (.if_icmp .eq 7, 3) := by decide +kernel
theorem kd_Mo_refusal_209 : decode kc_Mo_refusal 209 = .ok (.iconst 1, 1) := by decide +kernel
theorem kd_Mo_refusal_210 : decode kc_Mo_refusal 210 = .ok (.goto 4, 3) := by decide +kernel
theorem kd_Mo_refusal_213 : decode kc_Mo_refusal 213 = .ok (.iconst 0, 1) := by decide +kernel
theorem kd_Mo_refusal_214 : decode kc_Mo_refusal 214 = .ok (.istore 4, 2) := by decide +kernel
theorem kd_Mo_refusal_216 : decode kc_Mo_refusal 216 = .ok (.iload 4, 2) := by decide +kernel
theorem kd_Mo_refusal_218 : decode kc_Mo_refusal 218 = .ok (.ifCond .eq 5, 3) := by decide +kernel
theorem kd_Mo_refusal_221 : decode kc_Mo_refusal 221 = .ok (.iconst 3, 1) := by decide +kernel
theorem kd_Mo_refusal_222 : decode kc_Mo_refusal 222 = .ok (.ireturn, 1) := by decide +kernel
theorem kd_Mo_refusal_223 : decode kc_Mo_refusal 223 = .ok (.aload_n 0, 1) := by decide +kernel
theorem kd_Mo_refusal_224 : decode kc_Mo_refusal 224 = .ok (.iconst 0, 1) := by decide +kernel
theorem kd_Mo_refusal_225 : decode kc_Mo_refusal 225 = .ok (.invokevirtual 971, 3) := by decide +kernel
theorem kd_Mo_refusal_228 : decode kc_Mo_refusal 228 = .ok (.iload_n 1, 1) := by decide +kernel
theorem kd_Mo_refusal_229 : decode kc_Mo_refusal 229 = .ok (.iconst 5, 1) := by decide +kernel
theorem kd_Mo_refusal_230 : decode kc_Mo_refusal 230 = .ok (.if_icmp .eq 9, 3) := by decide +kernel
theorem kd_Mo_refusal_233 : decode kc_Mo_refusal 233 = .ok (.iload_n 1, 1) := by decide +kernel
theorem kd_Mo_refusal_234 : decode kc_Mo_refusal 234 = .ok (.bipush 6, 2) := by decide +kernel
theorem kd_Mo_refusal_236 : decode kc_Mo_refusal 236 = .ok (.if_icmp .ne 7, 3) := by decide +kernel
theorem kd_Mo_refusal_239 : decode kc_Mo_refusal 239 = .ok (.iconst 1, 1) := by decide +kernel
theorem kd_Mo_refusal_240 : decode kc_Mo_refusal 240 = .ok (.goto 4, 3) := by decide +kernel
theorem kd_Mo_refusal_243 : decode kc_Mo_refusal 243 = .ok (.iload_n 3, 1) := by decide +kernel
theorem kd_Mo_refusal_244 : decode kc_Mo_refusal 244 = .ok (.iadd, 1) := by decide +kernel
theorem kd_Mo_refusal_245 : decode kc_Mo_refusal 245 = .ok (.iload_n 1, 1) := by decide +kernel
theorem kd_Mo_refusal_246 : decode kc_Mo_refusal 246 = .ok (.invokestatic 975, 3) := by decide +kernel
theorem kd_Mo_refusal_249 : decode kc_Mo_refusal 249 = .ok (.if_icmp .le 7, 3) := by decide +kernel
theorem kd_Mo_refusal_252 : decode kc_Mo_refusal 252 = .ok (.iconst 2, 1) := by decide +kernel
theorem kd_Mo_refusal_253 : decode kc_Mo_refusal 253 = .ok (.goto 4, 3) := by decide +kernel
theorem kd_Mo_refusal_256 : decode kc_Mo_refusal 256 = .ok (.iconst 0, 1) := by decide +kernel
theorem kd_Mo_refusal_257 : decode kc_Mo_refusal 257 = .ok (.ireturn, 1) := by decide +kernel
theorem kd_Mo_reply_0 : decode kc_Mo_reply 0 = .ok (.aload_n 0, 1) := by decide +kernel
theorem kd_Mo_reply_1 : decode kc_Mo_reply 1 = .ok (.aload_n 0, 1) := by decide +kernel
theorem kd_Mo_reply_2 : decode kc_Mo_reply 2 = .ok (.getfield 163, 3) := by decide +kernel
theorem kd_Mo_reply_5 : decode kc_Mo_reply 5 = .ok (.invokevirtual 978, 3) := by decide +kernel
theorem kd_Mo_reply_8 : decode kc_Mo_reply 8 = .ok (.aload_n 0, 1) := by decide +kernel
theorem kd_Mo_reply_9 : decode kc_Mo_reply 9 = .ok (.iload_n 2, 1) := by decide +kernel
theorem kd_Mo_reply_10 : decode kc_Mo_reply 10 = .ok (.ifCond .le 11, 3) := by decide +kernel
theorem kd_Mo_reply_13 : decode kc_Mo_reply 13 = .ok (.iload_n 1, 1) := by decide +kernel
theorem kd_Mo_reply_14 : decode kc_Mo_reply 14 = .ok (.sipush 128, 3) := by decide +kernel
theorem kd_Mo_reply_17 : decode kc_Mo_reply 17 = .ok (.ior, 1) := by decide +kernel
theorem kd_Mo_reply_18 : decode kc_Mo_reply 18 = .ok (.goto 4, 3) := by decide +kernel
theorem kd_Mo_reply_21 : decode kc_Mo_reply 21 = .ok (.iload_n 1, 1) := by decide +kernel
theorem kd_Mo_reply_22 : decode kc_Mo_reply 22 = .ok (.invokevirtual 978, 3) := by decide +kernel
theorem kd_Mo_reply_25 : decode kc_Mo_reply 25 = .ok (.aload_n 0, 1) := by decide +kernel
theorem kd_Mo_reply_26 : decode kc_Mo_reply 26 = .ok (.iconst 0, 1) := by decide +kernel
theorem kd_Mo_reply_27 : decode kc_Mo_reply 27 = .ok (.invokevirtual 971, 3) := by decide +kernel
theorem kd_Mo_reply_30 : decode kc_Mo_reply 30 = .ok (.istore_n 3, 1) := by decide +kernel
theorem kd_Mo_reply_31 : decode kc_Mo_reply 31 = .ok (.aload_n 0, 1) := by decide +kernel
theorem kd_Mo_reply_32 : decode kc_Mo_reply 32 = .ok (.iconst 2, 1) := by decide +kernel
theorem kd_Mo_reply_33 : decode kc_Mo_reply 33 = .ok (.invokevirtual 971, 3) := by decide +kernel
theorem kd_Mo_reply_36 : decode kc_Mo_reply 36 = .ok (.istore 4, 2) := by decide +kernel
theorem kd_Mo_reply_38 : decode kc_Mo_reply 38 = .ok (.iload_n 2, 1) := by decide +kernel
theorem kd_Mo_reply_39 : decode kc_Mo_reply 39 = .ok (.ifCond .le 11, 3) := by decide +kernel
theorem kd_Mo_reply_42 : decode kc_Mo_reply 42 = .ok (.aload_n 0, 1) := by decide +kernel
theorem kd_Mo_reply_43 : decode kc_Mo_reply 43 = .ok (.iload_n 2, 1) := by decide +kernel
theorem kd_Mo_reply_44 : decode kc_Mo_reply 44 = .ok (.invokevirtual 978, 3) := by decide +kernel
theorem kd_Mo_reply_47 : decode kc_Mo_reply 47 = .ok (.goto 181, 3) := by decide +kernel
theorem kd_Mo_reply_50 : decode kc_Mo_reply 50 = .ok (.iload_n 1, 1) := by decide +kernel
theorem kd_Mo_reply_51 : decode kc_Mo_reply 51 = .ok (.iconst 3, 1) := by decide +kernel
theorem kd_Mo_reply_52 : decode kc_Mo_reply 52 = .ok (.if_icmp .ge 89, 3) := by decide +kernel
theorem kd_Mo_reply_55 : decode kc_Mo_reply 55 = .ok (.aload_n 0, 1) := by decide +kernel
theorem kd_Mo_reply_56 : decode kc_Mo_reply 56 = .ok (.iload 4, 2) := by decide +kernel
theorem kd_Mo_reply_58 : decode kc_Mo_reply 58 = .ok (.bipush 7, 2) := by decide +kernel
theorem kd_Mo_reply_60 : decode kc_Mo_reply 60 = .ok (.iadd, 1) := by decide +kernel
theorem kd_Mo_reply_61 : decode kc_Mo_reply 61 = .ok (.bipush 8, 2) := by decide +kernel
theorem kd_Mo_reply_63 : decode kc_Mo_reply 63 = .ok (.idiv, 1) := by decide +kernel
theorem kd_Mo_reply_64 : decode kc_Mo_reply 64 = .ok (.invokevirtual 978, 3) := by decide +kernel
theorem kd_Mo_reply_67 : decode kc_Mo_reply 67 = .ok (.iconst 0, 1) := by decide +kernel
theorem kd_Mo_reply_68 : decode kc_Mo_reply 68 = .ok (.istore 5, 2) := by decide +kernel
theorem kd_Mo_reply_70 : decode kc_Mo_reply 70 = .ok (.iload 5, 2) := by decide +kernel
theorem kd_Mo_reply_72 : decode kc_Mo_reply 72 = .ok (.iload 4, 2) := by decide +kernel
theorem kd_Mo_reply_74 : decode kc_Mo_reply 74 = .ok (.if_icmp .ge 64, 3) := by decide +kernel
theorem kd_Mo_reply_77 : decode kc_Mo_reply 77 = .ok (.iconst 0, 1) := by decide +kernel
theorem kd_Mo_reply_78 : decode kc_Mo_reply 78 = .ok (.istore 6, 2) := by decide +kernel
theorem kd_Mo_reply_80 : decode kc_Mo_reply 80 = .ok (.iconst 0, 1) := by decide +kernel
theorem kd_Mo_reply_81 : decode kc_Mo_reply 81 = .ok (.istore 7, 2) := by decide +kernel
theorem kd_Mo_reply_83 : decode kc_Mo_reply 83 = .ok (.iload 7, 2) := by decide +kernel
theorem kd_Mo_reply_85 : decode kc_Mo_reply 85 = .ok (.bipush 8, 2) := by decide +kernel
theorem kd_Mo_reply_87 : decode kc_Mo_reply 87 = .ok (.if_icmp .ge 39, 3) := by decide +kernel
theorem kd_Mo_reply_90 : decode kc_Mo_reply 90 = .ok (.iload 5, 2) := by decide +kernel
theorem kd_Mo_reply_92 : decode kc_Mo_reply 92 = .ok (.iload 7, 2) := by decide +kernel
theorem kd_Mo_reply_94 : decode kc_Mo_reply 94 = .ok (.iadd, 1) := by decide +kernel
theorem kd_Mo_reply_95 : decode kc_Mo_reply 95 = .ok (.iload 4, 2) := by decide +kernel
theorem kd_Mo_reply_97 : decode kc_Mo_reply 97 = .ok (.if_icmp .ge 29, 3) := by decide +kernel
theorem kd_Mo_reply_100 : decode kc_Mo_reply 100 = .ok (.iload 6, 2) := by decide +kernel
theorem kd_Mo_reply_102 : decode kc_Mo_reply 102 = .ok (.aload_n 0, 1) := by decide +kernel
theorem kd_Mo_reply_103 : decode kc_Mo_reply 103 = .ok (.iload_n 1, 1) := by decide +kernel
theorem kd_Mo_reply_104 : decode kc_Mo_reply 104 = .ok (.iload_n 3, 1) := by decide +kernel
theorem kd_Mo_reply_105 : decode kc_Mo_reply 105 = .ok (.iload 5, 2) := by decide +kernel
theorem kd_Mo_reply_107 : decode kc_Mo_reply 107 = .ok (.iadd, 1) := by decide +kernel
theorem kd_Mo_reply_108 : decode kc_Mo_reply 108 = .ok (.iload 7, 2) := by decide +kernel
theorem kd_Mo_reply_110 : decode kc_Mo_reply 110 = .ok (.iadd, 1) := by decide +kernel
theorem kd_Mo_reply_111 : decode kc_Mo_reply 111 = .ok (.invokevirtual 981, 3) := by decide +kernel
theorem kd_Mo_reply_114 : decode kc_Mo_reply 114 = .ok (.iload 7, 2) := by decide +kernel
theorem kd_Mo_reply_116 : decode kc_Mo_reply 116 = .ok (.ishl, 1) := by decide +kernel
theorem kd_Mo_reply_117 : decode kc_Mo_reply 117 = .ok (.iadd, 1) := by decide +kernel
theorem kd_Mo_reply_118 : decode kc_Mo_reply 118 = .ok (.istore 6, 2) := by decide +kernel
theorem kd_Mo_reply_120 : decode kc_Mo_reply 120 = .ok (.iinc 7 1, 3) := by decide +kernel
theorem kd_Mo_reply_123 : decode kc_Mo_reply 123 = .ok (.goto (-40), 3) := by decide +kernel
theorem kd_Mo_reply_126 : decode kc_Mo_reply 126 = .ok (.aload_n 0, 1) := by decide +kernel
theorem kd_Mo_reply_127 : decode kc_Mo_reply 127 = .ok (.iload 6, 2) := by decide +kernel
theorem kd_Mo_reply_129 : decode kc_Mo_reply 129 = .ok (.invokevirtual 978, 3) := by decide +kernel
theorem kd_Mo_reply_132 : decode kc_Mo_reply 132 = .ok (.iinc 5 8, 3) := by decide +kernel
theorem kd_Mo_reply_135 : decode kc_Mo_reply 135 = .ok (.goto (-65), 3) := by decide +kernel
theorem kd_Mo_reply_138 : decode kc_Mo_reply 138 = .ok (.goto 90, 3) := by decide +kernel
theorem kd_Mo_reply_141 : decode kc_Mo_reply 141 = .ok (.iload_n 1, 1) := by decide +kernel
theorem kd_Mo_reply_142 : decode kc_Mo_reply 142 = .ok (.iconst 5, 1) := by decide +kernel
theorem kd_Mo_reply_143 : decode kc_Mo_reply 143 = .ok (.if_icmp .ge 59, 3) := by decide +kernel
theorem kd_Mo_reply_146 : decode kc_Mo_reply 146 = .ok (.aload_n 0, 1) := by decide +kernel
theorem kd_Mo_reply_147 : decode kc_Mo_reply 147 = .ok (.iconst 2, 1) := by decide +kernel
theorem kd_Mo_reply_148 : decode kc_Mo_reply 148 = .ok (.iload 4, 2) := by decide +kernel
theorem kd_Mo_reply_150 : decode kc_Mo_reply 150 = .ok (.imul, 1) := by decide +kernel
theorem kd_Mo_reply_151 : decode kc_Mo_reply 151 = .ok (.invokevirtual 978, 3) := by decide +kernel
theorem kd_Mo_reply_154 : decode kc_Mo_reply 154 = .ok (.iconst 0, 1) := by decide +kernel
theorem kd_Mo_reply_155 : decode kc_Mo_reply 155 = .ok (.istore 5, 2) := by decide +kernel
theorem kd_Mo_reply_157 : decode kc_Mo_reply 157 = .ok (.iload 5, 2) := by decide +kernel
theorem kd_Mo_reply_159 : decode kc_Mo_reply 159 = .ok (.iload 4, 2) := by decide +kernel
theorem kd_Mo_reply_161 : decode kc_Mo_reply 161 = .ok (.if_icmp .ge 38, 3) := by decide +kernel
theorem kd_Mo_reply_164 : decode kc_Mo_reply 164 = .ok (.aload_n 0, 1) := by decide +kernel
theorem kd_Mo_reply_165 : decode kc_Mo_reply 165 = .ok (.aload_n 0, 1) := by decide +kernel
theorem kd_Mo_reply_166 : decode kc_Mo_reply 166 = .ok (.iload_n 1, 1) := by decide +kernel
theorem kd_Mo_reply_167 : decode kc_Mo_reply 167 = .ok (.iload_n 3, 1) := by decide +kernel
theorem kd_Mo_reply_168 : decode kc_Mo_reply 168 = .ok (.iload 5, 2) := by decide +kernel
theorem kd_Mo_reply_170 : decode kc_Mo_reply 170 = .ok (.iadd, 1) := by decide +kernel
theorem kd_Mo_reply_171 : decode kc_Mo_reply 171 = .ok (.invokevirtual 981, 3) := by decide +kernel
theorem kd_Mo_reply_174 : decode kc_Mo_reply 174 = .ok (.bipush 8, 2) := by decide +kernel
theorem kd_Mo_reply_176 : decode kc_Mo_reply 176 = .ok (.ishr, 1) := by decide +kernel
theorem kd_Mo_reply_177 : decode kc_Mo_reply 177 = .ok (.invokevirtual 978, 3) := by decide +kernel
theorem kd_Mo_reply_180 : decode kc_Mo_reply 180 = .ok (.aload_n 0, 1) := by decide +kernel
theorem kd_Mo_reply_181 : decode kc_Mo_reply 181 = .ok (.aload_n 0, 1) := by decide +kernel
theorem kd_Mo_reply_182 : decode kc_Mo_reply 182 = .ok (.iload_n 1, 1) := by decide +kernel
theorem kd_Mo_reply_183 : decode kc_Mo_reply 183 = .ok (.iload_n 3, 1) := by decide +kernel
theorem kd_Mo_reply_184 : decode kc_Mo_reply 184 = .ok (.iload 5, 2) := by decide +kernel
theorem kd_Mo_reply_186 : decode kc_Mo_reply 186 = .ok (.iadd, 1) := by decide +kernel
theorem kd_Mo_reply_187 : decode kc_Mo_reply 187 = .ok (.invokevirtual 981, 3) := by decide +kernel
theorem kd_Mo_reply_190 : decode kc_Mo_reply 190 = .ok (.invokevirtual 978, 3) := by decide +kernel
theorem kd_Mo_reply_193 : decode kc_Mo_reply 193 = .ok (.iinc 5 1, 3) := by decide +kernel
theorem kd_Mo_reply_196 : decode kc_Mo_reply 196 = .ok (.goto (-39), 3) := by decide +kernel
theorem kd_Mo_reply_199 : decode kc_Mo_reply 199 = .ok (.goto 29, 3) := by decide +kernel
theorem kd_Mo_reply_202 : decode kc_Mo_reply 202 = .ok (.iconst 2, 1) := by decide +kernel
theorem kd_Mo_reply_203 : decode kc_Mo_reply 203 = .ok (.istore 5, 2) := by decide +kernel
theorem kd_Mo_reply_205 : decode kc_Mo_reply 205 = .ok (.iload 5, 2) := by decide +kernel
theorem kd_Mo_reply_207 : decode kc_Mo_reply 207 = .ok (.bipush 6, 2) := by decide +kernel
theorem kd_Mo_reply_209 : decode kc_Mo_reply 209 = .ok (.if_icmp .ge 19, 3) := by decide +kernel
theorem kd_Mo_reply_212 : decode kc_Mo_reply 212 = .ok (.aload_n 0, 1) := by decide +kernel
theorem kd_Mo_reply_213 : decode kc_Mo_reply 213 = .ok (.aload_n 0, 1) := by decide +kernel
theorem kd_Mo_reply_214 : decode kc_Mo_reply 214 = .ok (.iload 5, 2) := by decide +kernel
theorem kd_Mo_reply_216 : decode kc_Mo_reply 216 = .ok (.invokevirtual 953, 3) := by decide +kernel
theorem kd_Mo_reply_219 : decode kc_Mo_reply 219 = .ok (.invokevirtual 978, 3) := by decide +kernel
theorem kd_Mo_reply_222 : decode kc_Mo_reply 222 = .ok (.iinc 5 1, 3) := by decide +kernel
theorem kd_Mo_reply_225 : decode kc_Mo_reply 225 = .ok (.goto (-20), 3) := by decide +kernel
theorem kd_Mo_reply_228 : decode kc_Mo_reply 228 = .ok (.ldc_w 801, 3) := by decide +kernel
theorem kd_Mo_reply_231 : decode kc_Mo_reply 231 = .ok (.istore 5, 2) := by decide +kernel
theorem kd_Mo_reply_233 : decode kc_Mo_reply 233 = .ok (.iconst 0, 1) := by decide +kernel
theorem kd_Mo_reply_234 : decode kc_Mo_reply 234 = .ok (.istore 6, 2) := by decide +kernel
theorem kd_Mo_reply_236 : decode kc_Mo_reply 236 = .ok (.iload 6, 2) := by decide +kernel
theorem kd_Mo_reply_238 : decode kc_Mo_reply 238 = .ok (.aload_n 0, 1) := by decide +kernel
theorem kd_Mo_reply_239 : decode kc_Mo_reply 239 = .ok (.getfield 956, 3) := by decide +kernel
theorem kd_Mo_reply_242 : decode kc_Mo_reply 242 = .ok (.if_icmp .ge 23, 3) := by decide +kernel
theorem kd_Mo_reply_245 : decode kc_Mo_reply 245 = .ok (.iload 5, 2) := by decide +kernel
theorem kd_Mo_reply_247 : decode kc_Mo_reply 247 = .ok (.aload_n 0, 1) := by decide +kernel
theorem kd_Mo_reply_248 : decode kc_Mo_reply 248 = .ok (.getfield 166, 3) := by decide +kernel
theorem kd_Mo_reply_251 : decode kc_Mo_reply 251 = .ok (.iload 6, 2) := by decide +kernel
theorem kd_Mo_reply_253 : decode kc_Mo_reply 253 = .ok (.iaload, 1) := by decide +kernel
theorem kd_Mo_reply_254 : decode kc_Mo_reply 254 = .ok (.invokestatic 959, 3) := by decide +kernel
theorem kd_Mo_reply_257 : decode kc_Mo_reply 257 = .ok (.istore 5, 2) := by decide +kernel
theorem kd_Mo_reply_259 : decode kc_Mo_reply 259 = .ok (.iinc 6 1, 3) := by decide +kernel
theorem kd_Mo_reply_262 : decode kc_Mo_reply 262 = .ok (.goto (-26), 3) := by decide +kernel
theorem kd_Mo_reply_265 : decode kc_Mo_reply 265 = .ok (.aload_n 0, 1) := by decide +kernel
theorem kd_Mo_reply_266 : decode kc_Mo_reply 266 = .ok (.iload 5, 2) := by decide +kernel
theorem kd_Mo_reply_268 : decode kc_Mo_reply 268 = .ok (.invokevirtual 978, 3) := by decide +kernel
theorem kd_Mo_reply_271 : decode kc_Mo_reply 271 = .ok (.aload_n 0, 1) := by decide +kernel
theorem kd_Mo_reply_272 : decode kc_Mo_reply 272 = .ok (.iload 5, 2) := by decide +kernel
theorem kd_Mo_reply_274 : decode kc_Mo_reply 274 = .ok (.bipush 8, 2) := by decide +kernel
theorem kd_Mo_reply_276 : decode kc_Mo_reply 276 = .ok (.ishr, 1) := by decide +kernel
theorem kd_Mo_reply_277 : decode kc_Mo_reply 277 = .ok (.invokevirtual 978, 3) := by decide +kernel
theorem kd_Mo_reply_280 : decode kc_Mo_reply 280 = .ok (.return_, 1) := by decide +kernel
theorem kd_Mo_station_0 : decode kc_Mo_station 0 = .ok (.iload_n 1, 1) := by decide +kernel
theorem kd_Mo_station_1 : decode kc_Mo_station 1 = .ok (.iconst 1, 1) := by decide +kernel
theorem kd_Mo_station_2 : decode kc_Mo_station 2 = .ok (.if_icmp .lt 10, 3) := by decide +kernel
theorem kd_Mo_station_5 : decode kc_Mo_station 5 = .ok (.iload_n 1, 1) := by decide +kernel
theorem kd_Mo_station_6 : decode kc_Mo_station 6 = .ok (.sipush 247, 3) := by decide +kernel
theorem kd_Mo_station_9 : decode kc_Mo_station 9 = .ok (.if_icmp .le 5, 3) := by decide +kernel
theorem kd_Mo_station_12 : decode kc_Mo_station 12 = .ok (.iconst (-1), 1) := by decide +kernel
theorem kd_Mo_station_13 : decode kc_Mo_station 13 = .ok (.ireturn, 1) := by decide +kernel
theorem kd_Mo_station_14 : decode kc_Mo_station 14 = .ok (.aload_n 0, 1) := by decide +kernel
theorem kd_Mo_station_15 : decode kc_Mo_station 15 = .ok (.getfield 163, 3) := by decide +kernel
theorem kd_Mo_station_18 : decode kc_Mo_station 18 = .ok (.istore_n 2, 1) := by decide +kernel
theorem kd_Mo_station_19 : decode kc_Mo_station 19 = .ok (.aload_n 0, 1) := by decide +kernel
theorem kd_Mo_station_20 : decode kc_Mo_station 20 = .ok (.iload_n 1, 1) := by decide +kernel
theorem kd_Mo_station_21 : decode kc_Mo_station 21 = .ok (.putfield 163, 3) := by decide +kernel
theorem kd_Mo_station_24 : decode kc_Mo_station 24 = .ok (.iload_n 2, 1) := by decide +kernel
theorem kd_Mo_station_25 : decode kc_Mo_station 25 = .ok (.ireturn, 1) := by decide +kernel
theorem kd_Mo_summed_0 : decode kc_Mo_summed 0 = .ok (.iload_n 0, 1) := by decide +kernel
theorem kd_Mo_summed_1 : decode kc_Mo_summed 1 = .ok (.iload_n 1, 1) := by decide +kernel
theorem kd_Mo_summed_2 : decode kc_Mo_summed 2 = .ok (.ixor, 1) := by decide +kernel
theorem kd_Mo_summed_3 : decode kc_Mo_summed 3 = .ok (.istore_n 2, 1) := by decide +kernel
theorem kd_Mo_summed_4 : decode kc_Mo_summed 4 = .ok (.iconst 0, 1) := by decide +kernel
theorem kd_Mo_summed_5 : decode kc_Mo_summed 5 = .ok (.istore_n 3, 1) := by decide +kernel
theorem kd_Mo_summed_6 : decode kc_Mo_summed 6 = .ok (.iload_n 3, 1) := by decide +kernel
theorem kd_Mo_summed_7 : decode kc_Mo_summed 7 = .ok (.bipush 8, 2) := by decide +kernel
theorem kd_Mo_summed_9 : decode kc_Mo_summed 9 = .ok (.if_icmp .ge 30, 3) := by decide +kernel
theorem kd_Mo_summed_12 : decode kc_Mo_summed 12 = .ok (.iload_n 2, 1) := by decide +kernel
theorem kd_Mo_summed_13 : decode kc_Mo_summed 13 = .ok (.iconst 2, 1) := by decide +kernel
theorem kd_Mo_summed_14 : decode kc_Mo_summed 14 = .ok (.irem, 1) := by decide +kernel
theorem kd_Mo_summed_15 : decode kc_Mo_summed 15 = .ok (.iconst 1, 1) := by decide +kernel
theorem kd_Mo_summed_16 : decode kc_Mo_summed 16 = .ok (.if_icmp .ne 13, 3) := by decide +kernel
theorem kd_Mo_summed_19 : decode kc_Mo_summed 19 = .ok (.iload_n 2, 1) := by decide +kernel
theorem kd_Mo_summed_20 : decode kc_Mo_summed 20 = .ok (.iconst 2, 1) := by decide +kernel
theorem kd_Mo_summed_21 : decode kc_Mo_summed 21 = .ok (.idiv, 1) := by decide +kernel
theorem kd_Mo_summed_22 : decode kc_Mo_summed 22 = .ok (.ldc_w 952, 3) := by decide +kernel
theorem kd_Mo_summed_25 : decode kc_Mo_summed 25 = .ok (.ixor, 1) := by decide +kernel
theorem kd_Mo_summed_26 : decode kc_Mo_summed 26 = .ok (.goto 6, 3) := by decide +kernel
theorem kd_Mo_summed_29 : decode kc_Mo_summed 29 = .ok (.iload_n 2, 1) := by decide +kernel
theorem kd_Mo_summed_30 : decode kc_Mo_summed 30 = .ok (.iconst 2, 1) := by decide +kernel
theorem kd_Mo_summed_31 : decode kc_Mo_summed 31 = .ok (.idiv, 1) := by decide +kernel
theorem kd_Mo_summed_32 : decode kc_Mo_summed 32 = .ok (.istore_n 2, 1) := by decide +kernel
theorem kd_Mo_summed_33 : decode kc_Mo_summed 33 = .ok (.iinc 3 1, 3) := by decide +kernel
theorem kd_Mo_summed_36 : decode kc_Mo_summed 36 = .ok (.goto (-30), 3) := by decide +kernel
theorem kd_Mo_summed_39 : decode kc_Mo_summed 39 = .ok (.iload_n 2, 1) := by decide +kernel
theorem kd_Mo_summed_40 : decode kc_Mo_summed 40 = .ok (.ireturn, 1) := by decide +kernel
theorem kd_Mo_tableSize_0 : decode kc_Mo_tableSize 0 = .ok (.iload_n 0, 1) := by decide +kernel
theorem kd_Mo_tableSize_1 : decode kc_Mo_tableSize 1 = .ok (.iconst 2, 1) := by decide +kernel
theorem kd_Mo_tableSize_2 : decode kc_Mo_tableSize 2 = .ok (.if_icmp .ne 9, 3) := by decide +kernel
theorem kd_Mo_tableSize_5 : decode kc_Mo_tableSize 5 = .ok (.sipush 512, 3) := by decide +kernel
theorem kd_Mo_tableSize_8 : decode kc_Mo_tableSize 8 = .ok (.goto 38, 3) := by decide +kernel
theorem kd_Mo_tableSize_11 : decode kc_Mo_tableSize 11 = .ok (.iload_n 0, 1) := by decide +kernel
theorem kd_Mo_tableSize_12 : decode kc_Mo_tableSize 12 = .ok (.iconst 4, 1) := by decide +kernel
theorem kd_Mo_tableSize_13 : decode kc_Mo_tableSize 13 = .ok (.if_icmp .ne 9, 3) := by decide +kernel
theorem kd_Mo_tableSize_16 : decode kc_Mo_tableSize 16 = .ok (.sipush 128, 3) := by decide +kernel
theorem kd_Mo_tableSize_19 : decode kc_Mo_tableSize 19 = .ok (.goto 27, 3) := by decide +kernel
theorem kd_Mo_tableSize_22 : decode kc_Mo_tableSize 22 = .ok (.iload_n 0, 1) := by decide +kernel
theorem kd_Mo_tableSize_23 : decode kc_Mo_tableSize 23 = .ok (.iconst 1, 1) := by decide +kernel
theorem kd_Mo_tableSize_24 : decode kc_Mo_tableSize 24 = .ok (.if_icmp .eq 14, 3) := by decide +kernel
theorem kd_Mo_tableSize_27 : decode kc_Mo_tableSize 27 = .ok (.iload_n 0, 1) := by decide +kernel
theorem kd_Mo_tableSize_28 : decode kc_Mo_tableSize 28 = .ok (.iconst 5, 1) := by decide +kernel
theorem kd_Mo_tableSize_29 : decode kc_Mo_tableSize 29 = .ok (.if_icmp .eq 9, 3) := by decide +kernel
theorem kd_Mo_tableSize_32 : decode kc_Mo_tableSize 32 = .ok (.iload_n 0, 1) := by decide +kernel
theorem kd_Mo_tableSize_33 : decode kc_Mo_tableSize 33 = .ok (.bipush 15, 2) := by decide +kernel
theorem kd_Mo_tableSize_35 : decode kc_Mo_tableSize 35 = .ok (.if_icmp .ne 9, 3) := by decide +kernel
theorem kd_Mo_tableSize_38 : decode kc_Mo_tableSize 38 = .ok (.sipush 256, 3) := by decide +kernel
theorem kd_Mo_tableSize_41 : decode kc_Mo_tableSize 41 = .ok (.goto 5, 3) := by decide +kernel
theorem kd_Mo_tableSize_44 : decode kc_Mo_tableSize 44 = .ok (.bipush 64, 2) := by decide +kernel
theorem kd_Mo_tableSize_46 : decode kc_Mo_tableSize 46 = .ok (.ireturn, 1) := by decide +kernel
theorem kd_Mo_told_0 : decode kc_Mo_told 0 = .ok (.iload_n 1, 1) := by decide +kernel
theorem kd_Mo_told_1 : decode kc_Mo_told 1 = .ok (.tableswitch 76 1 3 #[27, 38, 65], 27) := by decide +kernel
theorem kd_Mo_told_28 : decode kc_Mo_told 28 = .ok (.aload_n 0, 1) := by decide +kernel
theorem kd_Mo_told_29 : decode kc_Mo_told 29 = .ok (.getfield 150, 3) := by decide +kernel
theorem kd_Mo_told_32 : decode kc_Mo_told 32 = .ok (.sipush 512, 3) := by decide +kernel
theorem kd_Mo_told_35 : decode kc_Mo_told 35 = .ok (.iload_n 2, 1) := by decide +kernel
theorem kd_Mo_told_36 : decode kc_Mo_told 36 = .ok (.iadd, 1) := by decide +kernel
theorem kd_Mo_told_37 : decode kc_Mo_told 37 = .ok (.iaload, 1) := by decide +kernel
theorem kd_Mo_told_38 : decode kc_Mo_told 38 = .ok (.ireturn, 1) := by decide +kernel
theorem kd_Mo_told_39 : decode kc_Mo_told 39 = .ok (.iload_n 2, 1) := by decide +kernel
theorem kd_Mo_told_40 : decode kc_Mo_told 40 = .ok (.sipush 256, 3) := by decide +kernel
theorem kd_Mo_told_43 : decode kc_Mo_told 43 = .ok (.if_icmp .ge 12, 3) := by decide +kernel
theorem kd_Mo_told_46 : decode kc_Mo_told 46 = .ok (.aload_n 0, 1) := by decide +kernel
theorem kd_Mo_told_47 : decode kc_Mo_told 47 = .ok (.getfield 169, 3) := by decide +kernel
theorem kd_Mo_told_50 : decode kc_Mo_told 50 = .ok (.iload_n 2, 1) := by decide +kernel
theorem kd_Mo_told_51 : decode kc_Mo_told 51 = .ok (.iaload, 1) := by decide +kernel
theorem kd_Mo_told_52 : decode kc_Mo_told 52 = .ok (.goto 13, 3) := by decide +kernel
theorem kd_Mo_told_55 : decode kc_Mo_told 55 = .ok (.aload_n 0, 1) := by decide +kernel
theorem kd_Mo_told_56 : decode kc_Mo_told 56 = .ok (.getfield 172, 3) := by decide +kernel
theorem kd_Mo_told_59 : decode kc_Mo_told 59 = .ok (.iload_n 2, 1) := by decide +kernel
theorem kd_Mo_told_60 : decode kc_Mo_told 60 = .ok (.sipush 256, 3) := by decide +kernel
theorem kd_Mo_told_63 : decode kc_Mo_told 63 = .ok (.isub, 1) := by decide +kernel
theorem kd_Mo_told_64 : decode kc_Mo_told 64 = .ok (.iaload, 1) := by decide +kernel
theorem kd_Mo_told_65 : decode kc_Mo_told 65 = .ok (.ireturn, 1) := by decide +kernel
theorem kd_Mo_told_66 : decode kc_Mo_told 66 = .ok (.aload_n 0, 1) := by decide +kernel
theorem kd_Mo_told_67 : decode kc_Mo_told 67 = .ok (.getfield 150, 3) := by decide +kernel
theorem kd_Mo_told_70 : decode kc_Mo_told 70 = .ok (.sipush 896, 3) := by decide +kernel
theorem kd_Mo_told_73 : decode kc_Mo_told 73 = .ok (.iload_n 2, 1) := by decide +kernel
theorem kd_Mo_told_74 : decode kc_Mo_told 74 = .ok (.iadd, 1) := by decide +kernel
theorem kd_Mo_told_75 : decode kc_Mo_told 75 = .ok (.iaload, 1) := by decide +kernel
theorem kd_Mo_told_76 : decode kc_Mo_told 76 = .ok (.ireturn, 1) := by decide +kernel
theorem kd_Mo_told_77 : decode kc_Mo_told 77 = .ok (.iload_n 2, 1) := by decide +kernel
theorem kd_Mo_told_78 : decode kc_Mo_told 78 = .ok (.bipush 64, 2) := by decide +kernel
theorem kd_Mo_told_80 : decode kc_Mo_told 80 = .ok (.if_icmp .ge 16, 3) := by decide +kernel
theorem kd_Mo_told_83 : decode kc_Mo_told 83 = .ok (.aload_n 0, 1) := by decide +kernel
theorem kd_Mo_told_84 : decode kc_Mo_told 84 = .ok (.getfield 169, 3) := by decide +kernel
theorem kd_Mo_told_87 : decode kc_Mo_told 87 = .ok (.sipush 256, 3) := by decide +kernel
theorem kd_Mo_told_90 : decode kc_Mo_told 90 = .ok (.iload_n 2, 1) := by decide +kernel
theorem kd_Mo_told_91 : decode kc_Mo_told 91 = .ok (.iadd, 1) := by decide +kernel
theorem kd_Mo_told_92 : decode kc_Mo_told 92 = .ok (.iaload, 1) := by decide +kernel
theorem kd_Mo_told_93 : decode kc_Mo_told 93 = .ok (.goto 16, 3) := by decide +kernel
theorem kd_Mo_told_96 : decode kc_Mo_told 96 = .ok (.aload_n 0, 1) := by decide +kernel
theorem kd_Mo_told_97 : decode kc_Mo_told 97 = .ok (.getfield 172, 3) := by decide +kernel
theorem kd_Mo_told_100 : decode kc_Mo_told 100 = .ok (.sipush 256, 3) := by decide +kernel
theorem kd_Mo_told_103 : decode kc_Mo_told 103 = .ok (.iload_n 2, 1) := by decide +kernel
theorem kd_Mo_told_104 : decode kc_Mo_told 104 = .ok (.iadd, 1) := by decide +kernel
theorem kd_Mo_told_105 : decode kc_Mo_told 105 = .ok (.bipush 64, 2) := by decide +kernel
theorem kd_Mo_told_107 : decode kc_Mo_told 107 = .ok (.isub, 1) := by decide +kernel
theorem kd_Mo_told_108 : decode kc_Mo_told 108 = .ok (.iaload, 1) := by decide +kernel
theorem kd_Mo_told_109 : decode kc_Mo_told 109 = .ok (.ireturn, 1) := by decide +kernel
theorem kd_Mo_useTape_0 : decode kc_Mo_useTape 0 = .ok (.aload_n 0, 1) := by decide +kernel
theorem kd_Mo_useTape_1 : decode kc_Mo_useTape 1 = .ok (.getfield 844, 3) := by decide +kernel
theorem kd_Mo_useTape_4 : decode kc_Mo_useTape 4 = .ok (.istore_n 1, 1) := by decide +kernel
theorem kd_Mo_useTape_5 : decode kc_Mo_useTape 5 = .ok (.aload_n 0, 1) := by decide +kernel
theorem kd_Mo_useTape_6 : decode kc_Mo_useTape 6 = .ok (.iconst 0, 1) := by decide +kernel
theorem kd_Mo_useTape_7 : decode kc_Mo_useTape 7 = .ok (.putfield 844, 3) := by decide +kernel
theorem kd_Mo_useTape_10 : decode kc_Mo_useTape 10 = .ok (.iload_n 1, 1) := by decide +kernel
theorem kd_Mo_useTape_11 : decode kc_Mo_useTape 11 = .ok (.ireturn, 1) := by decide +kernel
theorem kd_Mo_watched_0 : decode kc_Mo_watched 0 = .ok (.aload_n 0, 1) := by decide +kernel
theorem kd_Mo_watched_1 : decode kc_Mo_watched 1 = .ok (.getfield 937, 3) := by decide +kernel
theorem kd_Mo_watched_4 : decode kc_Mo_watched 4 = .ok (.ireturn, 1) := by decide +kernel
set_option maxHeartbeats 4000000 in
set_option maxRecDepth 100000 in
theorem zc_Mo_count {l : Launch} {D : va_G} {sz0 : Nat} {S : zs_T} {P : ze_T} (h : zs_H) (x1 : Int32) {rv : Int32} (e : f_Mo_count h x1 = some rv) : zk_Sp (zs_G S l D sz0) (ze_E P) km_Mo_count { frames := 0, cells := 0, slots := 0, locals := 0 } [.ref (S.1 68), .int x1] (zs_W S h) (zd_PI S rv h) := by
  refine zk_met ku_Mo_count (Nat.le_of_ble_eq_true rfl) (ze_Em P) ?_
  intro X C hR
  refine zk_lvs (lv' := [(0, .ref (S.1 68)), (1, .int x1)]) [0, 1] rfl ?_
  unfold f_Mo_count at e
  refine zk_iload_n C kd_Mo_count_0 rfl 1 rfl rfl ?_
  by_cases b1 : x1 = 0
  · replace e := zd_pos b1 e
    refine zk_tableIn (tgt := 56) C kd_Mo_count_1 (by rw [b1]; decide) (by rw [b1]; decide) (by rw [b1]; rfl) (by decide) ?_
    refine zk_aload_n C kd_Mo_count_56 rfl 0 rfl rfl ?_
    refine zs_get (v := .int (h.1 68 80)) C 68 80 rfl rfl rfl rfl ki_Mo (by decide) kw1763 kd_Mo_count_57 rfl ?_
    exact zk_iret C hR kd_Mo_count_60 rfl rfl (zd_rIO e)
  replace e := zd_neg b1 e
  by_cases b2 : x1 = 1
  · replace e := zd_pos b2 e
    refine zk_tableIn (tgt := 61) C kd_Mo_count_1 (by rw [b2]; decide) (by rw [b2]; decide) (by rw [b2]; rfl) (by decide) ?_
    refine zk_aload_n C kd_Mo_count_61 rfl 0 rfl rfl ?_
    refine zs_get (v := .int (h.1 68 80)) C 68 80 rfl rfl rfl rfl ki_Mo (by decide) kw1763 kd_Mo_count_62 rfl ?_
    refine zk_if_ne (tgt := 73) C kd_Mo_count_65 (by decide) rfl (fun b3 => ?_) (fun b3 => ?_)
    · replace e := zd_neg b3 e
      refine zk_aload_n C kd_Mo_count_73 rfl 0 rfl rfl ?_
      refine zs_get (v := .int (h.1 68 81)) C 68 81 rfl rfl rfl rfl ki_Mo (by decide) kw1764 kd_Mo_count_74 rfl ?_
      exact zk_iret C hR kd_Mo_count_77 rfl rfl (zd_rIO e)
    · replace e := zd_pos b3 e
      refine zk_bipush (v := (-5)) C kd_Mo_count_68 (by decide) rfl ?_
      refine zk_goto (tgt := 77) C kd_Mo_count_70 (by decide) ?_
      exact zk_iret C hR kd_Mo_count_77 rfl rfl (zd_rIO e)
  replace e := zd_neg b2 e
  by_cases b4 : x1 = 2
  · replace e := zd_pos b4 e
    refine zk_tableIn (tgt := 78) C kd_Mo_count_1 (by rw [b4]; decide) (by rw [b4]; decide) (by rw [b4]; rfl) (by decide) ?_
    refine zk_aload_n C kd_Mo_count_78 rfl 0 rfl rfl ?_
    refine zs_get (v := .int (h.1 68 82)) C 68 82 rfl rfl rfl rfl ki_Mo (by decide) kw1765 kd_Mo_count_79 rfl ?_
    refine zk_if_eq (tgt := 100) C kd_Mo_count_82 (by decide) rfl (fun b5 => ?_) (fun b5 => ?_)
    · replace e := zd_pos b5 e
      refine zk_iconst (v := 0) C kd_Mo_count_100 (by decide) rfl ?_
      exact zk_iret C hR kd_Mo_count_101 rfl rfl (zd_rIO e)
    · replace e := zd_neg b5 e
      refine zk_aload_n C kd_Mo_count_85 rfl 0 rfl rfl ?_
      refine zs_get (v := .ref (S.1 109)) C 68 65 rfl rfl rfl rfl ki_Mo (by decide) kw1748 kd_Mo_count_86 rfl ?_
      refine zk_aload_n C kd_Mo_count_89 rfl 0 rfl rfl ?_
      refine zs_get (v := .int (h.1 68 33)) C 68 33 rfl rfl rfl rfl ki_Mo (by decide) kw1716 kd_Mo_count_90 rfl ?_
      refine zk_iconst (v := 1) C kd_Mo_count_93 (by decide) rfl ?_
      refine zk_isub C kd_Mo_count_94 rfl ?_
      obtain ⟨q6, e⟩ := zd_g e
      refine zs_lald C 109 rfl (zd_vp q6) kd_Mo_count_95 rfl ?_
      refine zk_l2i C kd_Mo_count_96 rfl ?_
      refine zk_goto (tgt := 101) C kd_Mo_count_97 (by decide) ?_
      exact zk_iret C hR kd_Mo_count_101 rfl rfl (zd_rIO e)
  replace e := zd_neg b4 e
  by_cases b7 : x1 = 3
  · replace e := zd_pos b7 e
    refine zk_tableIn (tgt := 102) C kd_Mo_count_1 (by rw [b7]; decide) (by rw [b7]; decide) (by rw [b7]; rfl) (by decide) ?_
    refine zk_aload_n C kd_Mo_count_102 rfl 0 rfl rfl ?_
    refine zs_get (v := .int (h.1 68 82)) C 68 82 rfl rfl rfl rfl ki_Mo (by decide) kw1765 kd_Mo_count_103 rfl ?_
    refine zk_if_eq (tgt := 116) C kd_Mo_count_106 (by decide) rfl (fun b8 => ?_) (fun b8 => ?_)
    · replace e := zd_pos b8 e
      refine zk_iconst (v := 0) C kd_Mo_count_116 (by decide) rfl ?_
      exact zk_iret C hR kd_Mo_count_117 rfl rfl (zd_rIO e)
    · replace e := zd_neg b8 e
      refine zk_aload_n C kd_Mo_count_109 rfl 0 rfl rfl ?_
      refine zs_get (v := .int (h.1 68 56)) C 68 56 rfl rfl rfl rfl ki_Mo (by decide) kw1739 kd_Mo_count_110 rfl ?_
      refine zk_goto (tgt := 117) C kd_Mo_count_113 (by decide) ?_
      exact zk_iret C hR kd_Mo_count_117 rfl rfl (zd_rIO e)
  replace e := zd_neg b7 e
  by_cases b9 : x1 = 4
  · replace e := zd_pos b9 e
    refine zk_tableIn (tgt := 118) C kd_Mo_count_1 (by rw [b9]; decide) (by rw [b9]; decide) (by rw [b9]; rfl) (by decide) ?_
    refine zk_aload_n C kd_Mo_count_118 rfl 0 rfl rfl ?_
    refine zs_get (v := .int (h.1 68 82)) C 68 82 rfl rfl rfl rfl ki_Mo (by decide) kw1765 kd_Mo_count_119 rfl ?_
    refine zk_if_eq (tgt := 132) C kd_Mo_count_122 (by decide) rfl (fun b10 => ?_) (fun b10 => ?_)
    · replace e := zd_pos b10 e
      refine zk_iconst (v := 0) C kd_Mo_count_132 (by decide) rfl ?_
      exact zk_iret C hR kd_Mo_count_133 rfl rfl (zd_rIO e)
    · replace e := zd_neg b10 e
      refine zk_aload_n C kd_Mo_count_125 rfl 0 rfl rfl ?_
      refine zs_get (v := .int (h.1 68 55)) C 68 55 rfl rfl rfl rfl ki_Mo (by decide) kw1738 kd_Mo_count_126 rfl ?_
      refine zk_goto (tgt := 133) C kd_Mo_count_129 (by decide) ?_
      exact zk_iret C hR kd_Mo_count_133 rfl rfl (zd_rIO e)
  replace e := zd_neg b9 e
  by_cases b11 : x1 = 5
  · replace e := zd_pos b11 e
    refine zk_tableIn (tgt := 134) C kd_Mo_count_1 (by rw [b11]; decide) (by rw [b11]; decide) (by rw [b11]; rfl) (by decide) ?_
    refine zk_aload_n C kd_Mo_count_134 rfl 0 rfl rfl ?_
    refine zs_get (v := .int (h.1 68 82)) C 68 82 rfl rfl rfl rfl ki_Mo (by decide) kw1765 kd_Mo_count_135 rfl ?_
    refine zk_if_eq (tgt := 148) C kd_Mo_count_138 (by decide) rfl (fun b12 => ?_) (fun b12 => ?_)
    · replace e := zd_pos b12 e
      refine zk_iconst (v := 0) C kd_Mo_count_148 (by decide) rfl ?_
      exact zk_iret C hR kd_Mo_count_149 rfl rfl (zd_rIO e)
    · replace e := zd_neg b12 e
      refine zk_aload_n C kd_Mo_count_141 rfl 0 rfl rfl ?_
      refine zs_get (v := .int (h.1 68 74)) C 68 74 rfl rfl rfl rfl ki_Mo (by decide) kw1757 kd_Mo_count_142 rfl ?_
      refine zk_goto (tgt := 149) C kd_Mo_count_145 (by decide) ?_
      exact zk_iret C hR kd_Mo_count_149 rfl rfl (zd_rIO e)
  replace e := zd_neg b11 e
  by_cases b13 : x1 = 6
  · replace e := zd_pos b13 e
    refine zk_tableIn (tgt := 150) C kd_Mo_count_1 (by rw [b13]; decide) (by rw [b13]; decide) (by rw [b13]; rfl) (by decide) ?_
    refine zk_aload_n C kd_Mo_count_150 rfl 0 rfl rfl ?_
    refine zs_get (v := .int (h.1 68 82)) C 68 82 rfl rfl rfl rfl ki_Mo (by decide) kw1765 kd_Mo_count_151 rfl ?_
    refine zk_if_eq (tgt := 164) C kd_Mo_count_154 (by decide) rfl (fun b14 => ?_) (fun b14 => ?_)
    · replace e := zd_pos b14 e
      refine zk_iconst (v := 0) C kd_Mo_count_164 (by decide) rfl ?_
      exact zk_iret C hR kd_Mo_count_165 rfl rfl (zd_rIO e)
    · replace e := zd_neg b14 e
      refine zk_aload_n C kd_Mo_count_157 rfl 0 rfl rfl ?_
      refine zs_get (v := .int (h.1 68 84)) C 68 84 rfl rfl rfl rfl ki_Mo (by decide) kw1767 kd_Mo_count_158 rfl ?_
      refine zk_goto (tgt := 165) C kd_Mo_count_161 (by decide) ?_
      exact zk_iret C hR kd_Mo_count_165 rfl rfl (zd_rIO e)
  replace e := zd_neg b13 e
  by_cases b15 : x1 = 7
  · replace e := zd_pos b15 e
    refine zk_tableIn (tgt := 166) C kd_Mo_count_1 (by rw [b15]; decide) (by rw [b15]; decide) (by rw [b15]; rfl) (by decide) ?_
    refine zk_aload_n C kd_Mo_count_166 rfl 0 rfl rfl ?_
    refine zs_get (v := .int (h.1 68 82)) C 68 82 rfl rfl rfl rfl ki_Mo (by decide) kw1765 kd_Mo_count_167 rfl ?_
    refine zk_if_eq (tgt := 180) C kd_Mo_count_170 (by decide) rfl (fun b16 => ?_) (fun b16 => ?_)
    · replace e := zd_pos b16 e
      refine zk_iconst (v := 0) C kd_Mo_count_180 (by decide) rfl ?_
      exact zk_iret C hR kd_Mo_count_181 rfl rfl (zd_rIO e)
    · replace e := zd_neg b16 e
      refine zk_aload_n C kd_Mo_count_173 rfl 0 rfl rfl ?_
      refine zs_get (v := .int (h.1 68 85)) C 68 85 rfl rfl rfl rfl ki_Mo (by decide) kw1768 kd_Mo_count_174 rfl ?_
      refine zk_goto (tgt := 181) C kd_Mo_count_177 (by decide) ?_
      exact zk_iret C hR kd_Mo_count_181 rfl rfl (zd_rIO e)
  replace e := zd_neg b15 e
  by_cases b17 : x1 = 8
  · replace e := zd_pos b17 e
    refine zk_tableIn (tgt := 182) C kd_Mo_count_1 (by rw [b17]; decide) (by rw [b17]; decide) (by rw [b17]; rfl) (by decide) ?_
    refine zk_aload_n C kd_Mo_count_182 rfl 0 rfl rfl ?_
    refine zs_get (v := .int (h.1 68 82)) C 68 82 rfl rfl rfl rfl ki_Mo (by decide) kw1765 kd_Mo_count_183 rfl ?_
    refine zk_if_eq (tgt := 196) C kd_Mo_count_186 (by decide) rfl (fun b18 => ?_) (fun b18 => ?_)
    · replace e := zd_pos b18 e
      refine zk_iconst (v := 0) C kd_Mo_count_196 (by decide) rfl ?_
      exact zk_iret C hR kd_Mo_count_197 rfl rfl (zd_rIO e)
    · replace e := zd_neg b18 e
      refine zk_aload_n C kd_Mo_count_189 rfl 0 rfl rfl ?_
      refine zs_get (v := .int (h.1 68 73)) C 68 73 rfl rfl rfl rfl ki_Mo (by decide) kw1756 kd_Mo_count_190 rfl ?_
      refine zk_goto (tgt := 197) C kd_Mo_count_193 (by decide) ?_
      exact zk_iret C hR kd_Mo_count_197 rfl rfl (zd_rIO e)
  replace e := zd_neg b17 e
  by_cases b19 : x1 = 9
  · replace e := zd_pos b19 e
    refine zk_tableIn (tgt := 198) C kd_Mo_count_1 (by rw [b19]; decide) (by rw [b19]; decide) (by rw [b19]; rfl) (by decide) ?_
    refine zk_aload_n C kd_Mo_count_198 rfl 0 rfl rfl ?_
    refine zs_get (v := .int (h.1 68 82)) C 68 82 rfl rfl rfl rfl ki_Mo (by decide) kw1765 kd_Mo_count_199 rfl ?_
    refine zk_if_eq (tgt := 216) C kd_Mo_count_202 (by decide) rfl (fun b20 => ?_) (fun b20 => ?_)
    · replace e := zd_pos b20 e
      refine zk_iconst (v := 0) C kd_Mo_count_216 (by decide) rfl ?_
      exact zk_iret C hR kd_Mo_count_217 rfl rfl (zd_rIO e)
    · replace e := zd_neg b20 e
      refine zk_aload_n C kd_Mo_count_205 rfl 0 rfl rfl ?_
      refine zs_get (v := .int (h.1 68 86)) C 68 86 rfl rfl rfl rfl ki_Mo (by decide) kw1769 kd_Mo_count_206 rfl ?_
      refine zk_if_eq (tgt := 216) C kd_Mo_count_209 (by decide) rfl (fun b21 => ?_) (fun b21 => ?_)
      · replace e := zd_pos b21 e
        refine zk_iconst (v := 0) C kd_Mo_count_216 (by decide) rfl ?_
        exact zk_iret C hR kd_Mo_count_217 rfl rfl (zd_rIO e)
      · replace e := zd_neg b21 e
        refine zk_iconst (v := 1) C kd_Mo_count_212 (by decide) rfl ?_
        refine zk_goto (tgt := 217) C kd_Mo_count_213 (by decide) ?_
        exact zk_iret C hR kd_Mo_count_217 rfl rfl (zd_rIO e)
  replace e := zd_neg b19 e
  refine zk_tableOut (tgt := 218) C kd_Mo_count_1 (by have := lv_neT b1 (a := 0) (by decide); have := lv_neT b2 (a := 1) (by decide); have := lv_neT b4 (a := 2) (by decide); have := lv_neT b7 (a := 3) (by decide); have := lv_neT b9 (a := 4) (by decide); have := lv_neT b11 (a := 5) (by decide); have := lv_neT b13 (a := 6) (by decide); have := lv_neT b15 (a := 7) (by decide); have := lv_neT b17 (a := 8) (by decide); have := lv_neT b19 (a := 9) (by decide); omega) (by decide) ?_
  refine zk_iconst (v := (-1)) C kd_Mo_count_218 (by decide) rfl ?_
  exact zk_iret C hR kd_Mo_count_219 rfl rfl (zd_rIO e)
set_option maxHeartbeats 4000000 in
set_option maxRecDepth 100000 in
theorem zc_Mo_byteAt {l : Launch} {D : va_G} {sz0 : Nat} {S : zs_T} {P : ze_T} (h : zs_H) (x1 : Int32) {rv : Int32} (e : f_Mo_byteAt h x1 = some rv) : zk_Sp (zs_G S l D sz0) (ze_E P) km_Mo_byteAt { frames := 0, cells := 0, slots := 0, locals := 0 } [.ref (S.1 68), .int x1] (zs_W S h) (zd_PI S rv h) := by
  refine zk_met ku_Mo_byteAt (Nat.le_of_ble_eq_true rfl) (ze_Em P) ?_
  intro X C hR
  refine zk_lvs (lv' := [(0, .ref (S.1 68)), (1, .int x1)]) [0, 1] rfl ?_
  unfold f_Mo_byteAt at e
  refine zk_iload_n C kd_Mo_byteAt_0 rfl 1 rfl rfl ?_
  refine zk_if_lt (tgt := 12) C kd_Mo_byteAt_1 (by decide) rfl (fun b1 => ?_) (fun b1 => ?_)
  · replace e := zd_pos b1 e
    refine zk_iconst (v := (-1)) C kd_Mo_byteAt_12 (by decide) rfl ?_
    refine zk_goto (tgt := 22) C kd_Mo_byteAt_13 (by decide) ?_
    exact zk_iret C hR kd_Mo_byteAt_22 rfl rfl (zd_rIO e)
  · replace e := zd_neg b1 e
    refine zk_iload_n C kd_Mo_byteAt_4 rfl 1 rfl rfl ?_
    refine zk_aload_n C kd_Mo_byteAt_5 rfl 0 rfl rfl ?_
    refine zs_get (v := .int (h.1 68 88)) C 68 88 rfl rfl rfl rfl ki_Mo (by decide) kw1771 kd_Mo_byteAt_6 rfl ?_
    refine zk_icmp_lt (tgt := 16) C kd_Mo_byteAt_9 (by decide) rfl (fun b2 => ?_) (fun b2 => ?_)
    · replace e := zd_pos b2 e
      refine zk_aload_n C kd_Mo_byteAt_16 rfl 0 rfl rfl ?_
      refine zs_get (v := .ref (S.1 117)) C 68 89 rfl rfl rfl rfl ki_Mo (by decide) kw1772 kd_Mo_byteAt_17 rfl ?_
      refine zk_iload_n C kd_Mo_byteAt_20 rfl 1 rfl rfl ?_
      obtain ⟨q3, e⟩ := zd_g e
      refine zs_iald C 117 rfl (zd_vp q3) kd_Mo_byteAt_21 rfl ?_
      exact zk_iret C hR kd_Mo_byteAt_22 rfl rfl (zd_rIO e)
    · replace e := zd_neg b2 e
      refine zk_iconst (v := (-1)) C kd_Mo_byteAt_12 (by decide) rfl ?_
      refine zk_goto (tgt := 22) C kd_Mo_byteAt_13 (by decide) ?_
      exact zk_iret C hR kd_Mo_byteAt_22 rfl rfl (zd_rIO e)
set_option maxHeartbeats 4000000 in
set_option maxRecDepth 100000 in
theorem zc_Mo_station {l : Launch} {D : va_G} {sz0 : Nat} {S : zs_T} {P : ze_T} (h : zs_H) (x1 : Int32) {rv : Int32} {rh : zs_H} (e : f_Mo_station h x1 = some (rv, rh)) : zk_Sp (zs_G S l D sz0) (ze_E P) km_Mo_station { frames := 0, cells := 0, slots := 0, locals := 0 } [.ref (S.1 68), .int x1] (zs_W S h) (zd_PI S rv rh) := by
  refine zk_met ku_Mo_station (Nat.le_of_ble_eq_true rfl) (ze_Em P) ?_
  intro X C hR
  refine zk_lvs (lv' := [(0, .ref (S.1 68)), (1, .int x1)]) [0, 1] rfl ?_
  unfold f_Mo_station at e
  refine zk_iload_n C kd_Mo_station_0 rfl 1 rfl rfl ?_
  refine zk_iconst (v := 1) C kd_Mo_station_1 (by decide) rfl ?_
  refine zk_icmp_lt (tgt := 12) C kd_Mo_station_2 (by decide) rfl (fun b1 => ?_) (fun b1 => ?_)
  · replace e := zd_pos b1 e
    refine zk_iconst (v := (-1)) C kd_Mo_station_12 (by decide) rfl ?_
    exact zk_iret C hR kd_Mo_station_13 rfl rfl (zd_rIS e)
  · replace e := zd_neg b1 e
    refine zk_iload_n C kd_Mo_station_5 rfl 1 rfl rfl ?_
    refine zk_sipush (v := 247) C kd_Mo_station_6 (by decide) rfl ?_
    refine zk_icmp_le (tgt := 14) C kd_Mo_station_9 (by decide) rfl (fun b2 => ?_) (fun b2 => ?_)
    · replace e := zd_pos b2 e
      refine zk_aload_n C kd_Mo_station_14 rfl 0 rfl rfl ?_
      refine zs_get (v := .int (h.1 68 83)) C 68 83 rfl rfl rfl rfl ki_Mo (by decide) kw1766 kd_Mo_station_15 rfl ?_
      refine zk_istore_n (lv' := [(2, _), (0, _), (1, _)]) C kd_Mo_station_18 rfl (by decide) rfl rfl ?_
      refine zk_aload_n C kd_Mo_station_19 rfl 1 rfl rfl ?_
      refine zk_iload_n C kd_Mo_station_20 rfl 2 rfl rfl ?_
      refine zs_put (ty := .int) C 68 83 x1 rfl rfl rfl rfl ki_Mo ky_Mo ko_Mo kn_Mo (by decide) kw1766 rfl rfl rfl rfl (by decide) kd_Mo_station_21 rfl ?_
      refine zk_iload_n C kd_Mo_station_24 rfl 0 rfl rfl ?_
      exact zk_iret C hR kd_Mo_station_25 rfl rfl (zd_rIS e)
    · replace e := zd_neg b2 e
      refine zk_iconst (v := (-1)) C kd_Mo_station_12 (by decide) rfl ?_
      exact zk_iret C hR kd_Mo_station_13 rfl rfl (zd_rIS e)
set_option maxHeartbeats 4000000 in
set_option maxRecDepth 100000 in
theorem zc_Mo_useTape {l : Launch} {D : va_G} {sz0 : Nat} {S : zs_T} {P : ze_T} (h : zs_H) {rv : Int32} {rh : zs_H} (e : f_Mo_useTape h = some (rv, rh)) : zk_Sp (zs_G S l D sz0) (ze_E P) km_Mo_useTape { frames := 0, cells := 0, slots := 0, locals := 0 } [.ref (S.1 68)] (zs_W S h) (zd_PI S rv rh) := by
  refine zk_met ku_Mo_useTape (Nat.le_of_ble_eq_true rfl) (ze_Em P) ?_
  intro X C hR
  refine zk_lvs (lv' := [(0, .ref (S.1 68))]) [0] rfl ?_
  unfold f_Mo_useTape at e
  refine zk_aload_n C kd_Mo_useTape_0 rfl 0 rfl rfl ?_
  refine zs_get (v := .int (h.1 68 78)) C 68 78 rfl rfl rfl rfl ki_Mo (by decide) kw1761 kd_Mo_useTape_1 rfl ?_
  refine zk_istore_n (lv' := [(1, _), (0, _)]) C kd_Mo_useTape_4 rfl (by decide) rfl rfl ?_
  refine zk_aload_n C kd_Mo_useTape_5 rfl 1 rfl rfl ?_
  refine zk_iconst (v := 0) C kd_Mo_useTape_6 (by decide) rfl ?_
  refine zs_put (ty := .int) C 68 78 0 rfl rfl rfl rfl ki_Mo ky_Mo ko_Mo kn_Mo (by decide) kw1761 rfl rfl rfl rfl (by decide) kd_Mo_useTape_7 rfl ?_
  refine zk_iload_n C kd_Mo_useTape_10 rfl 0 rfl rfl ?_
  exact zk_iret C hR kd_Mo_useTape_11 rfl rfl (zd_rIS e)
set_option maxHeartbeats 4000000 in
set_option maxRecDepth 100000 in
theorem zc_Mo_heard {l : Launch} {D : va_G} {sz0 : Nat} {S : zs_T} {P : ze_T} (h : zs_H) (x1 : Int32) {rv : Int32} (e : f_Mo_heard h x1 = some rv) : zk_Sp (zs_G S l D sz0) (ze_E P) km_Mo_heard { frames := 0, cells := 0, slots := 0, locals := 0 } [.ref (S.1 68), .int x1] (zs_W S h) (zd_PI S rv h) := by
  refine zk_met ku_Mo_heard (Nat.le_of_ble_eq_true rfl) (ze_Em P) ?_
  intro X C hR
  refine zk_lvs (lv' := [(0, .ref (S.1 68)), (1, .int x1)]) [0, 1] rfl ?_
  unfold f_Mo_heard at e
  refine zk_aload_n C kd_Mo_heard_0 rfl 0 rfl rfl ?_
  refine zs_get (v := .ref (S.1 116)) C 68 79 rfl rfl rfl rfl ki_Mo (by decide) kw1762 kd_Mo_heard_1 rfl ?_
  refine zk_iload_n C kd_Mo_heard_4 rfl 1 rfl rfl ?_
  obtain ⟨q1, e⟩ := zd_g e
  refine zs_bald C 116 rfl (zd_vp q1) kd_Mo_heard_5 rfl ?_
  refine zk_sipush (v := 255) C kd_Mo_heard_6 (by decide) rfl ?_
  refine zk_iand C kd_Mo_heard_9 rfl ?_
  exact zk_iret C hR kd_Mo_heard_10 rfl rfl (zd_rIO e)
set_option maxHeartbeats 4000000 in
set_option maxRecDepth 100000 in
theorem zb_Mo_summed_32 {X : zkj_T} {S : zs_T} {P : ze_T} {l : Launch} {D : va_G} {sz0 : Nat} {rv : Int32} {h : zs_H} (C : zk_C X km_Mo_summed (zs_G S l D sz0) { frames := 0, cells := 0, slots := 0, locals := 0 } (ze_E P)) (hR : zkj_R X (zd_PI S rv h) (some .int)) {k6 : Int32 → Int32 → (Option Int32)} (hk6 : ∀ (x2 : Int32) (x3 : Int32), k6 x2 x3 = some rv → zk_Ab X (zs_W S h) 0 0 6 [(2, .int x2), (3, .int x3)] []) (x3 : Int32) (y0 : Int32) (e : f_Mo_summed_32 k6 x3 y0 = some rv) : zk_Ab X (zs_W S h) 0 0 32 [(3, .int x3)] [.int y0] := by
  unfold f_Mo_summed_32 at e
  refine zk_istore_n (lv' := [(2, _), (3, _)]) C kd_Mo_summed_32 rfl (by decide) rfl rfl ?_
  refine zk_iinc (v := (x3 + 1)) (lv' := [(3, _), (2, _)]) C kd_Mo_summed_33 1 rfl rfl (by decide) rfl rfl ?_
  refine zk_goto (tgt := 6) C kd_Mo_summed_36 (by decide) ?_
  refine zk_lvs (lv' := [(2, .int y0), (3, .int (x3 + 1))]) [1, 0] rfl ?_
  exact hk6 y0 (x3 + 1) e
set_option maxHeartbeats 4000000 in
set_option maxRecDepth 100000 in
theorem zb_Mo_summed_6 {X : zkj_T} {S : zs_T} {P : ze_T} {l : Launch} {D : va_G} {sz0 : Nat} {rv : Int32} {h : zs_H} (C : zk_C X km_Mo_summed (zs_G S l D sz0) { frames := 0, cells := 0, slots := 0, locals := 0 } (ze_E P)) (hR : zkj_R X (zd_PI S rv h) (some .int)) {k6 : Int32 → Int32 → (Option Int32)} (hk6 : ∀ (x2 : Int32) (x3 : Int32), k6 x2 x3 = some rv → zk_Ab X (zs_W S h) 0 0 6 [(2, .int x2), (3, .int x3)] []) (x2 : Int32) (x3 : Int32) (e : f_Mo_summed_6 k6 x2 x3 = some rv) : zk_Ab X (zs_W S h) 0 0 6 [(2, .int x2), (3, .int x3)] [] := by
  unfold f_Mo_summed_6 at e
  refine zk_iload_n C kd_Mo_summed_6 rfl 1 rfl rfl ?_
  refine zk_bipush (v := 8) C kd_Mo_summed_7 (by decide) rfl ?_
  refine zk_icmp_ge (tgt := 39) C kd_Mo_summed_9 (by decide) rfl (fun b1 => ?_) (fun b1 => ?_)
  · replace e := zd_pos b1 e
    refine zk_iload_n C kd_Mo_summed_39 rfl 0 rfl rfl ?_
    exact zk_iret C hR kd_Mo_summed_40 rfl rfl (zd_rIO e)
  · replace e := zd_neg b1 e
    refine zk_iload_n C kd_Mo_summed_12 rfl 0 rfl rfl ?_
    refine zk_iconst (v := 2) C kd_Mo_summed_13 (by decide) rfl ?_
    refine zk_irem C kd_Mo_summed_14 (by decide) rfl ?_
    refine zk_iconst (v := 1) C kd_Mo_summed_15 (by decide) rfl ?_
    refine zk_icmp_ne (tgt := 29) C kd_Mo_summed_16 (by decide) rfl (fun b2 => ?_) (fun b2 => ?_)
    · replace e := zd_neg b2 e
      refine zk_iload_n C kd_Mo_summed_29 rfl 0 rfl rfl ?_
      refine zk_iconst (v := 2) C kd_Mo_summed_30 (by decide) rfl ?_
      refine zk_idiv C kd_Mo_summed_31 (by decide) rfl ?_
      refine zk_lvs (lv' := [(3, .int x3)]) [1] rfl ?_
      exact zb_Mo_summed_32 C hR hk6 x3 (x2 / 2) e
    · replace e := zd_pos b2 e
      refine zk_iload_n C kd_Mo_summed_19 rfl 0 rfl rfl ?_
      refine zk_iconst (v := 2) C kd_Mo_summed_20 (by decide) rfl ?_
      refine zk_idiv C kd_Mo_summed_21 (by decide) rfl ?_
      refine zk_ldcw (v := 40961) C kw2831 kd_Mo_summed_22 rfl ?_
      refine zk_ixor C kd_Mo_summed_25 rfl ?_
      refine zk_goto (tgt := 32) C kd_Mo_summed_26 (by decide) ?_
      refine zk_lvs (lv' := [(3, .int x3)]) [1] rfl ?_
      exact zb_Mo_summed_32 C hR hk6 x3 ((x2 / 2) ^^^ 40961) e
theorem zl_Mo_summed_6 {X : zkj_T} {S : zs_T} {P : ze_T} {l : Launch} {D : va_G} {sz0 : Nat} {rv : Int32} {h : zs_H} (C : zk_C X km_Mo_summed (zs_G S l D sz0) { frames := 0, cells := 0, slots := 0, locals := 0 } (ze_E P)) (hR : zkj_R X (zd_PI S rv h) (some .int)) (n : Nat) : ∀ (x2 : Int32) (x3 : Int32), f_Mo_summed_L6 n x2 x3 = some rv → zk_Ab X (zs_W S h) 0 0 6 [(2, .int x2), (3, .int x3)] [] := by
  induction n with
  | zero => intro x2 x3 e; exact zd_no e
  | succ n ih => intro x2 x3 e; exact zb_Mo_summed_6 (k6 := f_Mo_summed_L6  n) C hR ih x2 x3 e
set_option maxHeartbeats 4000000 in
set_option maxRecDepth 100000 in
theorem zc_Mo_summed {l : Launch} {D : va_G} {sz0 : Nat} {S : zs_T} {P : ze_T} (h : zs_H) (x0 : Int32) (x1 : Int32) {rv : Int32} (e : f_Mo_summed x0 x1 = some rv) : zk_Sp (zs_G S l D sz0) (ze_E P) km_Mo_summed { frames := 0, cells := 0, slots := 0, locals := 0 } [.int x0, .int x1] (zs_W S h) (zd_PI S rv h) := by
  refine zk_met ku_Mo_summed (Nat.le_of_ble_eq_true rfl) (ze_Em P) ?_
  intro X C hR
  refine zk_lvs (lv' := [(0, .int x0), (1, .int x1)]) [0, 1] rfl ?_
  unfold f_Mo_summed at e
  refine zk_iload_n C kd_Mo_summed_0 rfl 0 rfl rfl ?_
  refine zk_iload_n C kd_Mo_summed_1 rfl 1 rfl rfl ?_
  refine zk_ixor C kd_Mo_summed_2 rfl ?_
  refine zk_istore_n (lv' := [(2, _), (0, _), (1, _)]) C kd_Mo_summed_3 rfl (by decide) rfl rfl ?_
  refine zk_iconst (v := 0) C kd_Mo_summed_4 (by decide) rfl ?_
  refine zk_istore_n (lv' := [(3, _), (2, _), (0, _), (1, _)]) C kd_Mo_summed_5 rfl (by decide) rfl rfl ?_
  refine zk_lvs (lv' := [(2, .int (x0 ^^^ x1)), (3, .int 0)]) [1, 0] rfl ?_
  exact zl_Mo_summed_6 C hR zF (x0 ^^^ x1) 0 e
set_option maxHeartbeats 4000000 in
set_option maxRecDepth 100000 in
theorem zc_Mo_dataTwo {l : Launch} {D : va_G} {sz0 : Nat} {S : zs_T} {P : ze_T} (h : zs_H) (x1 : Int32) {rv : Int32} (e : f_Mo_dataTwo h x1 = some rv) : zk_Sp (zs_G S l D sz0) (ze_E P) km_Mo_dataTwo { frames := 1, cells := 0, slots := 0, locals := 21 } [.ref (S.1 68), .int x1] (zs_W S h) (zd_PI S rv h) := by
  refine zk_met ku_Mo_dataTwo (Nat.le_of_ble_eq_true rfl) (ze_Em P) ?_
  intro X C hR
  refine zk_lvs (lv' := [(0, .ref (S.1 68)), (1, .int x1)]) [0, 1] rfl ?_
  unfold f_Mo_dataTwo at e
  refine zk_sipush (v := 256) C kd_Mo_dataTwo_0 (by decide) rfl ?_
  refine zk_aload_n C kd_Mo_dataTwo_3 rfl 0 rfl rfl ?_
  refine zk_iconst (v := 2) C kd_Mo_dataTwo_4 (by decide) rfl ?_
  refine zk_iload_n C kd_Mo_dataTwo_5 rfl 1 rfl rfl ?_
  refine zk_iadd C kd_Mo_dataTwo_6 rfl ?_
  obtain ⟨v2, c1, e⟩ := zd_b e
  refine zs_callV (k := 68) (rn := { frames := 0, cells := 0, slots := 0, locals := 0 }) (As := [.int (2 + x1)]) (rest := [.int 256]) C (zc_Mo_heard h (2 + x1) c1) ku_Mo_heard kw2824 kv_Mo_heard rfl ⟨by decide, by decide⟩ ⟨by decide, by decide⟩ rfl rfl rfl (Nat.le_of_ble_eq_true rfl) kd_Mo_dataTwo_7 rfl (c1 := 0) (s1 := 0) rfl rfl (fun v w hp => ?_)
  obtain ⟨rfl, rfl⟩ := hp
  refine zk_stk (r' := [.int v2, .int 256]) rfl ?_
  refine zk_imul C kd_Mo_dataTwo_10 rfl ?_
  refine zk_aload_n C kd_Mo_dataTwo_11 rfl 0 rfl rfl ?_
  refine zk_iconst (v := 3) C kd_Mo_dataTwo_12 (by decide) rfl ?_
  refine zk_iload_n C kd_Mo_dataTwo_13 rfl 1 rfl rfl ?_
  refine zk_iadd C kd_Mo_dataTwo_14 rfl ?_
  obtain ⟨v4, c3, e⟩ := zd_b e
  refine zs_callV (k := 68) (rn := { frames := 0, cells := 0, slots := 0, locals := 0 }) (As := [.int (3 + x1)]) (rest := [.int (256 * v2)]) C (zc_Mo_heard h (3 + x1) c3) ku_Mo_heard kw2824 kv_Mo_heard rfl ⟨by decide, by decide⟩ ⟨by decide, by decide⟩ rfl rfl rfl (Nat.le_of_ble_eq_true rfl) kd_Mo_dataTwo_15 rfl (c1 := 0) (s1 := 0) rfl rfl (fun v w hp => ?_)
  obtain ⟨rfl, rfl⟩ := hp
  refine zk_stk (r' := [.int v4, .int (256 * v2)]) rfl ?_
  refine zk_iadd C kd_Mo_dataTwo_18 rfl ?_
  exact zk_iret C hR kd_Mo_dataTwo_19 rfl rfl (zd_rIO e)
set_option maxHeartbeats 4000000 in
set_option maxRecDepth 100000 in
theorem zc_Mo_tableSize {l : Launch} {D : va_G} {sz0 : Nat} {S : zs_T} {P : ze_T} (h : zs_H) (x0 : Int32) : zk_Sp (zs_G S l D sz0) (ze_E P) km_Mo_tableSize { frames := 0, cells := 0, slots := 0, locals := 0 } [.int x0] (zs_W S h) (zd_PI S (f_Mo_tableSize x0) h) := by
  obtain ⟨rv, e⟩ : ∃ rv, f_Mo_tableSize x0 = rv := ⟨_, rfl⟩
  rw [e]
  refine zk_met ku_Mo_tableSize (Nat.le_of_ble_eq_true rfl) (ze_Em P) ?_
  intro X C hR
  refine zk_lvs (lv' := [(0, .int x0)]) [0] rfl ?_
  unfold f_Mo_tableSize at e
  refine zk_iload_n C kd_Mo_tableSize_0 rfl 0 rfl rfl ?_
  refine zk_iconst (v := 2) C kd_Mo_tableSize_1 (by decide) rfl ?_
  refine zk_icmp_ne (tgt := 11) C kd_Mo_tableSize_2 (by decide) rfl (fun b1 => ?_) (fun b1 => ?_)
  · replace e := zd_neg b1 e
    refine zk_iload_n C kd_Mo_tableSize_11 rfl 0 rfl rfl ?_
    refine zk_iconst (v := 4) C kd_Mo_tableSize_12 (by decide) rfl ?_
    refine zk_icmp_ne (tgt := 22) C kd_Mo_tableSize_13 (by decide) rfl (fun b2 => ?_) (fun b2 => ?_)
    · replace e := zd_neg b2 e
      refine zk_iload_n C kd_Mo_tableSize_22 rfl 0 rfl rfl ?_
      refine zk_iconst (v := 1) C kd_Mo_tableSize_23 (by decide) rfl ?_
      refine zk_icmp_eq (tgt := 38) C kd_Mo_tableSize_24 (by decide) rfl (fun b3 => ?_) (fun b3 => ?_)
      · replace e := zd_pos b3 e
        refine zk_sipush (v := 256) C kd_Mo_tableSize_38 (by decide) rfl ?_
        refine zk_goto (tgt := 46) C kd_Mo_tableSize_41 (by decide) ?_
        exact zk_iret C hR kd_Mo_tableSize_46 rfl rfl (zd_rIT e)
      · replace e := zd_neg b3 e
        refine zk_iload_n C kd_Mo_tableSize_27 rfl 0 rfl rfl ?_
        refine zk_iconst (v := 5) C kd_Mo_tableSize_28 (by decide) rfl ?_
        refine zk_icmp_eq (tgt := 38) C kd_Mo_tableSize_29 (by decide) rfl (fun b4 => ?_) (fun b4 => ?_)
        · replace e := zd_pos b4 e
          refine zk_sipush (v := 256) C kd_Mo_tableSize_38 (by decide) rfl ?_
          refine zk_goto (tgt := 46) C kd_Mo_tableSize_41 (by decide) ?_
          exact zk_iret C hR kd_Mo_tableSize_46 rfl rfl (zd_rIT e)
        · replace e := zd_neg b4 e
          refine zk_iload_n C kd_Mo_tableSize_32 rfl 0 rfl rfl ?_
          refine zk_bipush (v := 15) C kd_Mo_tableSize_33 (by decide) rfl ?_
          refine zk_icmp_ne (tgt := 44) C kd_Mo_tableSize_35 (by decide) rfl (fun b5 => ?_) (fun b5 => ?_)
          · replace e := zd_neg b5 e
            refine zk_bipush (v := 64) C kd_Mo_tableSize_44 (by decide) rfl ?_
            exact zk_iret C hR kd_Mo_tableSize_46 rfl rfl (zd_rIT e)
          · replace e := zd_pos b5 e
            refine zk_sipush (v := 256) C kd_Mo_tableSize_38 (by decide) rfl ?_
            refine zk_goto (tgt := 46) C kd_Mo_tableSize_41 (by decide) ?_
            exact zk_iret C hR kd_Mo_tableSize_46 rfl rfl (zd_rIT e)
    · replace e := zd_pos b2 e
      refine zk_sipush (v := 128) C kd_Mo_tableSize_16 (by decide) rfl ?_
      refine zk_goto (tgt := 46) C kd_Mo_tableSize_19 (by decide) ?_
      exact zk_iret C hR kd_Mo_tableSize_46 rfl rfl (zd_rIT e)
  · replace e := zd_pos b1 e
    refine zk_sipush (v := 512) C kd_Mo_tableSize_5 (by decide) rfl ?_
    refine zk_goto (tgt := 46) C kd_Mo_tableSize_8 (by decide) ?_
    exact zk_iret C hR kd_Mo_tableSize_46 rfl rfl (zd_rIT e)
set_option maxHeartbeats 4000000 in
set_option maxRecDepth 100000 in
theorem zb_Mo_refusal_244 {X : zkj_T} {S : zs_T} {P : ze_T} {l : Launch} {D : va_G} {sz0 : Nat} {rv : Int32} {h : zs_H} (C : zk_C X km_Mo_refusal (zs_G S l D sz0) { frames := 2, cells := 0, slots := 0, locals := 42 } (ze_E P)) (hR : zkj_R X (zd_PI S rv h) (some .int)) (x1 : Int32) (y0 : Int32) (y1 : Int32) (e : f_Mo_refusal_244 h x1 y0 y1 = some rv) : zk_Ab X (zs_W S h) 0 0 244 [(1, .int x1)] [.int y0, .int y1] := by
  unfold f_Mo_refusal_244 at e
  refine zk_iadd C kd_Mo_refusal_244 rfl ?_
  refine zk_iload_n C kd_Mo_refusal_245 rfl 0 rfl rfl ?_
  refine zk_callS (rn := { frames := 0, cells := 0, slots := 0, locals := 0 }) (As := [.int x1]) (rest := [.int (y1 + y0)]) C (zc_Mo_tableSize h x1) ku_Mo_tableSize kw2841 ks_Mo_tableSize rfl ⟨by decide, by decide⟩ ⟨by decide, by decide⟩ rfl (Nat.le_of_ble_eq_true rfl) kd_Mo_refusal_246 rfl (c1 := 0) (s1 := 0) rfl rfl (fun v w hp => ?_)
  obtain ⟨rfl, rfl⟩ := hp
  refine zk_stk (r' := [.int (f_Mo_tableSize x1), .int (y1 + y0)]) rfl ?_
  refine zk_icmp_le (tgt := 256) C kd_Mo_refusal_249 (by decide) rfl (fun b1 => ?_) (fun b1 => ?_)
  · replace e := zd_pos b1 e
    refine zk_iconst (v := 0) C kd_Mo_refusal_256 (by decide) rfl ?_
    exact zk_iret C hR kd_Mo_refusal_257 rfl rfl (zd_rIO e)
  · replace e := zd_neg b1 e
    refine zk_iconst (v := 2) C kd_Mo_refusal_252 (by decide) rfl ?_
    refine zk_goto (tgt := 257) C kd_Mo_refusal_253 (by decide) ?_
    exact zk_iret C hR kd_Mo_refusal_257 rfl rfl (zd_rIO e)
set_option maxHeartbeats 4000000 in
set_option maxRecDepth 100000 in
theorem zb_Mo_refusal_239 {X : zkj_T} {S : zs_T} {P : ze_T} {l : Launch} {D : va_G} {sz0 : Nat} {rv : Int32} {h : zs_H} (C : zk_C X km_Mo_refusal (zs_G S l D sz0) { frames := 2, cells := 0, slots := 0, locals := 42 } (ze_E P)) (hR : zkj_R X (zd_PI S rv h) (some .int)) (x1 : Int32) (y0 : Int32) (e : f_Mo_refusal_239 h x1 y0 = some rv) : zk_Ab X (zs_W S h) 0 0 239 [(1, .int x1)] [.int y0] := by
  unfold f_Mo_refusal_239 at e
  refine zk_iconst (v := 1) C kd_Mo_refusal_239 (by decide) rfl ?_
  refine zk_goto (tgt := 244) C kd_Mo_refusal_240 (by decide) ?_
  refine zk_lvs (lv' := [(1, .int x1)]) [0] rfl ?_
  exact zb_Mo_refusal_244 C hR x1 1 y0 e
set_option maxHeartbeats 4000000 in
set_option maxRecDepth 100000 in
theorem zb_Mo_refusal_214 {X : zkj_T} {S : zs_T} {P : ze_T} {l : Launch} {D : va_G} {sz0 : Nat} {rv : Int32} {h : zs_H} (C : zk_C X km_Mo_refusal (zs_G S l D sz0) { frames := 2, cells := 0, slots := 0, locals := 42 } (ze_E P)) (hR : zkj_R X (zd_PI S rv h) (some .int)) (x1 : Int32) (x3 : Int32) (y0 : Int32) (e : f_Mo_refusal_214 h x1 x3 y0 = some rv) : zk_Ab X (zs_W S h) 0 0 214 [(0, .ref (S.1 68)), (1, .int x1), (3, .int x3)] [.int y0] := by
  unfold f_Mo_refusal_214 at e
  refine zk_istore (lv' := [(4, _), (0, _), (1, _), (3, _)]) C kd_Mo_refusal_214 (by decide) rfl rfl ?_
  refine zk_iload C kd_Mo_refusal_216 0 rfl rfl ?_
  refine zk_if_eq (tgt := 223) C kd_Mo_refusal_218 (by decide) rfl (fun b1 => ?_) (fun b1 => ?_)
  · replace e := zd_pos b1 e
    refine zk_aload_n C kd_Mo_refusal_223 rfl 1 rfl rfl ?_
    refine zk_iconst (v := 0) C kd_Mo_refusal_224 (by decide) rfl ?_
    obtain ⟨v3, c2, e⟩ := zd_b e
    refine zs_callV (k := 68) (rn := { frames := 1, cells := 0, slots := 0, locals := 21 }) (As := [.int 0]) (rest := []) C (zc_Mo_dataTwo h 0 c2) ku_Mo_dataTwo kw2836 kv_Mo_dataTwo rfl ⟨by decide, by decide⟩ ⟨by decide, by decide⟩ rfl rfl rfl (Nat.le_of_ble_eq_true rfl) kd_Mo_refusal_225 rfl (c1 := 0) (s1 := 0) rfl rfl (fun v w hp => ?_)
    obtain ⟨rfl, rfl⟩ := hp
    refine zk_stk (r' := [.int v3]) rfl ?_
    refine zk_iload_n C kd_Mo_refusal_228 rfl 2 rfl rfl ?_
    refine zk_iconst (v := 5) C kd_Mo_refusal_229 (by decide) rfl ?_
    refine zk_icmp_eq (tgt := 239) C kd_Mo_refusal_230 (by decide) rfl (fun b4 => ?_) (fun b4 => ?_)
    · replace e := zd_pos b4 e
      refine zk_lvs (lv' := [(1, .int x1)]) [2] rfl ?_
      exact zb_Mo_refusal_239 C hR x1 v3 e
    · replace e := zd_neg b4 e
      refine zk_iload_n C kd_Mo_refusal_233 rfl 2 rfl rfl ?_
      refine zk_bipush (v := 6) C kd_Mo_refusal_234 (by decide) rfl ?_
      refine zk_icmp_ne (tgt := 243) C kd_Mo_refusal_236 (by decide) rfl (fun b5 => ?_) (fun b5 => ?_)
      · replace e := zd_neg b5 e
        refine zk_iload_n C kd_Mo_refusal_243 rfl 3 rfl rfl ?_
        refine zk_lvs (lv' := [(1, .int x1)]) [2] rfl ?_
        exact zb_Mo_refusal_244 C hR x1 x3 v3 e
      · replace e := zd_pos b5 e
        refine zk_lvs (lv' := [(1, .int x1)]) [2] rfl ?_
        exact zb_Mo_refusal_239 C hR x1 v3 e
  · replace e := zd_neg b1 e
    refine zk_iconst (v := 3) C kd_Mo_refusal_221 (by decide) rfl ?_
    exact zk_iret C hR kd_Mo_refusal_222 rfl rfl (zd_rIO e)
set_option maxHeartbeats 4000000 in
set_option maxRecDepth 100000 in
theorem zb_Mo_refusal_82 {X : zkj_T} {S : zs_T} {P : ze_T} {l : Launch} {D : va_G} {sz0 : Nat} {rv : Int32} {h : zs_H} (C : zk_C X km_Mo_refusal (zs_G S l D sz0) { frames := 2, cells := 0, slots := 0, locals := 42 } (ze_E P)) (hR : zkj_R X (zd_PI S rv h) (some .int)) (x1 : Int32) (x3 : Int32) (e : f_Mo_refusal_82 h x1 x3 = some rv) : zk_Ab X (zs_W S h) 0 0 82 [(0, .ref (S.1 68)), (1, .int x1), (3, .int x3)] [] := by
  unfold f_Mo_refusal_82 at e
  refine zk_iconst (v := 1) C kd_Mo_refusal_82 (by decide) rfl ?_
  refine zk_goto (tgt := 214) C kd_Mo_refusal_83 (by decide) ?_
  refine zk_lvs (lv' := [(0, .ref (S.1 68)), (1, .int x1), (3, .int x3)]) [0, 1, 2] rfl ?_
  exact zb_Mo_refusal_214 C hR x1 x3 1 e
set_option maxHeartbeats 4000000 in
set_option maxRecDepth 100000 in
theorem zb_Mo_refusal_106 {X : zkj_T} {S : zs_T} {P : ze_T} {l : Launch} {D : va_G} {sz0 : Nat} {rv : Int32} {h : zs_H} (C : zk_C X km_Mo_refusal (zs_G S l D sz0) { frames := 2, cells := 0, slots := 0, locals := 42 } (ze_E P)) (hR : zkj_R X (zd_PI S rv h) (some .int)) (x1 : Int32) (x3 : Int32) (e : f_Mo_refusal_106 h x1 x3 = some rv) : zk_Ab X (zs_W S h) 0 0 106 [(0, .ref (S.1 68)), (1, .int x1), (3, .int x3)] [] := by
  unfold f_Mo_refusal_106 at e
  refine zk_iconst (v := 1) C kd_Mo_refusal_106 (by decide) rfl ?_
  refine zk_goto (tgt := 214) C kd_Mo_refusal_107 (by decide) ?_
  refine zk_lvs (lv' := [(0, .ref (S.1 68)), (1, .int x1), (3, .int x3)]) [0, 1, 2] rfl ?_
  exact zb_Mo_refusal_214 C hR x1 x3 1 e
set_option maxHeartbeats 4000000 in
set_option maxRecDepth 100000 in
theorem zb_Mo_refusal_134 {X : zkj_T} {S : zs_T} {P : ze_T} {l : Launch} {D : va_G} {sz0 : Nat} {rv : Int32} {h : zs_H} (C : zk_C X km_Mo_refusal (zs_G S l D sz0) { frames := 2, cells := 0, slots := 0, locals := 42 } (ze_E P)) (hR : zkj_R X (zd_PI S rv h) (some .int)) (x1 : Int32) (x3 : Int32) (e : f_Mo_refusal_134 h x1 x3 = some rv) : zk_Ab X (zs_W S h) 0 0 134 [(0, .ref (S.1 68)), (1, .int x1), (3, .int x3)] [] := by
  unfold f_Mo_refusal_134 at e
  refine zk_iconst (v := 0) C kd_Mo_refusal_134 (by decide) rfl ?_
  refine zk_goto (tgt := 214) C kd_Mo_refusal_135 (by decide) ?_
  refine zk_lvs (lv' := [(0, .ref (S.1 68)), (1, .int x1), (3, .int x3)]) [0, 1, 2] rfl ?_
  exact zb_Mo_refusal_214 C hR x1 x3 0 e
set_option maxHeartbeats 4000000 in
set_option maxRecDepth 100000 in
theorem zb_Mo_refusal_172 {X : zkj_T} {S : zs_T} {P : ze_T} {l : Launch} {D : va_G} {sz0 : Nat} {rv : Int32} {h : zs_H} (C : zk_C X km_Mo_refusal (zs_G S l D sz0) { frames := 2, cells := 0, slots := 0, locals := 42 } (ze_E P)) (hR : zkj_R X (zd_PI S rv h) (some .int)) (x1 : Int32) (x3 : Int32) (e : f_Mo_refusal_172 h x1 x3 = some rv) : zk_Ab X (zs_W S h) 0 0 172 [(0, .ref (S.1 68)), (1, .int x1), (3, .int x3)] [] := by
  unfold f_Mo_refusal_172 at e
  refine zk_iconst (v := 1) C kd_Mo_refusal_172 (by decide) rfl ?_
  refine zk_goto (tgt := 214) C kd_Mo_refusal_173 (by decide) ?_
  refine zk_lvs (lv' := [(0, .ref (S.1 68)), (1, .int x1), (3, .int x3)]) [0, 1, 2] rfl ?_
  exact zb_Mo_refusal_214 C hR x1 x3 1 e
set_option maxHeartbeats 4000000 in
set_option maxRecDepth 100000 in
theorem zb_Mo_refusal_209 {X : zkj_T} {S : zs_T} {P : ze_T} {l : Launch} {D : va_G} {sz0 : Nat} {rv : Int32} {h : zs_H} (C : zk_C X km_Mo_refusal (zs_G S l D sz0) { frames := 2, cells := 0, slots := 0, locals := 42 } (ze_E P)) (hR : zkj_R X (zd_PI S rv h) (some .int)) (x1 : Int32) (x3 : Int32) (e : f_Mo_refusal_209 h x1 x3 = some rv) : zk_Ab X (zs_W S h) 0 0 209 [(0, .ref (S.1 68)), (1, .int x1), (3, .int x3)] [] := by
  unfold f_Mo_refusal_209 at e
  refine zk_iconst (v := 1) C kd_Mo_refusal_209 (by decide) rfl ?_
  refine zk_goto (tgt := 214) C kd_Mo_refusal_210 (by decide) ?_
  refine zk_lvs (lv' := [(0, .ref (S.1 68)), (1, .int x1), (3, .int x3)]) [0, 1, 2] rfl ?_
  exact zb_Mo_refusal_214 C hR x1 x3 1 e
set_option maxHeartbeats 4000000 in
set_option maxRecDepth 100000 in
theorem zb_Mo_refusal_213 {X : zkj_T} {S : zs_T} {P : ze_T} {l : Launch} {D : va_G} {sz0 : Nat} {rv : Int32} {h : zs_H} (C : zk_C X km_Mo_refusal (zs_G S l D sz0) { frames := 2, cells := 0, slots := 0, locals := 42 } (ze_E P)) (hR : zkj_R X (zd_PI S rv h) (some .int)) (x1 : Int32) (x3 : Int32) (e : f_Mo_refusal_213 h x1 x3 = some rv) : zk_Ab X (zs_W S h) 0 0 213 [(0, .ref (S.1 68)), (1, .int x1), (3, .int x3)] [] := by
  unfold f_Mo_refusal_213 at e
  refine zk_iconst (v := 0) C kd_Mo_refusal_213 (by decide) rfl ?_
  refine zk_lvs (lv' := [(0, .ref (S.1 68)), (1, .int x1), (3, .int x3)]) [0, 1, 2] rfl ?_
  exact zb_Mo_refusal_214 C hR x1 x3 0 e
set_option maxHeartbeats 4000000 in
set_option maxRecDepth 100000 in
theorem zb_Mo_refusal_59 {X : zkj_T} {S : zs_T} {P : ze_T} {l : Launch} {D : va_G} {sz0 : Nat} {rv : Int32} {h : zs_H} (C : zk_C X km_Mo_refusal (zs_G S l D sz0) { frames := 2, cells := 0, slots := 0, locals := 42 } (ze_E P)) (hR : zkj_R X (zd_PI S rv h) (some .int)) (x1 : Int32) (e : f_Mo_refusal_59 h x1 = some rv) : zk_Ab X (zs_W S h) 0 0 59 [(0, .ref (S.1 68)), (1, .int x1)] [] := by
  unfold f_Mo_refusal_59 at e
  refine zk_aload_n C kd_Mo_refusal_59 rfl 0 rfl rfl ?_
  refine zk_iconst (v := 2) C kd_Mo_refusal_60 (by decide) rfl ?_
  obtain ⟨v2, c1, e⟩ := zd_b e
  refine zs_callV (k := 68) (rn := { frames := 1, cells := 0, slots := 0, locals := 21 }) (As := [.int 2]) (rest := []) C (zc_Mo_dataTwo h 2 c1) ku_Mo_dataTwo kw2836 kv_Mo_dataTwo rfl ⟨by decide, by decide⟩ ⟨by decide, by decide⟩ rfl rfl rfl (Nat.le_of_ble_eq_true rfl) kd_Mo_refusal_61 rfl (c1 := 0) (s1 := 0) rfl rfl (fun v w hp => ?_)
  obtain ⟨rfl, rfl⟩ := hp
  refine zk_stk (r' := [.int v2]) rfl ?_
  refine zk_istore_n (lv' := [(3, _), (0, _), (1, _)]) C kd_Mo_refusal_64 rfl (by decide) rfl rfl ?_
  refine zk_iload_n C kd_Mo_refusal_65 rfl 2 rfl rfl ?_
  refine zk_iconst (v := 3) C kd_Mo_refusal_66 (by decide) rfl ?_
  refine zk_icmp_ge (tgt := 90) C kd_Mo_refusal_67 (by decide) rfl (fun b3 => ?_) (fun b3 => ?_)
  · replace e := zd_pos b3 e
    refine zk_iload_n C kd_Mo_refusal_90 rfl 2 rfl rfl ?_
    refine zk_iconst (v := 5) C kd_Mo_refusal_91 (by decide) rfl ?_
    refine zk_icmp_ge (tgt := 114) C kd_Mo_refusal_92 (by decide) rfl (fun b4 => ?_) (fun b4 => ?_)
    · replace e := zd_pos b4 e
      refine zk_iload_n C kd_Mo_refusal_114 rfl 2 rfl rfl ?_
      refine zk_iconst (v := 5) C kd_Mo_refusal_115 (by decide) rfl ?_
      refine zk_icmp_ne (tgt := 138) C kd_Mo_refusal_116 (by decide) rfl (fun b5 => ?_) (fun b5 => ?_)
      · replace e := zd_neg b5 e
        refine zk_iload_n C kd_Mo_refusal_138 rfl 2 rfl rfl ?_
        refine zk_bipush (v := 15) C kd_Mo_refusal_139 (by decide) rfl ?_
        refine zk_icmp_ne (tgt := 180) C kd_Mo_refusal_141 (by decide) rfl (fun b6 => ?_) (fun b6 => ?_)
        · replace e := zd_neg b6 e
          refine zk_iload_n C kd_Mo_refusal_180 rfl 2 rfl rfl ?_
          refine zk_bipush (v := 16) C kd_Mo_refusal_181 (by decide) rfl ?_
          refine zk_icmp_ne (tgt := 213) C kd_Mo_refusal_183 (by decide) rfl (fun b7 => ?_) (fun b7 => ?_)
          · replace e := zd_neg b7 e
            refine zk_lvs (lv' := [(0, .ref (S.1 68)), (1, .int x1), (3, .int v2)]) [1, 2, 0] rfl ?_
            exact zb_Mo_refusal_213 C hR x1 v2 e
          · replace e := zd_pos b7 e
            refine zk_iload_n C kd_Mo_refusal_186 rfl 0 rfl rfl ?_
            refine zk_iconst (v := 1) C kd_Mo_refusal_187 (by decide) rfl ?_
            refine zk_icmp_lt (tgt := 209) C kd_Mo_refusal_188 (by decide) rfl (fun b8 => ?_) (fun b8 => ?_)
            · replace e := zd_pos b8 e
              refine zk_lvs (lv' := [(0, .ref (S.1 68)), (1, .int x1), (3, .int v2)]) [1, 2, 0] rfl ?_
              exact zb_Mo_refusal_209 C hR x1 v2 e
            · replace e := zd_neg b8 e
              refine zk_iload_n C kd_Mo_refusal_191 rfl 0 rfl rfl ?_
              refine zk_bipush (v := 123) C kd_Mo_refusal_192 (by decide) rfl ?_
              refine zk_icmp_gt (tgt := 209) C kd_Mo_refusal_194 (by decide) rfl (fun b9 => ?_) (fun b9 => ?_)
              · replace e := zd_pos b9 e
                refine zk_lvs (lv' := [(0, .ref (S.1 68)), (1, .int x1), (3, .int v2)]) [1, 2, 0] rfl ?_
                exact zb_Mo_refusal_209 C hR x1 v2 e
              · replace e := zd_neg b9 e
                refine zk_aload_n C kd_Mo_refusal_197 rfl 1 rfl rfl ?_
                refine zk_bipush (v := 6) C kd_Mo_refusal_198 (by decide) rfl ?_
                obtain ⟨v11, c10, e⟩ := zd_b e
                refine zs_callV (k := 68) (rn := { frames := 0, cells := 0, slots := 0, locals := 0 }) (As := [.int 6]) (rest := []) C (zc_Mo_heard h 6 c10) ku_Mo_heard kw2824 kv_Mo_heard rfl ⟨by decide, by decide⟩ ⟨by decide, by decide⟩ rfl rfl rfl (Nat.le_of_ble_eq_true rfl) kd_Mo_refusal_200 rfl (c1 := 0) (s1 := 0) rfl rfl (fun v w hp => ?_)
                obtain ⟨rfl, rfl⟩ := hp
                refine zk_stk (r' := [.int v11]) rfl ?_
                refine zk_iconst (v := 2) C kd_Mo_refusal_203 (by decide) rfl ?_
                refine zk_iload_n C kd_Mo_refusal_204 rfl 0 rfl rfl ?_
                refine zk_imul C kd_Mo_refusal_205 rfl ?_
                refine zk_icmp_eq (tgt := 213) C kd_Mo_refusal_206 (by decide) rfl (fun b12 => ?_) (fun b12 => ?_)
                · replace e := zd_pos b12 e
                  refine zk_lvs (lv' := [(0, .ref (S.1 68)), (1, .int x1), (3, .int v2)]) [1, 2, 0] rfl ?_
                  exact zb_Mo_refusal_213 C hR x1 v2 e
                · replace e := zd_neg b12 e
                  refine zk_lvs (lv' := [(0, .ref (S.1 68)), (1, .int x1), (3, .int v2)]) [1, 2, 0] rfl ?_
                  exact zb_Mo_refusal_209 C hR x1 v2 e
        · replace e := zd_pos b6 e
          refine zk_iload_n C kd_Mo_refusal_144 rfl 0 rfl rfl ?_
          refine zk_iconst (v := 1) C kd_Mo_refusal_145 (by decide) rfl ?_
          refine zk_icmp_lt (tgt := 172) C kd_Mo_refusal_146 (by decide) rfl (fun b13 => ?_) (fun b13 => ?_)
          · replace e := zd_pos b13 e
            refine zk_lvs (lv' := [(0, .ref (S.1 68)), (1, .int x1), (3, .int v2)]) [1, 2, 0] rfl ?_
            exact zb_Mo_refusal_172 C hR x1 v2 e
          · replace e := zd_neg b13 e
            refine zk_iload_n C kd_Mo_refusal_149 rfl 0 rfl rfl ?_
            refine zk_sipush (v := 1968) C kd_Mo_refusal_150 (by decide) rfl ?_
            refine zk_icmp_gt (tgt := 172) C kd_Mo_refusal_153 (by decide) rfl (fun b14 => ?_) (fun b14 => ?_)
            · replace e := zd_pos b14 e
              refine zk_lvs (lv' := [(0, .ref (S.1 68)), (1, .int x1), (3, .int v2)]) [1, 2, 0] rfl ?_
              exact zb_Mo_refusal_172 C hR x1 v2 e
            · replace e := zd_neg b14 e
              refine zk_aload_n C kd_Mo_refusal_156 rfl 1 rfl rfl ?_
              refine zk_bipush (v := 6) C kd_Mo_refusal_157 (by decide) rfl ?_
              obtain ⟨v16, c15, e⟩ := zd_b e
              refine zs_callV (k := 68) (rn := { frames := 0, cells := 0, slots := 0, locals := 0 }) (As := [.int 6]) (rest := []) C (zc_Mo_heard h 6 c15) ku_Mo_heard kw2824 kv_Mo_heard rfl ⟨by decide, by decide⟩ ⟨by decide, by decide⟩ rfl rfl rfl (Nat.le_of_ble_eq_true rfl) kd_Mo_refusal_159 rfl (c1 := 0) (s1 := 0) rfl rfl (fun v w hp => ?_)
              obtain ⟨rfl, rfl⟩ := hp
              refine zk_stk (r' := [.int v16]) rfl ?_
              refine zk_iload_n C kd_Mo_refusal_162 rfl 0 rfl rfl ?_
              refine zk_bipush (v := 7) C kd_Mo_refusal_163 (by decide) rfl ?_
              refine zk_iadd C kd_Mo_refusal_165 rfl ?_
              refine zk_bipush (v := 8) C kd_Mo_refusal_166 (by decide) rfl ?_
              refine zk_idiv C kd_Mo_refusal_168 (by decide) rfl ?_
              refine zk_icmp_eq (tgt := 176) C kd_Mo_refusal_169 (by decide) rfl (fun b17 => ?_) (fun b17 => ?_)
              · replace e := zd_pos b17 e
                refine zk_iconst (v := 0) C kd_Mo_refusal_176 (by decide) rfl ?_
                refine zk_goto (tgt := 214) C kd_Mo_refusal_177 (by decide) ?_
                refine zk_lvs (lv' := [(0, .ref (S.1 68)), (1, .int x1), (3, .int v2)]) [1, 2, 0] rfl ?_
                exact zb_Mo_refusal_214 C hR x1 v2 0 e
              · replace e := zd_neg b17 e
                refine zk_lvs (lv' := [(0, .ref (S.1 68)), (1, .int x1), (3, .int v2)]) [1, 2, 0] rfl ?_
                exact zb_Mo_refusal_172 C hR x1 v2 e
      · replace e := zd_pos b5 e
        refine zk_iload_n C kd_Mo_refusal_119 rfl 0 rfl rfl ?_
        refine zk_if_eq (tgt := 134) C kd_Mo_refusal_120 (by decide) rfl (fun b18 => ?_) (fun b18 => ?_)
        · replace e := zd_pos b18 e
          refine zk_lvs (lv' := [(0, .ref (S.1 68)), (1, .int x1), (3, .int v2)]) [1, 2, 0] rfl ?_
          exact zb_Mo_refusal_134 C hR x1 v2 e
        · replace e := zd_neg b18 e
          refine zk_iload_n C kd_Mo_refusal_123 rfl 0 rfl rfl ?_
          refine zk_ldcw (v := 65280) C kw2840 kd_Mo_refusal_124 rfl ?_
          refine zk_icmp_eq (tgt := 134) C kd_Mo_refusal_127 (by decide) rfl (fun b19 => ?_) (fun b19 => ?_)
          · replace e := zd_pos b19 e
            refine zk_lvs (lv' := [(0, .ref (S.1 68)), (1, .int x1), (3, .int v2)]) [1, 2, 0] rfl ?_
            exact zb_Mo_refusal_134 C hR x1 v2 e
          · replace e := zd_neg b19 e
            refine zk_iconst (v := 1) C kd_Mo_refusal_130 (by decide) rfl ?_
            refine zk_goto (tgt := 214) C kd_Mo_refusal_131 (by decide) ?_
            refine zk_lvs (lv' := [(0, .ref (S.1 68)), (1, .int x1), (3, .int v2)]) [1, 2, 0] rfl ?_
            exact zb_Mo_refusal_214 C hR x1 v2 1 e
    · replace e := zd_neg b4 e
      refine zk_iload_n C kd_Mo_refusal_95 rfl 0 rfl rfl ?_
      refine zk_iconst (v := 1) C kd_Mo_refusal_96 (by decide) rfl ?_
      refine zk_icmp_lt (tgt := 106) C kd_Mo_refusal_97 (by decide) rfl (fun b20 => ?_) (fun b20 => ?_)
      · replace e := zd_pos b20 e
        refine zk_lvs (lv' := [(0, .ref (S.1 68)), (1, .int x1), (3, .int v2)]) [1, 2, 0] rfl ?_
        exact zb_Mo_refusal_106 C hR x1 v2 e
      · replace e := zd_neg b20 e
        refine zk_iload_n C kd_Mo_refusal_100 rfl 0 rfl rfl ?_
        refine zk_bipush (v := 125) C kd_Mo_refusal_101 (by decide) rfl ?_
        refine zk_icmp_le (tgt := 110) C kd_Mo_refusal_103 (by decide) rfl (fun b21 => ?_) (fun b21 => ?_)
        · replace e := zd_pos b21 e
          refine zk_iconst (v := 0) C kd_Mo_refusal_110 (by decide) rfl ?_
          refine zk_goto (tgt := 214) C kd_Mo_refusal_111 (by decide) ?_
          refine zk_lvs (lv' := [(0, .ref (S.1 68)), (1, .int x1), (3, .int v2)]) [1, 2, 0] rfl ?_
          exact zb_Mo_refusal_214 C hR x1 v2 0 e
        · replace e := zd_neg b21 e
          refine zk_lvs (lv' := [(0, .ref (S.1 68)), (1, .int x1), (3, .int v2)]) [1, 2, 0] rfl ?_
          exact zb_Mo_refusal_106 C hR x1 v2 e
  · replace e := zd_neg b3 e
    refine zk_iload_n C kd_Mo_refusal_70 rfl 0 rfl rfl ?_
    refine zk_iconst (v := 1) C kd_Mo_refusal_71 (by decide) rfl ?_
    refine zk_icmp_lt (tgt := 82) C kd_Mo_refusal_72 (by decide) rfl (fun b22 => ?_) (fun b22 => ?_)
    · replace e := zd_pos b22 e
      refine zk_lvs (lv' := [(0, .ref (S.1 68)), (1, .int x1), (3, .int v2)]) [1, 2, 0] rfl ?_
      exact zb_Mo_refusal_82 C hR x1 v2 e
    · replace e := zd_neg b22 e
      refine zk_iload_n C kd_Mo_refusal_75 rfl 0 rfl rfl ?_
      refine zk_sipush (v := 2000) C kd_Mo_refusal_76 (by decide) rfl ?_
      refine zk_icmp_le (tgt := 86) C kd_Mo_refusal_79 (by decide) rfl (fun b23 => ?_) (fun b23 => ?_)
      · replace e := zd_pos b23 e
        refine zk_iconst (v := 0) C kd_Mo_refusal_86 (by decide) rfl ?_
        refine zk_goto (tgt := 214) C kd_Mo_refusal_87 (by decide) ?_
        refine zk_lvs (lv' := [(0, .ref (S.1 68)), (1, .int x1), (3, .int v2)]) [1, 2, 0] rfl ?_
        exact zb_Mo_refusal_214 C hR x1 v2 0 e
      · replace e := zd_neg b23 e
        refine zk_lvs (lv' := [(0, .ref (S.1 68)), (1, .int x1), (3, .int v2)]) [1, 2, 0] rfl ?_
        exact zb_Mo_refusal_82 C hR x1 v2 e
set_option maxHeartbeats 4000000 in
set_option maxRecDepth 100000 in
theorem zb_Mo_refusal_25 {X : zkj_T} {S : zs_T} {P : ze_T} {l : Launch} {D : va_G} {sz0 : Nat} {rv : Int32} {h : zs_H} (C : zk_C X km_Mo_refusal (zs_G S l D sz0) { frames := 2, cells := 0, slots := 0, locals := 42 } (ze_E P)) (hR : zkj_R X (zd_PI S rv h) (some .int)) (x1 : Int32) (x2 : Int32) (e : f_Mo_refusal_25 h x1 x2 = some rv) : zk_Ab X (zs_W S h) 0 0 25 [(0, .ref (S.1 68)), (1, .int x1), (2, .int x2)] [] := by
  unfold f_Mo_refusal_25 at e
  refine zk_iload_n C kd_Mo_refusal_25 rfl 1 rfl rfl ?_
  refine zk_bipush (v := 7) C kd_Mo_refusal_26 (by decide) rfl ?_
  refine zk_icmp_ge (tgt := 39) C kd_Mo_refusal_28 (by decide) rfl (fun b1 => ?_) (fun b1 => ?_)
  · replace e := zd_pos b1 e
    refine zk_iload_n C kd_Mo_refusal_39 rfl 2 rfl rfl ?_
    refine zk_bipush (v := 6) C kd_Mo_refusal_40 (by decide) rfl ?_
    refine zk_icmp_lt (tgt := 57) C kd_Mo_refusal_42 (by decide) rfl (fun b2 => ?_) (fun b2 => ?_)
    · replace e := zd_pos b2 e
      refine zk_iconst (v := 3) C kd_Mo_refusal_57 (by decide) rfl ?_
      exact zk_iret C hR kd_Mo_refusal_58 rfl rfl (zd_rIO e)
    · replace e := zd_neg b2 e
      refine zk_iload_n C kd_Mo_refusal_45 rfl 2 rfl rfl ?_
      refine zk_iconst (v := 5) C kd_Mo_refusal_46 (by decide) rfl ?_
      refine zk_aload_n C kd_Mo_refusal_47 rfl 0 rfl rfl ?_
      refine zk_bipush (v := 6) C kd_Mo_refusal_48 (by decide) rfl ?_
      obtain ⟨v4, c3, e⟩ := zd_b e
      refine zs_callV (k := 68) (rn := { frames := 0, cells := 0, slots := 0, locals := 0 }) (As := [.int 6]) (rest := [.int 5, .int x2]) C (zc_Mo_heard h 6 c3) ku_Mo_heard kw2824 kv_Mo_heard rfl ⟨by decide, by decide⟩ ⟨by decide, by decide⟩ rfl rfl rfl (Nat.le_of_ble_eq_true rfl) kd_Mo_refusal_50 rfl (c1 := 0) (s1 := 0) rfl rfl (fun v w hp => ?_)
      obtain ⟨rfl, rfl⟩ := hp
      refine zk_stk (r' := [.int v4, .int 5, .int x2]) rfl ?_
      refine zk_iadd C kd_Mo_refusal_53 rfl ?_
      refine zk_icmp_eq (tgt := 59) C kd_Mo_refusal_54 (by decide) rfl (fun b5 => ?_) (fun b5 => ?_)
      · replace e := zd_pos b5 e
        refine zk_lvs (lv' := [(0, .ref (S.1 68)), (1, .int x1)]) [0, 1] rfl ?_
        exact zb_Mo_refusal_59 C hR x1 e
      · replace e := zd_neg b5 e
        refine zk_iconst (v := 3) C kd_Mo_refusal_57 (by decide) rfl ?_
        exact zk_iret C hR kd_Mo_refusal_58 rfl rfl (zd_rIO e)
  · replace e := zd_neg b1 e
    refine zk_iload_n C kd_Mo_refusal_31 rfl 2 rfl rfl ?_
    refine zk_iconst (v := 4) C kd_Mo_refusal_32 (by decide) rfl ?_
    refine zk_icmp_eq (tgt := 59) C kd_Mo_refusal_33 (by decide) rfl (fun b6 => ?_) (fun b6 => ?_)
    · replace e := zd_pos b6 e
      refine zk_lvs (lv' := [(0, .ref (S.1 68)), (1, .int x1)]) [0, 1] rfl ?_
      exact zb_Mo_refusal_59 C hR x1 e
    · replace e := zd_neg b6 e
      refine zk_goto (tgt := 57) C kd_Mo_refusal_36 (by decide) ?_
      refine zk_iconst (v := 3) C kd_Mo_refusal_57 (by decide) rfl ?_
      exact zk_iret C hR kd_Mo_refusal_58 rfl rfl (zd_rIO e)
set_option maxHeartbeats 4000000 in
set_option maxRecDepth 100000 in
theorem zb_Mo_refusal_11 {X : zkj_T} {S : zs_T} {P : ze_T} {l : Launch} {D : va_G} {sz0 : Nat} {rv : Int32} {h : zs_H} (C : zk_C X km_Mo_refusal (zs_G S l D sz0) { frames := 2, cells := 0, slots := 0, locals := 42 } (ze_E P)) (hR : zkj_R X (zd_PI S rv h) (some .int)) (x1 : Int32) (x2 : Int32) (e : f_Mo_refusal_11 h x1 x2 = some rv) : zk_Ab X (zs_W S h) 0 0 11 [(0, .ref (S.1 68)), (1, .int x1), (2, .int x2)] [] := by
  unfold f_Mo_refusal_11 at e
  refine zk_iload_n C kd_Mo_refusal_11 rfl 1 rfl rfl ?_
  refine zk_bipush (v := 15) C kd_Mo_refusal_12 (by decide) rfl ?_
  refine zk_icmp_eq (tgt := 25) C kd_Mo_refusal_14 (by decide) rfl (fun b1 => ?_) (fun b1 => ?_)
  · replace e := zd_pos b1 e
    refine zk_lvs (lv' := [(0, .ref (S.1 68)), (1, .int x1), (2, .int x2)]) [0, 1, 2] rfl ?_
    exact zb_Mo_refusal_25 C hR x1 x2 e
  · replace e := zd_neg b1 e
    refine zk_iload_n C kd_Mo_refusal_17 rfl 1 rfl rfl ?_
    refine zk_bipush (v := 16) C kd_Mo_refusal_18 (by decide) rfl ?_
    refine zk_icmp_eq (tgt := 25) C kd_Mo_refusal_20 (by decide) rfl (fun b2 => ?_) (fun b2 => ?_)
    · replace e := zd_pos b2 e
      refine zk_lvs (lv' := [(0, .ref (S.1 68)), (1, .int x1), (2, .int x2)]) [0, 1, 2] rfl ?_
      exact zb_Mo_refusal_25 C hR x1 x2 e
    · replace e := zd_neg b2 e
      refine zk_iconst (v := 1) C kd_Mo_refusal_23 (by decide) rfl ?_
      exact zk_iret C hR kd_Mo_refusal_24 rfl rfl (zd_rIO e)
set_option maxHeartbeats 4000000 in
set_option maxRecDepth 100000 in
theorem zc_Mo_refusal {l : Launch} {D : va_G} {sz0 : Nat} {S : zs_T} {P : ze_T} (h : zs_H) (x1 : Int32) (x2 : Int32) {rv : Int32} (e : f_Mo_refusal h x1 x2 = some rv) : zk_Sp (zs_G S l D sz0) (ze_E P) km_Mo_refusal { frames := 2, cells := 0, slots := 0, locals := 42 } [.ref (S.1 68), .int x1, .int x2] (zs_W S h) (zd_PI S rv h) := by
  refine zk_met ku_Mo_refusal (Nat.le_of_ble_eq_true rfl) (ze_Em P) ?_
  intro X C hR
  refine zk_lvs (lv' := [(0, .ref (S.1 68)), (1, .int x1), (2, .int x2)]) [0, 1, 2] rfl ?_
  unfold f_Mo_refusal at e
  refine zk_iload_n C kd_Mo_refusal_0 rfl 1 rfl rfl ?_
  refine zk_iconst (v := 1) C kd_Mo_refusal_1 (by decide) rfl ?_
  refine zk_icmp_lt (tgt := 11) C kd_Mo_refusal_2 (by decide) rfl (fun b1 => ?_) (fun b1 => ?_)
  · replace e := zd_pos b1 e
    refine zk_lvs (lv' := [(0, .ref (S.1 68)), (1, .int x1), (2, .int x2)]) [0, 1, 2] rfl ?_
    exact zb_Mo_refusal_11 C hR x1 x2 e
  · replace e := zd_neg b1 e
    refine zk_iload_n C kd_Mo_refusal_5 rfl 1 rfl rfl ?_
    refine zk_bipush (v := 6) C kd_Mo_refusal_6 (by decide) rfl ?_
    refine zk_icmp_le (tgt := 25) C kd_Mo_refusal_8 (by decide) rfl (fun b2 => ?_) (fun b2 => ?_)
    · replace e := zd_pos b2 e
      refine zk_lvs (lv' := [(0, .ref (S.1 68)), (1, .int x1), (2, .int x2)]) [0, 1, 2] rfl ?_
      exact zb_Mo_refusal_25 C hR x1 x2 e
    · replace e := zd_neg b2 e
      refine zk_lvs (lv' := [(0, .ref (S.1 68)), (1, .int x1), (2, .int x2)]) [0, 1, 2] rfl ?_
      exact zb_Mo_refusal_11 C hR x1 x2 e
set_option maxHeartbeats 4000000 in
set_option maxRecDepth 100000 in
theorem zc_Mo_narrow {l : Launch} {D : va_G} {sz0 : Nat} {S : zs_T} {P : ze_T} (h : zs_H) (x0 : Int32) : zk_Sp (zs_G S l D sz0) (ze_E P) km_Mo_narrow { frames := 0, cells := 0, slots := 0, locals := 0 } [.int x0] (zs_W S h) (zd_PI S (f_Mo_narrow x0) h) := by
  obtain ⟨rv, e⟩ : ∃ rv, f_Mo_narrow x0 = rv := ⟨_, rfl⟩
  rw [e]
  refine zk_met ku_Mo_narrow (Nat.le_of_ble_eq_true rfl) (ze_Em P) ?_
  intro X C hR
  refine zk_lvs (lv' := [(0, .int x0)]) [0] rfl ?_
  unfold f_Mo_narrow at e
  refine zk_iload_n C kd_Mo_narrow_0 rfl 0 rfl rfl ?_
  refine zk_ldcw (v := 65535) C kw2570 kd_Mo_narrow_1 rfl ?_
  refine zk_iand C kd_Mo_narrow_4 rfl ?_
  refine zk_istore_n (lv' := [(1, _), (0, _)]) C kd_Mo_narrow_5 rfl (by decide) rfl rfl ?_
  refine zk_iload_n C kd_Mo_narrow_6 rfl 0 rfl rfl ?_
  refine zk_sipush (v := 32767) C kd_Mo_narrow_7 (by decide) rfl ?_
  refine zk_icmp_le (tgt := 21) C kd_Mo_narrow_10 (by decide) rfl (fun b1 => ?_) (fun b1 => ?_)
  · replace e := zd_pos b1 e
    refine zk_iload_n C kd_Mo_narrow_21 rfl 0 rfl rfl ?_
    exact zk_iret C hR kd_Mo_narrow_22 rfl rfl (zd_rIT e)
  · replace e := zd_neg b1 e
    refine zk_iload_n C kd_Mo_narrow_13 rfl 0 rfl rfl ?_
    refine zk_ldcw (v := 65536) C kw2571 kd_Mo_narrow_14 rfl ?_
    refine zk_isub C kd_Mo_narrow_17 rfl ?_
    refine zk_goto (tgt := 22) C kd_Mo_narrow_18 (by decide) ?_
    exact zk_iret C hR kd_Mo_narrow_22 rfl rfl (zd_rIT e)
set_option maxHeartbeats 4000000 in
set_option maxRecDepth 100000 in
theorem zb_Mo_obey_142 {X : zkj_T} {S : zs_T} {P : ze_T} {l : Launch} {D : va_G} {sz0 : Nat} {rh : zs_H} (C : zk_C X km_Mo_obey (zs_G S l D sz0) { frames := 2, cells := 0, slots := 0, locals := 42 } (ze_E P)) (hR : zkj_R X (zd_PV S rh) (none)) {k62 : zs_H → Int32 → Int32 → Int32 → Int32 → (Option zs_H)} (hk62 : ∀ (h : zs_H) (x1 : Int32) (x2 : Int32) (x3 : Int32) (x4 : Int32), k62 h x1 x2 x3 x4 = some rh → zk_Ab X (zs_W S h) 0 0 62 [(0, .ref (S.1 68)), (1, .int x1), (2, .int x2), (3, .int x3), (4, .int x4)] []) (h : zs_H) (x1 : Int32) (x2 : Int32) (x3 : Int32) (x4 : Int32) (e : f_Mo_obey_142 k62 h x1 x2 x3 x4 = some rh) : zk_Ab X (zs_W S h) 0 0 142 [(0, .ref (S.1 68)), (1, .int x1), (2, .int x2), (3, .int x3), (4, .int x4)] [] := by
  unfold f_Mo_obey_142 at e
  refine zk_iinc (v := (x4 + 1)) (lv' := [(4, _), (0, _), (1, _), (2, _), (3, _)]) C kd_Mo_obey_142 4 rfl rfl (by decide) rfl rfl ?_
  refine zk_goto (tgt := 62) C kd_Mo_obey_145 (by decide) ?_
  refine zk_lvs (lv' := [(0, .ref (S.1 68)), (1, .int x1), (2, .int x2), (3, .int x3), (4, .int (x4 + 1))]) [1, 2, 3, 4, 0] rfl ?_
  exact hk62 h x1 x2 x3 (x4 + 1) e
set_option maxHeartbeats 4000000 in
set_option maxRecDepth 100000 in
theorem zb_Mo_obey_62 {X : zkj_T} {S : zs_T} {P : ze_T} {l : Launch} {D : va_G} {sz0 : Nat} {rh : zs_H} (C : zk_C X km_Mo_obey (zs_G S l D sz0) { frames := 2, cells := 0, slots := 0, locals := 42 } (ze_E P)) (hR : zkj_R X (zd_PV S rh) (none)) {k62 : zs_H → Int32 → Int32 → Int32 → Int32 → (Option zs_H)} (hk62 : ∀ (h : zs_H) (x1 : Int32) (x2 : Int32) (x3 : Int32) (x4 : Int32), k62 h x1 x2 x3 x4 = some rh → zk_Ab X (zs_W S h) 0 0 62 [(0, .ref (S.1 68)), (1, .int x1), (2, .int x2), (3, .int x3), (4, .int x4)] []) (h : zs_H) (x1 : Int32) (x2 : Int32) (x3 : Int32) (x4 : Int32) (e : f_Mo_obey_62 k62 h x1 x2 x3 x4 = some rh) : zk_Ab X (zs_W S h) 0 0 62 [(0, .ref (S.1 68)), (1, .int x1), (2, .int x2), (3, .int x3), (4, .int x4)] [] := by
  unfold f_Mo_obey_62 at e
  refine zk_iload C kd_Mo_obey_62 4 rfl rfl ?_
  refine zk_iload_n C kd_Mo_obey_64 rfl 3 rfl rfl ?_
  refine zk_icmp_ge (tgt := 148) C kd_Mo_obey_65 (by decide) rfl (fun b1 => ?_) (fun b1 => ?_)
  · replace e := zd_pos b1 e
    exact zk_vret C hR kd_Mo_obey_148 rfl rfl (zd_rV e)
  · replace e := zd_neg b1 e
    refine zk_iload_n C kd_Mo_obey_68 rfl 1 rfl rfl ?_
    refine zk_bipush (v := 14) C kd_Mo_obey_69 (by decide) rfl ?_
    refine zk_icmp_le (tgt := 148) C kd_Mo_obey_71 (by decide) rfl (fun b2 => ?_) (fun b2 => ?_)
    · replace e := zd_pos b2 e
      exact zk_vret C hR kd_Mo_obey_148 rfl rfl (zd_rV e)
    · replace e := zd_neg b2 e
      refine zk_iload_n C kd_Mo_obey_74 rfl 1 rfl rfl ?_
      refine zk_bipush (v := 15) C kd_Mo_obey_75 (by decide) rfl ?_
      refine zk_icmp_ne (tgt := 116) C kd_Mo_obey_77 (by decide) rfl (fun b3 => ?_) (fun b3 => ?_)
      · replace e := zd_neg b3 e
        refine zk_aload_n C kd_Mo_obey_116 rfl 0 rfl rfl ?_
        refine zs_get (v := .ref (S.1 114)) C 68 72 rfl rfl rfl rfl ki_Mo (by decide) kw1755 kd_Mo_obey_117 rfl ?_
        refine zk_sipush (v := 896) C kd_Mo_obey_120 (by decide) rfl ?_
        refine zk_iload_n C kd_Mo_obey_123 rfl 2 rfl rfl ?_
        refine zk_iadd C kd_Mo_obey_124 rfl ?_
        refine zk_iload C kd_Mo_obey_125 4 rfl rfl ?_
        refine zk_iadd C kd_Mo_obey_127 rfl ?_
        refine zk_aload_n C kd_Mo_obey_128 rfl 0 rfl rfl ?_
        refine zk_iconst (v := 5) C kd_Mo_obey_129 (by decide) rfl ?_
        refine zk_iconst (v := 2) C kd_Mo_obey_130 (by decide) rfl ?_
        refine zk_iload C kd_Mo_obey_131 4 rfl rfl ?_
        refine zk_imul C kd_Mo_obey_133 rfl ?_
        refine zk_iadd C kd_Mo_obey_134 rfl ?_
        obtain ⟨v5, c4, e⟩ := zd_b e
        refine zs_callV (k := 68) (rn := { frames := 1, cells := 0, slots := 0, locals := 21 }) (As := [.int (5 + (2 * x4))]) (rest := [.int ((896 + x2) + x4), .ref (S.1 114)]) C (zc_Mo_dataTwo h (5 + (2 * x4)) c4) ku_Mo_dataTwo kw2836 kv_Mo_dataTwo rfl ⟨by decide, by decide⟩ ⟨by decide, by decide⟩ rfl rfl rfl (Nat.le_of_ble_eq_true rfl) kd_Mo_obey_135 rfl (c1 := 0) (s1 := 0) rfl rfl (fun v w hp => ?_)
        obtain ⟨rfl, rfl⟩ := hp
        refine zk_stk (r' := [.int v5, .int ((896 + x2) + x4), .ref (S.1 114)]) rfl ?_
        refine zk_callS (rn := { frames := 0, cells := 0, slots := 0, locals := 0 }) (As := [.int v5]) (rest := [.int ((896 + x2) + x4), .ref (S.1 114)]) C (zc_Mo_narrow h v5) ku_Mo_narrow kw2567 ks_Mo_narrow rfl ⟨by decide, by decide⟩ ⟨by decide, by decide⟩ rfl (Nat.le_of_ble_eq_true rfl) kd_Mo_obey_138 rfl (c1 := 0) (s1 := 0) rfl rfl (fun v w hp => ?_)
        obtain ⟨rfl, rfl⟩ := hp
        refine zk_stk (r' := [.int (f_Mo_narrow v5), .int ((896 + x2) + x4), .ref (S.1 114)]) rfl ?_
        obtain ⟨q6, e⟩ := zd_g e
        refine zs_iast C 114 rfl (zd_vp q6) kd_Mo_obey_141 rfl ?_
        refine zk_lvs (lv' := [(0, .ref (S.1 68)), (1, .int x1), (2, .int x2), (3, .int x3), (4, .int x4)]) [0, 1, 2, 3, 4] rfl ?_
        exact zb_Mo_obey_142 C hR hk62 (zs_uM h 114 ((896 + x2) + x4).toNatClampNeg (f_Mo_narrow v5)) x1 x2 x3 x4 e
      · replace e := zd_pos b3 e
        refine zk_aload_n C kd_Mo_obey_80 rfl 0 rfl rfl ?_
        refine zs_get (v := .ref (S.1 114)) C 68 72 rfl rfl rfl rfl ki_Mo (by decide) kw1755 kd_Mo_obey_81 rfl ?_
        refine zk_sipush (v := 512) C kd_Mo_obey_84 (by decide) rfl ?_
        refine zk_iload_n C kd_Mo_obey_87 rfl 2 rfl rfl ?_
        refine zk_iadd C kd_Mo_obey_88 rfl ?_
        refine zk_iload C kd_Mo_obey_89 4 rfl rfl ?_
        refine zk_iadd C kd_Mo_obey_91 rfl ?_
        refine zk_aload_n C kd_Mo_obey_92 rfl 0 rfl rfl ?_
        refine zk_bipush (v := 7) C kd_Mo_obey_93 (by decide) rfl ?_
        refine zk_iload C kd_Mo_obey_95 4 rfl rfl ?_
        refine zk_bipush (v := 8) C kd_Mo_obey_97 (by decide) rfl ?_
        refine zk_idiv C kd_Mo_obey_99 (by decide) rfl ?_
        refine zk_iadd C kd_Mo_obey_100 rfl ?_
        obtain ⟨v8, c7, e⟩ := zd_b e
        refine zs_callV (k := 68) (rn := { frames := 0, cells := 0, slots := 0, locals := 0 }) (As := [.int (7 + (x4 / 8))]) (rest := [.int ((512 + x2) + x4), .ref (S.1 114)]) C (zc_Mo_heard h (7 + (x4 / 8)) c7) ku_Mo_heard kw2824 kv_Mo_heard rfl ⟨by decide, by decide⟩ ⟨by decide, by decide⟩ rfl rfl rfl (Nat.le_of_ble_eq_true rfl) kd_Mo_obey_101 rfl (c1 := 0) (s1 := 0) rfl rfl (fun v w hp => ?_)
        obtain ⟨rfl, rfl⟩ := hp
        refine zk_stk (r' := [.int v8, .int ((512 + x2) + x4), .ref (S.1 114)]) rfl ?_
        refine zk_iload C kd_Mo_obey_104 4 rfl rfl ?_
        refine zk_bipush (v := 8) C kd_Mo_obey_106 (by decide) rfl ?_
        refine zk_irem C kd_Mo_obey_108 (by decide) rfl ?_
        refine zk_ishr C kd_Mo_obey_109 rfl ?_
        refine zk_iconst (v := 1) C kd_Mo_obey_110 (by decide) rfl ?_
        refine zk_iand C kd_Mo_obey_111 rfl ?_
        obtain ⟨q9, e⟩ := zd_g e
        refine zs_iast C 114 rfl (zd_vp q9) kd_Mo_obey_112 rfl ?_
        refine zk_goto (tgt := 142) C kd_Mo_obey_113 (by decide) ?_
        refine zk_lvs (lv' := [(0, .ref (S.1 68)), (1, .int x1), (2, .int x2), (3, .int x3), (4, .int x4)]) [0, 1, 2, 3, 4] rfl ?_
        exact zb_Mo_obey_142 C hR hk62 (zs_uM h 114 ((512 + x2) + x4).toNatClampNeg ((v8 >>> ((x4 - x4 / 8 * 8) &&& 31)) &&& 1)) x1 x2 x3 x4 e
theorem zl_Mo_obey_62 {X : zkj_T} {S : zs_T} {P : ze_T} {l : Launch} {D : va_G} {sz0 : Nat} {rh : zs_H} (C : zk_C X km_Mo_obey (zs_G S l D sz0) { frames := 2, cells := 0, slots := 0, locals := 42 } (ze_E P)) (hR : zkj_R X (zd_PV S rh) (none)) (n : Nat) : ∀ (h : zs_H) (x1 : Int32) (x2 : Int32) (x3 : Int32) (x4 : Int32), f_Mo_obey_L62 n h x1 x2 x3 x4 = some rh → zk_Ab X (zs_W S h) 0 0 62 [(0, .ref (S.1 68)), (1, .int x1), (2, .int x2), (3, .int x3), (4, .int x4)] [] := by
  induction n with
  | zero => intro h x1 x2 x3 x4 e; exact zd_no e
  | succ n ih => intro h x1 x2 x3 x4 e; exact zb_Mo_obey_62 (k62 := f_Mo_obey_L62  n) C hR ih h x1 x2 x3 x4 e
set_option maxHeartbeats 4000000 in
set_option maxRecDepth 100000 in
theorem zb_Mo_obey_59 {X : zkj_T} {S : zs_T} {P : ze_T} {l : Launch} {D : va_G} {sz0 : Nat} {rh : zs_H} (C : zk_C X km_Mo_obey (zs_G S l D sz0) { frames := 2, cells := 0, slots := 0, locals := 42 } (ze_E P)) (hR : zkj_R X (zd_PV S rh) (none)) (h : zs_H) (x1 : Int32) (x2 : Int32) (x3 : Int32) (e : f_Mo_obey_59 h x1 x2 x3 = some rh) : zk_Ab X (zs_W S h) 0 0 59 [(0, .ref (S.1 68)), (1, .int x1), (2, .int x2), (3, .int x3)] [] := by
  unfold f_Mo_obey_59 at e
  refine zk_iconst (v := 0) C kd_Mo_obey_59 (by decide) rfl ?_
  refine zk_istore (lv' := [(4, _), (0, _), (1, _), (2, _), (3, _)]) C kd_Mo_obey_60 (by decide) rfl rfl ?_
  refine zk_lvs (lv' := [(0, .ref (S.1 68)), (1, .int x1), (2, .int x2), (3, .int x3), (4, .int 0)]) [1, 2, 3, 4, 0] rfl ?_
  exact zl_Mo_obey_62 C hR zF h x1 x2 x3 0 e
set_option maxHeartbeats 4000000 in
set_option maxRecDepth 100000 in
theorem zb_Mo_obey_35 {X : zkj_T} {S : zs_T} {P : ze_T} {l : Launch} {D : va_G} {sz0 : Nat} {rh : zs_H} (C : zk_C X km_Mo_obey (zs_G S l D sz0) { frames := 2, cells := 0, slots := 0, locals := 42 } (ze_E P)) (hR : zkj_R X (zd_PV S rh) (none)) (h : zs_H) (x1 : Int32) (x2 : Int32) (x3 : Int32) (y0 : Int32) (y1 : Int32) (e : f_Mo_obey_35 h x1 x2 x3 y0 y1 = some rh) : zk_Ab X (zs_W S h) 0 0 35 [(0, .ref (S.1 68)), (1, .int x1), (2, .int x2), (3, .int x3)] [.int y0, .int y1, .ref (S.1 114)] := by
  unfold f_Mo_obey_35 at e
  obtain ⟨q1, e⟩ := zd_g e
  refine zs_iast C 114 rfl (zd_vp q1) kd_Mo_obey_35 rfl ?_
  refine zk_goto (tgt := 59) C kd_Mo_obey_36 (by decide) ?_
  refine zk_lvs (lv' := [(0, .ref (S.1 68)), (1, .int x1), (2, .int x2), (3, .int x3)]) [0, 1, 2, 3] rfl ?_
  exact zb_Mo_obey_59 C hR (zs_uM h 114 y1.toNatClampNeg y0) x1 x2 x3 e
set_option maxHeartbeats 4000000 in
set_option maxRecDepth 100000 in
theorem zc_Mo_obey {l : Launch} {D : va_G} {sz0 : Nat} {S : zs_T} {P : ze_T} (h : zs_H) (x1 : Int32) {rh : zs_H} (e : f_Mo_obey h x1 = some rh) : zk_Sp (zs_G S l D sz0) (ze_E P) km_Mo_obey { frames := 2, cells := 0, slots := 0, locals := 42 } [.ref (S.1 68), .int x1] (zs_W S h) (zd_PV S rh) := by
  refine zk_met ku_Mo_obey (Nat.le_of_ble_eq_true rfl) (ze_Em P) ?_
  intro X C hR
  refine zk_lvs (lv' := [(0, .ref (S.1 68)), (1, .int x1)]) [0, 1] rfl ?_
  unfold f_Mo_obey at e
  refine zk_aload_n C kd_Mo_obey_0 rfl 0 rfl rfl ?_
  refine zk_iconst (v := 0) C kd_Mo_obey_1 (by decide) rfl ?_
  obtain ⟨v2, c1, e⟩ := zd_b e
  refine zs_callV (k := 68) (rn := { frames := 1, cells := 0, slots := 0, locals := 21 }) (As := [.int 0]) (rest := []) C (zc_Mo_dataTwo h 0 c1) ku_Mo_dataTwo kw2836 kv_Mo_dataTwo rfl ⟨by decide, by decide⟩ ⟨by decide, by decide⟩ rfl rfl rfl (Nat.le_of_ble_eq_true rfl) kd_Mo_obey_2 rfl (c1 := 0) (s1 := 0) rfl rfl (fun v w hp => ?_)
  obtain ⟨rfl, rfl⟩ := hp
  refine zk_stk (r' := [.int v2]) rfl ?_
  refine zk_istore_n (lv' := [(2, _), (0, _), (1, _)]) C kd_Mo_obey_5 rfl (by decide) rfl rfl ?_
  refine zk_aload_n C kd_Mo_obey_6 rfl 1 rfl rfl ?_
  refine zk_iconst (v := 2) C kd_Mo_obey_7 (by decide) rfl ?_
  obtain ⟨v4, c3, e⟩ := zd_b e
  refine zs_callV (k := 68) (rn := { frames := 1, cells := 0, slots := 0, locals := 21 }) (As := [.int 2]) (rest := []) C (zc_Mo_dataTwo h 2 c3) ku_Mo_dataTwo kw2836 kv_Mo_dataTwo rfl ⟨by decide, by decide⟩ ⟨by decide, by decide⟩ rfl rfl rfl (Nat.le_of_ble_eq_true rfl) kd_Mo_obey_8 rfl (c1 := 0) (s1 := 0) rfl rfl (fun v w hp => ?_)
  obtain ⟨rfl, rfl⟩ := hp
  refine zk_stk (r' := [.int v4]) rfl ?_
  refine zk_istore_n (lv' := [(3, _), (2, _), (0, _), (1, _)]) C kd_Mo_obey_11 rfl (by decide) rfl rfl ?_
  refine zk_iload_n C kd_Mo_obey_12 rfl 3 rfl rfl ?_
  refine zk_iconst (v := 5) C kd_Mo_obey_13 (by decide) rfl ?_
  refine zk_icmp_ne (tgt := 39) C kd_Mo_obey_14 (by decide) rfl (fun b5 => ?_) (fun b5 => ?_)
  · replace e := zd_neg b5 e
    refine zk_iload_n C kd_Mo_obey_39 rfl 3 rfl rfl ?_
    refine zk_bipush (v := 6) C kd_Mo_obey_40 (by decide) rfl ?_
    refine zk_icmp_ne (tgt := 59) C kd_Mo_obey_42 (by decide) rfl (fun b6 => ?_) (fun b6 => ?_)
    · replace e := zd_neg b6 e
      refine zk_lvs (lv' := [(0, .ref (S.1 68)), (1, .int x1), (2, .int v2), (3, .int v4)]) [2, 3, 1, 0] rfl ?_
      exact zb_Mo_obey_59 C hR h x1 v2 v4 e
    · replace e := zd_pos b6 e
      refine zk_aload_n C kd_Mo_obey_45 rfl 2 rfl rfl ?_
      refine zs_get (v := .ref (S.1 114)) C 68 72 rfl rfl rfl rfl ki_Mo (by decide) kw1755 kd_Mo_obey_46 rfl ?_
      refine zk_sipush (v := 896) C kd_Mo_obey_49 (by decide) rfl ?_
      refine zk_iload_n C kd_Mo_obey_52 rfl 1 rfl rfl ?_
      refine zk_iadd C kd_Mo_obey_53 rfl ?_
      refine zk_iload_n C kd_Mo_obey_54 rfl 0 rfl rfl ?_
      refine zk_callS (rn := { frames := 0, cells := 0, slots := 0, locals := 0 }) (As := [.int v4]) (rest := [.int (896 + v2), .ref (S.1 114)]) C (zc_Mo_narrow h v4) ku_Mo_narrow kw2567 ks_Mo_narrow rfl ⟨by decide, by decide⟩ ⟨by decide, by decide⟩ rfl (Nat.le_of_ble_eq_true rfl) kd_Mo_obey_55 rfl (c1 := 0) (s1 := 0) rfl rfl (fun v w hp => ?_)
      obtain ⟨rfl, rfl⟩ := hp
      refine zk_stk (r' := [.int (f_Mo_narrow v4), .int (896 + v2), .ref (S.1 114)]) rfl ?_
      obtain ⟨q7, e⟩ := zd_g e
      refine zs_iast C 114 rfl (zd_vp q7) kd_Mo_obey_58 rfl ?_
      refine zk_lvs (lv' := [(0, .ref (S.1 68)), (1, .int x1), (2, .int v2), (3, .int v4)]) [2, 3, 1, 0] rfl ?_
      exact zb_Mo_obey_59 C hR (zs_uM h 114 (896 + v2).toNatClampNeg (f_Mo_narrow v4)) x1 v2 v4 e
  · replace e := zd_pos b5 e
    refine zk_aload_n C kd_Mo_obey_17 rfl 2 rfl rfl ?_
    refine zs_get (v := .ref (S.1 114)) C 68 72 rfl rfl rfl rfl ki_Mo (by decide) kw1755 kd_Mo_obey_18 rfl ?_
    refine zk_sipush (v := 512) C kd_Mo_obey_21 (by decide) rfl ?_
    refine zk_iload_n C kd_Mo_obey_24 rfl 1 rfl rfl ?_
    refine zk_iadd C kd_Mo_obey_25 rfl ?_
    refine zk_iload_n C kd_Mo_obey_26 rfl 0 rfl rfl ?_
    refine zk_if_le (tgt := 34) C kd_Mo_obey_27 (by decide) rfl (fun b8 => ?_) (fun b8 => ?_)
    · replace e := zd_pos b8 e
      refine zk_iconst (v := 0) C kd_Mo_obey_34 (by decide) rfl ?_
      refine zk_lvs (lv' := [(0, .ref (S.1 68)), (1, .int x1), (2, .int v2), (3, .int v4)]) [2, 3, 1, 0] rfl ?_
      exact zb_Mo_obey_35 C hR h x1 v2 v4 0 (512 + v2) e
    · replace e := zd_neg b8 e
      refine zk_iconst (v := 1) C kd_Mo_obey_30 (by decide) rfl ?_
      refine zk_goto (tgt := 35) C kd_Mo_obey_31 (by decide) ?_
      refine zk_lvs (lv' := [(0, .ref (S.1 68)), (1, .int x1), (2, .int v2), (3, .int v4)]) [2, 3, 1, 0] rfl ?_
      exact zb_Mo_obey_35 C hR h x1 v2 v4 1 (512 + v2) e
set_option maxHeartbeats 4000000 in
set_option maxRecDepth 100000 in
theorem zc_Mo_answer {l : Launch} {D : va_G} {sz0 : Nat} {S : zs_T} {P : ze_T} (h : zs_H) (x1 : Int32) {rh : zs_H} (e : f_Mo_answer h x1 = some rh) : zk_Sp (zs_G S l D sz0) (ze_E P) km_Mo_answer { frames := 0, cells := 0, slots := 0, locals := 0 } [.ref (S.1 68), .int x1] (zs_W S h) (zd_PV S rh) := by
  refine zk_met ku_Mo_answer (Nat.le_of_ble_eq_true rfl) (ze_Em P) ?_
  intro X C hR
  refine zk_lvs (lv' := [(0, .ref (S.1 68)), (1, .int x1)]) [0, 1] rfl ?_
  unfold f_Mo_answer at e
  refine zk_aload_n C kd_Mo_answer_0 rfl 0 rfl rfl ?_
  refine zs_get (v := .ref (S.1 117)) C 68 89 rfl rfl rfl rfl ki_Mo (by decide) kw1772 kd_Mo_answer_1 rfl ?_
  refine zk_aload_n C kd_Mo_answer_4 rfl 0 rfl rfl ?_
  refine zs_get (v := .int (h.1 68 88)) C 68 88 rfl rfl rfl rfl ki_Mo (by decide) kw1771 kd_Mo_answer_5 rfl ?_
  refine zk_iload_n C kd_Mo_answer_8 rfl 1 rfl rfl ?_
  refine zk_sipush (v := 255) C kd_Mo_answer_9 (by decide) rfl ?_
  refine zk_iand C kd_Mo_answer_12 rfl ?_
  obtain ⟨q1, e⟩ := zd_g e
  refine zs_iast C 117 rfl (zd_vp q1) kd_Mo_answer_13 rfl ?_
  refine zk_aload_n C kd_Mo_answer_14 rfl 0 rfl rfl ?_
  refine zk_dup C kd_Mo_answer_15 rfl rfl ?_
  refine zs_get (v := .int (h.1 68 88)) C 68 88 rfl rfl rfl rfl ki_Mo (by decide) kw1771 kd_Mo_answer_16 rfl ?_
  refine zk_iconst (v := 1) C kd_Mo_answer_19 (by decide) rfl ?_
  refine zk_iadd C kd_Mo_answer_20 rfl ?_
  refine zs_put (ty := .int) C 68 88 ((h.1 68 88) + 1) rfl rfl rfl rfl ki_Mo ky_Mo ko_Mo kn_Mo (by decide) kw1771 rfl rfl rfl rfl (by decide) kd_Mo_answer_21 rfl ?_
  exact zk_vret C hR kd_Mo_answer_24 rfl rfl (zd_rV e)
set_option maxHeartbeats 4000000 in
set_option maxRecDepth 100000 in
theorem zc_Mo_told {l : Launch} {D : va_G} {sz0 : Nat} {S : zs_T} {P : ze_T} (h : zs_H) (x1 : Int32) (x2 : Int32) {rv : Int32} (e : f_Mo_told h x1 x2 = some rv) : zk_Sp (zs_G S l D sz0) (ze_E P) km_Mo_told { frames := 0, cells := 0, slots := 0, locals := 0 } [.ref (S.1 68), .int x1, .int x2] (zs_W S h) (zd_PI S rv h) := by
  refine zk_met ku_Mo_told (Nat.le_of_ble_eq_true rfl) (ze_Em P) ?_
  intro X C hR
  refine zk_lvs (lv' := [(0, .ref (S.1 68)), (1, .int x1), (2, .int x2)]) [0, 1, 2] rfl ?_
  unfold f_Mo_told at e
  refine zk_iload_n C kd_Mo_told_0 rfl 1 rfl rfl ?_
  by_cases b1 : x1 = 1
  · replace e := zd_pos b1 e
    refine zk_tableIn (tgt := 28) C kd_Mo_told_1 (by rw [b1]; decide) (by rw [b1]; decide) (by rw [b1]; rfl) (by decide) ?_
    refine zk_aload_n C kd_Mo_told_28 rfl 0 rfl rfl ?_
    refine zs_get (v := .ref (S.1 114)) C 68 72 rfl rfl rfl rfl ki_Mo (by decide) kw1755 kd_Mo_told_29 rfl ?_
    refine zk_sipush (v := 512) C kd_Mo_told_32 (by decide) rfl ?_
    refine zk_iload_n C kd_Mo_told_35 rfl 2 rfl rfl ?_
    refine zk_iadd C kd_Mo_told_36 rfl ?_
    obtain ⟨q2, e⟩ := zd_g e
    refine zs_iald C 114 rfl (zd_vp q2) kd_Mo_told_37 rfl ?_
    exact zk_iret C hR kd_Mo_told_38 rfl rfl (zd_rIO e)
  replace e := zd_neg b1 e
  by_cases b3 : x1 = 2
  · replace e := zd_pos b3 e
    refine zk_tableIn (tgt := 39) C kd_Mo_told_1 (by rw [b3]; decide) (by rw [b3]; decide) (by rw [b3]; rfl) (by decide) ?_
    refine zk_iload_n C kd_Mo_told_39 rfl 2 rfl rfl ?_
    refine zk_sipush (v := 256) C kd_Mo_told_40 (by decide) rfl ?_
    refine zk_icmp_ge (tgt := 55) C kd_Mo_told_43 (by decide) rfl (fun b4 => ?_) (fun b4 => ?_)
    · replace e := zd_pos b4 e
      refine zk_aload_n C kd_Mo_told_55 rfl 0 rfl rfl ?_
      refine zs_get (v := .ref (S.1 119)) C 68 91 rfl rfl rfl rfl ki_Mo (by decide) kw1774 kd_Mo_told_56 rfl ?_
      refine zk_iload_n C kd_Mo_told_59 rfl 2 rfl rfl ?_
      refine zk_sipush (v := 256) C kd_Mo_told_60 (by decide) rfl ?_
      refine zk_isub C kd_Mo_told_63 rfl ?_
      obtain ⟨q5, e⟩ := zd_g e
      refine zs_iald C 119 rfl (zd_vp q5) kd_Mo_told_64 rfl ?_
      exact zk_iret C hR kd_Mo_told_65 rfl rfl (zd_rIO e)
    · replace e := zd_neg b4 e
      refine zk_aload_n C kd_Mo_told_46 rfl 0 rfl rfl ?_
      refine zs_get (v := .ref (S.1 118)) C 68 90 rfl rfl rfl rfl ki_Mo (by decide) kw1773 kd_Mo_told_47 rfl ?_
      refine zk_iload_n C kd_Mo_told_50 rfl 2 rfl rfl ?_
      obtain ⟨q6, e⟩ := zd_g e
      refine zs_iald C 118 rfl (zd_vp q6) kd_Mo_told_51 rfl ?_
      refine zk_goto (tgt := 65) C kd_Mo_told_52 (by decide) ?_
      exact zk_iret C hR kd_Mo_told_65 rfl rfl (zd_rIO e)
  replace e := zd_neg b3 e
  by_cases b7 : x1 = 3
  · replace e := zd_pos b7 e
    refine zk_tableIn (tgt := 66) C kd_Mo_told_1 (by rw [b7]; decide) (by rw [b7]; decide) (by rw [b7]; rfl) (by decide) ?_
    refine zk_aload_n C kd_Mo_told_66 rfl 0 rfl rfl ?_
    refine zs_get (v := .ref (S.1 114)) C 68 72 rfl rfl rfl rfl ki_Mo (by decide) kw1755 kd_Mo_told_67 rfl ?_
    refine zk_sipush (v := 896) C kd_Mo_told_70 (by decide) rfl ?_
    refine zk_iload_n C kd_Mo_told_73 rfl 2 rfl rfl ?_
    refine zk_iadd C kd_Mo_told_74 rfl ?_
    obtain ⟨q8, e⟩ := zd_g e
    refine zs_iald C 114 rfl (zd_vp q8) kd_Mo_told_75 rfl ?_
    exact zk_iret C hR kd_Mo_told_76 rfl rfl (zd_rIO e)
  replace e := zd_neg b7 e
  refine zk_tableOut (tgt := 77) C kd_Mo_told_1 (by have := lv_neT b1 (a := 1) (by decide); have := lv_neT b3 (a := 2) (by decide); have := lv_neT b7 (a := 3) (by decide); omega) (by decide) ?_
  refine zk_iload_n C kd_Mo_told_77 rfl 2 rfl rfl ?_
  refine zk_bipush (v := 64) C kd_Mo_told_78 (by decide) rfl ?_
  refine zk_icmp_ge (tgt := 96) C kd_Mo_told_80 (by decide) rfl (fun b9 => ?_) (fun b9 => ?_)
  · replace e := zd_pos b9 e
    refine zk_aload_n C kd_Mo_told_96 rfl 0 rfl rfl ?_
    refine zs_get (v := .ref (S.1 119)) C 68 91 rfl rfl rfl rfl ki_Mo (by decide) kw1774 kd_Mo_told_97 rfl ?_
    refine zk_sipush (v := 256) C kd_Mo_told_100 (by decide) rfl ?_
    refine zk_iload_n C kd_Mo_told_103 rfl 2 rfl rfl ?_
    refine zk_iadd C kd_Mo_told_104 rfl ?_
    refine zk_bipush (v := 64) C kd_Mo_told_105 (by decide) rfl ?_
    refine zk_isub C kd_Mo_told_107 rfl ?_
    obtain ⟨q10, e⟩ := zd_g e
    refine zs_iald C 119 rfl (zd_vp q10) kd_Mo_told_108 rfl ?_
    exact zk_iret C hR kd_Mo_told_109 rfl rfl (zd_rIO e)
  · replace e := zd_neg b9 e
    refine zk_aload_n C kd_Mo_told_83 rfl 0 rfl rfl ?_
    refine zs_get (v := .ref (S.1 118)) C 68 90 rfl rfl rfl rfl ki_Mo (by decide) kw1773 kd_Mo_told_84 rfl ?_
    refine zk_sipush (v := 256) C kd_Mo_told_87 (by decide) rfl ?_
    refine zk_iload_n C kd_Mo_told_90 rfl 2 rfl rfl ?_
    refine zk_iadd C kd_Mo_told_91 rfl ?_
    obtain ⟨q11, e⟩ := zd_g e
    refine zs_iald C 118 rfl (zd_vp q11) kd_Mo_told_92 rfl ?_
    refine zk_goto (tgt := 109) C kd_Mo_told_93 (by decide) ?_
    exact zk_iret C hR kd_Mo_told_109 rfl rfl (zd_rIO e)
set_option maxHeartbeats 4000000 in
set_option maxRecDepth 100000 in
theorem zb_Mo_reply_236 {X : zkj_T} {S : zs_T} {P : ze_T} {l : Launch} {D : va_G} {sz0 : Nat} {rh : zs_H} (C : zk_C X km_Mo_reply (zs_G S l D sz0) { frames := 2, cells := 0, slots := 0, locals := 42 } (ze_E P)) (hR : zkj_R X (zd_PV S rh) (none)) {k236 : zs_H → Int32 → Int32 → (Option zs_H)} (hk236 : ∀ (h : zs_H) (x5 : Int32) (x6 : Int32), k236 h x5 x6 = some rh → zk_Ab X (zs_W S h) 0 0 236 [(0, .ref (S.1 68)), (5, .int x5), (6, .int x6)] []) (h : zs_H) (x5 : Int32) (x6 : Int32) (e : f_Mo_reply_236 k236 h x5 x6 = some rh) : zk_Ab X (zs_W S h) 0 0 236 [(0, .ref (S.1 68)), (5, .int x5), (6, .int x6)] [] := by
  unfold f_Mo_reply_236 at e
  refine zk_iload C kd_Mo_reply_236 2 rfl rfl ?_
  refine zk_aload_n C kd_Mo_reply_238 rfl 0 rfl rfl ?_
  refine zs_get (v := .int (h.1 68 88)) C 68 88 rfl rfl rfl rfl ki_Mo (by decide) kw1771 kd_Mo_reply_239 rfl ?_
  refine zk_icmp_ge (tgt := 265) C kd_Mo_reply_242 (by decide) rfl (fun b1 => ?_) (fun b1 => ?_)
  · replace e := zd_pos b1 e
    refine zk_aload_n C kd_Mo_reply_265 rfl 0 rfl rfl ?_
    refine zk_iload C kd_Mo_reply_266 1 rfl rfl ?_
    obtain ⟨h3, c2, e⟩ := zd_b e
    refine zs_callV (k := 68) (rn := { frames := 0, cells := 0, slots := 0, locals := 0 }) (As := [.int x5]) (rest := []) C (zc_Mo_answer h x5 c2) ku_Mo_answer kw2852 kv_Mo_answer rfl ⟨by decide, by decide⟩ ⟨by decide, by decide⟩ rfl rfl rfl (Nat.le_of_ble_eq_true rfl) kd_Mo_reply_268 rfl (c1 := 0) (s1 := 0) rfl rfl (fun v w hp => ?_)
    obtain ⟨rfl, rfl⟩ := hp
    refine zk_stk (r' := []) rfl ?_
    refine zk_aload_n C kd_Mo_reply_271 rfl 0 rfl rfl ?_
    refine zk_iload C kd_Mo_reply_272 1 rfl rfl ?_
    refine zk_bipush (v := 8) C kd_Mo_reply_274 (by decide) rfl ?_
    refine zk_ishr C kd_Mo_reply_276 rfl ?_
    obtain ⟨h5, c4, e⟩ := zd_b e
    refine zs_callV (k := 68) (rn := { frames := 0, cells := 0, slots := 0, locals := 0 }) (As := [.int (x5 >>> ((8 : Int32) &&& 31))]) (rest := []) C (zc_Mo_answer h3 (x5 >>> ((8 : Int32) &&& 31)) c4) ku_Mo_answer kw2852 kv_Mo_answer rfl ⟨by decide, by decide⟩ ⟨by decide, by decide⟩ rfl rfl rfl (Nat.le_of_ble_eq_true rfl) kd_Mo_reply_277 rfl (c1 := 0) (s1 := 0) rfl rfl (fun v w hp => ?_)
    obtain ⟨rfl, rfl⟩ := hp
    refine zk_stk (r' := []) rfl ?_
    exact zk_vret C hR kd_Mo_reply_280 rfl rfl (zd_rV e)
  · replace e := zd_neg b1 e
    refine zk_iload C kd_Mo_reply_245 1 rfl rfl ?_
    refine zk_aload_n C kd_Mo_reply_247 rfl 0 rfl rfl ?_
    refine zs_get (v := .ref (S.1 117)) C 68 89 rfl rfl rfl rfl ki_Mo (by decide) kw1772 kd_Mo_reply_248 rfl ?_
    refine zk_iload C kd_Mo_reply_251 2 rfl rfl ?_
    obtain ⟨q6, e⟩ := zd_g e
    refine zs_iald C 117 rfl (zd_vp q6) kd_Mo_reply_253 rfl ?_
    obtain ⟨v8, c7, e⟩ := zd_b e
    refine zk_callS (rn := { frames := 0, cells := 0, slots := 0, locals := 0 }) (As := [.int x5, .int (h.2.1 117 x6.toNatClampNeg)]) (rest := []) C (zc_Mo_summed h x5 (h.2.1 117 x6.toNatClampNeg) c7) ku_Mo_summed kw2828 ks_Mo_summed rfl ⟨by decide, by decide⟩ ⟨by decide, by decide⟩ rfl (Nat.le_of_ble_eq_true rfl) kd_Mo_reply_254 rfl (c1 := 0) (s1 := 0) rfl rfl (fun v w hp => ?_)
    obtain ⟨rfl, rfl⟩ := hp
    refine zk_stk (r' := [.int v8]) rfl ?_
    refine zk_istore (lv' := [(5, _), (0, _), (6, _)]) C kd_Mo_reply_257 (by decide) rfl rfl ?_
    refine zk_iinc (v := (x6 + 1)) (lv' := [(6, _), (5, _), (0, _)]) C kd_Mo_reply_259 2 rfl rfl (by decide) rfl rfl ?_
    refine zk_goto (tgt := 236) C kd_Mo_reply_262 (by decide) ?_
    refine zk_lvs (lv' := [(0, .ref (S.1 68)), (5, .int v8), (6, .int (x6 + 1))]) [2, 1, 0] rfl ?_
    exact hk236 h v8 (x6 + 1) e
theorem zl_Mo_reply_236 {X : zkj_T} {S : zs_T} {P : ze_T} {l : Launch} {D : va_G} {sz0 : Nat} {rh : zs_H} (C : zk_C X km_Mo_reply (zs_G S l D sz0) { frames := 2, cells := 0, slots := 0, locals := 42 } (ze_E P)) (hR : zkj_R X (zd_PV S rh) (none)) (n : Nat) : ∀ (h : zs_H) (x5 : Int32) (x6 : Int32), f_Mo_reply_L236 n h x5 x6 = some rh → zk_Ab X (zs_W S h) 0 0 236 [(0, .ref (S.1 68)), (5, .int x5), (6, .int x6)] [] := by
  induction n with
  | zero => intro h x5 x6 e; exact zd_no e
  | succ n ih => intro h x5 x6 e; exact zb_Mo_reply_236 (k236 := f_Mo_reply_L236  n) C hR ih h x5 x6 e
set_option maxHeartbeats 4000000 in
set_option maxRecDepth 100000 in
theorem zb_Mo_reply_228 {X : zkj_T} {S : zs_T} {P : ze_T} {l : Launch} {D : va_G} {sz0 : Nat} {rh : zs_H} (C : zk_C X km_Mo_reply (zs_G S l D sz0) { frames := 2, cells := 0, slots := 0, locals := 42 } (ze_E P)) (hR : zkj_R X (zd_PV S rh) (none)) (h : zs_H) (e : f_Mo_reply_228 h = some rh) : zk_Ab X (zs_W S h) 0 0 228 [(0, .ref (S.1 68))] [] := by
  unfold f_Mo_reply_228 at e
  refine zk_ldcw (v := 65535) C kw2570 kd_Mo_reply_228 rfl ?_
  refine zk_istore (lv' := [(5, _), (0, _)]) C kd_Mo_reply_231 (by decide) rfl rfl ?_
  refine zk_iconst (v := 0) C kd_Mo_reply_233 (by decide) rfl ?_
  refine zk_istore (lv' := [(6, _), (5, _), (0, _)]) C kd_Mo_reply_234 (by decide) rfl rfl ?_
  refine zk_lvs (lv' := [(0, .ref (S.1 68)), (5, .int 65535), (6, .int 0)]) [2, 1, 0] rfl ?_
  exact zl_Mo_reply_236 C hR zF h 65535 0 e
set_option maxHeartbeats 4000000 in
set_option maxRecDepth 100000 in
theorem zb_Mo_reply_126 {X : zkj_T} {S : zs_T} {P : ze_T} {l : Launch} {D : va_G} {sz0 : Nat} {rh : zs_H} (C : zk_C X km_Mo_reply (zs_G S l D sz0) { frames := 2, cells := 0, slots := 0, locals := 42 } (ze_E P)) (hR : zkj_R X (zd_PV S rh) (none)) {k70 : zs_H → Int32 → Int32 → Int32 → Int32 → (Option zs_H)} (hk70 : ∀ (h : zs_H) (x1 : Int32) (x3 : Int32) (x4 : Int32) (x5 : Int32), k70 h x1 x3 x4 x5 = some rh → zk_Ab X (zs_W S h) 0 0 70 [(0, .ref (S.1 68)), (1, .int x1), (3, .int x3), (4, .int x4), (5, .int x5)] []) (h : zs_H) (x1 : Int32) (x3 : Int32) (x4 : Int32) (x5 : Int32) (x6 : Int32) (e : f_Mo_reply_126 k70 h x1 x3 x4 x5 x6 = some rh) : zk_Ab X (zs_W S h) 0 0 126 [(0, .ref (S.1 68)), (1, .int x1), (3, .int x3), (4, .int x4), (5, .int x5), (6, .int x6)] [] := by
  unfold f_Mo_reply_126 at e
  refine zk_aload_n C kd_Mo_reply_126 rfl 0 rfl rfl ?_
  refine zk_iload C kd_Mo_reply_127 5 rfl rfl ?_
  obtain ⟨h2, c1, e⟩ := zd_b e
  refine zs_callV (k := 68) (rn := { frames := 0, cells := 0, slots := 0, locals := 0 }) (As := [.int x6]) (rest := []) C (zc_Mo_answer h x6 c1) ku_Mo_answer kw2852 kv_Mo_answer rfl ⟨by decide, by decide⟩ ⟨by decide, by decide⟩ rfl rfl rfl (Nat.le_of_ble_eq_true rfl) kd_Mo_reply_129 rfl (c1 := 0) (s1 := 0) rfl rfl (fun v w hp => ?_)
  obtain ⟨rfl, rfl⟩ := hp
  refine zk_stk (r' := []) rfl ?_
  refine zk_iinc (v := (x5 + 8)) (lv' := [(5, _), (0, _), (1, _), (3, _), (4, _), (6, _)]) C kd_Mo_reply_132 4 rfl rfl (by decide) rfl rfl ?_
  refine zk_goto (tgt := 70) C kd_Mo_reply_135 (by decide) ?_
  refine zk_lvs (lv' := [(0, .ref (S.1 68)), (1, .int x1), (3, .int x3), (4, .int x4), (5, .int (x5 + 8))]) [1, 2, 3, 4, 0] rfl ?_
  exact hk70 h2 x1 x3 x4 (x5 + 8) e
set_option maxHeartbeats 4000000 in
set_option maxRecDepth 100000 in
theorem zb_Mo_reply_83 {X : zkj_T} {S : zs_T} {P : ze_T} {l : Launch} {D : va_G} {sz0 : Nat} {rh : zs_H} (C : zk_C X km_Mo_reply (zs_G S l D sz0) { frames := 2, cells := 0, slots := 0, locals := 42 } (ze_E P)) (hR : zkj_R X (zd_PV S rh) (none)) {k70 : zs_H → Int32 → Int32 → Int32 → Int32 → (Option zs_H)} (hk70 : ∀ (h : zs_H) (x1 : Int32) (x3 : Int32) (x4 : Int32) (x5 : Int32), k70 h x1 x3 x4 x5 = some rh → zk_Ab X (zs_W S h) 0 0 70 [(0, .ref (S.1 68)), (1, .int x1), (3, .int x3), (4, .int x4), (5, .int x5)] []) {k83 : zs_H → Int32 → Int32 → Int32 → Int32 → Int32 → Int32 → (Option zs_H)} (hk83 : ∀ (h : zs_H) (x1 : Int32) (x3 : Int32) (x4 : Int32) (x5 : Int32) (x6 : Int32) (x7 : Int32), k83 h x1 x3 x4 x5 x6 x7 = some rh → zk_Ab X (zs_W S h) 0 0 83 [(0, .ref (S.1 68)), (1, .int x1), (3, .int x3), (4, .int x4), (5, .int x5), (6, .int x6), (7, .int x7)] []) (h : zs_H) (x1 : Int32) (x3 : Int32) (x4 : Int32) (x5 : Int32) (x6 : Int32) (x7 : Int32) (e : f_Mo_reply_83 k70 k83 h x1 x3 x4 x5 x6 x7 = some rh) : zk_Ab X (zs_W S h) 0 0 83 [(0, .ref (S.1 68)), (1, .int x1), (3, .int x3), (4, .int x4), (5, .int x5), (6, .int x6), (7, .int x7)] [] := by
  unfold f_Mo_reply_83 at e
  refine zk_iload C kd_Mo_reply_83 6 rfl rfl ?_
  refine zk_bipush (v := 8) C kd_Mo_reply_85 (by decide) rfl ?_
  refine zk_icmp_ge (tgt := 126) C kd_Mo_reply_87 (by decide) rfl (fun b1 => ?_) (fun b1 => ?_)
  · replace e := zd_pos b1 e
    refine zk_lvs (lv' := [(0, .ref (S.1 68)), (1, .int x1), (3, .int x3), (4, .int x4), (5, .int x5), (6, .int x6)]) [0, 1, 2, 3, 4, 5] rfl ?_
    exact zb_Mo_reply_126 C hR hk70 h x1 x3 x4 x5 x6 e
  · replace e := zd_neg b1 e
    refine zk_iload C kd_Mo_reply_90 4 rfl rfl ?_
    refine zk_iload C kd_Mo_reply_92 6 rfl rfl ?_
    refine zk_iadd C kd_Mo_reply_94 rfl ?_
    refine zk_iload C kd_Mo_reply_95 3 rfl rfl ?_
    refine zk_icmp_ge (tgt := 126) C kd_Mo_reply_97 (by decide) rfl (fun b2 => ?_) (fun b2 => ?_)
    · replace e := zd_pos b2 e
      refine zk_lvs (lv' := [(0, .ref (S.1 68)), (1, .int x1), (3, .int x3), (4, .int x4), (5, .int x5), (6, .int x6)]) [0, 1, 2, 3, 4, 5] rfl ?_
      exact zb_Mo_reply_126 C hR hk70 h x1 x3 x4 x5 x6 e
    · replace e := zd_neg b2 e
      refine zk_iload C kd_Mo_reply_100 5 rfl rfl ?_
      refine zk_aload_n C kd_Mo_reply_102 rfl 0 rfl rfl ?_
      refine zk_iload_n C kd_Mo_reply_103 rfl 1 rfl rfl ?_
      refine zk_iload_n C kd_Mo_reply_104 rfl 2 rfl rfl ?_
      refine zk_iload C kd_Mo_reply_105 4 rfl rfl ?_
      refine zk_iadd C kd_Mo_reply_107 rfl ?_
      refine zk_iload C kd_Mo_reply_108 6 rfl rfl ?_
      refine zk_iadd C kd_Mo_reply_110 rfl ?_
      obtain ⟨v4, c3, e⟩ := zd_b e
      refine zs_callV (k := 68) (rn := { frames := 0, cells := 0, slots := 0, locals := 0 }) (As := [.int x1, .int ((x3 + x5) + x7)]) (rest := [.int x6]) C (zc_Mo_told h x1 ((x3 + x5) + x7) c3) ku_Mo_told kw2856 kv_Mo_told rfl ⟨by decide, by decide⟩ ⟨by decide, by decide⟩ rfl rfl rfl (Nat.le_of_ble_eq_true rfl) kd_Mo_reply_111 rfl (c1 := 0) (s1 := 0) rfl rfl (fun v w hp => ?_)
      obtain ⟨rfl, rfl⟩ := hp
      refine zk_stk (r' := [.int v4, .int x6]) rfl ?_
      refine zk_iload C kd_Mo_reply_114 6 rfl rfl ?_
      refine zk_ishl C kd_Mo_reply_116 rfl ?_
      refine zk_iadd C kd_Mo_reply_117 rfl ?_
      refine zk_istore (lv' := [(6, _), (0, _), (1, _), (3, _), (4, _), (5, _), (7, _)]) C kd_Mo_reply_118 (by decide) rfl rfl ?_
      refine zk_iinc (v := (x7 + 1)) (lv' := [(7, _), (6, _), (0, _), (1, _), (3, _), (4, _), (5, _)]) C kd_Mo_reply_120 6 rfl rfl (by decide) rfl rfl ?_
      refine zk_goto (tgt := 83) C kd_Mo_reply_123 (by decide) ?_
      refine zk_lvs (lv' := [(0, .ref (S.1 68)), (1, .int x1), (3, .int x3), (4, .int x4), (5, .int x5), (6, .int (x6 + (v4 <<< (x7 &&& 31)))), (7, .int (x7 + 1))]) [2, 3, 4, 5, 6, 1, 0] rfl ?_
      exact hk83 h x1 x3 x4 x5 (x6 + (v4 <<< (x7 &&& 31))) (x7 + 1) e
theorem zl_Mo_reply_83 {X : zkj_T} {S : zs_T} {P : ze_T} {l : Launch} {D : va_G} {sz0 : Nat} {rh : zs_H} (C : zk_C X km_Mo_reply (zs_G S l D sz0) { frames := 2, cells := 0, slots := 0, locals := 42 } (ze_E P)) (hR : zkj_R X (zd_PV S rh) (none)) {k70 : zs_H → Int32 → Int32 → Int32 → Int32 → (Option zs_H)} (hk70 : ∀ (h : zs_H) (x1 : Int32) (x3 : Int32) (x4 : Int32) (x5 : Int32), k70 h x1 x3 x4 x5 = some rh → zk_Ab X (zs_W S h) 0 0 70 [(0, .ref (S.1 68)), (1, .int x1), (3, .int x3), (4, .int x4), (5, .int x5)] []) (n : Nat) : ∀ (h : zs_H) (x1 : Int32) (x3 : Int32) (x4 : Int32) (x5 : Int32) (x6 : Int32) (x7 : Int32), f_Mo_reply_L83 k70 n h x1 x3 x4 x5 x6 x7 = some rh → zk_Ab X (zs_W S h) 0 0 83 [(0, .ref (S.1 68)), (1, .int x1), (3, .int x3), (4, .int x4), (5, .int x5), (6, .int x6), (7, .int x7)] [] := by
  induction n with
  | zero => intro h x1 x3 x4 x5 x6 x7 e; exact zd_no e
  | succ n ih => intro h x1 x3 x4 x5 x6 x7 e; exact zb_Mo_reply_83 (k83 := f_Mo_reply_L83 k70 n) C hR hk70 ih h x1 x3 x4 x5 x6 x7 e
set_option maxHeartbeats 4000000 in
set_option maxRecDepth 100000 in
theorem zb_Mo_reply_70 {X : zkj_T} {S : zs_T} {P : ze_T} {l : Launch} {D : va_G} {sz0 : Nat} {rh : zs_H} (C : zk_C X km_Mo_reply (zs_G S l D sz0) { frames := 2, cells := 0, slots := 0, locals := 42 } (ze_E P)) (hR : zkj_R X (zd_PV S rh) (none)) {k70 : zs_H → Int32 → Int32 → Int32 → Int32 → (Option zs_H)} (hk70 : ∀ (h : zs_H) (x1 : Int32) (x3 : Int32) (x4 : Int32) (x5 : Int32), k70 h x1 x3 x4 x5 = some rh → zk_Ab X (zs_W S h) 0 0 70 [(0, .ref (S.1 68)), (1, .int x1), (3, .int x3), (4, .int x4), (5, .int x5)] []) (h : zs_H) (x1 : Int32) (x3 : Int32) (x4 : Int32) (x5 : Int32) (e : f_Mo_reply_70 k70 h x1 x3 x4 x5 = some rh) : zk_Ab X (zs_W S h) 0 0 70 [(0, .ref (S.1 68)), (1, .int x1), (3, .int x3), (4, .int x4), (5, .int x5)] [] := by
  unfold f_Mo_reply_70 at e
  refine zk_iload C kd_Mo_reply_70 4 rfl rfl ?_
  refine zk_iload C kd_Mo_reply_72 3 rfl rfl ?_
  refine zk_icmp_ge (tgt := 138) C kd_Mo_reply_74 (by decide) rfl (fun b1 => ?_) (fun b1 => ?_)
  · replace e := zd_pos b1 e
    refine zk_goto (tgt := 228) C kd_Mo_reply_138 (by decide) ?_
    refine zk_lvs (lv' := [(0, .ref (S.1 68))]) [0] rfl ?_
    exact zb_Mo_reply_228 C hR h e
  · replace e := zd_neg b1 e
    refine zk_iconst (v := 0) C kd_Mo_reply_77 (by decide) rfl ?_
    refine zk_istore (lv' := [(6, _), (0, _), (1, _), (3, _), (4, _), (5, _)]) C kd_Mo_reply_78 (by decide) rfl rfl ?_
    refine zk_iconst (v := 0) C kd_Mo_reply_80 (by decide) rfl ?_
    refine zk_istore (lv' := [(7, _), (6, _), (0, _), (1, _), (3, _), (4, _), (5, _)]) C kd_Mo_reply_81 (by decide) rfl rfl ?_
    refine zk_lvs (lv' := [(0, .ref (S.1 68)), (1, .int x1), (3, .int x3), (4, .int x4), (5, .int x5), (6, .int 0), (7, .int 0)]) [2, 3, 4, 5, 6, 1, 0] rfl ?_
    exact zl_Mo_reply_83 C hR hk70 zF h x1 x3 x4 x5 0 0 e
theorem zl_Mo_reply_70 {X : zkj_T} {S : zs_T} {P : ze_T} {l : Launch} {D : va_G} {sz0 : Nat} {rh : zs_H} (C : zk_C X km_Mo_reply (zs_G S l D sz0) { frames := 2, cells := 0, slots := 0, locals := 42 } (ze_E P)) (hR : zkj_R X (zd_PV S rh) (none)) (n : Nat) : ∀ (h : zs_H) (x1 : Int32) (x3 : Int32) (x4 : Int32) (x5 : Int32), f_Mo_reply_L70 n h x1 x3 x4 x5 = some rh → zk_Ab X (zs_W S h) 0 0 70 [(0, .ref (S.1 68)), (1, .int x1), (3, .int x3), (4, .int x4), (5, .int x5)] [] := by
  induction n with
  | zero => intro h x1 x3 x4 x5 e; exact zd_no e
  | succ n ih => intro h x1 x3 x4 x5 e; exact zb_Mo_reply_70 (k70 := f_Mo_reply_L70  n) C hR ih h x1 x3 x4 x5 e
set_option maxHeartbeats 4000000 in
set_option maxRecDepth 100000 in
theorem zb_Mo_reply_157 {X : zkj_T} {S : zs_T} {P : ze_T} {l : Launch} {D : va_G} {sz0 : Nat} {rh : zs_H} (C : zk_C X km_Mo_reply (zs_G S l D sz0) { frames := 2, cells := 0, slots := 0, locals := 42 } (ze_E P)) (hR : zkj_R X (zd_PV S rh) (none)) {k157 : zs_H → Int32 → Int32 → Int32 → Int32 → (Option zs_H)} (hk157 : ∀ (h : zs_H) (x1 : Int32) (x3 : Int32) (x4 : Int32) (x5 : Int32), k157 h x1 x3 x4 x5 = some rh → zk_Ab X (zs_W S h) 0 0 157 [(0, .ref (S.1 68)), (1, .int x1), (3, .int x3), (4, .int x4), (5, .int x5)] []) (h : zs_H) (x1 : Int32) (x3 : Int32) (x4 : Int32) (x5 : Int32) (e : f_Mo_reply_157 k157 h x1 x3 x4 x5 = some rh) : zk_Ab X (zs_W S h) 0 0 157 [(0, .ref (S.1 68)), (1, .int x1), (3, .int x3), (4, .int x4), (5, .int x5)] [] := by
  unfold f_Mo_reply_157 at e
  refine zk_iload C kd_Mo_reply_157 4 rfl rfl ?_
  refine zk_iload C kd_Mo_reply_159 3 rfl rfl ?_
  refine zk_icmp_ge (tgt := 199) C kd_Mo_reply_161 (by decide) rfl (fun b1 => ?_) (fun b1 => ?_)
  · replace e := zd_pos b1 e
    refine zk_goto (tgt := 228) C kd_Mo_reply_199 (by decide) ?_
    refine zk_lvs (lv' := [(0, .ref (S.1 68))]) [0] rfl ?_
    exact zb_Mo_reply_228 C hR h e
  · replace e := zd_neg b1 e
    refine zk_aload_n C kd_Mo_reply_164 rfl 0 rfl rfl ?_
    refine zk_aload_n C kd_Mo_reply_165 rfl 0 rfl rfl ?_
    refine zk_iload_n C kd_Mo_reply_166 rfl 1 rfl rfl ?_
    refine zk_iload_n C kd_Mo_reply_167 rfl 2 rfl rfl ?_
    refine zk_iload C kd_Mo_reply_168 4 rfl rfl ?_
    refine zk_iadd C kd_Mo_reply_170 rfl ?_
    obtain ⟨v3, c2, e⟩ := zd_b e
    refine zs_callV (k := 68) (rn := { frames := 0, cells := 0, slots := 0, locals := 0 }) (As := [.int x1, .int (x3 + x5)]) (rest := [.ref (S.1 68)]) C (zc_Mo_told h x1 (x3 + x5) c2) ku_Mo_told kw2856 kv_Mo_told rfl ⟨by decide, by decide⟩ ⟨by decide, by decide⟩ rfl rfl rfl (Nat.le_of_ble_eq_true rfl) kd_Mo_reply_171 rfl (c1 := 0) (s1 := 0) rfl rfl (fun v w hp => ?_)
    obtain ⟨rfl, rfl⟩ := hp
    refine zk_stk (r' := [.int v3, .ref (S.1 68)]) rfl ?_
    refine zk_bipush (v := 8) C kd_Mo_reply_174 (by decide) rfl ?_
    refine zk_ishr C kd_Mo_reply_176 rfl ?_
    obtain ⟨h5, c4, e⟩ := zd_b e
    refine zs_callV (k := 68) (rn := { frames := 0, cells := 0, slots := 0, locals := 0 }) (As := [.int (v3 >>> ((8 : Int32) &&& 31))]) (rest := []) C (zc_Mo_answer h (v3 >>> ((8 : Int32) &&& 31)) c4) ku_Mo_answer kw2852 kv_Mo_answer rfl ⟨by decide, by decide⟩ ⟨by decide, by decide⟩ rfl rfl rfl (Nat.le_of_ble_eq_true rfl) kd_Mo_reply_177 rfl (c1 := 0) (s1 := 0) rfl rfl (fun v w hp => ?_)
    obtain ⟨rfl, rfl⟩ := hp
    refine zk_stk (r' := []) rfl ?_
    refine zk_aload_n C kd_Mo_reply_180 rfl 0 rfl rfl ?_
    refine zk_aload_n C kd_Mo_reply_181 rfl 0 rfl rfl ?_
    refine zk_iload_n C kd_Mo_reply_182 rfl 1 rfl rfl ?_
    refine zk_iload_n C kd_Mo_reply_183 rfl 2 rfl rfl ?_
    refine zk_iload C kd_Mo_reply_184 4 rfl rfl ?_
    refine zk_iadd C kd_Mo_reply_186 rfl ?_
    obtain ⟨v7, c6, e⟩ := zd_b e
    refine zs_callV (k := 68) (rn := { frames := 0, cells := 0, slots := 0, locals := 0 }) (As := [.int x1, .int (x3 + x5)]) (rest := [.ref (S.1 68)]) C (zc_Mo_told h5 x1 (x3 + x5) c6) ku_Mo_told kw2856 kv_Mo_told rfl ⟨by decide, by decide⟩ ⟨by decide, by decide⟩ rfl rfl rfl (Nat.le_of_ble_eq_true rfl) kd_Mo_reply_187 rfl (c1 := 0) (s1 := 0) rfl rfl (fun v w hp => ?_)
    obtain ⟨rfl, rfl⟩ := hp
    refine zk_stk (r' := [.int v7, .ref (S.1 68)]) rfl ?_
    obtain ⟨h9, c8, e⟩ := zd_b e
    refine zs_callV (k := 68) (rn := { frames := 0, cells := 0, slots := 0, locals := 0 }) (As := [.int v7]) (rest := []) C (zc_Mo_answer h5 v7 c8) ku_Mo_answer kw2852 kv_Mo_answer rfl ⟨by decide, by decide⟩ ⟨by decide, by decide⟩ rfl rfl rfl (Nat.le_of_ble_eq_true rfl) kd_Mo_reply_190 rfl (c1 := 0) (s1 := 0) rfl rfl (fun v w hp => ?_)
    obtain ⟨rfl, rfl⟩ := hp
    refine zk_stk (r' := []) rfl ?_
    refine zk_iinc (v := (x5 + 1)) (lv' := [(5, _), (0, _), (1, _), (3, _), (4, _)]) C kd_Mo_reply_193 4 rfl rfl (by decide) rfl rfl ?_
    refine zk_goto (tgt := 157) C kd_Mo_reply_196 (by decide) ?_
    refine zk_lvs (lv' := [(0, .ref (S.1 68)), (1, .int x1), (3, .int x3), (4, .int x4), (5, .int (x5 + 1))]) [1, 2, 3, 4, 0] rfl ?_
    exact hk157 h9 x1 x3 x4 (x5 + 1) e
theorem zl_Mo_reply_157 {X : zkj_T} {S : zs_T} {P : ze_T} {l : Launch} {D : va_G} {sz0 : Nat} {rh : zs_H} (C : zk_C X km_Mo_reply (zs_G S l D sz0) { frames := 2, cells := 0, slots := 0, locals := 42 } (ze_E P)) (hR : zkj_R X (zd_PV S rh) (none)) (n : Nat) : ∀ (h : zs_H) (x1 : Int32) (x3 : Int32) (x4 : Int32) (x5 : Int32), f_Mo_reply_L157 n h x1 x3 x4 x5 = some rh → zk_Ab X (zs_W S h) 0 0 157 [(0, .ref (S.1 68)), (1, .int x1), (3, .int x3), (4, .int x4), (5, .int x5)] [] := by
  induction n with
  | zero => intro h x1 x3 x4 x5 e; exact zd_no e
  | succ n ih => intro h x1 x3 x4 x5 e; exact zb_Mo_reply_157 (k157 := f_Mo_reply_L157  n) C hR ih h x1 x3 x4 x5 e
set_option maxHeartbeats 4000000 in
set_option maxRecDepth 100000 in
theorem zb_Mo_reply_205 {X : zkj_T} {S : zs_T} {P : ze_T} {l : Launch} {D : va_G} {sz0 : Nat} {rh : zs_H} (C : zk_C X km_Mo_reply (zs_G S l D sz0) { frames := 2, cells := 0, slots := 0, locals := 42 } (ze_E P)) (hR : zkj_R X (zd_PV S rh) (none)) {k205 : zs_H → Int32 → (Option zs_H)} (hk205 : ∀ (h : zs_H) (x5 : Int32), k205 h x5 = some rh → zk_Ab X (zs_W S h) 0 0 205 [(0, .ref (S.1 68)), (5, .int x5)] []) (h : zs_H) (x5 : Int32) (e : f_Mo_reply_205 k205 h x5 = some rh) : zk_Ab X (zs_W S h) 0 0 205 [(0, .ref (S.1 68)), (5, .int x5)] [] := by
  unfold f_Mo_reply_205 at e
  refine zk_iload C kd_Mo_reply_205 1 rfl rfl ?_
  refine zk_bipush (v := 6) C kd_Mo_reply_207 (by decide) rfl ?_
  refine zk_icmp_ge (tgt := 228) C kd_Mo_reply_209 (by decide) rfl (fun b1 => ?_) (fun b1 => ?_)
  · replace e := zd_pos b1 e
    refine zk_lvs (lv' := [(0, .ref (S.1 68))]) [0] rfl ?_
    exact zb_Mo_reply_228 C hR h e
  · replace e := zd_neg b1 e
    refine zk_aload_n C kd_Mo_reply_212 rfl 0 rfl rfl ?_
    refine zk_aload_n C kd_Mo_reply_213 rfl 0 rfl rfl ?_
    refine zk_iload C kd_Mo_reply_214 1 rfl rfl ?_
    obtain ⟨v3, c2, e⟩ := zd_b e
    refine zs_callV (k := 68) (rn := { frames := 0, cells := 0, slots := 0, locals := 0 }) (As := [.int x5]) (rest := [.ref (S.1 68)]) C (zc_Mo_heard h x5 c2) ku_Mo_heard kw2824 kv_Mo_heard rfl ⟨by decide, by decide⟩ ⟨by decide, by decide⟩ rfl rfl rfl (Nat.le_of_ble_eq_true rfl) kd_Mo_reply_216 rfl (c1 := 0) (s1 := 0) rfl rfl (fun v w hp => ?_)
    obtain ⟨rfl, rfl⟩ := hp
    refine zk_stk (r' := [.int v3, .ref (S.1 68)]) rfl ?_
    obtain ⟨h5, c4, e⟩ := zd_b e
    refine zs_callV (k := 68) (rn := { frames := 0, cells := 0, slots := 0, locals := 0 }) (As := [.int v3]) (rest := []) C (zc_Mo_answer h v3 c4) ku_Mo_answer kw2852 kv_Mo_answer rfl ⟨by decide, by decide⟩ ⟨by decide, by decide⟩ rfl rfl rfl (Nat.le_of_ble_eq_true rfl) kd_Mo_reply_219 rfl (c1 := 0) (s1 := 0) rfl rfl (fun v w hp => ?_)
    obtain ⟨rfl, rfl⟩ := hp
    refine zk_stk (r' := []) rfl ?_
    refine zk_iinc (v := (x5 + 1)) (lv' := [(5, _), (0, _)]) C kd_Mo_reply_222 1 rfl rfl (by decide) rfl rfl ?_
    refine zk_goto (tgt := 205) C kd_Mo_reply_225 (by decide) ?_
    refine zk_lvs (lv' := [(0, .ref (S.1 68)), (5, .int (x5 + 1))]) [1, 0] rfl ?_
    exact hk205 h5 (x5 + 1) e
theorem zl_Mo_reply_205 {X : zkj_T} {S : zs_T} {P : ze_T} {l : Launch} {D : va_G} {sz0 : Nat} {rh : zs_H} (C : zk_C X km_Mo_reply (zs_G S l D sz0) { frames := 2, cells := 0, slots := 0, locals := 42 } (ze_E P)) (hR : zkj_R X (zd_PV S rh) (none)) (n : Nat) : ∀ (h : zs_H) (x5 : Int32), f_Mo_reply_L205 n h x5 = some rh → zk_Ab X (zs_W S h) 0 0 205 [(0, .ref (S.1 68)), (5, .int x5)] [] := by
  induction n with
  | zero => intro h x5 e; exact zd_no e
  | succ n ih => intro h x5 e; exact zb_Mo_reply_205 (k205 := f_Mo_reply_L205  n) C hR ih h x5 e
set_option maxHeartbeats 4000000 in
set_option maxRecDepth 100000 in
theorem zb_Mo_reply_22 {X : zkj_T} {S : zs_T} {P : ze_T} {l : Launch} {D : va_G} {sz0 : Nat} {rh : zs_H} (C : zk_C X km_Mo_reply (zs_G S l D sz0) { frames := 2, cells := 0, slots := 0, locals := 42 } (ze_E P)) (hR : zkj_R X (zd_PV S rh) (none)) (h : zs_H) (x1 : Int32) (x2 : Int32) (y0 : Int32) (e : f_Mo_reply_22 h x1 x2 y0 = some rh) : zk_Ab X (zs_W S h) 0 0 22 [(0, .ref (S.1 68)), (1, .int x1), (2, .int x2)] [.int y0, .ref (S.1 68)] := by
  unfold f_Mo_reply_22 at e
  obtain ⟨h2, c1, e⟩ := zd_b e
  refine zs_callV (k := 68) (rn := { frames := 0, cells := 0, slots := 0, locals := 0 }) (As := [.int y0]) (rest := []) C (zc_Mo_answer h y0 c1) ku_Mo_answer kw2852 kv_Mo_answer rfl ⟨by decide, by decide⟩ ⟨by decide, by decide⟩ rfl rfl rfl (Nat.le_of_ble_eq_true rfl) kd_Mo_reply_22 rfl (c1 := 0) (s1 := 0) rfl rfl (fun v w hp => ?_)
  obtain ⟨rfl, rfl⟩ := hp
  refine zk_stk (r' := []) rfl ?_
  refine zk_aload_n C kd_Mo_reply_25 rfl 0 rfl rfl ?_
  refine zk_iconst (v := 0) C kd_Mo_reply_26 (by decide) rfl ?_
  obtain ⟨v4, c3, e⟩ := zd_b e
  refine zs_callV (k := 68) (rn := { frames := 1, cells := 0, slots := 0, locals := 21 }) (As := [.int 0]) (rest := []) C (zc_Mo_dataTwo h2 0 c3) ku_Mo_dataTwo kw2836 kv_Mo_dataTwo rfl ⟨by decide, by decide⟩ ⟨by decide, by decide⟩ rfl rfl rfl (Nat.le_of_ble_eq_true rfl) kd_Mo_reply_27 rfl (c1 := 0) (s1 := 0) rfl rfl (fun v w hp => ?_)
  obtain ⟨rfl, rfl⟩ := hp
  refine zk_stk (r' := [.int v4]) rfl ?_
  refine zk_istore_n (lv' := [(3, _), (0, _), (1, _), (2, _)]) C kd_Mo_reply_30 rfl (by decide) rfl rfl ?_
  refine zk_aload_n C kd_Mo_reply_31 rfl 1 rfl rfl ?_
  refine zk_iconst (v := 2) C kd_Mo_reply_32 (by decide) rfl ?_
  obtain ⟨v6, c5, e⟩ := zd_b e
  refine zs_callV (k := 68) (rn := { frames := 1, cells := 0, slots := 0, locals := 21 }) (As := [.int 2]) (rest := []) C (zc_Mo_dataTwo h2 2 c5) ku_Mo_dataTwo kw2836 kv_Mo_dataTwo rfl ⟨by decide, by decide⟩ ⟨by decide, by decide⟩ rfl rfl rfl (Nat.le_of_ble_eq_true rfl) kd_Mo_reply_33 rfl (c1 := 0) (s1 := 0) rfl rfl (fun v w hp => ?_)
  obtain ⟨rfl, rfl⟩ := hp
  refine zk_stk (r' := [.int v6]) rfl ?_
  refine zk_istore (lv' := [(4, _), (3, _), (0, _), (1, _), (2, _)]) C kd_Mo_reply_36 (by decide) rfl rfl ?_
  refine zk_iload_n C kd_Mo_reply_38 rfl 4 rfl rfl ?_
  refine zk_if_le (tgt := 50) C kd_Mo_reply_39 (by decide) rfl (fun b7 => ?_) (fun b7 => ?_)
  · replace e := zd_pos b7 e
    refine zk_iload_n C kd_Mo_reply_50 rfl 3 rfl rfl ?_
    refine zk_iconst (v := 3) C kd_Mo_reply_51 (by decide) rfl ?_
    refine zk_icmp_ge (tgt := 141) C kd_Mo_reply_52 (by decide) rfl (fun b8 => ?_) (fun b8 => ?_)
    · replace e := zd_pos b8 e
      refine zk_iload_n C kd_Mo_reply_141 rfl 3 rfl rfl ?_
      refine zk_iconst (v := 5) C kd_Mo_reply_142 (by decide) rfl ?_
      refine zk_icmp_ge (tgt := 202) C kd_Mo_reply_143 (by decide) rfl (fun b9 => ?_) (fun b9 => ?_)
      · replace e := zd_pos b9 e
        refine zk_iconst (v := 2) C kd_Mo_reply_202 (by decide) rfl ?_
        refine zk_istore (lv' := [(5, _), (4, _), (3, _), (0, _), (1, _), (2, _)]) C kd_Mo_reply_203 (by decide) rfl rfl ?_
        refine zk_lvs (lv' := [(0, .ref (S.1 68)), (5, .int 2)]) [3, 0] rfl ?_
        exact zl_Mo_reply_205 C hR zF h2 2 e
      · replace e := zd_neg b9 e
        refine zk_aload_n C kd_Mo_reply_146 rfl 2 rfl rfl ?_
        refine zk_iconst (v := 2) C kd_Mo_reply_147 (by decide) rfl ?_
        refine zk_iload C kd_Mo_reply_148 0 rfl rfl ?_
        refine zk_imul C kd_Mo_reply_150 rfl ?_
        obtain ⟨h11, c10, e⟩ := zd_b e
        refine zs_callV (k := 68) (rn := { frames := 0, cells := 0, slots := 0, locals := 0 }) (As := [.int (2 * v6)]) (rest := []) C (zc_Mo_answer h2 (2 * v6) c10) ku_Mo_answer kw2852 kv_Mo_answer rfl ⟨by decide, by decide⟩ ⟨by decide, by decide⟩ rfl rfl rfl (Nat.le_of_ble_eq_true rfl) kd_Mo_reply_151 rfl (c1 := 0) (s1 := 0) rfl rfl (fun v w hp => ?_)
        obtain ⟨rfl, rfl⟩ := hp
        refine zk_stk (r' := []) rfl ?_
        refine zk_iconst (v := 0) C kd_Mo_reply_154 (by decide) rfl ?_
        refine zk_istore (lv' := [(5, _), (4, _), (3, _), (0, _), (1, _), (2, _)]) C kd_Mo_reply_155 (by decide) rfl rfl ?_
        refine zk_lvs (lv' := [(0, .ref (S.1 68)), (1, .int x1), (3, .int v4), (4, .int v6), (5, .int 0)]) [3, 4, 2, 1, 0] rfl ?_
        exact zl_Mo_reply_157 C hR zF h11 x1 v4 v6 0 e
    · replace e := zd_neg b8 e
      refine zk_aload_n C kd_Mo_reply_55 rfl 2 rfl rfl ?_
      refine zk_iload C kd_Mo_reply_56 0 rfl rfl ?_
      refine zk_bipush (v := 7) C kd_Mo_reply_58 (by decide) rfl ?_
      refine zk_iadd C kd_Mo_reply_60 rfl ?_
      refine zk_bipush (v := 8) C kd_Mo_reply_61 (by decide) rfl ?_
      refine zk_idiv C kd_Mo_reply_63 (by decide) rfl ?_
      obtain ⟨h13, c12, e⟩ := zd_b e
      refine zs_callV (k := 68) (rn := { frames := 0, cells := 0, slots := 0, locals := 0 }) (As := [.int ((v6 + 7) / 8)]) (rest := []) C (zc_Mo_answer h2 ((v6 + 7) / 8) c12) ku_Mo_answer kw2852 kv_Mo_answer rfl ⟨by decide, by decide⟩ ⟨by decide, by decide⟩ rfl rfl rfl (Nat.le_of_ble_eq_true rfl) kd_Mo_reply_64 rfl (c1 := 0) (s1 := 0) rfl rfl (fun v w hp => ?_)
      obtain ⟨rfl, rfl⟩ := hp
      refine zk_stk (r' := []) rfl ?_
      refine zk_iconst (v := 0) C kd_Mo_reply_67 (by decide) rfl ?_
      refine zk_istore (lv' := [(5, _), (4, _), (3, _), (0, _), (1, _), (2, _)]) C kd_Mo_reply_68 (by decide) rfl rfl ?_
      refine zk_lvs (lv' := [(0, .ref (S.1 68)), (1, .int x1), (3, .int v4), (4, .int v6), (5, .int 0)]) [3, 4, 2, 1, 0] rfl ?_
      exact zl_Mo_reply_70 C hR zF h13 x1 v4 v6 0 e
  · replace e := zd_neg b7 e
    refine zk_aload_n C kd_Mo_reply_42 rfl 2 rfl rfl ?_
    refine zk_iload_n C kd_Mo_reply_43 rfl 4 rfl rfl ?_
    obtain ⟨h15, c14, e⟩ := zd_b e
    refine zs_callV (k := 68) (rn := { frames := 0, cells := 0, slots := 0, locals := 0 }) (As := [.int x2]) (rest := []) C (zc_Mo_answer h2 x2 c14) ku_Mo_answer kw2852 kv_Mo_answer rfl ⟨by decide, by decide⟩ ⟨by decide, by decide⟩ rfl rfl rfl (Nat.le_of_ble_eq_true rfl) kd_Mo_reply_44 rfl (c1 := 0) (s1 := 0) rfl rfl (fun v w hp => ?_)
    obtain ⟨rfl, rfl⟩ := hp
    refine zk_stk (r' := []) rfl ?_
    refine zk_goto (tgt := 228) C kd_Mo_reply_47 (by decide) ?_
    refine zk_lvs (lv' := [(0, .ref (S.1 68))]) [2] rfl ?_
    exact zb_Mo_reply_228 C hR h15 e
set_option maxHeartbeats 4000000 in
set_option maxRecDepth 100000 in
theorem zc_Mo_reply {l : Launch} {D : va_G} {sz0 : Nat} {S : zs_T} {P : ze_T} (h : zs_H) (x1 : Int32) (x2 : Int32) {rh : zs_H} (e : f_Mo_reply h x1 x2 = some rh) : zk_Sp (zs_G S l D sz0) (ze_E P) km_Mo_reply { frames := 2, cells := 0, slots := 0, locals := 42 } [.ref (S.1 68), .int x1, .int x2] (zs_W S h) (zd_PV S rh) := by
  refine zk_met ku_Mo_reply (Nat.le_of_ble_eq_true rfl) (ze_Em P) ?_
  intro X C hR
  refine zk_lvs (lv' := [(0, .ref (S.1 68)), (1, .int x1), (2, .int x2)]) [0, 1, 2] rfl ?_
  unfold f_Mo_reply at e
  refine zk_aload_n C kd_Mo_reply_0 rfl 0 rfl rfl ?_
  refine zk_aload_n C kd_Mo_reply_1 rfl 0 rfl rfl ?_
  refine zs_get (v := .int (h.1 68 83)) C 68 83 rfl rfl rfl rfl ki_Mo (by decide) kw1766 kd_Mo_reply_2 rfl ?_
  obtain ⟨h2, c1, e⟩ := zd_b e
  refine zs_callV (k := 68) (rn := { frames := 0, cells := 0, slots := 0, locals := 0 }) (As := [.int (h.1 68 83)]) (rest := []) C (zc_Mo_answer h (h.1 68 83) c1) ku_Mo_answer kw2852 kv_Mo_answer rfl ⟨by decide, by decide⟩ ⟨by decide, by decide⟩ rfl rfl rfl (Nat.le_of_ble_eq_true rfl) kd_Mo_reply_5 rfl (c1 := 0) (s1 := 0) rfl rfl (fun v w hp => ?_)
  obtain ⟨rfl, rfl⟩ := hp
  refine zk_stk (r' := []) rfl ?_
  refine zk_aload_n C kd_Mo_reply_8 rfl 0 rfl rfl ?_
  refine zk_iload_n C kd_Mo_reply_9 rfl 2 rfl rfl ?_
  refine zk_if_le (tgt := 21) C kd_Mo_reply_10 (by decide) rfl (fun b3 => ?_) (fun b3 => ?_)
  · replace e := zd_pos b3 e
    refine zk_iload_n C kd_Mo_reply_21 rfl 1 rfl rfl ?_
    refine zk_lvs (lv' := [(0, .ref (S.1 68)), (1, .int x1), (2, .int x2)]) [0, 1, 2] rfl ?_
    exact zb_Mo_reply_22 C hR h2 x1 x2 x1 e
  · replace e := zd_neg b3 e
    refine zk_iload_n C kd_Mo_reply_13 rfl 1 rfl rfl ?_
    refine zk_sipush (v := 128) C kd_Mo_reply_14 (by decide) rfl ?_
    refine zk_ior C kd_Mo_reply_17 rfl ?_
    refine zk_goto (tgt := 22) C kd_Mo_reply_18 (by decide) ?_
    refine zk_lvs (lv' := [(0, .ref (S.1 68)), (1, .int x1), (2, .int x2)]) [0, 1, 2] rfl ?_
    exact zb_Mo_reply_22 C hR h2 x1 x2 (x1 ||| 128) e
set_option maxHeartbeats 4000000 in
set_option maxRecDepth 100000 in
theorem zb_Mo_frame_167 {X : zkj_T} {S : zs_T} {P : ze_T} {l : Launch} {D : va_G} {sz0 : Nat} {rv : Int32} {rh : zs_H} (C : zk_C X km_Mo_frame (zs_G S l D sz0) { frames := 3, cells := 0, slots := 0, locals := 69 } (ze_E P)) (hR : zkj_R X (zd_PI S rv rh) (some .int)) (h : zs_H) (e : f_Mo_frame_167 h = some (rv, rh)) : zk_Ab X (zs_W S h) 0 0 167 [(0, .ref (S.1 68))] [] := by
  unfold f_Mo_frame_167 at e
  refine zk_aload_n C kd_Mo_frame_167 rfl 0 rfl rfl ?_
  refine zs_get (v := .int (h.1 68 88)) C 68 88 rfl rfl rfl rfl ki_Mo (by decide) kw1771 kd_Mo_frame_168 rfl ?_
  exact zk_iret C hR kd_Mo_frame_171 rfl rfl (zd_rIS e)
set_option maxHeartbeats 4000000 in
set_option maxRecDepth 100000 in
theorem zb_Mo_frame_151 {X : zkj_T} {S : zs_T} {P : ze_T} {l : Launch} {D : va_G} {sz0 : Nat} {rv : Int32} {rh : zs_H} (C : zk_C X km_Mo_frame (zs_G S l D sz0) { frames := 3, cells := 0, slots := 0, locals := 69 } (ze_E P)) (hR : zkj_R X (zd_PI S rv rh) (some .int)) (h : zs_H) (x4 : Int32) (x5 : Int32) (e : f_Mo_frame_151 h x4 x5 = some (rv, rh)) : zk_Ab X (zs_W S h) 0 0 151 [(0, .ref (S.1 68)), (4, .int x4), (5, .int x5)] [] := by
  unfold f_Mo_frame_151 at e
  refine zk_aload_n C kd_Mo_frame_151 rfl 0 rfl rfl ?_
  refine zk_iconst (v := 0) C kd_Mo_frame_152 (by decide) rfl ?_
  obtain ⟨v2, c1, e⟩ := zd_b e
  refine zs_callV (k := 68) (rn := { frames := 0, cells := 0, slots := 0, locals := 0 }) (As := [.int 0]) (rest := []) C (zc_Mo_heard h 0 c1) ku_Mo_heard kw2824 kv_Mo_heard rfl ⟨by decide, by decide⟩ ⟨by decide, by decide⟩ rfl rfl rfl (Nat.le_of_ble_eq_true rfl) kd_Mo_frame_153 rfl (c1 := 0) (s1 := 0) rfl rfl (fun v w hp => ?_)
  obtain ⟨rfl, rfl⟩ := hp
  refine zk_stk (r' := [.int v2]) rfl ?_
  refine zk_if_le (tgt := 167) C kd_Mo_frame_156 (by decide) rfl (fun b3 => ?_) (fun b3 => ?_)
  · replace e := zd_pos b3 e
    refine zk_lvs (lv' := [(0, .ref (S.1 68))]) [0] rfl ?_
    exact zb_Mo_frame_167 C hR h e
  · replace e := zd_neg b3 e
    refine zk_aload_n C kd_Mo_frame_159 rfl 0 rfl rfl ?_
    refine zk_iload C kd_Mo_frame_160 1 rfl rfl ?_
    refine zk_iload C kd_Mo_frame_162 2 rfl rfl ?_
    obtain ⟨h5, c4, e⟩ := zd_b e
    refine zs_callV (k := 68) (rn := { frames := 2, cells := 0, slots := 0, locals := 42 }) (As := [.int x4, .int x5]) (rest := []) C (zc_Mo_reply h x4 x5 c4) ku_Mo_reply kw2848 kv_Mo_reply rfl ⟨by decide, by decide⟩ ⟨by decide, by decide⟩ rfl rfl rfl (Nat.le_of_ble_eq_true rfl) kd_Mo_frame_164 rfl (c1 := 0) (s1 := 0) rfl rfl (fun v w hp => ?_)
    obtain ⟨rfl, rfl⟩ := hp
    refine zk_stk (r' := []) rfl ?_
    refine zk_lvs (lv' := [(0, .ref (S.1 68))]) [0] rfl ?_
    exact zb_Mo_frame_167 C hR h5 e
set_option maxHeartbeats 4000000 in
set_option maxRecDepth 100000 in
theorem zb_Mo_frame_85 {X : zkj_T} {S : zs_T} {P : ze_T} {l : Launch} {D : va_G} {sz0 : Nat} {rv : Int32} {rh : zs_H} (C : zk_C X km_Mo_frame (zs_G S l D sz0) { frames := 3, cells := 0, slots := 0, locals := 69 } (ze_E P)) (hR : zkj_R X (zd_PI S rv rh) (some .int)) (h : zs_H) (x1 : Int32) (x2 : Int32) (y0 : Int32) (e : f_Mo_frame_85 h x1 x2 y0 = some (rv, rh)) : zk_Ab X (zs_W S h) 0 0 85 [(0, .ref (S.1 68)), (1, .int x1), (2, .int x2)] [.int y0] := by
  unfold f_Mo_frame_85 at e
  refine zk_istore_n (lv' := [(3, _), (0, _), (1, _), (2, _)]) C kd_Mo_frame_85 rfl (by decide) rfl rfl ?_
  refine zk_aload_n C kd_Mo_frame_86 rfl 1 rfl rfl ?_
  refine zk_iload_n C kd_Mo_frame_87 rfl 2 rfl rfl ?_
  refine zk_iconst (v := 2) C kd_Mo_frame_88 (by decide) rfl ?_
  refine zk_isub C kd_Mo_frame_89 rfl ?_
  obtain ⟨v2, c1, e⟩ := zd_b e
  refine zs_callV (k := 68) (rn := { frames := 0, cells := 0, slots := 0, locals := 0 }) (As := [.int (x1 - 2)]) (rest := []) C (zc_Mo_heard h (x1 - 2) c1) ku_Mo_heard kw2824 kv_Mo_heard rfl ⟨by decide, by decide⟩ ⟨by decide, by decide⟩ rfl rfl rfl (Nat.le_of_ble_eq_true rfl) kd_Mo_frame_90 rfl (c1 := 0) (s1 := 0) rfl rfl (fun v w hp => ?_)
  obtain ⟨rfl, rfl⟩ := hp
  refine zk_stk (r' := [.int v2]) rfl ?_
  refine zk_iload_n C kd_Mo_frame_93 rfl 3 rfl rfl ?_
  refine zk_sipush (v := 256) C kd_Mo_frame_94 (by decide) rfl ?_
  refine zk_irem C kd_Mo_frame_97 (by decide) rfl ?_
  refine zk_icmp_ne (tgt := 120) C kd_Mo_frame_98 (by decide) rfl (fun b3 => ?_) (fun b3 => ?_)
  · replace e := zd_neg b3 e
    refine zk_iconst (v := 0) C kd_Mo_frame_120 (by decide) rfl ?_
    exact zk_iret C hR kd_Mo_frame_121 rfl rfl (zd_rIS e)
  · replace e := zd_pos b3 e
    refine zk_aload_n C kd_Mo_frame_101 rfl 1 rfl rfl ?_
    refine zk_iload_n C kd_Mo_frame_102 rfl 2 rfl rfl ?_
    refine zk_iconst (v := 1) C kd_Mo_frame_103 (by decide) rfl ?_
    refine zk_isub C kd_Mo_frame_104 rfl ?_
    obtain ⟨v5, c4, e⟩ := zd_b e
    refine zs_callV (k := 68) (rn := { frames := 0, cells := 0, slots := 0, locals := 0 }) (As := [.int (x1 - 1)]) (rest := []) C (zc_Mo_heard h (x1 - 1) c4) ku_Mo_heard kw2824 kv_Mo_heard rfl ⟨by decide, by decide⟩ ⟨by decide, by decide⟩ rfl rfl rfl (Nat.le_of_ble_eq_true rfl) kd_Mo_frame_105 rfl (c1 := 0) (s1 := 0) rfl rfl (fun v w hp => ?_)
    obtain ⟨rfl, rfl⟩ := hp
    refine zk_stk (r' := [.int v5]) rfl ?_
    refine zk_iload_n C kd_Mo_frame_108 rfl 3 rfl rfl ?_
    refine zk_sipush (v := 256) C kd_Mo_frame_109 (by decide) rfl ?_
    refine zk_idiv C kd_Mo_frame_112 (by decide) rfl ?_
    refine zk_icmp_ne (tgt := 120) C kd_Mo_frame_113 (by decide) rfl (fun b6 => ?_) (fun b6 => ?_)
    · replace e := zd_neg b6 e
      refine zk_iconst (v := 0) C kd_Mo_frame_120 (by decide) rfl ?_
      exact zk_iret C hR kd_Mo_frame_121 rfl rfl (zd_rIS e)
    · replace e := zd_pos b6 e
      refine zk_iload_n C kd_Mo_frame_116 rfl 0 rfl rfl ?_
      refine zk_if_ne (tgt := 122) C kd_Mo_frame_117 (by decide) rfl (fun b7 => ?_) (fun b7 => ?_)
      · replace e := zd_neg b7 e
        refine zk_aload_n C kd_Mo_frame_122 rfl 1 rfl rfl ?_
        refine zk_iconst (v := 1) C kd_Mo_frame_123 (by decide) rfl ?_
        obtain ⟨v9, c8, e⟩ := zd_b e
        refine zs_callV (k := 68) (rn := { frames := 0, cells := 0, slots := 0, locals := 0 }) (As := [.int 1]) (rest := []) C (zc_Mo_heard h 1 c8) ku_Mo_heard kw2824 kv_Mo_heard rfl ⟨by decide, by decide⟩ ⟨by decide, by decide⟩ rfl rfl rfl (Nat.le_of_ble_eq_true rfl) kd_Mo_frame_124 rfl (c1 := 0) (s1 := 0) rfl rfl (fun v w hp => ?_)
        obtain ⟨rfl, rfl⟩ := hp
        refine zk_stk (r' := [.int v9]) rfl ?_
        refine zk_istore (lv' := [(4, _), (3, _), (0, _), (1, _), (2, _)]) C kd_Mo_frame_127 (by decide) rfl rfl ?_
        refine zk_aload_n C kd_Mo_frame_129 rfl 2 rfl rfl ?_
        refine zk_iload C kd_Mo_frame_130 0 rfl rfl ?_
        refine zk_iload_n C kd_Mo_frame_132 rfl 3 rfl rfl ?_
        refine zk_iconst (v := 4) C kd_Mo_frame_133 (by decide) rfl ?_
        refine zk_isub C kd_Mo_frame_134 rfl ?_
        obtain ⟨v11, c10, e⟩ := zd_b e
        refine zs_callV (k := 68) (rn := { frames := 2, cells := 0, slots := 0, locals := 42 }) (As := [.int v9, .int (x1 - 4)]) (rest := []) C (zc_Mo_refusal h v9 (x1 - 4) c10) ku_Mo_refusal kw2832 kv_Mo_refusal rfl ⟨by decide, by decide⟩ ⟨by decide, by decide⟩ rfl rfl rfl (Nat.le_of_ble_eq_true rfl) kd_Mo_frame_135 rfl (c1 := 0) (s1 := 0) rfl rfl (fun v w hp => ?_)
        obtain ⟨rfl, rfl⟩ := hp
        refine zk_stk (r' := [.int v11]) rfl ?_
        refine zk_istore (lv' := [(5, _), (4, _), (3, _), (0, _), (1, _), (2, _)]) C kd_Mo_frame_138 (by decide) rfl rfl ?_
        refine zk_iload C kd_Mo_frame_140 0 rfl rfl ?_
        refine zk_if_ne (tgt := 151) C kd_Mo_frame_142 (by decide) rfl (fun b12 => ?_) (fun b12 => ?_)
        · replace e := zd_neg b12 e
          refine zk_lvs (lv' := [(0, .ref (S.1 68)), (4, .int v9), (5, .int v11)]) [3, 1, 0] rfl ?_
          exact zb_Mo_frame_151 C hR h v9 v11 e
        · replace e := zd_pos b12 e
          refine zk_aload_n C kd_Mo_frame_145 rfl 3 rfl rfl ?_
          refine zk_iload C kd_Mo_frame_146 1 rfl rfl ?_
          obtain ⟨h14, c13, e⟩ := zd_b e
          refine zs_callV (k := 68) (rn := { frames := 2, cells := 0, slots := 0, locals := 42 }) (As := [.int v9]) (rest := []) C (zc_Mo_obey h v9 c13) ku_Mo_obey kw2844 kv_Mo_obey rfl ⟨by decide, by decide⟩ ⟨by decide, by decide⟩ rfl rfl rfl (Nat.le_of_ble_eq_true rfl) kd_Mo_frame_148 rfl (c1 := 0) (s1 := 0) rfl rfl (fun v w hp => ?_)
          obtain ⟨rfl, rfl⟩ := hp
          refine zk_stk (r' := []) rfl ?_
          refine zk_lvs (lv' := [(0, .ref (S.1 68)), (4, .int v9), (5, .int v11)]) [3, 1, 0] rfl ?_
          exact zb_Mo_frame_151 C hR h14 v9 v11 e
      · replace e := zd_pos b7 e
        refine zk_iconst (v := 0) C kd_Mo_frame_120 (by decide) rfl ?_
        exact zk_iret C hR kd_Mo_frame_121 rfl rfl (zd_rIS e)
set_option maxHeartbeats 4000000 in
set_option maxRecDepth 100000 in
theorem zb_Mo_frame_80 {X : zkj_T} {S : zs_T} {P : ze_T} {l : Launch} {D : va_G} {sz0 : Nat} {rv : Int32} {rh : zs_H} (C : zk_C X km_Mo_frame (zs_G S l D sz0) { frames := 3, cells := 0, slots := 0, locals := 69 } (ze_E P)) (hR : zkj_R X (zd_PI S rv rh) (some .int)) (h : zs_H) (x1 : Int32) (x2 : Int32) (e : f_Mo_frame_80 h x1 x2 = some (rv, rh)) : zk_Ab X (zs_W S h) 0 0 80 [(0, .ref (S.1 68)), (1, .int x1), (2, .int x2)] [] := by
  unfold f_Mo_frame_80 at e
  refine zk_iconst (v := 1) C kd_Mo_frame_80 (by decide) rfl ?_
  refine zk_goto (tgt := 85) C kd_Mo_frame_81 (by decide) ?_
  refine zk_lvs (lv' := [(0, .ref (S.1 68)), (1, .int x1), (2, .int x2)]) [0, 1, 2] rfl ?_
  exact zb_Mo_frame_85 C hR h x1 x2 1 e
set_option maxHeartbeats 4000000 in
set_option maxRecDepth 100000 in
theorem zb_Mo_frame_37 {X : zkj_T} {S : zs_T} {P : ze_T} {l : Launch} {D : va_G} {sz0 : Nat} {rv : Int32} {rh : zs_H} (C : zk_C X km_Mo_frame (zs_G S l D sz0) { frames := 3, cells := 0, slots := 0, locals := 69 } (ze_E P)) (hR : zkj_R X (zd_PI S rv rh) (some .int)) {k37 : zs_H → Int32 → Int32 → Int32 → (Option (Int32 × zs_H))} (hk37 : ∀ (h : zs_H) (x1 : Int32) (x2 : Int32) (x3 : Int32), k37 h x1 x2 x3 = some (rv, rh) → zk_Ab X (zs_W S h) 0 0 37 [(0, .ref (S.1 68)), (1, .int x1), (2, .int x2), (3, .int x3)] []) (h : zs_H) (x1 : Int32) (x2 : Int32) (x3 : Int32) (e : f_Mo_frame_37 k37 h x1 x2 x3 = some (rv, rh)) : zk_Ab X (zs_W S h) 0 0 37 [(0, .ref (S.1 68)), (1, .int x1), (2, .int x2), (3, .int x3)] [] := by
  unfold f_Mo_frame_37 at e
  refine zk_iload_n C kd_Mo_frame_37 rfl 3 rfl rfl ?_
  refine zk_iload_n C kd_Mo_frame_38 rfl 1 rfl rfl ?_
  refine zk_iconst (v := 2) C kd_Mo_frame_39 (by decide) rfl ?_
  refine zk_isub C kd_Mo_frame_40 rfl ?_
  refine zk_icmp_ge (tgt := 60) C kd_Mo_frame_41 (by decide) rfl (fun b1 => ?_) (fun b1 => ?_)
  · replace e := zd_pos b1 e
    refine zk_aload_n C kd_Mo_frame_60 rfl 0 rfl rfl ?_
    refine zk_iconst (v := 0) C kd_Mo_frame_61 (by decide) rfl ?_
    obtain ⟨v3, c2, e⟩ := zd_b e
    refine zs_callV (k := 68) (rn := { frames := 0, cells := 0, slots := 0, locals := 0 }) (As := [.int 0]) (rest := []) C (zc_Mo_heard h 0 c2) ku_Mo_heard kw2824 kv_Mo_heard rfl ⟨by decide, by decide⟩ ⟨by decide, by decide⟩ rfl rfl rfl (Nat.le_of_ble_eq_true rfl) kd_Mo_frame_62 rfl (c1 := 0) (s1 := 0) rfl rfl (fun v w hp => ?_)
    obtain ⟨rfl, rfl⟩ := hp
    refine zk_stk (r' := [.int v3]) rfl ?_
    refine zk_if_eq (tgt := 80) C kd_Mo_frame_65 (by decide) rfl (fun b4 => ?_) (fun b4 => ?_)
    · replace e := zd_pos b4 e
      refine zk_lvs (lv' := [(0, .ref (S.1 68)), (1, .int x1), (2, .int x2)]) [0, 1, 2] rfl ?_
      exact zb_Mo_frame_80 C hR h x1 x2 e
    · replace e := zd_neg b4 e
      refine zk_aload_n C kd_Mo_frame_68 rfl 0 rfl rfl ?_
      refine zk_iconst (v := 0) C kd_Mo_frame_69 (by decide) rfl ?_
      obtain ⟨v6, c5, e⟩ := zd_b e
      refine zs_callV (k := 68) (rn := { frames := 0, cells := 0, slots := 0, locals := 0 }) (As := [.int 0]) (rest := []) C (zc_Mo_heard h 0 c5) ku_Mo_heard kw2824 kv_Mo_heard rfl ⟨by decide, by decide⟩ ⟨by decide, by decide⟩ rfl rfl rfl (Nat.le_of_ble_eq_true rfl) kd_Mo_frame_70 rfl (c1 := 0) (s1 := 0) rfl rfl (fun v w hp => ?_)
      obtain ⟨rfl, rfl⟩ := hp
      refine zk_stk (r' := [.int v6]) rfl ?_
      refine zk_aload_n C kd_Mo_frame_73 rfl 0 rfl rfl ?_
      refine zs_get (v := .int (h.1 68 83)) C 68 83 rfl rfl rfl rfl ki_Mo (by decide) kw1766 kd_Mo_frame_74 rfl ?_
      refine zk_icmp_ne (tgt := 84) C kd_Mo_frame_77 (by decide) rfl (fun b7 => ?_) (fun b7 => ?_)
      · replace e := zd_neg b7 e
        refine zk_iconst (v := 0) C kd_Mo_frame_84 (by decide) rfl ?_
        refine zk_lvs (lv' := [(0, .ref (S.1 68)), (1, .int x1), (2, .int x2)]) [0, 1, 2] rfl ?_
        exact zb_Mo_frame_85 C hR h x1 x2 0 e
      · replace e := zd_pos b7 e
        refine zk_lvs (lv' := [(0, .ref (S.1 68)), (1, .int x1), (2, .int x2)]) [0, 1, 2] rfl ?_
        exact zb_Mo_frame_80 C hR h x1 x2 e
  · replace e := zd_neg b1 e
    refine zk_iload_n C kd_Mo_frame_44 rfl 2 rfl rfl ?_
    refine zk_aload_n C kd_Mo_frame_45 rfl 0 rfl rfl ?_
    refine zk_iload_n C kd_Mo_frame_46 rfl 3 rfl rfl ?_
    obtain ⟨v9, c8, e⟩ := zd_b e
    refine zs_callV (k := 68) (rn := { frames := 0, cells := 0, slots := 0, locals := 0 }) (As := [.int x3]) (rest := [.int x2]) C (zc_Mo_heard h x3 c8) ku_Mo_heard kw2824 kv_Mo_heard rfl ⟨by decide, by decide⟩ ⟨by decide, by decide⟩ rfl rfl rfl (Nat.le_of_ble_eq_true rfl) kd_Mo_frame_47 rfl (c1 := 0) (s1 := 0) rfl rfl (fun v w hp => ?_)
    obtain ⟨rfl, rfl⟩ := hp
    refine zk_stk (r' := [.int v9, .int x2]) rfl ?_
    obtain ⟨v11, c10, e⟩ := zd_b e
    refine zk_callS (rn := { frames := 0, cells := 0, slots := 0, locals := 0 }) (As := [.int x2, .int v9]) (rest := []) C (zc_Mo_summed h x2 v9 c10) ku_Mo_summed kw2828 ks_Mo_summed rfl ⟨by decide, by decide⟩ ⟨by decide, by decide⟩ rfl (Nat.le_of_ble_eq_true rfl) kd_Mo_frame_50 rfl (c1 := 0) (s1 := 0) rfl rfl (fun v w hp => ?_)
    obtain ⟨rfl, rfl⟩ := hp
    refine zk_stk (r' := [.int v11]) rfl ?_
    refine zk_istore_n (lv' := [(2, _), (0, _), (1, _), (3, _)]) C kd_Mo_frame_53 rfl (by decide) rfl rfl ?_
    refine zk_iinc (v := (x3 + 1)) (lv' := [(3, _), (2, _), (0, _), (1, _)]) C kd_Mo_frame_54 3 rfl rfl (by decide) rfl rfl ?_
    refine zk_goto (tgt := 37) C kd_Mo_frame_57 (by decide) ?_
    refine zk_lvs (lv' := [(0, .ref (S.1 68)), (1, .int x1), (2, .int v11), (3, .int (x3 + 1))]) [2, 3, 1, 0] rfl ?_
    exact hk37 h x1 v11 (x3 + 1) e
theorem zl_Mo_frame_37 {X : zkj_T} {S : zs_T} {P : ze_T} {l : Launch} {D : va_G} {sz0 : Nat} {rv : Int32} {rh : zs_H} (C : zk_C X km_Mo_frame (zs_G S l D sz0) { frames := 3, cells := 0, slots := 0, locals := 69 } (ze_E P)) (hR : zkj_R X (zd_PI S rv rh) (some .int)) (n : Nat) : ∀ (h : zs_H) (x1 : Int32) (x2 : Int32) (x3 : Int32), f_Mo_frame_L37 n h x1 x2 x3 = some (rv, rh) → zk_Ab X (zs_W S h) 0 0 37 [(0, .ref (S.1 68)), (1, .int x1), (2, .int x2), (3, .int x3)] [] := by
  induction n with
  | zero => intro h x1 x2 x3 e; exact zd_no e
  | succ n ih => intro h x1 x2 x3 e; exact zb_Mo_frame_37 (k37 := f_Mo_frame_L37  n) C hR ih h x1 x2 x3 e
set_option maxHeartbeats 4000000 in
set_option maxRecDepth 100000 in
theorem zc_Mo_frame {l : Launch} {D : va_G} {sz0 : Nat} {S : zs_T} {P : ze_T} (h : zs_H) {rv : Int32} {rh : zs_H} (e : f_Mo_frame h = some (rv, rh)) : zk_Sp (zs_G S l D sz0) (ze_E P) km_Mo_frame { frames := 3, cells := 0, slots := 0, locals := 69 } [.ref (S.1 68)] (zs_W S h) (zd_PI S rv rh) := by
  refine zk_met ku_Mo_frame (Nat.le_of_ble_eq_true rfl) (ze_Em P) ?_
  intro X C hR
  refine zk_lvs (lv' := [(0, .ref (S.1 68))]) [0] rfl ?_
  unfold f_Mo_frame at e
  refine zk_aload_n C kd_Mo_frame_0 rfl 0 rfl rfl ?_
  obtain ⟨v2, h3, c1, e⟩ := zd_Be e
  refine zs_callV (k := 68) (rn := { frames := 0, cells := 0, slots := 0, locals := 0 }) (As := []) (rest := []) C (zc_Mo_useTape h c1) ku_Mo_useTape kw1989 kv_Mo_useTape rfl ⟨by decide, by decide⟩ ⟨by decide, by decide⟩ rfl rfl rfl (Nat.le_of_ble_eq_true rfl) kd_Mo_frame_1 rfl (c1 := 0) (s1 := 0) rfl rfl (fun v w hp => ?_)
  obtain ⟨rfl, rfl⟩ := hp
  refine zk_stk (r' := [.int v2]) rfl ?_
  refine zk_istore_n (lv' := [(1, _), (0, _)]) C kd_Mo_frame_4 rfl (by decide) rfl rfl ?_
  refine zk_aload_n C kd_Mo_frame_5 rfl 1 rfl rfl ?_
  refine zk_iconst (v := 0) C kd_Mo_frame_6 (by decide) rfl ?_
  refine zs_put (ty := .int) C 68 88 0 rfl rfl rfl rfl ki_Mo ky_Mo ko_Mo kn_Mo (by decide) kw1771 rfl rfl rfl rfl (by decide) kd_Mo_frame_7 rfl ?_
  refine zk_aload_n C kd_Mo_frame_10 rfl 1 rfl rfl ?_
  refine zs_get (v := .int (h3.1 68 82)) C 68 82 rfl rfl rfl rfl ki_Mo (by decide) kw1765 kd_Mo_frame_11 rfl ?_
  refine zk_if_eq (tgt := 29) C kd_Mo_frame_14 (by decide) rfl (fun b4 => ?_) (fun b4 => ?_)
  · replace e := zd_pos b4 e
    refine zk_iconst (v := 0) C kd_Mo_frame_29 (by decide) rfl ?_
    exact zk_iret C hR kd_Mo_frame_30 rfl rfl (zd_rIS e)
  · replace e := zd_neg b4 e
    refine zk_iload_n C kd_Mo_frame_17 rfl 0 rfl rfl ?_
    refine zk_iconst (v := 4) C kd_Mo_frame_18 (by decide) rfl ?_
    refine zk_icmp_lt (tgt := 29) C kd_Mo_frame_19 (by decide) rfl (fun b5 => ?_) (fun b5 => ?_)
    · replace e := zd_pos b5 e
      refine zk_iconst (v := 0) C kd_Mo_frame_29 (by decide) rfl ?_
      exact zk_iret C hR kd_Mo_frame_30 rfl rfl (zd_rIS e)
    · replace e := zd_neg b5 e
      refine zk_iload_n C kd_Mo_frame_22 rfl 0 rfl rfl ?_
      refine zk_sipush (v := 256) C kd_Mo_frame_23 (by decide) rfl ?_
      refine zk_icmp_le (tgt := 31) C kd_Mo_frame_26 (by decide) rfl (fun b6 => ?_) (fun b6 => ?_)
      · replace e := zd_pos b6 e
        refine zk_ldcw (v := 65535) C kw2570 kd_Mo_frame_31 rfl ?_
        refine zk_istore_n (lv' := [(2, _), (1, _), (0, _)]) C kd_Mo_frame_34 rfl (by decide) rfl rfl ?_
        refine zk_iconst (v := 0) C kd_Mo_frame_35 (by decide) rfl ?_
        refine zk_istore_n (lv' := [(3, _), (2, _), (1, _), (0, _)]) C kd_Mo_frame_36 rfl (by decide) rfl rfl ?_
        refine zk_lvs (lv' := [(0, .ref (S.1 68)), (1, .int v2), (2, .int 65535), (3, .int 0)]) [3, 2, 1, 0] rfl ?_
        exact zl_Mo_frame_37 C hR zF (zs_uF h3 68 88 0) v2 65535 0 e
      · replace e := zd_neg b6 e
        refine zk_iconst (v := 0) C kd_Mo_frame_29 (by decide) rfl ?_
        exact zk_iret C hR kd_Mo_frame_30 rfl rfl (zd_rIS e)
set_option maxHeartbeats 4000000 in
set_option maxRecDepth 100000 in
theorem zc_Mo_watched {l : Launch} {D : va_G} {sz0 : Nat} {S : zs_T} {P : ze_T} (h : zs_H) : zk_Sp (zs_G S l D sz0) (ze_E P) km_Mo_watched { frames := 0, cells := 0, slots := 0, locals := 0 } [.ref (S.1 68)] (zs_W S h) (zd_PI S (f_Mo_watched h) h) := by
  obtain ⟨rv, e⟩ : ∃ rv, f_Mo_watched h = rv := ⟨_, rfl⟩
  rw [e]
  refine zk_met ku_Mo_watched (Nat.le_of_ble_eq_true rfl) (ze_Em P) ?_
  intro X C hR
  refine zk_lvs (lv' := [(0, .ref (S.1 68))]) [0] rfl ?_
  unfold f_Mo_watched at e
  refine zk_aload_n C kd_Mo_watched_0 rfl 0 rfl rfl ?_
  refine zs_get (v := .int (h.1 68 87)) C 68 87 rfl rfl rfl rfl ki_Mo (by decide) kw1770 kd_Mo_watched_1 rfl ?_
  exact zk_iret C hR kd_Mo_watched_4 rfl rfl (zd_rIT e)
