theorem gk_951 : Cond.methodLink R_Law 90 gy_Law_want ∈ gt_T := gt_m2 (List.mem_of_getElem? (i := 151) rfl) rfl
theorem gk_952 : Cond.static gy_Law_want ∈ gt_T := gt_m2 (List.mem_of_getElem? (i := 152) rfl) rfl
theorem gk_953 : Cond.methodLink R_Law 95 gy_Model_want ∈ gt_T := gt_m6 (List.mem_of_getElem? (i := 204) rfl) rfl
theorem gk_954 : Cond.instanceMethod gy_Model_want ∈ gt_T := gt_m6 (List.mem_of_getElem? (i := 205) rfl) rfl
theorem gk_955 : Cond.selects R_Model gy_Model_want gy_Model_want ∈ gt_T := gt_m6 (List.mem_of_getElem? (i := 206) rfl) rfl
theorem gk_956 : Cond.methodLink R_Law 96 gy_Model_thrown ∈ gt_T := gt_m6 (List.mem_of_getElem? (i := 200) rfl) rfl
theorem gk_957 : Cond.instanceMethod gy_Model_thrown ∈ gt_T := gt_m6 (List.mem_of_getElem? (i := 201) rfl) rfl
theorem gk_958 : Cond.selects R_Model gy_Model_thrown gy_Model_thrown ∈ gt_T := gt_m6 (List.mem_of_getElem? (i := 202) rfl) rfl
theorem gk_959 : Cond.methodLink R_Law 99 gy_Law_search ∈ gt_T := gt_m2 (List.mem_of_getElem? (i := 232) rfl) rfl
theorem gk_960 : Cond.static gy_Law_search ∈ gt_T := gt_m2 (List.mem_of_getElem? (i := 233) rfl) rfl
theorem gk_961 : Cond.methodLink R_Law 102 gy_Model_search ∈ gt_T := gt_m6 (List.mem_of_getElem? (i := 218) rfl) rfl
theorem gk_962 : Cond.instanceMethod gy_Model_search ∈ gt_T := gt_m6 (List.mem_of_getElem? (i := 219) rfl) rfl
theorem gk_963 : Cond.selects R_Model gy_Model_search gy_Model_search ∈ gt_T := gt_m6 (List.mem_of_getElem? (i := 220) rfl) rfl
theorem gk_964 : Cond.methodLink R_Law 103 gy_Law_tooth ∈ gt_T := gt_m4 (List.mem_of_getElem? (i := 129) rfl) rfl
theorem gk_965 : Cond.static gy_Law_tooth ∈ gt_T := gt_m4 (List.mem_of_getElem? (i := 130) rfl) rfl
theorem gk_966 : Cond.methodLink R_Law 106 gy_Model_tooth ∈ gt_T := gt_m6 (List.mem_of_getElem? (i := 223) rfl) rfl
theorem gk_967 : Cond.instanceMethod gy_Model_tooth ∈ gt_T := gt_m6 (List.mem_of_getElem? (i := 224) rfl) rfl
theorem gk_968 : Cond.selects R_Model gy_Model_tooth gy_Model_tooth ∈ gt_T := gt_m6 (List.mem_of_getElem? (i := 225) rfl) rfl
theorem gk_969 : Cond.methodLink R_Law 107 gy_Law_error ∈ gt_T := gt_m4 (List.mem_of_getElem? (i := 160) rfl) rfl
theorem gk_970 : Cond.static gy_Law_error ∈ gt_T := gt_m4 (List.mem_of_getElem? (i := 161) rfl) rfl
theorem gk_971 : Cond.methodLink R_Law 109 gy_Model_error ∈ gt_T := gt_m7 (List.mem_of_getElem? (i := 30) rfl) rfl
theorem gk_972 : Cond.instanceMethod gy_Model_error ∈ gt_T := gt_m7 (List.mem_of_getElem? (i := 31) rfl) rfl
theorem gk_973 : Cond.selects R_Model gy_Model_error gy_Model_error ∈ gt_T := gt_m7 (List.mem_of_getElem? (i := 32) rfl) rfl
theorem gk_974 : Cond.methodLink R_Law 110 gy_Law_quotient ∈ gt_T := gt_m4 (List.mem_of_getElem? (i := 174) rfl) rfl
theorem gk_975 : Cond.static gy_Law_quotient ∈ gt_T := gt_m4 (List.mem_of_getElem? (i := 175) rfl) rfl
theorem gk_976 : Cond.methodLink R_Law 113 gy_Model_quotient ∈ gt_T := gt_m7 (List.mem_of_getElem? (i := 37) rfl) rfl
theorem gk_977 : Cond.instanceMethod gy_Model_quotient ∈ gt_T := gt_m7 (List.mem_of_getElem? (i := 38) rfl) rfl
theorem gk_978 : Cond.selects R_Model gy_Model_quotient gy_Model_quotient ∈ gt_T := gt_m7 (List.mem_of_getElem? (i := 39) rfl) rfl
theorem gk_979 : Cond.methodLink R_Law 114 gy_Law_gear ∈ gt_T := gt_m4 (List.mem_of_getElem? (i := 181) rfl) rfl
theorem gk_980 : Cond.static gy_Law_gear ∈ gt_T := gt_m4 (List.mem_of_getElem? (i := 182) rfl) rfl
theorem gk_981 : Cond.methodLink R_Law 116 gy_Model_gear ∈ gt_T := gt_m7 (List.mem_of_getElem? (i := 41) rfl) rfl
theorem gk_982 : Cond.instanceMethod gy_Model_gear ∈ gt_T := gt_m7 (List.mem_of_getElem? (i := 42) rfl) rfl
theorem gk_983 : Cond.selects R_Model gy_Model_gear gy_Model_gear ∈ gt_T := gt_m7 (List.mem_of_getElem? (i := 43) rfl) rfl
theorem gk_984 : Cond.methodLink R_Law 117 gy_Law_mesh ∈ gt_T := gt_m4 (List.mem_of_getElem? (i := 192) rfl) rfl
theorem gk_985 : Cond.static gy_Law_mesh ∈ gt_T := gt_m4 (List.mem_of_getElem? (i := 193) rfl) rfl
theorem gk_986 : Cond.methodLink R_Law 119 gy_Model_mesh ∈ gt_T := gt_m7 (List.mem_of_getElem? (i := 45) rfl) rfl
theorem gk_987 : Cond.instanceMethod gy_Model_mesh ∈ gt_T := gt_m7 (List.mem_of_getElem? (i := 46) rfl) rfl
theorem gk_988 : Cond.selects R_Model gy_Model_mesh gy_Model_mesh ∈ gt_T := gt_m7 (List.mem_of_getElem? (i := 47) rfl) rfl
theorem gk_989 : Cond.methodLink R_Law 120 gy_Law_inner ∈ gt_T := gt_m4 (List.mem_of_getElem? (i := 215) rfl) rfl
theorem gk_990 : Cond.static gy_Law_inner ∈ gt_T := gt_m4 (List.mem_of_getElem? (i := 216) rfl) rfl
theorem gk_991 : Cond.methodLink R_Law 122 gy_Model_inner ∈ gt_T := gt_m7 (List.mem_of_getElem? (i := 57) rfl) rfl
theorem gk_992 : Cond.instanceMethod gy_Model_inner ∈ gt_T := gt_m7 (List.mem_of_getElem? (i := 58) rfl) rfl
theorem gk_993 : Cond.selects R_Model gy_Model_inner gy_Model_inner ∈ gt_T := gt_m7 (List.mem_of_getElem? (i := 59) rfl) rfl
theorem gk_994 : Cond.methodLink R_Law 123 gy_Law_arbor ∈ gt_T := gt_m4 (List.mem_of_getElem? (i := 222) rfl) rfl
theorem gk_995 : Cond.static gy_Law_arbor ∈ gt_T := gt_m4 (List.mem_of_getElem? (i := 223) rfl) rfl
theorem gk_996 : Cond.methodLink R_Law 125 gy_Model_arbor ∈ gt_T := gt_m7 (List.mem_of_getElem? (i := 61) rfl) rfl
theorem gk_997 : Cond.instanceMethod gy_Model_arbor ∈ gt_T := gt_m7 (List.mem_of_getElem? (i := 62) rfl) rfl
theorem gk_998 : Cond.selects R_Model gy_Model_arbor gy_Model_arbor ∈ gt_T := gt_m7 (List.mem_of_getElem? (i := 63) rfl) rfl
theorem gk_999 : Cond.methodLink R_Law 126 gy_Law_planet ∈ gt_T := gt_m4 (List.mem_of_getElem? (i := 229) rfl) rfl
theorem gk_1000 : Cond.static gy_Law_planet ∈ gt_T := gt_m4 (List.mem_of_getElem? (i := 230) rfl) rfl
theorem gk_1001 : Cond.methodLink R_Law 128 gy_Model_planet ∈ gt_T := gt_m7 (List.mem_of_getElem? (i := 65) rfl) rfl
theorem gk_1002 : Cond.instanceMethod gy_Model_planet ∈ gt_T := gt_m7 (List.mem_of_getElem? (i := 66) rfl) rfl
theorem gk_1003 : Cond.selects R_Model gy_Model_planet gy_Model_planet ∈ gt_T := gt_m7 (List.mem_of_getElem? (i := 67) rfl) rfl
theorem gk_1004 : Cond.methodLink R_Law 129 gy_Law_remove ∈ gt_T := gt_m4 (List.mem_of_getElem? (i := 236) rfl) rfl
theorem gk_1005 : Cond.static gy_Law_remove ∈ gt_T := gt_m4 (List.mem_of_getElem? (i := 237) rfl) rfl
theorem gk_1006 : Cond.methodLink R_Law 131 gy_Model_remove ∈ gt_T := gt_m7 (List.mem_of_getElem? (i := 69) rfl) rfl
theorem gk_1007 : Cond.instanceMethod gy_Model_remove ∈ gt_T := gt_m7 (List.mem_of_getElem? (i := 70) rfl) rfl
theorem gk_1008 : Cond.selects R_Model gy_Model_remove gy_Model_remove ∈ gt_T := gt_m7 (List.mem_of_getElem? (i := 71) rfl) rfl
theorem gk_1009 : Cond.methodLink R_Law 132 gy_Law_relation ∈ gt_T := gt_m5 (List.mem_of_getElem? (i := 12) rfl) rfl
theorem gk_1010 : Cond.static gy_Law_relation ∈ gt_T := gt_m5 (List.mem_of_getElem? (i := 13) rfl) rfl
theorem gk_1011 : Cond.methodLink R_Law 134 gy_Model_relation ∈ gt_T := gt_m7 (List.mem_of_getElem? (i := 73) rfl) rfl
theorem gk_1012 : Cond.instanceMethod gy_Model_relation ∈ gt_T := gt_m7 (List.mem_of_getElem? (i := 74) rfl) rfl
theorem gk_1013 : Cond.selects R_Model gy_Model_relation gy_Model_relation ∈ gt_T := gt_m7 (List.mem_of_getElem? (i := 75) rfl) rfl
theorem gk_1014 : Cond.methodLink R_Law 135 gy_Law_crank ∈ gt_T := gt_m5 (List.mem_of_getElem? (i := 23) rfl) rfl
theorem gk_1015 : Cond.static gy_Law_crank ∈ gt_T := gt_m5 (List.mem_of_getElem? (i := 24) rfl) rfl
theorem gk_1016 : Cond.methodLink R_Law 137 gy_Model_crank ∈ gt_T := gt_m7 (List.mem_of_getElem? (i := 77) rfl) rfl
theorem gk_1017 : Cond.instanceMethod gy_Model_crank ∈ gt_T := gt_m7 (List.mem_of_getElem? (i := 78) rfl) rfl
theorem gk_1018 : Cond.selects R_Model gy_Model_crank gy_Model_crank ∈ gt_T := gt_m7 (List.mem_of_getElem? (i := 79) rfl) rfl
theorem gk_1019 : Cond.methodLink R_Law 138 gy_Law_solve ∈ gt_T := gt_m5 (List.mem_of_getElem? (i := 30) rfl) rfl
theorem gk_1020 : Cond.static gy_Law_solve ∈ gt_T := gt_m5 (List.mem_of_getElem? (i := 31) rfl) rfl
theorem gk_1021 : Cond.methodLink R_Law 141 gy_Model_solve ∈ gt_T := gt_m7 (List.mem_of_getElem? (i := 81) rfl) rfl
theorem gk_1022 : Cond.instanceMethod gy_Model_solve ∈ gt_T := gt_m7 (List.mem_of_getElem? (i := 82) rfl) rfl
theorem gk_1023 : Cond.selects R_Model gy_Model_solve gy_Model_solve ∈ gt_T := gt_m7 (List.mem_of_getElem? (i := 83) rfl) rfl
theorem gk_1024 : Cond.methodLink R_Law 142 gy_Law_speed ∈ gt_T := gt_m5 (List.mem_of_getElem? (i := 193) rfl) rfl
theorem gk_1025 : Cond.static gy_Law_speed ∈ gt_T := gt_m5 (List.mem_of_getElem? (i := 194) rfl) rfl
theorem gk_1026 : Cond.methodLink R_Law 144 gy_Model_speed ∈ gt_T := gt_m7 (List.mem_of_getElem? (i := 195) rfl) rfl
theorem gk_1027 : Cond.instanceMethod gy_Model_speed ∈ gt_T := gt_m7 (List.mem_of_getElem? (i := 196) rfl) rfl
theorem gk_1028 : Cond.selects R_Model gy_Model_speed gy_Model_speed ∈ gt_T := gt_m7 (List.mem_of_getElem? (i := 197) rfl) rfl
theorem gk_1029 : Cond.methodLink R_Law 145 gy_Law_dial ∈ gt_T := gt_m5 (List.mem_of_getElem? (i := 204) rfl) rfl
theorem gk_1030 : Cond.static gy_Law_dial ∈ gt_T := gt_m5 (List.mem_of_getElem? (i := 205) rfl) rfl
theorem gk_1031 : Cond.methodLink R_Law 147 gy_Model_dial ∈ gt_T := gt_m7 (List.mem_of_getElem? (i := 202) rfl) rfl
theorem gk_1032 : Cond.instanceMethod gy_Model_dial ∈ gt_T := gt_m7 (List.mem_of_getElem? (i := 203) rfl) rfl
theorem gk_1033 : Cond.selects R_Model gy_Model_dial gy_Model_dial ∈ gt_T := gt_m7 (List.mem_of_getElem? (i := 204) rfl) rfl
theorem gk_1034 : Cond.methodLink R_Law 148 gy_Law_position ∈ gt_T := gt_m5 (List.mem_of_getElem? (i := 212) rfl) rfl
theorem gk_1035 : Cond.static gy_Law_position ∈ gt_T := gt_m5 (List.mem_of_getElem? (i := 213) rfl) rfl
theorem gk_1036 : Cond.methodLink R_Law 150 gy_Model_position ∈ gt_T := gt_m7 (List.mem_of_getElem? (i := 207) rfl) rfl
theorem gk_1037 : Cond.instanceMethod gy_Model_position ∈ gt_T := gt_m7 (List.mem_of_getElem? (i := 208) rfl) rfl
theorem gk_1038 : Cond.selects R_Model gy_Model_position gy_Model_position ∈ gt_T := gt_m7 (List.mem_of_getElem? (i := 209) rfl) rfl
theorem gk_1039 : Cond.methodLink R_Law 151 gy_Law_meet ∈ gt_T := gt_m6 (List.mem_of_getElem? (i := 0) rfl) rfl
theorem gk_1040 : Cond.static gy_Law_meet ∈ gt_T := gt_m6 (List.mem_of_getElem? (i := 1) rfl) rfl
theorem gk_1041 : Cond.methodLink R_Law 153 gy_Model_meet ∈ gt_T := gt_m7 (List.mem_of_getElem? (i := 235) rfl) rfl
theorem gk_1042 : Cond.instanceMethod gy_Model_meet ∈ gt_T := gt_m7 (List.mem_of_getElem? (i := 236) rfl) rfl
theorem gk_1043 : Cond.selects R_Model gy_Model_meet gy_Model_meet ∈ gt_T := gt_m7 (List.mem_of_getElem? (i := 237) rfl) rfl
theorem gk_1044 : Cond.methodLink R_Law 154 gy_Law_back ∈ gt_T := gt_m6 (List.mem_of_getElem? (i := 11) rfl) rfl
theorem gk_1045 : Cond.static gy_Law_back ∈ gt_T := gt_m6 (List.mem_of_getElem? (i := 12) rfl) rfl
theorem gk_1046 : Cond.methodLink R_Law 156 gy_Model_back ∈ gt_T := gt_m8 (List.mem_of_getElem? (i := 3) rfl) rfl
theorem gk_1047 : Cond.instanceMethod gy_Model_back ∈ gt_T := gt_m8 (List.mem_of_getElem? (i := 4) rfl) rfl
theorem gk_1048 : Cond.selects R_Model gy_Model_back gy_Model_back ∈ gt_T := gt_m8 (List.mem_of_getElem? (i := 5) rfl) rfl
theorem gk_1049 : Cond.methodLink R_Law 157 gy_Law_result ∈ gt_T := gt_m6 (List.mem_of_getElem? (i := 32) rfl) rfl
theorem gk_1050 : Cond.static gy_Law_result ∈ gt_T := gt_m6 (List.mem_of_getElem? (i := 33) rfl) rfl
theorem gk_1051 : Cond.methodLink R_Law 159 gy_Model_result ∈ gt_T := gt_m8 (List.mem_of_getElem? (i := 7) rfl) rfl
theorem gk_1052 : Cond.instanceMethod gy_Model_result ∈ gt_T := gt_m8 (List.mem_of_getElem? (i := 8) rfl) rfl
theorem gk_1053 : Cond.selects R_Model gy_Model_result gy_Model_result ∈ gt_T := gt_m8 (List.mem_of_getElem? (i := 9) rfl) rfl
theorem gk_1054 : Cond.methodLink R_Law 160 gy_Desk_clear ∈ gt_T := gt_m2 (List.mem_of_getElem? (i := 123) rfl) rfl
theorem gk_1055 : Cond.instanceMethod gy_Desk_clear ∈ gt_T := gt_m2 (List.mem_of_getElem? (i := 124) rfl) rfl
theorem gk_1056 : Cond.selects R_Desk gy_Desk_clear gy_Desk_clear ∈ gt_T := gt_m2 (List.mem_of_getElem? (i := 125) rfl) rfl
theorem gk_1057 : Cond.methodLink R_Law 163 gy_Model_clear ∈ gt_T := gt_m8 (List.mem_of_getElem? (i := 11) rfl) rfl
theorem gk_1058 : Cond.instanceMethod gy_Model_clear ∈ gt_T := gt_m8 (List.mem_of_getElem? (i := 12) rfl) rfl
theorem gk_1059 : Cond.selects R_Model gy_Model_clear gy_Model_clear ∈ gt_T := gt_m8 (List.mem_of_getElem? (i := 13) rfl) rfl
theorem gk_1060 : Cond.methodLink R_Law 164 gy_Desk_count ∈ gt_T := gt_m2 (List.mem_of_getElem? (i := 135) rfl) rfl
theorem gk_1061 : Cond.instanceMethod gy_Desk_count ∈ gt_T := gt_m2 (List.mem_of_getElem? (i := 136) rfl) rfl
theorem gk_1062 : Cond.selects R_Desk gy_Desk_count gy_Desk_count ∈ gt_T := gt_m2 (List.mem_of_getElem? (i := 137) rfl) rfl
theorem gk_1063 : Cond.methodLink R_Law 167 gy_Model_count ∈ gt_T := gt_m8 (List.mem_of_getElem? (i := 15) rfl) rfl
theorem gk_1064 : Cond.instanceMethod gy_Model_count ∈ gt_T := gt_m8 (List.mem_of_getElem? (i := 16) rfl) rfl
theorem gk_1065 : Cond.selects R_Model gy_Model_count gy_Model_count ∈ gt_T := gt_m8 (List.mem_of_getElem? (i := 17) rfl) rfl
theorem gd_Law_law_23 : decode code 23 = .ok (.iload 4, 2) := by decide +kernel
theorem gd_Law_law_25 : decode code 25 = .ok (.aload_n 0, 1) := by decide +kernel
theorem gd_Law_law_26 : decode code 26 = .ok (.arraylength, 1) := by decide +kernel
theorem gd_Law_law_27 : decode code 27 = .ok (.bipush 6, 2) := by decide +kernel
theorem gd_Law_law_29 : decode code 29 = .ok (.isub, 1) := by decide +kernel
theorem gd_Law_law_30 : decode code 30 = .ok (.if_icmp .gt 1526, 3) := by decide +kernel
theorem gd_Law_law_33 : decode code 33 = .ok (.aload_n 0, 1) := by decide +kernel
theorem gd_Law_law_34 : decode code 34 = .ok (.iload 4, 2) := by decide +kernel
theorem gd_Law_law_36 : decode code 36 = .ok (.iaload, 1) := by decide +kernel
theorem gd_Law_law_37 : decode code 37 = .ok (.bipush 31, 2) := by decide +kernel
theorem gd_Law_law_39 : decode code 39 = .ok (.iand, 1) := by decide +kernel
theorem gd_Law_law_40 : decode code 40 = .ok (.tableswitch 1510 0 21 #[104, 208, 271, 339, 394, 474, 530, 598, 666, 734, 814, 870, 938, 994, 1038, 1118, 1198, 1278, 1353, 1404, 1472, 1485], 104) := by decide +kernel
theorem gd_Law_law_144 : decode code 144 = .ok (.aload_n 1, 1) := by decide +kernel
theorem gd_Law_law_145 : decode code 145 = .ok (.aload_n 0, 1) := by decide +kernel
theorem gd_Law_law_146 : decode code 146 = .ok (.iload 4, 2) := by decide +kernel
theorem gd_Law_law_148 : decode code 148 = .ok (.iconst 1, 1) := by decide +kernel
theorem gd_Law_law_149 : decode code 149 = .ok (.iadd, 1) := by decide +kernel
theorem gd_Law_law_150 : decode code 150 = .ok (.iaload, 1) := by decide +kernel
theorem gd_Law_law_151 : decode code 151 = .ok (.aload_n 0, 1) := by decide +kernel
theorem gd_Law_law_152 : decode code 152 = .ok (.iload 4, 2) := by decide +kernel
theorem gd_Law_law_154 : decode code 154 = .ok (.iconst 2, 1) := by decide +kernel
theorem gd_Law_law_155 : decode code 155 = .ok (.iadd, 1) := by decide +kernel
theorem gd_Law_law_156 : decode code 156 = .ok (.iaload, 1) := by decide +kernel
theorem gd_Law_law_157 : decode code 157 = .ok (.aload_n 0, 1) := by decide +kernel
theorem gd_Law_law_158 : decode code 158 = .ok (.iload 4, 2) := by decide +kernel
theorem gd_Law_law_160 : decode code 160 = .ok (.iconst 3, 1) := by decide +kernel
theorem gd_Law_law_161 : decode code 161 = .ok (.iadd, 1) := by decide +kernel
theorem gd_Law_law_162 : decode code 162 = .ok (.iaload, 1) := by decide +kernel
theorem gd_Law_law_163 : decode code 163 = .ok (.aload_n 0, 1) := by decide +kernel
theorem gd_Law_law_164 : decode code 164 = .ok (.iload 4, 2) := by decide +kernel
theorem gd_Law_law_166 : decode code 166 = .ok (.iconst 4, 1) := by decide +kernel
theorem gd_Law_law_167 : decode code 167 = .ok (.iadd, 1) := by decide +kernel
theorem gd_Law_law_168 : decode code 168 = .ok (.iaload, 1) := by decide +kernel
theorem gd_Law_law_169 : decode code 169 = .ok (.aload_n 0, 1) := by decide +kernel
theorem gd_Law_law_170 : decode code 170 = .ok (.iload 4, 2) := by decide +kernel
theorem gd_Law_law_172 : decode code 172 = .ok (.iconst 5, 1) := by decide +kernel
theorem gd_Law_law_173 : decode code 173 = .ok (.iadd, 1) := by decide +kernel
theorem gd_Law_law_174 : decode code 174 = .ok (.iaload, 1) := by decide +kernel
theorem gd_Law_law_175 : decode code 175 = .ok (.aload_n 3, 1) := by decide +kernel
theorem gd_Law_law_176 : decode code 176 = .ok (.invokestatic 90, 3) := by decide +kernel
theorem gd_Law_law_179 : decode code 179 = .ok (.istore 5, 2) := by decide +kernel
theorem gd_Law_law_181 : decode code 181 = .ok (.aload_n 2, 1) := by decide +kernel
theorem gd_Law_law_182 : decode code 182 = .ok (.aload_n 0, 1) := by decide +kernel
theorem gd_Law_law_183 : decode code 183 = .ok (.iload 4, 2) := by decide +kernel
theorem gd_Law_law_185 : decode code 185 = .ok (.iconst 1, 1) := by decide +kernel
theorem gd_Law_law_186 : decode code 186 = .ok (.iadd, 1) := by decide +kernel
theorem gd_Law_law_187 : decode code 187 = .ok (.iaload, 1) := by decide +kernel
theorem gd_Law_law_188 : decode code 188 = .ok (.aload_n 0, 1) := by decide +kernel
theorem gd_Law_law_189 : decode code 189 = .ok (.iload 4, 2) := by decide +kernel
theorem gd_Law_law_191 : decode code 191 = .ok (.iconst 2, 1) := by decide +kernel
theorem gd_Law_law_192 : decode code 192 = .ok (.iadd, 1) := by decide +kernel
theorem gd_Law_law_193 : decode code 193 = .ok (.iaload, 1) := by decide +kernel
theorem gd_Law_law_194 : decode code 194 = .ok (.aload_n 0, 1) := by decide +kernel
theorem gd_Law_law_195 : decode code 195 = .ok (.iload 4, 2) := by decide +kernel
theorem gd_Law_law_197 : decode code 197 = .ok (.iconst 3, 1) := by decide +kernel
theorem gd_Law_law_198 : decode code 198 = .ok (.iadd, 1) := by decide +kernel
theorem gd_Law_law_199 : decode code 199 = .ok (.iaload, 1) := by decide +kernel
theorem gd_Law_law_200 : decode code 200 = .ok (.aload_n 0, 1) := by decide +kernel
theorem gd_Law_law_201 : decode code 201 = .ok (.iload 4, 2) := by decide +kernel
theorem gd_Law_law_203 : decode code 203 = .ok (.iconst 4, 1) := by decide +kernel
theorem gd_Law_law_204 : decode code 204 = .ok (.iadd, 1) := by decide +kernel
theorem gd_Law_law_205 : decode code 205 = .ok (.iaload, 1) := by decide +kernel
theorem gd_Law_law_206 : decode code 206 = .ok (.aload_n 0, 1) := by decide +kernel
theorem gd_Law_law_207 : decode code 207 = .ok (.iload 4, 2) := by decide +kernel
theorem gd_Law_law_209 : decode code 209 = .ok (.iconst 5, 1) := by decide +kernel
theorem gd_Law_law_210 : decode code 210 = .ok (.iadd, 1) := by decide +kernel
theorem gd_Law_law_211 : decode code 211 = .ok (.iaload, 1) := by decide +kernel
theorem gd_Law_law_212 : decode code 212 = .ok (.invokevirtual 95, 3) := by decide +kernel
theorem gd_Law_law_215 : decode code 215 = .ok (.istore 6, 2) := by decide +kernel
theorem gd_Law_law_217 : decode code 217 = .ok (.aload_n 2, 1) := by decide +kernel
theorem gd_Law_law_218 : decode code 218 = .ok (.invokevirtual 96, 3) := by decide +kernel
theorem gd_Law_law_221 : decode code 221 = .ok (.iload 5, 2) := by decide +kernel
theorem gd_Law_law_223 : decode code 223 = .ok (.if_icmp .eq 5, 3) := by decide +kernel
theorem gd_Law_law_226 : decode code 226 = .ok (.iconst 0, 1) := by decide +kernel
theorem gd_Law_law_228 : decode code 228 = .ok (.iload 5, 2) := by decide +kernel
theorem gd_Law_law_230 : decode code 230 = .ok (.ifCond .ne 15, 3) := by decide +kernel
theorem gd_Law_law_233 : decode code 233 = .ok (.aload_n 3, 1) := by decide +kernel
theorem gd_Law_law_234 : decode code 234 = .ok (.iconst 0, 1) := by decide +kernel
theorem gd_Law_law_235 : decode code 235 = .ok (.laload, 1) := by decide +kernel
theorem gd_Law_law_236 : decode code 236 = .ok (.iload 6, 2) := by decide +kernel
theorem gd_Law_law_238 : decode code 238 = .ok (.i2l, 1) := by decide +kernel
theorem gd_Law_law_239 : decode code 239 = .ok (.lcmp, 1) := by decide +kernel
theorem gd_Law_law_240 : decode code 240 = .ok (.ifCond .eq 5, 3) := by decide +kernel
theorem gd_Law_law_243 : decode code 243 = .ok (.iconst 0, 1) := by decide +kernel
theorem gd_Law_law_245 : decode code 245 = .ok (.goto 1305, 3) := by decide +kernel
theorem gd_Law_law_248 : decode code 248 = .ok (.aload_n 1, 1) := by decide +kernel
theorem gd_Law_law_249 : decode code 249 = .ok (.aload_n 0, 1) := by decide +kernel
theorem gd_Law_law_250 : decode code 250 = .ok (.iload 4, 2) := by decide +kernel
theorem gd_Law_law_252 : decode code 252 = .ok (.iconst 1, 1) := by decide +kernel
theorem gd_Law_law_253 : decode code 253 = .ok (.iadd, 1) := by decide +kernel
theorem gd_Law_law_254 : decode code 254 = .ok (.iaload, 1) := by decide +kernel
theorem gd_Law_law_255 : decode code 255 = .ok (.aload_n 3, 1) := by decide +kernel
theorem gd_Law_law_256 : decode code 256 = .ok (.invokestatic 99, 3) := by decide +kernel
theorem gd_Law_law_259 : decode code 259 = .ok (.istore 5, 2) := by decide +kernel
theorem gd_Law_law_261 : decode code 261 = .ok (.aload_n 2, 1) := by decide +kernel
theorem gd_Law_law_262 : decode code 262 = .ok (.aload_n 0, 1) := by decide +kernel
theorem gd_Law_law_263 : decode code 263 = .ok (.iload 4, 2) := by decide +kernel
theorem gd_Law_law_265 : decode code 265 = .ok (.iconst 1, 1) := by decide +kernel
theorem gd_Law_law_266 : decode code 266 = .ok (.iadd, 1) := by decide +kernel
theorem gd_Law_law_267 : decode code 267 = .ok (.iaload, 1) := by decide +kernel
theorem gd_Law_law_268 : decode code 268 = .ok (.invokevirtual 102, 3) := by decide +kernel
theorem gd_Law_law_271 : decode code 271 = .ok (.istore 6, 2) := by decide +kernel
theorem gd_Law_law_273 : decode code 273 = .ok (.aload_n 2, 1) := by decide +kernel
theorem gd_Law_law_274 : decode code 274 = .ok (.invokevirtual 96, 3) := by decide +kernel
theorem gd_Law_law_277 : decode code 277 = .ok (.iload 5, 2) := by decide +kernel
theorem gd_Law_law_279 : decode code 279 = .ok (.if_icmp .eq 5, 3) := by decide +kernel
theorem gd_Law_law_282 : decode code 282 = .ok (.iconst 0, 1) := by decide +kernel
theorem gd_Law_law_284 : decode code 284 = .ok (.iload 5, 2) := by decide +kernel
theorem gd_Law_law_286 : decode code 286 = .ok (.ifCond .ne 22, 3) := by decide +kernel
theorem gd_Law_law_289 : decode code 289 = .ok (.aload_n 3, 1) := by decide +kernel
theorem gd_Law_law_290 : decode code 290 = .ok (.iconst 0, 1) := by decide +kernel
theorem gd_Law_law_291 : decode code 291 = .ok (.laload, 1) := by decide +kernel
theorem gd_Law_law_292 : decode code 292 = .ok (.iload 6, 2) := by decide +kernel
theorem gd_Law_law_294 : decode code 294 = .ok (.ifCond .eq 7, 3) := by decide +kernel
theorem gd_Law_law_297 : decode code 297 = .ok (.lconst 1, 1) := by decide +kernel
theorem gd_Law_law_298 : decode code 298 = .ok (.goto 4, 3) := by decide +kernel
theorem gd_Law_law_301 : decode code 301 = .ok (.lconst 0, 1) := by decide +kernel
theorem gd_Law_law_302 : decode code 302 = .ok (.lcmp, 1) := by decide +kernel
theorem gd_Law_law_303 : decode code 303 = .ok (.ifCond .eq 5, 3) := by decide +kernel
theorem gd_Law_law_306 : decode code 306 = .ok (.iconst 0, 1) := by decide +kernel
theorem gd_Law_law_308 : decode code 308 = .ok (.goto 1242, 3) := by decide +kernel
theorem gd_Law_law_311 : decode code 311 = .ok (.aload_n 1, 1) := by decide +kernel
theorem gd_Law_law_312 : decode code 312 = .ok (.aload_n 0, 1) := by decide +kernel
theorem gd_Law_law_313 : decode code 313 = .ok (.iload 4, 2) := by decide +kernel
theorem gd_Law_law_315 : decode code 315 = .ok (.iconst 1, 1) := by decide +kernel
theorem gd_Law_law_316 : decode code 316 = .ok (.iadd, 1) := by decide +kernel
theorem gd_Law_law_317 : decode code 317 = .ok (.iaload, 1) := by decide +kernel
theorem gd_Law_law_318 : decode code 318 = .ok (.aload_n 0, 1) := by decide +kernel
theorem gd_Law_law_319 : decode code 319 = .ok (.iload 4, 2) := by decide +kernel
theorem gd_Law_law_321 : decode code 321 = .ok (.iconst 2, 1) := by decide +kernel
theorem gd_Law_law_322 : decode code 322 = .ok (.iadd, 1) := by decide +kernel
theorem gd_Law_law_323 : decode code 323 = .ok (.iaload, 1) := by decide +kernel
theorem gd_Law_law_324 : decode code 324 = .ok (.aload_n 3, 1) := by decide +kernel
theorem gd_Law_law_325 : decode code 325 = .ok (.invokestatic 103, 3) := by decide +kernel
theorem gd_Law_law_328 : decode code 328 = .ok (.istore 5, 2) := by decide +kernel
theorem gd_Law_law_330 : decode code 330 = .ok (.aload_n 2, 1) := by decide +kernel
theorem gd_Law_law_331 : decode code 331 = .ok (.aload_n 0, 1) := by decide +kernel
theorem gd_Law_law_332 : decode code 332 = .ok (.iload 4, 2) := by decide +kernel
theorem gd_Law_law_334 : decode code 334 = .ok (.iconst 1, 1) := by decide +kernel
theorem gd_Law_law_335 : decode code 335 = .ok (.iadd, 1) := by decide +kernel
theorem gd_Law_law_336 : decode code 336 = .ok (.iaload, 1) := by decide +kernel
theorem gd_Law_law_337 : decode code 337 = .ok (.aload_n 0, 1) := by decide +kernel
theorem gd_Law_law_338 : decode code 338 = .ok (.iload 4, 2) := by decide +kernel
theorem gd_Law_law_340 : decode code 340 = .ok (.iconst 2, 1) := by decide +kernel
theorem gd_Law_law_341 : decode code 341 = .ok (.iadd, 1) := by decide +kernel
theorem gd_Law_law_342 : decode code 342 = .ok (.iaload, 1) := by decide +kernel
theorem gd_Law_law_343 : decode code 343 = .ok (.invokevirtual 106, 3) := by decide +kernel
theorem gd_Law_law_346 : decode code 346 = .ok (.istore 6, 2) := by decide +kernel
theorem gd_Law_law_348 : decode code 348 = .ok (.aload_n 2, 1) := by decide +kernel
theorem gd_Law_law_349 : decode code 349 = .ok (.invokevirtual 96, 3) := by decide +kernel
theorem gd_Law_law_352 : decode code 352 = .ok (.iload 5, 2) := by decide +kernel
theorem gd_Law_law_354 : decode code 354 = .ok (.if_icmp .eq 5, 3) := by decide +kernel
theorem gd_Law_law_357 : decode code 357 = .ok (.iconst 0, 1) := by decide +kernel
theorem gd_Law_law_359 : decode code 359 = .ok (.iload 5, 2) := by decide +kernel
theorem gd_Law_law_361 : decode code 361 = .ok (.ifCond .ne 15, 3) := by decide +kernel
theorem gd_Law_law_364 : decode code 364 = .ok (.aload_n 3, 1) := by decide +kernel
theorem gd_Law_law_365 : decode code 365 = .ok (.iconst 0, 1) := by decide +kernel
theorem gd_Law_law_366 : decode code 366 = .ok (.laload, 1) := by decide +kernel
theorem gd_Law_law_367 : decode code 367 = .ok (.iload 6, 2) := by decide +kernel
theorem gd_Law_law_369 : decode code 369 = .ok (.i2l, 1) := by decide +kernel
theorem gd_Law_law_370 : decode code 370 = .ok (.lcmp, 1) := by decide +kernel
theorem gd_Law_law_371 : decode code 371 = .ok (.ifCond .eq 5, 3) := by decide +kernel
theorem gd_Law_law_374 : decode code 374 = .ok (.iconst 0, 1) := by decide +kernel
theorem gd_Law_law_376 : decode code 376 = .ok (.goto 1174, 3) := by decide +kernel
theorem gd_Law_law_379 : decode code 379 = .ok (.aload_n 1, 1) := by decide +kernel
theorem gd_Law_law_380 : decode code 380 = .ok (.aload_n 0, 1) := by decide +kernel
theorem gd_Law_law_381 : decode code 381 = .ok (.iload 4, 2) := by decide +kernel
theorem gd_Law_law_383 : decode code 383 = .ok (.iconst 1, 1) := by decide +kernel
theorem gd_Law_law_384 : decode code 384 = .ok (.iadd, 1) := by decide +kernel
theorem gd_Law_law_385 : decode code 385 = .ok (.iaload, 1) := by decide +kernel
theorem gd_Law_law_386 : decode code 386 = .ok (.aload_n 3, 1) := by decide +kernel
theorem gd_Law_law_387 : decode code 387 = .ok (.invokestatic 107, 3) := by decide +kernel
theorem gd_Law_law_390 : decode code 390 = .ok (.istore 5, 2) := by decide +kernel
theorem gd_Law_law_392 : decode code 392 = .ok (.aload_n 2, 1) := by decide +kernel
theorem gd_Law_law_393 : decode code 393 = .ok (.aload_n 0, 1) := by decide +kernel
theorem gd_Law_law_394 : decode code 394 = .ok (.iload 4, 2) := by decide +kernel
theorem gd_Law_law_396 : decode code 396 = .ok (.iconst 1, 1) := by decide +kernel
theorem gd_Law_law_397 : decode code 397 = .ok (.iadd, 1) := by decide +kernel
theorem gd_Law_law_398 : decode code 398 = .ok (.iaload, 1) := by decide +kernel
theorem gd_Law_law_399 : decode code 399 = .ok (.invokevirtual 109, 3) := by decide +kernel
theorem gd_Law_law_402 : decode code 402 = .ok (.lstore 6, 2) := by decide +kernel
theorem gd_Law_law_404 : decode code 404 = .ok (.aload_n 2, 1) := by decide +kernel
theorem gd_Law_law_405 : decode code 405 = .ok (.invokevirtual 96, 3) := by decide +kernel
theorem gd_Law_law_408 : decode code 408 = .ok (.iload 5, 2) := by decide +kernel
theorem gd_Law_law_410 : decode code 410 = .ok (.if_icmp .eq 5, 3) := by decide +kernel
theorem gd_Law_law_413 : decode code 413 = .ok (.iconst 0, 1) := by decide +kernel
theorem gd_Law_law_415 : decode code 415 = .ok (.iload 5, 2) := by decide +kernel
theorem gd_Law_law_417 : decode code 417 = .ok (.ifCond .ne 14, 3) := by decide +kernel
theorem gd_Law_law_420 : decode code 420 = .ok (.aload_n 3, 1) := by decide +kernel
theorem gd_Law_law_421 : decode code 421 = .ok (.iconst 0, 1) := by decide +kernel
theorem gd_Law_law_422 : decode code 422 = .ok (.laload, 1) := by decide +kernel
theorem gd_Law_law_423 : decode code 423 = .ok (.lload 6, 2) := by decide +kernel
theorem gd_Law_law_425 : decode code 425 = .ok (.lcmp, 1) := by decide +kernel
theorem gd_Law_law_426 : decode code 426 = .ok (.ifCond .eq 5, 3) := by decide +kernel
theorem gd_Law_law_429 : decode code 429 = .ok (.iconst 0, 1) := by decide +kernel
theorem gd_Law_law_431 : decode code 431 = .ok (.goto 1119, 3) := by decide +kernel
theorem gd_Law_law_434 : decode code 434 = .ok (.aload_n 1, 1) := by decide +kernel
theorem gd_Law_law_435 : decode code 435 = .ok (.aload_n 0, 1) := by decide +kernel
theorem gd_Law_law_436 : decode code 436 = .ok (.iload 4, 2) := by decide +kernel
theorem gd_Law_law_438 : decode code 438 = .ok (.iconst 1, 1) := by decide +kernel
theorem gd_Law_law_439 : decode code 439 = .ok (.iadd, 1) := by decide +kernel
theorem gd_Law_law_440 : decode code 440 = .ok (.iaload, 1) := by decide +kernel
theorem gd_Law_law_441 : decode code 441 = .ok (.aload_n 0, 1) := by decide +kernel
theorem gd_Law_law_442 : decode code 442 = .ok (.iload 4, 2) := by decide +kernel
theorem gd_Law_law_444 : decode code 444 = .ok (.iconst 2, 1) := by decide +kernel
theorem gd_Law_law_445 : decode code 445 = .ok (.iadd, 1) := by decide +kernel
theorem gd_Law_law_446 : decode code 446 = .ok (.iaload, 1) := by decide +kernel
theorem gd_Law_law_447 : decode code 447 = .ok (.aload_n 0, 1) := by decide +kernel
theorem gd_Law_law_448 : decode code 448 = .ok (.iload 4, 2) := by decide +kernel
theorem gd_Law_law_450 : decode code 450 = .ok (.iconst 3, 1) := by decide +kernel
theorem gd_Law_law_451 : decode code 451 = .ok (.iadd, 1) := by decide +kernel
theorem gd_Law_law_452 : decode code 452 = .ok (.iaload, 1) := by decide +kernel
theorem gd_Law_law_453 : decode code 453 = .ok (.aload_n 3, 1) := by decide +kernel
theorem gd_Law_law_454 : decode code 454 = .ok (.invokestatic 110, 3) := by decide +kernel
theorem gd_Law_law_457 : decode code 457 = .ok (.istore 5, 2) := by decide +kernel
theorem gd_Law_law_459 : decode code 459 = .ok (.aload_n 2, 1) := by decide +kernel
theorem gd_Law_law_460 : decode code 460 = .ok (.aload_n 0, 1) := by decide +kernel
theorem gd_Law_law_461 : decode code 461 = .ok (.iload 4, 2) := by decide +kernel
theorem gd_Law_law_463 : decode code 463 = .ok (.iconst 1, 1) := by decide +kernel
theorem gd_Law_law_464 : decode code 464 = .ok (.iadd, 1) := by decide +kernel
theorem gd_Law_law_465 : decode code 465 = .ok (.iaload, 1) := by decide +kernel
theorem gd_Law_law_466 : decode code 466 = .ok (.aload_n 0, 1) := by decide +kernel
theorem gd_Law_law_467 : decode code 467 = .ok (.iload 4, 2) := by decide +kernel
theorem gd_Law_law_469 : decode code 469 = .ok (.iconst 2, 1) := by decide +kernel
theorem gd_Law_law_470 : decode code 470 = .ok (.iadd, 1) := by decide +kernel
theorem gd_Law_law_471 : decode code 471 = .ok (.iaload, 1) := by decide +kernel
theorem gd_Law_law_472 : decode code 472 = .ok (.aload_n 0, 1) := by decide +kernel
theorem gd_Law_law_473 : decode code 473 = .ok (.iload 4, 2) := by decide +kernel
theorem gd_Law_law_475 : decode code 475 = .ok (.iconst 3, 1) := by decide +kernel
theorem gd_Law_law_476 : decode code 476 = .ok (.iadd, 1) := by decide +kernel
theorem gd_Law_law_477 : decode code 477 = .ok (.iaload, 1) := by decide +kernel
theorem gd_Law_law_478 : decode code 478 = .ok (.invokevirtual 113, 3) := by decide +kernel
theorem gd_Law_law_481 : decode code 481 = .ok (.istore 6, 2) := by decide +kernel
theorem gd_Law_law_483 : decode code 483 = .ok (.aload_n 2, 1) := by decide +kernel
theorem gd_Law_law_484 : decode code 484 = .ok (.invokevirtual 96, 3) := by decide +kernel
theorem gd_Law_law_487 : decode code 487 = .ok (.iload 5, 2) := by decide +kernel
theorem gd_Law_law_489 : decode code 489 = .ok (.if_icmp .eq 5, 3) := by decide +kernel
theorem gd_Law_law_492 : decode code 492 = .ok (.iconst 0, 1) := by decide +kernel
theorem gd_Law_law_494 : decode code 494 = .ok (.iload 5, 2) := by decide +kernel
theorem gd_Law_law_496 : decode code 496 = .ok (.ifCond .ne 15, 3) := by decide +kernel
theorem gd_Law_law_499 : decode code 499 = .ok (.aload_n 3, 1) := by decide +kernel
theorem gd_Law_law_500 : decode code 500 = .ok (.iconst 0, 1) := by decide +kernel
theorem gd_Law_law_501 : decode code 501 = .ok (.laload, 1) := by decide +kernel
theorem gd_Law_law_502 : decode code 502 = .ok (.iload 6, 2) := by decide +kernel
theorem gd_Law_law_504 : decode code 504 = .ok (.i2l, 1) := by decide +kernel
theorem gd_Law_law_505 : decode code 505 = .ok (.lcmp, 1) := by decide +kernel
theorem gd_Law_law_506 : decode code 506 = .ok (.ifCond .eq 5, 3) := by decide +kernel
theorem gd_Law_law_509 : decode code 509 = .ok (.iconst 0, 1) := by decide +kernel
theorem gd_Law_law_511 : decode code 511 = .ok (.goto 1039, 3) := by decide +kernel
theorem gd_Law_law_514 : decode code 514 = .ok (.aload_n 1, 1) := by decide +kernel
theorem gd_Law_law_515 : decode code 515 = .ok (.aload_n 0, 1) := by decide +kernel
theorem gd_Law_law_516 : decode code 516 = .ok (.iload 4, 2) := by decide +kernel
theorem gd_Law_law_518 : decode code 518 = .ok (.iconst 1, 1) := by decide +kernel
theorem gd_Law_law_519 : decode code 519 = .ok (.iadd, 1) := by decide +kernel
theorem gd_Law_law_520 : decode code 520 = .ok (.iaload, 1) := by decide +kernel
theorem gd_Law_law_521 : decode code 521 = .ok (.aload_n 3, 1) := by decide +kernel
theorem gd_Law_law_522 : decode code 522 = .ok (.invokestatic 114, 3) := by decide +kernel
theorem gd_Law_law_525 : decode code 525 = .ok (.istore 5, 2) := by decide +kernel
theorem gd_Law_law_527 : decode code 527 = .ok (.aload_n 2, 1) := by decide +kernel
theorem gd_Law_law_528 : decode code 528 = .ok (.aload_n 0, 1) := by decide +kernel
theorem gd_Law_law_529 : decode code 529 = .ok (.iload 4, 2) := by decide +kernel
theorem gd_Law_law_531 : decode code 531 = .ok (.iconst 1, 1) := by decide +kernel
theorem gd_Law_law_532 : decode code 532 = .ok (.iadd, 1) := by decide +kernel
theorem gd_Law_law_533 : decode code 533 = .ok (.iaload, 1) := by decide +kernel
theorem gd_Law_law_534 : decode code 534 = .ok (.invokevirtual 116, 3) := by decide +kernel
theorem gd_Law_law_537 : decode code 537 = .ok (.istore 6, 2) := by decide +kernel
theorem gd_Law_law_539 : decode code 539 = .ok (.aload_n 2, 1) := by decide +kernel
theorem gd_Law_law_540 : decode code 540 = .ok (.invokevirtual 96, 3) := by decide +kernel
theorem gd_Law_law_543 : decode code 543 = .ok (.iload 5, 2) := by decide +kernel
theorem gd_Law_law_545 : decode code 545 = .ok (.if_icmp .eq 5, 3) := by decide +kernel
theorem gd_Law_law_548 : decode code 548 = .ok (.iconst 0, 1) := by decide +kernel
theorem gd_Law_law_550 : decode code 550 = .ok (.iload 5, 2) := by decide +kernel
theorem gd_Law_law_552 : decode code 552 = .ok (.ifCond .ne 15, 3) := by decide +kernel
theorem gd_Law_law_555 : decode code 555 = .ok (.aload_n 3, 1) := by decide +kernel
theorem gd_Law_law_556 : decode code 556 = .ok (.iconst 0, 1) := by decide +kernel
theorem gd_Law_law_557 : decode code 557 = .ok (.laload, 1) := by decide +kernel
theorem gd_Law_law_558 : decode code 558 = .ok (.iload 6, 2) := by decide +kernel
theorem gd_Law_law_560 : decode code 560 = .ok (.i2l, 1) := by decide +kernel
theorem gd_Law_law_561 : decode code 561 = .ok (.lcmp, 1) := by decide +kernel
theorem gd_Law_law_562 : decode code 562 = .ok (.ifCond .eq 5, 3) := by decide +kernel
theorem gd_Law_law_565 : decode code 565 = .ok (.iconst 0, 1) := by decide +kernel
theorem gd_Law_law_567 : decode code 567 = .ok (.goto 983, 3) := by decide +kernel
theorem gd_Law_law_570 : decode code 570 = .ok (.aload_n 1, 1) := by decide +kernel
theorem gd_Law_law_571 : decode code 571 = .ok (.aload_n 0, 1) := by decide +kernel
theorem gd_Law_law_572 : decode code 572 = .ok (.iload 4, 2) := by decide +kernel
theorem gd_Law_law_574 : decode code 574 = .ok (.iconst 1, 1) := by decide +kernel
theorem gd_Law_law_575 : decode code 575 = .ok (.iadd, 1) := by decide +kernel
theorem gd_Law_law_576 : decode code 576 = .ok (.iaload, 1) := by decide +kernel
theorem gd_Law_law_577 : decode code 577 = .ok (.aload_n 0, 1) := by decide +kernel
theorem gd_Law_law_578 : decode code 578 = .ok (.iload 4, 2) := by decide +kernel
theorem gd_Law_law_580 : decode code 580 = .ok (.iconst 2, 1) := by decide +kernel
theorem gd_Law_law_581 : decode code 581 = .ok (.iadd, 1) := by decide +kernel
theorem gd_Law_law_582 : decode code 582 = .ok (.iaload, 1) := by decide +kernel
theorem gd_Law_law_583 : decode code 583 = .ok (.aload_n 3, 1) := by decide +kernel
theorem gd_Law_law_584 : decode code 584 = .ok (.invokestatic 117, 3) := by decide +kernel
theorem gd_Law_law_587 : decode code 587 = .ok (.istore 5, 2) := by decide +kernel
theorem gd_Law_law_589 : decode code 589 = .ok (.aload_n 2, 1) := by decide +kernel
theorem gd_Law_law_590 : decode code 590 = .ok (.aload_n 0, 1) := by decide +kernel
theorem gd_Law_law_591 : decode code 591 = .ok (.iload 4, 2) := by decide +kernel
theorem gd_Law_law_593 : decode code 593 = .ok (.iconst 1, 1) := by decide +kernel
theorem gd_Law_law_594 : decode code 594 = .ok (.iadd, 1) := by decide +kernel
theorem gd_Law_law_595 : decode code 595 = .ok (.iaload, 1) := by decide +kernel
theorem gd_Law_law_596 : decode code 596 = .ok (.aload_n 0, 1) := by decide +kernel
theorem gd_Law_law_597 : decode code 597 = .ok (.iload 4, 2) := by decide +kernel
theorem gd_Law_law_599 : decode code 599 = .ok (.iconst 2, 1) := by decide +kernel
theorem gd_Law_law_600 : decode code 600 = .ok (.iadd, 1) := by decide +kernel
theorem gd_Law_law_601 : decode code 601 = .ok (.iaload, 1) := by decide +kernel
theorem gd_Law_law_602 : decode code 602 = .ok (.invokevirtual 119, 3) := by decide +kernel
theorem gd_Law_law_605 : decode code 605 = .ok (.istore 6, 2) := by decide +kernel
theorem gd_Law_law_607 : decode code 607 = .ok (.aload_n 2, 1) := by decide +kernel
theorem gd_Law_law_608 : decode code 608 = .ok (.invokevirtual 96, 3) := by decide +kernel
theorem gd_Law_law_611 : decode code 611 = .ok (.iload 5, 2) := by decide +kernel
theorem gd_Law_law_613 : decode code 613 = .ok (.if_icmp .eq 5, 3) := by decide +kernel
theorem gd_Law_law_616 : decode code 616 = .ok (.iconst 0, 1) := by decide +kernel
theorem gd_Law_law_618 : decode code 618 = .ok (.iload 5, 2) := by decide +kernel
theorem gd_Law_law_620 : decode code 620 = .ok (.ifCond .ne 15, 3) := by decide +kernel
theorem gd_Law_law_623 : decode code 623 = .ok (.aload_n 3, 1) := by decide +kernel
theorem gd_Law_law_624 : decode code 624 = .ok (.iconst 0, 1) := by decide +kernel
theorem gd_Law_law_625 : decode code 625 = .ok (.laload, 1) := by decide +kernel
theorem gd_Law_law_626 : decode code 626 = .ok (.iload 6, 2) := by decide +kernel
theorem gd_Law_law_628 : decode code 628 = .ok (.i2l, 1) := by decide +kernel
theorem gd_Law_law_629 : decode code 629 = .ok (.lcmp, 1) := by decide +kernel
theorem gd_Law_law_630 : decode code 630 = .ok (.ifCond .eq 5, 3) := by decide +kernel
theorem gd_Law_law_633 : decode code 633 = .ok (.iconst 0, 1) := by decide +kernel
theorem gd_Law_law_635 : decode code 635 = .ok (.goto 915, 3) := by decide +kernel
theorem gd_Law_law_638 : decode code 638 = .ok (.aload_n 1, 1) := by decide +kernel
theorem gd_Law_law_639 : decode code 639 = .ok (.aload_n 0, 1) := by decide +kernel
theorem gd_Law_law_640 : decode code 640 = .ok (.iload 4, 2) := by decide +kernel
theorem gd_Law_law_642 : decode code 642 = .ok (.iconst 1, 1) := by decide +kernel
theorem gd_Law_law_643 : decode code 643 = .ok (.iadd, 1) := by decide +kernel
theorem gd_Law_law_644 : decode code 644 = .ok (.iaload, 1) := by decide +kernel
theorem gd_Law_law_645 : decode code 645 = .ok (.aload_n 0, 1) := by decide +kernel
theorem gd_Law_law_646 : decode code 646 = .ok (.iload 4, 2) := by decide +kernel
theorem gd_Law_law_648 : decode code 648 = .ok (.iconst 2, 1) := by decide +kernel
theorem gd_Law_law_649 : decode code 649 = .ok (.iadd, 1) := by decide +kernel
theorem gd_Law_law_650 : decode code 650 = .ok (.iaload, 1) := by decide +kernel
theorem gd_Law_law_651 : decode code 651 = .ok (.aload_n 3, 1) := by decide +kernel
theorem gd_Law_law_652 : decode code 652 = .ok (.invokestatic 120, 3) := by decide +kernel
theorem gd_Law_law_655 : decode code 655 = .ok (.istore 5, 2) := by decide +kernel
theorem gd_Law_law_657 : decode code 657 = .ok (.aload_n 2, 1) := by decide +kernel
theorem gd_Law_law_658 : decode code 658 = .ok (.aload_n 0, 1) := by decide +kernel
theorem gd_Law_law_659 : decode code 659 = .ok (.iload 4, 2) := by decide +kernel
theorem gd_Law_law_661 : decode code 661 = .ok (.iconst 1, 1) := by decide +kernel
theorem gd_Law_law_662 : decode code 662 = .ok (.iadd, 1) := by decide +kernel
theorem gd_Law_law_663 : decode code 663 = .ok (.iaload, 1) := by decide +kernel
theorem gd_Law_law_664 : decode code 664 = .ok (.aload_n 0, 1) := by decide +kernel
theorem gd_Law_law_665 : decode code 665 = .ok (.iload 4, 2) := by decide +kernel
theorem gd_Law_law_667 : decode code 667 = .ok (.iconst 2, 1) := by decide +kernel
theorem gd_Law_law_668 : decode code 668 = .ok (.iadd, 1) := by decide +kernel
theorem gd_Law_law_669 : decode code 669 = .ok (.iaload, 1) := by decide +kernel
theorem gd_Law_law_670 : decode code 670 = .ok (.invokevirtual 122, 3) := by decide +kernel
theorem gd_Law_law_673 : decode code 673 = .ok (.istore 6, 2) := by decide +kernel
theorem gd_Law_law_675 : decode code 675 = .ok (.aload_n 2, 1) := by decide +kernel
theorem gd_Law_law_676 : decode code 676 = .ok (.invokevirtual 96, 3) := by decide +kernel
theorem gd_Law_law_679 : decode code 679 = .ok (.iload 5, 2) := by decide +kernel
theorem gd_Law_law_681 : decode code 681 = .ok (.if_icmp .eq 5, 3) := by decide +kernel
theorem gd_Law_law_684 : decode code 684 = .ok (.iconst 0, 1) := by decide +kernel
theorem gd_Law_law_686 : decode code 686 = .ok (.iload 5, 2) := by decide +kernel
theorem gd_Law_law_688 : decode code 688 = .ok (.ifCond .ne 15, 3) := by decide +kernel
theorem gd_Law_law_691 : decode code 691 = .ok (.aload_n 3, 1) := by decide +kernel
theorem gd_Law_law_692 : decode code 692 = .ok (.iconst 0, 1) := by decide +kernel
theorem gd_Law_law_693 : decode code 693 = .ok (.laload, 1) := by decide +kernel
theorem gd_Law_law_694 : decode code 694 = .ok (.iload 6, 2) := by decide +kernel
theorem gd_Law_law_696 : decode code 696 = .ok (.i2l, 1) := by decide +kernel
theorem gd_Law_law_697 : decode code 697 = .ok (.lcmp, 1) := by decide +kernel
theorem gd_Law_law_698 : decode code 698 = .ok (.ifCond .eq 5, 3) := by decide +kernel
theorem gd_Law_law_701 : decode code 701 = .ok (.iconst 0, 1) := by decide +kernel
theorem gd_Law_law_703 : decode code 703 = .ok (.goto 847, 3) := by decide +kernel
theorem gd_Law_law_706 : decode code 706 = .ok (.aload_n 1, 1) := by decide +kernel
theorem gd_Law_law_707 : decode code 707 = .ok (.aload_n 0, 1) := by decide +kernel
theorem gd_Law_law_708 : decode code 708 = .ok (.iload 4, 2) := by decide +kernel
theorem gd_Law_law_710 : decode code 710 = .ok (.iconst 1, 1) := by decide +kernel
theorem gd_Law_law_711 : decode code 711 = .ok (.iadd, 1) := by decide +kernel
theorem gd_Law_law_712 : decode code 712 = .ok (.iaload, 1) := by decide +kernel
theorem gd_Law_law_713 : decode code 713 = .ok (.aload_n 0, 1) := by decide +kernel
theorem gd_Law_law_714 : decode code 714 = .ok (.iload 4, 2) := by decide +kernel
theorem gd_Law_law_716 : decode code 716 = .ok (.iconst 2, 1) := by decide +kernel
theorem gd_Law_law_717 : decode code 717 = .ok (.iadd, 1) := by decide +kernel
theorem gd_Law_law_718 : decode code 718 = .ok (.iaload, 1) := by decide +kernel
theorem gd_Law_law_719 : decode code 719 = .ok (.aload_n 3, 1) := by decide +kernel
theorem gd_Law_law_720 : decode code 720 = .ok (.invokestatic 123, 3) := by decide +kernel
theorem gd_Law_law_723 : decode code 723 = .ok (.istore 5, 2) := by decide +kernel
theorem gd_Law_law_725 : decode code 725 = .ok (.aload_n 2, 1) := by decide +kernel
theorem gd_Law_law_726 : decode code 726 = .ok (.aload_n 0, 1) := by decide +kernel
theorem gd_Law_law_727 : decode code 727 = .ok (.iload 4, 2) := by decide +kernel
theorem gd_Law_law_729 : decode code 729 = .ok (.iconst 1, 1) := by decide +kernel
theorem gd_Law_law_730 : decode code 730 = .ok (.iadd, 1) := by decide +kernel
theorem gd_Law_law_731 : decode code 731 = .ok (.iaload, 1) := by decide +kernel
theorem gd_Law_law_732 : decode code 732 = .ok (.aload_n 0, 1) := by decide +kernel
theorem gd_Law_law_733 : decode code 733 = .ok (.iload 4, 2) := by decide +kernel
theorem gd_Law_law_735 : decode code 735 = .ok (.iconst 2, 1) := by decide +kernel
theorem gd_Law_law_736 : decode code 736 = .ok (.iadd, 1) := by decide +kernel
theorem gd_Law_law_737 : decode code 737 = .ok (.iaload, 1) := by decide +kernel
theorem gd_Law_law_738 : decode code 738 = .ok (.invokevirtual 125, 3) := by decide +kernel
theorem gd_Law_law_741 : decode code 741 = .ok (.istore 6, 2) := by decide +kernel
theorem gd_Law_law_743 : decode code 743 = .ok (.aload_n 2, 1) := by decide +kernel
theorem gd_Law_law_744 : decode code 744 = .ok (.invokevirtual 96, 3) := by decide +kernel
theorem gd_Law_law_747 : decode code 747 = .ok (.iload 5, 2) := by decide +kernel
theorem gd_Law_law_749 : decode code 749 = .ok (.if_icmp .eq 5, 3) := by decide +kernel
theorem gd_Law_law_752 : decode code 752 = .ok (.iconst 0, 1) := by decide +kernel
theorem gd_Law_law_754 : decode code 754 = .ok (.iload 5, 2) := by decide +kernel
theorem gd_Law_law_756 : decode code 756 = .ok (.ifCond .ne 15, 3) := by decide +kernel
theorem gd_Law_law_759 : decode code 759 = .ok (.aload_n 3, 1) := by decide +kernel
theorem gd_Law_law_760 : decode code 760 = .ok (.iconst 0, 1) := by decide +kernel
theorem gd_Law_law_761 : decode code 761 = .ok (.laload, 1) := by decide +kernel
theorem gd_Law_law_762 : decode code 762 = .ok (.iload 6, 2) := by decide +kernel
theorem gd_Law_law_764 : decode code 764 = .ok (.i2l, 1) := by decide +kernel
theorem gd_Law_law_765 : decode code 765 = .ok (.lcmp, 1) := by decide +kernel
theorem gd_Law_law_766 : decode code 766 = .ok (.ifCond .eq 5, 3) := by decide +kernel
theorem gd_Law_law_769 : decode code 769 = .ok (.iconst 0, 1) := by decide +kernel
theorem gd_Law_law_771 : decode code 771 = .ok (.goto 779, 3) := by decide +kernel
theorem gd_Law_law_774 : decode code 774 = .ok (.aload_n 1, 1) := by decide +kernel
theorem gd_Law_law_775 : decode code 775 = .ok (.aload_n 0, 1) := by decide +kernel
theorem gd_Law_law_776 : decode code 776 = .ok (.iload 4, 2) := by decide +kernel
theorem gd_Law_law_778 : decode code 778 = .ok (.iconst 1, 1) := by decide +kernel
theorem gd_Law_law_779 : decode code 779 = .ok (.iadd, 1) := by decide +kernel
theorem gd_Law_law_780 : decode code 780 = .ok (.iaload, 1) := by decide +kernel
theorem gd_Law_law_781 : decode code 781 = .ok (.aload_n 0, 1) := by decide +kernel
theorem gd_Law_law_782 : decode code 782 = .ok (.iload 4, 2) := by decide +kernel
theorem gd_Law_law_784 : decode code 784 = .ok (.iconst 2, 1) := by decide +kernel
theorem gd_Law_law_785 : decode code 785 = .ok (.iadd, 1) := by decide +kernel
theorem gd_Law_law_786 : decode code 786 = .ok (.iaload, 1) := by decide +kernel
theorem gd_Law_law_787 : decode code 787 = .ok (.aload_n 0, 1) := by decide +kernel
theorem gd_Law_law_788 : decode code 788 = .ok (.iload 4, 2) := by decide +kernel
theorem gd_Law_law_790 : decode code 790 = .ok (.iconst 3, 1) := by decide +kernel
theorem gd_Law_law_791 : decode code 791 = .ok (.iadd, 1) := by decide +kernel
theorem gd_Law_law_792 : decode code 792 = .ok (.iaload, 1) := by decide +kernel
theorem gd_Law_law_793 : decode code 793 = .ok (.aload_n 3, 1) := by decide +kernel
theorem gd_Law_law_794 : decode code 794 = .ok (.invokestatic 126, 3) := by decide +kernel
theorem gd_Law_law_797 : decode code 797 = .ok (.istore 5, 2) := by decide +kernel
theorem gd_Law_law_799 : decode code 799 = .ok (.aload_n 2, 1) := by decide +kernel
theorem gd_Law_law_800 : decode code 800 = .ok (.aload_n 0, 1) := by decide +kernel
theorem gd_Law_law_801 : decode code 801 = .ok (.iload 4, 2) := by decide +kernel
theorem gd_Law_law_803 : decode code 803 = .ok (.iconst 1, 1) := by decide +kernel
theorem gd_Law_law_804 : decode code 804 = .ok (.iadd, 1) := by decide +kernel
theorem gd_Law_law_805 : decode code 805 = .ok (.iaload, 1) := by decide +kernel
theorem gd_Law_law_806 : decode code 806 = .ok (.aload_n 0, 1) := by decide +kernel
theorem gd_Law_law_807 : decode code 807 = .ok (.iload 4, 2) := by decide +kernel
theorem gd_Law_law_809 : decode code 809 = .ok (.iconst 2, 1) := by decide +kernel
theorem gd_Law_law_810 : decode code 810 = .ok (.iadd, 1) := by decide +kernel
theorem gd_Law_law_811 : decode code 811 = .ok (.iaload, 1) := by decide +kernel
theorem gd_Law_law_812 : decode code 812 = .ok (.aload_n 0, 1) := by decide +kernel
theorem gd_Law_law_813 : decode code 813 = .ok (.iload 4, 2) := by decide +kernel
theorem gd_Law_law_815 : decode code 815 = .ok (.iconst 3, 1) := by decide +kernel
theorem gd_Law_law_816 : decode code 816 = .ok (.iadd, 1) := by decide +kernel
theorem gd_Law_law_817 : decode code 817 = .ok (.iaload, 1) := by decide +kernel
theorem gd_Law_law_818 : decode code 818 = .ok (.invokevirtual 128, 3) := by decide +kernel
theorem gd_Law_law_821 : decode code 821 = .ok (.istore 6, 2) := by decide +kernel
theorem gd_Law_law_823 : decode code 823 = .ok (.aload_n 2, 1) := by decide +kernel
theorem gd_Law_law_824 : decode code 824 = .ok (.invokevirtual 96, 3) := by decide +kernel
theorem gd_Law_law_827 : decode code 827 = .ok (.iload 5, 2) := by decide +kernel
theorem gd_Law_law_829 : decode code 829 = .ok (.if_icmp .eq 5, 3) := by decide +kernel
theorem gd_Law_law_832 : decode code 832 = .ok (.iconst 0, 1) := by decide +kernel
theorem gd_Law_law_834 : decode code 834 = .ok (.iload 5, 2) := by decide +kernel
theorem gd_Law_law_836 : decode code 836 = .ok (.ifCond .ne 15, 3) := by decide +kernel
theorem gd_Law_law_839 : decode code 839 = .ok (.aload_n 3, 1) := by decide +kernel
theorem gd_Law_law_840 : decode code 840 = .ok (.iconst 0, 1) := by decide +kernel
theorem gd_Law_law_841 : decode code 841 = .ok (.laload, 1) := by decide +kernel
theorem gd_Law_law_842 : decode code 842 = .ok (.iload 6, 2) := by decide +kernel
theorem gd_Law_law_844 : decode code 844 = .ok (.i2l, 1) := by decide +kernel
theorem gd_Law_law_845 : decode code 845 = .ok (.lcmp, 1) := by decide +kernel
theorem gd_Law_law_846 : decode code 846 = .ok (.ifCond .eq 5, 3) := by decide +kernel
theorem gd_Law_law_849 : decode code 849 = .ok (.iconst 0, 1) := by decide +kernel
theorem gd_Law_law_851 : decode code 851 = .ok (.goto 699, 3) := by decide +kernel
theorem gd_Law_law_854 : decode code 854 = .ok (.aload_n 1, 1) := by decide +kernel
theorem gd_Law_law_855 : decode code 855 = .ok (.aload_n 0, 1) := by decide +kernel
theorem gd_Law_law_856 : decode code 856 = .ok (.iload 4, 2) := by decide +kernel
theorem gd_Law_law_858 : decode code 858 = .ok (.iconst 1, 1) := by decide +kernel
theorem gd_Law_law_859 : decode code 859 = .ok (.iadd, 1) := by decide +kernel
theorem gd_Law_law_860 : decode code 860 = .ok (.iaload, 1) := by decide +kernel
theorem gd_Law_law_861 : decode code 861 = .ok (.aload_n 3, 1) := by decide +kernel
theorem gd_Law_law_862 : decode code 862 = .ok (.invokestatic 129, 3) := by decide +kernel
theorem gd_Law_law_865 : decode code 865 = .ok (.istore 5, 2) := by decide +kernel
theorem gd_Law_law_867 : decode code 867 = .ok (.aload_n 2, 1) := by decide +kernel
theorem gd_Law_law_868 : decode code 868 = .ok (.aload_n 0, 1) := by decide +kernel
theorem gd_Law_law_869 : decode code 869 = .ok (.iload 4, 2) := by decide +kernel
theorem gd_Law_law_871 : decode code 871 = .ok (.iconst 1, 1) := by decide +kernel
theorem gd_Law_law_872 : decode code 872 = .ok (.iadd, 1) := by decide +kernel
theorem gd_Law_law_873 : decode code 873 = .ok (.iaload, 1) := by decide +kernel
theorem gd_Law_law_874 : decode code 874 = .ok (.invokevirtual 131, 3) := by decide +kernel
theorem gd_Law_law_877 : decode code 877 = .ok (.istore 6, 2) := by decide +kernel
theorem gd_Law_law_879 : decode code 879 = .ok (.aload_n 2, 1) := by decide +kernel
theorem gd_Law_law_880 : decode code 880 = .ok (.invokevirtual 96, 3) := by decide +kernel
theorem gd_Law_law_883 : decode code 883 = .ok (.iload 5, 2) := by decide +kernel
theorem gd_Law_law_885 : decode code 885 = .ok (.if_icmp .eq 5, 3) := by decide +kernel
theorem gd_Law_law_888 : decode code 888 = .ok (.iconst 0, 1) := by decide +kernel
theorem gd_Law_law_890 : decode code 890 = .ok (.iload 5, 2) := by decide +kernel
theorem gd_Law_law_892 : decode code 892 = .ok (.ifCond .ne 15, 3) := by decide +kernel
theorem gd_Law_law_895 : decode code 895 = .ok (.aload_n 3, 1) := by decide +kernel
theorem gd_Law_law_896 : decode code 896 = .ok (.iconst 0, 1) := by decide +kernel
theorem gd_Law_law_897 : decode code 897 = .ok (.laload, 1) := by decide +kernel
theorem gd_Law_law_898 : decode code 898 = .ok (.iload 6, 2) := by decide +kernel
theorem gd_Law_law_900 : decode code 900 = .ok (.i2l, 1) := by decide +kernel
theorem gd_Law_law_901 : decode code 901 = .ok (.lcmp, 1) := by decide +kernel
theorem gd_Law_law_902 : decode code 902 = .ok (.ifCond .eq 5, 3) := by decide +kernel
theorem gd_Law_law_905 : decode code 905 = .ok (.iconst 0, 1) := by decide +kernel
theorem gd_Law_law_907 : decode code 907 = .ok (.goto 643, 3) := by decide +kernel
theorem gd_Law_law_910 : decode code 910 = .ok (.aload_n 1, 1) := by decide +kernel
theorem gd_Law_law_911 : decode code 911 = .ok (.aload_n 0, 1) := by decide +kernel
theorem gd_Law_law_912 : decode code 912 = .ok (.iload 4, 2) := by decide +kernel
theorem gd_Law_law_914 : decode code 914 = .ok (.iconst 1, 1) := by decide +kernel
theorem gd_Law_law_915 : decode code 915 = .ok (.iadd, 1) := by decide +kernel
theorem gd_Law_law_916 : decode code 916 = .ok (.iaload, 1) := by decide +kernel
theorem gd_Law_law_917 : decode code 917 = .ok (.aload_n 0, 1) := by decide +kernel
theorem gd_Law_law_918 : decode code 918 = .ok (.iload 4, 2) := by decide +kernel
theorem gd_Law_law_920 : decode code 920 = .ok (.iconst 2, 1) := by decide +kernel
theorem gd_Law_law_921 : decode code 921 = .ok (.iadd, 1) := by decide +kernel
theorem gd_Law_law_922 : decode code 922 = .ok (.iaload, 1) := by decide +kernel
theorem gd_Law_law_923 : decode code 923 = .ok (.aload_n 3, 1) := by decide +kernel
theorem gd_Law_law_924 : decode code 924 = .ok (.invokestatic 132, 3) := by decide +kernel
theorem gd_Law_law_927 : decode code 927 = .ok (.istore 5, 2) := by decide +kernel
theorem gd_Law_law_929 : decode code 929 = .ok (.aload_n 2, 1) := by decide +kernel
theorem gd_Law_law_930 : decode code 930 = .ok (.aload_n 0, 1) := by decide +kernel
theorem gd_Law_law_931 : decode code 931 = .ok (.iload 4, 2) := by decide +kernel
theorem gd_Law_law_933 : decode code 933 = .ok (.iconst 1, 1) := by decide +kernel
theorem gd_Law_law_934 : decode code 934 = .ok (.iadd, 1) := by decide +kernel
theorem gd_Law_law_935 : decode code 935 = .ok (.iaload, 1) := by decide +kernel
theorem gd_Law_law_936 : decode code 936 = .ok (.aload_n 0, 1) := by decide +kernel
theorem gd_Law_law_937 : decode code 937 = .ok (.iload 4, 2) := by decide +kernel
theorem gd_Law_law_939 : decode code 939 = .ok (.iconst 2, 1) := by decide +kernel
theorem gd_Law_law_940 : decode code 940 = .ok (.iadd, 1) := by decide +kernel
theorem gd_Law_law_941 : decode code 941 = .ok (.iaload, 1) := by decide +kernel
theorem gd_Law_law_942 : decode code 942 = .ok (.invokevirtual 134, 3) := by decide +kernel
theorem gd_Law_law_945 : decode code 945 = .ok (.istore 6, 2) := by decide +kernel
theorem gd_Law_law_947 : decode code 947 = .ok (.aload_n 2, 1) := by decide +kernel
theorem gd_Law_law_948 : decode code 948 = .ok (.invokevirtual 96, 3) := by decide +kernel
theorem gd_Law_law_951 : decode code 951 = .ok (.iload 5, 2) := by decide +kernel
theorem gd_Law_law_953 : decode code 953 = .ok (.if_icmp .eq 5, 3) := by decide +kernel
theorem gd_Law_law_956 : decode code 956 = .ok (.iconst 0, 1) := by decide +kernel
theorem gd_Law_law_958 : decode code 958 = .ok (.iload 5, 2) := by decide +kernel
theorem gd_Law_law_960 : decode code 960 = .ok (.ifCond .ne 15, 3) := by decide +kernel
theorem gd_Law_law_963 : decode code 963 = .ok (.aload_n 3, 1) := by decide +kernel
theorem gd_Law_law_964 : decode code 964 = .ok (.iconst 0, 1) := by decide +kernel
theorem gd_Law_law_965 : decode code 965 = .ok (.laload, 1) := by decide +kernel
theorem gd_Law_law_966 : decode code 966 = .ok (.iload 6, 2) := by decide +kernel
theorem gd_Law_law_968 : decode code 968 = .ok (.i2l, 1) := by decide +kernel
theorem gd_Law_law_969 : decode code 969 = .ok (.lcmp, 1) := by decide +kernel
theorem gd_Law_law_970 : decode code 970 = .ok (.ifCond .eq 5, 3) := by decide +kernel
theorem gd_Law_law_973 : decode code 973 = .ok (.iconst 0, 1) := by decide +kernel
theorem gd_Law_law_975 : decode code 975 = .ok (.goto 575, 3) := by decide +kernel
theorem gd_Law_law_978 : decode code 978 = .ok (.aload_n 1, 1) := by decide +kernel
theorem gd_Law_law_979 : decode code 979 = .ok (.aload_n 0, 1) := by decide +kernel
theorem gd_Law_law_980 : decode code 980 = .ok (.iload 4, 2) := by decide +kernel
theorem gd_Law_law_982 : decode code 982 = .ok (.iconst 1, 1) := by decide +kernel
theorem gd_Law_law_983 : decode code 983 = .ok (.iadd, 1) := by decide +kernel
theorem gd_Law_law_984 : decode code 984 = .ok (.iaload, 1) := by decide +kernel
theorem gd_Law_law_985 : decode code 985 = .ok (.aload_n 3, 1) := by decide +kernel
theorem gd_Law_law_986 : decode code 986 = .ok (.invokestatic 135, 3) := by decide +kernel
theorem gd_Law_law_989 : decode code 989 = .ok (.istore 5, 2) := by decide +kernel
theorem gd_Law_law_991 : decode code 991 = .ok (.aload_n 2, 1) := by decide +kernel
theorem gd_Law_law_992 : decode code 992 = .ok (.aload_n 0, 1) := by decide +kernel
theorem gd_Law_law_993 : decode code 993 = .ok (.iload 4, 2) := by decide +kernel
theorem gd_Law_law_995 : decode code 995 = .ok (.iconst 1, 1) := by decide +kernel
theorem gd_Law_law_996 : decode code 996 = .ok (.iadd, 1) := by decide +kernel
theorem gd_Law_law_997 : decode code 997 = .ok (.iaload, 1) := by decide +kernel
theorem gd_Law_law_998 : decode code 998 = .ok (.invokevirtual 137, 3) := by decide +kernel
theorem gd_Law_law_1001 : decode code 1001 = .ok (.istore 6, 2) := by decide +kernel
theorem gd_Law_law_1003 : decode code 1003 = .ok (.aload_n 2, 1) := by decide +kernel
theorem gd_Law_law_1004 : decode code 1004 = .ok (.invokevirtual 96, 3) := by decide +kernel
theorem gd_Law_law_1007 : decode code 1007 = .ok (.iload 5, 2) := by decide +kernel
theorem gd_Law_law_1009 : decode code 1009 = .ok (.if_icmp .eq 5, 3) := by decide +kernel
theorem gd_Law_law_1012 : decode code 1012 = .ok (.iconst 0, 1) := by decide +kernel
theorem gd_Law_law_1014 : decode code 1014 = .ok (.iload 5, 2) := by decide +kernel
theorem gd_Law_law_1016 : decode code 1016 = .ok (.ifCond .ne 15, 3) := by decide +kernel
theorem gd_Law_law_1019 : decode code 1019 = .ok (.aload_n 3, 1) := by decide +kernel
theorem gd_Law_law_1020 : decode code 1020 = .ok (.iconst 0, 1) := by decide +kernel
theorem gd_Law_law_1021 : decode code 1021 = .ok (.laload, 1) := by decide +kernel
theorem gd_Law_law_1022 : decode code 1022 = .ok (.iload 6, 2) := by decide +kernel
theorem gd_Law_law_1024 : decode code 1024 = .ok (.i2l, 1) := by decide +kernel
theorem gd_Law_law_1025 : decode code 1025 = .ok (.lcmp, 1) := by decide +kernel
theorem gd_Law_law_1026 : decode code 1026 = .ok (.ifCond .eq 5, 3) := by decide +kernel
theorem gd_Law_law_1029 : decode code 1029 = .ok (.iconst 0, 1) := by decide +kernel
theorem gd_Law_law_1031 : decode code 1031 = .ok (.goto 519, 3) := by decide +kernel
theorem gd_Law_law_1034 : decode code 1034 = .ok (.aload_n 1, 1) := by decide +kernel
theorem gd_Law_law_1035 : decode code 1035 = .ok (.aload_n 3, 1) := by decide +kernel
theorem gd_Law_law_1036 : decode code 1036 = .ok (.invokestatic 138, 3) := by decide +kernel
theorem gd_Law_law_1039 : decode code 1039 = .ok (.istore 5, 2) := by decide +kernel
theorem gd_Law_law_1041 : decode code 1041 = .ok (.aload_n 2, 1) := by decide +kernel
theorem gd_Law_law_1042 : decode code 1042 = .ok (.invokevirtual 141, 3) := by decide +kernel
theorem gd_Law_law_1045 : decode code 1045 = .ok (.istore 6, 2) := by decide +kernel
theorem gd_Law_law_1047 : decode code 1047 = .ok (.aload_n 2, 1) := by decide +kernel
theorem gd_Law_law_1048 : decode code 1048 = .ok (.invokevirtual 96, 3) := by decide +kernel
theorem gd_Law_law_1051 : decode code 1051 = .ok (.iload 5, 2) := by decide +kernel
theorem gd_Law_law_1053 : decode code 1053 = .ok (.if_icmp .eq 5, 3) := by decide +kernel
theorem gd_Law_law_1056 : decode code 1056 = .ok (.iconst 0, 1) := by decide +kernel
theorem gd_Law_law_1058 : decode code 1058 = .ok (.iload 5, 2) := by decide +kernel
theorem gd_Law_law_1060 : decode code 1060 = .ok (.ifCond .ne 15, 3) := by decide +kernel
theorem gd_Law_law_1063 : decode code 1063 = .ok (.aload_n 3, 1) := by decide +kernel
theorem gd_Law_law_1064 : decode code 1064 = .ok (.iconst 0, 1) := by decide +kernel
theorem gd_Law_law_1065 : decode code 1065 = .ok (.laload, 1) := by decide +kernel
theorem gd_Law_law_1066 : decode code 1066 = .ok (.iload 6, 2) := by decide +kernel
theorem gd_Law_law_1068 : decode code 1068 = .ok (.i2l, 1) := by decide +kernel
theorem gd_Law_law_1069 : decode code 1069 = .ok (.lcmp, 1) := by decide +kernel
theorem gd_Law_law_1070 : decode code 1070 = .ok (.ifCond .eq 5, 3) := by decide +kernel
theorem gd_Law_law_1073 : decode code 1073 = .ok (.iconst 0, 1) := by decide +kernel
theorem gd_Law_law_1075 : decode code 1075 = .ok (.goto 475, 3) := by decide +kernel
theorem gd_Law_law_1078 : decode code 1078 = .ok (.aload_n 1, 1) := by decide +kernel
theorem gd_Law_law_1079 : decode code 1079 = .ok (.aload_n 0, 1) := by decide +kernel
theorem gd_Law_law_1080 : decode code 1080 = .ok (.iload 4, 2) := by decide +kernel
theorem gd_Law_law_1082 : decode code 1082 = .ok (.iconst 1, 1) := by decide +kernel
theorem gd_Law_law_1083 : decode code 1083 = .ok (.iadd, 1) := by decide +kernel
theorem gd_Law_law_1084 : decode code 1084 = .ok (.iaload, 1) := by decide +kernel
theorem gd_Law_law_1085 : decode code 1085 = .ok (.aload_n 0, 1) := by decide +kernel
theorem gd_Law_law_1086 : decode code 1086 = .ok (.iload 4, 2) := by decide +kernel
theorem gd_Law_law_1088 : decode code 1088 = .ok (.iconst 2, 1) := by decide +kernel
theorem gd_Law_law_1089 : decode code 1089 = .ok (.iadd, 1) := by decide +kernel
theorem gd_Law_law_1090 : decode code 1090 = .ok (.iaload, 1) := by decide +kernel
theorem gd_Law_law_1091 : decode code 1091 = .ok (.aload_n 0, 1) := by decide +kernel
theorem gd_Law_law_1092 : decode code 1092 = .ok (.iload 4, 2) := by decide +kernel
theorem gd_Law_law_1094 : decode code 1094 = .ok (.iconst 3, 1) := by decide +kernel
theorem gd_Law_law_1095 : decode code 1095 = .ok (.iadd, 1) := by decide +kernel
theorem gd_Law_law_1096 : decode code 1096 = .ok (.iaload, 1) := by decide +kernel
theorem gd_Law_law_1097 : decode code 1097 = .ok (.aload_n 3, 1) := by decide +kernel
theorem gd_Law_law_1098 : decode code 1098 = .ok (.invokestatic 142, 3) := by decide +kernel
theorem gd_Law_law_1101 : decode code 1101 = .ok (.istore 5, 2) := by decide +kernel
theorem gd_Law_law_1103 : decode code 1103 = .ok (.aload_n 2, 1) := by decide +kernel
theorem gd_Law_law_1104 : decode code 1104 = .ok (.aload_n 0, 1) := by decide +kernel
theorem gd_Law_law_1105 : decode code 1105 = .ok (.iload 4, 2) := by decide +kernel
theorem gd_Law_law_1107 : decode code 1107 = .ok (.iconst 1, 1) := by decide +kernel
theorem gd_Law_law_1108 : decode code 1108 = .ok (.iadd, 1) := by decide +kernel
theorem gd_Law_law_1109 : decode code 1109 = .ok (.iaload, 1) := by decide +kernel
theorem gd_Law_law_1110 : decode code 1110 = .ok (.aload_n 0, 1) := by decide +kernel
theorem gd_Law_law_1111 : decode code 1111 = .ok (.iload 4, 2) := by decide +kernel
theorem gd_Law_law_1113 : decode code 1113 = .ok (.iconst 2, 1) := by decide +kernel
theorem gd_Law_law_1114 : decode code 1114 = .ok (.iadd, 1) := by decide +kernel
theorem gd_Law_law_1115 : decode code 1115 = .ok (.iaload, 1) := by decide +kernel
theorem gd_Law_law_1116 : decode code 1116 = .ok (.aload_n 0, 1) := by decide +kernel
theorem gd_Law_law_1117 : decode code 1117 = .ok (.iload 4, 2) := by decide +kernel
theorem gd_Law_law_1119 : decode code 1119 = .ok (.iconst 3, 1) := by decide +kernel
theorem gd_Law_law_1120 : decode code 1120 = .ok (.iadd, 1) := by decide +kernel
theorem gd_Law_law_1121 : decode code 1121 = .ok (.iaload, 1) := by decide +kernel
theorem gd_Law_law_1122 : decode code 1122 = .ok (.invokevirtual 144, 3) := by decide +kernel
theorem gd_Law_law_1125 : decode code 1125 = .ok (.istore 6, 2) := by decide +kernel
theorem gd_Law_law_1127 : decode code 1127 = .ok (.aload_n 2, 1) := by decide +kernel
theorem gd_Law_law_1128 : decode code 1128 = .ok (.invokevirtual 96, 3) := by decide +kernel
theorem gd_Law_law_1131 : decode code 1131 = .ok (.iload 5, 2) := by decide +kernel
theorem gd_Law_law_1133 : decode code 1133 = .ok (.if_icmp .eq 5, 3) := by decide +kernel
theorem gd_Law_law_1136 : decode code 1136 = .ok (.iconst 0, 1) := by decide +kernel
theorem gd_Law_law_1138 : decode code 1138 = .ok (.iload 5, 2) := by decide +kernel
theorem gd_Law_law_1140 : decode code 1140 = .ok (.ifCond .ne 15, 3) := by decide +kernel
theorem gd_Law_law_1143 : decode code 1143 = .ok (.aload_n 3, 1) := by decide +kernel
theorem gd_Law_law_1144 : decode code 1144 = .ok (.iconst 0, 1) := by decide +kernel
theorem gd_Law_law_1145 : decode code 1145 = .ok (.laload, 1) := by decide +kernel
theorem gd_Law_law_1146 : decode code 1146 = .ok (.iload 6, 2) := by decide +kernel
theorem gd_Law_law_1148 : decode code 1148 = .ok (.i2l, 1) := by decide +kernel
theorem gd_Law_law_1149 : decode code 1149 = .ok (.lcmp, 1) := by decide +kernel
theorem gd_Law_law_1150 : decode code 1150 = .ok (.ifCond .eq 5, 3) := by decide +kernel
theorem gd_Law_law_1153 : decode code 1153 = .ok (.iconst 0, 1) := by decide +kernel
theorem gd_Law_law_1155 : decode code 1155 = .ok (.goto 395, 3) := by decide +kernel
theorem gd_Law_law_1158 : decode code 1158 = .ok (.aload_n 1, 1) := by decide +kernel
theorem gd_Law_law_1159 : decode code 1159 = .ok (.aload_n 0, 1) := by decide +kernel
theorem gd_Law_law_1160 : decode code 1160 = .ok (.iload 4, 2) := by decide +kernel
theorem gd_Law_law_1162 : decode code 1162 = .ok (.iconst 1, 1) := by decide +kernel
theorem gd_Law_law_1163 : decode code 1163 = .ok (.iadd, 1) := by decide +kernel
theorem gd_Law_law_1164 : decode code 1164 = .ok (.iaload, 1) := by decide +kernel
theorem gd_Law_law_1165 : decode code 1165 = .ok (.aload_n 0, 1) := by decide +kernel
theorem gd_Law_law_1166 : decode code 1166 = .ok (.iload 4, 2) := by decide +kernel
theorem gd_Law_law_1168 : decode code 1168 = .ok (.iconst 2, 1) := by decide +kernel
theorem gd_Law_law_1169 : decode code 1169 = .ok (.iadd, 1) := by decide +kernel
theorem gd_Law_law_1170 : decode code 1170 = .ok (.iaload, 1) := by decide +kernel
theorem gd_Law_law_1171 : decode code 1171 = .ok (.aload_n 0, 1) := by decide +kernel
theorem gd_Law_law_1172 : decode code 1172 = .ok (.iload 4, 2) := by decide +kernel
theorem gd_Law_law_1174 : decode code 1174 = .ok (.iconst 3, 1) := by decide +kernel
theorem gd_Law_law_1175 : decode code 1175 = .ok (.iadd, 1) := by decide +kernel
theorem gd_Law_law_1176 : decode code 1176 = .ok (.iaload, 1) := by decide +kernel
theorem gd_Law_law_1177 : decode code 1177 = .ok (.aload_n 3, 1) := by decide +kernel
theorem gd_Law_law_1178 : decode code 1178 = .ok (.invokestatic 145, 3) := by decide +kernel
theorem gd_Law_law_1181 : decode code 1181 = .ok (.istore 5, 2) := by decide +kernel
theorem gd_Law_law_1183 : decode code 1183 = .ok (.aload_n 2, 1) := by decide +kernel
theorem gd_Law_law_1184 : decode code 1184 = .ok (.aload_n 0, 1) := by decide +kernel
theorem gd_Law_law_1185 : decode code 1185 = .ok (.iload 4, 2) := by decide +kernel
theorem gd_Law_law_1187 : decode code 1187 = .ok (.iconst 1, 1) := by decide +kernel
theorem gd_Law_law_1188 : decode code 1188 = .ok (.iadd, 1) := by decide +kernel
theorem gd_Law_law_1189 : decode code 1189 = .ok (.iaload, 1) := by decide +kernel
theorem gd_Law_law_1190 : decode code 1190 = .ok (.aload_n 0, 1) := by decide +kernel
theorem gd_Law_law_1191 : decode code 1191 = .ok (.iload 4, 2) := by decide +kernel
theorem gd_Law_law_1193 : decode code 1193 = .ok (.iconst 2, 1) := by decide +kernel
theorem gd_Law_law_1194 : decode code 1194 = .ok (.iadd, 1) := by decide +kernel
theorem gd_Law_law_1195 : decode code 1195 = .ok (.iaload, 1) := by decide +kernel
theorem gd_Law_law_1196 : decode code 1196 = .ok (.aload_n 0, 1) := by decide +kernel
theorem gd_Law_law_1197 : decode code 1197 = .ok (.iload 4, 2) := by decide +kernel
theorem gd_Law_law_1199 : decode code 1199 = .ok (.iconst 3, 1) := by decide +kernel
theorem gd_Law_law_1200 : decode code 1200 = .ok (.iadd, 1) := by decide +kernel
theorem gd_Law_law_1201 : decode code 1201 = .ok (.iaload, 1) := by decide +kernel
theorem gd_Law_law_1202 : decode code 1202 = .ok (.invokevirtual 147, 3) := by decide +kernel
theorem gd_Law_law_1205 : decode code 1205 = .ok (.istore 6, 2) := by decide +kernel
theorem gd_Law_law_1207 : decode code 1207 = .ok (.aload_n 2, 1) := by decide +kernel
theorem gd_Law_law_1208 : decode code 1208 = .ok (.invokevirtual 96, 3) := by decide +kernel
theorem gd_Law_law_1211 : decode code 1211 = .ok (.iload 5, 2) := by decide +kernel
theorem gd_Law_law_1213 : decode code 1213 = .ok (.if_icmp .eq 5, 3) := by decide +kernel
theorem gd_Law_law_1216 : decode code 1216 = .ok (.iconst 0, 1) := by decide +kernel
theorem gd_Law_law_1218 : decode code 1218 = .ok (.iload 5, 2) := by decide +kernel
theorem gd_Law_law_1220 : decode code 1220 = .ok (.ifCond .ne 15, 3) := by decide +kernel
theorem gd_Law_law_1223 : decode code 1223 = .ok (.aload_n 3, 1) := by decide +kernel
theorem gd_Law_law_1224 : decode code 1224 = .ok (.iconst 0, 1) := by decide +kernel
theorem gd_Law_law_1225 : decode code 1225 = .ok (.laload, 1) := by decide +kernel
theorem gd_Law_law_1226 : decode code 1226 = .ok (.iload 6, 2) := by decide +kernel
theorem gd_Law_law_1228 : decode code 1228 = .ok (.i2l, 1) := by decide +kernel
theorem gd_Law_law_1229 : decode code 1229 = .ok (.lcmp, 1) := by decide +kernel
theorem gd_Law_law_1230 : decode code 1230 = .ok (.ifCond .eq 5, 3) := by decide +kernel
theorem gd_Law_law_1233 : decode code 1233 = .ok (.iconst 0, 1) := by decide +kernel
theorem gd_Law_law_1235 : decode code 1235 = .ok (.goto 315, 3) := by decide +kernel
theorem gd_Law_law_1238 : decode code 1238 = .ok (.aload_n 1, 1) := by decide +kernel
theorem gd_Law_law_1239 : decode code 1239 = .ok (.aload_n 0, 1) := by decide +kernel
theorem gd_Law_law_1240 : decode code 1240 = .ok (.iload 4, 2) := by decide +kernel
theorem gd_Law_law_1242 : decode code 1242 = .ok (.iconst 1, 1) := by decide +kernel
theorem gd_Law_law_1243 : decode code 1243 = .ok (.iadd, 1) := by decide +kernel
theorem gd_Law_law_1244 : decode code 1244 = .ok (.iaload, 1) := by decide +kernel
theorem gd_Law_law_1245 : decode code 1245 = .ok (.aload_n 0, 1) := by decide +kernel
theorem gd_Law_law_1246 : decode code 1246 = .ok (.iload 4, 2) := by decide +kernel
theorem gd_Law_law_1248 : decode code 1248 = .ok (.iconst 2, 1) := by decide +kernel
theorem gd_Law_law_1249 : decode code 1249 = .ok (.iadd, 1) := by decide +kernel
theorem gd_Law_law_1250 : decode code 1250 = .ok (.iaload, 1) := by decide +kernel
theorem gd_Law_law_1251 : decode code 1251 = .ok (.aload_n 0, 1) := by decide +kernel
theorem gd_Law_law_1252 : decode code 1252 = .ok (.iload 4, 2) := by decide +kernel
theorem gd_Law_law_1254 : decode code 1254 = .ok (.iconst 3, 1) := by decide +kernel
theorem gd_Law_law_1255 : decode code 1255 = .ok (.iadd, 1) := by decide +kernel
theorem gd_Law_law_1256 : decode code 1256 = .ok (.iaload, 1) := by decide +kernel
theorem gd_Law_law_1257 : decode code 1257 = .ok (.aload_n 3, 1) := by decide +kernel
theorem gd_Law_law_1258 : decode code 1258 = .ok (.invokestatic 148, 3) := by decide +kernel
theorem gd_Law_law_1261 : decode code 1261 = .ok (.istore 5, 2) := by decide +kernel
theorem gd_Law_law_1263 : decode code 1263 = .ok (.aload_n 2, 1) := by decide +kernel
theorem gd_Law_law_1264 : decode code 1264 = .ok (.aload_n 0, 1) := by decide +kernel
theorem gd_Law_law_1265 : decode code 1265 = .ok (.iload 4, 2) := by decide +kernel
theorem gd_Law_law_1267 : decode code 1267 = .ok (.iconst 1, 1) := by decide +kernel
theorem gd_Law_law_1268 : decode code 1268 = .ok (.iadd, 1) := by decide +kernel
theorem gd_Law_law_1269 : decode code 1269 = .ok (.iaload, 1) := by decide +kernel
theorem gd_Law_law_1270 : decode code 1270 = .ok (.aload_n 0, 1) := by decide +kernel
theorem gd_Law_law_1271 : decode code 1271 = .ok (.iload 4, 2) := by decide +kernel
theorem gd_Law_law_1273 : decode code 1273 = .ok (.iconst 2, 1) := by decide +kernel
theorem gd_Law_law_1274 : decode code 1274 = .ok (.iadd, 1) := by decide +kernel
theorem gd_Law_law_1275 : decode code 1275 = .ok (.iaload, 1) := by decide +kernel
theorem gd_Law_law_1276 : decode code 1276 = .ok (.aload_n 0, 1) := by decide +kernel
theorem gd_Law_law_1277 : decode code 1277 = .ok (.iload 4, 2) := by decide +kernel
theorem gd_Law_law_1279 : decode code 1279 = .ok (.iconst 3, 1) := by decide +kernel
theorem gd_Law_law_1280 : decode code 1280 = .ok (.iadd, 1) := by decide +kernel
theorem gd_Law_law_1281 : decode code 1281 = .ok (.iaload, 1) := by decide +kernel
theorem gd_Law_law_1282 : decode code 1282 = .ok (.invokevirtual 150, 3) := by decide +kernel
theorem gd_Law_law_1285 : decode code 1285 = .ok (.istore 6, 2) := by decide +kernel
theorem gd_Law_law_1287 : decode code 1287 = .ok (.aload_n 2, 1) := by decide +kernel
theorem gd_Law_law_1288 : decode code 1288 = .ok (.invokevirtual 96, 3) := by decide +kernel
theorem gd_Law_law_1291 : decode code 1291 = .ok (.iload 5, 2) := by decide +kernel
theorem gd_Law_law_1293 : decode code 1293 = .ok (.if_icmp .eq 5, 3) := by decide +kernel
theorem gd_Law_law_1296 : decode code 1296 = .ok (.iconst 0, 1) := by decide +kernel
theorem gd_Law_law_1298 : decode code 1298 = .ok (.iload 5, 2) := by decide +kernel
theorem gd_Law_law_1300 : decode code 1300 = .ok (.ifCond .ne 15, 3) := by decide +kernel
theorem gd_Law_law_1303 : decode code 1303 = .ok (.aload_n 3, 1) := by decide +kernel
theorem gd_Law_law_1304 : decode code 1304 = .ok (.iconst 0, 1) := by decide +kernel
theorem gd_Law_law_1305 : decode code 1305 = .ok (.laload, 1) := by decide +kernel
theorem gd_Law_law_1306 : decode code 1306 = .ok (.iload 6, 2) := by decide +kernel
theorem gd_Law_law_1308 : decode code 1308 = .ok (.i2l, 1) := by decide +kernel
theorem gd_Law_law_1309 : decode code 1309 = .ok (.lcmp, 1) := by decide +kernel
theorem gd_Law_law_1310 : decode code 1310 = .ok (.ifCond .eq 5, 3) := by decide +kernel
theorem gd_Law_law_1313 : decode code 1313 = .ok (.iconst 0, 1) := by decide +kernel
theorem gd_Law_law_1315 : decode code 1315 = .ok (.goto 235, 3) := by decide +kernel
theorem gd_Law_law_1318 : decode code 1318 = .ok (.aload_n 1, 1) := by decide +kernel
theorem gd_Law_law_1319 : decode code 1319 = .ok (.aload_n 0, 1) := by decide +kernel
theorem gd_Law_law_1320 : decode code 1320 = .ok (.iload 4, 2) := by decide +kernel
theorem gd_Law_law_1322 : decode code 1322 = .ok (.iconst 1, 1) := by decide +kernel
theorem gd_Law_law_1323 : decode code 1323 = .ok (.iadd, 1) := by decide +kernel
theorem gd_Law_law_1324 : decode code 1324 = .ok (.iaload, 1) := by decide +kernel
theorem gd_Law_law_1325 : decode code 1325 = .ok (.aload_n 0, 1) := by decide +kernel
theorem gd_Law_law_1326 : decode code 1326 = .ok (.iload 4, 2) := by decide +kernel
theorem gd_Law_law_1328 : decode code 1328 = .ok (.iconst 2, 1) := by decide +kernel
theorem gd_Law_law_1329 : decode code 1329 = .ok (.iadd, 1) := by decide +kernel
theorem gd_Law_law_1330 : decode code 1330 = .ok (.iaload, 1) := by decide +kernel
theorem gd_Law_law_1331 : decode code 1331 = .ok (.aload_n 3, 1) := by decide +kernel
theorem gd_Law_law_1332 : decode code 1332 = .ok (.invokestatic 151, 3) := by decide +kernel
theorem gd_Law_law_1335 : decode code 1335 = .ok (.istore 5, 2) := by decide +kernel
theorem gd_Law_law_1337 : decode code 1337 = .ok (.aload_n 2, 1) := by decide +kernel
theorem gd_Law_law_1338 : decode code 1338 = .ok (.aload_n 0, 1) := by decide +kernel
theorem gd_Law_law_1339 : decode code 1339 = .ok (.iload 4, 2) := by decide +kernel
theorem gd_Law_law_1341 : decode code 1341 = .ok (.iconst 1, 1) := by decide +kernel
theorem gd_Law_law_1342 : decode code 1342 = .ok (.iadd, 1) := by decide +kernel
theorem gd_Law_law_1343 : decode code 1343 = .ok (.iaload, 1) := by decide +kernel
theorem gd_Law_law_1344 : decode code 1344 = .ok (.aload_n 0, 1) := by decide +kernel
theorem gd_Law_law_1345 : decode code 1345 = .ok (.iload 4, 2) := by decide +kernel
theorem gd_Law_law_1347 : decode code 1347 = .ok (.iconst 2, 1) := by decide +kernel
theorem gd_Law_law_1348 : decode code 1348 = .ok (.iadd, 1) := by decide +kernel
theorem gd_Law_law_1349 : decode code 1349 = .ok (.iaload, 1) := by decide +kernel
theorem gd_Law_law_1350 : decode code 1350 = .ok (.invokevirtual 153, 3) := by decide +kernel
theorem gd_Law_law_1353 : decode code 1353 = .ok (.istore 6, 2) := by decide +kernel
theorem gd_Law_law_1355 : decode code 1355 = .ok (.aload_n 2, 1) := by decide +kernel
theorem gd_Law_law_1356 : decode code 1356 = .ok (.invokevirtual 96, 3) := by decide +kernel
theorem gd_Law_law_1359 : decode code 1359 = .ok (.iload 5, 2) := by decide +kernel
theorem gd_Law_law_1361 : decode code 1361 = .ok (.if_icmp .eq 5, 3) := by decide +kernel
theorem gd_Law_law_1364 : decode code 1364 = .ok (.iconst 0, 1) := by decide +kernel
theorem gd_Law_law_1366 : decode code 1366 = .ok (.iload 5, 2) := by decide +kernel
theorem gd_Law_law_1368 : decode code 1368 = .ok (.ifCond .ne 22, 3) := by decide +kernel
theorem gd_Law_law_1371 : decode code 1371 = .ok (.aload_n 3, 1) := by decide +kernel
theorem gd_Law_law_1372 : decode code 1372 = .ok (.iconst 0, 1) := by decide +kernel
theorem gd_Law_law_1373 : decode code 1373 = .ok (.laload, 1) := by decide +kernel
theorem gd_Law_law_1374 : decode code 1374 = .ok (.iload 6, 2) := by decide +kernel
theorem gd_Law_law_1376 : decode code 1376 = .ok (.ifCond .eq 7, 3) := by decide +kernel
theorem gd_Law_law_1379 : decode code 1379 = .ok (.lconst 1, 1) := by decide +kernel
theorem gd_Law_law_1380 : decode code 1380 = .ok (.goto 4, 3) := by decide +kernel
theorem gd_Law_law_1383 : decode code 1383 = .ok (.lconst 0, 1) := by decide +kernel
theorem gd_Law_law_1384 : decode code 1384 = .ok (.lcmp, 1) := by decide +kernel
theorem gd_Law_law_1385 : decode code 1385 = .ok (.ifCond .eq 5, 3) := by decide +kernel
theorem gd_Law_law_1388 : decode code 1388 = .ok (.iconst 0, 1) := by decide +kernel
theorem gd_Law_law_1390 : decode code 1390 = .ok (.goto 160, 3) := by decide +kernel
theorem gd_Law_law_1393 : decode code 1393 = .ok (.aload_n 1, 1) := by decide +kernel
theorem gd_Law_law_1394 : decode code 1394 = .ok (.aload_n 3, 1) := by decide +kernel
theorem gd_Law_law_1395 : decode code 1395 = .ok (.invokestatic 154, 3) := by decide +kernel
theorem gd_Law_law_1398 : decode code 1398 = .ok (.istore 5, 2) := by decide +kernel
theorem gd_Law_law_1400 : decode code 1400 = .ok (.aload_n 2, 1) := by decide +kernel
theorem gd_Law_law_1401 : decode code 1401 = .ok (.invokevirtual 156, 3) := by decide +kernel
theorem gd_Law_law_1404 : decode code 1404 = .ok (.istore 6, 2) := by decide +kernel
theorem gd_Law_law_1406 : decode code 1406 = .ok (.aload_n 2, 1) := by decide +kernel
theorem gd_Law_law_1407 : decode code 1407 = .ok (.invokevirtual 96, 3) := by decide +kernel
theorem gd_Law_law_1410 : decode code 1410 = .ok (.iload 5, 2) := by decide +kernel
theorem gd_Law_law_1412 : decode code 1412 = .ok (.if_icmp .eq 5, 3) := by decide +kernel
theorem gd_Law_law_1415 : decode code 1415 = .ok (.iconst 0, 1) := by decide +kernel
theorem gd_Law_law_1417 : decode code 1417 = .ok (.iload 5, 2) := by decide +kernel
theorem gd_Law_law_1419 : decode code 1419 = .ok (.ifCond .ne 22, 3) := by decide +kernel
theorem gd_Law_law_1422 : decode code 1422 = .ok (.aload_n 3, 1) := by decide +kernel
theorem gd_Law_law_1423 : decode code 1423 = .ok (.iconst 0, 1) := by decide +kernel
theorem gd_Law_law_1424 : decode code 1424 = .ok (.laload, 1) := by decide +kernel
theorem gd_Law_law_1425 : decode code 1425 = .ok (.iload 6, 2) := by decide +kernel
theorem gd_Law_law_1427 : decode code 1427 = .ok (.ifCond .eq 7, 3) := by decide +kernel
theorem gd_Law_law_1430 : decode code 1430 = .ok (.lconst 1, 1) := by decide +kernel
theorem gd_Law_law_1431 : decode code 1431 = .ok (.goto 4, 3) := by decide +kernel
theorem gd_Law_law_1434 : decode code 1434 = .ok (.lconst 0, 1) := by decide +kernel
theorem gd_Law_law_1435 : decode code 1435 = .ok (.lcmp, 1) := by decide +kernel
theorem gd_Law_law_1436 : decode code 1436 = .ok (.ifCond .eq 5, 3) := by decide +kernel
theorem gd_Law_law_1439 : decode code 1439 = .ok (.iconst 0, 1) := by decide +kernel
theorem gd_Law_law_1441 : decode code 1441 = .ok (.goto 109, 3) := by decide +kernel
theorem gd_Law_law_1444 : decode code 1444 = .ok (.aload_n 1, 1) := by decide +kernel
theorem gd_Law_law_1445 : decode code 1445 = .ok (.aload_n 0, 1) := by decide +kernel
theorem gd_Law_law_1446 : decode code 1446 = .ok (.iload 4, 2) := by decide +kernel
theorem gd_Law_law_1448 : decode code 1448 = .ok (.iconst 1, 1) := by decide +kernel
theorem gd_Law_law_1449 : decode code 1449 = .ok (.iadd, 1) := by decide +kernel
theorem gd_Law_law_1450 : decode code 1450 = .ok (.iaload, 1) := by decide +kernel
theorem gd_Law_law_1451 : decode code 1451 = .ok (.aload_n 0, 1) := by decide +kernel
theorem gd_Law_law_1452 : decode code 1452 = .ok (.iload 4, 2) := by decide +kernel
theorem gd_Law_law_1454 : decode code 1454 = .ok (.iconst 2, 1) := by decide +kernel
theorem gd_Law_law_1455 : decode code 1455 = .ok (.iadd, 1) := by decide +kernel
theorem gd_Law_law_1456 : decode code 1456 = .ok (.iaload, 1) := by decide +kernel
theorem gd_Law_law_1457 : decode code 1457 = .ok (.aload_n 3, 1) := by decide +kernel
theorem gd_Law_law_1458 : decode code 1458 = .ok (.invokestatic 157, 3) := by decide +kernel
theorem gd_Law_law_1461 : decode code 1461 = .ok (.istore 5, 2) := by decide +kernel
theorem gd_Law_law_1463 : decode code 1463 = .ok (.aload_n 2, 1) := by decide +kernel
theorem gd_Law_law_1464 : decode code 1464 = .ok (.aload_n 0, 1) := by decide +kernel
theorem gd_Law_law_1465 : decode code 1465 = .ok (.iload 4, 2) := by decide +kernel
theorem gd_Law_law_1467 : decode code 1467 = .ok (.iconst 1, 1) := by decide +kernel
theorem gd_Law_law_1468 : decode code 1468 = .ok (.iadd, 1) := by decide +kernel
theorem gd_Law_law_1469 : decode code 1469 = .ok (.iaload, 1) := by decide +kernel
theorem gd_Law_law_1470 : decode code 1470 = .ok (.aload_n 0, 1) := by decide +kernel
theorem gd_Law_law_1471 : decode code 1471 = .ok (.iload 4, 2) := by decide +kernel
theorem gd_Law_law_1473 : decode code 1473 = .ok (.iconst 2, 1) := by decide +kernel
theorem gd_Law_law_1474 : decode code 1474 = .ok (.iadd, 1) := by decide +kernel
theorem gd_Law_law_1475 : decode code 1475 = .ok (.iaload, 1) := by decide +kernel
theorem gd_Law_law_1476 : decode code 1476 = .ok (.invokevirtual 159, 3) := by decide +kernel
theorem gd_Law_law_1479 : decode code 1479 = .ok (.istore 6, 2) := by decide +kernel
theorem gd_Law_law_1481 : decode code 1481 = .ok (.aload_n 2, 1) := by decide +kernel
theorem gd_Law_law_1482 : decode code 1482 = .ok (.invokevirtual 96, 3) := by decide +kernel
theorem gd_Law_law_1485 : decode code 1485 = .ok (.iload 5, 2) := by decide +kernel
theorem gd_Law_law_1487 : decode code 1487 = .ok (.if_icmp .eq 5, 3) := by decide +kernel
theorem gd_Law_law_1490 : decode code 1490 = .ok (.iconst 0, 1) := by decide +kernel
theorem gd_Law_law_1492 : decode code 1492 = .ok (.iload 5, 2) := by decide +kernel
theorem gd_Law_law_1494 : decode code 1494 = .ok (.ifCond .ne 15, 3) := by decide +kernel
theorem gd_Law_law_1497 : decode code 1497 = .ok (.aload_n 3, 1) := by decide +kernel
theorem gd_Law_law_1498 : decode code 1498 = .ok (.iconst 0, 1) := by decide +kernel
theorem gd_Law_law_1499 : decode code 1499 = .ok (.laload, 1) := by decide +kernel
theorem gd_Law_law_1500 : decode code 1500 = .ok (.iload 6, 2) := by decide +kernel
theorem gd_Law_law_1502 : decode code 1502 = .ok (.i2l, 1) := by decide +kernel
theorem gd_Law_law_1503 : decode code 1503 = .ok (.lcmp, 1) := by decide +kernel
theorem gd_Law_law_1504 : decode code 1504 = .ok (.ifCond .eq 5, 3) := by decide +kernel
theorem gd_Law_law_1507 : decode code 1507 = .ok (.iconst 0, 1) := by decide +kernel
theorem gd_Law_law_1509 : decode code 1509 = .ok (.goto 41, 3) := by decide +kernel
theorem gd_Law_law_1512 : decode code 1512 = .ok (.aload_n 1, 1) := by decide +kernel
theorem gd_Law_law_1513 : decode code 1513 = .ok (.invokevirtual 160, 3) := by decide +kernel
theorem gd_Law_law_1516 : decode code 1516 = .ok (.aload_n 2, 1) := by decide +kernel
theorem gd_Law_law_1517 : decode code 1517 = .ok (.invokevirtual 163, 3) := by decide +kernel
theorem gd_Law_law_1520 : decode code 1520 = .ok (.if_icmp .eq 30, 3) := by decide +kernel
theorem gd_Law_law_1523 : decode code 1523 = .ok (.iconst 0, 1) := by decide +kernel
theorem gd_Law_law_1525 : decode code 1525 = .ok (.aload_n 1, 1) := by decide +kernel
theorem gd_Law_law_1526 : decode code 1526 = .ok (.aload_n 0, 1) := by decide +kernel
theorem gd_Law_law_1527 : decode code 1527 = .ok (.iload 4, 2) := by decide +kernel
theorem gd_Law_law_1529 : decode code 1529 = .ok (.iconst 1, 1) := by decide +kernel
theorem gd_Law_law_1530 : decode code 1530 = .ok (.iadd, 1) := by decide +kernel
theorem gd_Law_law_1531 : decode code 1531 = .ok (.iaload, 1) := by decide +kernel
theorem gd_Law_law_1532 : decode code 1532 = .ok (.invokevirtual 164, 3) := by decide +kernel
theorem gd_Law_law_1535 : decode code 1535 = .ok (.aload_n 2, 1) := by decide +kernel
theorem gd_Law_law_1536 : decode code 1536 = .ok (.aload_n 0, 1) := by decide +kernel
theorem gd_Law_law_1537 : decode code 1537 = .ok (.iload 4, 2) := by decide +kernel
theorem gd_Law_law_1539 : decode code 1539 = .ok (.iconst 1, 1) := by decide +kernel
theorem gd_Law_law_1540 : decode code 1540 = .ok (.iadd, 1) := by decide +kernel
theorem gd_Law_law_1541 : decode code 1541 = .ok (.iaload, 1) := by decide +kernel
theorem gd_Law_law_1542 : decode code 1542 = .ok (.invokevirtual 167, 3) := by decide +kernel
theorem gd_Law_law_1545 : decode code 1545 = .ok (.if_icmp .eq 5, 3) := by decide +kernel
theorem gd_Law_law_1548 : decode code 1548 = .ok (.iconst 0, 1) := by decide +kernel
theorem gd_Law_law_1550 : decode code 1550 = .ok (.iinc 4 6, 3) := by decide +kernel
theorem gd_Law_law_1553 : decode code 1553 = .ok (.goto (-1530), 3) := by decide +kernel
theorem gd_Law_law_1556 : decode code 1556 = .ok (.iconst 1, 1) := by decide +kernel
theorem gd_Law_law_1557 : decode code 1557 = .ok (.ireturn, 1) := by decide +kernel
def gf_Law_law_b1550 (F : Nat) (xs : Nat → Int32) (L : Nat) (z : gw_Sh) (rc_23 : gw_St → Nat → Nat → Nat → Int32 → Option Int32) (u : gw_St) (t1 : Nat) (t2 : Nat) (t3 : Nat) (x4 : Int32) : Option Int32 :=
  gf_nm (x4 + 6) fun a1 => rc_23 u t1 t2 t3 a1
def gf_Law_law_b1509 (F : Nat) (xs : Nat → Int32) (L : Nat) (z : gw_Sh) (rc_23 : gw_St → Nat → Nat → Nat → Int32 → Option Int32) (u : gw_St) (t1 : Nat) (t2 : Nat) (t3 : Nat) (x4 : Int32) : Option Int32 :=
  gf_Law_law_b1550 F xs L z rc_23 u t1 t2 t3 x4
def gf_Law_law_b1441 (F : Nat) (xs : Nat → Int32) (L : Nat) (z : gw_Sh) (rc_23 : gw_St → Nat → Nat → Nat → Int32 → Option Int32) (u : gw_St) (t1 : Nat) (t2 : Nat) (t3 : Nat) (x4 : Int32) : Option Int32 :=
  gf_Law_law_b1550 F xs L z rc_23 u t1 t2 t3 x4
def gf_Law_law_b1435 (F : Nat) (xs : Nat → Int32) (L : Nat) (z : gw_Sh) (rc_23 : gw_St → Nat → Nat → Nat → Int32 → Option Int32) (u : gw_St) (t1 : Nat) (t2 : Nat) (t3 : Nat) (x4 : Int32) (sy0 : Int64) (sy1 : Int64) : Option Int32 :=
  if (lg_cmp sy0 sy1) = 0 then (gf_Law_law_b1441 F xs L z rc_23 u t1 t2 t3 x4) else (some (0 : Int32))
def gf_Law_law_b1390 (F : Nat) (xs : Nat → Int32) (L : Nat) (z : gw_Sh) (rc_23 : gw_St → Nat → Nat → Nat → Int32 → Option Int32) (u : gw_St) (t1 : Nat) (t2 : Nat) (t3 : Nat) (x4 : Int32) : Option Int32 :=
  gf_Law_law_b1550 F xs L z rc_23 u t1 t2 t3 x4
def gf_Law_law_b1384 (F : Nat) (xs : Nat → Int32) (L : Nat) (z : gw_Sh) (rc_23 : gw_St → Nat → Nat → Nat → Int32 → Option Int32) (u : gw_St) (t1 : Nat) (t2 : Nat) (t3 : Nat) (x4 : Int32) (sy0 : Int64) (sy1 : Int64) : Option Int32 :=
  if (lg_cmp sy0 sy1) = 0 then (gf_Law_law_b1390 F xs L z rc_23 u t1 t2 t3 x4) else (some (0 : Int32))
def gf_Law_law_b1315 (F : Nat) (xs : Nat → Int32) (L : Nat) (z : gw_Sh) (rc_23 : gw_St → Nat → Nat → Nat → Int32 → Option Int32) (u : gw_St) (t1 : Nat) (t2 : Nat) (t3 : Nat) (x4 : Int32) : Option Int32 :=
  gf_Law_law_b1550 F xs L z rc_23 u t1 t2 t3 x4
def gf_Law_law_b1235 (F : Nat) (xs : Nat → Int32) (L : Nat) (z : gw_Sh) (rc_23 : gw_St → Nat → Nat → Nat → Int32 → Option Int32) (u : gw_St) (t1 : Nat) (t2 : Nat) (t3 : Nat) (x4 : Int32) : Option Int32 :=
  gf_Law_law_b1550 F xs L z rc_23 u t1 t2 t3 x4
def gf_Law_law_b1155 (F : Nat) (xs : Nat → Int32) (L : Nat) (z : gw_Sh) (rc_23 : gw_St → Nat → Nat → Nat → Int32 → Option Int32) (u : gw_St) (t1 : Nat) (t2 : Nat) (t3 : Nat) (x4 : Int32) : Option Int32 :=
  gf_Law_law_b1550 F xs L z rc_23 u t1 t2 t3 x4
def gf_Law_law_b1075 (F : Nat) (xs : Nat → Int32) (L : Nat) (z : gw_Sh) (rc_23 : gw_St → Nat → Nat → Nat → Int32 → Option Int32) (u : gw_St) (t1 : Nat) (t2 : Nat) (t3 : Nat) (x4 : Int32) : Option Int32 :=
  gf_Law_law_b1550 F xs L z rc_23 u t1 t2 t3 x4
def gf_Law_law_b1031 (F : Nat) (xs : Nat → Int32) (L : Nat) (z : gw_Sh) (rc_23 : gw_St → Nat → Nat → Nat → Int32 → Option Int32) (u : gw_St) (t1 : Nat) (t2 : Nat) (t3 : Nat) (x4 : Int32) : Option Int32 :=
  gf_Law_law_b1550 F xs L z rc_23 u t1 t2 t3 x4
def gf_Law_law_b975 (F : Nat) (xs : Nat → Int32) (L : Nat) (z : gw_Sh) (rc_23 : gw_St → Nat → Nat → Nat → Int32 → Option Int32) (u : gw_St) (t1 : Nat) (t2 : Nat) (t3 : Nat) (x4 : Int32) : Option Int32 :=
  gf_Law_law_b1550 F xs L z rc_23 u t1 t2 t3 x4
def gf_Law_law_b907 (F : Nat) (xs : Nat → Int32) (L : Nat) (z : gw_Sh) (rc_23 : gw_St → Nat → Nat → Nat → Int32 → Option Int32) (u : gw_St) (t1 : Nat) (t2 : Nat) (t3 : Nat) (x4 : Int32) : Option Int32 :=
  gf_Law_law_b1550 F xs L z rc_23 u t1 t2 t3 x4
def gf_Law_law_b851 (F : Nat) (xs : Nat → Int32) (L : Nat) (z : gw_Sh) (rc_23 : gw_St → Nat → Nat → Nat → Int32 → Option Int32) (u : gw_St) (t1 : Nat) (t2 : Nat) (t3 : Nat) (x4 : Int32) : Option Int32 :=
  gf_Law_law_b1550 F xs L z rc_23 u t1 t2 t3 x4
def gf_Law_law_b771 (F : Nat) (xs : Nat → Int32) (L : Nat) (z : gw_Sh) (rc_23 : gw_St → Nat → Nat → Nat → Int32 → Option Int32) (u : gw_St) (t1 : Nat) (t2 : Nat) (t3 : Nat) (x4 : Int32) : Option Int32 :=
  gf_Law_law_b1550 F xs L z rc_23 u t1 t2 t3 x4
def gf_Law_law_b703 (F : Nat) (xs : Nat → Int32) (L : Nat) (z : gw_Sh) (rc_23 : gw_St → Nat → Nat → Nat → Int32 → Option Int32) (u : gw_St) (t1 : Nat) (t2 : Nat) (t3 : Nat) (x4 : Int32) : Option Int32 :=
  gf_Law_law_b1550 F xs L z rc_23 u t1 t2 t3 x4
def gf_Law_law_b635 (F : Nat) (xs : Nat → Int32) (L : Nat) (z : gw_Sh) (rc_23 : gw_St → Nat → Nat → Nat → Int32 → Option Int32) (u : gw_St) (t1 : Nat) (t2 : Nat) (t3 : Nat) (x4 : Int32) : Option Int32 :=
  gf_Law_law_b1550 F xs L z rc_23 u t1 t2 t3 x4
def gf_Law_law_b567 (F : Nat) (xs : Nat → Int32) (L : Nat) (z : gw_Sh) (rc_23 : gw_St → Nat → Nat → Nat → Int32 → Option Int32) (u : gw_St) (t1 : Nat) (t2 : Nat) (t3 : Nat) (x4 : Int32) : Option Int32 :=
  gf_Law_law_b1550 F xs L z rc_23 u t1 t2 t3 x4
def gf_Law_law_b511 (F : Nat) (xs : Nat → Int32) (L : Nat) (z : gw_Sh) (rc_23 : gw_St → Nat → Nat → Nat → Int32 → Option Int32) (u : gw_St) (t1 : Nat) (t2 : Nat) (t3 : Nat) (x4 : Int32) : Option Int32 :=
  gf_Law_law_b1550 F xs L z rc_23 u t1 t2 t3 x4
def gf_Law_law_b431 (F : Nat) (xs : Nat → Int32) (L : Nat) (z : gw_Sh) (rc_23 : gw_St → Nat → Nat → Nat → Int32 → Option Int32) (u : gw_St) (t1 : Nat) (t2 : Nat) (t3 : Nat) (x4 : Int32) : Option Int32 :=
  gf_Law_law_b1550 F xs L z rc_23 u t1 t2 t3 x4
def gf_Law_law_b376 (F : Nat) (xs : Nat → Int32) (L : Nat) (z : gw_Sh) (rc_23 : gw_St → Nat → Nat → Nat → Int32 → Option Int32) (u : gw_St) (t1 : Nat) (t2 : Nat) (t3 : Nat) (x4 : Int32) : Option Int32 :=
  gf_Law_law_b1550 F xs L z rc_23 u t1 t2 t3 x4
def gf_Law_law_b308 (F : Nat) (xs : Nat → Int32) (L : Nat) (z : gw_Sh) (rc_23 : gw_St → Nat → Nat → Nat → Int32 → Option Int32) (u : gw_St) (t1 : Nat) (t2 : Nat) (t3 : Nat) (x4 : Int32) : Option Int32 :=
  gf_Law_law_b1550 F xs L z rc_23 u t1 t2 t3 x4
def gf_Law_law_b302 (F : Nat) (xs : Nat → Int32) (L : Nat) (z : gw_Sh) (rc_23 : gw_St → Nat → Nat → Nat → Int32 → Option Int32) (u : gw_St) (t1 : Nat) (t2 : Nat) (t3 : Nat) (x4 : Int32) (sy0 : Int64) (sy1 : Int64) : Option Int32 :=
  if (lg_cmp sy0 sy1) = 0 then (gf_Law_law_b308 F xs L z rc_23 u t1 t2 t3 x4) else (some (0 : Int32))
def gf_Law_law_b245 (F : Nat) (xs : Nat → Int32) (L : Nat) (z : gw_Sh) (rc_23 : gw_St → Nat → Nat → Nat → Int32 → Option Int32) (u : gw_St) (t1 : Nat) (t2 : Nat) (t3 : Nat) (x4 : Int32) : Option Int32 :=
  gf_Law_law_b1550 F xs L z rc_23 u t1 t2 t3 x4
def gf_Law_law_S23 (F : Nat) (xs : Nat → Int32) (L : Nat) (z : gw_Sh)  (rc_23 : gw_St → Nat → Nat → Nat → Int32 → Option Int32) (u : gw_St) (t1 : Nat) (t2 : Nat) (t3 : Nat) (x4 : Int32) : Option Int32 :=
  if ((Int32.ofNat L) - (6 : Int32)) < x4 then (some (1 : Int32)) else (if (x4 < 0 ∨ L ≤ (x4).toNatClampNeg) then none else if ((xs (x4).toNatClampNeg) &&& (31 : Int32)) = 0 then (if ((x4 + (1 : Int32)) < 0 ∨ L ≤ ((x4 + (1 : Int32))).toNatClampNeg) then none else if ((x4 + (2 : Int32)) < 0 ∨ L ≤ ((x4 + (2 : Int32))).toNatClampNeg) then none else if ((x4 + (3 : Int32)) < 0 ∨ L ≤ ((x4 + (3 : Int32))).toNatClampNeg) then none else if ((x4 + (4 : Int32)) < 0 ∨ L ≤ ((x4 + (4 : Int32))).toNatClampNeg) then none else if ((x4 + (5 : Int32)) < 0 ∨ L ≤ ((x4 + (5 : Int32))).toNatClampNeg) then none else gf_cl (gf_Law_want F z u t1 (xs ((x4 + (1 : Int32))).toNatClampNeg) (xs ((x4 + (2 : Int32))).toNatClampNeg) (xs ((x4 + (3 : Int32))).toNatClampNeg) (xs ((x4 + (4 : Int32))).toNatClampNeg) (xs ((x4 + (5 : Int32))).toNatClampNeg) t3) fun a16 u14 => if ((x4 + (1 : Int32)) < 0 ∨ L ≤ ((x4 + (1 : Int32))).toNatClampNeg) then none else if ((x4 + (2 : Int32)) < 0 ∨ L ≤ ((x4 + (2 : Int32))).toNatClampNeg) then none else if ((x4 + (3 : Int32)) < 0 ∨ L ≤ ((x4 + (3 : Int32))).toNatClampNeg) then none else if ((x4 + (4 : Int32)) < 0 ∨ L ≤ ((x4 + (4 : Int32))).toNatClampNeg) then none else if ((x4 + (5 : Int32)) < 0 ∨ L ≤ ((x4 + (5 : Int32))).toNatClampNeg) then none else gf_cl (gf_Model_want F z u14 t2 (xs ((x4 + (1 : Int32))).toNatClampNeg) (xs ((x4 + (2 : Int32))).toNatClampNeg) (xs ((x4 + (3 : Int32))).toNatClampNeg) (xs ((x4 + (4 : Int32))).toNatClampNeg) (xs ((x4 + (5 : Int32))).toNatClampNeg)) fun a24 u22 => gf_cl (gf_Model_thrown F z u22 t2) fun a27 u25 => if a27 = a16 then (if a16 = 0 then (if ((0 : Int32) < 0 ∨ z.2.2 t3 ≤ ((0 : Int32)).toNatClampNeg) then none else if (lg_cmp (u25.2.1 t3 ((0 : Int32)).toNatClampNeg) ((a24).toInt64)) = 0 then (gf_Law_law_b245 F xs L z rc_23 u25 t1 t2 t3 x4) else (some (0 : Int32))) else (gf_Law_law_b245 F xs L z rc_23 u25 t1 t2 t3 x4)) else (some (0 : Int32))) else (if ((xs (x4).toNatClampNeg) &&& (31 : Int32)) = 1 then (if ((x4 + (1 : Int32)) < 0 ∨ L ≤ ((x4 + (1 : Int32))).toNatClampNeg) then none else gf_cl (gf_Law_search F z u t1 (xs ((x4 + (1 : Int32))).toNatClampNeg) t3) fun a36 u34 => if ((x4 + (1 : Int32)) < 0 ∨ L ≤ ((x4 + (1 : Int32))).toNatClampNeg) then none else gf_cl (gf_Model_search F z u34 t2 (xs ((x4 + (1 : Int32))).toNatClampNeg)) fun a40 u38 => gf_cl (gf_Model_thrown F z u38 t2) fun a43 u41 => if a43 = a36 then (if a36 = 0 then (if ((0 : Int32) < 0 ∨ z.2.2 t3 ≤ ((0 : Int32)).toNatClampNeg) then none else if a40 = 0 then (gf_Law_law_b302 F xs L z rc_23 u41 t1 t2 t3 x4 (u41.2.1 t3 ((0 : Int32)).toNatClampNeg) 0) else (gf_Law_law_b302 F xs L z rc_23 u41 t1 t2 t3 x4 (u41.2.1 t3 ((0 : Int32)).toNatClampNeg) 1)) else (gf_Law_law_b308 F xs L z rc_23 u41 t1 t2 t3 x4)) else (some (0 : Int32))) else (if ((xs (x4).toNatClampNeg) &&& (31 : Int32)) = 2 then (if ((x4 + (1 : Int32)) < 0 ∨ L ≤ ((x4 + (1 : Int32))).toNatClampNeg) then none else if ((x4 + (2 : Int32)) < 0 ∨ L ≤ ((x4 + (2 : Int32))).toNatClampNeg) then none else gf_cl (gf_Law_tooth F z u t1 (xs ((x4 + (1 : Int32))).toNatClampNeg) (xs ((x4 + (2 : Int32))).toNatClampNeg) t3) fun a53 u51 => if ((x4 + (1 : Int32)) < 0 ∨ L ≤ ((x4 + (1 : Int32))).toNatClampNeg) then none else if ((x4 + (2 : Int32)) < 0 ∨ L ≤ ((x4 + (2 : Int32))).toNatClampNeg) then none else gf_cl (gf_Model_tooth F z u51 t2 (xs ((x4 + (1 : Int32))).toNatClampNeg) (xs ((x4 + (2 : Int32))).toNatClampNeg)) fun a58 u56 => gf_cl (gf_Model_thrown F z u56 t2) fun a61 u59 => if a61 = a53 then (if a53 = 0 then (if ((0 : Int32) < 0 ∨ z.2.2 t3 ≤ ((0 : Int32)).toNatClampNeg) then none else if (lg_cmp (u59.2.1 t3 ((0 : Int32)).toNatClampNeg) ((a58).toInt64)) = 0 then (gf_Law_law_b376 F xs L z rc_23 u59 t1 t2 t3 x4) else (some (0 : Int32))) else (gf_Law_law_b376 F xs L z rc_23 u59 t1 t2 t3 x4)) else (some (0 : Int32))) else (if ((xs (x4).toNatClampNeg) &&& (31 : Int32)) = 3 then (if ((x4 + (1 : Int32)) < 0 ∨ L ≤ ((x4 + (1 : Int32))).toNatClampNeg) then none else gf_cl (gf_Law_error F z u t1 (xs ((x4 + (1 : Int32))).toNatClampNeg) t3) fun a70 u68 => if ((x4 + (1 : Int32)) < 0 ∨ L ≤ ((x4 + (1 : Int32))).toNatClampNeg) then none else gf_cl (gf_Model_error F z u68 t2 (xs ((x4 + (1 : Int32))).toNatClampNeg)) fun a74 u72 => gf_cl (gf_Model_thrown F z u72 t2) fun a77 u75 => if a77 = a70 then (if a70 = 0 then (if ((0 : Int32) < 0 ∨ z.2.2 t3 ≤ ((0 : Int32)).toNatClampNeg) then none else if (lg_cmp (u75.2.1 t3 ((0 : Int32)).toNatClampNeg) a74) = 0 then (gf_Law_law_b431 F xs L z rc_23 u75 t1 t2 t3 x4) else (some (0 : Int32))) else (gf_Law_law_b431 F xs L z rc_23 u75 t1 t2 t3 x4)) else (some (0 : Int32))) else (if ((xs (x4).toNatClampNeg) &&& (31 : Int32)) = 4 then (if ((x4 + (1 : Int32)) < 0 ∨ L ≤ ((x4 + (1 : Int32))).toNatClampNeg) then none else if ((x4 + (2 : Int32)) < 0 ∨ L ≤ ((x4 + (2 : Int32))).toNatClampNeg) then none else if ((x4 + (3 : Int32)) < 0 ∨ L ≤ ((x4 + (3 : Int32))).toNatClampNeg) then none else gf_cl (gf_Law_quotient F z u t1 (xs ((x4 + (1 : Int32))).toNatClampNeg) (xs ((x4 + (2 : Int32))).toNatClampNeg) (xs ((x4 + (3 : Int32))).toNatClampNeg) t3) fun a88 u86 => if ((x4 + (1 : Int32)) < 0 ∨ L ≤ ((x4 + (1 : Int32))).toNatClampNeg) then none else if ((x4 + (2 : Int32)) < 0 ∨ L ≤ ((x4 + (2 : Int32))).toNatClampNeg) then none else if ((x4 + (3 : Int32)) < 0 ∨ L ≤ ((x4 + (3 : Int32))).toNatClampNeg) then none else gf_cl (gf_Model_quotient F z u86 t2 (xs ((x4 + (1 : Int32))).toNatClampNeg) (xs ((x4 + (2 : Int32))).toNatClampNeg) (xs ((x4 + (3 : Int32))).toNatClampNeg)) fun a94 u92 => gf_cl (gf_Model_thrown F z u92 t2) fun a97 u95 => if a97 = a88 then (if a88 = 0 then (if ((0 : Int32) < 0 ∨ z.2.2 t3 ≤ ((0 : Int32)).toNatClampNeg) then none else if (lg_cmp (u95.2.1 t3 ((0 : Int32)).toNatClampNeg) ((a94).toInt64)) = 0 then (gf_Law_law_b511 F xs L z rc_23 u95 t1 t2 t3 x4) else (some (0 : Int32))) else (gf_Law_law_b511 F xs L z rc_23 u95 t1 t2 t3 x4)) else (some (0 : Int32))) else (if ((xs (x4).toNatClampNeg) &&& (31 : Int32)) = 5 then (if ((x4 + (1 : Int32)) < 0 ∨ L ≤ ((x4 + (1 : Int32))).toNatClampNeg) then none else gf_cl (gf_Law_gear F z u t1 (xs ((x4 + (1 : Int32))).toNatClampNeg) t3) fun a106 u104 => if ((x4 + (1 : Int32)) < 0 ∨ L ≤ ((x4 + (1 : Int32))).toNatClampNeg) then none else gf_cl (gf_Model_gear F z u104 t2 (xs ((x4 + (1 : Int32))).toNatClampNeg)) fun a110 u108 => gf_cl (gf_Model_thrown F z u108 t2) fun a113 u111 => if a113 = a106 then (if a106 = 0 then (if ((0 : Int32) < 0 ∨ z.2.2 t3 ≤ ((0 : Int32)).toNatClampNeg) then none else if (lg_cmp (u111.2.1 t3 ((0 : Int32)).toNatClampNeg) ((a110).toInt64)) = 0 then (gf_Law_law_b567 F xs L z rc_23 u111 t1 t2 t3 x4) else (some (0 : Int32))) else (gf_Law_law_b567 F xs L z rc_23 u111 t1 t2 t3 x4)) else (some (0 : Int32))) else (if ((xs (x4).toNatClampNeg) &&& (31 : Int32)) = 6 then (if ((x4 + (1 : Int32)) < 0 ∨ L ≤ ((x4 + (1 : Int32))).toNatClampNeg) then none else if ((x4 + (2 : Int32)) < 0 ∨ L ≤ ((x4 + (2 : Int32))).toNatClampNeg) then none else gf_cl (gf_Law_mesh F z u t1 (xs ((x4 + (1 : Int32))).toNatClampNeg) (xs ((x4 + (2 : Int32))).toNatClampNeg) t3) fun a123 u121 => if ((x4 + (1 : Int32)) < 0 ∨ L ≤ ((x4 + (1 : Int32))).toNatClampNeg) then none else if ((x4 + (2 : Int32)) < 0 ∨ L ≤ ((x4 + (2 : Int32))).toNatClampNeg) then none else gf_cl (gf_Model_mesh F z u121 t2 (xs ((x4 + (1 : Int32))).toNatClampNeg) (xs ((x4 + (2 : Int32))).toNatClampNeg)) fun a128 u126 => gf_cl (gf_Model_thrown F z u126 t2) fun a131 u129 => if a131 = a123 then (if a123 = 0 then (if ((0 : Int32) < 0 ∨ z.2.2 t3 ≤ ((0 : Int32)).toNatClampNeg) then none else if (lg_cmp (u129.2.1 t3 ((0 : Int32)).toNatClampNeg) ((a128).toInt64)) = 0 then (gf_Law_law_b635 F xs L z rc_23 u129 t1 t2 t3 x4) else (some (0 : Int32))) else (gf_Law_law_b635 F xs L z rc_23 u129 t1 t2 t3 x4)) else (some (0 : Int32))) else (if ((xs (x4).toNatClampNeg) &&& (31 : Int32)) = 7 then (if ((x4 + (1 : Int32)) < 0 ∨ L ≤ ((x4 + (1 : Int32))).toNatClampNeg) then none else if ((x4 + (2 : Int32)) < 0 ∨ L ≤ ((x4 + (2 : Int32))).toNatClampNeg) then none else gf_cl (gf_Law_inner F z u t1 (xs ((x4 + (1 : Int32))).toNatClampNeg) (xs ((x4 + (2 : Int32))).toNatClampNeg) t3) fun a141 u139 => if ((x4 + (1 : Int32)) < 0 ∨ L ≤ ((x4 + (1 : Int32))).toNatClampNeg) then none else if ((x4 + (2 : Int32)) < 0 ∨ L ≤ ((x4 + (2 : Int32))).toNatClampNeg) then none else gf_cl (gf_Model_inner F z u139 t2 (xs ((x4 + (1 : Int32))).toNatClampNeg) (xs ((x4 + (2 : Int32))).toNatClampNeg)) fun a146 u144 => gf_cl (gf_Model_thrown F z u144 t2) fun a149 u147 => if a149 = a141 then (if a141 = 0 then (if ((0 : Int32) < 0 ∨ z.2.2 t3 ≤ ((0 : Int32)).toNatClampNeg) then none else if (lg_cmp (u147.2.1 t3 ((0 : Int32)).toNatClampNeg) ((a146).toInt64)) = 0 then (gf_Law_law_b703 F xs L z rc_23 u147 t1 t2 t3 x4) else (some (0 : Int32))) else (gf_Law_law_b703 F xs L z rc_23 u147 t1 t2 t3 x4)) else (some (0 : Int32))) else (if ((xs (x4).toNatClampNeg) &&& (31 : Int32)) = 8 then (if ((x4 + (1 : Int32)) < 0 ∨ L ≤ ((x4 + (1 : Int32))).toNatClampNeg) then none else if ((x4 + (2 : Int32)) < 0 ∨ L ≤ ((x4 + (2 : Int32))).toNatClampNeg) then none else gf_cl (gf_Law_arbor F z u t1 (xs ((x4 + (1 : Int32))).toNatClampNeg) (xs ((x4 + (2 : Int32))).toNatClampNeg) t3) fun a159 u157 => if ((x4 + (1 : Int32)) < 0 ∨ L ≤ ((x4 + (1 : Int32))).toNatClampNeg) then none else if ((x4 + (2 : Int32)) < 0 ∨ L ≤ ((x4 + (2 : Int32))).toNatClampNeg) then none else gf_cl (gf_Model_arbor F z u157 t2 (xs ((x4 + (1 : Int32))).toNatClampNeg) (xs ((x4 + (2 : Int32))).toNatClampNeg)) fun a164 u162 => gf_cl (gf_Model_thrown F z u162 t2) fun a167 u165 => if a167 = a159 then (if a159 = 0 then (if ((0 : Int32) < 0 ∨ z.2.2 t3 ≤ ((0 : Int32)).toNatClampNeg) then none else if (lg_cmp (u165.2.1 t3 ((0 : Int32)).toNatClampNeg) ((a164).toInt64)) = 0 then (gf_Law_law_b771 F xs L z rc_23 u165 t1 t2 t3 x4) else (some (0 : Int32))) else (gf_Law_law_b771 F xs L z rc_23 u165 t1 t2 t3 x4)) else (some (0 : Int32))) else (if ((xs (x4).toNatClampNeg) &&& (31 : Int32)) = 9 then (if ((x4 + (1 : Int32)) < 0 ∨ L ≤ ((x4 + (1 : Int32))).toNatClampNeg) then none else if ((x4 + (2 : Int32)) < 0 ∨ L ≤ ((x4 + (2 : Int32))).toNatClampNeg) then none else if ((x4 + (3 : Int32)) < 0 ∨ L ≤ ((x4 + (3 : Int32))).toNatClampNeg) then none else gf_cl (gf_Law_planet F z u t1 (xs ((x4 + (1 : Int32))).toNatClampNeg) (xs ((x4 + (2 : Int32))).toNatClampNeg) (xs ((x4 + (3 : Int32))).toNatClampNeg) t3) fun a178 u176 => if ((x4 + (1 : Int32)) < 0 ∨ L ≤ ((x4 + (1 : Int32))).toNatClampNeg) then none else if ((x4 + (2 : Int32)) < 0 ∨ L ≤ ((x4 + (2 : Int32))).toNatClampNeg) then none else if ((x4 + (3 : Int32)) < 0 ∨ L ≤ ((x4 + (3 : Int32))).toNatClampNeg) then none else gf_cl (gf_Model_planet F z u176 t2 (xs ((x4 + (1 : Int32))).toNatClampNeg) (xs ((x4 + (2 : Int32))).toNatClampNeg) (xs ((x4 + (3 : Int32))).toNatClampNeg)) fun a184 u182 => gf_cl (gf_Model_thrown F z u182 t2) fun a187 u185 => if a187 = a178 then (if a178 = 0 then (if ((0 : Int32) < 0 ∨ z.2.2 t3 ≤ ((0 : Int32)).toNatClampNeg) then none else if (lg_cmp (u185.2.1 t3 ((0 : Int32)).toNatClampNeg) ((a184).toInt64)) = 0 then (gf_Law_law_b851 F xs L z rc_23 u185 t1 t2 t3 x4) else (some (0 : Int32))) else (gf_Law_law_b851 F xs L z rc_23 u185 t1 t2 t3 x4)) else (some (0 : Int32))) else (if ((xs (x4).toNatClampNeg) &&& (31 : Int32)) = 10 then (if ((x4 + (1 : Int32)) < 0 ∨ L ≤ ((x4 + (1 : Int32))).toNatClampNeg) then none else gf_cl (gf_Law_remove F z u t1 (xs ((x4 + (1 : Int32))).toNatClampNeg) t3) fun a196 u194 => if ((x4 + (1 : Int32)) < 0 ∨ L ≤ ((x4 + (1 : Int32))).toNatClampNeg) then none else gf_cl (gf_Model_remove F z u194 t2 (xs ((x4 + (1 : Int32))).toNatClampNeg)) fun a200 u198 => gf_cl (gf_Model_thrown F z u198 t2) fun a203 u201 => if a203 = a196 then (if a196 = 0 then (if ((0 : Int32) < 0 ∨ z.2.2 t3 ≤ ((0 : Int32)).toNatClampNeg) then none else if (lg_cmp (u201.2.1 t3 ((0 : Int32)).toNatClampNeg) ((a200).toInt64)) = 0 then (gf_Law_law_b907 F xs L z rc_23 u201 t1 t2 t3 x4) else (some (0 : Int32))) else (gf_Law_law_b907 F xs L z rc_23 u201 t1 t2 t3 x4)) else (some (0 : Int32))) else (if ((xs (x4).toNatClampNeg) &&& (31 : Int32)) = 11 then (if ((x4 + (1 : Int32)) < 0 ∨ L ≤ ((x4 + (1 : Int32))).toNatClampNeg) then none else if ((x4 + (2 : Int32)) < 0 ∨ L ≤ ((x4 + (2 : Int32))).toNatClampNeg) then none else gf_cl (gf_Law_relation F z u t1 (xs ((x4 + (1 : Int32))).toNatClampNeg) (xs ((x4 + (2 : Int32))).toNatClampNeg) t3) fun a213 u211 => if ((x4 + (1 : Int32)) < 0 ∨ L ≤ ((x4 + (1 : Int32))).toNatClampNeg) then none else if ((x4 + (2 : Int32)) < 0 ∨ L ≤ ((x4 + (2 : Int32))).toNatClampNeg) then none else gf_cl (gf_Model_relation F z u211 t2 (xs ((x4 + (1 : Int32))).toNatClampNeg) (xs ((x4 + (2 : Int32))).toNatClampNeg)) fun a218 u216 => gf_cl (gf_Model_thrown F z u216 t2) fun a221 u219 => if a221 = a213 then (if a213 = 0 then (if ((0 : Int32) < 0 ∨ z.2.2 t3 ≤ ((0 : Int32)).toNatClampNeg) then none else if (lg_cmp (u219.2.1 t3 ((0 : Int32)).toNatClampNeg) ((a218).toInt64)) = 0 then (gf_Law_law_b975 F xs L z rc_23 u219 t1 t2 t3 x4) else (some (0 : Int32))) else (gf_Law_law_b975 F xs L z rc_23 u219 t1 t2 t3 x4)) else (some (0 : Int32))) else (if ((xs (x4).toNatClampNeg) &&& (31 : Int32)) = 12 then (if ((x4 + (1 : Int32)) < 0 ∨ L ≤ ((x4 + (1 : Int32))).toNatClampNeg) then none else gf_cl (gf_Law_crank F z u t1 (xs ((x4 + (1 : Int32))).toNatClampNeg) t3) fun a230 u228 => if ((x4 + (1 : Int32)) < 0 ∨ L ≤ ((x4 + (1 : Int32))).toNatClampNeg) then none else gf_cl (gf_Model_crank F z u228 t2 (xs ((x4 + (1 : Int32))).toNatClampNeg)) fun a234 u232 => gf_cl (gf_Model_thrown F z u232 t2) fun a237 u235 => if a237 = a230 then (if a230 = 0 then (if ((0 : Int32) < 0 ∨ z.2.2 t3 ≤ ((0 : Int32)).toNatClampNeg) then none else if (lg_cmp (u235.2.1 t3 ((0 : Int32)).toNatClampNeg) ((a234).toInt64)) = 0 then (gf_Law_law_b1031 F xs L z rc_23 u235 t1 t2 t3 x4) else (some (0 : Int32))) else (gf_Law_law_b1031 F xs L z rc_23 u235 t1 t2 t3 x4)) else (some (0 : Int32))) else (if ((xs (x4).toNatClampNeg) &&& (31 : Int32)) = 13 then (gf_cl (gf_Law_solve F z u t1 t3) fun a245 u243 => gf_cl (gf_Model_solve F z u243 t2) fun a248 u246 => gf_cl (gf_Model_thrown F z u246 t2) fun a251 u249 => if a251 = a245 then (if a245 = 0 then (if ((0 : Int32) < 0 ∨ z.2.2 t3 ≤ ((0 : Int32)).toNatClampNeg) then none else if (lg_cmp (u249.2.1 t3 ((0 : Int32)).toNatClampNeg) ((a248).toInt64)) = 0 then (gf_Law_law_b1075 F xs L z rc_23 u249 t1 t2 t3 x4) else (some (0 : Int32))) else (gf_Law_law_b1075 F xs L z rc_23 u249 t1 t2 t3 x4)) else (some (0 : Int32))) else (if ((xs (x4).toNatClampNeg) &&& (31 : Int32)) = 14 then (if ((x4 + (1 : Int32)) < 0 ∨ L ≤ ((x4 + (1 : Int32))).toNatClampNeg) then none else if ((x4 + (2 : Int32)) < 0 ∨ L ≤ ((x4 + (2 : Int32))).toNatClampNeg) then none else if ((x4 + (3 : Int32)) < 0 ∨ L ≤ ((x4 + (3 : Int32))).toNatClampNeg) then none else gf_cl (gf_Law_speed F z u t1 (xs ((x4 + (1 : Int32))).toNatClampNeg) (xs ((x4 + (2 : Int32))).toNatClampNeg) (xs ((x4 + (3 : Int32))).toNatClampNeg) t3) fun a262 u260 => if ((x4 + (1 : Int32)) < 0 ∨ L ≤ ((x4 + (1 : Int32))).toNatClampNeg) then none else if ((x4 + (2 : Int32)) < 0 ∨ L ≤ ((x4 + (2 : Int32))).toNatClampNeg) then none else if ((x4 + (3 : Int32)) < 0 ∨ L ≤ ((x4 + (3 : Int32))).toNatClampNeg) then none else gf_cl (gf_Model_speed F z u260 t2 (xs ((x4 + (1 : Int32))).toNatClampNeg) (xs ((x4 + (2 : Int32))).toNatClampNeg) (xs ((x4 + (3 : Int32))).toNatClampNeg)) fun a268 u266 => gf_cl (gf_Model_thrown F z u266 t2) fun a271 u269 => if a271 = a262 then (if a262 = 0 then (if ((0 : Int32) < 0 ∨ z.2.2 t3 ≤ ((0 : Int32)).toNatClampNeg) then none else if (lg_cmp (u269.2.1 t3 ((0 : Int32)).toNatClampNeg) ((a268).toInt64)) = 0 then (gf_Law_law_b1155 F xs L z rc_23 u269 t1 t2 t3 x4) else (some (0 : Int32))) else (gf_Law_law_b1155 F xs L z rc_23 u269 t1 t2 t3 x4)) else (some (0 : Int32))) else (if ((xs (x4).toNatClampNeg) &&& (31 : Int32)) = 15 then (if ((x4 + (1 : Int32)) < 0 ∨ L ≤ ((x4 + (1 : Int32))).toNatClampNeg) then none else if ((x4 + (2 : Int32)) < 0 ∨ L ≤ ((x4 + (2 : Int32))).toNatClampNeg) then none else if ((x4 + (3 : Int32)) < 0 ∨ L ≤ ((x4 + (3 : Int32))).toNatClampNeg) then none else gf_cl (gf_Law_dial F z u t1 (xs ((x4 + (1 : Int32))).toNatClampNeg) (xs ((x4 + (2 : Int32))).toNatClampNeg) (xs ((x4 + (3 : Int32))).toNatClampNeg) t3) fun a282 u280 => if ((x4 + (1 : Int32)) < 0 ∨ L ≤ ((x4 + (1 : Int32))).toNatClampNeg) then none else if ((x4 + (2 : Int32)) < 0 ∨ L ≤ ((x4 + (2 : Int32))).toNatClampNeg) then none else if ((x4 + (3 : Int32)) < 0 ∨ L ≤ ((x4 + (3 : Int32))).toNatClampNeg) then none else gf_cl (gf_Model_dial F z u280 t2 (xs ((x4 + (1 : Int32))).toNatClampNeg) (xs ((x4 + (2 : Int32))).toNatClampNeg) (xs ((x4 + (3 : Int32))).toNatClampNeg)) fun a288 u286 => gf_cl (gf_Model_thrown F z u286 t2) fun a291 u289 => if a291 = a282 then (if a282 = 0 then (if ((0 : Int32) < 0 ∨ z.2.2 t3 ≤ ((0 : Int32)).toNatClampNeg) then none else if (lg_cmp (u289.2.1 t3 ((0 : Int32)).toNatClampNeg) ((a288).toInt64)) = 0 then (gf_Law_law_b1235 F xs L z rc_23 u289 t1 t2 t3 x4) else (some (0 : Int32))) else (gf_Law_law_b1235 F xs L z rc_23 u289 t1 t2 t3 x4)) else (some (0 : Int32))) else (if ((xs (x4).toNatClampNeg) &&& (31 : Int32)) = 16 then (if ((x4 + (1 : Int32)) < 0 ∨ L ≤ ((x4 + (1 : Int32))).toNatClampNeg) then none else if ((x4 + (2 : Int32)) < 0 ∨ L ≤ ((x4 + (2 : Int32))).toNatClampNeg) then none else if ((x4 + (3 : Int32)) < 0 ∨ L ≤ ((x4 + (3 : Int32))).toNatClampNeg) then none else gf_cl (gf_Law_position F z u t1 (xs ((x4 + (1 : Int32))).toNatClampNeg) (xs ((x4 + (2 : Int32))).toNatClampNeg) (xs ((x4 + (3 : Int32))).toNatClampNeg) t3) fun a302 u300 => if ((x4 + (1 : Int32)) < 0 ∨ L ≤ ((x4 + (1 : Int32))).toNatClampNeg) then none else if ((x4 + (2 : Int32)) < 0 ∨ L ≤ ((x4 + (2 : Int32))).toNatClampNeg) then none else if ((x4 + (3 : Int32)) < 0 ∨ L ≤ ((x4 + (3 : Int32))).toNatClampNeg) then none else gf_cl (gf_Model_position F z u300 t2 (xs ((x4 + (1 : Int32))).toNatClampNeg) (xs ((x4 + (2 : Int32))).toNatClampNeg) (xs ((x4 + (3 : Int32))).toNatClampNeg)) fun a308 u306 => gf_cl (gf_Model_thrown F z u306 t2) fun a311 u309 => if a311 = a302 then (if a302 = 0 then (if ((0 : Int32) < 0 ∨ z.2.2 t3 ≤ ((0 : Int32)).toNatClampNeg) then none else if (lg_cmp (u309.2.1 t3 ((0 : Int32)).toNatClampNeg) ((a308).toInt64)) = 0 then (gf_Law_law_b1315 F xs L z rc_23 u309 t1 t2 t3 x4) else (some (0 : Int32))) else (gf_Law_law_b1315 F xs L z rc_23 u309 t1 t2 t3 x4)) else (some (0 : Int32))) else (if ((xs (x4).toNatClampNeg) &&& (31 : Int32)) = 17 then (if ((x4 + (1 : Int32)) < 0 ∨ L ≤ ((x4 + (1 : Int32))).toNatClampNeg) then none else if ((x4 + (2 : Int32)) < 0 ∨ L ≤ ((x4 + (2 : Int32))).toNatClampNeg) then none else gf_cl (gf_Law_meet F z u t1 (xs ((x4 + (1 : Int32))).toNatClampNeg) (xs ((x4 + (2 : Int32))).toNatClampNeg) t3) fun a321 u319 => if ((x4 + (1 : Int32)) < 0 ∨ L ≤ ((x4 + (1 : Int32))).toNatClampNeg) then none else if ((x4 + (2 : Int32)) < 0 ∨ L ≤ ((x4 + (2 : Int32))).toNatClampNeg) then none else gf_cl (gf_Model_meet F z u319 t2 (xs ((x4 + (1 : Int32))).toNatClampNeg) (xs ((x4 + (2 : Int32))).toNatClampNeg)) fun a326 u324 => gf_cl (gf_Model_thrown F z u324 t2) fun a329 u327 => if a329 = a321 then (if a321 = 0 then (if ((0 : Int32) < 0 ∨ z.2.2 t3 ≤ ((0 : Int32)).toNatClampNeg) then none else if a326 = 0 then (gf_Law_law_b1384 F xs L z rc_23 u327 t1 t2 t3 x4 (u327.2.1 t3 ((0 : Int32)).toNatClampNeg) 0) else (gf_Law_law_b1384 F xs L z rc_23 u327 t1 t2 t3 x4 (u327.2.1 t3 ((0 : Int32)).toNatClampNeg) 1)) else (gf_Law_law_b1390 F xs L z rc_23 u327 t1 t2 t3 x4)) else (some (0 : Int32))) else (if ((xs (x4).toNatClampNeg) &&& (31 : Int32)) = 18 then (gf_cl (gf_Law_back F z u t1 t3) fun a337 u335 => gf_cl (gf_Model_back F z u335 t2) fun a340 u338 => gf_cl (gf_Model_thrown F z u338 t2) fun a343 u341 => if a343 = a337 then (if a337 = 0 then (if ((0 : Int32) < 0 ∨ z.2.2 t3 ≤ ((0 : Int32)).toNatClampNeg) then none else if a340 = 0 then (gf_Law_law_b1435 F xs L z rc_23 u341 t1 t2 t3 x4 (u341.2.1 t3 ((0 : Int32)).toNatClampNeg) 0) else (gf_Law_law_b1435 F xs L z rc_23 u341 t1 t2 t3 x4 (u341.2.1 t3 ((0 : Int32)).toNatClampNeg) 1)) else (gf_Law_law_b1441 F xs L z rc_23 u341 t1 t2 t3 x4)) else (some (0 : Int32))) else (if ((xs (x4).toNatClampNeg) &&& (31 : Int32)) = 19 then (if ((x4 + (1 : Int32)) < 0 ∨ L ≤ ((x4 + (1 : Int32))).toNatClampNeg) then none else if ((x4 + (2 : Int32)) < 0 ∨ L ≤ ((x4 + (2 : Int32))).toNatClampNeg) then none else gf_cl (gf_Law_result F z u t1 (xs ((x4 + (1 : Int32))).toNatClampNeg) (xs ((x4 + (2 : Int32))).toNatClampNeg) t3) fun a353 u351 => if ((x4 + (1 : Int32)) < 0 ∨ L ≤ ((x4 + (1 : Int32))).toNatClampNeg) then none else if ((x4 + (2 : Int32)) < 0 ∨ L ≤ ((x4 + (2 : Int32))).toNatClampNeg) then none else gf_cl (gf_Model_result F z u351 t2 (xs ((x4 + (1 : Int32))).toNatClampNeg) (xs ((x4 + (2 : Int32))).toNatClampNeg)) fun a358 u356 => gf_cl (gf_Model_thrown F z u356 t2) fun a361 u359 => if a361 = a353 then (if a353 = 0 then (if ((0 : Int32) < 0 ∨ z.2.2 t3 ≤ ((0 : Int32)).toNatClampNeg) then none else if (lg_cmp (u359.2.1 t3 ((0 : Int32)).toNatClampNeg) ((a358).toInt64)) = 0 then (gf_Law_law_b1509 F xs L z rc_23 u359 t1 t2 t3 x4) else (some (0 : Int32))) else (gf_Law_law_b1509 F xs L z rc_23 u359 t1 t2 t3 x4)) else (some (0 : Int32))) else (if ((xs (x4).toNatClampNeg) &&& (31 : Int32)) = 20 then (gf_cl (gf_Desk_clear F z u t1) fun a369 u367 => gf_cl (gf_Model_clear F z u367 t2) fun a372 u370 => if a369 = a372 then (gf_Law_law_b1550 F xs L z rc_23 u370 t1 t2 t3 x4) else (some (0 : Int32))) else (if ((xs (x4).toNatClampNeg) &&& (31 : Int32)) = 21 then (if ((x4 + (1 : Int32)) < 0 ∨ L ≤ ((x4 + (1 : Int32))).toNatClampNeg) then none else gf_cl (gf_Desk_count F z u t1 (xs ((x4 + (1 : Int32))).toNatClampNeg)) fun a378 u376 => if ((x4 + (1 : Int32)) < 0 ∨ L ≤ ((x4 + (1 : Int32))).toNatClampNeg) then none else gf_cl (gf_Model_count F z u376 t2 (xs ((x4 + (1 : Int32))).toNatClampNeg)) fun a382 u380 => if a378 = a382 then (gf_Law_law_b1550 F xs L z rc_23 u380 t1 t2 t3 x4) else (some (0 : Int32))) else (gf_Law_law_b1550 F xs L z rc_23 u t1 t2 t3 x4)))))))))))))))))))))))
def gf_Law_law_L23 (F : Nat) (xs : Nat → Int32) (L : Nat) (z : gw_Sh)  : Nat → gw_St → Nat → Nat → Nat → Int32 → Option Int32
  | 0 => fun _ _ _ _ _ => none
  | n + 1 => fun u t1 t2 t3 x4 => gf_Law_law_S23 F xs L z  (gf_Law_law_L23 F xs L z  n) u t1 t2 t3 x4
set_option maxHeartbeats 4000000 in
set_option maxRecDepth 20000 in
theorem gx_Law_law_b1550 {p : Program} {l : Launch} {e : Env} {s : State} {m : MethodId} {b : Nat} {below : List Frame} {meth : Method} {c : Code} {D : va_G} {cA : Nat → ClassId} {hs : Nat → Nat} {z : gw_Sh} {xs : Nat → Int32} {L n : Nat} (F : Nat) {r0 : Int32} (C : gw_Cx p s m #[Value.ref b] c code 8 R_Law D cA) (hr : meth.sig.returnType = ret) (hk : meth.locks = false) (hfl : l.flags = pinnedFlags ++ [noTraceFlag]) (hZ : xt_Zs (gw_A hs gw_z0 s.heap.size) s s.heap) (hN : xt_Nn s) (hX : va_X b L xs s s.heap) (hbl : b < s.heap.size) (hn : n < 513) (hr1 : r0 = 1) {rc_23 : gw_St → Nat → Nat → Nat → Int32 → Option Int32} (k_23 : ∀ (u : gw_St) (t1 : Nat) (t2 : Nat) (t3 : Nat) (x4 : Int32) (H : Heap) (locs : List Loc) (ls : Array Slot), gw_ok z t1 0 → gw_ok z t2 9 → gw_ok z t3 11 → gw_Wd D cA hs z (gw_A hs gw_z0 s.heap.size) s.heap u H locs → lv_has ls 8 [(0, .ref b), (1, .ref (hs t1)), (2, .ref (hs t2)), (3, .ref (hs t3)), (4, .int x4)] → rc_23 u t1 t2 t3 x4 = some r0 → gw_GL p l e s m b below meth c H locs ls (n + 1) 23 []) (u : gw_St) (t1 : Nat) (t2 : Nat) (t3 : Nat) (x4 : Int32) (o_t1 : gw_ok z t1 0) (o_t2 : gw_ok z t2 9) (o_t3 : gw_ok z t3 11) {H : Heap} {locs : List Loc} {ls : Array Slot} (hW : gw_Wd D cA hs z (gw_A hs gw_z0 s.heap.size) s.heap u H locs) (hl : lv_has ls 8 [(0, .ref b), (1, .ref (hs t1)), (2, .ref (hs t2)), (3, .ref (hs t3)), (4, .int x4)]) (h : gf_Law_law_b1550 F xs L z rc_23  u t1 t2 t3 x4 = some r0) : gw_GL p l e s m b below meth c H locs ls (n + 1) 1550 [] := by
  obtain ⟨hx, hb, hml, hown, hts, hK⟩ := id C
  unfold gf_Law_law_b1550 at h
  obtain ⟨a1, e2⟩ : ∃ y : Int32, y = x4 + 6 := ⟨_, rfl⟩
  have h := gf_nm_ok e2 h
  refine lv_iinc (v := a1) (lv' := [(4, .int a1), (0, .ref b), (1, .ref (hs t1)), (2, .ref (hs t2)), (3, .ref (hs t3))]) hx hb gd_Law_law_1550 hl (k := 4) rfl (by rw [e2]; rfl) (by decide) rfl (fun ls hl => ?_)
  refine lv_goto (tgt := 23) hx hb gd_Law_law_1553 (by decide) ?_
  exact k_23 u t1 t2 t3 a1 _ _ _ o_t1 o_t2 o_t3 hW (lv_sub hl [1, 2, 3, 4, 0] rfl) h

set_option maxHeartbeats 4000000 in
set_option maxRecDepth 20000 in
theorem gx_Law_law_b1509 {p : Program} {l : Launch} {e : Env} {s : State} {m : MethodId} {b : Nat} {below : List Frame} {meth : Method} {c : Code} {D : va_G} {cA : Nat → ClassId} {hs : Nat → Nat} {z : gw_Sh} {xs : Nat → Int32} {L n : Nat} (F : Nat) {r0 : Int32} (C : gw_Cx p s m #[Value.ref b] c code 8 R_Law D cA) (hr : meth.sig.returnType = ret) (hk : meth.locks = false) (hfl : l.flags = pinnedFlags ++ [noTraceFlag]) (hZ : xt_Zs (gw_A hs gw_z0 s.heap.size) s s.heap) (hN : xt_Nn s) (hX : va_X b L xs s s.heap) (hbl : b < s.heap.size) (hn : n < 513) (hr1 : r0 = 1) {rc_23 : gw_St → Nat → Nat → Nat → Int32 → Option Int32} (k_23 : ∀ (u : gw_St) (t1 : Nat) (t2 : Nat) (t3 : Nat) (x4 : Int32) (H : Heap) (locs : List Loc) (ls : Array Slot), gw_ok z t1 0 → gw_ok z t2 9 → gw_ok z t3 11 → gw_Wd D cA hs z (gw_A hs gw_z0 s.heap.size) s.heap u H locs → lv_has ls 8 [(0, .ref b), (1, .ref (hs t1)), (2, .ref (hs t2)), (3, .ref (hs t3)), (4, .int x4)] → rc_23 u t1 t2 t3 x4 = some r0 → gw_GL p l e s m b below meth c H locs ls (n + 1) 23 []) (u : gw_St) (t1 : Nat) (t2 : Nat) (t3 : Nat) (x4 : Int32) (o_t1 : gw_ok z t1 0) (o_t2 : gw_ok z t2 9) (o_t3 : gw_ok z t3 11) {H : Heap} {locs : List Loc} {ls : Array Slot} (hW : gw_Wd D cA hs z (gw_A hs gw_z0 s.heap.size) s.heap u H locs) (hl : lv_has ls 8 [(0, .ref b), (1, .ref (hs t1)), (2, .ref (hs t2)), (3, .ref (hs t3)), (4, .int x4)]) (h : gf_Law_law_b1509 F xs L z rc_23  u t1 t2 t3 x4 = some r0) : gw_GL p l e s m b below meth c H locs ls (n + 1) 1509 [] := by
  obtain ⟨hx, hb, hml, hown, hts, hK⟩ := id C
  unfold gf_Law_law_b1509 at h
  refine lv_goto (tgt := 1550) hx hb gd_Law_law_1509 (by decide) ?_
  exact gx_Law_law_b1550 F C hr hk hfl hZ hN hX hbl hn hr1 k_23 u t1 t2 t3 x4 o_t1 o_t2 o_t3 hW (lv_sub hl [0, 1, 2, 3, 4] rfl) h

set_option maxHeartbeats 4000000 in
set_option maxRecDepth 20000 in
theorem gx_Law_law_b1441 {p : Program} {l : Launch} {e : Env} {s : State} {m : MethodId} {b : Nat} {below : List Frame} {meth : Method} {c : Code} {D : va_G} {cA : Nat → ClassId} {hs : Nat → Nat} {z : gw_Sh} {xs : Nat → Int32} {L n : Nat} (F : Nat) {r0 : Int32} (C : gw_Cx p s m #[Value.ref b] c code 8 R_Law D cA) (hr : meth.sig.returnType = ret) (hk : meth.locks = false) (hfl : l.flags = pinnedFlags ++ [noTraceFlag]) (hZ : xt_Zs (gw_A hs gw_z0 s.heap.size) s s.heap) (hN : xt_Nn s) (hX : va_X b L xs s s.heap) (hbl : b < s.heap.size) (hn : n < 513) (hr1 : r0 = 1) {rc_23 : gw_St → Nat → Nat → Nat → Int32 → Option Int32} (k_23 : ∀ (u : gw_St) (t1 : Nat) (t2 : Nat) (t3 : Nat) (x4 : Int32) (H : Heap) (locs : List Loc) (ls : Array Slot), gw_ok z t1 0 → gw_ok z t2 9 → gw_ok z t3 11 → gw_Wd D cA hs z (gw_A hs gw_z0 s.heap.size) s.heap u H locs → lv_has ls 8 [(0, .ref b), (1, .ref (hs t1)), (2, .ref (hs t2)), (3, .ref (hs t3)), (4, .int x4)] → rc_23 u t1 t2 t3 x4 = some r0 → gw_GL p l e s m b below meth c H locs ls (n + 1) 23 []) (u : gw_St) (t1 : Nat) (t2 : Nat) (t3 : Nat) (x4 : Int32) (o_t1 : gw_ok z t1 0) (o_t2 : gw_ok z t2 9) (o_t3 : gw_ok z t3 11) {H : Heap} {locs : List Loc} {ls : Array Slot} (hW : gw_Wd D cA hs z (gw_A hs gw_z0 s.heap.size) s.heap u H locs) (hl : lv_has ls 8 [(0, .ref b), (1, .ref (hs t1)), (2, .ref (hs t2)), (3, .ref (hs t3)), (4, .int x4)]) (h : gf_Law_law_b1441 F xs L z rc_23  u t1 t2 t3 x4 = some r0) : gw_GL p l e s m b below meth c H locs ls (n + 1) 1441 [] := by
  obtain ⟨hx, hb, hml, hown, hts, hK⟩ := id C
  unfold gf_Law_law_b1441 at h
  refine lv_goto (tgt := 1550) hx hb gd_Law_law_1441 (by decide) ?_
  exact gx_Law_law_b1550 F C hr hk hfl hZ hN hX hbl hn hr1 k_23 u t1 t2 t3 x4 o_t1 o_t2 o_t3 hW (lv_sub hl [0, 1, 2, 3, 4] rfl) h

set_option maxHeartbeats 4000000 in
set_option maxRecDepth 20000 in
theorem gx_Law_law_b1435 {p : Program} {l : Launch} {e : Env} {s : State} {m : MethodId} {b : Nat} {below : List Frame} {meth : Method} {c : Code} {D : va_G} {cA : Nat → ClassId} {hs : Nat → Nat} {z : gw_Sh} {xs : Nat → Int32} {L n : Nat} (F : Nat) {r0 : Int32} (C : gw_Cx p s m #[Value.ref b] c code 8 R_Law D cA) (hr : meth.sig.returnType = ret) (hk : meth.locks = false) (hfl : l.flags = pinnedFlags ++ [noTraceFlag]) (hZ : xt_Zs (gw_A hs gw_z0 s.heap.size) s s.heap) (hN : xt_Nn s) (hX : va_X b L xs s s.heap) (hbl : b < s.heap.size) (hn : n < 513) (hr1 : r0 = 1) {rc_23 : gw_St → Nat → Nat → Nat → Int32 → Option Int32} (k_23 : ∀ (u : gw_St) (t1 : Nat) (t2 : Nat) (t3 : Nat) (x4 : Int32) (H : Heap) (locs : List Loc) (ls : Array Slot), gw_ok z t1 0 → gw_ok z t2 9 → gw_ok z t3 11 → gw_Wd D cA hs z (gw_A hs gw_z0 s.heap.size) s.heap u H locs → lv_has ls 8 [(0, .ref b), (1, .ref (hs t1)), (2, .ref (hs t2)), (3, .ref (hs t3)), (4, .int x4)] → rc_23 u t1 t2 t3 x4 = some r0 → gw_GL p l e s m b below meth c H locs ls (n + 1) 23 []) (u : gw_St) (t1 : Nat) (t2 : Nat) (t3 : Nat) (x4 : Int32) (sy0 : Int64) (sy1 : Int64) (o_t1 : gw_ok z t1 0) (o_t2 : gw_ok z t2 9) (o_t3 : gw_ok z t3 11) {H : Heap} {locs : List Loc} {ls : Array Slot} (hW : gw_Wd D cA hs z (gw_A hs gw_z0 s.heap.size) s.heap u H locs) (hl : lv_has ls 8 [(0, .ref b), (1, .ref (hs t1)), (2, .ref (hs t2)), (3, .ref (hs t3)), (4, .int x4)]) (h : gf_Law_law_b1435 F xs L z rc_23  u t1 t2 t3 x4 sy0 sy1 = some r0) : gw_GL p l e s m b below meth c H locs ls (n + 1) 1435 [.long sy1, .long sy0] := by
  obtain ⟨hx, hb, hml, hown, hts, hK⟩ := id C
  unfold gf_Law_law_b1435 at h
  refine W.lcmp hx hb gd_Law_law_1435 ?_
  refine lv_if_eq (tgt := 1441) hx hb gd_Law_law_1436 (by decide) (fun c3 => ?_) (fun c3 => ?_)
  · have h := gf_t c3 h
    exact gx_Law_law_b1441 F C hr hk hfl hZ hN hX hbl hn hr1 k_23 u t1 t2 t3 x4 o_t1 o_t2 o_t3 hW (lv_sub hl [0, 1, 2, 3, 4] rfl) h
  · have h := gf_f c3 h
    refine lv_iconst (v := 0) hx hb gd_Law_law_1439 (by decide) ?_
    obtain rfl := Option.some.inj h
    exact absurd hr1 (by decide)

set_option maxHeartbeats 4000000 in
set_option maxRecDepth 20000 in
theorem gx_Law_law_b1390 {p : Program} {l : Launch} {e : Env} {s : State} {m : MethodId} {b : Nat} {below : List Frame} {meth : Method} {c : Code} {D : va_G} {cA : Nat → ClassId} {hs : Nat → Nat} {z : gw_Sh} {xs : Nat → Int32} {L n : Nat} (F : Nat) {r0 : Int32} (C : gw_Cx p s m #[Value.ref b] c code 8 R_Law D cA) (hr : meth.sig.returnType = ret) (hk : meth.locks = false) (hfl : l.flags = pinnedFlags ++ [noTraceFlag]) (hZ : xt_Zs (gw_A hs gw_z0 s.heap.size) s s.heap) (hN : xt_Nn s) (hX : va_X b L xs s s.heap) (hbl : b < s.heap.size) (hn : n < 513) (hr1 : r0 = 1) {rc_23 : gw_St → Nat → Nat → Nat → Int32 → Option Int32} (k_23 : ∀ (u : gw_St) (t1 : Nat) (t2 : Nat) (t3 : Nat) (x4 : Int32) (H : Heap) (locs : List Loc) (ls : Array Slot), gw_ok z t1 0 → gw_ok z t2 9 → gw_ok z t3 11 → gw_Wd D cA hs z (gw_A hs gw_z0 s.heap.size) s.heap u H locs → lv_has ls 8 [(0, .ref b), (1, .ref (hs t1)), (2, .ref (hs t2)), (3, .ref (hs t3)), (4, .int x4)] → rc_23 u t1 t2 t3 x4 = some r0 → gw_GL p l e s m b below meth c H locs ls (n + 1) 23 []) (u : gw_St) (t1 : Nat) (t2 : Nat) (t3 : Nat) (x4 : Int32) (o_t1 : gw_ok z t1 0) (o_t2 : gw_ok z t2 9) (o_t3 : gw_ok z t3 11) {H : Heap} {locs : List Loc} {ls : Array Slot} (hW : gw_Wd D cA hs z (gw_A hs gw_z0 s.heap.size) s.heap u H locs) (hl : lv_has ls 8 [(0, .ref b), (1, .ref (hs t1)), (2, .ref (hs t2)), (3, .ref (hs t3)), (4, .int x4)]) (h : gf_Law_law_b1390 F xs L z rc_23  u t1 t2 t3 x4 = some r0) : gw_GL p l e s m b below meth c H locs ls (n + 1) 1390 [] := by
  obtain ⟨hx, hb, hml, hown, hts, hK⟩ := id C
  unfold gf_Law_law_b1390 at h
  refine lv_goto (tgt := 1550) hx hb gd_Law_law_1390 (by decide) ?_
  exact gx_Law_law_b1550 F C hr hk hfl hZ hN hX hbl hn hr1 k_23 u t1 t2 t3 x4 o_t1 o_t2 o_t3 hW (lv_sub hl [0, 1, 2, 3, 4] rfl) h

set_option maxHeartbeats 4000000 in
set_option maxRecDepth 20000 in
theorem gx_Law_law_b1384 {p : Program} {l : Launch} {e : Env} {s : State} {m : MethodId} {b : Nat} {below : List Frame} {meth : Method} {c : Code} {D : va_G} {cA : Nat → ClassId} {hs : Nat → Nat} {z : gw_Sh} {xs : Nat → Int32} {L n : Nat} (F : Nat) {r0 : Int32} (C : gw_Cx p s m #[Value.ref b] c code 8 R_Law D cA) (hr : meth.sig.returnType = ret) (hk : meth.locks = false) (hfl : l.flags = pinnedFlags ++ [noTraceFlag]) (hZ : xt_Zs (gw_A hs gw_z0 s.heap.size) s s.heap) (hN : xt_Nn s) (hX : va_X b L xs s s.heap) (hbl : b < s.heap.size) (hn : n < 513) (hr1 : r0 = 1) {rc_23 : gw_St → Nat → Nat → Nat → Int32 → Option Int32} (k_23 : ∀ (u : gw_St) (t1 : Nat) (t2 : Nat) (t3 : Nat) (x4 : Int32) (H : Heap) (locs : List Loc) (ls : Array Slot), gw_ok z t1 0 → gw_ok z t2 9 → gw_ok z t3 11 → gw_Wd D cA hs z (gw_A hs gw_z0 s.heap.size) s.heap u H locs → lv_has ls 8 [(0, .ref b), (1, .ref (hs t1)), (2, .ref (hs t2)), (3, .ref (hs t3)), (4, .int x4)] → rc_23 u t1 t2 t3 x4 = some r0 → gw_GL p l e s m b below meth c H locs ls (n + 1) 23 []) (u : gw_St) (t1 : Nat) (t2 : Nat) (t3 : Nat) (x4 : Int32) (sy0 : Int64) (sy1 : Int64) (o_t1 : gw_ok z t1 0) (o_t2 : gw_ok z t2 9) (o_t3 : gw_ok z t3 11) {H : Heap} {locs : List Loc} {ls : Array Slot} (hW : gw_Wd D cA hs z (gw_A hs gw_z0 s.heap.size) s.heap u H locs) (hl : lv_has ls 8 [(0, .ref b), (1, .ref (hs t1)), (2, .ref (hs t2)), (3, .ref (hs t3)), (4, .int x4)]) (h : gf_Law_law_b1384 F xs L z rc_23  u t1 t2 t3 x4 sy0 sy1 = some r0) : gw_GL p l e s m b below meth c H locs ls (n + 1) 1384 [.long sy1, .long sy0] := by
  obtain ⟨hx, hb, hml, hown, hts, hK⟩ := id C
  unfold gf_Law_law_b1384 at h
  refine W.lcmp hx hb gd_Law_law_1384 ?_
  refine lv_if_eq (tgt := 1390) hx hb gd_Law_law_1385 (by decide) (fun c4 => ?_) (fun c4 => ?_)
  · have h := gf_t c4 h
    exact gx_Law_law_b1390 F C hr hk hfl hZ hN hX hbl hn hr1 k_23 u t1 t2 t3 x4 o_t1 o_t2 o_t3 hW (lv_sub hl [0, 1, 2, 3, 4] rfl) h
  · have h := gf_f c4 h
    refine lv_iconst (v := 0) hx hb gd_Law_law_1388 (by decide) ?_
    obtain rfl := Option.some.inj h
    exact absurd hr1 (by decide)

set_option maxHeartbeats 4000000 in
set_option maxRecDepth 20000 in
theorem gx_Law_law_b1315 {p : Program} {l : Launch} {e : Env} {s : State} {m : MethodId} {b : Nat} {below : List Frame} {meth : Method} {c : Code} {D : va_G} {cA : Nat → ClassId} {hs : Nat → Nat} {z : gw_Sh} {xs : Nat → Int32} {L n : Nat} (F : Nat) {r0 : Int32} (C : gw_Cx p s m #[Value.ref b] c code 8 R_Law D cA) (hr : meth.sig.returnType = ret) (hk : meth.locks = false) (hfl : l.flags = pinnedFlags ++ [noTraceFlag]) (hZ : xt_Zs (gw_A hs gw_z0 s.heap.size) s s.heap) (hN : xt_Nn s) (hX : va_X b L xs s s.heap) (hbl : b < s.heap.size) (hn : n < 513) (hr1 : r0 = 1) {rc_23 : gw_St → Nat → Nat → Nat → Int32 → Option Int32} (k_23 : ∀ (u : gw_St) (t1 : Nat) (t2 : Nat) (t3 : Nat) (x4 : Int32) (H : Heap) (locs : List Loc) (ls : Array Slot), gw_ok z t1 0 → gw_ok z t2 9 → gw_ok z t3 11 → gw_Wd D cA hs z (gw_A hs gw_z0 s.heap.size) s.heap u H locs → lv_has ls 8 [(0, .ref b), (1, .ref (hs t1)), (2, .ref (hs t2)), (3, .ref (hs t3)), (4, .int x4)] → rc_23 u t1 t2 t3 x4 = some r0 → gw_GL p l e s m b below meth c H locs ls (n + 1) 23 []) (u : gw_St) (t1 : Nat) (t2 : Nat) (t3 : Nat) (x4 : Int32) (o_t1 : gw_ok z t1 0) (o_t2 : gw_ok z t2 9) (o_t3 : gw_ok z t3 11) {H : Heap} {locs : List Loc} {ls : Array Slot} (hW : gw_Wd D cA hs z (gw_A hs gw_z0 s.heap.size) s.heap u H locs) (hl : lv_has ls 8 [(0, .ref b), (1, .ref (hs t1)), (2, .ref (hs t2)), (3, .ref (hs t3)), (4, .int x4)]) (h : gf_Law_law_b1315 F xs L z rc_23  u t1 t2 t3 x4 = some r0) : gw_GL p l e s m b below meth c H locs ls (n + 1) 1315 [] := by
  obtain ⟨hx, hb, hml, hown, hts, hK⟩ := id C
  unfold gf_Law_law_b1315 at h
  refine lv_goto (tgt := 1550) hx hb gd_Law_law_1315 (by decide) ?_
  exact gx_Law_law_b1550 F C hr hk hfl hZ hN hX hbl hn hr1 k_23 u t1 t2 t3 x4 o_t1 o_t2 o_t3 hW (lv_sub hl [0, 1, 2, 3, 4] rfl) h

set_option maxHeartbeats 4000000 in
set_option maxRecDepth 20000 in
theorem gx_Law_law_b1235 {p : Program} {l : Launch} {e : Env} {s : State} {m : MethodId} {b : Nat} {below : List Frame} {meth : Method} {c : Code} {D : va_G} {cA : Nat → ClassId} {hs : Nat → Nat} {z : gw_Sh} {xs : Nat → Int32} {L n : Nat} (F : Nat) {r0 : Int32} (C : gw_Cx p s m #[Value.ref b] c code 8 R_Law D cA) (hr : meth.sig.returnType = ret) (hk : meth.locks = false) (hfl : l.flags = pinnedFlags ++ [noTraceFlag]) (hZ : xt_Zs (gw_A hs gw_z0 s.heap.size) s s.heap) (hN : xt_Nn s) (hX : va_X b L xs s s.heap) (hbl : b < s.heap.size) (hn : n < 513) (hr1 : r0 = 1) {rc_23 : gw_St → Nat → Nat → Nat → Int32 → Option Int32} (k_23 : ∀ (u : gw_St) (t1 : Nat) (t2 : Nat) (t3 : Nat) (x4 : Int32) (H : Heap) (locs : List Loc) (ls : Array Slot), gw_ok z t1 0 → gw_ok z t2 9 → gw_ok z t3 11 → gw_Wd D cA hs z (gw_A hs gw_z0 s.heap.size) s.heap u H locs → lv_has ls 8 [(0, .ref b), (1, .ref (hs t1)), (2, .ref (hs t2)), (3, .ref (hs t3)), (4, .int x4)] → rc_23 u t1 t2 t3 x4 = some r0 → gw_GL p l e s m b below meth c H locs ls (n + 1) 23 []) (u : gw_St) (t1 : Nat) (t2 : Nat) (t3 : Nat) (x4 : Int32) (o_t1 : gw_ok z t1 0) (o_t2 : gw_ok z t2 9) (o_t3 : gw_ok z t3 11) {H : Heap} {locs : List Loc} {ls : Array Slot} (hW : gw_Wd D cA hs z (gw_A hs gw_z0 s.heap.size) s.heap u H locs) (hl : lv_has ls 8 [(0, .ref b), (1, .ref (hs t1)), (2, .ref (hs t2)), (3, .ref (hs t3)), (4, .int x4)]) (h : gf_Law_law_b1235 F xs L z rc_23  u t1 t2 t3 x4 = some r0) : gw_GL p l e s m b below meth c H locs ls (n + 1) 1235 [] := by
  obtain ⟨hx, hb, hml, hown, hts, hK⟩ := id C
  unfold gf_Law_law_b1235 at h
  refine lv_goto (tgt := 1550) hx hb gd_Law_law_1235 (by decide) ?_
  exact gx_Law_law_b1550 F C hr hk hfl hZ hN hX hbl hn hr1 k_23 u t1 t2 t3 x4 o_t1 o_t2 o_t3 hW (lv_sub hl [0, 1, 2, 3, 4] rfl) h

set_option maxHeartbeats 4000000 in
set_option maxRecDepth 20000 in
theorem gx_Law_law_b1155 {p : Program} {l : Launch} {e : Env} {s : State} {m : MethodId} {b : Nat} {below : List Frame} {meth : Method} {c : Code} {D : va_G} {cA : Nat → ClassId} {hs : Nat → Nat} {z : gw_Sh} {xs : Nat → Int32} {L n : Nat} (F : Nat) {r0 : Int32} (C : gw_Cx p s m #[Value.ref b] c code 8 R_Law D cA) (hr : meth.sig.returnType = ret) (hk : meth.locks = false) (hfl : l.flags = pinnedFlags ++ [noTraceFlag]) (hZ : xt_Zs (gw_A hs gw_z0 s.heap.size) s s.heap) (hN : xt_Nn s) (hX : va_X b L xs s s.heap) (hbl : b < s.heap.size) (hn : n < 513) (hr1 : r0 = 1) {rc_23 : gw_St → Nat → Nat → Nat → Int32 → Option Int32} (k_23 : ∀ (u : gw_St) (t1 : Nat) (t2 : Nat) (t3 : Nat) (x4 : Int32) (H : Heap) (locs : List Loc) (ls : Array Slot), gw_ok z t1 0 → gw_ok z t2 9 → gw_ok z t3 11 → gw_Wd D cA hs z (gw_A hs gw_z0 s.heap.size) s.heap u H locs → lv_has ls 8 [(0, .ref b), (1, .ref (hs t1)), (2, .ref (hs t2)), (3, .ref (hs t3)), (4, .int x4)] → rc_23 u t1 t2 t3 x4 = some r0 → gw_GL p l e s m b below meth c H locs ls (n + 1) 23 []) (u : gw_St) (t1 : Nat) (t2 : Nat) (t3 : Nat) (x4 : Int32) (o_t1 : gw_ok z t1 0) (o_t2 : gw_ok z t2 9) (o_t3 : gw_ok z t3 11) {H : Heap} {locs : List Loc} {ls : Array Slot} (hW : gw_Wd D cA hs z (gw_A hs gw_z0 s.heap.size) s.heap u H locs) (hl : lv_has ls 8 [(0, .ref b), (1, .ref (hs t1)), (2, .ref (hs t2)), (3, .ref (hs t3)), (4, .int x4)]) (h : gf_Law_law_b1155 F xs L z rc_23  u t1 t2 t3 x4 = some r0) : gw_GL p l e s m b below meth c H locs ls (n + 1) 1155 [] := by
  obtain ⟨hx, hb, hml, hown, hts, hK⟩ := id C
  unfold gf_Law_law_b1155 at h
  refine lv_goto (tgt := 1550) hx hb gd_Law_law_1155 (by decide) ?_
  exact gx_Law_law_b1550 F C hr hk hfl hZ hN hX hbl hn hr1 k_23 u t1 t2 t3 x4 o_t1 o_t2 o_t3 hW (lv_sub hl [0, 1, 2, 3, 4] rfl) h

set_option maxHeartbeats 4000000 in
set_option maxRecDepth 20000 in
theorem gx_Law_law_b1075 {p : Program} {l : Launch} {e : Env} {s : State} {m : MethodId} {b : Nat} {below : List Frame} {meth : Method} {c : Code} {D : va_G} {cA : Nat → ClassId} {hs : Nat → Nat} {z : gw_Sh} {xs : Nat → Int32} {L n : Nat} (F : Nat) {r0 : Int32} (C : gw_Cx p s m #[Value.ref b] c code 8 R_Law D cA) (hr : meth.sig.returnType = ret) (hk : meth.locks = false) (hfl : l.flags = pinnedFlags ++ [noTraceFlag]) (hZ : xt_Zs (gw_A hs gw_z0 s.heap.size) s s.heap) (hN : xt_Nn s) (hX : va_X b L xs s s.heap) (hbl : b < s.heap.size) (hn : n < 513) (hr1 : r0 = 1) {rc_23 : gw_St → Nat → Nat → Nat → Int32 → Option Int32} (k_23 : ∀ (u : gw_St) (t1 : Nat) (t2 : Nat) (t3 : Nat) (x4 : Int32) (H : Heap) (locs : List Loc) (ls : Array Slot), gw_ok z t1 0 → gw_ok z t2 9 → gw_ok z t3 11 → gw_Wd D cA hs z (gw_A hs gw_z0 s.heap.size) s.heap u H locs → lv_has ls 8 [(0, .ref b), (1, .ref (hs t1)), (2, .ref (hs t2)), (3, .ref (hs t3)), (4, .int x4)] → rc_23 u t1 t2 t3 x4 = some r0 → gw_GL p l e s m b below meth c H locs ls (n + 1) 23 []) (u : gw_St) (t1 : Nat) (t2 : Nat) (t3 : Nat) (x4 : Int32) (o_t1 : gw_ok z t1 0) (o_t2 : gw_ok z t2 9) (o_t3 : gw_ok z t3 11) {H : Heap} {locs : List Loc} {ls : Array Slot} (hW : gw_Wd D cA hs z (gw_A hs gw_z0 s.heap.size) s.heap u H locs) (hl : lv_has ls 8 [(0, .ref b), (1, .ref (hs t1)), (2, .ref (hs t2)), (3, .ref (hs t3)), (4, .int x4)]) (h : gf_Law_law_b1075 F xs L z rc_23  u t1 t2 t3 x4 = some r0) : gw_GL p l e s m b below meth c H locs ls (n + 1) 1075 [] := by
  obtain ⟨hx, hb, hml, hown, hts, hK⟩ := id C
  unfold gf_Law_law_b1075 at h
  refine lv_goto (tgt := 1550) hx hb gd_Law_law_1075 (by decide) ?_
  exact gx_Law_law_b1550 F C hr hk hfl hZ hN hX hbl hn hr1 k_23 u t1 t2 t3 x4 o_t1 o_t2 o_t3 hW (lv_sub hl [0, 1, 2, 3, 4] rfl) h

set_option maxHeartbeats 4000000 in
set_option maxRecDepth 20000 in
theorem gx_Law_law_b1031 {p : Program} {l : Launch} {e : Env} {s : State} {m : MethodId} {b : Nat} {below : List Frame} {meth : Method} {c : Code} {D : va_G} {cA : Nat → ClassId} {hs : Nat → Nat} {z : gw_Sh} {xs : Nat → Int32} {L n : Nat} (F : Nat) {r0 : Int32} (C : gw_Cx p s m #[Value.ref b] c code 8 R_Law D cA) (hr : meth.sig.returnType = ret) (hk : meth.locks = false) (hfl : l.flags = pinnedFlags ++ [noTraceFlag]) (hZ : xt_Zs (gw_A hs gw_z0 s.heap.size) s s.heap) (hN : xt_Nn s) (hX : va_X b L xs s s.heap) (hbl : b < s.heap.size) (hn : n < 513) (hr1 : r0 = 1) {rc_23 : gw_St → Nat → Nat → Nat → Int32 → Option Int32} (k_23 : ∀ (u : gw_St) (t1 : Nat) (t2 : Nat) (t3 : Nat) (x4 : Int32) (H : Heap) (locs : List Loc) (ls : Array Slot), gw_ok z t1 0 → gw_ok z t2 9 → gw_ok z t3 11 → gw_Wd D cA hs z (gw_A hs gw_z0 s.heap.size) s.heap u H locs → lv_has ls 8 [(0, .ref b), (1, .ref (hs t1)), (2, .ref (hs t2)), (3, .ref (hs t3)), (4, .int x4)] → rc_23 u t1 t2 t3 x4 = some r0 → gw_GL p l e s m b below meth c H locs ls (n + 1) 23 []) (u : gw_St) (t1 : Nat) (t2 : Nat) (t3 : Nat) (x4 : Int32) (o_t1 : gw_ok z t1 0) (o_t2 : gw_ok z t2 9) (o_t3 : gw_ok z t3 11) {H : Heap} {locs : List Loc} {ls : Array Slot} (hW : gw_Wd D cA hs z (gw_A hs gw_z0 s.heap.size) s.heap u H locs) (hl : lv_has ls 8 [(0, .ref b), (1, .ref (hs t1)), (2, .ref (hs t2)), (3, .ref (hs t3)), (4, .int x4)]) (h : gf_Law_law_b1031 F xs L z rc_23  u t1 t2 t3 x4 = some r0) : gw_GL p l e s m b below meth c H locs ls (n + 1) 1031 [] := by
  obtain ⟨hx, hb, hml, hown, hts, hK⟩ := id C
  unfold gf_Law_law_b1031 at h
  refine lv_goto (tgt := 1550) hx hb gd_Law_law_1031 (by decide) ?_
  exact gx_Law_law_b1550 F C hr hk hfl hZ hN hX hbl hn hr1 k_23 u t1 t2 t3 x4 o_t1 o_t2 o_t3 hW (lv_sub hl [0, 1, 2, 3, 4] rfl) h

set_option maxHeartbeats 4000000 in
set_option maxRecDepth 20000 in
theorem gx_Law_law_b975 {p : Program} {l : Launch} {e : Env} {s : State} {m : MethodId} {b : Nat} {below : List Frame} {meth : Method} {c : Code} {D : va_G} {cA : Nat → ClassId} {hs : Nat → Nat} {z : gw_Sh} {xs : Nat → Int32} {L n : Nat} (F : Nat) {r0 : Int32} (C : gw_Cx p s m #[Value.ref b] c code 8 R_Law D cA) (hr : meth.sig.returnType = ret) (hk : meth.locks = false) (hfl : l.flags = pinnedFlags ++ [noTraceFlag]) (hZ : xt_Zs (gw_A hs gw_z0 s.heap.size) s s.heap) (hN : xt_Nn s) (hX : va_X b L xs s s.heap) (hbl : b < s.heap.size) (hn : n < 513) (hr1 : r0 = 1) {rc_23 : gw_St → Nat → Nat → Nat → Int32 → Option Int32} (k_23 : ∀ (u : gw_St) (t1 : Nat) (t2 : Nat) (t3 : Nat) (x4 : Int32) (H : Heap) (locs : List Loc) (ls : Array Slot), gw_ok z t1 0 → gw_ok z t2 9 → gw_ok z t3 11 → gw_Wd D cA hs z (gw_A hs gw_z0 s.heap.size) s.heap u H locs → lv_has ls 8 [(0, .ref b), (1, .ref (hs t1)), (2, .ref (hs t2)), (3, .ref (hs t3)), (4, .int x4)] → rc_23 u t1 t2 t3 x4 = some r0 → gw_GL p l e s m b below meth c H locs ls (n + 1) 23 []) (u : gw_St) (t1 : Nat) (t2 : Nat) (t3 : Nat) (x4 : Int32) (o_t1 : gw_ok z t1 0) (o_t2 : gw_ok z t2 9) (o_t3 : gw_ok z t3 11) {H : Heap} {locs : List Loc} {ls : Array Slot} (hW : gw_Wd D cA hs z (gw_A hs gw_z0 s.heap.size) s.heap u H locs) (hl : lv_has ls 8 [(0, .ref b), (1, .ref (hs t1)), (2, .ref (hs t2)), (3, .ref (hs t3)), (4, .int x4)]) (h : gf_Law_law_b975 F xs L z rc_23  u t1 t2 t3 x4 = some r0) : gw_GL p l e s m b below meth c H locs ls (n + 1) 975 [] := by
  obtain ⟨hx, hb, hml, hown, hts, hK⟩ := id C
  unfold gf_Law_law_b975 at h
  refine lv_goto (tgt := 1550) hx hb gd_Law_law_975 (by decide) ?_
  exact gx_Law_law_b1550 F C hr hk hfl hZ hN hX hbl hn hr1 k_23 u t1 t2 t3 x4 o_t1 o_t2 o_t3 hW (lv_sub hl [0, 1, 2, 3, 4] rfl) h

set_option maxHeartbeats 4000000 in
set_option maxRecDepth 20000 in
theorem gx_Law_law_b907 {p : Program} {l : Launch} {e : Env} {s : State} {m : MethodId} {b : Nat} {below : List Frame} {meth : Method} {c : Code} {D : va_G} {cA : Nat → ClassId} {hs : Nat → Nat} {z : gw_Sh} {xs : Nat → Int32} {L n : Nat} (F : Nat) {r0 : Int32} (C : gw_Cx p s m #[Value.ref b] c code 8 R_Law D cA) (hr : meth.sig.returnType = ret) (hk : meth.locks = false) (hfl : l.flags = pinnedFlags ++ [noTraceFlag]) (hZ : xt_Zs (gw_A hs gw_z0 s.heap.size) s s.heap) (hN : xt_Nn s) (hX : va_X b L xs s s.heap) (hbl : b < s.heap.size) (hn : n < 513) (hr1 : r0 = 1) {rc_23 : gw_St → Nat → Nat → Nat → Int32 → Option Int32} (k_23 : ∀ (u : gw_St) (t1 : Nat) (t2 : Nat) (t3 : Nat) (x4 : Int32) (H : Heap) (locs : List Loc) (ls : Array Slot), gw_ok z t1 0 → gw_ok z t2 9 → gw_ok z t3 11 → gw_Wd D cA hs z (gw_A hs gw_z0 s.heap.size) s.heap u H locs → lv_has ls 8 [(0, .ref b), (1, .ref (hs t1)), (2, .ref (hs t2)), (3, .ref (hs t3)), (4, .int x4)] → rc_23 u t1 t2 t3 x4 = some r0 → gw_GL p l e s m b below meth c H locs ls (n + 1) 23 []) (u : gw_St) (t1 : Nat) (t2 : Nat) (t3 : Nat) (x4 : Int32) (o_t1 : gw_ok z t1 0) (o_t2 : gw_ok z t2 9) (o_t3 : gw_ok z t3 11) {H : Heap} {locs : List Loc} {ls : Array Slot} (hW : gw_Wd D cA hs z (gw_A hs gw_z0 s.heap.size) s.heap u H locs) (hl : lv_has ls 8 [(0, .ref b), (1, .ref (hs t1)), (2, .ref (hs t2)), (3, .ref (hs t3)), (4, .int x4)]) (h : gf_Law_law_b907 F xs L z rc_23  u t1 t2 t3 x4 = some r0) : gw_GL p l e s m b below meth c H locs ls (n + 1) 907 [] := by
  obtain ⟨hx, hb, hml, hown, hts, hK⟩ := id C
  unfold gf_Law_law_b907 at h
  refine lv_goto (tgt := 1550) hx hb gd_Law_law_907 (by decide) ?_
  exact gx_Law_law_b1550 F C hr hk hfl hZ hN hX hbl hn hr1 k_23 u t1 t2 t3 x4 o_t1 o_t2 o_t3 hW (lv_sub hl [0, 1, 2, 3, 4] rfl) h

set_option maxHeartbeats 4000000 in
set_option maxRecDepth 20000 in
theorem gx_Law_law_b851 {p : Program} {l : Launch} {e : Env} {s : State} {m : MethodId} {b : Nat} {below : List Frame} {meth : Method} {c : Code} {D : va_G} {cA : Nat → ClassId} {hs : Nat → Nat} {z : gw_Sh} {xs : Nat → Int32} {L n : Nat} (F : Nat) {r0 : Int32} (C : gw_Cx p s m #[Value.ref b] c code 8 R_Law D cA) (hr : meth.sig.returnType = ret) (hk : meth.locks = false) (hfl : l.flags = pinnedFlags ++ [noTraceFlag]) (hZ : xt_Zs (gw_A hs gw_z0 s.heap.size) s s.heap) (hN : xt_Nn s) (hX : va_X b L xs s s.heap) (hbl : b < s.heap.size) (hn : n < 513) (hr1 : r0 = 1) {rc_23 : gw_St → Nat → Nat → Nat → Int32 → Option Int32} (k_23 : ∀ (u : gw_St) (t1 : Nat) (t2 : Nat) (t3 : Nat) (x4 : Int32) (H : Heap) (locs : List Loc) (ls : Array Slot), gw_ok z t1 0 → gw_ok z t2 9 → gw_ok z t3 11 → gw_Wd D cA hs z (gw_A hs gw_z0 s.heap.size) s.heap u H locs → lv_has ls 8 [(0, .ref b), (1, .ref (hs t1)), (2, .ref (hs t2)), (3, .ref (hs t3)), (4, .int x4)] → rc_23 u t1 t2 t3 x4 = some r0 → gw_GL p l e s m b below meth c H locs ls (n + 1) 23 []) (u : gw_St) (t1 : Nat) (t2 : Nat) (t3 : Nat) (x4 : Int32) (o_t1 : gw_ok z t1 0) (o_t2 : gw_ok z t2 9) (o_t3 : gw_ok z t3 11) {H : Heap} {locs : List Loc} {ls : Array Slot} (hW : gw_Wd D cA hs z (gw_A hs gw_z0 s.heap.size) s.heap u H locs) (hl : lv_has ls 8 [(0, .ref b), (1, .ref (hs t1)), (2, .ref (hs t2)), (3, .ref (hs t3)), (4, .int x4)]) (h : gf_Law_law_b851 F xs L z rc_23  u t1 t2 t3 x4 = some r0) : gw_GL p l e s m b below meth c H locs ls (n + 1) 851 [] := by
  obtain ⟨hx, hb, hml, hown, hts, hK⟩ := id C
  unfold gf_Law_law_b851 at h
  refine lv_goto (tgt := 1550) hx hb gd_Law_law_851 (by decide) ?_
  exact gx_Law_law_b1550 F C hr hk hfl hZ hN hX hbl hn hr1 k_23 u t1 t2 t3 x4 o_t1 o_t2 o_t3 hW (lv_sub hl [0, 1, 2, 3, 4] rfl) h

set_option maxHeartbeats 4000000 in
set_option maxRecDepth 20000 in
theorem gx_Law_law_b771 {p : Program} {l : Launch} {e : Env} {s : State} {m : MethodId} {b : Nat} {below : List Frame} {meth : Method} {c : Code} {D : va_G} {cA : Nat → ClassId} {hs : Nat → Nat} {z : gw_Sh} {xs : Nat → Int32} {L n : Nat} (F : Nat) {r0 : Int32} (C : gw_Cx p s m #[Value.ref b] c code 8 R_Law D cA) (hr : meth.sig.returnType = ret) (hk : meth.locks = false) (hfl : l.flags = pinnedFlags ++ [noTraceFlag]) (hZ : xt_Zs (gw_A hs gw_z0 s.heap.size) s s.heap) (hN : xt_Nn s) (hX : va_X b L xs s s.heap) (hbl : b < s.heap.size) (hn : n < 513) (hr1 : r0 = 1) {rc_23 : gw_St → Nat → Nat → Nat → Int32 → Option Int32} (k_23 : ∀ (u : gw_St) (t1 : Nat) (t2 : Nat) (t3 : Nat) (x4 : Int32) (H : Heap) (locs : List Loc) (ls : Array Slot), gw_ok z t1 0 → gw_ok z t2 9 → gw_ok z t3 11 → gw_Wd D cA hs z (gw_A hs gw_z0 s.heap.size) s.heap u H locs → lv_has ls 8 [(0, .ref b), (1, .ref (hs t1)), (2, .ref (hs t2)), (3, .ref (hs t3)), (4, .int x4)] → rc_23 u t1 t2 t3 x4 = some r0 → gw_GL p l e s m b below meth c H locs ls (n + 1) 23 []) (u : gw_St) (t1 : Nat) (t2 : Nat) (t3 : Nat) (x4 : Int32) (o_t1 : gw_ok z t1 0) (o_t2 : gw_ok z t2 9) (o_t3 : gw_ok z t3 11) {H : Heap} {locs : List Loc} {ls : Array Slot} (hW : gw_Wd D cA hs z (gw_A hs gw_z0 s.heap.size) s.heap u H locs) (hl : lv_has ls 8 [(0, .ref b), (1, .ref (hs t1)), (2, .ref (hs t2)), (3, .ref (hs t3)), (4, .int x4)]) (h : gf_Law_law_b771 F xs L z rc_23  u t1 t2 t3 x4 = some r0) : gw_GL p l e s m b below meth c H locs ls (n + 1) 771 [] := by
  obtain ⟨hx, hb, hml, hown, hts, hK⟩ := id C
  unfold gf_Law_law_b771 at h
  refine lv_goto (tgt := 1550) hx hb gd_Law_law_771 (by decide) ?_
  exact gx_Law_law_b1550 F C hr hk hfl hZ hN hX hbl hn hr1 k_23 u t1 t2 t3 x4 o_t1 o_t2 o_t3 hW (lv_sub hl [0, 1, 2, 3, 4] rfl) h

set_option maxHeartbeats 4000000 in
set_option maxRecDepth 20000 in
theorem gx_Law_law_b703 {p : Program} {l : Launch} {e : Env} {s : State} {m : MethodId} {b : Nat} {below : List Frame} {meth : Method} {c : Code} {D : va_G} {cA : Nat → ClassId} {hs : Nat → Nat} {z : gw_Sh} {xs : Nat → Int32} {L n : Nat} (F : Nat) {r0 : Int32} (C : gw_Cx p s m #[Value.ref b] c code 8 R_Law D cA) (hr : meth.sig.returnType = ret) (hk : meth.locks = false) (hfl : l.flags = pinnedFlags ++ [noTraceFlag]) (hZ : xt_Zs (gw_A hs gw_z0 s.heap.size) s s.heap) (hN : xt_Nn s) (hX : va_X b L xs s s.heap) (hbl : b < s.heap.size) (hn : n < 513) (hr1 : r0 = 1) {rc_23 : gw_St → Nat → Nat → Nat → Int32 → Option Int32} (k_23 : ∀ (u : gw_St) (t1 : Nat) (t2 : Nat) (t3 : Nat) (x4 : Int32) (H : Heap) (locs : List Loc) (ls : Array Slot), gw_ok z t1 0 → gw_ok z t2 9 → gw_ok z t3 11 → gw_Wd D cA hs z (gw_A hs gw_z0 s.heap.size) s.heap u H locs → lv_has ls 8 [(0, .ref b), (1, .ref (hs t1)), (2, .ref (hs t2)), (3, .ref (hs t3)), (4, .int x4)] → rc_23 u t1 t2 t3 x4 = some r0 → gw_GL p l e s m b below meth c H locs ls (n + 1) 23 []) (u : gw_St) (t1 : Nat) (t2 : Nat) (t3 : Nat) (x4 : Int32) (o_t1 : gw_ok z t1 0) (o_t2 : gw_ok z t2 9) (o_t3 : gw_ok z t3 11) {H : Heap} {locs : List Loc} {ls : Array Slot} (hW : gw_Wd D cA hs z (gw_A hs gw_z0 s.heap.size) s.heap u H locs) (hl : lv_has ls 8 [(0, .ref b), (1, .ref (hs t1)), (2, .ref (hs t2)), (3, .ref (hs t3)), (4, .int x4)]) (h : gf_Law_law_b703 F xs L z rc_23  u t1 t2 t3 x4 = some r0) : gw_GL p l e s m b below meth c H locs ls (n + 1) 703 [] := by
  obtain ⟨hx, hb, hml, hown, hts, hK⟩ := id C
  unfold gf_Law_law_b703 at h
  refine lv_goto (tgt := 1550) hx hb gd_Law_law_703 (by decide) ?_
  exact gx_Law_law_b1550 F C hr hk hfl hZ hN hX hbl hn hr1 k_23 u t1 t2 t3 x4 o_t1 o_t2 o_t3 hW (lv_sub hl [0, 1, 2, 3, 4] rfl) h

set_option maxHeartbeats 4000000 in
set_option maxRecDepth 20000 in
theorem gx_Law_law_b635 {p : Program} {l : Launch} {e : Env} {s : State} {m : MethodId} {b : Nat} {below : List Frame} {meth : Method} {c : Code} {D : va_G} {cA : Nat → ClassId} {hs : Nat → Nat} {z : gw_Sh} {xs : Nat → Int32} {L n : Nat} (F : Nat) {r0 : Int32} (C : gw_Cx p s m #[Value.ref b] c code 8 R_Law D cA) (hr : meth.sig.returnType = ret) (hk : meth.locks = false) (hfl : l.flags = pinnedFlags ++ [noTraceFlag]) (hZ : xt_Zs (gw_A hs gw_z0 s.heap.size) s s.heap) (hN : xt_Nn s) (hX : va_X b L xs s s.heap) (hbl : b < s.heap.size) (hn : n < 513) (hr1 : r0 = 1) {rc_23 : gw_St → Nat → Nat → Nat → Int32 → Option Int32} (k_23 : ∀ (u : gw_St) (t1 : Nat) (t2 : Nat) (t3 : Nat) (x4 : Int32) (H : Heap) (locs : List Loc) (ls : Array Slot), gw_ok z t1 0 → gw_ok z t2 9 → gw_ok z t3 11 → gw_Wd D cA hs z (gw_A hs gw_z0 s.heap.size) s.heap u H locs → lv_has ls 8 [(0, .ref b), (1, .ref (hs t1)), (2, .ref (hs t2)), (3, .ref (hs t3)), (4, .int x4)] → rc_23 u t1 t2 t3 x4 = some r0 → gw_GL p l e s m b below meth c H locs ls (n + 1) 23 []) (u : gw_St) (t1 : Nat) (t2 : Nat) (t3 : Nat) (x4 : Int32) (o_t1 : gw_ok z t1 0) (o_t2 : gw_ok z t2 9) (o_t3 : gw_ok z t3 11) {H : Heap} {locs : List Loc} {ls : Array Slot} (hW : gw_Wd D cA hs z (gw_A hs gw_z0 s.heap.size) s.heap u H locs) (hl : lv_has ls 8 [(0, .ref b), (1, .ref (hs t1)), (2, .ref (hs t2)), (3, .ref (hs t3)), (4, .int x4)]) (h : gf_Law_law_b635 F xs L z rc_23  u t1 t2 t3 x4 = some r0) : gw_GL p l e s m b below meth c H locs ls (n + 1) 635 [] := by
  obtain ⟨hx, hb, hml, hown, hts, hK⟩ := id C
  unfold gf_Law_law_b635 at h
  refine lv_goto (tgt := 1550) hx hb gd_Law_law_635 (by decide) ?_
  exact gx_Law_law_b1550 F C hr hk hfl hZ hN hX hbl hn hr1 k_23 u t1 t2 t3 x4 o_t1 o_t2 o_t3 hW (lv_sub hl [0, 1, 2, 3, 4] rfl) h

set_option maxHeartbeats 4000000 in
set_option maxRecDepth 20000 in
theorem gx_Law_law_b567 {p : Program} {l : Launch} {e : Env} {s : State} {m : MethodId} {b : Nat} {below : List Frame} {meth : Method} {c : Code} {D : va_G} {cA : Nat → ClassId} {hs : Nat → Nat} {z : gw_Sh} {xs : Nat → Int32} {L n : Nat} (F : Nat) {r0 : Int32} (C : gw_Cx p s m #[Value.ref b] c code 8 R_Law D cA) (hr : meth.sig.returnType = ret) (hk : meth.locks = false) (hfl : l.flags = pinnedFlags ++ [noTraceFlag]) (hZ : xt_Zs (gw_A hs gw_z0 s.heap.size) s s.heap) (hN : xt_Nn s) (hX : va_X b L xs s s.heap) (hbl : b < s.heap.size) (hn : n < 513) (hr1 : r0 = 1) {rc_23 : gw_St → Nat → Nat → Nat → Int32 → Option Int32} (k_23 : ∀ (u : gw_St) (t1 : Nat) (t2 : Nat) (t3 : Nat) (x4 : Int32) (H : Heap) (locs : List Loc) (ls : Array Slot), gw_ok z t1 0 → gw_ok z t2 9 → gw_ok z t3 11 → gw_Wd D cA hs z (gw_A hs gw_z0 s.heap.size) s.heap u H locs → lv_has ls 8 [(0, .ref b), (1, .ref (hs t1)), (2, .ref (hs t2)), (3, .ref (hs t3)), (4, .int x4)] → rc_23 u t1 t2 t3 x4 = some r0 → gw_GL p l e s m b below meth c H locs ls (n + 1) 23 []) (u : gw_St) (t1 : Nat) (t2 : Nat) (t3 : Nat) (x4 : Int32) (o_t1 : gw_ok z t1 0) (o_t2 : gw_ok z t2 9) (o_t3 : gw_ok z t3 11) {H : Heap} {locs : List Loc} {ls : Array Slot} (hW : gw_Wd D cA hs z (gw_A hs gw_z0 s.heap.size) s.heap u H locs) (hl : lv_has ls 8 [(0, .ref b), (1, .ref (hs t1)), (2, .ref (hs t2)), (3, .ref (hs t3)), (4, .int x4)]) (h : gf_Law_law_b567 F xs L z rc_23  u t1 t2 t3 x4 = some r0) : gw_GL p l e s m b below meth c H locs ls (n + 1) 567 [] := by
  obtain ⟨hx, hb, hml, hown, hts, hK⟩ := id C
  unfold gf_Law_law_b567 at h
  refine lv_goto (tgt := 1550) hx hb gd_Law_law_567 (by decide) ?_
  exact gx_Law_law_b1550 F C hr hk hfl hZ hN hX hbl hn hr1 k_23 u t1 t2 t3 x4 o_t1 o_t2 o_t3 hW (lv_sub hl [0, 1, 2, 3, 4] rfl) h

set_option maxHeartbeats 4000000 in
set_option maxRecDepth 20000 in
theorem gx_Law_law_b511 {p : Program} {l : Launch} {e : Env} {s : State} {m : MethodId} {b : Nat} {below : List Frame} {meth : Method} {c : Code} {D : va_G} {cA : Nat → ClassId} {hs : Nat → Nat} {z : gw_Sh} {xs : Nat → Int32} {L n : Nat} (F : Nat) {r0 : Int32} (C : gw_Cx p s m #[Value.ref b] c code 8 R_Law D cA) (hr : meth.sig.returnType = ret) (hk : meth.locks = false) (hfl : l.flags = pinnedFlags ++ [noTraceFlag]) (hZ : xt_Zs (gw_A hs gw_z0 s.heap.size) s s.heap) (hN : xt_Nn s) (hX : va_X b L xs s s.heap) (hbl : b < s.heap.size) (hn : n < 513) (hr1 : r0 = 1) {rc_23 : gw_St → Nat → Nat → Nat → Int32 → Option Int32} (k_23 : ∀ (u : gw_St) (t1 : Nat) (t2 : Nat) (t3 : Nat) (x4 : Int32) (H : Heap) (locs : List Loc) (ls : Array Slot), gw_ok z t1 0 → gw_ok z t2 9 → gw_ok z t3 11 → gw_Wd D cA hs z (gw_A hs gw_z0 s.heap.size) s.heap u H locs → lv_has ls 8 [(0, .ref b), (1, .ref (hs t1)), (2, .ref (hs t2)), (3, .ref (hs t3)), (4, .int x4)] → rc_23 u t1 t2 t3 x4 = some r0 → gw_GL p l e s m b below meth c H locs ls (n + 1) 23 []) (u : gw_St) (t1 : Nat) (t2 : Nat) (t3 : Nat) (x4 : Int32) (o_t1 : gw_ok z t1 0) (o_t2 : gw_ok z t2 9) (o_t3 : gw_ok z t3 11) {H : Heap} {locs : List Loc} {ls : Array Slot} (hW : gw_Wd D cA hs z (gw_A hs gw_z0 s.heap.size) s.heap u H locs) (hl : lv_has ls 8 [(0, .ref b), (1, .ref (hs t1)), (2, .ref (hs t2)), (3, .ref (hs t3)), (4, .int x4)]) (h : gf_Law_law_b511 F xs L z rc_23  u t1 t2 t3 x4 = some r0) : gw_GL p l e s m b below meth c H locs ls (n + 1) 511 [] := by
  obtain ⟨hx, hb, hml, hown, hts, hK⟩ := id C
  unfold gf_Law_law_b511 at h
  refine lv_goto (tgt := 1550) hx hb gd_Law_law_511 (by decide) ?_
  exact gx_Law_law_b1550 F C hr hk hfl hZ hN hX hbl hn hr1 k_23 u t1 t2 t3 x4 o_t1 o_t2 o_t3 hW (lv_sub hl [0, 1, 2, 3, 4] rfl) h

set_option maxHeartbeats 4000000 in
set_option maxRecDepth 20000 in
theorem gx_Law_law_b431 {p : Program} {l : Launch} {e : Env} {s : State} {m : MethodId} {b : Nat} {below : List Frame} {meth : Method} {c : Code} {D : va_G} {cA : Nat → ClassId} {hs : Nat → Nat} {z : gw_Sh} {xs : Nat → Int32} {L n : Nat} (F : Nat) {r0 : Int32} (C : gw_Cx p s m #[Value.ref b] c code 8 R_Law D cA) (hr : meth.sig.returnType = ret) (hk : meth.locks = false) (hfl : l.flags = pinnedFlags ++ [noTraceFlag]) (hZ : xt_Zs (gw_A hs gw_z0 s.heap.size) s s.heap) (hN : xt_Nn s) (hX : va_X b L xs s s.heap) (hbl : b < s.heap.size) (hn : n < 513) (hr1 : r0 = 1) {rc_23 : gw_St → Nat → Nat → Nat → Int32 → Option Int32} (k_23 : ∀ (u : gw_St) (t1 : Nat) (t2 : Nat) (t3 : Nat) (x4 : Int32) (H : Heap) (locs : List Loc) (ls : Array Slot), gw_ok z t1 0 → gw_ok z t2 9 → gw_ok z t3 11 → gw_Wd D cA hs z (gw_A hs gw_z0 s.heap.size) s.heap u H locs → lv_has ls 8 [(0, .ref b), (1, .ref (hs t1)), (2, .ref (hs t2)), (3, .ref (hs t3)), (4, .int x4)] → rc_23 u t1 t2 t3 x4 = some r0 → gw_GL p l e s m b below meth c H locs ls (n + 1) 23 []) (u : gw_St) (t1 : Nat) (t2 : Nat) (t3 : Nat) (x4 : Int32) (o_t1 : gw_ok z t1 0) (o_t2 : gw_ok z t2 9) (o_t3 : gw_ok z t3 11) {H : Heap} {locs : List Loc} {ls : Array Slot} (hW : gw_Wd D cA hs z (gw_A hs gw_z0 s.heap.size) s.heap u H locs) (hl : lv_has ls 8 [(0, .ref b), (1, .ref (hs t1)), (2, .ref (hs t2)), (3, .ref (hs t3)), (4, .int x4)]) (h : gf_Law_law_b431 F xs L z rc_23  u t1 t2 t3 x4 = some r0) : gw_GL p l e s m b below meth c H locs ls (n + 1) 431 [] := by
  obtain ⟨hx, hb, hml, hown, hts, hK⟩ := id C
  unfold gf_Law_law_b431 at h
  refine lv_goto (tgt := 1550) hx hb gd_Law_law_431 (by decide) ?_
  exact gx_Law_law_b1550 F C hr hk hfl hZ hN hX hbl hn hr1 k_23 u t1 t2 t3 x4 o_t1 o_t2 o_t3 hW (lv_sub hl [0, 1, 2, 3, 4] rfl) h

set_option maxHeartbeats 4000000 in
set_option maxRecDepth 20000 in
theorem gx_Law_law_b376 {p : Program} {l : Launch} {e : Env} {s : State} {m : MethodId} {b : Nat} {below : List Frame} {meth : Method} {c : Code} {D : va_G} {cA : Nat → ClassId} {hs : Nat → Nat} {z : gw_Sh} {xs : Nat → Int32} {L n : Nat} (F : Nat) {r0 : Int32} (C : gw_Cx p s m #[Value.ref b] c code 8 R_Law D cA) (hr : meth.sig.returnType = ret) (hk : meth.locks = false) (hfl : l.flags = pinnedFlags ++ [noTraceFlag]) (hZ : xt_Zs (gw_A hs gw_z0 s.heap.size) s s.heap) (hN : xt_Nn s) (hX : va_X b L xs s s.heap) (hbl : b < s.heap.size) (hn : n < 513) (hr1 : r0 = 1) {rc_23 : gw_St → Nat → Nat → Nat → Int32 → Option Int32} (k_23 : ∀ (u : gw_St) (t1 : Nat) (t2 : Nat) (t3 : Nat) (x4 : Int32) (H : Heap) (locs : List Loc) (ls : Array Slot), gw_ok z t1 0 → gw_ok z t2 9 → gw_ok z t3 11 → gw_Wd D cA hs z (gw_A hs gw_z0 s.heap.size) s.heap u H locs → lv_has ls 8 [(0, .ref b), (1, .ref (hs t1)), (2, .ref (hs t2)), (3, .ref (hs t3)), (4, .int x4)] → rc_23 u t1 t2 t3 x4 = some r0 → gw_GL p l e s m b below meth c H locs ls (n + 1) 23 []) (u : gw_St) (t1 : Nat) (t2 : Nat) (t3 : Nat) (x4 : Int32) (o_t1 : gw_ok z t1 0) (o_t2 : gw_ok z t2 9) (o_t3 : gw_ok z t3 11) {H : Heap} {locs : List Loc} {ls : Array Slot} (hW : gw_Wd D cA hs z (gw_A hs gw_z0 s.heap.size) s.heap u H locs) (hl : lv_has ls 8 [(0, .ref b), (1, .ref (hs t1)), (2, .ref (hs t2)), (3, .ref (hs t3)), (4, .int x4)]) (h : gf_Law_law_b376 F xs L z rc_23  u t1 t2 t3 x4 = some r0) : gw_GL p l e s m b below meth c H locs ls (n + 1) 376 [] := by
  obtain ⟨hx, hb, hml, hown, hts, hK⟩ := id C
  unfold gf_Law_law_b376 at h
  refine lv_goto (tgt := 1550) hx hb gd_Law_law_376 (by decide) ?_
  exact gx_Law_law_b1550 F C hr hk hfl hZ hN hX hbl hn hr1 k_23 u t1 t2 t3 x4 o_t1 o_t2 o_t3 hW (lv_sub hl [0, 1, 2, 3, 4] rfl) h

set_option maxHeartbeats 4000000 in
set_option maxRecDepth 20000 in
theorem gx_Law_law_b308 {p : Program} {l : Launch} {e : Env} {s : State} {m : MethodId} {b : Nat} {below : List Frame} {meth : Method} {c : Code} {D : va_G} {cA : Nat → ClassId} {hs : Nat → Nat} {z : gw_Sh} {xs : Nat → Int32} {L n : Nat} (F : Nat) {r0 : Int32} (C : gw_Cx p s m #[Value.ref b] c code 8 R_Law D cA) (hr : meth.sig.returnType = ret) (hk : meth.locks = false) (hfl : l.flags = pinnedFlags ++ [noTraceFlag]) (hZ : xt_Zs (gw_A hs gw_z0 s.heap.size) s s.heap) (hN : xt_Nn s) (hX : va_X b L xs s s.heap) (hbl : b < s.heap.size) (hn : n < 513) (hr1 : r0 = 1) {rc_23 : gw_St → Nat → Nat → Nat → Int32 → Option Int32} (k_23 : ∀ (u : gw_St) (t1 : Nat) (t2 : Nat) (t3 : Nat) (x4 : Int32) (H : Heap) (locs : List Loc) (ls : Array Slot), gw_ok z t1 0 → gw_ok z t2 9 → gw_ok z t3 11 → gw_Wd D cA hs z (gw_A hs gw_z0 s.heap.size) s.heap u H locs → lv_has ls 8 [(0, .ref b), (1, .ref (hs t1)), (2, .ref (hs t2)), (3, .ref (hs t3)), (4, .int x4)] → rc_23 u t1 t2 t3 x4 = some r0 → gw_GL p l e s m b below meth c H locs ls (n + 1) 23 []) (u : gw_St) (t1 : Nat) (t2 : Nat) (t3 : Nat) (x4 : Int32) (o_t1 : gw_ok z t1 0) (o_t2 : gw_ok z t2 9) (o_t3 : gw_ok z t3 11) {H : Heap} {locs : List Loc} {ls : Array Slot} (hW : gw_Wd D cA hs z (gw_A hs gw_z0 s.heap.size) s.heap u H locs) (hl : lv_has ls 8 [(0, .ref b), (1, .ref (hs t1)), (2, .ref (hs t2)), (3, .ref (hs t3)), (4, .int x4)]) (h : gf_Law_law_b308 F xs L z rc_23  u t1 t2 t3 x4 = some r0) : gw_GL p l e s m b below meth c H locs ls (n + 1) 308 [] := by
  obtain ⟨hx, hb, hml, hown, hts, hK⟩ := id C
  unfold gf_Law_law_b308 at h
  refine lv_goto (tgt := 1550) hx hb gd_Law_law_308 (by decide) ?_
  exact gx_Law_law_b1550 F C hr hk hfl hZ hN hX hbl hn hr1 k_23 u t1 t2 t3 x4 o_t1 o_t2 o_t3 hW (lv_sub hl [0, 1, 2, 3, 4] rfl) h

set_option maxHeartbeats 4000000 in
set_option maxRecDepth 20000 in
theorem gx_Law_law_b302 {p : Program} {l : Launch} {e : Env} {s : State} {m : MethodId} {b : Nat} {below : List Frame} {meth : Method} {c : Code} {D : va_G} {cA : Nat → ClassId} {hs : Nat → Nat} {z : gw_Sh} {xs : Nat → Int32} {L n : Nat} (F : Nat) {r0 : Int32} (C : gw_Cx p s m #[Value.ref b] c code 8 R_Law D cA) (hr : meth.sig.returnType = ret) (hk : meth.locks = false) (hfl : l.flags = pinnedFlags ++ [noTraceFlag]) (hZ : xt_Zs (gw_A hs gw_z0 s.heap.size) s s.heap) (hN : xt_Nn s) (hX : va_X b L xs s s.heap) (hbl : b < s.heap.size) (hn : n < 513) (hr1 : r0 = 1) {rc_23 : gw_St → Nat → Nat → Nat → Int32 → Option Int32} (k_23 : ∀ (u : gw_St) (t1 : Nat) (t2 : Nat) (t3 : Nat) (x4 : Int32) (H : Heap) (locs : List Loc) (ls : Array Slot), gw_ok z t1 0 → gw_ok z t2 9 → gw_ok z t3 11 → gw_Wd D cA hs z (gw_A hs gw_z0 s.heap.size) s.heap u H locs → lv_has ls 8 [(0, .ref b), (1, .ref (hs t1)), (2, .ref (hs t2)), (3, .ref (hs t3)), (4, .int x4)] → rc_23 u t1 t2 t3 x4 = some r0 → gw_GL p l e s m b below meth c H locs ls (n + 1) 23 []) (u : gw_St) (t1 : Nat) (t2 : Nat) (t3 : Nat) (x4 : Int32) (sy0 : Int64) (sy1 : Int64) (o_t1 : gw_ok z t1 0) (o_t2 : gw_ok z t2 9) (o_t3 : gw_ok z t3 11) {H : Heap} {locs : List Loc} {ls : Array Slot} (hW : gw_Wd D cA hs z (gw_A hs gw_z0 s.heap.size) s.heap u H locs) (hl : lv_has ls 8 [(0, .ref b), (1, .ref (hs t1)), (2, .ref (hs t2)), (3, .ref (hs t3)), (4, .int x4)]) (h : gf_Law_law_b302 F xs L z rc_23  u t1 t2 t3 x4 sy0 sy1 = some r0) : gw_GL p l e s m b below meth c H locs ls (n + 1) 302 [.long sy1, .long sy0] := by
  obtain ⟨hx, hb, hml, hown, hts, hK⟩ := id C
  unfold gf_Law_law_b302 at h
  refine W.lcmp hx hb gd_Law_law_302 ?_
  refine lv_if_eq (tgt := 308) hx hb gd_Law_law_303 (by decide) (fun c5 => ?_) (fun c5 => ?_)
  · have h := gf_t c5 h
    exact gx_Law_law_b308 F C hr hk hfl hZ hN hX hbl hn hr1 k_23 u t1 t2 t3 x4 o_t1 o_t2 o_t3 hW (lv_sub hl [0, 1, 2, 3, 4] rfl) h
  · have h := gf_f c5 h
    refine lv_iconst (v := 0) hx hb gd_Law_law_306 (by decide) ?_
    obtain rfl := Option.some.inj h
    exact absurd hr1 (by decide)

set_option maxHeartbeats 4000000 in
set_option maxRecDepth 20000 in
theorem gx_Law_law_b245 {p : Program} {l : Launch} {e : Env} {s : State} {m : MethodId} {b : Nat} {below : List Frame} {meth : Method} {c : Code} {D : va_G} {cA : Nat → ClassId} {hs : Nat → Nat} {z : gw_Sh} {xs : Nat → Int32} {L n : Nat} (F : Nat) {r0 : Int32} (C : gw_Cx p s m #[Value.ref b] c code 8 R_Law D cA) (hr : meth.sig.returnType = ret) (hk : meth.locks = false) (hfl : l.flags = pinnedFlags ++ [noTraceFlag]) (hZ : xt_Zs (gw_A hs gw_z0 s.heap.size) s s.heap) (hN : xt_Nn s) (hX : va_X b L xs s s.heap) (hbl : b < s.heap.size) (hn : n < 513) (hr1 : r0 = 1) {rc_23 : gw_St → Nat → Nat → Nat → Int32 → Option Int32} (k_23 : ∀ (u : gw_St) (t1 : Nat) (t2 : Nat) (t3 : Nat) (x4 : Int32) (H : Heap) (locs : List Loc) (ls : Array Slot), gw_ok z t1 0 → gw_ok z t2 9 → gw_ok z t3 11 → gw_Wd D cA hs z (gw_A hs gw_z0 s.heap.size) s.heap u H locs → lv_has ls 8 [(0, .ref b), (1, .ref (hs t1)), (2, .ref (hs t2)), (3, .ref (hs t3)), (4, .int x4)] → rc_23 u t1 t2 t3 x4 = some r0 → gw_GL p l e s m b below meth c H locs ls (n + 1) 23 []) (u : gw_St) (t1 : Nat) (t2 : Nat) (t3 : Nat) (x4 : Int32) (o_t1 : gw_ok z t1 0) (o_t2 : gw_ok z t2 9) (o_t3 : gw_ok z t3 11) {H : Heap} {locs : List Loc} {ls : Array Slot} (hW : gw_Wd D cA hs z (gw_A hs gw_z0 s.heap.size) s.heap u H locs) (hl : lv_has ls 8 [(0, .ref b), (1, .ref (hs t1)), (2, .ref (hs t2)), (3, .ref (hs t3)), (4, .int x4)]) (h : gf_Law_law_b245 F xs L z rc_23  u t1 t2 t3 x4 = some r0) : gw_GL p l e s m b below meth c H locs ls (n + 1) 245 [] := by
  obtain ⟨hx, hb, hml, hown, hts, hK⟩ := id C
  unfold gf_Law_law_b245 at h
  refine lv_goto (tgt := 1550) hx hb gd_Law_law_245 (by decide) ?_
  exact gx_Law_law_b1550 F C hr hk hfl hZ hN hX hbl hn hr1 k_23 u t1 t2 t3 x4 o_t1 o_t2 o_t3 hW (lv_sub hl [0, 1, 2, 3, 4] rfl) h

set_option maxHeartbeats 4000000 in
set_option maxRecDepth 20000 in
theorem gx_Law_law_S23 {p : Program} {l : Launch} {e : Env} {s : State} {m : MethodId} {b : Nat} {below : List Frame} {meth : Method} {c : Code} {D : va_G} {cA : Nat → ClassId} {hs : Nat → Nat} {z : gw_Sh} {xs : Nat → Int32} {L n : Nat} (F : Nat) {r0 : Int32} (C : gw_Cx p s m #[Value.ref b] c code 8 R_Law D cA) (hr : meth.sig.returnType = ret) (hk : meth.locks = false) (hfl : l.flags = pinnedFlags ++ [noTraceFlag]) (hZ : xt_Zs (gw_A hs gw_z0 s.heap.size) s s.heap) (hN : xt_Nn s) (hX : va_X b L xs s s.heap) (hbl : b < s.heap.size) (hn : n < 513) (hr1 : r0 = 1) {rc_23 : gw_St → Nat → Nat → Nat → Int32 → Option Int32} (k_23 : ∀ (u : gw_St) (t1 : Nat) (t2 : Nat) (t3 : Nat) (x4 : Int32) (H : Heap) (locs : List Loc) (ls : Array Slot), gw_ok z t1 0 → gw_ok z t2 9 → gw_ok z t3 11 → gw_Wd D cA hs z (gw_A hs gw_z0 s.heap.size) s.heap u H locs → lv_has ls 8 [(0, .ref b), (1, .ref (hs t1)), (2, .ref (hs t2)), (3, .ref (hs t3)), (4, .int x4)] → rc_23 u t1 t2 t3 x4 = some r0 → gw_GL p l e s m b below meth c H locs ls (n + 1) 23 []) (u : gw_St) (t1 : Nat) (t2 : Nat) (t3 : Nat) (x4 : Int32) (o_t1 : gw_ok z t1 0) (o_t2 : gw_ok z t2 9) (o_t3 : gw_ok z t3 11) {H : Heap} {locs : List Loc} {ls : Array Slot} (hW : gw_Wd D cA hs z (gw_A hs gw_z0 s.heap.size) s.heap u H locs) (hl : lv_has ls 8 [(0, .ref b), (1, .ref (hs t1)), (2, .ref (hs t2)), (3, .ref (hs t3)), (4, .int x4)]) (h : gf_Law_law_S23 F xs L z  rc_23 u t1 t2 t3 x4 = some r0) : gw_GL p l e s m b below meth c H locs ls n 23 [] := by
  obtain ⟨hx, hb, hml, hown, hts, hK⟩ := id C
  unfold gf_Law_law_S23 at h
  refine lv_iload hx hb gd_Law_law_23 (lv_at hl 4 rfl) ?_
  refine lv_aload_n hx hb gd_Law_law_25 rfl (lv_at hl 0 rfl) ?_
  refine va_slen hx hb hX hbl (gw_lb hbl) hW.2.2.1 gd_Law_law_26 ?_
  refine lv_bipush (v := 6) hx hb gd_Law_law_27 (by decide) ?_
  refine lv_isub hx hb gd_Law_law_29 ?_
  refine lv_icmp_gt (tgt := 1556) hx hb gd_Law_law_30 (by decide) (fun c6 => ?_) (fun c6 => ?_)
  · have h := gf_t c6 h
    refine lv_iconst (v := 1) hx hb gd_Law_law_1556 (by decide) ?_
    obtain rfl := Option.some.inj h
    exact gw_lend C hW hr hk hn gd_Law_law_1557
  · have h := gf_f c6 h
    refine lv_aload_n hx hb gd_Law_law_33 rfl (lv_at hl 0 rfl) ?_
    refine lv_iload hx hb gd_Law_law_34 (lv_at hl 4 rfl) ?_
    obtain ⟨g7, h⟩ := gf_if_ok h
    refine va_sld hx hb hX hbl (gw_lb hbl) hW.2.2.1 g7 gd_Law_law_36 ?_
    refine lv_bipush (v := 31) hx hb gd_Law_law_37 (by decide) ?_
    refine lv_iand hx hb gd_Law_law_39 ?_
    by_cases c8 : ((xs (x4).toNatClampNeg) &&& (31 : Int32)) = 0
    · have h := gf_t c8 h
      refine lv_tableIn (x := ((xs (x4).toNatClampNeg) &&& (31 : Int32))) (off := 104) (tgt := 144) hx hb gd_Law_law_40 (by rw [c8]; decide) (by rw [c8]; decide) (by rw [c8]; rfl) (by decide) ?_
      refine lv_aload_n hx hb gd_Law_law_144 rfl (lv_at hl 1 rfl) ?_
      refine lv_aload_n hx hb gd_Law_law_145 rfl (lv_at hl 0 rfl) ?_
      refine lv_iload hx hb gd_Law_law_146 (lv_at hl 4 rfl) ?_
      refine lv_iconst (v := 1) hx hb gd_Law_law_148 (by decide) ?_
      refine lv_iadd hx hb gd_Law_law_149 ?_
      obtain ⟨g9, h⟩ := gf_if_ok h
      refine va_sld hx hb hX hbl (gw_lb hbl) hW.2.2.1 g9 gd_Law_law_150 ?_
      refine lv_aload_n hx hb gd_Law_law_151 rfl (lv_at hl 0 rfl) ?_
      refine lv_iload hx hb gd_Law_law_152 (lv_at hl 4 rfl) ?_
      refine lv_iconst (v := 2) hx hb gd_Law_law_154 (by decide) ?_
      refine lv_iadd hx hb gd_Law_law_155 ?_
      obtain ⟨g10, h⟩ := gf_if_ok h
      refine va_sld hx hb hX hbl (gw_lb hbl) hW.2.2.1 g10 gd_Law_law_156 ?_
      refine lv_aload_n hx hb gd_Law_law_157 rfl (lv_at hl 0 rfl) ?_
      refine lv_iload hx hb gd_Law_law_158 (lv_at hl 4 rfl) ?_
      refine lv_iconst (v := 3) hx hb gd_Law_law_160 (by decide) ?_
      refine lv_iadd hx hb gd_Law_law_161 ?_
      obtain ⟨g11, h⟩ := gf_if_ok h
      refine va_sld hx hb hX hbl (gw_lb hbl) hW.2.2.1 g11 gd_Law_law_162 ?_
      refine lv_aload_n hx hb gd_Law_law_163 rfl (lv_at hl 0 rfl) ?_
      refine lv_iload hx hb gd_Law_law_164 (lv_at hl 4 rfl) ?_
      refine lv_iconst (v := 4) hx hb gd_Law_law_166 (by decide) ?_
      refine lv_iadd hx hb gd_Law_law_167 ?_
      obtain ⟨g12, h⟩ := gf_if_ok h
      refine va_sld hx hb hX hbl (gw_lb hbl) hW.2.2.1 g12 gd_Law_law_168 ?_
      refine lv_aload_n hx hb gd_Law_law_169 rfl (lv_at hl 0 rfl) ?_
      refine lv_iload hx hb gd_Law_law_170 (lv_at hl 4 rfl) ?_
      refine lv_iconst (v := 5) hx hb gd_Law_law_172 (by decide) ?_
      refine lv_iadd hx hb gd_Law_law_173 ?_
      obtain ⟨g13, h⟩ := gf_if_ok h
      refine va_sld hx hb hX hbl (gw_lb hbl) hW.2.2.1 g13 gd_Law_law_174 ?_
      refine lv_aload_n hx hb gd_Law_law_175 rfl (lv_at hl 3 rfl) ?_
      obtain ⟨a16, u14, d15, h⟩ := gf_cl_ok h
      refine gw_callW (As := [.ref (hs t1), .int (xs ((x4 + (1 : Int32))).toNatClampNeg), .int (xs ((x4 + (2 : Int32))).toNatClampNeg), .int (xs ((x4 + (3 : Int32))).toNatClampNeg), .int (xs ((x4 + (4 : Int32))).toNatClampNeg), .int (xs ((x4 + (5 : Int32))).toNatClampNeg), .ref (hs t3)]) (rest := []) C hW (fun _ h => Or.inr h) hZ hN hl.1 gm_Law_want (gc_Law_want l hfl F o_t1 o_t3 d15 _) gk_951 gk_952 rfl rfl ⟨(gw_lf (Nat.le_of_ble_eq_true rfl)), (gw_ll (Nat.le_of_ble_eq_true rfl))⟩ (gw_nc hn) rfl rfl (Nat.le_of_ble_eq_true rfl) gd_Law_law_176 (fun H locs hW => ?_)
      refine W.widen (k := 1000 + (n + 1)) (n := 400000 + 6 * (n + 1)) gw_n1 gw_n2 ?_
      refine lv_istore (lv' := [(5, .int a16), (0, .ref b), (1, .ref (hs t1)), (2, .ref (hs t2)), (3, .ref (hs t3)), (4, .int x4)]) hx hb gd_Law_law_179 hl (by decide) rfl (fun ls hl => ?_)
      refine lv_aload_n hx hb gd_Law_law_181 rfl (lv_at hl 3 rfl) ?_
      refine lv_aload_n hx hb gd_Law_law_182 rfl (lv_at hl 1 rfl) ?_
      refine lv_iload hx hb gd_Law_law_183 (lv_at hl 5 rfl) ?_
      refine lv_iconst (v := 1) hx hb gd_Law_law_185 (by decide) ?_
      refine lv_iadd hx hb gd_Law_law_186 ?_
      obtain ⟨g17, h⟩ := gf_if_ok h
      refine va_sld hx hb hX hbl (gw_lb hbl) hW.2.2.1 g17 gd_Law_law_187 ?_
      refine lv_aload_n hx hb gd_Law_law_188 rfl (lv_at hl 1 rfl) ?_
      refine lv_iload hx hb gd_Law_law_189 (lv_at hl 5 rfl) ?_
      refine lv_iconst (v := 2) hx hb gd_Law_law_191 (by decide) ?_
      refine lv_iadd hx hb gd_Law_law_192 ?_
      obtain ⟨g18, h⟩ := gf_if_ok h
      refine va_sld hx hb hX hbl (gw_lb hbl) hW.2.2.1 g18 gd_Law_law_193 ?_
      refine lv_aload_n hx hb gd_Law_law_194 rfl (lv_at hl 1 rfl) ?_
      refine lv_iload hx hb gd_Law_law_195 (lv_at hl 5 rfl) ?_
      refine lv_iconst (v := 3) hx hb gd_Law_law_197 (by decide) ?_
      refine lv_iadd hx hb gd_Law_law_198 ?_
      obtain ⟨g19, h⟩ := gf_if_ok h
      refine va_sld hx hb hX hbl (gw_lb hbl) hW.2.2.1 g19 gd_Law_law_199 ?_
      refine lv_aload_n hx hb gd_Law_law_200 rfl (lv_at hl 1 rfl) ?_
      refine lv_iload hx hb gd_Law_law_201 (lv_at hl 5 rfl) ?_
      refine lv_iconst (v := 4) hx hb gd_Law_law_203 (by decide) ?_
      refine lv_iadd hx hb gd_Law_law_204 ?_
      obtain ⟨g20, h⟩ := gf_if_ok h
      refine va_sld hx hb hX hbl (gw_lb hbl) hW.2.2.1 g20 gd_Law_law_205 ?_
      refine lv_aload_n hx hb gd_Law_law_206 rfl (lv_at hl 1 rfl) ?_
      refine lv_iload hx hb gd_Law_law_207 (lv_at hl 5 rfl) ?_
      refine lv_iconst (v := 5) hx hb gd_Law_law_209 (by decide) ?_
      refine lv_iadd hx hb gd_Law_law_210 ?_
      obtain ⟨g21, h⟩ := gf_if_ok h
      refine va_sld hx hb hX hbl (gw_lb hbl) hW.2.2.1 g21 gd_Law_law_211 ?_
      obtain ⟨a24, u22, d23, h⟩ := gf_cl_ok h
      refine gw_callVi (K := R_Model) (As := [.int (xs ((x4 + (1 : Int32))).toNatClampNeg), .int (xs ((x4 + (2 : Int32))).toNatClampNeg), .int (xs ((x4 + (3 : Int32))).toNatClampNeg), .int (xs ((x4 + (4 : Int32))).toNatClampNeg), .int (xs ((x4 + (5 : Int32))).toNatClampNeg)]) (rest := []) C hW (fun _ h => Or.inr h) hl.1 gm_Model_want (gc_Model_want l F o_t2 d23 _) gk_953 gk_954 gk_955 o_t2 (by decide) rfl rfl rfl ⟨(gw_lf (Nat.le_of_ble_eq_true rfl)), (gw_ll (Nat.le_of_ble_eq_true rfl))⟩ (gw_ne hn) rfl rfl (Nat.le_of_ble_eq_true rfl) gd_Law_law_212 (fun H locs hW => ?_)
      refine lv_istore (lv' := [(6, .int a24), (5, .int a16), (0, .ref b), (1, .ref (hs t1)), (2, .ref (hs t2)), (3, .ref (hs t3)), (4, .int x4)]) hx hb gd_Law_law_215 hl (by decide) rfl (fun ls hl => ?_)
      refine lv_aload_n hx hb gd_Law_law_217 rfl (lv_at hl 4 rfl) ?_
      obtain ⟨a27, u25, d26, h⟩ := gf_cl_ok h
      refine gw_callVi (K := R_Model) (As := []) (rest := []) C hW (fun _ h => Or.inr h) hl.1 gm_Model_thrown (gc_Model_thrown l F o_t2 d26 _) gk_956 gk_957 gk_958 o_t2 (by decide) rfl rfl rfl ⟨(gw_lf (Nat.le_of_ble_eq_true rfl)), (gw_ll (Nat.le_of_ble_eq_true rfl))⟩ (gw_ne hn) rfl rfl (Nat.le_of_ble_eq_true rfl) gd_Law_law_218 (fun H locs hW => ?_)
      refine lv_iload hx hb gd_Law_law_221 (lv_at hl 1 rfl) ?_
      refine lv_icmp_eq (tgt := 228) hx hb gd_Law_law_223 (by decide) (fun c28 => ?_) (fun c28 => ?_)
      · have h := gf_t c28 h
        refine lv_iload hx hb gd_Law_law_228 (lv_at hl 1 rfl) ?_
        refine lv_if_ne (tgt := 245) hx hb gd_Law_law_230 (by decide) (fun c29 => ?_) (fun c29 => ?_)
        · have h := gf_f c29 h
          exact gx_Law_law_b245 F C hr hk hfl hZ hN hX hbl hn hr1 k_23 u25 t1 t2 t3 x4 o_t1 o_t2 o_t3 hW (lv_sub hl [2, 3, 4, 5, 6] rfl) h
        · have h := gf_t c29 h
          refine lv_aload_n hx hb gd_Law_law_233 rfl (lv_at hl 5 rfl) ?_
          refine lv_iconst (v := 0) hx hb gd_Law_law_234 (by decide) ?_
          obtain ⟨g30, h⟩ := gf_if_ok h
          refine gw_lald C hW o_t3 g30 gd_Law_law_235 ?_
          refine lv_iload hx hb gd_Law_law_236 (lv_at hl 0 rfl) ?_
          refine lv_i2l hx hb gd_Law_law_238 rfl ?_
          refine W.lcmp hx hb gd_Law_law_239 ?_
          refine lv_if_eq (tgt := 245) hx hb gd_Law_law_240 (by decide) (fun c31 => ?_) (fun c31 => ?_)
          · have h := gf_t c31 h
            exact gx_Law_law_b245 F C hr hk hfl hZ hN hX hbl hn hr1 k_23 u25 t1 t2 t3 x4 o_t1 o_t2 o_t3 hW (lv_sub hl [2, 3, 4, 5, 6] rfl) h
          · have h := gf_f c31 h
            refine lv_iconst (v := 0) hx hb gd_Law_law_243 (by decide) ?_
            obtain rfl := Option.some.inj h
            exact absurd hr1 (by decide)
      · have h := gf_f c28 h
        refine lv_iconst (v := 0) hx hb gd_Law_law_226 (by decide) ?_
        obtain rfl := Option.some.inj h
        exact absurd hr1 (by decide)
    · have h := gf_f c8 h
      by_cases c32 : ((xs (x4).toNatClampNeg) &&& (31 : Int32)) = 1
      · have h := gf_t c32 h
        refine lv_tableIn (x := ((xs (x4).toNatClampNeg) &&& (31 : Int32))) (off := 208) (tgt := 248) hx hb gd_Law_law_40 (by rw [c32]; decide) (by rw [c32]; decide) (by rw [c32]; rfl) (by decide) ?_
        refine lv_aload_n hx hb gd_Law_law_248 rfl (lv_at hl 1 rfl) ?_
        refine lv_aload_n hx hb gd_Law_law_249 rfl (lv_at hl 0 rfl) ?_
        refine lv_iload hx hb gd_Law_law_250 (lv_at hl 4 rfl) ?_
        refine lv_iconst (v := 1) hx hb gd_Law_law_252 (by decide) ?_
        refine lv_iadd hx hb gd_Law_law_253 ?_
        obtain ⟨g33, h⟩ := gf_if_ok h
        refine va_sld hx hb hX hbl (gw_lb hbl) hW.2.2.1 g33 gd_Law_law_254 ?_
        refine lv_aload_n hx hb gd_Law_law_255 rfl (lv_at hl 3 rfl) ?_
        obtain ⟨a36, u34, d35, h⟩ := gf_cl_ok h
        refine gw_callW (As := [.ref (hs t1), .int (xs ((x4 + (1 : Int32))).toNatClampNeg), .ref (hs t3)]) (rest := []) C hW (fun _ h => Or.inr h) hZ hN hl.1 gm_Law_search (gc_Law_search l hfl F o_t1 o_t3 d35 _) gk_959 gk_960 rfl rfl ⟨(gw_lf (Nat.le_of_ble_eq_true rfl)), (gw_ll (Nat.le_of_ble_eq_true rfl))⟩ (gw_nc hn) rfl rfl (Nat.le_of_ble_eq_true rfl) gd_Law_law_256 (fun H locs hW => ?_)
        refine W.widen (k := 1000 + (n + 1)) (n := 400000 + 6 * (n + 1)) gw_n1 gw_n2 ?_
        refine lv_istore (lv' := [(5, .int a36), (0, .ref b), (1, .ref (hs t1)), (2, .ref (hs t2)), (3, .ref (hs t3)), (4, .int x4)]) hx hb gd_Law_law_259 hl (by decide) rfl (fun ls hl => ?_)
        refine lv_aload_n hx hb gd_Law_law_261 rfl (lv_at hl 3 rfl) ?_
        refine lv_aload_n hx hb gd_Law_law_262 rfl (lv_at hl 1 rfl) ?_
        refine lv_iload hx hb gd_Law_law_263 (lv_at hl 5 rfl) ?_
        refine lv_iconst (v := 1) hx hb gd_Law_law_265 (by decide) ?_
        refine lv_iadd hx hb gd_Law_law_266 ?_
        obtain ⟨g37, h⟩ := gf_if_ok h
        refine va_sld hx hb hX hbl (gw_lb hbl) hW.2.2.1 g37 gd_Law_law_267 ?_
        obtain ⟨a40, u38, d39, h⟩ := gf_cl_ok h
        refine gw_callVi (K := R_Model) (As := [.int (xs ((x4 + (1 : Int32))).toNatClampNeg)]) (rest := []) C hW (fun _ h => Or.inr h) hl.1 gm_Model_search (gc_Model_search l F o_t2 d39 _) gk_961 gk_962 gk_963 o_t2 (by decide) rfl rfl rfl ⟨(gw_lf (Nat.le_of_ble_eq_true rfl)), (gw_ll (Nat.le_of_ble_eq_true rfl))⟩ (gw_ne hn) rfl rfl (Nat.le_of_ble_eq_true rfl) gd_Law_law_268 (fun H locs hW => ?_)
        refine lv_istore (lv' := [(6, .int a40), (5, .int a36), (0, .ref b), (1, .ref (hs t1)), (2, .ref (hs t2)), (3, .ref (hs t3)), (4, .int x4)]) hx hb gd_Law_law_271 hl (by decide) rfl (fun ls hl => ?_)
        refine lv_aload_n hx hb gd_Law_law_273 rfl (lv_at hl 4 rfl) ?_
        obtain ⟨a43, u41, d42, h⟩ := gf_cl_ok h
        refine gw_callVi (K := R_Model) (As := []) (rest := []) C hW (fun _ h => Or.inr h) hl.1 gm_Model_thrown (gc_Model_thrown l F o_t2 d42 _) gk_956 gk_957 gk_958 o_t2 (by decide) rfl rfl rfl ⟨(gw_lf (Nat.le_of_ble_eq_true rfl)), (gw_ll (Nat.le_of_ble_eq_true rfl))⟩ (gw_ne hn) rfl rfl (Nat.le_of_ble_eq_true rfl) gd_Law_law_274 (fun H locs hW => ?_)
        refine lv_iload hx hb gd_Law_law_277 (lv_at hl 1 rfl) ?_
        refine lv_icmp_eq (tgt := 284) hx hb gd_Law_law_279 (by decide) (fun c44 => ?_) (fun c44 => ?_)
        · have h := gf_t c44 h
          refine lv_iload hx hb gd_Law_law_284 (lv_at hl 1 rfl) ?_
          refine lv_if_ne (tgt := 308) hx hb gd_Law_law_286 (by decide) (fun c45 => ?_) (fun c45 => ?_)
          · have h := gf_f c45 h
            exact gx_Law_law_b308 F C hr hk hfl hZ hN hX hbl hn hr1 k_23 u41 t1 t2 t3 x4 o_t1 o_t2 o_t3 hW (lv_sub hl [2, 3, 4, 5, 6] rfl) h
          · have h := gf_t c45 h
            refine lv_aload_n hx hb gd_Law_law_289 rfl (lv_at hl 5 rfl) ?_
            refine lv_iconst (v := 0) hx hb gd_Law_law_290 (by decide) ?_
            obtain ⟨g46, h⟩ := gf_if_ok h
            refine gw_lald C hW o_t3 g46 gd_Law_law_291 ?_
            refine lv_iload hx hb gd_Law_law_292 (lv_at hl 0 rfl) ?_
            refine lv_if_eq (tgt := 301) hx hb gd_Law_law_294 (by decide) (fun c47 => ?_) (fun c47 => ?_)
            · have h := gf_t c47 h
              refine lv_lconst (v := 0) hx hb gd_Law_law_301 (by decide) ?_
              exact gx_Law_law_b302 F C hr hk hfl hZ hN hX hbl hn hr1 k_23 u41 t1 t2 t3 x4 (u41.2.1 t3 ((0 : Int32)).toNatClampNeg) 0 o_t1 o_t2 o_t3 hW (lv_sub hl [2, 3, 4, 5, 6] rfl) h
            · have h := gf_f c47 h
              refine lv_lconst (v := 1) hx hb gd_Law_law_297 (by decide) ?_
              refine lv_goto (tgt := 302) hx hb gd_Law_law_298 (by decide) ?_
              exact gx_Law_law_b302 F C hr hk hfl hZ hN hX hbl hn hr1 k_23 u41 t1 t2 t3 x4 (u41.2.1 t3 ((0 : Int32)).toNatClampNeg) 1 o_t1 o_t2 o_t3 hW (lv_sub hl [2, 3, 4, 5, 6] rfl) h
        · have h := gf_f c44 h
          refine lv_iconst (v := 0) hx hb gd_Law_law_282 (by decide) ?_
          obtain rfl := Option.some.inj h
          exact absurd hr1 (by decide)
      · have h := gf_f c32 h
        by_cases c48 : ((xs (x4).toNatClampNeg) &&& (31 : Int32)) = 2
        · have h := gf_t c48 h
          refine lv_tableIn (x := ((xs (x4).toNatClampNeg) &&& (31 : Int32))) (off := 271) (tgt := 311) hx hb gd_Law_law_40 (by rw [c48]; decide) (by rw [c48]; decide) (by rw [c48]; rfl) (by decide) ?_
          refine lv_aload_n hx hb gd_Law_law_311 rfl (lv_at hl 1 rfl) ?_
          refine lv_aload_n hx hb gd_Law_law_312 rfl (lv_at hl 0 rfl) ?_
          refine lv_iload hx hb gd_Law_law_313 (lv_at hl 4 rfl) ?_
          refine lv_iconst (v := 1) hx hb gd_Law_law_315 (by decide) ?_
          refine lv_iadd hx hb gd_Law_law_316 ?_
          obtain ⟨g49, h⟩ := gf_if_ok h
          refine va_sld hx hb hX hbl (gw_lb hbl) hW.2.2.1 g49 gd_Law_law_317 ?_
          refine lv_aload_n hx hb gd_Law_law_318 rfl (lv_at hl 0 rfl) ?_
          refine lv_iload hx hb gd_Law_law_319 (lv_at hl 4 rfl) ?_
          refine lv_iconst (v := 2) hx hb gd_Law_law_321 (by decide) ?_
          refine lv_iadd hx hb gd_Law_law_322 ?_
          obtain ⟨g50, h⟩ := gf_if_ok h
          refine va_sld hx hb hX hbl (gw_lb hbl) hW.2.2.1 g50 gd_Law_law_323 ?_
          refine lv_aload_n hx hb gd_Law_law_324 rfl (lv_at hl 3 rfl) ?_
          obtain ⟨a53, u51, d52, h⟩ := gf_cl_ok h
          refine gw_callW (As := [.ref (hs t1), .int (xs ((x4 + (1 : Int32))).toNatClampNeg), .int (xs ((x4 + (2 : Int32))).toNatClampNeg), .ref (hs t3)]) (rest := []) C hW (fun _ h => Or.inr h) hZ hN hl.1 gm_Law_tooth (gc_Law_tooth l hfl F o_t1 o_t3 d52 _) gk_964 gk_965 rfl rfl ⟨(gw_lf (Nat.le_of_ble_eq_true rfl)), (gw_ll (Nat.le_of_ble_eq_true rfl))⟩ (gw_nc hn) rfl rfl (Nat.le_of_ble_eq_true rfl) gd_Law_law_325 (fun H locs hW => ?_)
          refine W.widen (k := 1000 + (n + 1)) (n := 400000 + 6 * (n + 1)) gw_n1 gw_n2 ?_
          refine lv_istore (lv' := [(5, .int a53), (0, .ref b), (1, .ref (hs t1)), (2, .ref (hs t2)), (3, .ref (hs t3)), (4, .int x4)]) hx hb gd_Law_law_328 hl (by decide) rfl (fun ls hl => ?_)
          refine lv_aload_n hx hb gd_Law_law_330 rfl (lv_at hl 3 rfl) ?_
          refine lv_aload_n hx hb gd_Law_law_331 rfl (lv_at hl 1 rfl) ?_
          refine lv_iload hx hb gd_Law_law_332 (lv_at hl 5 rfl) ?_
          refine lv_iconst (v := 1) hx hb gd_Law_law_334 (by decide) ?_
          refine lv_iadd hx hb gd_Law_law_335 ?_
          obtain ⟨g54, h⟩ := gf_if_ok h
          refine va_sld hx hb hX hbl (gw_lb hbl) hW.2.2.1 g54 gd_Law_law_336 ?_
          refine lv_aload_n hx hb gd_Law_law_337 rfl (lv_at hl 1 rfl) ?_
          refine lv_iload hx hb gd_Law_law_338 (lv_at hl 5 rfl) ?_
          refine lv_iconst (v := 2) hx hb gd_Law_law_340 (by decide) ?_
          refine lv_iadd hx hb gd_Law_law_341 ?_
          obtain ⟨g55, h⟩ := gf_if_ok h
          refine va_sld hx hb hX hbl (gw_lb hbl) hW.2.2.1 g55 gd_Law_law_342 ?_
          obtain ⟨a58, u56, d57, h⟩ := gf_cl_ok h
          refine gw_callVi (K := R_Model) (As := [.int (xs ((x4 + (1 : Int32))).toNatClampNeg), .int (xs ((x4 + (2 : Int32))).toNatClampNeg)]) (rest := []) C hW (fun _ h => Or.inr h) hl.1 gm_Model_tooth (gc_Model_tooth l F o_t2 d57 _) gk_966 gk_967 gk_968 o_t2 (by decide) rfl rfl rfl ⟨(gw_lf (Nat.le_of_ble_eq_true rfl)), (gw_ll (Nat.le_of_ble_eq_true rfl))⟩ (gw_ne hn) rfl rfl (Nat.le_of_ble_eq_true rfl) gd_Law_law_343 (fun H locs hW => ?_)
          refine lv_istore (lv' := [(6, .int a58), (5, .int a53), (0, .ref b), (1, .ref (hs t1)), (2, .ref (hs t2)), (3, .ref (hs t3)), (4, .int x4)]) hx hb gd_Law_law_346 hl (by decide) rfl (fun ls hl => ?_)
          refine lv_aload_n hx hb gd_Law_law_348 rfl (lv_at hl 4 rfl) ?_
          obtain ⟨a61, u59, d60, h⟩ := gf_cl_ok h
          refine gw_callVi (K := R_Model) (As := []) (rest := []) C hW (fun _ h => Or.inr h) hl.1 gm_Model_thrown (gc_Model_thrown l F o_t2 d60 _) gk_956 gk_957 gk_958 o_t2 (by decide) rfl rfl rfl ⟨(gw_lf (Nat.le_of_ble_eq_true rfl)), (gw_ll (Nat.le_of_ble_eq_true rfl))⟩ (gw_ne hn) rfl rfl (Nat.le_of_ble_eq_true rfl) gd_Law_law_349 (fun H locs hW => ?_)
          refine lv_iload hx hb gd_Law_law_352 (lv_at hl 1 rfl) ?_
          refine lv_icmp_eq (tgt := 359) hx hb gd_Law_law_354 (by decide) (fun c62 => ?_) (fun c62 => ?_)
          · have h := gf_t c62 h
            refine lv_iload hx hb gd_Law_law_359 (lv_at hl 1 rfl) ?_
            refine lv_if_ne (tgt := 376) hx hb gd_Law_law_361 (by decide) (fun c63 => ?_) (fun c63 => ?_)
            · have h := gf_f c63 h
              exact gx_Law_law_b376 F C hr hk hfl hZ hN hX hbl hn hr1 k_23 u59 t1 t2 t3 x4 o_t1 o_t2 o_t3 hW (lv_sub hl [2, 3, 4, 5, 6] rfl) h
            · have h := gf_t c63 h
              refine lv_aload_n hx hb gd_Law_law_364 rfl (lv_at hl 5 rfl) ?_
              refine lv_iconst (v := 0) hx hb gd_Law_law_365 (by decide) ?_
              obtain ⟨g64, h⟩ := gf_if_ok h
              refine gw_lald C hW o_t3 g64 gd_Law_law_366 ?_
              refine lv_iload hx hb gd_Law_law_367 (lv_at hl 0 rfl) ?_
              refine lv_i2l hx hb gd_Law_law_369 rfl ?_
              refine W.lcmp hx hb gd_Law_law_370 ?_
              refine lv_if_eq (tgt := 376) hx hb gd_Law_law_371 (by decide) (fun c65 => ?_) (fun c65 => ?_)
              · have h := gf_t c65 h
                exact gx_Law_law_b376 F C hr hk hfl hZ hN hX hbl hn hr1 k_23 u59 t1 t2 t3 x4 o_t1 o_t2 o_t3 hW (lv_sub hl [2, 3, 4, 5, 6] rfl) h
              · have h := gf_f c65 h
                refine lv_iconst (v := 0) hx hb gd_Law_law_374 (by decide) ?_
                obtain rfl := Option.some.inj h
                exact absurd hr1 (by decide)
          · have h := gf_f c62 h
            refine lv_iconst (v := 0) hx hb gd_Law_law_357 (by decide) ?_
            obtain rfl := Option.some.inj h
            exact absurd hr1 (by decide)
        · have h := gf_f c48 h
          by_cases c66 : ((xs (x4).toNatClampNeg) &&& (31 : Int32)) = 3
          · have h := gf_t c66 h
            refine lv_tableIn (x := ((xs (x4).toNatClampNeg) &&& (31 : Int32))) (off := 339) (tgt := 379) hx hb gd_Law_law_40 (by rw [c66]; decide) (by rw [c66]; decide) (by rw [c66]; rfl) (by decide) ?_
            refine lv_aload_n hx hb gd_Law_law_379 rfl (lv_at hl 1 rfl) ?_
            refine lv_aload_n hx hb gd_Law_law_380 rfl (lv_at hl 0 rfl) ?_
            refine lv_iload hx hb gd_Law_law_381 (lv_at hl 4 rfl) ?_
            refine lv_iconst (v := 1) hx hb gd_Law_law_383 (by decide) ?_
            refine lv_iadd hx hb gd_Law_law_384 ?_
            obtain ⟨g67, h⟩ := gf_if_ok h
            refine va_sld hx hb hX hbl (gw_lb hbl) hW.2.2.1 g67 gd_Law_law_385 ?_
            refine lv_aload_n hx hb gd_Law_law_386 rfl (lv_at hl 3 rfl) ?_
            obtain ⟨a70, u68, d69, h⟩ := gf_cl_ok h
            refine gw_callW (As := [.ref (hs t1), .int (xs ((x4 + (1 : Int32))).toNatClampNeg), .ref (hs t3)]) (rest := []) C hW (fun _ h => Or.inr h) hZ hN hl.1 gm_Law_error (gc_Law_error l hfl F o_t1 o_t3 d69 _) gk_969 gk_970 rfl rfl ⟨(gw_lf (Nat.le_of_ble_eq_true rfl)), (gw_ll (Nat.le_of_ble_eq_true rfl))⟩ (gw_nc hn) rfl rfl (Nat.le_of_ble_eq_true rfl) gd_Law_law_387 (fun H locs hW => ?_)
            refine W.widen (k := 1000 + (n + 1)) (n := 400000 + 6 * (n + 1)) gw_n1 gw_n2 ?_
            refine lv_istore (lv' := [(5, .int a70), (0, .ref b), (1, .ref (hs t1)), (2, .ref (hs t2)), (3, .ref (hs t3)), (4, .int x4)]) hx hb gd_Law_law_390 hl (by decide) rfl (fun ls hl => ?_)
            refine lv_aload_n hx hb gd_Law_law_392 rfl (lv_at hl 3 rfl) ?_
            refine lv_aload_n hx hb gd_Law_law_393 rfl (lv_at hl 1 rfl) ?_
            refine lv_iload hx hb gd_Law_law_394 (lv_at hl 5 rfl) ?_
            refine lv_iconst (v := 1) hx hb gd_Law_law_396 (by decide) ?_
            refine lv_iadd hx hb gd_Law_law_397 ?_
            obtain ⟨g71, h⟩ := gf_if_ok h
            refine va_sld hx hb hX hbl (gw_lb hbl) hW.2.2.1 g71 gd_Law_law_398 ?_
            obtain ⟨a74, u72, d73, h⟩ := gf_cl_ok h
            refine gw_callVl (K := R_Model) (As := [.int (xs ((x4 + (1 : Int32))).toNatClampNeg)]) (rest := []) C hW (fun _ h => Or.inr h) hl.1 gm_Model_error (gc_Model_error l F o_t2 d73 _) gk_971 gk_972 gk_973 o_t2 (by decide) rfl rfl rfl ⟨(gw_lf (Nat.le_of_ble_eq_true rfl)), (gw_ll (Nat.le_of_ble_eq_true rfl))⟩ (gw_ne hn) rfl rfl (Nat.le_of_ble_eq_true rfl) gd_Law_law_399 (fun H locs hW => ?_)
            refine lv_lstore (lv' := [(6, .long a74), (5, .int a70), (0, .ref b), (1, .ref (hs t1)), (2, .ref (hs t2)), (3, .ref (hs t3)), (4, .int x4)]) hx hb gd_Law_law_402 hl (by decide) rfl (fun ls hl => ?_)
            refine lv_aload_n hx hb gd_Law_law_404 rfl (lv_at hl 4 rfl) ?_
            obtain ⟨a77, u75, d76, h⟩ := gf_cl_ok h
            refine gw_callVi (K := R_Model) (As := []) (rest := []) C hW (fun _ h => Or.inr h) hl.1 gm_Model_thrown (gc_Model_thrown l F o_t2 d76 _) gk_956 gk_957 gk_958 o_t2 (by decide) rfl rfl rfl ⟨(gw_lf (Nat.le_of_ble_eq_true rfl)), (gw_ll (Nat.le_of_ble_eq_true rfl))⟩ (gw_ne hn) rfl rfl (Nat.le_of_ble_eq_true rfl) gd_Law_law_405 (fun H locs hW => ?_)
            refine lv_iload hx hb gd_Law_law_408 (lv_at hl 1 rfl) ?_
            refine lv_icmp_eq (tgt := 415) hx hb gd_Law_law_410 (by decide) (fun c78 => ?_) (fun c78 => ?_)
            · have h := gf_t c78 h
              refine lv_iload hx hb gd_Law_law_415 (lv_at hl 1 rfl) ?_
              refine lv_if_ne (tgt := 431) hx hb gd_Law_law_417 (by decide) (fun c79 => ?_) (fun c79 => ?_)
              · have h := gf_f c79 h
                exact gx_Law_law_b431 F C hr hk hfl hZ hN hX hbl hn hr1 k_23 u75 t1 t2 t3 x4 o_t1 o_t2 o_t3 hW (lv_sub hl [2, 3, 4, 5, 6] rfl) h
              · have h := gf_t c79 h
                refine lv_aload_n hx hb gd_Law_law_420 rfl (lv_at hl 5 rfl) ?_
                refine lv_iconst (v := 0) hx hb gd_Law_law_421 (by decide) ?_
                obtain ⟨g80, h⟩ := gf_if_ok h
                refine gw_lald C hW o_t3 g80 gd_Law_law_422 ?_
                refine lv_lload hx hb gd_Law_law_423 (lv_at hl 0 rfl) ?_
                refine W.lcmp hx hb gd_Law_law_425 ?_
                refine lv_if_eq (tgt := 431) hx hb gd_Law_law_426 (by decide) (fun c81 => ?_) (fun c81 => ?_)
                · have h := gf_t c81 h
                  exact gx_Law_law_b431 F C hr hk hfl hZ hN hX hbl hn hr1 k_23 u75 t1 t2 t3 x4 o_t1 o_t2 o_t3 hW (lv_sub hl [2, 3, 4, 5, 6] rfl) h
                · have h := gf_f c81 h
                  refine lv_iconst (v := 0) hx hb gd_Law_law_429 (by decide) ?_
                  obtain rfl := Option.some.inj h
                  exact absurd hr1 (by decide)
            · have h := gf_f c78 h
              refine lv_iconst (v := 0) hx hb gd_Law_law_413 (by decide) ?_
              obtain rfl := Option.some.inj h
              exact absurd hr1 (by decide)
          · have h := gf_f c66 h
            by_cases c82 : ((xs (x4).toNatClampNeg) &&& (31 : Int32)) = 4
            · have h := gf_t c82 h
              refine lv_tableIn (x := ((xs (x4).toNatClampNeg) &&& (31 : Int32))) (off := 394) (tgt := 434) hx hb gd_Law_law_40 (by rw [c82]; decide) (by rw [c82]; decide) (by rw [c82]; rfl) (by decide) ?_
              refine lv_aload_n hx hb gd_Law_law_434 rfl (lv_at hl 1 rfl) ?_
              refine lv_aload_n hx hb gd_Law_law_435 rfl (lv_at hl 0 rfl) ?_
              refine lv_iload hx hb gd_Law_law_436 (lv_at hl 4 rfl) ?_
              refine lv_iconst (v := 1) hx hb gd_Law_law_438 (by decide) ?_
              refine lv_iadd hx hb gd_Law_law_439 ?_
              obtain ⟨g83, h⟩ := gf_if_ok h
              refine va_sld hx hb hX hbl (gw_lb hbl) hW.2.2.1 g83 gd_Law_law_440 ?_
              refine lv_aload_n hx hb gd_Law_law_441 rfl (lv_at hl 0 rfl) ?_
              refine lv_iload hx hb gd_Law_law_442 (lv_at hl 4 rfl) ?_
              refine lv_iconst (v := 2) hx hb gd_Law_law_444 (by decide) ?_
              refine lv_iadd hx hb gd_Law_law_445 ?_
              obtain ⟨g84, h⟩ := gf_if_ok h
              refine va_sld hx hb hX hbl (gw_lb hbl) hW.2.2.1 g84 gd_Law_law_446 ?_
              refine lv_aload_n hx hb gd_Law_law_447 rfl (lv_at hl 0 rfl) ?_
              refine lv_iload hx hb gd_Law_law_448 (lv_at hl 4 rfl) ?_
              refine lv_iconst (v := 3) hx hb gd_Law_law_450 (by decide) ?_
              refine lv_iadd hx hb gd_Law_law_451 ?_
              obtain ⟨g85, h⟩ := gf_if_ok h
              refine va_sld hx hb hX hbl (gw_lb hbl) hW.2.2.1 g85 gd_Law_law_452 ?_
              refine lv_aload_n hx hb gd_Law_law_453 rfl (lv_at hl 3 rfl) ?_
              obtain ⟨a88, u86, d87, h⟩ := gf_cl_ok h
              refine gw_callW (As := [.ref (hs t1), .int (xs ((x4 + (1 : Int32))).toNatClampNeg), .int (xs ((x4 + (2 : Int32))).toNatClampNeg), .int (xs ((x4 + (3 : Int32))).toNatClampNeg), .ref (hs t3)]) (rest := []) C hW (fun _ h => Or.inr h) hZ hN hl.1 gm_Law_quotient (gc_Law_quotient l hfl F o_t1 o_t3 d87 _) gk_974 gk_975 rfl rfl ⟨(gw_lf (Nat.le_of_ble_eq_true rfl)), (gw_ll (Nat.le_of_ble_eq_true rfl))⟩ (gw_nc hn) rfl rfl (Nat.le_of_ble_eq_true rfl) gd_Law_law_454 (fun H locs hW => ?_)
              refine W.widen (k := 1000 + (n + 1)) (n := 400000 + 6 * (n + 1)) gw_n1 gw_n2 ?_
              refine lv_istore (lv' := [(5, .int a88), (0, .ref b), (1, .ref (hs t1)), (2, .ref (hs t2)), (3, .ref (hs t3)), (4, .int x4)]) hx hb gd_Law_law_457 hl (by decide) rfl (fun ls hl => ?_)
              refine lv_aload_n hx hb gd_Law_law_459 rfl (lv_at hl 3 rfl) ?_
              refine lv_aload_n hx hb gd_Law_law_460 rfl (lv_at hl 1 rfl) ?_
              refine lv_iload hx hb gd_Law_law_461 (lv_at hl 5 rfl) ?_
              refine lv_iconst (v := 1) hx hb gd_Law_law_463 (by decide) ?_
              refine lv_iadd hx hb gd_Law_law_464 ?_
              obtain ⟨g89, h⟩ := gf_if_ok h
              refine va_sld hx hb hX hbl (gw_lb hbl) hW.2.2.1 g89 gd_Law_law_465 ?_
              refine lv_aload_n hx hb gd_Law_law_466 rfl (lv_at hl 1 rfl) ?_
              refine lv_iload hx hb gd_Law_law_467 (lv_at hl 5 rfl) ?_
              refine lv_iconst (v := 2) hx hb gd_Law_law_469 (by decide) ?_
              refine lv_iadd hx hb gd_Law_law_470 ?_
              obtain ⟨g90, h⟩ := gf_if_ok h
              refine va_sld hx hb hX hbl (gw_lb hbl) hW.2.2.1 g90 gd_Law_law_471 ?_
              refine lv_aload_n hx hb gd_Law_law_472 rfl (lv_at hl 1 rfl) ?_
              refine lv_iload hx hb gd_Law_law_473 (lv_at hl 5 rfl) ?_
              refine lv_iconst (v := 3) hx hb gd_Law_law_475 (by decide) ?_
              refine lv_iadd hx hb gd_Law_law_476 ?_
              obtain ⟨g91, h⟩ := gf_if_ok h
              refine va_sld hx hb hX hbl (gw_lb hbl) hW.2.2.1 g91 gd_Law_law_477 ?_
              obtain ⟨a94, u92, d93, h⟩ := gf_cl_ok h
              refine gw_callVi (K := R_Model) (As := [.int (xs ((x4 + (1 : Int32))).toNatClampNeg), .int (xs ((x4 + (2 : Int32))).toNatClampNeg), .int (xs ((x4 + (3 : Int32))).toNatClampNeg)]) (rest := []) C hW (fun _ h => Or.inr h) hl.1 gm_Model_quotient (gc_Model_quotient l F o_t2 d93 _) gk_976 gk_977 gk_978 o_t2 (by decide) rfl rfl rfl ⟨(gw_lf (Nat.le_of_ble_eq_true rfl)), (gw_ll (Nat.le_of_ble_eq_true rfl))⟩ (gw_ne hn) rfl rfl (Nat.le_of_ble_eq_true rfl) gd_Law_law_478 (fun H locs hW => ?_)
              refine lv_istore (lv' := [(6, .int a94), (5, .int a88), (0, .ref b), (1, .ref (hs t1)), (2, .ref (hs t2)), (3, .ref (hs t3)), (4, .int x4)]) hx hb gd_Law_law_481 hl (by decide) rfl (fun ls hl => ?_)
              refine lv_aload_n hx hb gd_Law_law_483 rfl (lv_at hl 4 rfl) ?_
              obtain ⟨a97, u95, d96, h⟩ := gf_cl_ok h
              refine gw_callVi (K := R_Model) (As := []) (rest := []) C hW (fun _ h => Or.inr h) hl.1 gm_Model_thrown (gc_Model_thrown l F o_t2 d96 _) gk_956 gk_957 gk_958 o_t2 (by decide) rfl rfl rfl ⟨(gw_lf (Nat.le_of_ble_eq_true rfl)), (gw_ll (Nat.le_of_ble_eq_true rfl))⟩ (gw_ne hn) rfl rfl (Nat.le_of_ble_eq_true rfl) gd_Law_law_484 (fun H locs hW => ?_)
              refine lv_iload hx hb gd_Law_law_487 (lv_at hl 1 rfl) ?_
              refine lv_icmp_eq (tgt := 494) hx hb gd_Law_law_489 (by decide) (fun c98 => ?_) (fun c98 => ?_)
              · have h := gf_t c98 h
                refine lv_iload hx hb gd_Law_law_494 (lv_at hl 1 rfl) ?_
                refine lv_if_ne (tgt := 511) hx hb gd_Law_law_496 (by decide) (fun c99 => ?_) (fun c99 => ?_)
                · have h := gf_f c99 h
                  exact gx_Law_law_b511 F C hr hk hfl hZ hN hX hbl hn hr1 k_23 u95 t1 t2 t3 x4 o_t1 o_t2 o_t3 hW (lv_sub hl [2, 3, 4, 5, 6] rfl) h
                · have h := gf_t c99 h
                  refine lv_aload_n hx hb gd_Law_law_499 rfl (lv_at hl 5 rfl) ?_
                  refine lv_iconst (v := 0) hx hb gd_Law_law_500 (by decide) ?_
                  obtain ⟨g100, h⟩ := gf_if_ok h
                  refine gw_lald C hW o_t3 g100 gd_Law_law_501 ?_
                  refine lv_iload hx hb gd_Law_law_502 (lv_at hl 0 rfl) ?_
                  refine lv_i2l hx hb gd_Law_law_504 rfl ?_
                  refine W.lcmp hx hb gd_Law_law_505 ?_
                  refine lv_if_eq (tgt := 511) hx hb gd_Law_law_506 (by decide) (fun c101 => ?_) (fun c101 => ?_)
                  · have h := gf_t c101 h
                    exact gx_Law_law_b511 F C hr hk hfl hZ hN hX hbl hn hr1 k_23 u95 t1 t2 t3 x4 o_t1 o_t2 o_t3 hW (lv_sub hl [2, 3, 4, 5, 6] rfl) h
                  · have h := gf_f c101 h
                    refine lv_iconst (v := 0) hx hb gd_Law_law_509 (by decide) ?_
                    obtain rfl := Option.some.inj h
                    exact absurd hr1 (by decide)
              · have h := gf_f c98 h
                refine lv_iconst (v := 0) hx hb gd_Law_law_492 (by decide) ?_
                obtain rfl := Option.some.inj h
                exact absurd hr1 (by decide)
            · have h := gf_f c82 h
              by_cases c102 : ((xs (x4).toNatClampNeg) &&& (31 : Int32)) = 5
              · have h := gf_t c102 h
                refine lv_tableIn (x := ((xs (x4).toNatClampNeg) &&& (31 : Int32))) (off := 474) (tgt := 514) hx hb gd_Law_law_40 (by rw [c102]; decide) (by rw [c102]; decide) (by rw [c102]; rfl) (by decide) ?_
                refine lv_aload_n hx hb gd_Law_law_514 rfl (lv_at hl 1 rfl) ?_
                refine lv_aload_n hx hb gd_Law_law_515 rfl (lv_at hl 0 rfl) ?_
                refine lv_iload hx hb gd_Law_law_516 (lv_at hl 4 rfl) ?_
                refine lv_iconst (v := 1) hx hb gd_Law_law_518 (by decide) ?_
                refine lv_iadd hx hb gd_Law_law_519 ?_
                obtain ⟨g103, h⟩ := gf_if_ok h
                refine va_sld hx hb hX hbl (gw_lb hbl) hW.2.2.1 g103 gd_Law_law_520 ?_
                refine lv_aload_n hx hb gd_Law_law_521 rfl (lv_at hl 3 rfl) ?_
                obtain ⟨a106, u104, d105, h⟩ := gf_cl_ok h
                refine gw_callW (As := [.ref (hs t1), .int (xs ((x4 + (1 : Int32))).toNatClampNeg), .ref (hs t3)]) (rest := []) C hW (fun _ h => Or.inr h) hZ hN hl.1 gm_Law_gear (gc_Law_gear l hfl F o_t1 o_t3 d105 _) gk_979 gk_980 rfl rfl ⟨(gw_lf (Nat.le_of_ble_eq_true rfl)), (gw_ll (Nat.le_of_ble_eq_true rfl))⟩ (gw_nc hn) rfl rfl (Nat.le_of_ble_eq_true rfl) gd_Law_law_522 (fun H locs hW => ?_)
                refine W.widen (k := 1000 + (n + 1)) (n := 400000 + 6 * (n + 1)) gw_n1 gw_n2 ?_
                refine lv_istore (lv' := [(5, .int a106), (0, .ref b), (1, .ref (hs t1)), (2, .ref (hs t2)), (3, .ref (hs t3)), (4, .int x4)]) hx hb gd_Law_law_525 hl (by decide) rfl (fun ls hl => ?_)
                refine lv_aload_n hx hb gd_Law_law_527 rfl (lv_at hl 3 rfl) ?_
                refine lv_aload_n hx hb gd_Law_law_528 rfl (lv_at hl 1 rfl) ?_
                refine lv_iload hx hb gd_Law_law_529 (lv_at hl 5 rfl) ?_
                refine lv_iconst (v := 1) hx hb gd_Law_law_531 (by decide) ?_
                refine lv_iadd hx hb gd_Law_law_532 ?_
                obtain ⟨g107, h⟩ := gf_if_ok h
                refine va_sld hx hb hX hbl (gw_lb hbl) hW.2.2.1 g107 gd_Law_law_533 ?_
                obtain ⟨a110, u108, d109, h⟩ := gf_cl_ok h
                refine gw_callVi (K := R_Model) (As := [.int (xs ((x4 + (1 : Int32))).toNatClampNeg)]) (rest := []) C hW (fun _ h => Or.inr h) hl.1 gm_Model_gear (gc_Model_gear l F o_t2 d109 _) gk_981 gk_982 gk_983 o_t2 (by decide) rfl rfl rfl ⟨(gw_lf (Nat.le_of_ble_eq_true rfl)), (gw_ll (Nat.le_of_ble_eq_true rfl))⟩ (gw_ne hn) rfl rfl (Nat.le_of_ble_eq_true rfl) gd_Law_law_534 (fun H locs hW => ?_)
                refine lv_istore (lv' := [(6, .int a110), (5, .int a106), (0, .ref b), (1, .ref (hs t1)), (2, .ref (hs t2)), (3, .ref (hs t3)), (4, .int x4)]) hx hb gd_Law_law_537 hl (by decide) rfl (fun ls hl => ?_)
                refine lv_aload_n hx hb gd_Law_law_539 rfl (lv_at hl 4 rfl) ?_
                obtain ⟨a113, u111, d112, h⟩ := gf_cl_ok h
                refine gw_callVi (K := R_Model) (As := []) (rest := []) C hW (fun _ h => Or.inr h) hl.1 gm_Model_thrown (gc_Model_thrown l F o_t2 d112 _) gk_956 gk_957 gk_958 o_t2 (by decide) rfl rfl rfl ⟨(gw_lf (Nat.le_of_ble_eq_true rfl)), (gw_ll (Nat.le_of_ble_eq_true rfl))⟩ (gw_ne hn) rfl rfl (Nat.le_of_ble_eq_true rfl) gd_Law_law_540 (fun H locs hW => ?_)
                refine lv_iload hx hb gd_Law_law_543 (lv_at hl 1 rfl) ?_
                refine lv_icmp_eq (tgt := 550) hx hb gd_Law_law_545 (by decide) (fun c114 => ?_) (fun c114 => ?_)
                · have h := gf_t c114 h
                  refine lv_iload hx hb gd_Law_law_550 (lv_at hl 1 rfl) ?_
                  refine lv_if_ne (tgt := 567) hx hb gd_Law_law_552 (by decide) (fun c115 => ?_) (fun c115 => ?_)
                  · have h := gf_f c115 h
                    exact gx_Law_law_b567 F C hr hk hfl hZ hN hX hbl hn hr1 k_23 u111 t1 t2 t3 x4 o_t1 o_t2 o_t3 hW (lv_sub hl [2, 3, 4, 5, 6] rfl) h
                  · have h := gf_t c115 h
                    refine lv_aload_n hx hb gd_Law_law_555 rfl (lv_at hl 5 rfl) ?_
                    refine lv_iconst (v := 0) hx hb gd_Law_law_556 (by decide) ?_
                    obtain ⟨g116, h⟩ := gf_if_ok h
                    refine gw_lald C hW o_t3 g116 gd_Law_law_557 ?_
                    refine lv_iload hx hb gd_Law_law_558 (lv_at hl 0 rfl) ?_
                    refine lv_i2l hx hb gd_Law_law_560 rfl ?_
                    refine W.lcmp hx hb gd_Law_law_561 ?_
                    refine lv_if_eq (tgt := 567) hx hb gd_Law_law_562 (by decide) (fun c117 => ?_) (fun c117 => ?_)
                    · have h := gf_t c117 h
                      exact gx_Law_law_b567 F C hr hk hfl hZ hN hX hbl hn hr1 k_23 u111 t1 t2 t3 x4 o_t1 o_t2 o_t3 hW (lv_sub hl [2, 3, 4, 5, 6] rfl) h
                    · have h := gf_f c117 h
                      refine lv_iconst (v := 0) hx hb gd_Law_law_565 (by decide) ?_
                      obtain rfl := Option.some.inj h
                      exact absurd hr1 (by decide)
                · have h := gf_f c114 h
                  refine lv_iconst (v := 0) hx hb gd_Law_law_548 (by decide) ?_
                  obtain rfl := Option.some.inj h
                  exact absurd hr1 (by decide)
              · have h := gf_f c102 h
                by_cases c118 : ((xs (x4).toNatClampNeg) &&& (31 : Int32)) = 6
                · have h := gf_t c118 h
                  refine lv_tableIn (x := ((xs (x4).toNatClampNeg) &&& (31 : Int32))) (off := 530) (tgt := 570) hx hb gd_Law_law_40 (by rw [c118]; decide) (by rw [c118]; decide) (by rw [c118]; rfl) (by decide) ?_
                  refine lv_aload_n hx hb gd_Law_law_570 rfl (lv_at hl 1 rfl) ?_
                  refine lv_aload_n hx hb gd_Law_law_571 rfl (lv_at hl 0 rfl) ?_
                  refine lv_iload hx hb gd_Law_law_572 (lv_at hl 4 rfl) ?_
                  refine lv_iconst (v := 1) hx hb gd_Law_law_574 (by decide) ?_
                  refine lv_iadd hx hb gd_Law_law_575 ?_
                  obtain ⟨g119, h⟩ := gf_if_ok h
                  refine va_sld hx hb hX hbl (gw_lb hbl) hW.2.2.1 g119 gd_Law_law_576 ?_
                  refine lv_aload_n hx hb gd_Law_law_577 rfl (lv_at hl 0 rfl) ?_
                  refine lv_iload hx hb gd_Law_law_578 (lv_at hl 4 rfl) ?_
                  refine lv_iconst (v := 2) hx hb gd_Law_law_580 (by decide) ?_
                  refine lv_iadd hx hb gd_Law_law_581 ?_
                  obtain ⟨g120, h⟩ := gf_if_ok h
                  refine va_sld hx hb hX hbl (gw_lb hbl) hW.2.2.1 g120 gd_Law_law_582 ?_
                  refine lv_aload_n hx hb gd_Law_law_583 rfl (lv_at hl 3 rfl) ?_
                  obtain ⟨a123, u121, d122, h⟩ := gf_cl_ok h
                  refine gw_callW (As := [.ref (hs t1), .int (xs ((x4 + (1 : Int32))).toNatClampNeg), .int (xs ((x4 + (2 : Int32))).toNatClampNeg), .ref (hs t3)]) (rest := []) C hW (fun _ h => Or.inr h) hZ hN hl.1 gm_Law_mesh (gc_Law_mesh l hfl F o_t1 o_t3 d122 _) gk_984 gk_985 rfl rfl ⟨(gw_lf (Nat.le_of_ble_eq_true rfl)), (gw_ll (Nat.le_of_ble_eq_true rfl))⟩ (gw_nc hn) rfl rfl (Nat.le_of_ble_eq_true rfl) gd_Law_law_584 (fun H locs hW => ?_)
                  refine W.widen (k := 1000 + (n + 1)) (n := 400000 + 6 * (n + 1)) gw_n1 gw_n2 ?_
                  refine lv_istore (lv' := [(5, .int a123), (0, .ref b), (1, .ref (hs t1)), (2, .ref (hs t2)), (3, .ref (hs t3)), (4, .int x4)]) hx hb gd_Law_law_587 hl (by decide) rfl (fun ls hl => ?_)
                  refine lv_aload_n hx hb gd_Law_law_589 rfl (lv_at hl 3 rfl) ?_
                  refine lv_aload_n hx hb gd_Law_law_590 rfl (lv_at hl 1 rfl) ?_
                  refine lv_iload hx hb gd_Law_law_591 (lv_at hl 5 rfl) ?_
                  refine lv_iconst (v := 1) hx hb gd_Law_law_593 (by decide) ?_
                  refine lv_iadd hx hb gd_Law_law_594 ?_
                  obtain ⟨g124, h⟩ := gf_if_ok h
                  refine va_sld hx hb hX hbl (gw_lb hbl) hW.2.2.1 g124 gd_Law_law_595 ?_
                  refine lv_aload_n hx hb gd_Law_law_596 rfl (lv_at hl 1 rfl) ?_
                  refine lv_iload hx hb gd_Law_law_597 (lv_at hl 5 rfl) ?_
                  refine lv_iconst (v := 2) hx hb gd_Law_law_599 (by decide) ?_
                  refine lv_iadd hx hb gd_Law_law_600 ?_
                  obtain ⟨g125, h⟩ := gf_if_ok h
                  refine va_sld hx hb hX hbl (gw_lb hbl) hW.2.2.1 g125 gd_Law_law_601 ?_
                  obtain ⟨a128, u126, d127, h⟩ := gf_cl_ok h
                  refine gw_callVi (K := R_Model) (As := [.int (xs ((x4 + (1 : Int32))).toNatClampNeg), .int (xs ((x4 + (2 : Int32))).toNatClampNeg)]) (rest := []) C hW (fun _ h => Or.inr h) hl.1 gm_Model_mesh (gc_Model_mesh l F o_t2 d127 _) gk_986 gk_987 gk_988 o_t2 (by decide) rfl rfl rfl ⟨(gw_lf (Nat.le_of_ble_eq_true rfl)), (gw_ll (Nat.le_of_ble_eq_true rfl))⟩ (gw_ne hn) rfl rfl (Nat.le_of_ble_eq_true rfl) gd_Law_law_602 (fun H locs hW => ?_)
                  refine lv_istore (lv' := [(6, .int a128), (5, .int a123), (0, .ref b), (1, .ref (hs t1)), (2, .ref (hs t2)), (3, .ref (hs t3)), (4, .int x4)]) hx hb gd_Law_law_605 hl (by decide) rfl (fun ls hl => ?_)
                  refine lv_aload_n hx hb gd_Law_law_607 rfl (lv_at hl 4 rfl) ?_
                  obtain ⟨a131, u129, d130, h⟩ := gf_cl_ok h
                  refine gw_callVi (K := R_Model) (As := []) (rest := []) C hW (fun _ h => Or.inr h) hl.1 gm_Model_thrown (gc_Model_thrown l F o_t2 d130 _) gk_956 gk_957 gk_958 o_t2 (by decide) rfl rfl rfl ⟨(gw_lf (Nat.le_of_ble_eq_true rfl)), (gw_ll (Nat.le_of_ble_eq_true rfl))⟩ (gw_ne hn) rfl rfl (Nat.le_of_ble_eq_true rfl) gd_Law_law_608 (fun H locs hW => ?_)
                  refine lv_iload hx hb gd_Law_law_611 (lv_at hl 1 rfl) ?_
                  refine lv_icmp_eq (tgt := 618) hx hb gd_Law_law_613 (by decide) (fun c132 => ?_) (fun c132 => ?_)
                  · have h := gf_t c132 h
                    refine lv_iload hx hb gd_Law_law_618 (lv_at hl 1 rfl) ?_
                    refine lv_if_ne (tgt := 635) hx hb gd_Law_law_620 (by decide) (fun c133 => ?_) (fun c133 => ?_)
                    · have h := gf_f c133 h
                      exact gx_Law_law_b635 F C hr hk hfl hZ hN hX hbl hn hr1 k_23 u129 t1 t2 t3 x4 o_t1 o_t2 o_t3 hW (lv_sub hl [2, 3, 4, 5, 6] rfl) h
                    · have h := gf_t c133 h
                      refine lv_aload_n hx hb gd_Law_law_623 rfl (lv_at hl 5 rfl) ?_
                      refine lv_iconst (v := 0) hx hb gd_Law_law_624 (by decide) ?_
                      obtain ⟨g134, h⟩ := gf_if_ok h
                      refine gw_lald C hW o_t3 g134 gd_Law_law_625 ?_
                      refine lv_iload hx hb gd_Law_law_626 (lv_at hl 0 rfl) ?_
                      refine lv_i2l hx hb gd_Law_law_628 rfl ?_
                      refine W.lcmp hx hb gd_Law_law_629 ?_
                      refine lv_if_eq (tgt := 635) hx hb gd_Law_law_630 (by decide) (fun c135 => ?_) (fun c135 => ?_)
                      · have h := gf_t c135 h
                        exact gx_Law_law_b635 F C hr hk hfl hZ hN hX hbl hn hr1 k_23 u129 t1 t2 t3 x4 o_t1 o_t2 o_t3 hW (lv_sub hl [2, 3, 4, 5, 6] rfl) h
                      · have h := gf_f c135 h
                        refine lv_iconst (v := 0) hx hb gd_Law_law_633 (by decide) ?_
                        obtain rfl := Option.some.inj h
                        exact absurd hr1 (by decide)
                  · have h := gf_f c132 h
                    refine lv_iconst (v := 0) hx hb gd_Law_law_616 (by decide) ?_
                    obtain rfl := Option.some.inj h
                    exact absurd hr1 (by decide)
                · have h := gf_f c118 h
                  by_cases c136 : ((xs (x4).toNatClampNeg) &&& (31 : Int32)) = 7
                  · have h := gf_t c136 h
                    refine lv_tableIn (x := ((xs (x4).toNatClampNeg) &&& (31 : Int32))) (off := 598) (tgt := 638) hx hb gd_Law_law_40 (by rw [c136]; decide) (by rw [c136]; decide) (by rw [c136]; rfl) (by decide) ?_
                    refine lv_aload_n hx hb gd_Law_law_638 rfl (lv_at hl 1 rfl) ?_
                    refine lv_aload_n hx hb gd_Law_law_639 rfl (lv_at hl 0 rfl) ?_
                    refine lv_iload hx hb gd_Law_law_640 (lv_at hl 4 rfl) ?_
                    refine lv_iconst (v := 1) hx hb gd_Law_law_642 (by decide) ?_
                    refine lv_iadd hx hb gd_Law_law_643 ?_
                    obtain ⟨g137, h⟩ := gf_if_ok h
                    refine va_sld hx hb hX hbl (gw_lb hbl) hW.2.2.1 g137 gd_Law_law_644 ?_
                    refine lv_aload_n hx hb gd_Law_law_645 rfl (lv_at hl 0 rfl) ?_
                    refine lv_iload hx hb gd_Law_law_646 (lv_at hl 4 rfl) ?_
                    refine lv_iconst (v := 2) hx hb gd_Law_law_648 (by decide) ?_
                    refine lv_iadd hx hb gd_Law_law_649 ?_
                    obtain ⟨g138, h⟩ := gf_if_ok h
                    refine va_sld hx hb hX hbl (gw_lb hbl) hW.2.2.1 g138 gd_Law_law_650 ?_
                    refine lv_aload_n hx hb gd_Law_law_651 rfl (lv_at hl 3 rfl) ?_
                    obtain ⟨a141, u139, d140, h⟩ := gf_cl_ok h
                    refine gw_callW (As := [.ref (hs t1), .int (xs ((x4 + (1 : Int32))).toNatClampNeg), .int (xs ((x4 + (2 : Int32))).toNatClampNeg), .ref (hs t3)]) (rest := []) C hW (fun _ h => Or.inr h) hZ hN hl.1 gm_Law_inner (gc_Law_inner l hfl F o_t1 o_t3 d140 _) gk_989 gk_990 rfl rfl ⟨(gw_lf (Nat.le_of_ble_eq_true rfl)), (gw_ll (Nat.le_of_ble_eq_true rfl))⟩ (gw_nc hn) rfl rfl (Nat.le_of_ble_eq_true rfl) gd_Law_law_652 (fun H locs hW => ?_)
                    refine W.widen (k := 1000 + (n + 1)) (n := 400000 + 6 * (n + 1)) gw_n1 gw_n2 ?_
                    refine lv_istore (lv' := [(5, .int a141), (0, .ref b), (1, .ref (hs t1)), (2, .ref (hs t2)), (3, .ref (hs t3)), (4, .int x4)]) hx hb gd_Law_law_655 hl (by decide) rfl (fun ls hl => ?_)
                    refine lv_aload_n hx hb gd_Law_law_657 rfl (lv_at hl 3 rfl) ?_
                    refine lv_aload_n hx hb gd_Law_law_658 rfl (lv_at hl 1 rfl) ?_
                    refine lv_iload hx hb gd_Law_law_659 (lv_at hl 5 rfl) ?_
                    refine lv_iconst (v := 1) hx hb gd_Law_law_661 (by decide) ?_
                    refine lv_iadd hx hb gd_Law_law_662 ?_
                    obtain ⟨g142, h⟩ := gf_if_ok h
                    refine va_sld hx hb hX hbl (gw_lb hbl) hW.2.2.1 g142 gd_Law_law_663 ?_
                    refine lv_aload_n hx hb gd_Law_law_664 rfl (lv_at hl 1 rfl) ?_
                    refine lv_iload hx hb gd_Law_law_665 (lv_at hl 5 rfl) ?_
                    refine lv_iconst (v := 2) hx hb gd_Law_law_667 (by decide) ?_
                    refine lv_iadd hx hb gd_Law_law_668 ?_
                    obtain ⟨g143, h⟩ := gf_if_ok h
                    refine va_sld hx hb hX hbl (gw_lb hbl) hW.2.2.1 g143 gd_Law_law_669 ?_
                    obtain ⟨a146, u144, d145, h⟩ := gf_cl_ok h
                    refine gw_callVi (K := R_Model) (As := [.int (xs ((x4 + (1 : Int32))).toNatClampNeg), .int (xs ((x4 + (2 : Int32))).toNatClampNeg)]) (rest := []) C hW (fun _ h => Or.inr h) hl.1 gm_Model_inner (gc_Model_inner l F o_t2 d145 _) gk_991 gk_992 gk_993 o_t2 (by decide) rfl rfl rfl ⟨(gw_lf (Nat.le_of_ble_eq_true rfl)), (gw_ll (Nat.le_of_ble_eq_true rfl))⟩ (gw_ne hn) rfl rfl (Nat.le_of_ble_eq_true rfl) gd_Law_law_670 (fun H locs hW => ?_)
                    refine lv_istore (lv' := [(6, .int a146), (5, .int a141), (0, .ref b), (1, .ref (hs t1)), (2, .ref (hs t2)), (3, .ref (hs t3)), (4, .int x4)]) hx hb gd_Law_law_673 hl (by decide) rfl (fun ls hl => ?_)
                    refine lv_aload_n hx hb gd_Law_law_675 rfl (lv_at hl 4 rfl) ?_
                    obtain ⟨a149, u147, d148, h⟩ := gf_cl_ok h
                    refine gw_callVi (K := R_Model) (As := []) (rest := []) C hW (fun _ h => Or.inr h) hl.1 gm_Model_thrown (gc_Model_thrown l F o_t2 d148 _) gk_956 gk_957 gk_958 o_t2 (by decide) rfl rfl rfl ⟨(gw_lf (Nat.le_of_ble_eq_true rfl)), (gw_ll (Nat.le_of_ble_eq_true rfl))⟩ (gw_ne hn) rfl rfl (Nat.le_of_ble_eq_true rfl) gd_Law_law_676 (fun H locs hW => ?_)
                    refine lv_iload hx hb gd_Law_law_679 (lv_at hl 1 rfl) ?_
                    refine lv_icmp_eq (tgt := 686) hx hb gd_Law_law_681 (by decide) (fun c150 => ?_) (fun c150 => ?_)
                    · have h := gf_t c150 h
                      refine lv_iload hx hb gd_Law_law_686 (lv_at hl 1 rfl) ?_
                      refine lv_if_ne (tgt := 703) hx hb gd_Law_law_688 (by decide) (fun c151 => ?_) (fun c151 => ?_)
                      · have h := gf_f c151 h
                        exact gx_Law_law_b703 F C hr hk hfl hZ hN hX hbl hn hr1 k_23 u147 t1 t2 t3 x4 o_t1 o_t2 o_t3 hW (lv_sub hl [2, 3, 4, 5, 6] rfl) h
                      · have h := gf_t c151 h
                        refine lv_aload_n hx hb gd_Law_law_691 rfl (lv_at hl 5 rfl) ?_
                        refine lv_iconst (v := 0) hx hb gd_Law_law_692 (by decide) ?_
                        obtain ⟨g152, h⟩ := gf_if_ok h
                        refine gw_lald C hW o_t3 g152 gd_Law_law_693 ?_
                        refine lv_iload hx hb gd_Law_law_694 (lv_at hl 0 rfl) ?_
                        refine lv_i2l hx hb gd_Law_law_696 rfl ?_
                        refine W.lcmp hx hb gd_Law_law_697 ?_
                        refine lv_if_eq (tgt := 703) hx hb gd_Law_law_698 (by decide) (fun c153 => ?_) (fun c153 => ?_)
                        · have h := gf_t c153 h
                          exact gx_Law_law_b703 F C hr hk hfl hZ hN hX hbl hn hr1 k_23 u147 t1 t2 t3 x4 o_t1 o_t2 o_t3 hW (lv_sub hl [2, 3, 4, 5, 6] rfl) h
                        · have h := gf_f c153 h
                          refine lv_iconst (v := 0) hx hb gd_Law_law_701 (by decide) ?_
                          obtain rfl := Option.some.inj h
                          exact absurd hr1 (by decide)
                    · have h := gf_f c150 h
                      refine lv_iconst (v := 0) hx hb gd_Law_law_684 (by decide) ?_
                      obtain rfl := Option.some.inj h
                      exact absurd hr1 (by decide)
                  · have h := gf_f c136 h
                    by_cases c154 : ((xs (x4).toNatClampNeg) &&& (31 : Int32)) = 8
                    · have h := gf_t c154 h
                      refine lv_tableIn (x := ((xs (x4).toNatClampNeg) &&& (31 : Int32))) (off := 666) (tgt := 706) hx hb gd_Law_law_40 (by rw [c154]; decide) (by rw [c154]; decide) (by rw [c154]; rfl) (by decide) ?_
                      refine lv_aload_n hx hb gd_Law_law_706 rfl (lv_at hl 1 rfl) ?_
                      refine lv_aload_n hx hb gd_Law_law_707 rfl (lv_at hl 0 rfl) ?_
                      refine lv_iload hx hb gd_Law_law_708 (lv_at hl 4 rfl) ?_
                      refine lv_iconst (v := 1) hx hb gd_Law_law_710 (by decide) ?_
                      refine lv_iadd hx hb gd_Law_law_711 ?_
                      obtain ⟨g155, h⟩ := gf_if_ok h
                      refine va_sld hx hb hX hbl (gw_lb hbl) hW.2.2.1 g155 gd_Law_law_712 ?_
                      refine lv_aload_n hx hb gd_Law_law_713 rfl (lv_at hl 0 rfl) ?_
                      refine lv_iload hx hb gd_Law_law_714 (lv_at hl 4 rfl) ?_
                      refine lv_iconst (v := 2) hx hb gd_Law_law_716 (by decide) ?_
                      refine lv_iadd hx hb gd_Law_law_717 ?_
                      obtain ⟨g156, h⟩ := gf_if_ok h
                      refine va_sld hx hb hX hbl (gw_lb hbl) hW.2.2.1 g156 gd_Law_law_718 ?_
                      refine lv_aload_n hx hb gd_Law_law_719 rfl (lv_at hl 3 rfl) ?_
                      obtain ⟨a159, u157, d158, h⟩ := gf_cl_ok h
                      refine gw_callW (As := [.ref (hs t1), .int (xs ((x4 + (1 : Int32))).toNatClampNeg), .int (xs ((x4 + (2 : Int32))).toNatClampNeg), .ref (hs t3)]) (rest := []) C hW (fun _ h => Or.inr h) hZ hN hl.1 gm_Law_arbor (gc_Law_arbor l hfl F o_t1 o_t3 d158 _) gk_994 gk_995 rfl rfl ⟨(gw_lf (Nat.le_of_ble_eq_true rfl)), (gw_ll (Nat.le_of_ble_eq_true rfl))⟩ (gw_nc hn) rfl rfl (Nat.le_of_ble_eq_true rfl) gd_Law_law_720 (fun H locs hW => ?_)
                      refine W.widen (k := 1000 + (n + 1)) (n := 400000 + 6 * (n + 1)) gw_n1 gw_n2 ?_
                      refine lv_istore (lv' := [(5, .int a159), (0, .ref b), (1, .ref (hs t1)), (2, .ref (hs t2)), (3, .ref (hs t3)), (4, .int x4)]) hx hb gd_Law_law_723 hl (by decide) rfl (fun ls hl => ?_)
                      refine lv_aload_n hx hb gd_Law_law_725 rfl (lv_at hl 3 rfl) ?_
                      refine lv_aload_n hx hb gd_Law_law_726 rfl (lv_at hl 1 rfl) ?_
                      refine lv_iload hx hb gd_Law_law_727 (lv_at hl 5 rfl) ?_
                      refine lv_iconst (v := 1) hx hb gd_Law_law_729 (by decide) ?_
                      refine lv_iadd hx hb gd_Law_law_730 ?_
                      obtain ⟨g160, h⟩ := gf_if_ok h
                      refine va_sld hx hb hX hbl (gw_lb hbl) hW.2.2.1 g160 gd_Law_law_731 ?_
                      refine lv_aload_n hx hb gd_Law_law_732 rfl (lv_at hl 1 rfl) ?_
                      refine lv_iload hx hb gd_Law_law_733 (lv_at hl 5 rfl) ?_
                      refine lv_iconst (v := 2) hx hb gd_Law_law_735 (by decide) ?_
                      refine lv_iadd hx hb gd_Law_law_736 ?_
                      obtain ⟨g161, h⟩ := gf_if_ok h
                      refine va_sld hx hb hX hbl (gw_lb hbl) hW.2.2.1 g161 gd_Law_law_737 ?_
                      obtain ⟨a164, u162, d163, h⟩ := gf_cl_ok h
                      refine gw_callVi (K := R_Model) (As := [.int (xs ((x4 + (1 : Int32))).toNatClampNeg), .int (xs ((x4 + (2 : Int32))).toNatClampNeg)]) (rest := []) C hW (fun _ h => Or.inr h) hl.1 gm_Model_arbor (gc_Model_arbor l F o_t2 d163 _) gk_996 gk_997 gk_998 o_t2 (by decide) rfl rfl rfl ⟨(gw_lf (Nat.le_of_ble_eq_true rfl)), (gw_ll (Nat.le_of_ble_eq_true rfl))⟩ (gw_ne hn) rfl rfl (Nat.le_of_ble_eq_true rfl) gd_Law_law_738 (fun H locs hW => ?_)
                      refine lv_istore (lv' := [(6, .int a164), (5, .int a159), (0, .ref b), (1, .ref (hs t1)), (2, .ref (hs t2)), (3, .ref (hs t3)), (4, .int x4)]) hx hb gd_Law_law_741 hl (by decide) rfl (fun ls hl => ?_)
                      refine lv_aload_n hx hb gd_Law_law_743 rfl (lv_at hl 4 rfl) ?_
                      obtain ⟨a167, u165, d166, h⟩ := gf_cl_ok h
                      refine gw_callVi (K := R_Model) (As := []) (rest := []) C hW (fun _ h => Or.inr h) hl.1 gm_Model_thrown (gc_Model_thrown l F o_t2 d166 _) gk_956 gk_957 gk_958 o_t2 (by decide) rfl rfl rfl ⟨(gw_lf (Nat.le_of_ble_eq_true rfl)), (gw_ll (Nat.le_of_ble_eq_true rfl))⟩ (gw_ne hn) rfl rfl (Nat.le_of_ble_eq_true rfl) gd_Law_law_744 (fun H locs hW => ?_)
                      refine lv_iload hx hb gd_Law_law_747 (lv_at hl 1 rfl) ?_
                      refine lv_icmp_eq (tgt := 754) hx hb gd_Law_law_749 (by decide) (fun c168 => ?_) (fun c168 => ?_)
                      · have h := gf_t c168 h
                        refine lv_iload hx hb gd_Law_law_754 (lv_at hl 1 rfl) ?_
                        refine lv_if_ne (tgt := 771) hx hb gd_Law_law_756 (by decide) (fun c169 => ?_) (fun c169 => ?_)
                        · have h := gf_f c169 h
                          exact gx_Law_law_b771 F C hr hk hfl hZ hN hX hbl hn hr1 k_23 u165 t1 t2 t3 x4 o_t1 o_t2 o_t3 hW (lv_sub hl [2, 3, 4, 5, 6] rfl) h
                        · have h := gf_t c169 h
                          refine lv_aload_n hx hb gd_Law_law_759 rfl (lv_at hl 5 rfl) ?_
                          refine lv_iconst (v := 0) hx hb gd_Law_law_760 (by decide) ?_
                          obtain ⟨g170, h⟩ := gf_if_ok h
                          refine gw_lald C hW o_t3 g170 gd_Law_law_761 ?_
                          refine lv_iload hx hb gd_Law_law_762 (lv_at hl 0 rfl) ?_
                          refine lv_i2l hx hb gd_Law_law_764 rfl ?_
                          refine W.lcmp hx hb gd_Law_law_765 ?_
                          refine lv_if_eq (tgt := 771) hx hb gd_Law_law_766 (by decide) (fun c171 => ?_) (fun c171 => ?_)
                          · have h := gf_t c171 h
                            exact gx_Law_law_b771 F C hr hk hfl hZ hN hX hbl hn hr1 k_23 u165 t1 t2 t3 x4 o_t1 o_t2 o_t3 hW (lv_sub hl [2, 3, 4, 5, 6] rfl) h
                          · have h := gf_f c171 h
                            refine lv_iconst (v := 0) hx hb gd_Law_law_769 (by decide) ?_
                            obtain rfl := Option.some.inj h
                            exact absurd hr1 (by decide)
                      · have h := gf_f c168 h
                        refine lv_iconst (v := 0) hx hb gd_Law_law_752 (by decide) ?_
                        obtain rfl := Option.some.inj h
                        exact absurd hr1 (by decide)
                    · have h := gf_f c154 h
                      by_cases c172 : ((xs (x4).toNatClampNeg) &&& (31 : Int32)) = 9
                      · have h := gf_t c172 h
                        refine lv_tableIn (x := ((xs (x4).toNatClampNeg) &&& (31 : Int32))) (off := 734) (tgt := 774) hx hb gd_Law_law_40 (by rw [c172]; decide) (by rw [c172]; decide) (by rw [c172]; rfl) (by decide) ?_
                        refine lv_aload_n hx hb gd_Law_law_774 rfl (lv_at hl 1 rfl) ?_
                        refine lv_aload_n hx hb gd_Law_law_775 rfl (lv_at hl 0 rfl) ?_
                        refine lv_iload hx hb gd_Law_law_776 (lv_at hl 4 rfl) ?_
                        refine lv_iconst (v := 1) hx hb gd_Law_law_778 (by decide) ?_
                        refine lv_iadd hx hb gd_Law_law_779 ?_
                        obtain ⟨g173, h⟩ := gf_if_ok h
                        refine va_sld hx hb hX hbl (gw_lb hbl) hW.2.2.1 g173 gd_Law_law_780 ?_
                        refine lv_aload_n hx hb gd_Law_law_781 rfl (lv_at hl 0 rfl) ?_
                        refine lv_iload hx hb gd_Law_law_782 (lv_at hl 4 rfl) ?_
                        refine lv_iconst (v := 2) hx hb gd_Law_law_784 (by decide) ?_
                        refine lv_iadd hx hb gd_Law_law_785 ?_
                        obtain ⟨g174, h⟩ := gf_if_ok h
                        refine va_sld hx hb hX hbl (gw_lb hbl) hW.2.2.1 g174 gd_Law_law_786 ?_
                        refine lv_aload_n hx hb gd_Law_law_787 rfl (lv_at hl 0 rfl) ?_
                        refine lv_iload hx hb gd_Law_law_788 (lv_at hl 4 rfl) ?_
                        refine lv_iconst (v := 3) hx hb gd_Law_law_790 (by decide) ?_
                        refine lv_iadd hx hb gd_Law_law_791 ?_
                        obtain ⟨g175, h⟩ := gf_if_ok h
                        refine va_sld hx hb hX hbl (gw_lb hbl) hW.2.2.1 g175 gd_Law_law_792 ?_
                        refine lv_aload_n hx hb gd_Law_law_793 rfl (lv_at hl 3 rfl) ?_
                        obtain ⟨a178, u176, d177, h⟩ := gf_cl_ok h
                        refine gw_callW (As := [.ref (hs t1), .int (xs ((x4 + (1 : Int32))).toNatClampNeg), .int (xs ((x4 + (2 : Int32))).toNatClampNeg), .int (xs ((x4 + (3 : Int32))).toNatClampNeg), .ref (hs t3)]) (rest := []) C hW (fun _ h => Or.inr h) hZ hN hl.1 gm_Law_planet (gc_Law_planet l hfl F o_t1 o_t3 d177 _) gk_999 gk_1000 rfl rfl ⟨(gw_lf (Nat.le_of_ble_eq_true rfl)), (gw_ll (Nat.le_of_ble_eq_true rfl))⟩ (gw_nc hn) rfl rfl (Nat.le_of_ble_eq_true rfl) gd_Law_law_794 (fun H locs hW => ?_)
                        refine W.widen (k := 1000 + (n + 1)) (n := 400000 + 6 * (n + 1)) gw_n1 gw_n2 ?_
                        refine lv_istore (lv' := [(5, .int a178), (0, .ref b), (1, .ref (hs t1)), (2, .ref (hs t2)), (3, .ref (hs t3)), (4, .int x4)]) hx hb gd_Law_law_797 hl (by decide) rfl (fun ls hl => ?_)
                        refine lv_aload_n hx hb gd_Law_law_799 rfl (lv_at hl 3 rfl) ?_
                        refine lv_aload_n hx hb gd_Law_law_800 rfl (lv_at hl 1 rfl) ?_
                        refine lv_iload hx hb gd_Law_law_801 (lv_at hl 5 rfl) ?_
                        refine lv_iconst (v := 1) hx hb gd_Law_law_803 (by decide) ?_
                        refine lv_iadd hx hb gd_Law_law_804 ?_
                        obtain ⟨g179, h⟩ := gf_if_ok h
                        refine va_sld hx hb hX hbl (gw_lb hbl) hW.2.2.1 g179 gd_Law_law_805 ?_
                        refine lv_aload_n hx hb gd_Law_law_806 rfl (lv_at hl 1 rfl) ?_
                        refine lv_iload hx hb gd_Law_law_807 (lv_at hl 5 rfl) ?_
                        refine lv_iconst (v := 2) hx hb gd_Law_law_809 (by decide) ?_
                        refine lv_iadd hx hb gd_Law_law_810 ?_
                        obtain ⟨g180, h⟩ := gf_if_ok h
                        refine va_sld hx hb hX hbl (gw_lb hbl) hW.2.2.1 g180 gd_Law_law_811 ?_
                        refine lv_aload_n hx hb gd_Law_law_812 rfl (lv_at hl 1 rfl) ?_
                        refine lv_iload hx hb gd_Law_law_813 (lv_at hl 5 rfl) ?_
                        refine lv_iconst (v := 3) hx hb gd_Law_law_815 (by decide) ?_
                        refine lv_iadd hx hb gd_Law_law_816 ?_
                        obtain ⟨g181, h⟩ := gf_if_ok h
                        refine va_sld hx hb hX hbl (gw_lb hbl) hW.2.2.1 g181 gd_Law_law_817 ?_
                        obtain ⟨a184, u182, d183, h⟩ := gf_cl_ok h
                        refine gw_callVi (K := R_Model) (As := [.int (xs ((x4 + (1 : Int32))).toNatClampNeg), .int (xs ((x4 + (2 : Int32))).toNatClampNeg), .int (xs ((x4 + (3 : Int32))).toNatClampNeg)]) (rest := []) C hW (fun _ h => Or.inr h) hl.1 gm_Model_planet (gc_Model_planet l F o_t2 d183 _) gk_1001 gk_1002 gk_1003 o_t2 (by decide) rfl rfl rfl ⟨(gw_lf (Nat.le_of_ble_eq_true rfl)), (gw_ll (Nat.le_of_ble_eq_true rfl))⟩ (gw_ne hn) rfl rfl (Nat.le_of_ble_eq_true rfl) gd_Law_law_818 (fun H locs hW => ?_)
                        refine lv_istore (lv' := [(6, .int a184), (5, .int a178), (0, .ref b), (1, .ref (hs t1)), (2, .ref (hs t2)), (3, .ref (hs t3)), (4, .int x4)]) hx hb gd_Law_law_821 hl (by decide) rfl (fun ls hl => ?_)
                        refine lv_aload_n hx hb gd_Law_law_823 rfl (lv_at hl 4 rfl) ?_
                        obtain ⟨a187, u185, d186, h⟩ := gf_cl_ok h
                        refine gw_callVi (K := R_Model) (As := []) (rest := []) C hW (fun _ h => Or.inr h) hl.1 gm_Model_thrown (gc_Model_thrown l F o_t2 d186 _) gk_956 gk_957 gk_958 o_t2 (by decide) rfl rfl rfl ⟨(gw_lf (Nat.le_of_ble_eq_true rfl)), (gw_ll (Nat.le_of_ble_eq_true rfl))⟩ (gw_ne hn) rfl rfl (Nat.le_of_ble_eq_true rfl) gd_Law_law_824 (fun H locs hW => ?_)
                        refine lv_iload hx hb gd_Law_law_827 (lv_at hl 1 rfl) ?_
                        refine lv_icmp_eq (tgt := 834) hx hb gd_Law_law_829 (by decide) (fun c188 => ?_) (fun c188 => ?_)
                        · have h := gf_t c188 h
                          refine lv_iload hx hb gd_Law_law_834 (lv_at hl 1 rfl) ?_
                          refine lv_if_ne (tgt := 851) hx hb gd_Law_law_836 (by decide) (fun c189 => ?_) (fun c189 => ?_)
                          · have h := gf_f c189 h
                            exact gx_Law_law_b851 F C hr hk hfl hZ hN hX hbl hn hr1 k_23 u185 t1 t2 t3 x4 o_t1 o_t2 o_t3 hW (lv_sub hl [2, 3, 4, 5, 6] rfl) h
                          · have h := gf_t c189 h
                            refine lv_aload_n hx hb gd_Law_law_839 rfl (lv_at hl 5 rfl) ?_
                            refine lv_iconst (v := 0) hx hb gd_Law_law_840 (by decide) ?_
                            obtain ⟨g190, h⟩ := gf_if_ok h
                            refine gw_lald C hW o_t3 g190 gd_Law_law_841 ?_
                            refine lv_iload hx hb gd_Law_law_842 (lv_at hl 0 rfl) ?_
                            refine lv_i2l hx hb gd_Law_law_844 rfl ?_
                            refine W.lcmp hx hb gd_Law_law_845 ?_
                            refine lv_if_eq (tgt := 851) hx hb gd_Law_law_846 (by decide) (fun c191 => ?_) (fun c191 => ?_)
                            · have h := gf_t c191 h
                              exact gx_Law_law_b851 F C hr hk hfl hZ hN hX hbl hn hr1 k_23 u185 t1 t2 t3 x4 o_t1 o_t2 o_t3 hW (lv_sub hl [2, 3, 4, 5, 6] rfl) h
                            · have h := gf_f c191 h
                              refine lv_iconst (v := 0) hx hb gd_Law_law_849 (by decide) ?_
                              obtain rfl := Option.some.inj h
                              exact absurd hr1 (by decide)
                        · have h := gf_f c188 h
                          refine lv_iconst (v := 0) hx hb gd_Law_law_832 (by decide) ?_
                          obtain rfl := Option.some.inj h
                          exact absurd hr1 (by decide)
                      · have h := gf_f c172 h
                        by_cases c192 : ((xs (x4).toNatClampNeg) &&& (31 : Int32)) = 10
                        · have h := gf_t c192 h
                          refine lv_tableIn (x := ((xs (x4).toNatClampNeg) &&& (31 : Int32))) (off := 814) (tgt := 854) hx hb gd_Law_law_40 (by rw [c192]; decide) (by rw [c192]; decide) (by rw [c192]; rfl) (by decide) ?_
                          refine lv_aload_n hx hb gd_Law_law_854 rfl (lv_at hl 1 rfl) ?_
                          refine lv_aload_n hx hb gd_Law_law_855 rfl (lv_at hl 0 rfl) ?_
                          refine lv_iload hx hb gd_Law_law_856 (lv_at hl 4 rfl) ?_
                          refine lv_iconst (v := 1) hx hb gd_Law_law_858 (by decide) ?_
                          refine lv_iadd hx hb gd_Law_law_859 ?_
                          obtain ⟨g193, h⟩ := gf_if_ok h
                          refine va_sld hx hb hX hbl (gw_lb hbl) hW.2.2.1 g193 gd_Law_law_860 ?_
                          refine lv_aload_n hx hb gd_Law_law_861 rfl (lv_at hl 3 rfl) ?_
                          obtain ⟨a196, u194, d195, h⟩ := gf_cl_ok h
                          refine gw_callW (As := [.ref (hs t1), .int (xs ((x4 + (1 : Int32))).toNatClampNeg), .ref (hs t3)]) (rest := []) C hW (fun _ h => Or.inr h) hZ hN hl.1 gm_Law_remove (gc_Law_remove l hfl F o_t1 o_t3 d195 _) gk_1004 gk_1005 rfl rfl ⟨(gw_lf (Nat.le_of_ble_eq_true rfl)), (gw_ll (Nat.le_of_ble_eq_true rfl))⟩ (gw_nc hn) rfl rfl (Nat.le_of_ble_eq_true rfl) gd_Law_law_862 (fun H locs hW => ?_)
                          refine W.widen (k := 1000 + (n + 1)) (n := 400000 + 6 * (n + 1)) gw_n1 gw_n2 ?_
                          refine lv_istore (lv' := [(5, .int a196), (0, .ref b), (1, .ref (hs t1)), (2, .ref (hs t2)), (3, .ref (hs t3)), (4, .int x4)]) hx hb gd_Law_law_865 hl (by decide) rfl (fun ls hl => ?_)
                          refine lv_aload_n hx hb gd_Law_law_867 rfl (lv_at hl 3 rfl) ?_
                          refine lv_aload_n hx hb gd_Law_law_868 rfl (lv_at hl 1 rfl) ?_
                          refine lv_iload hx hb gd_Law_law_869 (lv_at hl 5 rfl) ?_
                          refine lv_iconst (v := 1) hx hb gd_Law_law_871 (by decide) ?_
                          refine lv_iadd hx hb gd_Law_law_872 ?_
                          obtain ⟨g197, h⟩ := gf_if_ok h
                          refine va_sld hx hb hX hbl (gw_lb hbl) hW.2.2.1 g197 gd_Law_law_873 ?_
                          obtain ⟨a200, u198, d199, h⟩ := gf_cl_ok h
                          refine gw_callVi (K := R_Model) (As := [.int (xs ((x4 + (1 : Int32))).toNatClampNeg)]) (rest := []) C hW (fun _ h => Or.inr h) hl.1 gm_Model_remove (gc_Model_remove l F o_t2 d199 _) gk_1006 gk_1007 gk_1008 o_t2 (by decide) rfl rfl rfl ⟨(gw_lf (Nat.le_of_ble_eq_true rfl)), (gw_ll (Nat.le_of_ble_eq_true rfl))⟩ (gw_ne hn) rfl rfl (Nat.le_of_ble_eq_true rfl) gd_Law_law_874 (fun H locs hW => ?_)
                          refine lv_istore (lv' := [(6, .int a200), (5, .int a196), (0, .ref b), (1, .ref (hs t1)), (2, .ref (hs t2)), (3, .ref (hs t3)), (4, .int x4)]) hx hb gd_Law_law_877 hl (by decide) rfl (fun ls hl => ?_)
                          refine lv_aload_n hx hb gd_Law_law_879 rfl (lv_at hl 4 rfl) ?_
                          obtain ⟨a203, u201, d202, h⟩ := gf_cl_ok h
                          refine gw_callVi (K := R_Model) (As := []) (rest := []) C hW (fun _ h => Or.inr h) hl.1 gm_Model_thrown (gc_Model_thrown l F o_t2 d202 _) gk_956 gk_957 gk_958 o_t2 (by decide) rfl rfl rfl ⟨(gw_lf (Nat.le_of_ble_eq_true rfl)), (gw_ll (Nat.le_of_ble_eq_true rfl))⟩ (gw_ne hn) rfl rfl (Nat.le_of_ble_eq_true rfl) gd_Law_law_880 (fun H locs hW => ?_)
                          refine lv_iload hx hb gd_Law_law_883 (lv_at hl 1 rfl) ?_
                          refine lv_icmp_eq (tgt := 890) hx hb gd_Law_law_885 (by decide) (fun c204 => ?_) (fun c204 => ?_)
                          · have h := gf_t c204 h
                            refine lv_iload hx hb gd_Law_law_890 (lv_at hl 1 rfl) ?_
                            refine lv_if_ne (tgt := 907) hx hb gd_Law_law_892 (by decide) (fun c205 => ?_) (fun c205 => ?_)
                            · have h := gf_f c205 h
                              exact gx_Law_law_b907 F C hr hk hfl hZ hN hX hbl hn hr1 k_23 u201 t1 t2 t3 x4 o_t1 o_t2 o_t3 hW (lv_sub hl [2, 3, 4, 5, 6] rfl) h
                            · have h := gf_t c205 h
                              refine lv_aload_n hx hb gd_Law_law_895 rfl (lv_at hl 5 rfl) ?_
                              refine lv_iconst (v := 0) hx hb gd_Law_law_896 (by decide) ?_
                              obtain ⟨g206, h⟩ := gf_if_ok h
                              refine gw_lald C hW o_t3 g206 gd_Law_law_897 ?_
                              refine lv_iload hx hb gd_Law_law_898 (lv_at hl 0 rfl) ?_
                              refine lv_i2l hx hb gd_Law_law_900 rfl ?_
                              refine W.lcmp hx hb gd_Law_law_901 ?_
                              refine lv_if_eq (tgt := 907) hx hb gd_Law_law_902 (by decide) (fun c207 => ?_) (fun c207 => ?_)
                              · have h := gf_t c207 h
                                exact gx_Law_law_b907 F C hr hk hfl hZ hN hX hbl hn hr1 k_23 u201 t1 t2 t3 x4 o_t1 o_t2 o_t3 hW (lv_sub hl [2, 3, 4, 5, 6] rfl) h
                              · have h := gf_f c207 h
                                refine lv_iconst (v := 0) hx hb gd_Law_law_905 (by decide) ?_
                                obtain rfl := Option.some.inj h
                                exact absurd hr1 (by decide)
                          · have h := gf_f c204 h
                            refine lv_iconst (v := 0) hx hb gd_Law_law_888 (by decide) ?_
                            obtain rfl := Option.some.inj h
                            exact absurd hr1 (by decide)
                        · have h := gf_f c192 h
                          by_cases c208 : ((xs (x4).toNatClampNeg) &&& (31 : Int32)) = 11
                          · have h := gf_t c208 h
                            refine lv_tableIn (x := ((xs (x4).toNatClampNeg) &&& (31 : Int32))) (off := 870) (tgt := 910) hx hb gd_Law_law_40 (by rw [c208]; decide) (by rw [c208]; decide) (by rw [c208]; rfl) (by decide) ?_
                            refine lv_aload_n hx hb gd_Law_law_910 rfl (lv_at hl 1 rfl) ?_
                            refine lv_aload_n hx hb gd_Law_law_911 rfl (lv_at hl 0 rfl) ?_
                            refine lv_iload hx hb gd_Law_law_912 (lv_at hl 4 rfl) ?_
                            refine lv_iconst (v := 1) hx hb gd_Law_law_914 (by decide) ?_
                            refine lv_iadd hx hb gd_Law_law_915 ?_
                            obtain ⟨g209, h⟩ := gf_if_ok h
                            refine va_sld hx hb hX hbl (gw_lb hbl) hW.2.2.1 g209 gd_Law_law_916 ?_
                            refine lv_aload_n hx hb gd_Law_law_917 rfl (lv_at hl 0 rfl) ?_
                            refine lv_iload hx hb gd_Law_law_918 (lv_at hl 4 rfl) ?_
                            refine lv_iconst (v := 2) hx hb gd_Law_law_920 (by decide) ?_
                            refine lv_iadd hx hb gd_Law_law_921 ?_
                            obtain ⟨g210, h⟩ := gf_if_ok h
                            refine va_sld hx hb hX hbl (gw_lb hbl) hW.2.2.1 g210 gd_Law_law_922 ?_
                            refine lv_aload_n hx hb gd_Law_law_923 rfl (lv_at hl 3 rfl) ?_
                            obtain ⟨a213, u211, d212, h⟩ := gf_cl_ok h
                            refine gw_callW (As := [.ref (hs t1), .int (xs ((x4 + (1 : Int32))).toNatClampNeg), .int (xs ((x4 + (2 : Int32))).toNatClampNeg), .ref (hs t3)]) (rest := []) C hW (fun _ h => Or.inr h) hZ hN hl.1 gm_Law_relation (gc_Law_relation l hfl F o_t1 o_t3 d212 _) gk_1009 gk_1010 rfl rfl ⟨(gw_lf (Nat.le_of_ble_eq_true rfl)), (gw_ll (Nat.le_of_ble_eq_true rfl))⟩ (gw_nc hn) rfl rfl (Nat.le_of_ble_eq_true rfl) gd_Law_law_924 (fun H locs hW => ?_)
                            refine W.widen (k := 1000 + (n + 1)) (n := 400000 + 6 * (n + 1)) gw_n1 gw_n2 ?_
                            refine lv_istore (lv' := [(5, .int a213), (0, .ref b), (1, .ref (hs t1)), (2, .ref (hs t2)), (3, .ref (hs t3)), (4, .int x4)]) hx hb gd_Law_law_927 hl (by decide) rfl (fun ls hl => ?_)
                            refine lv_aload_n hx hb gd_Law_law_929 rfl (lv_at hl 3 rfl) ?_
                            refine lv_aload_n hx hb gd_Law_law_930 rfl (lv_at hl 1 rfl) ?_
                            refine lv_iload hx hb gd_Law_law_931 (lv_at hl 5 rfl) ?_
                            refine lv_iconst (v := 1) hx hb gd_Law_law_933 (by decide) ?_
                            refine lv_iadd hx hb gd_Law_law_934 ?_
                            obtain ⟨g214, h⟩ := gf_if_ok h
                            refine va_sld hx hb hX hbl (gw_lb hbl) hW.2.2.1 g214 gd_Law_law_935 ?_
                            refine lv_aload_n hx hb gd_Law_law_936 rfl (lv_at hl 1 rfl) ?_
                            refine lv_iload hx hb gd_Law_law_937 (lv_at hl 5 rfl) ?_
                            refine lv_iconst (v := 2) hx hb gd_Law_law_939 (by decide) ?_
                            refine lv_iadd hx hb gd_Law_law_940 ?_
                            obtain ⟨g215, h⟩ := gf_if_ok h
                            refine va_sld hx hb hX hbl (gw_lb hbl) hW.2.2.1 g215 gd_Law_law_941 ?_
                            obtain ⟨a218, u216, d217, h⟩ := gf_cl_ok h
                            refine gw_callVi (K := R_Model) (As := [.int (xs ((x4 + (1 : Int32))).toNatClampNeg), .int (xs ((x4 + (2 : Int32))).toNatClampNeg)]) (rest := []) C hW (fun _ h => Or.inr h) hl.1 gm_Model_relation (gc_Model_relation l F o_t2 d217 _) gk_1011 gk_1012 gk_1013 o_t2 (by decide) rfl rfl rfl ⟨(gw_lf (Nat.le_of_ble_eq_true rfl)), (gw_ll (Nat.le_of_ble_eq_true rfl))⟩ (gw_ne hn) rfl rfl (Nat.le_of_ble_eq_true rfl) gd_Law_law_942 (fun H locs hW => ?_)
                            refine lv_istore (lv' := [(6, .int a218), (5, .int a213), (0, .ref b), (1, .ref (hs t1)), (2, .ref (hs t2)), (3, .ref (hs t3)), (4, .int x4)]) hx hb gd_Law_law_945 hl (by decide) rfl (fun ls hl => ?_)
                            refine lv_aload_n hx hb gd_Law_law_947 rfl (lv_at hl 4 rfl) ?_
                            obtain ⟨a221, u219, d220, h⟩ := gf_cl_ok h
                            refine gw_callVi (K := R_Model) (As := []) (rest := []) C hW (fun _ h => Or.inr h) hl.1 gm_Model_thrown (gc_Model_thrown l F o_t2 d220 _) gk_956 gk_957 gk_958 o_t2 (by decide) rfl rfl rfl ⟨(gw_lf (Nat.le_of_ble_eq_true rfl)), (gw_ll (Nat.le_of_ble_eq_true rfl))⟩ (gw_ne hn) rfl rfl (Nat.le_of_ble_eq_true rfl) gd_Law_law_948 (fun H locs hW => ?_)
                            refine lv_iload hx hb gd_Law_law_951 (lv_at hl 1 rfl) ?_
                            refine lv_icmp_eq (tgt := 958) hx hb gd_Law_law_953 (by decide) (fun c222 => ?_) (fun c222 => ?_)
                            · have h := gf_t c222 h
                              refine lv_iload hx hb gd_Law_law_958 (lv_at hl 1 rfl) ?_
                              refine lv_if_ne (tgt := 975) hx hb gd_Law_law_960 (by decide) (fun c223 => ?_) (fun c223 => ?_)
                              · have h := gf_f c223 h
                                exact gx_Law_law_b975 F C hr hk hfl hZ hN hX hbl hn hr1 k_23 u219 t1 t2 t3 x4 o_t1 o_t2 o_t3 hW (lv_sub hl [2, 3, 4, 5, 6] rfl) h
                              · have h := gf_t c223 h
                                refine lv_aload_n hx hb gd_Law_law_963 rfl (lv_at hl 5 rfl) ?_
                                refine lv_iconst (v := 0) hx hb gd_Law_law_964 (by decide) ?_
                                obtain ⟨g224, h⟩ := gf_if_ok h
                                refine gw_lald C hW o_t3 g224 gd_Law_law_965 ?_
                                refine lv_iload hx hb gd_Law_law_966 (lv_at hl 0 rfl) ?_
                                refine lv_i2l hx hb gd_Law_law_968 rfl ?_
                                refine W.lcmp hx hb gd_Law_law_969 ?_
                                refine lv_if_eq (tgt := 975) hx hb gd_Law_law_970 (by decide) (fun c225 => ?_) (fun c225 => ?_)
                                · have h := gf_t c225 h
                                  exact gx_Law_law_b975 F C hr hk hfl hZ hN hX hbl hn hr1 k_23 u219 t1 t2 t3 x4 o_t1 o_t2 o_t3 hW (lv_sub hl [2, 3, 4, 5, 6] rfl) h
                                · have h := gf_f c225 h
                                  refine lv_iconst (v := 0) hx hb gd_Law_law_973 (by decide) ?_
                                  obtain rfl := Option.some.inj h
                                  exact absurd hr1 (by decide)
                            · have h := gf_f c222 h
                              refine lv_iconst (v := 0) hx hb gd_Law_law_956 (by decide) ?_
                              obtain rfl := Option.some.inj h
                              exact absurd hr1 (by decide)
                          · have h := gf_f c208 h
                            by_cases c226 : ((xs (x4).toNatClampNeg) &&& (31 : Int32)) = 12
                            · have h := gf_t c226 h
                              refine lv_tableIn (x := ((xs (x4).toNatClampNeg) &&& (31 : Int32))) (off := 938) (tgt := 978) hx hb gd_Law_law_40 (by rw [c226]; decide) (by rw [c226]; decide) (by rw [c226]; rfl) (by decide) ?_
                              refine lv_aload_n hx hb gd_Law_law_978 rfl (lv_at hl 1 rfl) ?_
                              refine lv_aload_n hx hb gd_Law_law_979 rfl (lv_at hl 0 rfl) ?_
                              refine lv_iload hx hb gd_Law_law_980 (lv_at hl 4 rfl) ?_
                              refine lv_iconst (v := 1) hx hb gd_Law_law_982 (by decide) ?_
                              refine lv_iadd hx hb gd_Law_law_983 ?_
                              obtain ⟨g227, h⟩ := gf_if_ok h
                              refine va_sld hx hb hX hbl (gw_lb hbl) hW.2.2.1 g227 gd_Law_law_984 ?_
                              refine lv_aload_n hx hb gd_Law_law_985 rfl (lv_at hl 3 rfl) ?_
                              obtain ⟨a230, u228, d229, h⟩ := gf_cl_ok h
                              refine gw_callW (As := [.ref (hs t1), .int (xs ((x4 + (1 : Int32))).toNatClampNeg), .ref (hs t3)]) (rest := []) C hW (fun _ h => Or.inr h) hZ hN hl.1 gm_Law_crank (gc_Law_crank l hfl F o_t1 o_t3 d229 _) gk_1014 gk_1015 rfl rfl ⟨(gw_lf (Nat.le_of_ble_eq_true rfl)), (gw_ll (Nat.le_of_ble_eq_true rfl))⟩ (gw_nc hn) rfl rfl (Nat.le_of_ble_eq_true rfl) gd_Law_law_986 (fun H locs hW => ?_)
                              refine W.widen (k := 1000 + (n + 1)) (n := 400000 + 6 * (n + 1)) gw_n1 gw_n2 ?_
                              refine lv_istore (lv' := [(5, .int a230), (0, .ref b), (1, .ref (hs t1)), (2, .ref (hs t2)), (3, .ref (hs t3)), (4, .int x4)]) hx hb gd_Law_law_989 hl (by decide) rfl (fun ls hl => ?_)
                              refine lv_aload_n hx hb gd_Law_law_991 rfl (lv_at hl 3 rfl) ?_
                              refine lv_aload_n hx hb gd_Law_law_992 rfl (lv_at hl 1 rfl) ?_
                              refine lv_iload hx hb gd_Law_law_993 (lv_at hl 5 rfl) ?_
                              refine lv_iconst (v := 1) hx hb gd_Law_law_995 (by decide) ?_
                              refine lv_iadd hx hb gd_Law_law_996 ?_
                              obtain ⟨g231, h⟩ := gf_if_ok h
                              refine va_sld hx hb hX hbl (gw_lb hbl) hW.2.2.1 g231 gd_Law_law_997 ?_
                              obtain ⟨a234, u232, d233, h⟩ := gf_cl_ok h
                              refine gw_callVi (K := R_Model) (As := [.int (xs ((x4 + (1 : Int32))).toNatClampNeg)]) (rest := []) C hW (fun _ h => Or.inr h) hl.1 gm_Model_crank (gc_Model_crank l F o_t2 d233 _) gk_1016 gk_1017 gk_1018 o_t2 (by decide) rfl rfl rfl ⟨(gw_lf (Nat.le_of_ble_eq_true rfl)), (gw_ll (Nat.le_of_ble_eq_true rfl))⟩ (gw_ne hn) rfl rfl (Nat.le_of_ble_eq_true rfl) gd_Law_law_998 (fun H locs hW => ?_)
                              refine lv_istore (lv' := [(6, .int a234), (5, .int a230), (0, .ref b), (1, .ref (hs t1)), (2, .ref (hs t2)), (3, .ref (hs t3)), (4, .int x4)]) hx hb gd_Law_law_1001 hl (by decide) rfl (fun ls hl => ?_)
                              refine lv_aload_n hx hb gd_Law_law_1003 rfl (lv_at hl 4 rfl) ?_
                              obtain ⟨a237, u235, d236, h⟩ := gf_cl_ok h
                              refine gw_callVi (K := R_Model) (As := []) (rest := []) C hW (fun _ h => Or.inr h) hl.1 gm_Model_thrown (gc_Model_thrown l F o_t2 d236 _) gk_956 gk_957 gk_958 o_t2 (by decide) rfl rfl rfl ⟨(gw_lf (Nat.le_of_ble_eq_true rfl)), (gw_ll (Nat.le_of_ble_eq_true rfl))⟩ (gw_ne hn) rfl rfl (Nat.le_of_ble_eq_true rfl) gd_Law_law_1004 (fun H locs hW => ?_)
                              refine lv_iload hx hb gd_Law_law_1007 (lv_at hl 1 rfl) ?_
                              refine lv_icmp_eq (tgt := 1014) hx hb gd_Law_law_1009 (by decide) (fun c238 => ?_) (fun c238 => ?_)
                              · have h := gf_t c238 h
                                refine lv_iload hx hb gd_Law_law_1014 (lv_at hl 1 rfl) ?_
                                refine lv_if_ne (tgt := 1031) hx hb gd_Law_law_1016 (by decide) (fun c239 => ?_) (fun c239 => ?_)
                                · have h := gf_f c239 h
                                  exact gx_Law_law_b1031 F C hr hk hfl hZ hN hX hbl hn hr1 k_23 u235 t1 t2 t3 x4 o_t1 o_t2 o_t3 hW (lv_sub hl [2, 3, 4, 5, 6] rfl) h
                                · have h := gf_t c239 h
                                  refine lv_aload_n hx hb gd_Law_law_1019 rfl (lv_at hl 5 rfl) ?_
                                  refine lv_iconst (v := 0) hx hb gd_Law_law_1020 (by decide) ?_
                                  obtain ⟨g240, h⟩ := gf_if_ok h
                                  refine gw_lald C hW o_t3 g240 gd_Law_law_1021 ?_
                                  refine lv_iload hx hb gd_Law_law_1022 (lv_at hl 0 rfl) ?_
                                  refine lv_i2l hx hb gd_Law_law_1024 rfl ?_
                                  refine W.lcmp hx hb gd_Law_law_1025 ?_
                                  refine lv_if_eq (tgt := 1031) hx hb gd_Law_law_1026 (by decide) (fun c241 => ?_) (fun c241 => ?_)
                                  · have h := gf_t c241 h
                                    exact gx_Law_law_b1031 F C hr hk hfl hZ hN hX hbl hn hr1 k_23 u235 t1 t2 t3 x4 o_t1 o_t2 o_t3 hW (lv_sub hl [2, 3, 4, 5, 6] rfl) h
                                  · have h := gf_f c241 h
                                    refine lv_iconst (v := 0) hx hb gd_Law_law_1029 (by decide) ?_
                                    obtain rfl := Option.some.inj h
                                    exact absurd hr1 (by decide)
                              · have h := gf_f c238 h
                                refine lv_iconst (v := 0) hx hb gd_Law_law_1012 (by decide) ?_
                                obtain rfl := Option.some.inj h
                                exact absurd hr1 (by decide)
                            · have h := gf_f c226 h
                              by_cases c242 : ((xs (x4).toNatClampNeg) &&& (31 : Int32)) = 13
                              · have h := gf_t c242 h
                                refine lv_tableIn (x := ((xs (x4).toNatClampNeg) &&& (31 : Int32))) (off := 994) (tgt := 1034) hx hb gd_Law_law_40 (by rw [c242]; decide) (by rw [c242]; decide) (by rw [c242]; rfl) (by decide) ?_
                                refine lv_aload_n hx hb gd_Law_law_1034 rfl (lv_at hl 1 rfl) ?_
                                refine lv_aload_n hx hb gd_Law_law_1035 rfl (lv_at hl 3 rfl) ?_
                                obtain ⟨a245, u243, d244, h⟩ := gf_cl_ok h
                                refine gw_callW (As := [.ref (hs t1), .ref (hs t3)]) (rest := []) C hW (fun _ h => Or.inr h) hZ hN hl.1 gm_Law_solve (gc_Law_solve l hfl F o_t1 o_t3 d244 _) gk_1019 gk_1020 rfl rfl ⟨(gw_lf (Nat.le_of_ble_eq_true rfl)), (gw_ll (Nat.le_of_ble_eq_true rfl))⟩ (gw_nc hn) rfl rfl (Nat.le_of_ble_eq_true rfl) gd_Law_law_1036 (fun H locs hW => ?_)
                                refine W.widen (k := 1000 + (n + 1)) (n := 400000 + 6 * (n + 1)) gw_n1 gw_n2 ?_
                                refine lv_istore (lv' := [(5, .int a245), (0, .ref b), (1, .ref (hs t1)), (2, .ref (hs t2)), (3, .ref (hs t3)), (4, .int x4)]) hx hb gd_Law_law_1039 hl (by decide) rfl (fun ls hl => ?_)
                                refine lv_aload_n hx hb gd_Law_law_1041 rfl (lv_at hl 3 rfl) ?_
                                obtain ⟨a248, u246, d247, h⟩ := gf_cl_ok h
                                refine gw_callVi (K := R_Model) (As := []) (rest := []) C hW (fun _ h => Or.inr h) hl.1 gm_Model_solve (gc_Model_solve l F o_t2 d247 _) gk_1021 gk_1022 gk_1023 o_t2 (by decide) rfl rfl rfl ⟨(gw_lf (Nat.le_of_ble_eq_true rfl)), (gw_ll (Nat.le_of_ble_eq_true rfl))⟩ (gw_ne hn) rfl rfl (Nat.le_of_ble_eq_true rfl) gd_Law_law_1042 (fun H locs hW => ?_)
                                refine lv_istore (lv' := [(6, .int a248), (5, .int a245), (0, .ref b), (1, .ref (hs t1)), (2, .ref (hs t2)), (3, .ref (hs t3)), (4, .int x4)]) hx hb gd_Law_law_1045 hl (by decide) rfl (fun ls hl => ?_)
                                refine lv_aload_n hx hb gd_Law_law_1047 rfl (lv_at hl 4 rfl) ?_
                                obtain ⟨a251, u249, d250, h⟩ := gf_cl_ok h
                                refine gw_callVi (K := R_Model) (As := []) (rest := []) C hW (fun _ h => Or.inr h) hl.1 gm_Model_thrown (gc_Model_thrown l F o_t2 d250 _) gk_956 gk_957 gk_958 o_t2 (by decide) rfl rfl rfl ⟨(gw_lf (Nat.le_of_ble_eq_true rfl)), (gw_ll (Nat.le_of_ble_eq_true rfl))⟩ (gw_ne hn) rfl rfl (Nat.le_of_ble_eq_true rfl) gd_Law_law_1048 (fun H locs hW => ?_)
                                refine lv_iload hx hb gd_Law_law_1051 (lv_at hl 1 rfl) ?_
                                refine lv_icmp_eq (tgt := 1058) hx hb gd_Law_law_1053 (by decide) (fun c252 => ?_) (fun c252 => ?_)
                                · have h := gf_t c252 h
                                  refine lv_iload hx hb gd_Law_law_1058 (lv_at hl 1 rfl) ?_
                                  refine lv_if_ne (tgt := 1075) hx hb gd_Law_law_1060 (by decide) (fun c253 => ?_) (fun c253 => ?_)
                                  · have h := gf_f c253 h
                                    exact gx_Law_law_b1075 F C hr hk hfl hZ hN hX hbl hn hr1 k_23 u249 t1 t2 t3 x4 o_t1 o_t2 o_t3 hW (lv_sub hl [2, 3, 4, 5, 6] rfl) h
                                  · have h := gf_t c253 h
                                    refine lv_aload_n hx hb gd_Law_law_1063 rfl (lv_at hl 5 rfl) ?_
                                    refine lv_iconst (v := 0) hx hb gd_Law_law_1064 (by decide) ?_
                                    obtain ⟨g254, h⟩ := gf_if_ok h
                                    refine gw_lald C hW o_t3 g254 gd_Law_law_1065 ?_
                                    refine lv_iload hx hb gd_Law_law_1066 (lv_at hl 0 rfl) ?_
                                    refine lv_i2l hx hb gd_Law_law_1068 rfl ?_
                                    refine W.lcmp hx hb gd_Law_law_1069 ?_
                                    refine lv_if_eq (tgt := 1075) hx hb gd_Law_law_1070 (by decide) (fun c255 => ?_) (fun c255 => ?_)
                                    · have h := gf_t c255 h
                                      exact gx_Law_law_b1075 F C hr hk hfl hZ hN hX hbl hn hr1 k_23 u249 t1 t2 t3 x4 o_t1 o_t2 o_t3 hW (lv_sub hl [2, 3, 4, 5, 6] rfl) h
                                    · have h := gf_f c255 h
                                      refine lv_iconst (v := 0) hx hb gd_Law_law_1073 (by decide) ?_
                                      obtain rfl := Option.some.inj h
                                      exact absurd hr1 (by decide)
                                · have h := gf_f c252 h
                                  refine lv_iconst (v := 0) hx hb gd_Law_law_1056 (by decide) ?_
                                  obtain rfl := Option.some.inj h
                                  exact absurd hr1 (by decide)
                              · have h := gf_f c242 h
                                by_cases c256 : ((xs (x4).toNatClampNeg) &&& (31 : Int32)) = 14
                                · have h := gf_t c256 h
                                  refine lv_tableIn (x := ((xs (x4).toNatClampNeg) &&& (31 : Int32))) (off := 1038) (tgt := 1078) hx hb gd_Law_law_40 (by rw [c256]; decide) (by rw [c256]; decide) (by rw [c256]; rfl) (by decide) ?_
                                  refine lv_aload_n hx hb gd_Law_law_1078 rfl (lv_at hl 1 rfl) ?_
                                  refine lv_aload_n hx hb gd_Law_law_1079 rfl (lv_at hl 0 rfl) ?_
                                  refine lv_iload hx hb gd_Law_law_1080 (lv_at hl 4 rfl) ?_
                                  refine lv_iconst (v := 1) hx hb gd_Law_law_1082 (by decide) ?_
                                  refine lv_iadd hx hb gd_Law_law_1083 ?_
                                  obtain ⟨g257, h⟩ := gf_if_ok h
                                  refine va_sld hx hb hX hbl (gw_lb hbl) hW.2.2.1 g257 gd_Law_law_1084 ?_
                                  refine lv_aload_n hx hb gd_Law_law_1085 rfl (lv_at hl 0 rfl) ?_
                                  refine lv_iload hx hb gd_Law_law_1086 (lv_at hl 4 rfl) ?_
                                  refine lv_iconst (v := 2) hx hb gd_Law_law_1088 (by decide) ?_
                                  refine lv_iadd hx hb gd_Law_law_1089 ?_
                                  obtain ⟨g258, h⟩ := gf_if_ok h
                                  refine va_sld hx hb hX hbl (gw_lb hbl) hW.2.2.1 g258 gd_Law_law_1090 ?_
                                  refine lv_aload_n hx hb gd_Law_law_1091 rfl (lv_at hl 0 rfl) ?_
                                  refine lv_iload hx hb gd_Law_law_1092 (lv_at hl 4 rfl) ?_
                                  refine lv_iconst (v := 3) hx hb gd_Law_law_1094 (by decide) ?_
                                  refine lv_iadd hx hb gd_Law_law_1095 ?_
                                  obtain ⟨g259, h⟩ := gf_if_ok h
                                  refine va_sld hx hb hX hbl (gw_lb hbl) hW.2.2.1 g259 gd_Law_law_1096 ?_
                                  refine lv_aload_n hx hb gd_Law_law_1097 rfl (lv_at hl 3 rfl) ?_
                                  obtain ⟨a262, u260, d261, h⟩ := gf_cl_ok h
                                  refine gw_callW (As := [.ref (hs t1), .int (xs ((x4 + (1 : Int32))).toNatClampNeg), .int (xs ((x4 + (2 : Int32))).toNatClampNeg), .int (xs ((x4 + (3 : Int32))).toNatClampNeg), .ref (hs t3)]) (rest := []) C hW (fun _ h => Or.inr h) hZ hN hl.1 gm_Law_speed (gc_Law_speed l hfl F o_t1 o_t3 d261 _) gk_1024 gk_1025 rfl rfl ⟨(gw_lf (Nat.le_of_ble_eq_true rfl)), (gw_ll (Nat.le_of_ble_eq_true rfl))⟩ (gw_nc hn) rfl rfl (Nat.le_of_ble_eq_true rfl) gd_Law_law_1098 (fun H locs hW => ?_)
                                  refine W.widen (k := 1000 + (n + 1)) (n := 400000 + 6 * (n + 1)) gw_n1 gw_n2 ?_
                                  refine lv_istore (lv' := [(5, .int a262), (0, .ref b), (1, .ref (hs t1)), (2, .ref (hs t2)), (3, .ref (hs t3)), (4, .int x4)]) hx hb gd_Law_law_1101 hl (by decide) rfl (fun ls hl => ?_)
                                  refine lv_aload_n hx hb gd_Law_law_1103 rfl (lv_at hl 3 rfl) ?_
                                  refine lv_aload_n hx hb gd_Law_law_1104 rfl (lv_at hl 1 rfl) ?_
                                  refine lv_iload hx hb gd_Law_law_1105 (lv_at hl 5 rfl) ?_
                                  refine lv_iconst (v := 1) hx hb gd_Law_law_1107 (by decide) ?_
                                  refine lv_iadd hx hb gd_Law_law_1108 ?_
                                  obtain ⟨g263, h⟩ := gf_if_ok h
                                  refine va_sld hx hb hX hbl (gw_lb hbl) hW.2.2.1 g263 gd_Law_law_1109 ?_
                                  refine lv_aload_n hx hb gd_Law_law_1110 rfl (lv_at hl 1 rfl) ?_
                                  refine lv_iload hx hb gd_Law_law_1111 (lv_at hl 5 rfl) ?_
                                  refine lv_iconst (v := 2) hx hb gd_Law_law_1113 (by decide) ?_
                                  refine lv_iadd hx hb gd_Law_law_1114 ?_
                                  obtain ⟨g264, h⟩ := gf_if_ok h
                                  refine va_sld hx hb hX hbl (gw_lb hbl) hW.2.2.1 g264 gd_Law_law_1115 ?_
                                  refine lv_aload_n hx hb gd_Law_law_1116 rfl (lv_at hl 1 rfl) ?_
                                  refine lv_iload hx hb gd_Law_law_1117 (lv_at hl 5 rfl) ?_
                                  refine lv_iconst (v := 3) hx hb gd_Law_law_1119 (by decide) ?_
                                  refine lv_iadd hx hb gd_Law_law_1120 ?_
                                  obtain ⟨g265, h⟩ := gf_if_ok h
                                  refine va_sld hx hb hX hbl (gw_lb hbl) hW.2.2.1 g265 gd_Law_law_1121 ?_
                                  obtain ⟨a268, u266, d267, h⟩ := gf_cl_ok h
                                  refine gw_callVi (K := R_Model) (As := [.int (xs ((x4 + (1 : Int32))).toNatClampNeg), .int (xs ((x4 + (2 : Int32))).toNatClampNeg), .int (xs ((x4 + (3 : Int32))).toNatClampNeg)]) (rest := []) C hW (fun _ h => Or.inr h) hl.1 gm_Model_speed (gc_Model_speed l F o_t2 d267 _) gk_1026 gk_1027 gk_1028 o_t2 (by decide) rfl rfl rfl ⟨(gw_lf (Nat.le_of_ble_eq_true rfl)), (gw_ll (Nat.le_of_ble_eq_true rfl))⟩ (gw_ne hn) rfl rfl (Nat.le_of_ble_eq_true rfl) gd_Law_law_1122 (fun H locs hW => ?_)
                                  refine lv_istore (lv' := [(6, .int a268), (5, .int a262), (0, .ref b), (1, .ref (hs t1)), (2, .ref (hs t2)), (3, .ref (hs t3)), (4, .int x4)]) hx hb gd_Law_law_1125 hl (by decide) rfl (fun ls hl => ?_)
                                  refine lv_aload_n hx hb gd_Law_law_1127 rfl (lv_at hl 4 rfl) ?_
                                  obtain ⟨a271, u269, d270, h⟩ := gf_cl_ok h
                                  refine gw_callVi (K := R_Model) (As := []) (rest := []) C hW (fun _ h => Or.inr h) hl.1 gm_Model_thrown (gc_Model_thrown l F o_t2 d270 _) gk_956 gk_957 gk_958 o_t2 (by decide) rfl rfl rfl ⟨(gw_lf (Nat.le_of_ble_eq_true rfl)), (gw_ll (Nat.le_of_ble_eq_true rfl))⟩ (gw_ne hn) rfl rfl (Nat.le_of_ble_eq_true rfl) gd_Law_law_1128 (fun H locs hW => ?_)
                                  refine lv_iload hx hb gd_Law_law_1131 (lv_at hl 1 rfl) ?_
                                  refine lv_icmp_eq (tgt := 1138) hx hb gd_Law_law_1133 (by decide) (fun c272 => ?_) (fun c272 => ?_)
                                  · have h := gf_t c272 h
                                    refine lv_iload hx hb gd_Law_law_1138 (lv_at hl 1 rfl) ?_
                                    refine lv_if_ne (tgt := 1155) hx hb gd_Law_law_1140 (by decide) (fun c273 => ?_) (fun c273 => ?_)
                                    · have h := gf_f c273 h
                                      exact gx_Law_law_b1155 F C hr hk hfl hZ hN hX hbl hn hr1 k_23 u269 t1 t2 t3 x4 o_t1 o_t2 o_t3 hW (lv_sub hl [2, 3, 4, 5, 6] rfl) h
                                    · have h := gf_t c273 h
                                      refine lv_aload_n hx hb gd_Law_law_1143 rfl (lv_at hl 5 rfl) ?_
                                      refine lv_iconst (v := 0) hx hb gd_Law_law_1144 (by decide) ?_
                                      obtain ⟨g274, h⟩ := gf_if_ok h
                                      refine gw_lald C hW o_t3 g274 gd_Law_law_1145 ?_
                                      refine lv_iload hx hb gd_Law_law_1146 (lv_at hl 0 rfl) ?_
                                      refine lv_i2l hx hb gd_Law_law_1148 rfl ?_
                                      refine W.lcmp hx hb gd_Law_law_1149 ?_
                                      refine lv_if_eq (tgt := 1155) hx hb gd_Law_law_1150 (by decide) (fun c275 => ?_) (fun c275 => ?_)
                                      · have h := gf_t c275 h
                                        exact gx_Law_law_b1155 F C hr hk hfl hZ hN hX hbl hn hr1 k_23 u269 t1 t2 t3 x4 o_t1 o_t2 o_t3 hW (lv_sub hl [2, 3, 4, 5, 6] rfl) h
                                      · have h := gf_f c275 h
                                        refine lv_iconst (v := 0) hx hb gd_Law_law_1153 (by decide) ?_
                                        obtain rfl := Option.some.inj h
                                        exact absurd hr1 (by decide)
                                  · have h := gf_f c272 h
                                    refine lv_iconst (v := 0) hx hb gd_Law_law_1136 (by decide) ?_
                                    obtain rfl := Option.some.inj h
                                    exact absurd hr1 (by decide)
                                · have h := gf_f c256 h
                                  by_cases c276 : ((xs (x4).toNatClampNeg) &&& (31 : Int32)) = 15
                                  · have h := gf_t c276 h
                                    refine lv_tableIn (x := ((xs (x4).toNatClampNeg) &&& (31 : Int32))) (off := 1118) (tgt := 1158) hx hb gd_Law_law_40 (by rw [c276]; decide) (by rw [c276]; decide) (by rw [c276]; rfl) (by decide) ?_
                                    refine lv_aload_n hx hb gd_Law_law_1158 rfl (lv_at hl 1 rfl) ?_
                                    refine lv_aload_n hx hb gd_Law_law_1159 rfl (lv_at hl 0 rfl) ?_
                                    refine lv_iload hx hb gd_Law_law_1160 (lv_at hl 4 rfl) ?_
                                    refine lv_iconst (v := 1) hx hb gd_Law_law_1162 (by decide) ?_
                                    refine lv_iadd hx hb gd_Law_law_1163 ?_
                                    obtain ⟨g277, h⟩ := gf_if_ok h
                                    refine va_sld hx hb hX hbl (gw_lb hbl) hW.2.2.1 g277 gd_Law_law_1164 ?_
                                    refine lv_aload_n hx hb gd_Law_law_1165 rfl (lv_at hl 0 rfl) ?_
                                    refine lv_iload hx hb gd_Law_law_1166 (lv_at hl 4 rfl) ?_
                                    refine lv_iconst (v := 2) hx hb gd_Law_law_1168 (by decide) ?_
                                    refine lv_iadd hx hb gd_Law_law_1169 ?_
                                    obtain ⟨g278, h⟩ := gf_if_ok h
                                    refine va_sld hx hb hX hbl (gw_lb hbl) hW.2.2.1 g278 gd_Law_law_1170 ?_
                                    refine lv_aload_n hx hb gd_Law_law_1171 rfl (lv_at hl 0 rfl) ?_
                                    refine lv_iload hx hb gd_Law_law_1172 (lv_at hl 4 rfl) ?_
                                    refine lv_iconst (v := 3) hx hb gd_Law_law_1174 (by decide) ?_
                                    refine lv_iadd hx hb gd_Law_law_1175 ?_
                                    obtain ⟨g279, h⟩ := gf_if_ok h
                                    refine va_sld hx hb hX hbl (gw_lb hbl) hW.2.2.1 g279 gd_Law_law_1176 ?_
                                    refine lv_aload_n hx hb gd_Law_law_1177 rfl (lv_at hl 3 rfl) ?_
                                    obtain ⟨a282, u280, d281, h⟩ := gf_cl_ok h
                                    refine gw_callW (As := [.ref (hs t1), .int (xs ((x4 + (1 : Int32))).toNatClampNeg), .int (xs ((x4 + (2 : Int32))).toNatClampNeg), .int (xs ((x4 + (3 : Int32))).toNatClampNeg), .ref (hs t3)]) (rest := []) C hW (fun _ h => Or.inr h) hZ hN hl.1 gm_Law_dial (gc_Law_dial l hfl F o_t1 o_t3 d281 _) gk_1029 gk_1030 rfl rfl ⟨(gw_lf (Nat.le_of_ble_eq_true rfl)), (gw_ll (Nat.le_of_ble_eq_true rfl))⟩ (gw_nc hn) rfl rfl (Nat.le_of_ble_eq_true rfl) gd_Law_law_1178 (fun H locs hW => ?_)
                                    refine W.widen (k := 1000 + (n + 1)) (n := 400000 + 6 * (n + 1)) gw_n1 gw_n2 ?_
                                    refine lv_istore (lv' := [(5, .int a282), (0, .ref b), (1, .ref (hs t1)), (2, .ref (hs t2)), (3, .ref (hs t3)), (4, .int x4)]) hx hb gd_Law_law_1181 hl (by decide) rfl (fun ls hl => ?_)
                                    refine lv_aload_n hx hb gd_Law_law_1183 rfl (lv_at hl 3 rfl) ?_
                                    refine lv_aload_n hx hb gd_Law_law_1184 rfl (lv_at hl 1 rfl) ?_
                                    refine lv_iload hx hb gd_Law_law_1185 (lv_at hl 5 rfl) ?_
                                    refine lv_iconst (v := 1) hx hb gd_Law_law_1187 (by decide) ?_
                                    refine lv_iadd hx hb gd_Law_law_1188 ?_
                                    obtain ⟨g283, h⟩ := gf_if_ok h
                                    refine va_sld hx hb hX hbl (gw_lb hbl) hW.2.2.1 g283 gd_Law_law_1189 ?_
                                    refine lv_aload_n hx hb gd_Law_law_1190 rfl (lv_at hl 1 rfl) ?_
                                    refine lv_iload hx hb gd_Law_law_1191 (lv_at hl 5 rfl) ?_
                                    refine lv_iconst (v := 2) hx hb gd_Law_law_1193 (by decide) ?_
                                    refine lv_iadd hx hb gd_Law_law_1194 ?_
                                    obtain ⟨g284, h⟩ := gf_if_ok h
                                    refine va_sld hx hb hX hbl (gw_lb hbl) hW.2.2.1 g284 gd_Law_law_1195 ?_
                                    refine lv_aload_n hx hb gd_Law_law_1196 rfl (lv_at hl 1 rfl) ?_
                                    refine lv_iload hx hb gd_Law_law_1197 (lv_at hl 5 rfl) ?_
                                    refine lv_iconst (v := 3) hx hb gd_Law_law_1199 (by decide) ?_
                                    refine lv_iadd hx hb gd_Law_law_1200 ?_
                                    obtain ⟨g285, h⟩ := gf_if_ok h
                                    refine va_sld hx hb hX hbl (gw_lb hbl) hW.2.2.1 g285 gd_Law_law_1201 ?_
                                    obtain ⟨a288, u286, d287, h⟩ := gf_cl_ok h
                                    refine gw_callVi (K := R_Model) (As := [.int (xs ((x4 + (1 : Int32))).toNatClampNeg), .int (xs ((x4 + (2 : Int32))).toNatClampNeg), .int (xs ((x4 + (3 : Int32))).toNatClampNeg)]) (rest := []) C hW (fun _ h => Or.inr h) hl.1 gm_Model_dial (gc_Model_dial l F o_t2 d287 _) gk_1031 gk_1032 gk_1033 o_t2 (by decide) rfl rfl rfl ⟨(gw_lf (Nat.le_of_ble_eq_true rfl)), (gw_ll (Nat.le_of_ble_eq_true rfl))⟩ (gw_ne hn) rfl rfl (Nat.le_of_ble_eq_true rfl) gd_Law_law_1202 (fun H locs hW => ?_)
                                    refine lv_istore (lv' := [(6, .int a288), (5, .int a282), (0, .ref b), (1, .ref (hs t1)), (2, .ref (hs t2)), (3, .ref (hs t3)), (4, .int x4)]) hx hb gd_Law_law_1205 hl (by decide) rfl (fun ls hl => ?_)
                                    refine lv_aload_n hx hb gd_Law_law_1207 rfl (lv_at hl 4 rfl) ?_
                                    obtain ⟨a291, u289, d290, h⟩ := gf_cl_ok h
                                    refine gw_callVi (K := R_Model) (As := []) (rest := []) C hW (fun _ h => Or.inr h) hl.1 gm_Model_thrown (gc_Model_thrown l F o_t2 d290 _) gk_956 gk_957 gk_958 o_t2 (by decide) rfl rfl rfl ⟨(gw_lf (Nat.le_of_ble_eq_true rfl)), (gw_ll (Nat.le_of_ble_eq_true rfl))⟩ (gw_ne hn) rfl rfl (Nat.le_of_ble_eq_true rfl) gd_Law_law_1208 (fun H locs hW => ?_)
                                    refine lv_iload hx hb gd_Law_law_1211 (lv_at hl 1 rfl) ?_
                                    refine lv_icmp_eq (tgt := 1218) hx hb gd_Law_law_1213 (by decide) (fun c292 => ?_) (fun c292 => ?_)
                                    · have h := gf_t c292 h
                                      refine lv_iload hx hb gd_Law_law_1218 (lv_at hl 1 rfl) ?_
                                      refine lv_if_ne (tgt := 1235) hx hb gd_Law_law_1220 (by decide) (fun c293 => ?_) (fun c293 => ?_)
                                      · have h := gf_f c293 h
                                        exact gx_Law_law_b1235 F C hr hk hfl hZ hN hX hbl hn hr1 k_23 u289 t1 t2 t3 x4 o_t1 o_t2 o_t3 hW (lv_sub hl [2, 3, 4, 5, 6] rfl) h
                                      · have h := gf_t c293 h
                                        refine lv_aload_n hx hb gd_Law_law_1223 rfl (lv_at hl 5 rfl) ?_
                                        refine lv_iconst (v := 0) hx hb gd_Law_law_1224 (by decide) ?_
                                        obtain ⟨g294, h⟩ := gf_if_ok h
                                        refine gw_lald C hW o_t3 g294 gd_Law_law_1225 ?_
                                        refine lv_iload hx hb gd_Law_law_1226 (lv_at hl 0 rfl) ?_
                                        refine lv_i2l hx hb gd_Law_law_1228 rfl ?_
                                        refine W.lcmp hx hb gd_Law_law_1229 ?_
                                        refine lv_if_eq (tgt := 1235) hx hb gd_Law_law_1230 (by decide) (fun c295 => ?_) (fun c295 => ?_)
                                        · have h := gf_t c295 h
                                          exact gx_Law_law_b1235 F C hr hk hfl hZ hN hX hbl hn hr1 k_23 u289 t1 t2 t3 x4 o_t1 o_t2 o_t3 hW (lv_sub hl [2, 3, 4, 5, 6] rfl) h
                                        · have h := gf_f c295 h
                                          refine lv_iconst (v := 0) hx hb gd_Law_law_1233 (by decide) ?_
                                          obtain rfl := Option.some.inj h
                                          exact absurd hr1 (by decide)
                                    · have h := gf_f c292 h
                                      refine lv_iconst (v := 0) hx hb gd_Law_law_1216 (by decide) ?_
                                      obtain rfl := Option.some.inj h
                                      exact absurd hr1 (by decide)
                                  · have h := gf_f c276 h
                                    by_cases c296 : ((xs (x4).toNatClampNeg) &&& (31 : Int32)) = 16
                                    · have h := gf_t c296 h
                                      refine lv_tableIn (x := ((xs (x4).toNatClampNeg) &&& (31 : Int32))) (off := 1198) (tgt := 1238) hx hb gd_Law_law_40 (by rw [c296]; decide) (by rw [c296]; decide) (by rw [c296]; rfl) (by decide) ?_
                                      refine lv_aload_n hx hb gd_Law_law_1238 rfl (lv_at hl 1 rfl) ?_
                                      refine lv_aload_n hx hb gd_Law_law_1239 rfl (lv_at hl 0 rfl) ?_
                                      refine lv_iload hx hb gd_Law_law_1240 (lv_at hl 4 rfl) ?_
                                      refine lv_iconst (v := 1) hx hb gd_Law_law_1242 (by decide) ?_
                                      refine lv_iadd hx hb gd_Law_law_1243 ?_
                                      obtain ⟨g297, h⟩ := gf_if_ok h
                                      refine va_sld hx hb hX hbl (gw_lb hbl) hW.2.2.1 g297 gd_Law_law_1244 ?_
                                      refine lv_aload_n hx hb gd_Law_law_1245 rfl (lv_at hl 0 rfl) ?_
                                      refine lv_iload hx hb gd_Law_law_1246 (lv_at hl 4 rfl) ?_
                                      refine lv_iconst (v := 2) hx hb gd_Law_law_1248 (by decide) ?_
                                      refine lv_iadd hx hb gd_Law_law_1249 ?_
                                      obtain ⟨g298, h⟩ := gf_if_ok h
                                      refine va_sld hx hb hX hbl (gw_lb hbl) hW.2.2.1 g298 gd_Law_law_1250 ?_
                                      refine lv_aload_n hx hb gd_Law_law_1251 rfl (lv_at hl 0 rfl) ?_
                                      refine lv_iload hx hb gd_Law_law_1252 (lv_at hl 4 rfl) ?_
                                      refine lv_iconst (v := 3) hx hb gd_Law_law_1254 (by decide) ?_
                                      refine lv_iadd hx hb gd_Law_law_1255 ?_
                                      obtain ⟨g299, h⟩ := gf_if_ok h
                                      refine va_sld hx hb hX hbl (gw_lb hbl) hW.2.2.1 g299 gd_Law_law_1256 ?_
                                      refine lv_aload_n hx hb gd_Law_law_1257 rfl (lv_at hl 3 rfl) ?_
                                      obtain ⟨a302, u300, d301, h⟩ := gf_cl_ok h
                                      refine gw_callW (As := [.ref (hs t1), .int (xs ((x4 + (1 : Int32))).toNatClampNeg), .int (xs ((x4 + (2 : Int32))).toNatClampNeg), .int (xs ((x4 + (3 : Int32))).toNatClampNeg), .ref (hs t3)]) (rest := []) C hW (fun _ h => Or.inr h) hZ hN hl.1 gm_Law_position (gc_Law_position l hfl F o_t1 o_t3 d301 _) gk_1034 gk_1035 rfl rfl ⟨(gw_lf (Nat.le_of_ble_eq_true rfl)), (gw_ll (Nat.le_of_ble_eq_true rfl))⟩ (gw_nc hn) rfl rfl (Nat.le_of_ble_eq_true rfl) gd_Law_law_1258 (fun H locs hW => ?_)
                                      refine W.widen (k := 1000 + (n + 1)) (n := 400000 + 6 * (n + 1)) gw_n1 gw_n2 ?_
                                      refine lv_istore (lv' := [(5, .int a302), (0, .ref b), (1, .ref (hs t1)), (2, .ref (hs t2)), (3, .ref (hs t3)), (4, .int x4)]) hx hb gd_Law_law_1261 hl (by decide) rfl (fun ls hl => ?_)
                                      refine lv_aload_n hx hb gd_Law_law_1263 rfl (lv_at hl 3 rfl) ?_
                                      refine lv_aload_n hx hb gd_Law_law_1264 rfl (lv_at hl 1 rfl) ?_
                                      refine lv_iload hx hb gd_Law_law_1265 (lv_at hl 5 rfl) ?_
                                      refine lv_iconst (v := 1) hx hb gd_Law_law_1267 (by decide) ?_
                                      refine lv_iadd hx hb gd_Law_law_1268 ?_
                                      obtain ⟨g303, h⟩ := gf_if_ok h
                                      refine va_sld hx hb hX hbl (gw_lb hbl) hW.2.2.1 g303 gd_Law_law_1269 ?_
                                      refine lv_aload_n hx hb gd_Law_law_1270 rfl (lv_at hl 1 rfl) ?_
                                      refine lv_iload hx hb gd_Law_law_1271 (lv_at hl 5 rfl) ?_
                                      refine lv_iconst (v := 2) hx hb gd_Law_law_1273 (by decide) ?_
                                      refine lv_iadd hx hb gd_Law_law_1274 ?_
                                      obtain ⟨g304, h⟩ := gf_if_ok h
                                      refine va_sld hx hb hX hbl (gw_lb hbl) hW.2.2.1 g304 gd_Law_law_1275 ?_
                                      refine lv_aload_n hx hb gd_Law_law_1276 rfl (lv_at hl 1 rfl) ?_
                                      refine lv_iload hx hb gd_Law_law_1277 (lv_at hl 5 rfl) ?_
                                      refine lv_iconst (v := 3) hx hb gd_Law_law_1279 (by decide) ?_
                                      refine lv_iadd hx hb gd_Law_law_1280 ?_
                                      obtain ⟨g305, h⟩ := gf_if_ok h
                                      refine va_sld hx hb hX hbl (gw_lb hbl) hW.2.2.1 g305 gd_Law_law_1281 ?_
                                      obtain ⟨a308, u306, d307, h⟩ := gf_cl_ok h
                                      refine gw_callVi (K := R_Model) (As := [.int (xs ((x4 + (1 : Int32))).toNatClampNeg), .int (xs ((x4 + (2 : Int32))).toNatClampNeg), .int (xs ((x4 + (3 : Int32))).toNatClampNeg)]) (rest := []) C hW (fun _ h => Or.inr h) hl.1 gm_Model_position (gc_Model_position l F o_t2 d307 _) gk_1036 gk_1037 gk_1038 o_t2 (by decide) rfl rfl rfl ⟨(gw_lf (Nat.le_of_ble_eq_true rfl)), (gw_ll (Nat.le_of_ble_eq_true rfl))⟩ (gw_ne hn) rfl rfl (Nat.le_of_ble_eq_true rfl) gd_Law_law_1282 (fun H locs hW => ?_)
                                      refine lv_istore (lv' := [(6, .int a308), (5, .int a302), (0, .ref b), (1, .ref (hs t1)), (2, .ref (hs t2)), (3, .ref (hs t3)), (4, .int x4)]) hx hb gd_Law_law_1285 hl (by decide) rfl (fun ls hl => ?_)
                                      refine lv_aload_n hx hb gd_Law_law_1287 rfl (lv_at hl 4 rfl) ?_
                                      obtain ⟨a311, u309, d310, h⟩ := gf_cl_ok h
                                      refine gw_callVi (K := R_Model) (As := []) (rest := []) C hW (fun _ h => Or.inr h) hl.1 gm_Model_thrown (gc_Model_thrown l F o_t2 d310 _) gk_956 gk_957 gk_958 o_t2 (by decide) rfl rfl rfl ⟨(gw_lf (Nat.le_of_ble_eq_true rfl)), (gw_ll (Nat.le_of_ble_eq_true rfl))⟩ (gw_ne hn) rfl rfl (Nat.le_of_ble_eq_true rfl) gd_Law_law_1288 (fun H locs hW => ?_)
                                      refine lv_iload hx hb gd_Law_law_1291 (lv_at hl 1 rfl) ?_
                                      refine lv_icmp_eq (tgt := 1298) hx hb gd_Law_law_1293 (by decide) (fun c312 => ?_) (fun c312 => ?_)
                                      · have h := gf_t c312 h
                                        refine lv_iload hx hb gd_Law_law_1298 (lv_at hl 1 rfl) ?_
                                        refine lv_if_ne (tgt := 1315) hx hb gd_Law_law_1300 (by decide) (fun c313 => ?_) (fun c313 => ?_)
                                        · have h := gf_f c313 h
                                          exact gx_Law_law_b1315 F C hr hk hfl hZ hN hX hbl hn hr1 k_23 u309 t1 t2 t3 x4 o_t1 o_t2 o_t3 hW (lv_sub hl [2, 3, 4, 5, 6] rfl) h
                                        · have h := gf_t c313 h
                                          refine lv_aload_n hx hb gd_Law_law_1303 rfl (lv_at hl 5 rfl) ?_
                                          refine lv_iconst (v := 0) hx hb gd_Law_law_1304 (by decide) ?_
                                          obtain ⟨g314, h⟩ := gf_if_ok h
                                          refine gw_lald C hW o_t3 g314 gd_Law_law_1305 ?_
                                          refine lv_iload hx hb gd_Law_law_1306 (lv_at hl 0 rfl) ?_
                                          refine lv_i2l hx hb gd_Law_law_1308 rfl ?_
                                          refine W.lcmp hx hb gd_Law_law_1309 ?_
                                          refine lv_if_eq (tgt := 1315) hx hb gd_Law_law_1310 (by decide) (fun c315 => ?_) (fun c315 => ?_)
                                          · have h := gf_t c315 h
                                            exact gx_Law_law_b1315 F C hr hk hfl hZ hN hX hbl hn hr1 k_23 u309 t1 t2 t3 x4 o_t1 o_t2 o_t3 hW (lv_sub hl [2, 3, 4, 5, 6] rfl) h
                                          · have h := gf_f c315 h
                                            refine lv_iconst (v := 0) hx hb gd_Law_law_1313 (by decide) ?_
                                            obtain rfl := Option.some.inj h
                                            exact absurd hr1 (by decide)
                                      · have h := gf_f c312 h
                                        refine lv_iconst (v := 0) hx hb gd_Law_law_1296 (by decide) ?_
                                        obtain rfl := Option.some.inj h
                                        exact absurd hr1 (by decide)
                                    · have h := gf_f c296 h
                                      by_cases c316 : ((xs (x4).toNatClampNeg) &&& (31 : Int32)) = 17
                                      · have h := gf_t c316 h
                                        refine lv_tableIn (x := ((xs (x4).toNatClampNeg) &&& (31 : Int32))) (off := 1278) (tgt := 1318) hx hb gd_Law_law_40 (by rw [c316]; decide) (by rw [c316]; decide) (by rw [c316]; rfl) (by decide) ?_
                                        refine lv_aload_n hx hb gd_Law_law_1318 rfl (lv_at hl 1 rfl) ?_
                                        refine lv_aload_n hx hb gd_Law_law_1319 rfl (lv_at hl 0 rfl) ?_
                                        refine lv_iload hx hb gd_Law_law_1320 (lv_at hl 4 rfl) ?_
                                        refine lv_iconst (v := 1) hx hb gd_Law_law_1322 (by decide) ?_
                                        refine lv_iadd hx hb gd_Law_law_1323 ?_
                                        obtain ⟨g317, h⟩ := gf_if_ok h
                                        refine va_sld hx hb hX hbl (gw_lb hbl) hW.2.2.1 g317 gd_Law_law_1324 ?_
                                        refine lv_aload_n hx hb gd_Law_law_1325 rfl (lv_at hl 0 rfl) ?_
                                        refine lv_iload hx hb gd_Law_law_1326 (lv_at hl 4 rfl) ?_
                                        refine lv_iconst (v := 2) hx hb gd_Law_law_1328 (by decide) ?_
                                        refine lv_iadd hx hb gd_Law_law_1329 ?_
                                        obtain ⟨g318, h⟩ := gf_if_ok h
                                        refine va_sld hx hb hX hbl (gw_lb hbl) hW.2.2.1 g318 gd_Law_law_1330 ?_
                                        refine lv_aload_n hx hb gd_Law_law_1331 rfl (lv_at hl 3 rfl) ?_
                                        obtain ⟨a321, u319, d320, h⟩ := gf_cl_ok h
                                        refine gw_callW (As := [.ref (hs t1), .int (xs ((x4 + (1 : Int32))).toNatClampNeg), .int (xs ((x4 + (2 : Int32))).toNatClampNeg), .ref (hs t3)]) (rest := []) C hW (fun _ h => Or.inr h) hZ hN hl.1 gm_Law_meet (gc_Law_meet l hfl F o_t1 o_t3 d320 _) gk_1039 gk_1040 rfl rfl ⟨(gw_lf (Nat.le_of_ble_eq_true rfl)), (gw_ll (Nat.le_of_ble_eq_true rfl))⟩ (gw_nc hn) rfl rfl (Nat.le_of_ble_eq_true rfl) gd_Law_law_1332 (fun H locs hW => ?_)
                                        refine W.widen (k := 1000 + (n + 1)) (n := 400000 + 6 * (n + 1)) gw_n1 gw_n2 ?_
                                        refine lv_istore (lv' := [(5, .int a321), (0, .ref b), (1, .ref (hs t1)), (2, .ref (hs t2)), (3, .ref (hs t3)), (4, .int x4)]) hx hb gd_Law_law_1335 hl (by decide) rfl (fun ls hl => ?_)
                                        refine lv_aload_n hx hb gd_Law_law_1337 rfl (lv_at hl 3 rfl) ?_
                                        refine lv_aload_n hx hb gd_Law_law_1338 rfl (lv_at hl 1 rfl) ?_
                                        refine lv_iload hx hb gd_Law_law_1339 (lv_at hl 5 rfl) ?_
                                        refine lv_iconst (v := 1) hx hb gd_Law_law_1341 (by decide) ?_
                                        refine lv_iadd hx hb gd_Law_law_1342 ?_
                                        obtain ⟨g322, h⟩ := gf_if_ok h
                                        refine va_sld hx hb hX hbl (gw_lb hbl) hW.2.2.1 g322 gd_Law_law_1343 ?_
                                        refine lv_aload_n hx hb gd_Law_law_1344 rfl (lv_at hl 1 rfl) ?_
                                        refine lv_iload hx hb gd_Law_law_1345 (lv_at hl 5 rfl) ?_
                                        refine lv_iconst (v := 2) hx hb gd_Law_law_1347 (by decide) ?_
                                        refine lv_iadd hx hb gd_Law_law_1348 ?_
                                        obtain ⟨g323, h⟩ := gf_if_ok h
                                        refine va_sld hx hb hX hbl (gw_lb hbl) hW.2.2.1 g323 gd_Law_law_1349 ?_
                                        obtain ⟨a326, u324, d325, h⟩ := gf_cl_ok h
                                        refine gw_callVi (K := R_Model) (As := [.int (xs ((x4 + (1 : Int32))).toNatClampNeg), .int (xs ((x4 + (2 : Int32))).toNatClampNeg)]) (rest := []) C hW (fun _ h => Or.inr h) hl.1 gm_Model_meet (gc_Model_meet l F o_t2 d325 _) gk_1041 gk_1042 gk_1043 o_t2 (by decide) rfl rfl rfl ⟨(gw_lf (Nat.le_of_ble_eq_true rfl)), (gw_ll (Nat.le_of_ble_eq_true rfl))⟩ (gw_ne hn) rfl rfl (Nat.le_of_ble_eq_true rfl) gd_Law_law_1350 (fun H locs hW => ?_)
                                        refine lv_istore (lv' := [(6, .int a326), (5, .int a321), (0, .ref b), (1, .ref (hs t1)), (2, .ref (hs t2)), (3, .ref (hs t3)), (4, .int x4)]) hx hb gd_Law_law_1353 hl (by decide) rfl (fun ls hl => ?_)
                                        refine lv_aload_n hx hb gd_Law_law_1355 rfl (lv_at hl 4 rfl) ?_
                                        obtain ⟨a329, u327, d328, h⟩ := gf_cl_ok h
                                        refine gw_callVi (K := R_Model) (As := []) (rest := []) C hW (fun _ h => Or.inr h) hl.1 gm_Model_thrown (gc_Model_thrown l F o_t2 d328 _) gk_956 gk_957 gk_958 o_t2 (by decide) rfl rfl rfl ⟨(gw_lf (Nat.le_of_ble_eq_true rfl)), (gw_ll (Nat.le_of_ble_eq_true rfl))⟩ (gw_ne hn) rfl rfl (Nat.le_of_ble_eq_true rfl) gd_Law_law_1356 (fun H locs hW => ?_)
                                        refine lv_iload hx hb gd_Law_law_1359 (lv_at hl 1 rfl) ?_
                                        refine lv_icmp_eq (tgt := 1366) hx hb gd_Law_law_1361 (by decide) (fun c330 => ?_) (fun c330 => ?_)
                                        · have h := gf_t c330 h
                                          refine lv_iload hx hb gd_Law_law_1366 (lv_at hl 1 rfl) ?_
                                          refine lv_if_ne (tgt := 1390) hx hb gd_Law_law_1368 (by decide) (fun c331 => ?_) (fun c331 => ?_)
                                          · have h := gf_f c331 h
                                            exact gx_Law_law_b1390 F C hr hk hfl hZ hN hX hbl hn hr1 k_23 u327 t1 t2 t3 x4 o_t1 o_t2 o_t3 hW (lv_sub hl [2, 3, 4, 5, 6] rfl) h
                                          · have h := gf_t c331 h
                                            refine lv_aload_n hx hb gd_Law_law_1371 rfl (lv_at hl 5 rfl) ?_
                                            refine lv_iconst (v := 0) hx hb gd_Law_law_1372 (by decide) ?_
                                            obtain ⟨g332, h⟩ := gf_if_ok h
                                            refine gw_lald C hW o_t3 g332 gd_Law_law_1373 ?_
                                            refine lv_iload hx hb gd_Law_law_1374 (lv_at hl 0 rfl) ?_
                                            refine lv_if_eq (tgt := 1383) hx hb gd_Law_law_1376 (by decide) (fun c333 => ?_) (fun c333 => ?_)
                                            · have h := gf_t c333 h
                                              refine lv_lconst (v := 0) hx hb gd_Law_law_1383 (by decide) ?_
                                              exact gx_Law_law_b1384 F C hr hk hfl hZ hN hX hbl hn hr1 k_23 u327 t1 t2 t3 x4 (u327.2.1 t3 ((0 : Int32)).toNatClampNeg) 0 o_t1 o_t2 o_t3 hW (lv_sub hl [2, 3, 4, 5, 6] rfl) h
                                            · have h := gf_f c333 h
                                              refine lv_lconst (v := 1) hx hb gd_Law_law_1379 (by decide) ?_
                                              refine lv_goto (tgt := 1384) hx hb gd_Law_law_1380 (by decide) ?_
                                              exact gx_Law_law_b1384 F C hr hk hfl hZ hN hX hbl hn hr1 k_23 u327 t1 t2 t3 x4 (u327.2.1 t3 ((0 : Int32)).toNatClampNeg) 1 o_t1 o_t2 o_t3 hW (lv_sub hl [2, 3, 4, 5, 6] rfl) h
                                        · have h := gf_f c330 h
                                          refine lv_iconst (v := 0) hx hb gd_Law_law_1364 (by decide) ?_
                                          obtain rfl := Option.some.inj h
                                          exact absurd hr1 (by decide)
                                      · have h := gf_f c316 h
                                        by_cases c334 : ((xs (x4).toNatClampNeg) &&& (31 : Int32)) = 18
                                        · have h := gf_t c334 h
                                          refine lv_tableIn (x := ((xs (x4).toNatClampNeg) &&& (31 : Int32))) (off := 1353) (tgt := 1393) hx hb gd_Law_law_40 (by rw [c334]; decide) (by rw [c334]; decide) (by rw [c334]; rfl) (by decide) ?_
                                          refine lv_aload_n hx hb gd_Law_law_1393 rfl (lv_at hl 1 rfl) ?_
                                          refine lv_aload_n hx hb gd_Law_law_1394 rfl (lv_at hl 3 rfl) ?_
                                          obtain ⟨a337, u335, d336, h⟩ := gf_cl_ok h
                                          refine gw_callW (As := [.ref (hs t1), .ref (hs t3)]) (rest := []) C hW (fun _ h => Or.inr h) hZ hN hl.1 gm_Law_back (gc_Law_back l hfl F o_t1 o_t3 d336 _) gk_1044 gk_1045 rfl rfl ⟨(gw_lf (Nat.le_of_ble_eq_true rfl)), (gw_ll (Nat.le_of_ble_eq_true rfl))⟩ (gw_nc hn) rfl rfl (Nat.le_of_ble_eq_true rfl) gd_Law_law_1395 (fun H locs hW => ?_)
                                          refine W.widen (k := 1000 + (n + 1)) (n := 400000 + 6 * (n + 1)) gw_n1 gw_n2 ?_
                                          refine lv_istore (lv' := [(5, .int a337), (0, .ref b), (1, .ref (hs t1)), (2, .ref (hs t2)), (3, .ref (hs t3)), (4, .int x4)]) hx hb gd_Law_law_1398 hl (by decide) rfl (fun ls hl => ?_)
                                          refine lv_aload_n hx hb gd_Law_law_1400 rfl (lv_at hl 3 rfl) ?_
                                          obtain ⟨a340, u338, d339, h⟩ := gf_cl_ok h
                                          refine gw_callVi (K := R_Model) (As := []) (rest := []) C hW (fun _ h => Or.inr h) hl.1 gm_Model_back (gc_Model_back l F o_t2 d339 _) gk_1046 gk_1047 gk_1048 o_t2 (by decide) rfl rfl rfl ⟨(gw_lf (Nat.le_of_ble_eq_true rfl)), (gw_ll (Nat.le_of_ble_eq_true rfl))⟩ (gw_ne hn) rfl rfl (Nat.le_of_ble_eq_true rfl) gd_Law_law_1401 (fun H locs hW => ?_)
                                          refine lv_istore (lv' := [(6, .int a340), (5, .int a337), (0, .ref b), (1, .ref (hs t1)), (2, .ref (hs t2)), (3, .ref (hs t3)), (4, .int x4)]) hx hb gd_Law_law_1404 hl (by decide) rfl (fun ls hl => ?_)
                                          refine lv_aload_n hx hb gd_Law_law_1406 rfl (lv_at hl 4 rfl) ?_
                                          obtain ⟨a343, u341, d342, h⟩ := gf_cl_ok h
                                          refine gw_callVi (K := R_Model) (As := []) (rest := []) C hW (fun _ h => Or.inr h) hl.1 gm_Model_thrown (gc_Model_thrown l F o_t2 d342 _) gk_956 gk_957 gk_958 o_t2 (by decide) rfl rfl rfl ⟨(gw_lf (Nat.le_of_ble_eq_true rfl)), (gw_ll (Nat.le_of_ble_eq_true rfl))⟩ (gw_ne hn) rfl rfl (Nat.le_of_ble_eq_true rfl) gd_Law_law_1407 (fun H locs hW => ?_)
                                          refine lv_iload hx hb gd_Law_law_1410 (lv_at hl 1 rfl) ?_
                                          refine lv_icmp_eq (tgt := 1417) hx hb gd_Law_law_1412 (by decide) (fun c344 => ?_) (fun c344 => ?_)
                                          · have h := gf_t c344 h
                                            refine lv_iload hx hb gd_Law_law_1417 (lv_at hl 1 rfl) ?_
                                            refine lv_if_ne (tgt := 1441) hx hb gd_Law_law_1419 (by decide) (fun c345 => ?_) (fun c345 => ?_)
                                            · have h := gf_f c345 h
                                              exact gx_Law_law_b1441 F C hr hk hfl hZ hN hX hbl hn hr1 k_23 u341 t1 t2 t3 x4 o_t1 o_t2 o_t3 hW (lv_sub hl [2, 3, 4, 5, 6] rfl) h
                                            · have h := gf_t c345 h
                                              refine lv_aload_n hx hb gd_Law_law_1422 rfl (lv_at hl 5 rfl) ?_
                                              refine lv_iconst (v := 0) hx hb gd_Law_law_1423 (by decide) ?_
                                              obtain ⟨g346, h⟩ := gf_if_ok h
                                              refine gw_lald C hW o_t3 g346 gd_Law_law_1424 ?_
                                              refine lv_iload hx hb gd_Law_law_1425 (lv_at hl 0 rfl) ?_
                                              refine lv_if_eq (tgt := 1434) hx hb gd_Law_law_1427 (by decide) (fun c347 => ?_) (fun c347 => ?_)
                                              · have h := gf_t c347 h
                                                refine lv_lconst (v := 0) hx hb gd_Law_law_1434 (by decide) ?_
                                                exact gx_Law_law_b1435 F C hr hk hfl hZ hN hX hbl hn hr1 k_23 u341 t1 t2 t3 x4 (u341.2.1 t3 ((0 : Int32)).toNatClampNeg) 0 o_t1 o_t2 o_t3 hW (lv_sub hl [2, 3, 4, 5, 6] rfl) h
                                              · have h := gf_f c347 h
                                                refine lv_lconst (v := 1) hx hb gd_Law_law_1430 (by decide) ?_
                                                refine lv_goto (tgt := 1435) hx hb gd_Law_law_1431 (by decide) ?_
                                                exact gx_Law_law_b1435 F C hr hk hfl hZ hN hX hbl hn hr1 k_23 u341 t1 t2 t3 x4 (u341.2.1 t3 ((0 : Int32)).toNatClampNeg) 1 o_t1 o_t2 o_t3 hW (lv_sub hl [2, 3, 4, 5, 6] rfl) h
                                          · have h := gf_f c344 h
                                            refine lv_iconst (v := 0) hx hb gd_Law_law_1415 (by decide) ?_
                                            obtain rfl := Option.some.inj h
                                            exact absurd hr1 (by decide)
                                        · have h := gf_f c334 h
                                          by_cases c348 : ((xs (x4).toNatClampNeg) &&& (31 : Int32)) = 19
                                          · have h := gf_t c348 h
                                            refine lv_tableIn (x := ((xs (x4).toNatClampNeg) &&& (31 : Int32))) (off := 1404) (tgt := 1444) hx hb gd_Law_law_40 (by rw [c348]; decide) (by rw [c348]; decide) (by rw [c348]; rfl) (by decide) ?_
                                            refine lv_aload_n hx hb gd_Law_law_1444 rfl (lv_at hl 1 rfl) ?_
                                            refine lv_aload_n hx hb gd_Law_law_1445 rfl (lv_at hl 0 rfl) ?_
                                            refine lv_iload hx hb gd_Law_law_1446 (lv_at hl 4 rfl) ?_
                                            refine lv_iconst (v := 1) hx hb gd_Law_law_1448 (by decide) ?_
                                            refine lv_iadd hx hb gd_Law_law_1449 ?_
                                            obtain ⟨g349, h⟩ := gf_if_ok h
                                            refine va_sld hx hb hX hbl (gw_lb hbl) hW.2.2.1 g349 gd_Law_law_1450 ?_
                                            refine lv_aload_n hx hb gd_Law_law_1451 rfl (lv_at hl 0 rfl) ?_
                                            refine lv_iload hx hb gd_Law_law_1452 (lv_at hl 4 rfl) ?_
                                            refine lv_iconst (v := 2) hx hb gd_Law_law_1454 (by decide) ?_
                                            refine lv_iadd hx hb gd_Law_law_1455 ?_
                                            obtain ⟨g350, h⟩ := gf_if_ok h
                                            refine va_sld hx hb hX hbl (gw_lb hbl) hW.2.2.1 g350 gd_Law_law_1456 ?_
                                            refine lv_aload_n hx hb gd_Law_law_1457 rfl (lv_at hl 3 rfl) ?_
                                            obtain ⟨a353, u351, d352, h⟩ := gf_cl_ok h
                                            refine gw_callW (As := [.ref (hs t1), .int (xs ((x4 + (1 : Int32))).toNatClampNeg), .int (xs ((x4 + (2 : Int32))).toNatClampNeg), .ref (hs t3)]) (rest := []) C hW (fun _ h => Or.inr h) hZ hN hl.1 gm_Law_result (gc_Law_result l hfl F o_t1 o_t3 d352 _) gk_1049 gk_1050 rfl rfl ⟨(gw_lf (Nat.le_of_ble_eq_true rfl)), (gw_ll (Nat.le_of_ble_eq_true rfl))⟩ (gw_nc hn) rfl rfl (Nat.le_of_ble_eq_true rfl) gd_Law_law_1458 (fun H locs hW => ?_)
                                            refine W.widen (k := 1000 + (n + 1)) (n := 400000 + 6 * (n + 1)) gw_n1 gw_n2 ?_
                                            refine lv_istore (lv' := [(5, .int a353), (0, .ref b), (1, .ref (hs t1)), (2, .ref (hs t2)), (3, .ref (hs t3)), (4, .int x4)]) hx hb gd_Law_law_1461 hl (by decide) rfl (fun ls hl => ?_)
                                            refine lv_aload_n hx hb gd_Law_law_1463 rfl (lv_at hl 3 rfl) ?_
                                            refine lv_aload_n hx hb gd_Law_law_1464 rfl (lv_at hl 1 rfl) ?_
                                            refine lv_iload hx hb gd_Law_law_1465 (lv_at hl 5 rfl) ?_
                                            refine lv_iconst (v := 1) hx hb gd_Law_law_1467 (by decide) ?_
                                            refine lv_iadd hx hb gd_Law_law_1468 ?_
                                            obtain ⟨g354, h⟩ := gf_if_ok h
                                            refine va_sld hx hb hX hbl (gw_lb hbl) hW.2.2.1 g354 gd_Law_law_1469 ?_
                                            refine lv_aload_n hx hb gd_Law_law_1470 rfl (lv_at hl 1 rfl) ?_
                                            refine lv_iload hx hb gd_Law_law_1471 (lv_at hl 5 rfl) ?_
                                            refine lv_iconst (v := 2) hx hb gd_Law_law_1473 (by decide) ?_
                                            refine lv_iadd hx hb gd_Law_law_1474 ?_
                                            obtain ⟨g355, h⟩ := gf_if_ok h
                                            refine va_sld hx hb hX hbl (gw_lb hbl) hW.2.2.1 g355 gd_Law_law_1475 ?_
                                            obtain ⟨a358, u356, d357, h⟩ := gf_cl_ok h
                                            refine gw_callVi (K := R_Model) (As := [.int (xs ((x4 + (1 : Int32))).toNatClampNeg), .int (xs ((x4 + (2 : Int32))).toNatClampNeg)]) (rest := []) C hW (fun _ h => Or.inr h) hl.1 gm_Model_result (gc_Model_result l F o_t2 d357 _) gk_1051 gk_1052 gk_1053 o_t2 (by decide) rfl rfl rfl ⟨(gw_lf (Nat.le_of_ble_eq_true rfl)), (gw_ll (Nat.le_of_ble_eq_true rfl))⟩ (gw_ne hn) rfl rfl (Nat.le_of_ble_eq_true rfl) gd_Law_law_1476 (fun H locs hW => ?_)
                                            refine lv_istore (lv' := [(6, .int a358), (5, .int a353), (0, .ref b), (1, .ref (hs t1)), (2, .ref (hs t2)), (3, .ref (hs t3)), (4, .int x4)]) hx hb gd_Law_law_1479 hl (by decide) rfl (fun ls hl => ?_)
                                            refine lv_aload_n hx hb gd_Law_law_1481 rfl (lv_at hl 4 rfl) ?_
                                            obtain ⟨a361, u359, d360, h⟩ := gf_cl_ok h
                                            refine gw_callVi (K := R_Model) (As := []) (rest := []) C hW (fun _ h => Or.inr h) hl.1 gm_Model_thrown (gc_Model_thrown l F o_t2 d360 _) gk_956 gk_957 gk_958 o_t2 (by decide) rfl rfl rfl ⟨(gw_lf (Nat.le_of_ble_eq_true rfl)), (gw_ll (Nat.le_of_ble_eq_true rfl))⟩ (gw_ne hn) rfl rfl (Nat.le_of_ble_eq_true rfl) gd_Law_law_1482 (fun H locs hW => ?_)
                                            refine lv_iload hx hb gd_Law_law_1485 (lv_at hl 1 rfl) ?_
                                            refine lv_icmp_eq (tgt := 1492) hx hb gd_Law_law_1487 (by decide) (fun c362 => ?_) (fun c362 => ?_)
                                            · have h := gf_t c362 h
                                              refine lv_iload hx hb gd_Law_law_1492 (lv_at hl 1 rfl) ?_
                                              refine lv_if_ne (tgt := 1509) hx hb gd_Law_law_1494 (by decide) (fun c363 => ?_) (fun c363 => ?_)
                                              · have h := gf_f c363 h
                                                exact gx_Law_law_b1509 F C hr hk hfl hZ hN hX hbl hn hr1 k_23 u359 t1 t2 t3 x4 o_t1 o_t2 o_t3 hW (lv_sub hl [2, 3, 4, 5, 6] rfl) h
                                              · have h := gf_t c363 h
                                                refine lv_aload_n hx hb gd_Law_law_1497 rfl (lv_at hl 5 rfl) ?_
                                                refine lv_iconst (v := 0) hx hb gd_Law_law_1498 (by decide) ?_
                                                obtain ⟨g364, h⟩ := gf_if_ok h
                                                refine gw_lald C hW o_t3 g364 gd_Law_law_1499 ?_
                                                refine lv_iload hx hb gd_Law_law_1500 (lv_at hl 0 rfl) ?_
                                                refine lv_i2l hx hb gd_Law_law_1502 rfl ?_
                                                refine W.lcmp hx hb gd_Law_law_1503 ?_
                                                refine lv_if_eq (tgt := 1509) hx hb gd_Law_law_1504 (by decide) (fun c365 => ?_) (fun c365 => ?_)
                                                · have h := gf_t c365 h
                                                  exact gx_Law_law_b1509 F C hr hk hfl hZ hN hX hbl hn hr1 k_23 u359 t1 t2 t3 x4 o_t1 o_t2 o_t3 hW (lv_sub hl [2, 3, 4, 5, 6] rfl) h
                                                · have h := gf_f c365 h
                                                  refine lv_iconst (v := 0) hx hb gd_Law_law_1507 (by decide) ?_
                                                  obtain rfl := Option.some.inj h
                                                  exact absurd hr1 (by decide)
                                            · have h := gf_f c362 h
                                              refine lv_iconst (v := 0) hx hb gd_Law_law_1490 (by decide) ?_
                                              obtain rfl := Option.some.inj h
                                              exact absurd hr1 (by decide)
                                          · have h := gf_f c348 h
                                            by_cases c366 : ((xs (x4).toNatClampNeg) &&& (31 : Int32)) = 20
                                            · have h := gf_t c366 h
                                              refine lv_tableIn (x := ((xs (x4).toNatClampNeg) &&& (31 : Int32))) (off := 1472) (tgt := 1512) hx hb gd_Law_law_40 (by rw [c366]; decide) (by rw [c366]; decide) (by rw [c366]; rfl) (by decide) ?_
                                              refine lv_aload_n hx hb gd_Law_law_1512 rfl (lv_at hl 1 rfl) ?_
                                              obtain ⟨a369, u367, d368, h⟩ := gf_cl_ok h
                                              refine gw_callVi (K := R_Desk) (As := []) (rest := []) C hW (fun _ h => Or.inr h) hl.1 gm_Desk_clear (gc_Desk_clear l F o_t1 d368 _) gk_1054 gk_1055 gk_1056 o_t1 (by decide) rfl rfl rfl ⟨(gw_lf (Nat.le_of_ble_eq_true rfl)), (gw_ll (Nat.le_of_ble_eq_true rfl))⟩ (gw_nd hn) rfl rfl (Nat.le_of_ble_eq_true rfl) gd_Law_law_1513 (fun H locs hW => ?_)
                                              refine lv_aload_n hx hb gd_Law_law_1516 rfl (lv_at hl 2 rfl) ?_
                                              obtain ⟨a372, u370, d371, h⟩ := gf_cl_ok h
                                              refine gw_callVi (K := R_Model) (As := []) (rest := [.int a369]) C hW (fun _ h => Or.inr h) hl.1 gm_Model_clear (gc_Model_clear l F o_t2 d371 _) gk_1057 gk_1058 gk_1059 o_t2 (by decide) rfl rfl rfl ⟨(gw_lf (Nat.le_of_ble_eq_true rfl)), (gw_ll (Nat.le_of_ble_eq_true rfl))⟩ (gw_nd hn) rfl rfl (Nat.le_of_ble_eq_true rfl) gd_Law_law_1517 (fun H locs hW => ?_)
                                              refine lv_icmp_eq (tgt := 1550) hx hb gd_Law_law_1520 (by decide) (fun c373 => ?_) (fun c373 => ?_)
                                              · have h := gf_t c373 h
                                                refine W.widen (k := 1000 + (n + 1)) (n := 400000 + 6 * (n + 1)) gw_n3 gw_n4 ?_
                                                exact gx_Law_law_b1550 F C hr hk hfl hZ hN hX hbl hn hr1 k_23 u370 t1 t2 t3 x4 o_t1 o_t2 o_t3 hW (lv_sub hl [0, 1, 2, 3, 4] rfl) h
                                              · have h := gf_f c373 h
                                                refine lv_iconst (v := 0) hx hb gd_Law_law_1523 (by decide) ?_
                                                obtain rfl := Option.some.inj h
                                                exact absurd hr1 (by decide)
                                            · have h := gf_f c366 h
                                              by_cases c374 : ((xs (x4).toNatClampNeg) &&& (31 : Int32)) = 21
                                              · have h := gf_t c374 h
                                                refine lv_tableIn (x := ((xs (x4).toNatClampNeg) &&& (31 : Int32))) (off := 1485) (tgt := 1525) hx hb gd_Law_law_40 (by rw [c374]; decide) (by rw [c374]; decide) (by rw [c374]; rfl) (by decide) ?_
                                                refine lv_aload_n hx hb gd_Law_law_1525 rfl (lv_at hl 1 rfl) ?_
                                                refine lv_aload_n hx hb gd_Law_law_1526 rfl (lv_at hl 0 rfl) ?_
                                                refine lv_iload hx hb gd_Law_law_1527 (lv_at hl 4 rfl) ?_
                                                refine lv_iconst (v := 1) hx hb gd_Law_law_1529 (by decide) ?_
                                                refine lv_iadd hx hb gd_Law_law_1530 ?_
                                                obtain ⟨g375, h⟩ := gf_if_ok h
                                                refine va_sld hx hb hX hbl (gw_lb hbl) hW.2.2.1 g375 gd_Law_law_1531 ?_
                                                obtain ⟨a378, u376, d377, h⟩ := gf_cl_ok h
                                                refine gw_callVi (K := R_Desk) (As := [.int (xs ((x4 + (1 : Int32))).toNatClampNeg)]) (rest := []) C hW (fun _ h => Or.inr h) hl.1 gm_Desk_count (gc_Desk_count l F o_t1 d377 _) gk_1060 gk_1061 gk_1062 o_t1 (by decide) rfl rfl rfl ⟨(gw_lf (Nat.le_of_ble_eq_true rfl)), (gw_ll (Nat.le_of_ble_eq_true rfl))⟩ (gw_nd hn) rfl rfl (Nat.le_of_ble_eq_true rfl) gd_Law_law_1532 (fun H locs hW => ?_)
                                                refine lv_aload_n hx hb gd_Law_law_1535 rfl (lv_at hl 2 rfl) ?_
                                                refine lv_aload_n hx hb gd_Law_law_1536 rfl (lv_at hl 0 rfl) ?_
                                                refine lv_iload hx hb gd_Law_law_1537 (lv_at hl 4 rfl) ?_
                                                refine lv_iconst (v := 1) hx hb gd_Law_law_1539 (by decide) ?_
                                                refine lv_iadd hx hb gd_Law_law_1540 ?_
                                                obtain ⟨g379, h⟩ := gf_if_ok h
                                                refine va_sld hx hb hX hbl (gw_lb hbl) hW.2.2.1 g379 gd_Law_law_1541 ?_
                                                obtain ⟨a382, u380, d381, h⟩ := gf_cl_ok h
                                                refine gw_callVi (K := R_Model) (As := [.int (xs ((x4 + (1 : Int32))).toNatClampNeg)]) (rest := [.int a378]) C hW (fun _ h => Or.inr h) hl.1 gm_Model_count (gc_Model_count l F o_t2 d381 _) gk_1063 gk_1064 gk_1065 o_t2 (by decide) rfl rfl rfl ⟨(gw_lf (Nat.le_of_ble_eq_true rfl)), (gw_ll (Nat.le_of_ble_eq_true rfl))⟩ (gw_nd hn) rfl rfl (Nat.le_of_ble_eq_true rfl) gd_Law_law_1542 (fun H locs hW => ?_)
                                                refine lv_icmp_eq (tgt := 1550) hx hb gd_Law_law_1545 (by decide) (fun c383 => ?_) (fun c383 => ?_)
                                                · have h := gf_t c383 h
                                                  refine W.widen (k := 1000 + (n + 1)) (n := 400000 + 6 * (n + 1)) gw_n3 gw_n4 ?_
                                                  exact gx_Law_law_b1550 F C hr hk hfl hZ hN hX hbl hn hr1 k_23 u380 t1 t2 t3 x4 o_t1 o_t2 o_t3 hW (lv_sub hl [0, 1, 2, 3, 4] rfl) h
                                                · have h := gf_f c383 h
                                                  refine lv_iconst (v := 0) hx hb gd_Law_law_1548 (by decide) ?_
                                                  obtain rfl := Option.some.inj h
                                                  exact absurd hr1 (by decide)
                                              · have h := gf_f c374 h
                                                refine lv_tableOut (x := ((xs (x4).toNatClampNeg) &&& (31 : Int32))) (tgt := 1550) hx hb gd_Law_law_40 (gw_swo (fun k k1 k2 => by rcases (show k = 0 ∨ k = 1 ∨ k = 2 ∨ k = 3 ∨ k = 4 ∨ k = 5 ∨ k = 6 ∨ k = 7 ∨ k = 8 ∨ k = 9 ∨ k = 10 ∨ k = 11 ∨ k = 12 ∨ k = 13 ∨ k = 14 ∨ k = 15 ∨ k = 16 ∨ k = 17 ∨ k = 18 ∨ k = 19 ∨ k = 20 ∨ k = 21 by omega) with rfl | rfl | rfl | rfl | rfl | rfl | rfl | rfl | rfl | rfl | rfl | rfl | rfl | rfl | rfl | rfl | rfl | rfl | rfl | rfl | rfl | rfl <;> first | exact c8 | exact c32 | exact c48 | exact c66 | exact c82 | exact c102 | exact c118 | exact c136 | exact c154 | exact c172 | exact c192 | exact c208 | exact c226 | exact c242 | exact c256 | exact c276 | exact c296 | exact c316 | exact c334 | exact c348 | exact c366 | exact c374)) (by decide) ?_
                                                refine W.widen (k := 1000 + (n + 1)) (n := 400000 + 6 * (n + 1)) gw_n3 gw_n4 ?_
                                                exact gx_Law_law_b1550 F C hr hk hfl hZ hN hX hbl hn hr1 k_23 u t1 t2 t3 x4 o_t1 o_t2 o_t3 hW (lv_sub hl [0, 1, 2, 3, 4] rfl) h
set_option maxHeartbeats 4000000 in
set_option maxRecDepth 20000 in
theorem gx_Law_law_L23 {p : Program} {l : Launch} {e : Env} {s : State} {m : MethodId} {b : Nat} {below : List Frame} {meth : Method} {c : Code} {D : va_G} {cA : Nat → ClassId} {hs : Nat → Nat} {z : gw_Sh} {xs : Nat → Int32} {L : Nat} (F : Nat) {r0 : Int32} (C : gw_Cx p s m #[Value.ref b] c code 8 R_Law D cA) (hr : meth.sig.returnType = ret) (hk : meth.locks = false) (hfl : l.flags = pinnedFlags ++ [noTraceFlag]) (hZ : xt_Zs (gw_A hs gw_z0 s.heap.size) s s.heap) (hN : xt_Nn s) (hX : va_X b L xs s s.heap) (hbl : b < s.heap.size) (hr1 : r0 = 1) : ∀ (f n : Nat), n + f = 513 → ∀ (u : gw_St) (t1 : Nat) (t2 : Nat) (t3 : Nat) (x4 : Int32) (H : Heap) (locs : List Loc) (ls : Array Slot), gw_ok z t1 0 → gw_ok z t2 9 → gw_ok z t3 11 → gw_Wd D cA hs z (gw_A hs gw_z0 s.heap.size) s.heap u H locs → lv_has ls 8 [(0, .ref b), (1, .ref (hs t1)), (2, .ref (hs t2)), (3, .ref (hs t3)), (4, .int x4)] → gf_Law_law_L23 F xs L z  f u t1 t2 t3 x4 = some r0 → gw_GL p l e s m b below meth c H locs ls n 23 [] := by
  intro f
  induction f with
  | zero =>
    intro n hnf u t1 t2 t3 x4 H locs ls o_t1 o_t2 o_t3 hW hl h
    cases h
  | succ f ih =>
    intro n hnf u t1 t2 t3 x4 H locs ls o_t1 o_t2 o_t3 hW hl h
    have hn : n < 513 := by omega
    exact gx_Law_law_S23 F C hr hk hfl hZ hN hX hbl hn hr1 (ih (n + 1) (by omega)) u t1 t2 t3 x4 o_t1 o_t2 o_t3 hW hl h

