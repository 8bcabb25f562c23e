section LC3
variable {p : Program} {l : Launch} {e : Env} {s : State} {m : MethodId} {below : List Frame} {meth : Method} {c : Code} {D : va_G} {cA : Nat → ClassId} {aX aM : Nat → Nat} {b L : Nat} {xs : Nat → Int32} {A M : Mem} {x3 : Int32}
set_option maxHeartbeats 4000000 in
set_option maxRecDepth 100000 in
theorem law_case_24 (B : Lx p s m meth c D cA aX aM b L xs) {n : Nat} (hn : n ≤ 64) (hR : Rel n A M) {v1 v2 v3 : Int32} (h1 : vp_in (x3 + 1) L ∧ xs (x3 + 1).toNatClampNeg = v1) (h2 : vp_in (x3 + 2) L ∧ xs (x3 + 2).toNatClampNeg = v2) (h3 : vp_in (x3 + 3) L ∧ xs (x3 + 3).toNatClampNeg = v3) (next : ∀ A1 M1 : Mem, Rel (n + 1) A1 M1 → LG p l e s m below meth c D cA aX aM b A1 M1 x3 1224 []) : LG p l e s m below meth c D cA aX aM b A M x3 989 [] := by
  obtain ⟨r, A1, M1, e1, e2, hR1⟩ := sim_cell hR v1 v2 v3
  refine l_ax B dL_law_989 ?_
  refine l_arg (k := 1) B dL_law_990 dL_law_991 dL_law_992 dL_law_993 dL_law_994 (by decide) h1 ?_
  refine l_arg (k := 2) B dL_law_995 dL_law_996 dL_law_997 dL_law_998 dL_law_999 (by decide) h2 ?_
  refine l_arg (k := 3) B dL_law_1000 dL_law_1001 dL_law_1002 dL_law_1003 dL_law_1004 (by decide) h3 ?_
  refine l_callXL (As := [.int v1, .int v2, .int v3]) (st := []) B (k_X8_cell l D cA aX B.2.2.2.2.2.2.2.2.2.2.2.1 v1 v2 v3 A) (cwV 3 B.2.2.2.2.2.1 gL_law_X8_cell rfl rfl rfl (by decide +kernel) ⟨Nat.le_of_ble_eq_true rfl, Nat.le_of_ble_eq_true rfl⟩) e1 rfl rfl (Nat.le_of_ble_eq_true rfl) dL_law_1005 ?_
  refine l_am B dL_law_1008 ?_
  refine l_arg (k := 1) B dL_law_1009 dL_law_1010 dL_law_1011 dL_law_1012 dL_law_1013 (by decide) h1 ?_
  refine l_arg (k := 2) B dL_law_1014 dL_law_1015 dL_law_1016 dL_law_1017 dL_law_1018 (by decide) h2 ?_
  refine l_arg (k := 3) B dL_law_1019 dL_law_1020 dL_law_1021 dL_law_1022 dL_law_1023 (by decide) h3 ?_
  refine l_callML (As := [.int v1, .int v2, .int v3]) (st := [.long r]) B (k_X9_cell l D cA aM B.2.2.2.2.2.2.2.2.2.2.2.2.1 v1 v2 v3 M) (cwV 3 B.2.2.2.2.2.1 gL_law_X9_cell rfl rfl rfl (by decide +kernel) ⟨Nat.le_of_ble_eq_true rfl, Nat.le_of_ble_eq_true rfl⟩) e2 rfl rfl (Nat.le_of_ble_eq_true rfl) dL_law_1024 ?_
  exact l_leq B dL_law_1027 dL_law_1028 (by decide) (next A1 M1 hR1)
set_option maxHeartbeats 4000000 in
set_option maxRecDepth 100000 in
theorem law_case_25 (B : Lx p s m meth c D cA aX aM b L xs) {n : Nat} (hn : n ≤ 64) (hR : Rel n A M) {v1 v2 v3 v4 v5 : Int32} (h1 : vp_in (x3 + 1) L ∧ xs (x3 + 1).toNatClampNeg = v1) (h2 : vp_in (x3 + 2) L ∧ xs (x3 + 2).toNatClampNeg = v2) (h3 : vp_in (x3 + 3) L ∧ xs (x3 + 3).toNatClampNeg = v3) (h4 : vp_in (x3 + 4) L ∧ xs (x3 + 4).toNatClampNeg = v4) (h5 : vp_in (x3 + 5) L ∧ xs (x3 + 5).toNatClampNeg = v5) (next : ∀ A1 M1 : Mem, Rel (n + 1) A1 M1 → LG p l e s m below meth c D cA aX aM b A1 M1 x3 1224 []) : LG p l e s m below meth c D cA aX aM b A M x3 1033 [] := by
  obtain ⟨r, A1, M1, e1, e2, hR1⟩ := sim_copy hR v1 v2 v3 v4 v5
  refine l_ax B dL_law_1033 ?_
  refine l_arg (k := 1) B dL_law_1034 dL_law_1035 dL_law_1036 dL_law_1037 dL_law_1038 (by decide) h1 ?_
  refine l_arg (k := 2) B dL_law_1039 dL_law_1040 dL_law_1041 dL_law_1042 dL_law_1043 (by decide) h2 ?_
  refine l_arg (k := 3) B dL_law_1044 dL_law_1045 dL_law_1046 dL_law_1047 dL_law_1048 (by decide) h3 ?_
  refine l_arg (k := 4) B dL_law_1049 dL_law_1050 dL_law_1051 dL_law_1052 dL_law_1053 (by decide) h4 ?_
  refine l_arg (k := 5) B dL_law_1054 dL_law_1055 dL_law_1056 dL_law_1057 dL_law_1058 (by decide) h5 ?_
  refine l_callX (As := [.int v1, .int v2, .int v3, .int v4, .int v5]) (st := []) B (k_X8_copy l D cA aX B.2.2.2.2.2.2.2.2.2.2.2.1 v1 v2 v3 v4 v5 A) (cwV 5 B.2.2.2.2.2.1 gL_law_X8_copy rfl rfl rfl (by decide +kernel) ⟨Nat.le_of_ble_eq_true rfl, Nat.le_of_ble_eq_true rfl⟩) e1 rfl rfl (Nat.le_of_ble_eq_true rfl) dL_law_1059 ?_
  refine l_am B dL_law_1062 ?_
  refine l_arg (k := 1) B dL_law_1063 dL_law_1064 dL_law_1065 dL_law_1066 dL_law_1067 (by decide) h1 ?_
  refine l_arg (k := 2) B dL_law_1068 dL_law_1069 dL_law_1070 dL_law_1071 dL_law_1072 (by decide) h2 ?_
  refine l_arg (k := 3) B dL_law_1073 dL_law_1074 dL_law_1075 dL_law_1076 dL_law_1077 (by decide) h3 ?_
  refine l_arg (k := 4) B dL_law_1078 dL_law_1079 dL_law_1080 dL_law_1081 dL_law_1082 (by decide) h4 ?_
  refine l_arg (k := 5) B dL_law_1083 dL_law_1084 dL_law_1085 dL_law_1086 dL_law_1087 (by decide) h5 ?_
  refine l_callM (As := [.int v1, .int v2, .int v3, .int v4, .int v5]) (st := [.int r]) B (k_X9_copy l D cA aM B.2.2.2.2.2.2.2.2.2.2.2.2.1 v1 v2 v3 v4 v5 M) (cwV 5 B.2.2.2.2.2.1 gL_law_X9_copy rfl rfl rfl (by decide +kernel) ⟨Nat.le_of_ble_eq_true rfl, Nat.le_of_ble_eq_true rfl⟩) e2 rfl rfl (Nat.le_of_ble_eq_true rfl) dL_law_1088 ?_
  exact l_eq B dL_law_1091 (by decide) (next A1 M1 hR1)
set_option maxHeartbeats 4000000 in
set_option maxRecDepth 100000 in
theorem law_case_26 (B : Lx p s m meth c D cA aX aM b L xs) {n : Nat} (hn : n ≤ 64) (hR : Rel n A M) {v1 : Int32} (h1 : vp_in (x3 + 1) L ∧ xs (x3 + 1).toNatClampNeg = v1) (next : ∀ A1 M1 : Mem, Rel (n + 1) A1 M1 → LG p l e s m below meth c D cA aX aM b A1 M1 x3 1224 []) : LG p l e s m below meth c D cA aX aM b A M x3 1096 [] := by
  obtain ⟨r, A1, M1, e1, e2, hR1⟩ := sim_tell hR v1
  refine l_ax B dL_law_1096 ?_
  refine l_arg (k := 1) B dL_law_1097 dL_law_1098 dL_law_1099 dL_law_1100 dL_law_1101 (by decide) h1 ?_
  refine l_callX (As := [.int v1]) (st := []) B (k_X8_tell l D cA aX B.2.2.2.2.2.2.2.2.2.2.2.1 v1 A) (cwV 1 B.2.2.2.2.2.1 gL_law_X8_tell rfl rfl rfl (by decide +kernel) ⟨Nat.le_of_ble_eq_true rfl, Nat.le_of_ble_eq_true rfl⟩) e1 rfl rfl (Nat.le_of_ble_eq_true rfl) dL_law_1102 ?_
  refine l_am B dL_law_1105 ?_
  refine l_arg (k := 1) B dL_law_1106 dL_law_1107 dL_law_1108 dL_law_1109 dL_law_1110 (by decide) h1 ?_
  refine l_callM (As := [.int v1]) (st := [.int r]) B (k_X9_tell l D cA aM B.2.2.2.2.2.2.2.2.2.2.2.2.1 v1 M) (cwV 1 B.2.2.2.2.2.1 gL_law_X9_tell rfl rfl rfl (by decide +kernel) ⟨Nat.le_of_ble_eq_true rfl, Nat.le_of_ble_eq_true rfl⟩) e2 rfl rfl (Nat.le_of_ble_eq_true rfl) dL_law_1111 ?_
  exact l_eq B dL_law_1114 (by decide) (next A1 M1 hR1)
set_option maxHeartbeats 4000000 in
set_option maxRecDepth 100000 in
theorem law_case_27 (B : Lx p s m meth c D cA aX aM b L xs) {n : Nat} (hn : n ≤ 64) (hR : Rel n A M) {v1 : Int32} (h1 : vp_in (x3 + 1) L ∧ xs (x3 + 1).toNatClampNeg = v1) (next : ∀ A1 M1 : Mem, Rel (n + 1) A1 M1 → LG p l e s m below meth c D cA aX aM b A1 M1 x3 1224 []) : LG p l e s m below meth c D cA aX aM b A M x3 1119 [] := by
  obtain ⟨r, A1, M1, e1, e2, hR1⟩ := sim_ring hR v1
  refine l_ax B dL_law_1119 ?_
  refine l_arg (k := 1) B dL_law_1120 dL_law_1121 dL_law_1122 dL_law_1123 dL_law_1124 (by decide) h1 ?_
  refine l_callX (As := [.int v1]) (st := []) B (k_X8_ring l D cA aX B.2.2.2.2.2.2.2.2.2.2.2.1 v1 A) (cwV 1 B.2.2.2.2.2.1 gL_law_X8_ring rfl rfl rfl (by decide +kernel) ⟨Nat.le_of_ble_eq_true rfl, Nat.le_of_ble_eq_true rfl⟩) e1 rfl rfl (Nat.le_of_ble_eq_true rfl) dL_law_1125 ?_
  refine l_am B dL_law_1128 ?_
  refine l_arg (k := 1) B dL_law_1129 dL_law_1130 dL_law_1131 dL_law_1132 dL_law_1133 (by decide) h1 ?_
  refine l_callM (As := [.int v1]) (st := [.int r]) B (k_X9_ring l D cA aM B.2.2.2.2.2.2.2.2.2.2.2.2.1 v1 M) (cwV 1 B.2.2.2.2.2.1 gL_law_X9_ring rfl rfl rfl (by decide +kernel) ⟨Nat.le_of_ble_eq_true rfl, Nat.le_of_ble_eq_true rfl⟩) e2 rfl rfl (Nat.le_of_ble_eq_true rfl) dL_law_1134 ?_
  exact l_eq B dL_law_1137 (by decide) (next A1 M1 hR1)
set_option maxHeartbeats 4000000 in
set_option maxRecDepth 100000 in
theorem law_case_28 (B : Lx p s m meth c D cA aX aM b L xs) {n : Nat} (hn : n ≤ 64) (hR : Rel n A M) {v1 v2 : Int32} (h1 : vp_in (x3 + 1) L ∧ xs (x3 + 1).toNatClampNeg = v1) (h2 : vp_in (x3 + 2) L ∧ xs (x3 + 2).toNatClampNeg = v2) (next : ∀ A1 M1 : Mem, Rel (n + 1) A1 M1 → LG p l e s m below meth c D cA aX aM b A1 M1 x3 1224 []) : LG p l e s m below meth c D cA aX aM b A M x3 1142 [] := by
  obtain ⟨r, A1, M1, e1, e2, hR1⟩ := sim_as hR v1 v2
  refine l_ax B dL_law_1142 ?_
  refine l_arg (k := 1) B dL_law_1143 dL_law_1144 dL_law_1145 dL_law_1146 dL_law_1147 (by decide) h1 ?_
  refine l_arg (k := 2) B dL_law_1148 dL_law_1149 dL_law_1150 dL_law_1151 dL_law_1152 (by decide) h2 ?_
  refine l_callX (As := [.int v1, .int v2]) (st := []) B (k_X8_as l D cA aX B.2.2.2.2.2.2.2.2.2.2.2.1 v1 v2 A) (cwV 2 B.2.2.2.2.2.1 gL_law_X8_as rfl rfl rfl (by decide +kernel) ⟨Nat.le_of_ble_eq_true rfl, Nat.le_of_ble_eq_true rfl⟩) e1 rfl rfl (Nat.le_of_ble_eq_true rfl) dL_law_1153 ?_
  refine l_am B dL_law_1156 ?_
  refine l_arg (k := 1) B dL_law_1157 dL_law_1158 dL_law_1159 dL_law_1160 dL_law_1161 (by decide) h1 ?_
  refine l_arg (k := 2) B dL_law_1162 dL_law_1163 dL_law_1164 dL_law_1165 dL_law_1166 (by decide) h2 ?_
  refine l_callM (As := [.int v1, .int v2]) (st := [.int r]) B (k_X9_as l D cA aM B.2.2.2.2.2.2.2.2.2.2.2.2.1 v1 v2 M) (cwV 2 B.2.2.2.2.2.1 gL_law_X9_as rfl rfl rfl (by decide +kernel) ⟨Nat.le_of_ble_eq_true rfl, Nat.le_of_ble_eq_true rfl⟩) e2 rfl rfl (Nat.le_of_ble_eq_true rfl) dL_law_1167 ?_
  exact l_eq B dL_law_1170 (by decide) (next A1 M1 hR1)
set_option maxHeartbeats 4000000 in
set_option maxRecDepth 100000 in
theorem law_case_29 (B : Lx p s m meth c D cA aX aM b L xs) {n : Nat} (hn : n ≤ 64) (hR : Rel n A M) (next : ∀ A1 M1 : Mem, Rel (n + 1) A1 M1 → LG p l e s m below meth c D cA aX aM b A1 M1 x3 1224 []) : LG p l e s m below meth c D cA aX aM b A M x3 1175 [] := by
  obtain ⟨r, A1, M1, e1, e2, hR1⟩ := sim_trace hR
  refine l_ax B dL_law_1175 ?_
  refine l_callX (As := []) (st := []) B (k_X8_trace l D cA aX B.2.2.2.2.2.2.2.2.2.2.2.1 A) (cwV 0 B.2.2.2.2.2.1 gL_law_X8_trace rfl rfl rfl (by decide +kernel) ⟨Nat.le_of_ble_eq_true rfl, Nat.le_of_ble_eq_true rfl⟩) e1 rfl rfl (Nat.le_of_ble_eq_true rfl) dL_law_1176 ?_
  refine l_am B dL_law_1179 ?_
  refine l_callM (As := []) (st := [.int r]) B (k_X9_trace l D cA aM B.2.2.2.2.2.2.2.2.2.2.2.2.1 M) (cwV 0 B.2.2.2.2.2.1 gL_law_X9_trace rfl rfl rfl (by decide +kernel) ⟨Nat.le_of_ble_eq_true rfl, Nat.le_of_ble_eq_true rfl⟩) e2 rfl rfl (Nat.le_of_ble_eq_true rfl) dL_law_1180 ?_
  exact l_eq B dL_law_1183 (by decide) (next A1 M1 hR1)
set_option maxHeartbeats 4000000 in
set_option maxRecDepth 100000 in
theorem law_case_30 (B : Lx p s m meth c D cA aX aM b L xs) {n : Nat} (hn : n ≤ 64) (hR : Rel n A M) (next : ∀ A1 M1 : Mem, Rel (n + 1) A1 M1 → LG p l e s m below meth c D cA aX aM b A1 M1 x3 1224 []) : LG p l e s m below meth c D cA aX aM b A M x3 1188 [] := by
  obtain ⟨r, A1, M1, e1, e2, hR1⟩ := sim_fault hR
  refine l_ax B dL_law_1188 ?_
  refine l_callX (As := []) (st := []) B (k_X8_fault l D cA aX B.2.2.2.2.2.2.2.2.2.2.2.1 A) (cwV 0 B.2.2.2.2.2.1 gL_law_X8_fault rfl rfl rfl (by decide +kernel) ⟨Nat.le_of_ble_eq_true rfl, Nat.le_of_ble_eq_true rfl⟩) e1 rfl rfl (Nat.le_of_ble_eq_true rfl) dL_law_1189 ?_
  refine l_am B dL_law_1192 ?_
  refine l_callM (As := []) (st := [.int r]) B (k_X9_fault l D cA aM B.2.2.2.2.2.2.2.2.2.2.2.2.1 M) (cwV 0 B.2.2.2.2.2.1 gL_law_X9_fault rfl rfl rfl (by decide +kernel) ⟨Nat.le_of_ble_eq_true rfl, Nat.le_of_ble_eq_true rfl⟩) e2 rfl rfl (Nat.le_of_ble_eq_true rfl) dL_law_1193 ?_
  exact l_eq B dL_law_1196 (by decide) (next A1 M1 hR1)
set_option maxHeartbeats 4000000 in
set_option maxRecDepth 100000 in
theorem law_case_31 (B : Lx p s m meth c D cA aX aM b L xs) {n : Nat} (hn : n ≤ 64) (hR : Rel n A M) {v1 : Int32} (h1 : vp_in (x3 + 1) L ∧ xs (x3 + 1).toNatClampNeg = v1) (next : ∀ A1 M1 : Mem, Rel (n + 1) A1 M1 → LG p l e s m below meth c D cA aX aM b A1 M1 x3 1224 []) : LG p l e s m below meth c D cA aX aM b A M x3 1201 [] := by
  obtain ⟨r, A1, M1, e1, e2, hR1⟩ := sim_many hR hn v1
  refine l_ax B dL_law_1201 ?_
  refine l_arg (k := 1) B dL_law_1202 dL_law_1203 dL_law_1204 dL_law_1205 dL_law_1206 (by decide) h1 ?_
  refine l_callX (As := [.int v1]) (st := []) B (k_X8_many l D cA aX B.2.2.2.2.2.2.2.2.2.2.2.1 v1 A) (cwV 1 B.2.2.2.2.2.1 gL_law_X8_many rfl rfl rfl (by decide +kernel) ⟨Nat.le_of_ble_eq_true rfl, Nat.le_of_ble_eq_true rfl⟩) e1 rfl rfl (Nat.le_of_ble_eq_true rfl) dL_law_1207 ?_
  refine l_am B dL_law_1210 ?_
  refine l_arg (k := 1) B dL_law_1211 dL_law_1212 dL_law_1213 dL_law_1214 dL_law_1215 (by decide) h1 ?_
  refine l_callM (As := [.int v1]) (st := [.int r]) B (k_X9_many l D cA aM B.2.2.2.2.2.2.2.2.2.2.2.2.1 v1 M) (cwV 1 B.2.2.2.2.2.1 gL_law_X9_many rfl rfl rfl (by decide +kernel) ⟨Nat.le_of_ble_eq_true rfl, Nat.le_of_ble_eq_true rfl⟩) e2 rfl rfl (Nat.le_of_ble_eq_true rfl) dL_law_1216 ?_
  exact l_eq B dL_law_1219 (by decide) (next A1 M1 hR1)
end LC3