set_option maxRecDepth 100000 in
theorem zk142 : kOk lw_tbl zNs zCl zP false zM142 := kM_ok (pc := 1114) (pi := 119) (hs := []) (ps := [[], [310], [], [], [720, 719, 1115], [], [], [], [44, 1118, 1116], [], [], [], [45, 1126, 1124], [], [], [], [310], [], [], [720, 719, 1115], [948, 0], [47, 1135, 1133], [], [], [], [310], [], [], [720, 719, 1115], [], [], [1029], [], [1030], [47, 1135, 1133], [], [], [], [48, 1143, 1141], [], [], [], [44, 1118, 1116], [], [], [42, 1109, 1107], [], [], [], [42, 1109, 1107]]) (by decide +kernel)
set_option maxRecDepth 100000 in
theorem zk143 : kOk lw_tbl zNs zCl zP false zM143 := kM_ok (pc := 1119) (pi := 119) (hs := []) (ps := [[], [], [], [], [310], [], [], [720, 719, 1115], [], [], [], [310], [], [], [1122, 1121, 1120], [42, 1109, 1107]]) (by decide +kernel)
set_option maxRecDepth 100000 in
theorem zk144 : kOk lw_tbl zNs zCl zP false zM144 := kM_ok (pc := 1123) (pi := 114) (hs := []) (ps := [[], [], [], [], [], [], [720, 719, 718], [], [], [], [], [], [], [], [], [187], [], [], [], [720, 719, 718], [], [], [492, 491, 937]]) (by decide +kernel)
set_option maxRecDepth 100000 in
theorem zk145 : kOk lw_tbl zNs zCl zP false zM145 := kM_ok (pc := 1127) (pi := 119) (hs := []) (ps := [[], [], [42, 1109, 1107], [], [], [], [], [310], [], [], [720, 719, 1115], [], [], [], [310], [], [], [1122, 1121, 1120], [], [46, 1130, 1128], [], [], [], [], [42, 1109, 1107]]) (by decide +kernel)
set_option maxRecDepth 100000 in
theorem zk146 : kOk lw_tbl zNs zCl zP false zM146 := kM_ok (pc := 1131) (pi := 119) (hs := []) (ps := [[], [], [42, 1109, 1107], [], [], [], [], [], [42, 1109, 1107]]) (by decide +kernel)
set_option maxRecDepth 100000 in
theorem zk147 : kOk lw_tbl zNs zCl zP false zM147 := kM_ok (pc := 1136) (pi := 119) (hs := []) (ps := [[], [], [], [], [519, 518, 1137], [], [], [], [], [645, 644, 1138], [42, 1109, 1107]]) (by decide +kernel)
set_option maxRecDepth 100000 in
theorem zk148 : kOk lw_tbl zNs zCl zP false zM148 := kM_ok (pc := 1144) (pi := 119) (hs := []) (ps := [[], [310], [], [], [720, 719, 1115], [], [], [310], [], [], [720, 719, 1115], [], [], [], [], [], [], [49, 1147, 1145], [], [], [310], [], [], [720, 719, 1115], [], [310], [], [], [720, 719, 1115], [], [50, 1159, 1157], [], [310], [], [], [720, 719, 1115], [], [], [], [], [42, 1109, 1107], [], [], [310], [], [], [720, 719, 1115], [], [310], [], [], [720, 719, 1115], [], [], [], [50, 1159, 1157]]) (by decide +kernel)
set_option maxRecDepth 100000 in
theorem zk149 : kOk lw_tbl zNs zCl zP false zM149 := kM_ok (pc := 1148) (pi := 119) (hs := []) (ps := [[], [305], [], [1151, 1150, 1149], [], [], [], [], [], [42, 1109, 1107], [], [], [], [], [], [], [305], [], [], [1155, 1154, 1153], [], [], [], [], [305], [], [], [1155, 1154, 1153], [], [46, 1130, 1128], [], [], [], [], [], [], [42, 1109, 1107], [], [], [42, 1109, 1107]]) (by decide +kernel)
set_option maxRecDepth 100000 in
theorem zk150 : kOk lw_tbl zNs zCl zP false zM150 := kM_ok (pc := 1152) (pi := 113) (hs := []) (ps := [[], [], [606, 605, 604], [], [], [167]]) (by decide +kernel)
set_option maxRecDepth 100000 in
theorem zk151 : kOk lw_tbl zNs zCl zP false zM151 := kM_ok (pc := 1156) (pi := 113) (hs := []) (ps := [[], [], [606, 605, 604], [], [], [166], [], [], [], [492, 491, 502]]) (by decide +kernel)
set_option maxRecDepth 100000 in
theorem zk152 : kOk lw_tbl zNs zCl zP false zM152 := kM_ok (pc := 1160) (pi := 119) (hs := []) (ps := [[], [], [], [], [], [], [42, 1109, 1107], [], [], [51, 1163, 1161], [], [], [], [], [], [], [42, 1109, 1107], [], [], [52, 1167, 1165]]) (by decide +kernel)
set_option maxRecDepth 100000 in
theorem zk153 : kOk lw_tbl zNs zCl zP false zM153 := kM_ok (pc := 1164) (pi := 119) (hs := []) (ps := [[], [], [], [], [], [], [], [], [], [], [], [], [], [], [], [], [], [42, 1109, 1107], [], [], [], [], [], [], [], [], [], [], [], [], [], [42, 1109, 1107], [], [], [], [], [], [], [42, 1109, 1107]]) (by decide +kernel)
set_option maxRecDepth 100000 in
theorem zk154 : kOk lw_tbl zNs zCl zP false zM154 := kM_ok (pc := 1168) (pi := 119) (hs := []) (ps := [[1059], [], [], [], [], [], [], [], [], [], [], [], [], [], [], [42, 1109, 1107]]) (by decide +kernel)
set_option maxRecDepth 100000 in
theorem zk155 : kOk lw_tbl zNs zCl zP false zM155 := kM_ok (pc := 1173) (pi := 119) (hs := []) (ps := [[], [310], [], [], [720, 719, 1115], [], [], [], [310], [], [], [720, 719, 1115], [], [], [], [54, 1176, 1174], [], [], [], [], [], [], [], [1068], [], [], [1180, 1179], [47, 1135, 1133], [], [], [], [], [55, 1196, 1194], [41, 1105, 1103]]) (by decide +kernel)
