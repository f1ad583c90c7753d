set_option maxRecDepth 100000 in
theorem zk156 : kOk lw_tbl zNs zCl zP false zM156 := kM_ok (pc := 1177) (pi := 119) (hs := []) (ps := [[], [], [], [], [], [42, 1109, 1107], [], [], [], [], [], [], [42, 1109, 1107], [], [309], [], [], [], [309], [], [], [309], [], [308], [], [309], [], [], [], [], [42, 1109, 1107]]) (by decide +kernel)
set_option maxRecDepth 100000 in
theorem zk157 : kOk lw_tbl zNs zCl zP false zM157 := kM_ok (pc := 1181) (pi := 119) (hs := []) (ps := [[], [], [1072], [], [1073], [], [1074], [], [1075], [], [1076], [], [1077], [], [1078], [], [1079], [], [1080], [], [1081], [], [1082], [], [1083]]) (by decide +kernel)
set_option maxRecDepth 100000 in
theorem zk158 : kOk lw_tbl zNs zCl zP false zM158 := kM_ok (pc := 1197) (pi := 119) (hs := []) (ps := [[], [], [], [], [], [], [839, 0], [], [], [310], [], [311], [], [720, 719, 1115], [839, 0]]) (by decide +kernel)
set_option maxRecDepth 100000 in
theorem zk159 : kOk lw_tbl zNs zCl zP false zM159 := kM_ok (pc := 1205) (pi := 111) (hs := []) (ps := [[], [], [1, 709, 707], [], [], [], [568], [], [981], [], [], [], [880, 879, 1206]]) (by decide +kernel)
set_option maxRecDepth 100000 in
theorem zk160 : kOk lw_tbl zNs zCl zP false zM160 := kM_ok (pc := 1213) (pi := 111) (hs := []) (ps := [[], [], [1, 709, 707], [], [], [], [], [], [1216, 1215, 1214], [], [568], [], [1108], [], [], [], [], [], [], [], [268], [], [1109], [], [], [], [], [], [720, 719, 1220]]) (by decide +kernel)
set_option maxRecDepth 100000 in
theorem zk161 : kOk lw_tbl zNs zCl zP false zM161 := kM_ok (pc := 1217) (pi := 114) (hs := []) (ps := [[], [], [], [], [188]]) (by decide +kernel)
set_option maxRecDepth 100000 in
theorem zk162 : kOk lw_tbl zNs zCl zP false zM162 := kM_ok (pc := 1227) (pi := 111) (hs := []) (ps := [[], [], [1, 709, 707], [], [], [], [], [], [1216, 1215, 1214], [], [568], [], [1108], [], [], [], [], [], [1122, 1121, 1228]]) (by decide +kernel)
set_option maxRecDepth 100000 in
theorem zk163 : kOk lw_tbl zNs zCl zP false zM163 := kM_ok (pc := 1235) (pi := 111) (hs := []) (ps := [[], [], [1, 709, 707], [], [], [], [1, 709, 707], [], [], [], [], [], [568], [], [981], [], [], [], [], [1238, 1237, 1236]]) (by decide +kernel)
set_option maxRecDepth 100000 in
theorem zk164 : kOk lw_tbl zNs zCl zP false zM164 := kM_ok (pc := 1239) (pi := 114) (hs := []) (ps := [[], [188], [], [188], [], [], [], [], [], [], [], [], [], [188], [], [], [], [], [], [], [56, 1242, 1240]]) (by decide +kernel)
set_option maxRecDepth 100000 in
theorem zk165 : kOk lw_tbl zNs zCl zP false zM165 := kM_ok (pc := 1243) (pi := 114) (hs := []) (ps := [[], [], [], [720, 719, 718], [], [], [], [720, 719, 718], [], [], [], [], [], [], [], [], [], [], [], [], [], [], [], [720, 719, 718], [], [], [], [720, 719, 718], [], [], [], [], [], [], [], [], [], [], [], [], [], [720, 719, 718], [], [], [], [], [], [], [1122, 1121, 1244], [], [], [], [1122, 1121, 1244]]) (by decide +kernel)
set_option maxRecDepth 100000 in
theorem zk166 : kOk lw_tbl zNs zCl zP false zM166 := kM_ok (pc := 1251) (pi := 111) (hs := []) (ps := [[], [], [], [], [], [268], [], [1142], [], [], [], [], [], [340], [1255, 1254, 1253], [], [], [], [], [], [57, 1259, 1257], [], [], [342]]) (by decide +kernel)
set_option maxRecDepth 100000 in
theorem zk167 : kOk lw_tbl zNs zCl zP false zM167 := kM_ok (pc := 1256) (pi := 113) (hs := []) (ps := [[], [168]]) (by decide +kernel)
set_option maxRecDepth 100000 in
theorem zk168 : kOk lw_tbl zNs zCl zP false zM168 := kM_ok (pc := 1260) (pi := 111) (hs := []) (ps := [[], [], [], [], [], [], [342], [], [], [], [], [342]]) (by decide +kernel)
set_option maxRecDepth 100000 in
theorem zk169 : kOk lw_tbl zNs zCl zP false zM169 := kM_ok (pc := 1267) (pi := 111) (hs := []) (ps := [[], [340], [], [606, 605, 677], [], [568], [], [577], [], [], [], [340], [], [], [1155, 1154, 1268]]) (by decide +kernel)
set_option maxRecDepth 100000 in
theorem zk170_0 : kQ lw_tbl zNs zCl zP zM170 0 zC170_0 := kQ_of (hs := []) (ps := [[], [1274, 141, 142], [], [], [196], [1277], [], [], [196], [1279], [], [], [196], [1280], [], [], [176], [1281], [], [], [196], [1282], [], [], [196], [1283], [], [], [196], [1284], [], [], [196], [1285], [], [], [196], [1286], [], [], [196], [1287], [], [], [196], [1288], [], [], [196], [1289], [], [], [196], [1290], [], [], [196], [1291], [], [], [196], [1292], [], [], [196], [1293], [], [], [196], [1294], [], [], [196], [1295], [], [], [196], [1297], [], [], [196], [1298], [], [], [196], [1299], [], [], [196], [1300], [], [], [196], [1303], [], [], [196], [1305], [], []]) (by decide +kernel)
