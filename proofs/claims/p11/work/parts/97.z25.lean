set_option maxRecDepth 100000 in
theorem zk245 : kOk lw_tbl zNs zCl zP false zM245 := kM_ok (pc := 1711) (pi := 120) (hs := []) (ps := [[], [], [], [1284], [], [], [], [], [1285], [], [], [], [], [1286], [], [], [], [], [1287], [], [], [], [], [1288], [], [], [], [], [1289], [], [], [], [], [1290], [], [], [], [], [1291], [], [], [], [], [1292]]) (by decide +kernel)
set_option maxRecDepth 100000 in
theorem zk246 : kOk lw_tbl zNs zCl zP false zM246 := kM_ok (pc := 1715) (pi := 120) (hs := []) (ps := [[], [], [], [97, 1634, 1632], [], [], [], [], [], [1283], [], [], [], [], [], [], [1275], [], [1275], [], [], [], [], [], [], [], [], [], [], [], [109, 1718, 1716]]) (by decide +kernel)
set_option maxRecDepth 100000 in
theorem zk247 : kOk lw_tbl zNs zCl zP false zM247 := kM_ok (pc := 1719) (pi := 120) (hs := []) (ps := [[], [1284], [], [], [], [], [], [], [], [], [], [], [], [], [], [], [], [], [], [], [], [], [], [], [1293], [], [], [], [], [], [], [], [], [], [1294], [], [], [], [], [1295], [], [], [], [], [], [], [], [], [], [], [], [], [], [1294], [], [], [], [], [], [], [], [], [], [1295], [], [], [], [], [], [], [], [1295]]) (by decide +kernel)
set_option maxRecDepth 100000 in
theorem zk248_0 : kQ lw_tbl zNs zCl zP zM248 0 zC248_0 := kQ_of (hs := []) (ps := [[], [], [], [97, 1634, 1632], [], [], [], [97, 1634, 1632], [], [], [], [], [1275], [], [1275], [], [], [1283], [], [], [], [1283], [], [], [], [], [], [], [], [], [], [], [], [1283], [], [], [], [], [], [], [], [], [], [], [], [], [], [], [], [], [], [], [], [], [], [], [], [], [], [108, 1710, 1708], [], [], [], [108, 1710, 1708], [], [], [], [], [], [], [], [], [], [], [], [], [], [], [], [109, 1718, 1716], [], [], [], [], [], [109, 1718, 1716], [], [], [], [], [], [109, 1718, 1716], [], [], [], [], [109, 1718, 1716], [], [], []]) (by decide +kernel)
set_option maxRecDepth 100000 in
theorem zk248_1 : kQ lw_tbl zNs zCl zP zM248 100 zC248_1 := kQ_of (hs := []) (ps := [[], [], [], [], [], [], [], []]) (by decide +kernel)
set_option maxRecDepth 100000 in
theorem zk248 : kOk lw_tbl zNs zCl zP false zM248 := kM_of (pc := 1723) (pi := 120) (by decide +kernel) (kQ_app (n := 100) rfl zk248_0 (zk248_1))
set_option maxRecDepth 100000 in
theorem zk249 : kOk lw_tbl zNs zCl zP false zM249 := kM_ok (pc := 1727) (pi := 120) (hs := []) (ps := [[], [], [], [], [], [], [], [], [], [1275], [], [1275], [], [], [], [], [], [], [1278], [], [], [], [], [], [1281], [], [], [], [], [], [], [1282], [], [], [], [], [], [], [], [], [], [], [], [], [], [], [], [1281]]) (by decide +kernel)
set_option maxRecDepth 100000 in
theorem zk250 : kOk lw_tbl zNs zCl zP false zM250 := kM_ok (pc := 1731) (pi := 120) (hs := []) (ps := [[], [], [], [62, 1452, 1450], [], [], [], [], [1275], [], [1275], [], [], [], [], [], [], [], [1279], [], [], [], [], [], [], [1280]]) (by decide +kernel)
set_option maxRecDepth 100000 in
theorem zk251 : kOk lw_tbl zNs zCl zP false zM251 := kM_ok (pc := 506) (pi := 127) (hs := []) (ps := [[], [], [], [509, 508, 507]]) (by decide +kernel)
set_option maxRecDepth 100000 in
theorem zk252 : kOk lw_tbl zNs zCl zP false zM252 := kM_ok (pc := 510) (pi := 127) (hs := []) (ps := [[], [513, 512, 511], [], [], [1735], [], [], [], [519, 518, 517], [526, 525], [], [], [1735], [], [], [], [519, 518, 517]]) (by decide +kernel)
set_option maxRecDepth 100000 in
theorem zk253 : kOk lw_tbl zNs zCl zP false zM253 := kM_ok (pc := 514) (pi := 127) (hs := []) (ps := [[405], [], [], [1734]]) (by decide +kernel)
set_option maxRecDepth 100000 in
theorem zk254 : kOk lw_tbl zNs zCl zP false zM254 := kM_ok (pc := 520) (pi := 127) (hs := []) (ps := [[], [1735], [], [], [523, 522, 521]]) (by decide +kernel)
