set_option maxRecDepth 100000 in
theorem zk170_1 : kQ lw_tbl zNs zCl zP zM170 100 zC170_1 := kQ_of (hs := []) (ps := [[196], [1306], [], [], [196], [1312], []]) (by decide +kernel)
set_option maxRecDepth 100000 in
theorem zk170 : kOk lw_tbl zNs zCl zP false zM170 := kM_of (pc := 1273) (pi := 120) (by decide +kernel) (kQ_app (n := 100) rfl zk170_0 (zk170_1))
set_option maxRecDepth 100000 in
theorem zk171 : kOk lw_tbl zNs zCl zP false zM171 := kM_ok (pc := 1414) (pi := 120) (hs := []) (ps := [[], [1275]]) (by decide +kernel)
set_option maxRecDepth 100000 in
theorem zk172 : kOk lw_tbl zNs zCl zP false zM172 := kM_ok (pc := 1418) (pi := 120) (hs := []) (ps := [[], [], [], [], [], [], [], [], [], [], [], [], [], [], [], [], [], [], [], [], [], [], [], [], [], [], [], [], [], [], [], [], [], [], [], [], [], [], [], [], [], [], [], [], [], [], [], [], [], [1276], [], [], [], [], [], [], [], [1275], [], [1275], [], [], [], [], [], [], [], [], [], [], [], [], [], [], [], [], [], [], [], [], [], [1277], [], [1276], [], [], [], [], [1276], [], [], [1276], [], [], [], [1276]]) (by decide +kernel)
set_option maxRecDepth 100000 in
theorem zk173 : kOk lw_tbl zNs zCl zP false zM173 := kM_ok (pc := 1422) (pi := 120) (hs := []) (ps := [[], [], [1275], [], [], [1276]]) (by decide +kernel)
set_option maxRecDepth 100000 in
theorem zk174 : kOk lw_tbl zNs zCl zP false zM174 := kM_ok (pc := 1426) (pi := 120) (hs := []) (ps := [[], [], [58, 1429, 1427], [], [], [], [1277], [], [], [1276], [60, 1437, 1435], [], [], [], [], [1278], [], [], [], [], [], [1275], [], [1275], [], [], [], [], [], [1278], [61, 1444, 1442], [], [], [1278], [], [], [1278], [], [1278]]) (by decide +kernel)
set_option maxRecDepth 100000 in
theorem zk175 : kOk lw_tbl zNs zCl zP false zM175 := kM_ok (pc := 1430) (pi := 120) (hs := []) (ps := [[], [1276], [], [], [], [1276], [], [], [], [], [59, 1433, 1431], [], [], [], [], [1276], [], [], [59, 1433, 1431], [], [], [], [], [], [], [], [], [], [], [1276], [], [], [], [], [1277]]) (by decide +kernel)
set_option maxRecDepth 100000 in
theorem zk176 : kOk lw_tbl zNs zCl zP false zM176 := kM_ok (pc := 1434) (pi := 120) (hs := []) (ps := [[], [], [1276], [], [], [1277]]) (by decide +kernel)
set_option maxRecDepth 100000 in
theorem zk177 : kOk lw_tbl zNs zCl zP false zM177 := kM_ok (pc := 1438) (pi := 120) (hs := []) (ps := [[], [], [], [], [1278], [], [], [1279], [], [], [], [], [], [], [], [], [], [], [], [], [], [], [], [], [1280], [], [], [], [], [], [], [1440, 1439], [], [], [], [], [], [1440, 1439]]) (by decide +kernel)
set_option maxRecDepth 100000 in
theorem zk178 : kOk lw_tbl zNs zCl zP false zM178 := kM_ok (pc := 1441) (pi := 120) (hs := []) (ps := []) (by decide +kernel)
set_option maxRecDepth 100000 in
theorem zk179 : kOk lw_tbl zNs zCl zP false zM179 := kM_ok (pc := 1445) (pi := 120) (hs := []) (ps := [[], [1279], [], [], [1276], [], [], [], [], [], [1276], [], [], [1280], [], [], [], [], [], [], [1277]]) (by decide +kernel)
set_option maxRecDepth 100000 in
theorem zk180 : kOk lw_tbl zNs zCl zP false zM180 := kM_ok (pc := 1449) (pi := 120) (hs := []) (ps := [[], [58, 1429, 1427], [], [], [], [], [], [], [], [], [], [], [], [1277], [], [], [1276], [60, 1437, 1435], [], [], [], [], [62, 1452, 1450], [], [], [], [], [], [], [], [], [], [], [], [], [], [1275], [], [1275], [], [], [], [61, 1444, 1442]]) (by decide +kernel)
set_option maxRecDepth 100000 in
theorem zk181 : kOk lw_tbl zNs zCl zP false zM181 := kM_ok (pc := 1453) (pi := 120) (hs := []) (ps := [[], [], [], [], [1278]]) (by decide +kernel)
set_option maxRecDepth 100000 in
theorem zk182_0 : kQ lw_tbl zNs zCl zP zM182 0 zC182_0 := kQ_of (hs := []) (ps := [[], [], [], [62, 1452, 1450], [], [], [], [], [1275], [], [1275], [], [], [], [], [], [], [], [], [1281], [], [], [1281], [], [], [], [], [1282], [], [], [], [], [], [], [], [], [], [1281], [], [], [], [], [1282], [], [], [1282], [], [], [], [], [], [1282], [], [], [], [], [], [], [1282], [], [], [], [], [], [], [], [], [], [], [], [], [1283], [], [], [], [], [], [1286], [], [], [], [], [], [], [63, 1460, 1458], [], [1286], [], [], [1286], [], [], [], [], [], [1286], [], [], [], []]) (by decide +kernel)
