set_option maxRecDepth 100000 in
theorem zk0_6 : kQ lw_tbl zNs zCl zP zM0 240 zC0_6 := kQ_of (hs := []) (ps := [[], [], [1655, 1654, 1653], [], [], [], [], [], [], [], [], [], [], [], [], [], [1093, 1092], [], [], [], [], [], [], [], [], [], [], [], [], [1659, 1658, 1657], [], [], [1413, 1412, 1411], [], [], [], [], [], [], []]) (by decide +kernel)
set_option maxRecDepth 100000 in
theorem zk0_7 : kQ lw_tbl zNs zCl zP zM0 280 zC0_7 := kQ_of (hs := []) (ps := [[], [], [], [], [], [], [], [], [], [], [], [], [], [], [], [], [1200, 1199], [], [], [], [], [], [], [], [1702, 1701, 1700], [], [], [], [], [], [], [], [], [], [], [], [], [], [], []]) (by decide +kernel)
set_option maxRecDepth 100000 in
theorem zk0_8 : kQ lw_tbl zNs zCl zP zM0 320 zC0_8 := kQ_of (hs := []) (ps := [[], [], [], [], [1208, 1207], [], [], [], [], [], [], [], [], [], [], [], [], [], [], [], [], [], [1706, 1705, 1704], [], [], [], [], [], [], [], [], [], [], [], [], [], [], [], [], []]) (by decide +kernel)
set_option maxRecDepth 100000 in
theorem zk0_9 : kQ lw_tbl zNs zCl zP zM0 360 zC0_9 := kQ_of (hs := []) (ps := [[], [], [1222, 1221], [], [], [], [], [], [], [], [], [], [], [], [], [], [], [], [], [], [1714, 1713, 1712], [], [], [], [], [], [], [], [], [], [], [], [], [], [], [1230, 1229], [], [], [], []]) (by decide +kernel)
set_option maxRecDepth 100000 in
theorem zk0_10 : kQ lw_tbl zNs zCl zP zM0 400 zC0_10 := kQ_of (hs := []) (ps := [[], [], [], [], [], [], [], [], [1722, 1721, 1720], [], [], [], [], [], [], [], [], [], [1246, 1245], [], [], [], [], [], [], [], [1726, 1725, 1724], [], [], [], [], [], [], [], [], [], [], [], [], []]) (by decide +kernel)
set_option maxRecDepth 100000 in
theorem zk0_11 : kQ lw_tbl zNs zCl zP zM0 440 zC0_11 := kQ_of (hs := []) (ps := [[], [1262, 1261], [], [], [], [], [], [], [], [], [], [], [], [], [1730, 1729, 1728], [], [], [], [], [], []]) (by decide +kernel)
set_option maxRecDepth 100000 in
theorem zk0 : kOk lw_tbl zNs zCl zP true zM0 := kM_of (pc := 0) (pi := 110) (by decide +kernel) (kQ_app (n := 40) rfl zk0_0 (kQ_app (n := 40) rfl zk0_1 (kQ_app (n := 40) rfl zk0_2 (kQ_app (n := 40) rfl zk0_3 (kQ_app (n := 40) rfl zk0_4 (kQ_app (n := 40) rfl zk0_5 (kQ_app (n := 40) rfl zk0_6 (kQ_app (n := 40) rfl zk0_7 (kQ_app (n := 40) rfl zk0_8 (kQ_app (n := 40) rfl zk0_9 (kQ_app (n := 40) rfl zk0_10 (zk0_11))))))))))))
