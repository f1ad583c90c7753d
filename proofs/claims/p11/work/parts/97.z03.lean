set_option maxRecDepth 100000 in
theorem zk1 : kOk lw_tbl zNs zCl zP false zM1 := kM_ok (pc := 371) (pi := 110) (hs := [372, 373]) (ps := [[], [], [], [], [376, 375, 374]]) (by decide +kernel)
set_option maxRecDepth 100000 in
theorem zk2 : kOk lw_tbl zNs zCl zP false zM2 := kM_ok (pc := 472) (pi := 110) (hs := [372, 373]) (ps := [[], [], [], [475, 474, 473]]) (by decide +kernel)
set_option maxRecDepth 100000 in
theorem zk3 : kOk lw_tbl zNs zCl zP false zM3 := kM_ok (pc := 671) (pi := 110) (hs := [672, 372]) (ps := [[], [], [675, 674, 673]]) (by decide +kernel)
set_option maxRecDepth 100000 in
theorem zk4 : kOk lw_tbl zNs zCl zP false zM4 := kM_ok (pc := 698) (pi := 110) (hs := [672]) (ps := [[], [], [701, 700, 699]]) (by decide +kernel)
set_option maxRecDepth 100000 in
theorem zk5 : kOk lw_tbl zNs zCl zP false zM5 := kM_ok (pc := 739) (pi := 110) (hs := [672]) (ps := [[], [], [], [], [], [742, 741, 740]]) (by decide +kernel)
set_option maxRecDepth 100000 in
theorem zk6 : kOk lw_tbl zNs zCl zP false zM6 := kM_ok (pc := 1023) (pi := 110) (hs := [672, 372]) (ps := [[], [], [], [], [], [], [1026, 1025, 1024]]) (by decide +kernel)
set_option maxRecDepth 100000 in
theorem zk7 : kOk lw_tbl zNs zCl zP false zM7 := kM_ok (pc := 1063) (pi := 110) (hs := [672, 372]) (ps := [[], [], [], [], [], [], [], [1066, 1065, 1064]]) (by decide +kernel)
set_option maxRecDepth 100000 in
theorem zk8 : kOk lw_tbl zNs zCl zP false zM8 := kM_ok (pc := 1086) (pi := 110) (hs := [672]) (ps := [[], [], [1089, 1088, 1087]]) (by decide +kernel)
set_option maxRecDepth 100000 in
theorem zk9 : kOk lw_tbl zNs zCl zP false zM9 := kM_ok (pc := 1094) (pi := 110) (hs := [672]) (ps := [[], [], [], [], [], [1097, 1096, 1095]]) (by decide +kernel)
set_option maxRecDepth 100000 in
theorem zk10 : kOk lw_tbl zNs zCl zP false zM10 := kM_ok (pc := 1201) (pi := 110) (hs := [672]) (ps := [[], [], [], [], [1204, 1203, 1202]]) (by decide +kernel)
set_option maxRecDepth 100000 in
theorem zk11 : kOk lw_tbl zNs zCl zP false zM11 := kM_ok (pc := 1209) (pi := 110) (hs := [672, 372]) (ps := [[], [], [], [], [], [], [1212, 1211, 1210]]) (by decide +kernel)
set_option maxRecDepth 100000 in
theorem zk12 : kOk lw_tbl zNs zCl zP false zM12 := kM_ok (pc := 1223) (pi := 110) (hs := [672]) (ps := [[], [], [], [], [], [], [1226, 1225, 1224]]) (by decide +kernel)
set_option maxRecDepth 100000 in
theorem zk13 : kOk lw_tbl zNs zCl zP false zM13 := kM_ok (pc := 1231) (pi := 110) (hs := [672]) (ps := [[], [], [], [], [], [1234, 1233, 1232]]) (by decide +kernel)
set_option maxRecDepth 100000 in
theorem zk14 : kOk lw_tbl zNs zCl zP false zM14 := kM_ok (pc := 1247) (pi := 110) (hs := [372]) (ps := [[], [], [], [], [1250, 1249, 1248]]) (by decide +kernel)
set_option maxRecDepth 100000 in
theorem zk15 : kOk lw_tbl zNs zCl zP false zM15 := kM_ok (pc := 1263) (pi := 110) (hs := [672]) (ps := [[], [], [], [], [], [1266, 1265, 1264]]) (by decide +kernel)
set_option maxRecDepth 100000 in
theorem zk16 : kOk lw_tbl zNs zCl zP false zM16 := kM_ok (pc := 139) (pi := 111) (hs := []) (ps := [[], [140, 141, 142], [], [143, 144, 112], [], [], [146, 145], [339], [], [157, 158, 113], [], [160, 159], [340], [], [], [177], [341], [], [], [196], [342], [], [], [], [], [342], [], [], [], [342], [], [], [], [], [], [], [177, 179, 114], [], [181, 0], [345], [], [197, 198, 115], [], [], [339], [], [340], [], [345], [200, 199], [343], [], [299, 300, 119], [], [], [340], [], [345], [302, 301], [344]]) (by decide +kernel)
set_option maxRecDepth 100000 in
theorem zk17 : kOk lw_tbl zNs zCl zP false zM17 := kM_ok (pc := 147) (pi := 112) (hs := []) (ps := [[], [148, 141, 142], [], [], [], [], [], [], [156], [149]]) (by decide +kernel)
set_option maxRecDepth 100000 in
theorem zk18 : kOk lw_tbl zNs zCl zP false zM18 := kM_ok (pc := 161) (pi := 113) (hs := []) (ps := [[], [162, 141, 142], [], [], [163], [166], [], [], [176], [167], [], [], [], [], [166], [], [], [], [166], [], [163, 144, 112], [], [], [146, 165]]) (by decide +kernel)
