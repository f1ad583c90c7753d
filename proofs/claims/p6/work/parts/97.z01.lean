section
set_option maxRecDepth 100000 in
theorem zk0_0 : kQ lw_tbl zNs zCl zP zM0 0 zC0_0 := kQ_of (hs := []) (ps := [[135, 136, 111], [], [138, 137], [], [1269, 1270, 120], [], [1272, 1271], [], [], [1732], [], [], [], [], [], [], [], [], [], [], [], [], [], [], [], [], [], [], [], [], [], [], [370, 369], [], [], [], [], [], [], []]) (by decide +kernel)
set_option maxRecDepth 100000 in
theorem zk0_1 : kQ lw_tbl zNs zCl zP zM0 40 zC0_1 := kQ_of (hs := []) (ps := [[1417, 1416, 1415], [], [], [], [363, 362, 361], [], [1421, 1420, 1419], [], [], [], [471, 470], [], [], [1425, 1424, 1423], [], [], [], [], [], [], [], [], [670, 669], [], [], [], [], [], [], [], [1448, 1447, 1446], [], [], [], [], [], [], [], [697, 696], []]) (by decide +kernel)
set_option maxRecDepth 100000 in
theorem zk0_2 : kQ lw_tbl zNs zCl zP zM0 80 zC0_2 := kQ_of (hs := []) (ps := [[], [], [], [], [], [], [1456, 1455, 1454], [], [1413, 1412, 1411], [], [], [], [], [], [], [], [], [], [], [], [], [], [], [], [], [], [738, 737], [], [], [], [], [], [], [], [], [], [], [], [], [1464, 1463, 1462]]) (by decide +kernel)
set_option maxRecDepth 100000 in
theorem zk0_3 : kQ lw_tbl zNs zCl zP zM0 120 zC0_3 := kQ_of (hs := []) (ps := [[], [], [], [], [], [], [], [], [], [], [], [], [], [], [], [], [], [], [], [], [], [], [], [], [], [], [], [], [1022, 1021], [], [], [], [], [], [], [], [], [], [], []]) (by decide +kernel)
set_option maxRecDepth 100000 in
theorem zk0_4 : kQ lw_tbl zNs zCl zP zM0 160 zC0_4 := kQ_of (hs := []) (ps := [[], [], [], [], [], [], [], [], [], [], [], [], [], [], [], [], [1629, 1628, 1627], [], [], [], [], [], [], [], [], [], [], [], [], [], [], [], [], [], [], [], [], [], [], []]) (by decide +kernel)
set_option maxRecDepth 100000 in
theorem zk0_5 : kQ lw_tbl zNs zCl zP zM0 200 zC0_5 := kQ_of (hs := []) (ps := [[], [], [], [], [1062, 1061], [], [], [], [], [], [], [], [], [], [], [], [], [], [], [], [], [], [], [], [], [], [], [], [], [], [], [1645, 1644, 1643], [], [], [], [], [], [], [], []]) (by decide +kernel)
end
section
set_option maxRecDepth 100000 in
theorem zk0_6 : kQ lw_tbl zNs zCl zP zM0 240 zC0_6 := kQ_of (hs := []) (ps := [[1085, 1084], [], [], [], [], [], [], [], [1655, 1654, 1653], [], [], [], [], [], [], [], [], [], [], [], [], [], [1093, 1092], [], [], [], [], [], [], [], [], [], [], [], [], [1659, 1658, 1657], [], [], [], []]) (by decide +kernel)
set_option maxRecDepth 100000 in
theorem zk0_7 : kQ lw_tbl zNs zCl zP zM0 280 zC0_7 := kQ_of (hs := []) (ps := [[], [], [], [], [], [1200, 1199], [], [], [], [], [], [], [], [1702, 1701, 1700], [], [], [], [], [], [], [], [], [], [], [], [], [], [], [], [], [], [], [], [1208, 1207], [], [], [], [], [], []]) (by decide +kernel)
set_option maxRecDepth 100000 in
theorem zk0_8 : kQ lw_tbl zNs zCl zP zM0 320 zC0_8 := kQ_of (hs := []) (ps := [[], [], [], [], [], [], [], [], [], [], [], [1706, 1705, 1704], [], [], [], [], [], [], [], [], [], [], [], [], [], [], [], [], [], [], [], [1222, 1221], [], [], [], [], [], [], [], []]) (by decide +kernel)
set_option maxRecDepth 100000 in
theorem zk0_9 : kQ lw_tbl zNs zCl zP zM0 360 zC0_9 := kQ_of (hs := []) (ps := [[], [], [], [], [], [], [], [], [], [1714, 1713, 1712], [], [], [], [], [], [], [], [], [], [], [], [], [], [], [1230, 1229], [], [], [], [], [], [], [], [], [], [], [], [], [1722, 1721, 1720], [], []]) (by decide +kernel)
set_option maxRecDepth 100000 in
theorem zk0_10 : kQ lw_tbl zNs zCl zP zM0 400 zC0_10 := kQ_of (hs := []) (ps := [[], [], [], [], [], [], [], [1246, 1245], [], [], [], [], [], [], [], [1726, 1725, 1724], [], [], [], [], [], [], [], [], [], [], [], [], [], [], [1262, 1261], [], [], [], [], [], [], [], [], []]) (by decide +kernel)
set_option maxRecDepth 100000 in
theorem zk0_11 : kQ lw_tbl zNs zCl zP zM0 440 zC0_11 := kQ_of (hs := []) (ps := [[], [], [], [1730, 1729, 1728], [], [], [], [], [], []]) (by decide +kernel)
set_option maxRecDepth 100000 in
theorem zk0 : kOk lw_tbl zNs zCl zP true zM0 := kM_of (pc := 0) (pi := 110) (by decide +kernel) (kQ_app (n := 40) rfl zk0_0 (kQ_app (n := 40) rfl zk0_1 (kQ_app (n := 40) rfl zk0_2 (kQ_app (n := 40) rfl zk0_3 (kQ_app (n := 40) rfl zk0_4 (kQ_app (n := 40) rfl zk0_5 (kQ_app (n := 40) rfl zk0_6 (kQ_app (n := 40) rfl zk0_7 (kQ_app (n := 40) rfl zk0_8 (kQ_app (n := 40) rfl zk0_9 (kQ_app (n := 40) rfl zk0_10 (zk0_11))))))))))))
end
section
set_option maxRecDepth 100000 in
theorem zk1 : kOk lw_tbl zNs zCl zP false zM1 := kM_ok (pc := 371) (pi := 110) (hs := [372, 373]) (ps := [[], [], [], [], [376, 375, 374]]) (by decide +kernel)
set_option maxRecDepth 100000 in
theorem zk2 : kOk lw_tbl zNs zCl zP false zM2 := kM_ok (pc := 472) (pi := 110) (hs := [372, 373]) (ps := [[], [], [], [475, 474, 473]]) (by decide +kernel)
set_option maxRecDepth 100000 in
theorem zk3 : kOk lw_tbl zNs zCl zP false zM3 := kM_ok (pc := 671) (pi := 110) (hs := [672, 372]) (ps := [[], [], [675, 674, 673]]) (by decide +kernel)
set_option maxRecDepth 100000 in
theorem zk4 : kOk lw_tbl zNs zCl zP false zM4 := kM_ok (pc := 698) (pi := 110) (hs := [672]) (ps := [[], [], [701, 700, 699]]) (by decide +kernel)
set_option maxRecDepth 100000 in
theorem zk5 : kOk lw_tbl zNs zCl zP false zM5 := kM_ok (pc := 739) (pi := 110) (hs := [672]) (ps := [[], [], [], [], [], [742, 741, 740]]) (by decide +kernel)
set_option maxRecDepth 100000 in
theorem zk6 : kOk lw_tbl zNs zCl zP false zM6 := kM_ok (pc := 1023) (pi := 110) (hs := [672, 372]) (ps := [[], [], [], [], [], [], [1026, 1025, 1024]]) (by decide +kernel)
set_option maxRecDepth 100000 in
theorem zk7 : kOk lw_tbl zNs zCl zP false zM7 := kM_ok (pc := 1063) (pi := 110) (hs := [672, 372]) (ps := [[], [], [], [], [], [], [], [1066, 1065, 1064]]) (by decide +kernel)
set_option maxRecDepth 100000 in
theorem zk8 : kOk lw_tbl zNs zCl zP false zM8 := kM_ok (pc := 1086) (pi := 110) (hs := [672]) (ps := [[], [], [1089, 1088, 1087]]) (by decide +kernel)
set_option maxRecDepth 100000 in
theorem zk9 : kOk lw_tbl zNs zCl zP false zM9 := kM_ok (pc := 1094) (pi := 110) (hs := [672]) (ps := [[], [], [], [], [], [1097, 1096, 1095]]) (by decide +kernel)
set_option maxRecDepth 100000 in
theorem zk10 : kOk lw_tbl zNs zCl zP false zM10 := kM_ok (pc := 1201) (pi := 110) (hs := [672]) (ps := [[], [], [], [], [1204, 1203, 1202]]) (by decide +kernel)
set_option maxRecDepth 100000 in
theorem zk11 : kOk lw_tbl zNs zCl zP false zM11 := kM_ok (pc := 1209) (pi := 110) (hs := [672, 372]) (ps := [[], [], [], [], [], [], [1212, 1211, 1210]]) (by decide +kernel)
set_option maxRecDepth 100000 in
theorem zk12 : kOk lw_tbl zNs zCl zP false zM12 := kM_ok (pc := 1223) (pi := 110) (hs := [672]) (ps := [[], [], [], [], [], [], [1226, 1225, 1224]]) (by decide +kernel)
set_option maxRecDepth 100000 in
theorem zk13 : kOk lw_tbl zNs zCl zP false zM13 := kM_ok (pc := 1231) (pi := 110) (hs := [672]) (ps := [[], [], [], [], [], [1234, 1233, 1232]]) (by decide +kernel)
set_option maxRecDepth 100000 in
theorem zk14 : kOk lw_tbl zNs zCl zP false zM14 := kM_ok (pc := 1247) (pi := 110) (hs := [372]) (ps := [[], [], [], [], [1250, 1249, 1248]]) (by decide +kernel)
set_option maxRecDepth 100000 in
theorem zk15 : kOk lw_tbl zNs zCl zP false zM15 := kM_ok (pc := 1263) (pi := 110) (hs := [672]) (ps := [[], [], [], [], [], [1266, 1265, 1264]]) (by decide +kernel)
set_option maxRecDepth 100000 in
theorem zk16 : kOk lw_tbl zNs zCl zP false zM16 := kM_ok (pc := 139) (pi := 111) (hs := []) (ps := [[], [140, 141, 142], [], [143, 144, 112], [], [], [146, 145], [339], [], [157, 158, 113], [], [160, 159], [340], [], [], [177], [341], [], [], [196], [342], [], [], [], [], [342], [], [], [], [342], [], [], [], [], [], [], [177, 179, 114], [], [181, 0], [345], [], [197, 198, 115], [], [], [339], [], [340], [], [345], [200, 199], [343], [], [299, 300, 119], [], [], [340], [], [345], [302, 301], [344]]) (by decide +kernel)
set_option maxRecDepth 100000 in
theorem zk17 : kOk lw_tbl zNs zCl zP false zM17 := kM_ok (pc := 147) (pi := 112) (hs := []) (ps := [[], [148, 141, 142], [], [], [], [], [], [], [156], [149]]) (by decide +kernel)
set_option maxRecDepth 100000 in
theorem zk18 : kOk lw_tbl zNs zCl zP false zM18 := kM_ok (pc := 161) (pi := 113) (hs := []) (ps := [[], [162, 141, 142], [], [], [163], [166], [], [], [176], [167], [], [], [], [], [166], [], [], [], [166], [], [163, 144, 112], [], [], [146, 165]]) (by decide +kernel)
end
section
set_option maxRecDepth 100000 in
theorem zk19 : kOk lw_tbl zNs zCl zP false zM19 := kM_ok (pc := 182) (pi := 114) (hs := []) (ps := [[], [183, 141, 142], [], [], [196], [186], [], [184, 144, 112], [], [], [146, 185], [187]]) (by decide +kernel)
set_option maxRecDepth 100000 in
theorem zk20 : kOk lw_tbl zNs zCl zP false zM20 := kM_ok (pc := 201) (pi := 115) (hs := []) (ps := [[], [202, 141, 142], [], [203, 144, 112], [], [], [146, 204], [261], [], [205, 206, 116], [], [208, 0], [262], [], [224, 225, 117], [], [227, 0], [263], [], [240, 241, 118], [], [243, 0], [264], [], [], [259], [], [], [260], [], [], [265]]) (by decide +kernel)
set_option maxRecDepth 100000 in
theorem zk21 : kOk lw_tbl zNs zCl zP false zM21 := kM_ok (pc := 209) (pi := 116) (hs := []) (ps := [[], [210, 141, 142]]) (by decide +kernel)
set_option maxRecDepth 100000 in
theorem zk22 : kOk lw_tbl zNs zCl zP false zM22 := kM_ok (pc := 228) (pi := 117) (hs := []) (ps := [[], [229, 141, 142], [], [], [196], [230], [], [], [196], [231]]) (by decide +kernel)
set_option maxRecDepth 100000 in
theorem zk23 : kOk lw_tbl zNs zCl zP false zM23 := kM_ok (pc := 244) (pi := 118) (hs := []) (ps := [[], [245, 141, 142], [], [], [196], [246], [], [], [196], [247], [], [], [196], [248]]) (by decide +kernel)
set_option maxRecDepth 100000 in
theorem zk24 : kOk lw_tbl zNs zCl zP false zM24 := kM_ok (pc := 303) (pi := 119) (hs := []) (ps := [[], [304, 141, 142], [], [], [196], [306], [], [], [196], [307], [], [], [176], [308], [], [], [305], [], [], [310]]) (by decide +kernel)
set_option maxRecDepth 100000 in
theorem zk25 : kOk lw_tbl zNs zCl zP false zM25 := kM_ok (pc := 364) (pi := 111) (hs := []) (ps := [[], [339], [367, 366, 365]]) (by decide +kernel)
set_option maxRecDepth 100000 in
theorem zk26 : kOk lw_tbl zNs zCl zP false zM26 := kM_ok (pc := 368) (pi := 112) (hs := []) (ps := [[], [], [150]]) (by decide +kernel)
set_option maxRecDepth 100000 in
theorem zk27 : kOk lw_tbl zNs zCl zP false zM27 := kM_ok (pc := 377) (pi := 111) (hs := []) (ps := [[], [], [], [], [], [], [], [], [], [], [], [], [], [], [], [], [], [], [], [], [268], [], [309], [], [], [], [], [], [], [], [], [], [], [], [], [], [339], [448, 447, 446], [], [], [], [], [340], [], [349], [], [], [], [], [], [], [], [], [], [], [], [], [], [], [], [339], [], [468, 467, 466], [], [], [], [339], [448, 447, 446]]) (by decide +kernel)
set_option maxRecDepth 100000 in
theorem zk28 : kOk lw_tbl zNs zCl zP false zM28 := kM_ok (pc := 449) (pi := 112) (hs := []) (ps := [[], [150]]) (by decide +kernel)
set_option maxRecDepth 100000 in
theorem zk29 : kOk lw_tbl zNs zCl zP false zM29 := kM_ok (pc := 469) (pi := 112) (hs := []) (ps := [[], [150], [], [149], [], [], [], [149], [], [150], [], [], [], [], [], [150], [], [], [150]]) (by decide +kernel)
set_option maxRecDepth 100000 in
theorem zk30 : kOk lw_tbl zNs zCl zP false zM30 := kM_ok (pc := 476) (pi := 111) (hs := []) (ps := [[], [340], [], [339], [], [479, 478, 477], [], [268], [], [479], [], [], [], [340], [592, 591, 590], [], [340], [], [484], [], [], [], [340], [], [339], [597, 596, 595]]) (by decide +kernel)
set_option maxRecDepth 100000 in
theorem zk31 : kOk lw_tbl zNs zCl zP false zM31 := kM_ok (pc := 480) (pi := 113) (hs := []) (ps := [[], [], [483, 482, 481], [], [], [498, 497]]) (by decide +kernel)
set_option maxRecDepth 100000 in
theorem zk32 : kOk lw_tbl zNs zCl zP false zM32 := kM_ok (pc := 484) (pi := 113) (hs := []) (ps := [[], [], [], [], [168], [], [], [166], [], [], [], [487, 486, 485]]) (by decide +kernel)
set_option maxRecDepth 100000 in
theorem zk33 : kOk lw_tbl zNs zCl zP false zM33 := kM_ok (pc := 488) (pi := 112) (hs := []) (ps := [[], [150], [], [448, 447, 489], [], [], [], [], [], [], [], [], [], [150], [], [], [], [], [], [492, 491, 490], [495, 494], [], [], [492, 491, 490], [495, 494]]) (by decide +kernel)
set_option maxRecDepth 100000 in
theorem zk34 : kOk lw_tbl zNs zCl zP false zM34 := kM_ok (pc := 493) (pi := 112) (hs := []) (ps := [[], [], [], [], [150], [], [], [149]]) (by decide +kernel)
set_option maxRecDepth 100000 in
theorem zk35 : kOk lw_tbl zNs zCl zP false zM35 := kM_ok (pc := 496) (pi := 126) (hs := []) (ps := []) (by decide +kernel)
end
section
set_option maxRecDepth 100000 in
theorem zk36 : kOk lw_tbl zNs zCl zP false zM36 := kM_ok (pc := 499) (pi := 113) (hs := []) (ps := [[], [448, 447, 500], [], [], [], [], [], [], [], [], [], [], [], [], [], [], [], [], [], [], [391], [], [], [492, 491, 502], [], [505, 504, 503], [], [], [], [], [], [], [], [], [], [], [], [492, 491, 502], [], [], [], [], [], [], [492, 491, 502]]) (by decide +kernel)
set_option maxRecDepth 100000 in
theorem zk37 : kOk lw_tbl zNs zCl zP false zM37 := kM_ok (pc := 593) (pi := 113) (hs := []) (ps := [[], [168]]) (by decide +kernel)
set_option maxRecDepth 100000 in
theorem zk38 : kOk lw_tbl zNs zCl zP false zM38 := kM_ok (pc := 598) (pi := 113) (hs := []) (ps := [[], [592, 591, 599], [], [], [], [], [], [168], [], [], [168], [], [], [168], [], [], [], [602, 601, 600], [], [168]]) (by decide +kernel)
set_option maxRecDepth 100000 in
theorem zk39 : kOk lw_tbl zNs zCl zP false zM39 := kM_ok (pc := 603) (pi := 113) (hs := []) (ps := [[], [], [606, 605, 604], [], [], [166], [], [], [], [610, 609, 608], [], [167], [], [], [615, 614]]) (by decide +kernel)
set_option maxRecDepth 100000 in
theorem zk40 : kOk lw_tbl zNs zCl zP false zM40 := kM_ok (pc := 607) (pi := 113) (hs := []) (ps := [[], [], [], [], [168]]) (by decide +kernel)
set_option maxRecDepth 100000 in
theorem zk41 : kOk lw_tbl zNs zCl zP false zM41 := kM_ok (pc := 611) (pi := 112) (hs := []) (ps := [[], [367, 366, 612], [], [], [], [], [448, 447, 489], [], [], [], [], [492, 491, 490], [468, 467, 613]]) (by decide +kernel)
set_option maxRecDepth 100000 in
theorem zk42 : kOk lw_tbl zNs zCl zP false zM42 := kM_ok (pc := 616) (pi := 113) (hs := []) (ps := [[], [448, 447, 500], [], [], [], [619, 618, 617], [], [], [], [], [], [], [], [], [], [], [], [635, 634, 633], [], [], [], [665, 664]]) (by decide +kernel)
set_option maxRecDepth 100000 in
theorem zk43 : kOk lw_tbl zNs zCl zP false zM43 := kM_ok (pc := 620) (pi := 112) (hs := []) (ps := [[], [], [], [], [492, 491, 490], [622, 621], [], [], [], [150], [], [], [], [492, 491, 490], [628, 627]]) (by decide +kernel)
set_option maxRecDepth 100000 in
theorem zk44 : kOk lw_tbl zNs zCl zP false zM44 := kM_ok (pc := 623) (pi := 126) (hs := []) (ps := [[], [625, 624]]) (by decide +kernel)
set_option maxRecDepth 100000 in
theorem zk45 : kOk lw_tbl zNs zCl zP false zM45 := kM_ok (pc := 626) (pi := 126) (hs := []) (ps := []) (by decide +kernel)
set_option maxRecDepth 100000 in
theorem zk46 : kOk lw_tbl zNs zCl zP false zM46 := kM_ok (pc := 629) (pi := 126) (hs := []) (ps := [[], [625, 624], [], [], [631, 630]]) (by decide +kernel)
set_option maxRecDepth 100000 in
theorem zk47 : kOk lw_tbl zNs zCl zP false zM47 := kM_ok (pc := 632) (pi := 126) (hs := []) (ps := []) (by decide +kernel)
set_option maxRecDepth 100000 in
theorem zk48 : kOk lw_tbl zNs zCl zP false zM48 := kM_ok (pc := 636) (pi := 112) (hs := []) (ps := [[], [], [], [], [], [], [527], [], [], [640, 639, 638], [], [], [], [], [], [], [], [], [], [553], [], [], [640, 639, 638]]) (by decide +kernel)
set_option maxRecDepth 100000 in
theorem zk49 : kOk lw_tbl zNs zCl zP false zM49 := kM_ok (pc := 641) (pi := 112) (hs := []) (ps := [[], [], [519, 518, 642], [], [], [], [], [], [], [], [], [], [], [], [], [], [], [], [], [492, 491, 490], [495, 494], [], [], [645, 644, 643]]) (by decide +kernel)
set_option maxRecDepth 100000 in
theorem zk50 : kOk lw_tbl zNs zCl zP false zM50 := kM_ok (pc := 666) (pi := 113) (hs := []) (ps := [[], [], [], [], [448, 447, 500], [], [], [], [492, 491, 502], [625, 667], [], [], [], [], [], [], [], [448, 447, 500], [], [], [], [492, 491, 502], [631, 668], [], [], [], [], [], [], [], [], [], [], [], [], [], [], [448, 447, 500]]) (by decide +kernel)
set_option maxRecDepth 100000 in
theorem zk51 : kOk lw_tbl zNs zCl zP false zM51 := kM_ok (pc := 676) (pi := 111) (hs := []) (ps := [[], [340], [], [606, 605, 677], [], [568], [], [577], [], [], [], [340], [], [339], [], [479, 478, 477], [], [268], [], [584], [], [], [], [340], [], [], [339], [602, 601, 695]]) (by decide +kernel)
set_option maxRecDepth 100000 in
theorem zk52 : kOk lw_tbl zNs zCl zP false zM52 := kM_ok (pc := 702) (pi := 111) (hs := []) (ps := [[], [340], [], [606, 605, 677], [], [568], [], [577], [], [], [], [340], [], [705, 704, 703], [], [], [], [], [], [], [], [1, 709, 707], [], [], [], [], [], [716, 715, 714], [], [342], [], [], [342], [], [], [], [735, 734]]) (by decide +kernel)
end
section
set_option maxRecDepth 100000 in
theorem zk53 : kOk lw_tbl zNs zCl zP false zM53 := kM_ok (pc := 706) (pi := 113) (hs := []) (ps := [[], [], [606, 605, 604], [], [], [], [], [], [], [], [168], [], [], [], [], [], [], [166], [], [], [602, 601, 600], [], [], [], [], [168], [], [], [168]]) (by decide +kernel)
set_option maxRecDepth 100000 in
theorem zk54 : kOk lw_tbl zNs zCl zP false zM54 := kM_ok (pc := 710) (pi := 111) (hs := []) (ps := [[], [712, 711], [], [], [342], [], [], [], [], [], [341]]) (by decide +kernel)
set_option maxRecDepth 100000 in
theorem zk55 : kOk lw_tbl zNs zCl zP false zM55 := kM_ok (pc := 713) (pi := 111) (hs := []) (ps := []) (by decide +kernel)
set_option maxRecDepth 100000 in
theorem zk56 : kOk lw_tbl zNs zCl zP false zM56 := kM_ok (pc := 717) (pi := 114) (hs := []) (ps := [[], [], [], [], [188], [], [], [], [], [720, 719, 718], [], [], [], [], [], [], [2, 724, 722], [], [], [], [], [], [], [], [], [], [], [732, 731, 730]]) (by decide +kernel)
set_option maxRecDepth 100000 in
theorem zk57 : kOk lw_tbl zNs zCl zP false zM57 := kM_ok (pc := 721) (pi := 114) (hs := []) (ps := [[], [], [], [], [188], [], [], [], [], [], [], [], [], [], [], [], [], [], [186]]) (by decide +kernel)
set_option maxRecDepth 100000 in
theorem zk58 : kOk lw_tbl zNs zCl zP false zM58 := kM_ok (pc := 725) (pi := 114) (hs := []) (ps := [[], [], [], [], [3, 728, 726], [], [], [], [], [732, 731, 730]]) (by decide +kernel)
set_option maxRecDepth 100000 in
theorem zk59 : kOk lw_tbl zNs zCl zP false zM59 := kM_ok (pc := 729) (pi := 114) (hs := []) (ps := [[], [], [], [], [188], [], [], [], [], [], [], [], [], [], [], [], [], [186], [], [], [], [], [], [], [], [], [186], [], [], [], [], [], [], [186], [], [], [], [], [], [], [186]]) (by decide +kernel)
set_option maxRecDepth 100000 in
theorem zk60 : kOk lw_tbl zNs zCl zP false zM60 := kM_ok (pc := 733) (pi := 114) (hs := []) (ps := [[], [], [], [], [188], [], [], [], [], [], [], [], [186]]) (by decide +kernel)
set_option maxRecDepth 100000 in
theorem zk61 : kOk lw_tbl zNs zCl zP false zM61 := kM_ok (pc := 736) (pi := 111) (hs := []) (ps := []) (by decide +kernel)
set_option maxRecDepth 100000 in
theorem zk62 : kOk lw_tbl zNs zCl zP false zM62 := kM_ok (pc := 743) (pi := 111) (hs := []) (ps := [[], [712, 711], [], [], [340], [], [606, 605, 677], [], [568], [], [634], [], [], [], [343], [], [345], [747, 746, 745], [], [], [], [], [], [341], [], [], [], [], [341], [], [], [345], [], [], [342], [], [], [], [], [], [], [177, 179, 114], [], [181, 0], [], [], [345]]) (by decide +kernel)
set_option maxRecDepth 100000 in
theorem zk63 : kOk lw_tbl zNs zCl zP false zM63 := kM_ok (pc := 748) (pi := 115) (hs := []) (ps := [[], [], [265], [], [265], [751, 750, 749], [], [263], [], [756, 755, 754], [], [264], [760, 759, 758], [], [], [266], [], [], [267], [], [], [268], [], [4, 764, 762], [], [], [], [], [], [], [266], [], [259], [448, 447, 766], [], [], [267], [], [], [], [268], [], [], [], [], [259], [], [266], [492, 491, 767], [5, 770, 768], [], [], [268], [], [], [], [12, 851, 849], [], [], [268], [], [], [], [15, 900, 898], [], [], [], [259], [], [266], [492, 491, 767], [18, 916, 914], [], [268], [], [], [], [4, 764, 762], [], [], [], [267], [], [], [], [268], [], [], [], [264], [829, 828, 827], [], [], [], [259], [448, 447, 766], [267], [], [267]]) (by decide +kernel)
set_option maxRecDepth 100000 in
theorem zk64 : kOk lw_tbl zNs zCl zP false zM64 := kM_ok (pc := 752) (pi := 114) (hs := []) (ps := [[], [], [188], [], [187], [367, 366, 753]]) (by decide +kernel)
set_option maxRecDepth 100000 in
theorem zk65 : kOk lw_tbl zNs zCl zP false zM65 := kM_ok (pc := 757) (pi := 117) (hs := []) (ps := [[], [], [], [], [232], [], [], [], [232]]) (by decide +kernel)
end
section
set_option maxRecDepth 100000 in
theorem zk66 : kOk lw_tbl zNs zCl zP false zM66 := kM_ok (pc := 761) (pi := 118) (hs := []) (ps := [[], [], [249]]) (by decide +kernel)
set_option maxRecDepth 100000 in
theorem zk67 : kOk lw_tbl zNs zCl zP false zM67 := kM_ok (pc := 765) (pi := 115) (hs := []) (ps := [[], [266], [], [259], [448, 447, 766], [], [], [259], [], [266], [492, 491, 767], [], [], [], [], [266], [], [], [266]]) (by decide +kernel)
set_option maxRecDepth 100000 in
theorem zk68 : kOk lw_tbl zNs zCl zP false zM68 := kM_ok (pc := 771) (pi := 115) (hs := []) (ps := [[], [], [], [], [268], [], [], [], [], [268], [], [], [266], [], [], [266], [], [], [], [], [], [6, 774, 772], [], [], [], [], [], [], [], [], [264], [791, 790, 789], [], [], [], [], [], [], [], [], [8, 799, 797], [], [], [], [], [], [264], [829, 828, 827], [], [], [9, 808, 806], [], [], [], [], [259], [], [266], [], [], [492, 491, 767], [832, 831], [11, 836, 834]]) (by decide +kernel)
set_option maxRecDepth 100000 in
theorem zk69 : kOk lw_tbl zNs zCl zP false zM69 := kM_ok (pc := 775) (pi := 115) (hs := []) (ps := [[], [], [266], [7, 778, 776], [], [], [265], [], [269], [], [], [786, 785, 784], [], [], [268], [], [], [266], [], [], [266]]) (by decide +kernel)
set_option maxRecDepth 100000 in
theorem zk70 : kOk lw_tbl zNs zCl zP false zM70 := kM_ok (pc := 779) (pi := 115) (hs := []) (ps := [[], [265], [782, 781, 780], [], [], [], [], [], [], [], [], [], [267]]) (by decide +kernel)
set_option maxRecDepth 100000 in
theorem zk71 : kOk lw_tbl zNs zCl zP false zM71 := kM_ok (pc := 783) (pi := 114) (hs := []) (ps := [[], [188]]) (by decide +kernel)
set_option maxRecDepth 100000 in
theorem zk72 : kOk lw_tbl zNs zCl zP false zM72 := kM_ok (pc := 787) (pi := 114) (hs := []) (ps := [[], [782, 781, 788], [], [], [], [], [], [188], [], [], [], [188], [], [], [], [], [], [], [], [], [], [], [], [186], [], [], [], [], [186], [], [], [], [], [], [], [], [188], [], [], [188], [], [], [], [], [3, 728, 726]]) (by decide +kernel)
set_option maxRecDepth 100000 in
theorem zk73 : kOk lw_tbl zNs zCl zP false zM73 := kM_ok (pc := 792) (pi := 118) (hs := []) (ps := [[], [795, 794, 793]]) (by decide +kernel)
set_option maxRecDepth 100000 in
theorem zk74 : kOk lw_tbl zNs zCl zP false zM74 := kM_ok (pc := 796) (pi := 118) (hs := []) (ps := [[], [249], [], [], [247], [], [249]]) (by decide +kernel)
set_option maxRecDepth 100000 in
theorem zk75 : kOk lw_tbl zNs zCl zP false zM75 := kM_ok (pc := 800) (pi := 115) (hs := []) (ps := [[], [], [], [264], [795, 794, 801], [], [], [], [], [], [], [266], [267], [], [], [264], [804, 803, 802], [], [], [], [9, 808, 806], [], [], [263], [], [264], [817, 816, 815], [756, 755, 754], [], [], [268], [], [], [266], [], [], [266]]) (by decide +kernel)
set_option maxRecDepth 100000 in
theorem zk76 : kOk lw_tbl zNs zCl zP false zM76 := kM_ok (pc := 805) (pi := 118) (hs := []) (ps := [[], [249], [], [], [247], [], [249]]) (by decide +kernel)
set_option maxRecDepth 100000 in
theorem zk77 : kOk lw_tbl zNs zCl zP false zM77 := kM_ok (pc := 809) (pi := 115) (hs := []) (ps := [[], [264], [812, 811, 810], [], [], [264], [791, 790, 789], [], [], [265], [], [], [], [264], [795, 794, 801], [732, 731, 814], [], [263], [], [264], [817, 816, 815], [756, 755, 754], [], [264], [821, 820, 819], [], [], [10, 825, 823], [], [], [266], [], [], [266]]) (by decide +kernel)
set_option maxRecDepth 100000 in
theorem zk78 : kOk lw_tbl zNs zCl zP false zM78 := kM_ok (pc := 813) (pi := 118) (hs := []) (ps := [[], [249], [], [], [246], [], [249]]) (by decide +kernel)
set_option maxRecDepth 100000 in
theorem zk79 : kOk lw_tbl zNs zCl zP false zM79 := kM_ok (pc := 818) (pi := 118) (hs := []) (ps := [[], [249], [], [], [248], [], [249]]) (by decide +kernel)
set_option maxRecDepth 100000 in
theorem zk80 : kOk lw_tbl zNs zCl zP false zM80 := kM_ok (pc := 822) (pi := 118) (hs := []) (ps := [[], [249], [], [], [], [249], [], [], [249]]) (by decide +kernel)
set_option maxRecDepth 100000 in
theorem zk81 : kOk lw_tbl zNs zCl zP false zM81 := kM_ok (pc := 826) (pi := 115) (hs := []) (ps := [[], [], [269], [], [], [268]]) (by decide +kernel)
end
section
set_option maxRecDepth 100000 in
theorem zk82 : kOk lw_tbl zNs zCl zP false zM82 := kM_ok (pc := 830) (pi := 118) (hs := []) (ps := [[], [249]]) (by decide +kernel)
set_option maxRecDepth 100000 in
theorem zk83 : kOk lw_tbl zNs zCl zP false zM83 := kM_ok (pc := 833) (pi := 115) (hs := []) (ps := []) (by decide +kernel)
set_option maxRecDepth 100000 in
theorem zk84 : kOk lw_tbl zNs zCl zP false zM84 := kM_ok (pc := 837) (pi := 115) (hs := []) (ps := [[], [], [], [], [], [266], [267], [], [], [], [266], [7, 778, 776], [], [], [839, 0], [], [], [263], [], [264], [817, 816, 815], [], [], [269], [843, 842, 841], [], [], [265], [], [], [], [786, 785, 784], [], [263], [], [], [847, 846, 845], [], [], [268], [], [], [], [], [], [], [], [], [], [], [], [], [], [], [], [266], [], [], [], [], [], [], [266]]) (by decide +kernel)
set_option maxRecDepth 100000 in
theorem zk85 : kOk lw_tbl zNs zCl zP false zM85 := kM_ok (pc := 840) (pi := 111) (hs := []) (ps := []) (by decide +kernel)
set_option maxRecDepth 100000 in
theorem zk86 : kOk lw_tbl zNs zCl zP false zM86 := kM_ok (pc := 844) (pi := 117) (hs := []) (ps := [[], [], [], [232], [], [], [], [232], [], [], [230], [], [232], [], [], [], [], [], [], [], [232], [], [], [232], [], [231], [], [232]]) (by decide +kernel)
set_option maxRecDepth 100000 in
theorem zk87 : kOk lw_tbl zNs zCl zP false zM87 := kM_ok (pc := 848) (pi := 117) (hs := []) (ps := [[], [232], [], [], [], [230], [], [232], [], [], [], [231], [], [232], [], [], [], [], [232], [], [], [232]]) (by decide +kernel)
set_option maxRecDepth 100000 in
theorem zk88 : kOk lw_tbl zNs zCl zP false zM88 := kM_ok (pc := 852) (pi := 115) (hs := []) (ps := [[], [262], [], [259], [], [266], [855, 854, 853], [], [], [], [262], [876, 875, 874], [267], [], [], [], [270], [7, 778, 776], [], [], [265], [880, 879, 878], [], [], [265], [], [], [], [786, 785, 784], [], [265], [], [], [], [271], [732, 731, 814], [], [265], [], [], [262], [884, 883, 882], [], [], [10, 825, 823], [], [], [268], [], [], [262], [876, 875, 874], [266]]) (by decide +kernel)
set_option maxRecDepth 100000 in
theorem zk89 : kOk lw_tbl zNs zCl zP false zM89 := kM_ok (pc := 856) (pi := 116) (hs := []) (ps := [[], [], [211], [], [], [212], [], [], [213], [], [], [214], [], [], [211], [492, 491, 857], [], [], [], [], [214], [], [], [214], [], [], [211], [], [], [211], [], [], [13, 860, 858], [], [], [], [], [], [211], [492, 491, 857], [], [], [], [], [214], [], [], [214], [], [], [211], [], [], [211], [], [], [14, 866, 864], [], [], [], [211], [492, 491, 857], [871, 870]]) (by decide +kernel)
set_option maxRecDepth 100000 in
theorem zk90 : kOk lw_tbl zNs zCl zP false zM90 := kM_ok (pc := 861) (pi := 116) (hs := []) (ps := [[], [], [], [], [], [], [], [211], [492, 491, 857], [625, 862], [], [], [213], [], [], [], [], [211], [492, 491, 857], [495, 863], [], [], [], [], [], [], [], [], [], [], [], [], [], [213], [], [], [], [211], [], [], [211]]) (by decide +kernel)
set_option maxRecDepth 100000 in
theorem zk91 : kOk lw_tbl zNs zCl zP false zM91 := kM_ok (pc := 867) (pi := 116) (hs := []) (ps := [[], [], [], [], [], [], [], [211], [492, 491, 857], [631, 868], [], [], [212], [], [], [], [], [211], [492, 491, 857], [], [], [], [], [], [], [], [], [759], [], [], [], [], [], [212], [], [], [], [211], [], [], [211]]) (by decide +kernel)
set_option maxRecDepth 100000 in
theorem zk92 : kOk lw_tbl zNs zCl zP false zM92 := kM_ok (pc := 872) (pi := 116) (hs := []) (ps := [[], [628, 873]]) (by decide +kernel)
set_option maxRecDepth 100000 in
theorem zk93 : kOk lw_tbl zNs zCl zP false zM93 := kM_ok (pc := 877) (pi := 116) (hs := []) (ps := [[], [211]]) (by decide +kernel)
end
section
set_option maxRecDepth 100000 in
theorem zk94 : kOk lw_tbl zNs zCl zP false zM94 := kM_ok (pc := 881) (pi := 114) (hs := []) (ps := [[], [188]]) (by decide +kernel)
set_option maxRecDepth 100000 in
theorem zk95 : kOk lw_tbl zNs zCl zP false zM95 := kM_ok (pc := 885) (pi := 114) (hs := []) (ps := [[], [], [], [], [888, 887, 886], [732, 731, 730], [], [], [], [], [892, 891, 890], [732, 731, 730], [], [], [], [], [888, 887, 886], [732, 731, 730], [], [], [], [], [892, 891, 890], [732, 731, 730], [], [], [], [], [896, 895, 894], [732, 731, 730]]) (by decide +kernel)
set_option maxRecDepth 100000 in
theorem zk96 : kOk lw_tbl zNs zCl zP false zM96 := kM_ok (pc := 889) (pi := 116) (hs := []) (ps := [[], [212]]) (by decide +kernel)
set_option maxRecDepth 100000 in
theorem zk97 : kOk lw_tbl zNs zCl zP false zM97 := kM_ok (pc := 893) (pi := 116) (hs := []) (ps := [[], [213]]) (by decide +kernel)
set_option maxRecDepth 100000 in
theorem zk98 : kOk lw_tbl zNs zCl zP false zM98 := kM_ok (pc := 897) (pi := 116) (hs := []) (ps := [[], [214]]) (by decide +kernel)
set_option maxRecDepth 100000 in
theorem zk99 : kOk lw_tbl zNs zCl zP false zM99 := kM_ok (pc := 901) (pi := 115) (hs := []) (ps := [[], [262], [], [259], [], [266], [855, 854, 853], [], [], [265], [], [269], [], [262], [904, 903, 902], [], [], [268], [], [], [262], [876, 875, 874], [266], [], [], [], [262], [876, 875, 874], [267]]) (by decide +kernel)
set_option maxRecDepth 100000 in
theorem zk100 : kOk lw_tbl zNs zCl zP false zM100 := kM_ok (pc := 905) (pi := 114) (hs := []) (ps := [[], [], [], [], [732, 731, 730], [], [], [], [], [888, 887, 886], [732, 731, 730], [], [], [], [], [892, 891, 890], [732, 731, 730], [], [], [], [], [], [], [720, 719, 718], [], [896, 895, 894], [], [], [], [732, 731, 730], [], [], [16, 908, 906]]) (by decide +kernel)
set_option maxRecDepth 100000 in
theorem zk101 : kOk lw_tbl zNs zCl zP false zM101 := kM_ok (pc := 909) (pi := 114) (hs := []) (ps := [[], [], [], [720, 719, 718], [], [], [], [720, 719, 718], [], [], [], [], [17, 912, 910], [], [], [], [720, 719, 718], [], [], [], [720, 719, 718], [], [], [], [], [17, 912, 910]]) (by decide +kernel)
set_option maxRecDepth 100000 in
theorem zk102 : kOk lw_tbl zNs zCl zP false zM102 := kM_ok (pc := 913) (pi := 114) (hs := []) (ps := [[], [], [], [720, 719, 718], [], [], [], [], [], [], [], [], [], [720, 719, 718], [732, 731, 730], [], [], [], [], [], [], [732, 731, 730], [], [], [], [], [], [], [], [], [], [], [720, 719, 718], [], [], [], [], [], [], [], [], [], [], [], [], [], [], [], [], [], [], [], [], [], [], [], [], [], [], [], [732, 731, 730]]) (by decide +kernel)
set_option maxRecDepth 100000 in
theorem zk103 : kOk lw_tbl zNs zCl zP false zM103 := kM_ok (pc := 917) (pi := 115) (hs := []) (ps := [[], [], [], [19, 920, 918], [], [], [22, 941, 939], [], [], [], [266], [], [25, 965, 963], [], [], [26, 969, 967], [], [], [], [265], [880, 879, 878], [], [28, 978, 976], [], [], [], [266], [], [], [266], [], [], [268], [], [], [29, 990, 988], [], [], [], [], [], [], [], [], [30, 994, 992], [], [], [631, 996], [], [], [], [], [], [31, 999, 997], [], [], [622, 1010], [], [], [34, 1013, 1011], [], [], [], [266], [267]]) (by decide +kernel)
set_option maxRecDepth 100000 in
theorem zk104 : kOk lw_tbl zNs zCl zP false zM104 := kM_ok (pc := 921) (pi := 115) (hs := []) (ps := [[], [266], [], [], [], [20, 924, 922], [], [], [], [], [21, 930, 928], [], [], [], [266], [267]]) (by decide +kernel)
set_option maxRecDepth 100000 in
theorem zk105 : kOk lw_tbl zNs zCl zP false zM105 := kM_ok (pc := 925) (pi := 115) (hs := []) (ps := [[], [], [], [261], [367, 366, 926], [], [], [266], [], [], [266], [], [266], [], [259], [448, 447, 766], [], [], [], [], [259], [], [266], [492, 491, 767], [], [], [], [], [], [], [], [], [], [259], [], [266], [], [], [492, 491, 767], [], [], [], [], [], [], [], [], [], [261], [], [259], [], [266], [492, 491, 767], [468, 467, 927], [], [], [266], [], [], [], [], [], [], [], [], [266]]) (by decide +kernel)
end
