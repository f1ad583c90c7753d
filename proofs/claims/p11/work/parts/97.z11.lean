set_option maxRecDepth 100000 in
theorem zk121 : kOk lw_tbl zNs zCl zP false zM121 := kM_ok (pc := 1004) (pi := 115) (hs := []) (ps := [[], [], [], [], [], [], [259], [], [266], [492, 491, 767], [631, 996], [], [], [], [], [266], [], [], [266]]) (by decide +kernel)
set_option maxRecDepth 100000 in
theorem zk122 : kOk lw_tbl zNs zCl zP false zM122 := kM_ok (pc := 1009) (pi := 115) (hs := []) (ps := [[], [261], [367, 366, 926], [], [], [], [], [], [], [261], [], [259], [], [492, 491, 767], [495, 1005], [468, 467, 927]]) (by decide +kernel)
set_option maxRecDepth 100000 in
theorem zk123 : kOk lw_tbl zNs zCl zP false zM123 := kM_ok (pc := 1014) (pi := 115) (hs := []) (ps := [[], [266], [], [], [259], [], [619, 618, 1015], [], [], [259], [], [492, 491, 767], [], [], [], [], [], [], [], [], [], [], [], [], [], [], [33, 1008, 1006], [], [], [266], [], [], [27, 973, 971], [], [], [], [], [262], [], [259], [], [855, 854, 853], [], [], [], [], [25, 965, 963], [], [], [], [], [262], [876, 875, 874], [], [], [], [], [262], [876, 875, 874], [267], [], [], [], [], [], [], [], [], [], [], [35, 1018, 1016]]) (by decide +kernel)
set_option maxRecDepth 100000 in
theorem zk124 : kOk lw_tbl zNs zCl zP false zM124 := kM_ok (pc := 1019) (pi := 115) (hs := []) (ps := [[], [], [], [], [], [259], [], [], [635, 634, 1020], [], [], [], [266], [], [], [], [], [], [], [], [24, 961, 959], [], [], [], [], [33, 1008, 1006], [], [], [], [], [], [], [], [21, 930, 928], [], [], [], [267], [], [], [], [], [269], [], [28, 978, 976]]) (by decide +kernel)
set_option maxRecDepth 100000 in
theorem zk125 : kOk lw_tbl zNs zCl zP false zM125 := kM_ok (pc := 1027) (pi := 111) (hs := []) (ps := [[], [], [1, 709, 707], [], [], [712, 711], [], [], [], [], [340], [], [606, 605, 677], [], [568], [], [634], [], [], [], [1029, 1028], [], [], [1029, 1028], [], [268], [], [923], [], [], [], [341], [], [], [], [], [], [177, 179, 114], [], [181, 0], [], [], [341], [], [], [], [], [], [], [], [], [1036, 1035, 1034], [], [], [], [1044, 1043, 1042], [], [342]]) (by decide +kernel)
set_option maxRecDepth 100000 in
theorem zk126 : kOk lw_tbl zNs zCl zP false zM126 := kM_ok (pc := 1030) (pi := 111) (hs := []) (ps := [[], [921], [], [], [922]]) (by decide +kernel)
set_option maxRecDepth 100000 in
theorem zk127 : kOk lw_tbl zNs zCl zP false zM127 := kM_ok (pc := 1037) (pi := 114) (hs := []) (ps := [[], [], [188], [188], [], [186], [], [], [186], [], [], [186], [], [1038, 1040, 1039, 134], [], [187], [], [187], [610, 609, 1041]]) (by decide +kernel)
set_option maxRecDepth 100000 in
theorem zk128 : kOk lw_tbl zNs zCl zP false zM128 := kM_ok (pc := 1045) (pi := 114) (hs := []) (ps := [[], [], [], [], [188], [], [], [], [36, 1048, 1046], [], [], [], [], [], [37, 1052, 1050]]) (by decide +kernel)
set_option maxRecDepth 100000 in
theorem zk129 : kOk lw_tbl zNs zCl zP false zM129 := kM_ok (pc := 1049) (pi := 114) (hs := []) (ps := [[], [], [], [720, 719, 718], [], [], [], [], [], [720, 719, 718]]) (by decide +kernel)
set_option maxRecDepth 100000 in
theorem zk130 : kOk lw_tbl zNs zCl zP false zM130 := kM_ok (pc := 1053) (pi := 114) (hs := []) (ps := [[], [], [], [], [], [], [], [], [], [], [], [], [], [], [], [], [], [], [], [], [], [], [720, 719, 718], [], [], [], [], [38, 1056, 1054], [], [], [], [], [], [], [], [], [], [], [], [], [], [], [1059, 0], [], [], [], [], [], [], [], [], [], [732, 731, 730], [], [], [], [], [], [], [16, 908, 906], [], [], [], [2, 724, 722]]) (by decide +kernel)
set_option maxRecDepth 100000 in
theorem zk131 : kOk lw_tbl zNs zCl zP false zM131 := kM_ok (pc := 1057) (pi := 114) (hs := []) (ps := [[], [], [], [], [], [], [720, 719, 718], [], [], [], [], [], [], [], [], [], [], [], [], [], [], [], [], [], [], [], [], [], [], [], [], [], [], [], [], [], [], [], [720, 719, 718]]) (by decide +kernel)
set_option maxRecDepth 100000 in
theorem zk132 : kOk lw_tbl zNs zCl zP false zM132 := kM_ok (pc := 1060) (pi := 111) (hs := []) (ps := [[], [], [922]]) (by decide +kernel)
