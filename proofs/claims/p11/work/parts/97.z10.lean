set_option maxRecDepth 100000 in
theorem zk106 : kOk lw_tbl zNs zCl zP false zM106 := kM_ok (pc := 931) (pi := 115) (hs := []) (ps := [[], [], [7, 778, 776], [], [], [265], [880, 879, 878], [], [], [265], [], [], [], [786, 785, 784], [], [265], [], [], [261], [934, 933, 932], [], [], [10, 825, 823]]) (by decide +kernel)
set_option maxRecDepth 100000 in
theorem zk107 : kOk lw_tbl zNs zCl zP false zM107 := kM_ok (pc := 935) (pi := 114) (hs := []) (ps := [[], [], [], [], [187], [448, 447, 936], [732, 731, 730], [], [], [], [], [448, 447, 936], [732, 731, 730], [], [], [], [], [448, 447, 936], [], [], [187], [], [], [492, 491, 937], [468, 467, 938]]) (by decide +kernel)
set_option maxRecDepth 100000 in
theorem zk108 : kOk lw_tbl zNs zCl zP false zM108 := kM_ok (pc := 942) (pi := 115) (hs := []) (ps := [[], [266], [], [], [], [], [], [], [], [], [], [], [], [], [], [23, 945, 943], [], [], [], [], [], [], [], [], [], [267], [], [], [948, 0], [519, 518, 958], [], [], [], [], [], [], [], [], [], [], [], [948, 0], [519, 518, 958], [], [266], [], [], [], [], [24, 961, 959]]) (by decide +kernel)
set_option maxRecDepth 100000 in
theorem zk109 : kOk lw_tbl zNs zCl zP false zM109 := kM_ok (pc := 946) (pi := 115) (hs := []) (ps := [[], [], [], [], [], [], [259], [], [948, 0], [], [], [640, 639, 957]]) (by decide +kernel)
set_option maxRecDepth 100000 in
theorem zk110 : kOk lw_tbl zNs zCl zP false zM110 := kM_ok (pc := 949) (pi := 111) (hs := []) (ps := [[], [], [840], [], [841], [], [842], [], [843], [], [844], [], [845], [], [846]]) (by decide +kernel)
set_option maxRecDepth 100000 in
theorem zk111 : kOk lw_tbl zNs zCl zP false zM111 := kM_ok (pc := 962) (pi := 115) (hs := []) (ps := [[], [], [7, 778, 776], [], [], [265], [880, 879, 878], [], [], [265], [], [], [], [786, 785, 784], [], [265], [], [], [], [732, 731, 814], [], [], [10, 825, 823]]) (by decide +kernel)
set_option maxRecDepth 100000 in
theorem zk112 : kOk lw_tbl zNs zCl zP false zM112 := kM_ok (pc := 966) (pi := 115) (hs := []) (ps := [[], [], [270], [], [], [271], [], [], [268]]) (by decide +kernel)
set_option maxRecDepth 100000 in
theorem zk113 : kOk lw_tbl zNs zCl zP false zM113 := kM_ok (pc := 970) (pi := 115) (hs := []) (ps := [[], [266], [], [], [], [20, 924, 922], [], [], [259], [], [266], [492, 491, 767], [], [], [], [], [27, 973, 971], [], [], [], [266], [267]]) (by decide +kernel)
set_option maxRecDepth 100000 in
theorem zk114 : kOk lw_tbl zNs zCl zP false zM114 := kM_ok (pc := 974) (pi := 115) (hs := []) (ps := [[], [260], [], [261], [483, 482, 975], [], [], [], [], [], [], [267], [], [], [], [266], [], [], [266], [], [], [], [25, 965, 963]]) (by decide +kernel)
set_option maxRecDepth 100000 in
theorem zk115 : kOk lw_tbl zNs zCl zP false zM115 := kM_ok (pc := 979) (pi := 115) (hs := []) (ps := [[], [264], [829, 828, 827], [], [], [], [], [266], [267], [], [], [264], [], [], [], [263], [982, 981, 980], [986, 985, 984], [], [], [], [], [], [], [], [268], [], [], [266], [], [], [266]]) (by decide +kernel)
set_option maxRecDepth 100000 in
theorem zk116 : kOk lw_tbl zNs zCl zP false zM116 := kM_ok (pc := 983) (pi := 117) (hs := []) (ps := [[], [232]]) (by decide +kernel)
set_option maxRecDepth 100000 in
theorem zk117 : kOk lw_tbl zNs zCl zP false zM117 := kM_ok (pc := 987) (pi := 118) (hs := []) (ps := [[], [249], [], [], [], [246], [], [249], [], [], [], [247], [], [249], [], [], [], [248], [], [249], [], [], [], [], [249], [], [], [249]]) (by decide +kernel)
set_option maxRecDepth 100000 in
theorem zk118 : kOk lw_tbl zNs zCl zP false zM118 := kM_ok (pc := 991) (pi := 115) (hs := []) (ps := [[], [], [266], [7, 778, 776], [], [], [263], [], [], [265], [880, 879, 878], [847, 846, 845], [], [265], [], [265], [880, 879, 878], [], [], [786, 785, 784], [], [], [268], [], [], [266], [], [], [266]]) (by decide +kernel)
set_option maxRecDepth 100000 in
theorem zk119 : kOk lw_tbl zNs zCl zP false zM119 := kM_ok (pc := 995) (pi := 115) (hs := []) (ps := [[], [268], [], [], [], [266], [267], [], [], [], [], [264], [795, 794, 801], [], [], [9, 808, 806], [], [], [], [266], [7, 778, 776], [], [], [265], [], [265], [880, 879, 878], [], [], [786, 785, 784], [], [], [8, 799, 797]]) (by decide +kernel)
set_option maxRecDepth 100000 in
theorem zk120 : kOk lw_tbl zNs zCl zP false zM120 := kM_ok (pc := 1000) (pi := 115) (hs := []) (ps := [[], [266], [], [], [], [32, 1003, 1001], [], [], [259], [], [266], [492, 491, 767], [], [], [], [], [266], [], [], [266], [], [], [], [32, 1003, 1001], [], [], [], [], [], [], [], [], [], [], [], [259], [], [266], [492, 491, 767], [495, 1005], [], [], [], [], [266], [], [], [266], [], [], [266], [], [259], [], [266], [492, 491, 767], [], [], [], [259], [], [266], [492, 491, 767], [], [], [], [], [], [], [266], [], [], [32, 1003, 1001], [], [], [], [], [], [], [], [], [], [], [266], [33, 1008, 1006], [], [], [], [21, 930, 928], [], [], [], [266], [267]]) (by decide +kernel)
