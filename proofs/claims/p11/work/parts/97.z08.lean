set_option maxRecDepth 100000 in
theorem zk82 : kOk lw_tbl zNs zCl zP false zM82 := kM_ok (pc := 830) (pi := 118) (hs := []) (ps := [[], [249]]) (by decide +kernel)
set_option maxRecDepth 100000 in
theorem zk83 : kOk lw_tbl zNs zCl zP false zM83 := kM_ok (pc := 833) (pi := 115) (hs := []) (ps := []) (by decide +kernel)
set_option maxRecDepth 100000 in
theorem zk84 : kOk lw_tbl zNs zCl zP false zM84 := kM_ok (pc := 837) (pi := 115) (hs := []) (ps := [[], [], [], [], [], [266], [267], [], [], [], [266], [7, 778, 776], [], [], [839, 0], [], [], [263], [], [264], [817, 816, 815], [], [], [269], [843, 842, 841], [], [], [265], [], [], [], [786, 785, 784], [], [263], [], [], [847, 846, 845], [], [], [268], [], [], [], [], [], [], [], [], [], [], [], [], [], [], [], [266], [], [], [], [], [], [], [266]]) (by decide +kernel)
set_option maxRecDepth 100000 in
theorem zk85 : kOk lw_tbl zNs zCl zP false zM85 := kM_ok (pc := 840) (pi := 111) (hs := []) (ps := []) (by decide +kernel)
set_option maxRecDepth 100000 in
theorem zk86 : kOk lw_tbl zNs zCl zP false zM86 := kM_ok (pc := 844) (pi := 117) (hs := []) (ps := [[], [], [], [232], [], [], [], [232], [], [], [230], [], [232], [], [], [], [], [], [], [], [232], [], [], [232], [], [231], [], [232]]) (by decide +kernel)
set_option maxRecDepth 100000 in
theorem zk87 : kOk lw_tbl zNs zCl zP false zM87 := kM_ok (pc := 848) (pi := 117) (hs := []) (ps := [[], [232], [], [], [], [230], [], [232], [], [], [], [231], [], [232], [], [], [], [], [232], [], [], [232]]) (by decide +kernel)
set_option maxRecDepth 100000 in
theorem zk88 : kOk lw_tbl zNs zCl zP false zM88 := kM_ok (pc := 852) (pi := 115) (hs := []) (ps := [[], [262], [], [259], [], [266], [855, 854, 853], [], [], [], [262], [876, 875, 874], [267], [], [], [], [270], [7, 778, 776], [], [], [265], [880, 879, 878], [], [], [265], [], [], [], [786, 785, 784], [], [265], [], [], [], [271], [732, 731, 814], [], [265], [], [], [262], [884, 883, 882], [], [], [10, 825, 823], [], [], [268], [], [], [262], [876, 875, 874], [266]]) (by decide +kernel)
set_option maxRecDepth 100000 in
theorem zk89 : kOk lw_tbl zNs zCl zP false zM89 := kM_ok (pc := 856) (pi := 116) (hs := []) (ps := [[], [], [211], [], [], [212], [], [], [213], [], [], [214], [], [], [211], [492, 491, 857], [], [], [], [], [214], [], [], [214], [], [], [211], [], [], [211], [], [], [13, 860, 858], [], [], [], [], [], [211], [492, 491, 857], [], [], [], [], [214], [], [], [214], [], [], [211], [], [], [211], [], [], [14, 866, 864], [], [], [], [211], [492, 491, 857], [871, 870]]) (by decide +kernel)
set_option maxRecDepth 100000 in
theorem zk90 : kOk lw_tbl zNs zCl zP false zM90 := kM_ok (pc := 861) (pi := 116) (hs := []) (ps := [[], [], [], [], [], [], [], [211], [492, 491, 857], [625, 862], [], [], [213], [], [], [], [], [211], [492, 491, 857], [495, 863], [], [], [], [], [], [], [], [], [], [], [], [], [], [213], [], [], [], [211], [], [], [211]]) (by decide +kernel)
set_option maxRecDepth 100000 in
theorem zk91 : kOk lw_tbl zNs zCl zP false zM91 := kM_ok (pc := 867) (pi := 116) (hs := []) (ps := [[], [], [], [], [], [], [], [211], [492, 491, 857], [631, 868], [], [], [212], [], [], [], [], [211], [492, 491, 857], [], [], [], [], [], [], [], [], [759], [], [], [], [], [], [212], [], [], [], [211], [], [], [211]]) (by decide +kernel)
set_option maxRecDepth 100000 in
theorem zk92 : kOk lw_tbl zNs zCl zP false zM92 := kM_ok (pc := 872) (pi := 116) (hs := []) (ps := [[], [628, 873]]) (by decide +kernel)
set_option maxRecDepth 100000 in
theorem zk93 : kOk lw_tbl zNs zCl zP false zM93 := kM_ok (pc := 877) (pi := 116) (hs := []) (ps := [[], [211]]) (by decide +kernel)
