set_option maxRecDepth 100000 in
theorem zk66 : kOk lw_tbl zNs zCl zP false zM66 := kM_ok (pc := 761) (pi := 118) (hs := []) (ps := [[], [], [249]]) (by decide +kernel)
set_option maxRecDepth 100000 in
theorem zk67 : kOk lw_tbl zNs zCl zP false zM67 := kM_ok (pc := 765) (pi := 115) (hs := []) (ps := [[], [266], [], [259], [448, 447, 766], [], [], [259], [], [266], [492, 491, 767], [], [], [], [], [266], [], [], [266]]) (by decide +kernel)
set_option maxRecDepth 100000 in
theorem zk68 : kOk lw_tbl zNs zCl zP false zM68 := kM_ok (pc := 771) (pi := 115) (hs := []) (ps := [[], [], [], [], [268], [], [], [], [], [268], [], [], [266], [], [], [266], [], [], [], [], [], [6, 774, 772], [], [], [], [], [], [], [], [], [264], [791, 790, 789], [], [], [], [], [], [], [], [], [8, 799, 797], [], [], [], [], [], [264], [829, 828, 827], [], [], [9, 808, 806], [], [], [], [], [259], [], [266], [], [], [492, 491, 767], [832, 831], [11, 836, 834]]) (by decide +kernel)
set_option maxRecDepth 100000 in
theorem zk69 : kOk lw_tbl zNs zCl zP false zM69 := kM_ok (pc := 775) (pi := 115) (hs := []) (ps := [[], [], [266], [7, 778, 776], [], [], [265], [], [269], [], [], [786, 785, 784], [], [], [268], [], [], [266], [], [], [266]]) (by decide +kernel)
set_option maxRecDepth 100000 in
theorem zk70 : kOk lw_tbl zNs zCl zP false zM70 := kM_ok (pc := 779) (pi := 115) (hs := []) (ps := [[], [265], [782, 781, 780], [], [], [], [], [], [], [], [], [], [267]]) (by decide +kernel)
set_option maxRecDepth 100000 in
theorem zk71 : kOk lw_tbl zNs zCl zP false zM71 := kM_ok (pc := 783) (pi := 114) (hs := []) (ps := [[], [188]]) (by decide +kernel)
set_option maxRecDepth 100000 in
theorem zk72 : kOk lw_tbl zNs zCl zP false zM72 := kM_ok (pc := 787) (pi := 114) (hs := []) (ps := [[], [782, 781, 788], [], [], [], [], [], [188], [], [], [], [188], [], [], [], [], [], [], [], [], [], [], [], [186], [], [], [], [], [186], [], [], [], [], [], [], [], [188], [], [], [188], [], [], [], [], [3, 728, 726]]) (by decide +kernel)
set_option maxRecDepth 100000 in
theorem zk73 : kOk lw_tbl zNs zCl zP false zM73 := kM_ok (pc := 792) (pi := 118) (hs := []) (ps := [[], [795, 794, 793]]) (by decide +kernel)
set_option maxRecDepth 100000 in
theorem zk74 : kOk lw_tbl zNs zCl zP false zM74 := kM_ok (pc := 796) (pi := 118) (hs := []) (ps := [[], [249], [], [], [247], [], [249]]) (by decide +kernel)
set_option maxRecDepth 100000 in
theorem zk75 : kOk lw_tbl zNs zCl zP false zM75 := kM_ok (pc := 800) (pi := 115) (hs := []) (ps := [[], [], [], [264], [795, 794, 801], [], [], [], [], [], [], [266], [267], [], [], [264], [804, 803, 802], [], [], [], [9, 808, 806], [], [], [263], [], [264], [817, 816, 815], [756, 755, 754], [], [], [268], [], [], [266], [], [], [266]]) (by decide +kernel)
set_option maxRecDepth 100000 in
theorem zk76 : kOk lw_tbl zNs zCl zP false zM76 := kM_ok (pc := 805) (pi := 118) (hs := []) (ps := [[], [249], [], [], [247], [], [249]]) (by decide +kernel)
set_option maxRecDepth 100000 in
theorem zk77 : kOk lw_tbl zNs zCl zP false zM77 := kM_ok (pc := 809) (pi := 115) (hs := []) (ps := [[], [264], [812, 811, 810], [], [], [264], [791, 790, 789], [], [], [265], [], [], [], [264], [795, 794, 801], [732, 731, 814], [], [263], [], [264], [817, 816, 815], [756, 755, 754], [], [264], [821, 820, 819], [], [], [10, 825, 823], [], [], [266], [], [], [266]]) (by decide +kernel)
set_option maxRecDepth 100000 in
theorem zk78 : kOk lw_tbl zNs zCl zP false zM78 := kM_ok (pc := 813) (pi := 118) (hs := []) (ps := [[], [249], [], [], [246], [], [249]]) (by decide +kernel)
set_option maxRecDepth 100000 in
theorem zk79 : kOk lw_tbl zNs zCl zP false zM79 := kM_ok (pc := 818) (pi := 118) (hs := []) (ps := [[], [249], [], [], [248], [], [249]]) (by decide +kernel)
set_option maxRecDepth 100000 in
theorem zk80 : kOk lw_tbl zNs zCl zP false zM80 := kM_ok (pc := 822) (pi := 118) (hs := []) (ps := [[], [249], [], [], [], [249], [], [], [249]]) (by decide +kernel)
set_option maxRecDepth 100000 in
theorem zk81 : kOk lw_tbl zNs zCl zP false zM81 := kM_ok (pc := 826) (pi := 115) (hs := []) (ps := [[], [], [269], [], [], [268]]) (by decide +kernel)
