set_option maxRecDepth 100000 in
theorem zk53 : kOk lw_tbl zNs zCl zP false zM53 := kM_ok (pc := 706) (pi := 113) (hs := []) (ps := [[], [], [606, 605, 604], [], [], [], [], [], [], [], [168], [], [], [], [], [], [], [166], [], [], [602, 601, 600], [], [], [], [], [168], [], [], [168]]) (by decide +kernel)
set_option maxRecDepth 100000 in
theorem zk54 : kOk lw_tbl zNs zCl zP false zM54 := kM_ok (pc := 710) (pi := 111) (hs := []) (ps := [[], [712, 711], [], [], [342], [], [], [], [], [], [341]]) (by decide +kernel)
set_option maxRecDepth 100000 in
theorem zk55 : kOk lw_tbl zNs zCl zP false zM55 := kM_ok (pc := 713) (pi := 111) (hs := []) (ps := []) (by decide +kernel)
set_option maxRecDepth 100000 in
theorem zk56 : kOk lw_tbl zNs zCl zP false zM56 := kM_ok (pc := 717) (pi := 114) (hs := []) (ps := [[], [], [], [], [188], [], [], [], [], [720, 719, 718], [], [], [], [], [], [], [2, 724, 722], [], [], [], [], [], [], [], [], [], [], [732, 731, 730]]) (by decide +kernel)
set_option maxRecDepth 100000 in
theorem zk57 : kOk lw_tbl zNs zCl zP false zM57 := kM_ok (pc := 721) (pi := 114) (hs := []) (ps := [[], [], [], [], [188], [], [], [], [], [], [], [], [], [], [], [], [], [], [186]]) (by decide +kernel)
set_option maxRecDepth 100000 in
theorem zk58 : kOk lw_tbl zNs zCl zP false zM58 := kM_ok (pc := 725) (pi := 114) (hs := []) (ps := [[], [], [], [], [3, 728, 726], [], [], [], [], [732, 731, 730]]) (by decide +kernel)
set_option maxRecDepth 100000 in
theorem zk59 : kOk lw_tbl zNs zCl zP false zM59 := kM_ok (pc := 729) (pi := 114) (hs := []) (ps := [[], [], [], [], [188], [], [], [], [], [], [], [], [], [], [], [], [], [186], [], [], [], [], [], [], [], [], [186], [], [], [], [], [], [], [186], [], [], [], [], [], [], [186]]) (by decide +kernel)
set_option maxRecDepth 100000 in
theorem zk60 : kOk lw_tbl zNs zCl zP false zM60 := kM_ok (pc := 733) (pi := 114) (hs := []) (ps := [[], [], [], [], [188], [], [], [], [], [], [], [], [186]]) (by decide +kernel)
set_option maxRecDepth 100000 in
theorem zk61 : kOk lw_tbl zNs zCl zP false zM61 := kM_ok (pc := 736) (pi := 111) (hs := []) (ps := []) (by decide +kernel)
set_option maxRecDepth 100000 in
theorem zk62 : kOk lw_tbl zNs zCl zP false zM62 := kM_ok (pc := 743) (pi := 111) (hs := []) (ps := [[], [712, 711], [], [], [340], [], [606, 605, 677], [], [568], [], [634], [], [], [], [343], [], [345], [747, 746, 745], [], [], [], [], [], [341], [], [], [], [], [341], [], [], [345], [], [], [342], [], [], [], [], [], [], [177, 179, 114], [], [181, 0], [], [], [345]]) (by decide +kernel)
set_option maxRecDepth 100000 in
theorem zk63 : kOk lw_tbl zNs zCl zP false zM63 := kM_ok (pc := 748) (pi := 115) (hs := []) (ps := [[], [], [265], [], [265], [751, 750, 749], [], [263], [], [756, 755, 754], [], [264], [760, 759, 758], [], [], [266], [], [], [267], [], [], [268], [], [4, 764, 762], [], [], [], [], [], [], [266], [], [259], [448, 447, 766], [], [], [267], [], [], [], [268], [], [], [], [], [259], [], [266], [492, 491, 767], [5, 770, 768], [], [], [268], [], [], [], [12, 851, 849], [], [], [268], [], [], [], [15, 900, 898], [], [], [], [259], [], [266], [492, 491, 767], [18, 916, 914], [], [268], [], [], [], [4, 764, 762], [], [], [], [267], [], [], [], [268], [], [], [], [264], [829, 828, 827], [], [], [], [259], [448, 447, 766], [267], [], [267]]) (by decide +kernel)
set_option maxRecDepth 100000 in
theorem zk64 : kOk lw_tbl zNs zCl zP false zM64 := kM_ok (pc := 752) (pi := 114) (hs := []) (ps := [[], [], [188], [], [187], [367, 366, 753]]) (by decide +kernel)
set_option maxRecDepth 100000 in
theorem zk65 : kOk lw_tbl zNs zCl zP false zM65 := kM_ok (pc := 757) (pi := 117) (hs := []) (ps := [[], [], [], [], [232], [], [], [], [232]]) (by decide +kernel)
