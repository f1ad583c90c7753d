set_option maxRecDepth 100000 in
theorem zk19 : kOk lw_tbl zNs zCl zP false zM19 := kM_ok (pc := 182) (pi := 114) (hs := []) (ps := [[], [183, 141, 142], [], [], [196], [186], [], [184, 144, 112], [], [], [146, 185], [187]]) (by decide +kernel)
set_option maxRecDepth 100000 in
theorem zk20 : kOk lw_tbl zNs zCl zP false zM20 := kM_ok (pc := 201) (pi := 115) (hs := []) (ps := [[], [202, 141, 142], [], [203, 144, 112], [], [], [146, 204], [261], [], [205, 206, 116], [], [208, 0], [262], [], [224, 225, 117], [], [227, 0], [263], [], [240, 241, 118], [], [243, 0], [264], [], [], [259], [], [], [260], [], [], [265]]) (by decide +kernel)
set_option maxRecDepth 100000 in
theorem zk21 : kOk lw_tbl zNs zCl zP false zM21 := kM_ok (pc := 209) (pi := 116) (hs := []) (ps := [[], [210, 141, 142]]) (by decide +kernel)
set_option maxRecDepth 100000 in
theorem zk22 : kOk lw_tbl zNs zCl zP false zM22 := kM_ok (pc := 228) (pi := 117) (hs := []) (ps := [[], [229, 141, 142], [], [], [196], [230], [], [], [196], [231]]) (by decide +kernel)
set_option maxRecDepth 100000 in
theorem zk23 : kOk lw_tbl zNs zCl zP false zM23 := kM_ok (pc := 244) (pi := 118) (hs := []) (ps := [[], [245, 141, 142], [], [], [196], [246], [], [], [196], [247], [], [], [196], [248]]) (by decide +kernel)
set_option maxRecDepth 100000 in
theorem zk24 : kOk lw_tbl zNs zCl zP false zM24 := kM_ok (pc := 303) (pi := 119) (hs := []) (ps := [[], [304, 141, 142], [], [], [196], [306], [], [], [196], [307], [], [], [176], [308], [], [], [305], [], [], [310]]) (by decide +kernel)
set_option maxRecDepth 100000 in
theorem zk25 : kOk lw_tbl zNs zCl zP false zM25 := kM_ok (pc := 364) (pi := 111) (hs := []) (ps := [[], [339], [367, 366, 365]]) (by decide +kernel)
set_option maxRecDepth 100000 in
theorem zk26 : kOk lw_tbl zNs zCl zP false zM26 := kM_ok (pc := 368) (pi := 112) (hs := []) (ps := [[], [], [150]]) (by decide +kernel)
set_option maxRecDepth 100000 in
theorem zk27 : kOk lw_tbl zNs zCl zP false zM27 := kM_ok (pc := 377) (pi := 111) (hs := []) (ps := [[], [], [], [], [], [], [], [], [], [], [], [], [], [], [], [], [], [], [], [], [268], [], [309], [], [], [], [], [], [], [], [], [], [], [], [], [], [339], [448, 447, 446], [], [], [], [], [340], [], [349], [], [], [], [], [], [], [], [], [], [], [], [], [], [], [], [339], [], [468, 467, 466], [], [], [], [339], [448, 447, 446]]) (by decide +kernel)
set_option maxRecDepth 100000 in
theorem zk28 : kOk lw_tbl zNs zCl zP false zM28 := kM_ok (pc := 449) (pi := 112) (hs := []) (ps := [[], [150]]) (by decide +kernel)
set_option maxRecDepth 100000 in
theorem zk29 : kOk lw_tbl zNs zCl zP false zM29 := kM_ok (pc := 469) (pi := 112) (hs := []) (ps := [[], [150], [], [149], [], [], [], [149], [], [150], [], [], [], [], [], [150], [], [], [150]]) (by decide +kernel)
set_option maxRecDepth 100000 in
theorem zk30 : kOk lw_tbl zNs zCl zP false zM30 := kM_ok (pc := 476) (pi := 111) (hs := []) (ps := [[], [340], [], [339], [], [479, 478, 477], [], [268], [], [479], [], [], [], [340], [592, 591, 590], [], [340], [], [484], [], [], [], [340], [], [339], [597, 596, 595]]) (by decide +kernel)
set_option maxRecDepth 100000 in
theorem zk31 : kOk lw_tbl zNs zCl zP false zM31 := kM_ok (pc := 480) (pi := 113) (hs := []) (ps := [[], [], [483, 482, 481], [], [], [498, 497]]) (by decide +kernel)
set_option maxRecDepth 100000 in
theorem zk32 : kOk lw_tbl zNs zCl zP false zM32 := kM_ok (pc := 484) (pi := 113) (hs := []) (ps := [[], [], [], [], [168], [], [], [166], [], [], [], [487, 486, 485]]) (by decide +kernel)
set_option maxRecDepth 100000 in
theorem zk33 : kOk lw_tbl zNs zCl zP false zM33 := kM_ok (pc := 488) (pi := 112) (hs := []) (ps := [[], [150], [], [448, 447, 489], [], [], [], [], [], [], [], [], [], [150], [], [], [], [], [], [492, 491, 490], [495, 494], [], [], [492, 491, 490], [495, 494]]) (by decide +kernel)
set_option maxRecDepth 100000 in
theorem zk34 : kOk lw_tbl zNs zCl zP false zM34 := kM_ok (pc := 493) (pi := 112) (hs := []) (ps := [[], [], [], [], [150], [], [], [149]]) (by decide +kernel)
set_option maxRecDepth 100000 in
theorem zk35 : kOk lw_tbl zNs zCl zP false zM35 := kM_ok (pc := 496) (pi := 126) (hs := []) (ps := []) (by decide +kernel)
