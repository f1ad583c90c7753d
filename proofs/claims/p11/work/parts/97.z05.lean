set_option maxRecDepth 100000 in
theorem zk36 : kOk lw_tbl zNs zCl zP false zM36 := kM_ok (pc := 499) (pi := 113) (hs := []) (ps := [[], [448, 447, 500], [], [], [], [], [], [], [], [], [], [], [], [], [], [], [], [], [], [], [391], [], [], [492, 491, 502], [], [505, 504, 503], [], [], [], [], [], [], [], [], [], [], [], [492, 491, 502], [], [], [], [], [], [], [492, 491, 502]]) (by decide +kernel)
set_option maxRecDepth 100000 in
theorem zk37 : kOk lw_tbl zNs zCl zP false zM37 := kM_ok (pc := 593) (pi := 113) (hs := []) (ps := [[], [168]]) (by decide +kernel)
set_option maxRecDepth 100000 in
theorem zk38 : kOk lw_tbl zNs zCl zP false zM38 := kM_ok (pc := 598) (pi := 113) (hs := []) (ps := [[], [592, 591, 599], [], [], [], [], [], [168], [], [], [168], [], [], [168], [], [], [], [602, 601, 600], [], [168]]) (by decide +kernel)
set_option maxRecDepth 100000 in
theorem zk39 : kOk lw_tbl zNs zCl zP false zM39 := kM_ok (pc := 603) (pi := 113) (hs := []) (ps := [[], [], [606, 605, 604], [], [], [166], [], [], [], [610, 609, 608], [], [167], [], [], [615, 614]]) (by decide +kernel)
set_option maxRecDepth 100000 in
theorem zk40 : kOk lw_tbl zNs zCl zP false zM40 := kM_ok (pc := 607) (pi := 113) (hs := []) (ps := [[], [], [], [], [168]]) (by decide +kernel)
set_option maxRecDepth 100000 in
theorem zk41 : kOk lw_tbl zNs zCl zP false zM41 := kM_ok (pc := 611) (pi := 112) (hs := []) (ps := [[], [367, 366, 612], [], [], [], [], [448, 447, 489], [], [], [], [], [492, 491, 490], [468, 467, 613]]) (by decide +kernel)
set_option maxRecDepth 100000 in
theorem zk42 : kOk lw_tbl zNs zCl zP false zM42 := kM_ok (pc := 616) (pi := 113) (hs := []) (ps := [[], [448, 447, 500], [], [], [], [619, 618, 617], [], [], [], [], [], [], [], [], [], [], [], [635, 634, 633], [], [], [], [665, 664]]) (by decide +kernel)
set_option maxRecDepth 100000 in
theorem zk43 : kOk lw_tbl zNs zCl zP false zM43 := kM_ok (pc := 620) (pi := 112) (hs := []) (ps := [[], [], [], [], [492, 491, 490], [622, 621], [], [], [], [150], [], [], [], [492, 491, 490], [628, 627]]) (by decide +kernel)
set_option maxRecDepth 100000 in
theorem zk44 : kOk lw_tbl zNs zCl zP false zM44 := kM_ok (pc := 623) (pi := 126) (hs := []) (ps := [[], [625, 624]]) (by decide +kernel)
set_option maxRecDepth 100000 in
theorem zk45 : kOk lw_tbl zNs zCl zP false zM45 := kM_ok (pc := 626) (pi := 126) (hs := []) (ps := []) (by decide +kernel)
set_option maxRecDepth 100000 in
theorem zk46 : kOk lw_tbl zNs zCl zP false zM46 := kM_ok (pc := 629) (pi := 126) (hs := []) (ps := [[], [625, 624], [], [], [631, 630]]) (by decide +kernel)
set_option maxRecDepth 100000 in
theorem zk47 : kOk lw_tbl zNs zCl zP false zM47 := kM_ok (pc := 632) (pi := 126) (hs := []) (ps := []) (by decide +kernel)
set_option maxRecDepth 100000 in
theorem zk48 : kOk lw_tbl zNs zCl zP false zM48 := kM_ok (pc := 636) (pi := 112) (hs := []) (ps := [[], [], [], [], [], [], [527], [], [], [640, 639, 638], [], [], [], [], [], [], [], [], [], [553], [], [], [640, 639, 638]]) (by decide +kernel)
set_option maxRecDepth 100000 in
theorem zk49 : kOk lw_tbl zNs zCl zP false zM49 := kM_ok (pc := 641) (pi := 112) (hs := []) (ps := [[], [], [519, 518, 642], [], [], [], [], [], [], [], [], [], [], [], [], [], [], [], [], [492, 491, 490], [495, 494], [], [], [645, 644, 643]]) (by decide +kernel)
set_option maxRecDepth 100000 in
theorem zk50 : kOk lw_tbl zNs zCl zP false zM50 := kM_ok (pc := 666) (pi := 113) (hs := []) (ps := [[], [], [], [], [448, 447, 500], [], [], [], [492, 491, 502], [625, 667], [], [], [], [], [], [], [], [448, 447, 500], [], [], [], [492, 491, 502], [631, 668], [], [], [], [], [], [], [], [], [], [], [], [], [], [], [448, 447, 500]]) (by decide +kernel)
set_option maxRecDepth 100000 in
theorem zk51 : kOk lw_tbl zNs zCl zP false zM51 := kM_ok (pc := 676) (pi := 111) (hs := []) (ps := [[], [340], [], [606, 605, 677], [], [568], [], [577], [], [], [], [340], [], [339], [], [479, 478, 477], [], [268], [], [584], [], [], [], [340], [], [], [339], [602, 601, 695]]) (by decide +kernel)
set_option maxRecDepth 100000 in
theorem zk52 : kOk lw_tbl zNs zCl zP false zM52 := kM_ok (pc := 702) (pi := 111) (hs := []) (ps := [[], [340], [], [606, 605, 677], [], [568], [], [577], [], [], [], [340], [], [705, 704, 703], [], [], [], [], [], [], [], [1, 709, 707], [], [], [], [], [], [716, 715, 714], [], [342], [], [], [342], [], [], [], [735, 734]]) (by decide +kernel)
