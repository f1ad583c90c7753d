set_option maxRecDepth 100000 in
theorem zk255 : kOk lw_tbl zNs zCl zP false zM255 := kM_ok (pc := 524) (pi := 127) (hs := []) (ps := [[405], [], [], [1734]]) (by decide +kernel)
set_option maxRecDepth 100000 in
theorem zk256 : kOk lw_tbl zNs zCl zP false zM256 := kM_ok (pc := 527) (pi := 128) (hs := []) (ps := [[], [529, 528], [], [], [], [], [], [531, 532, 129, 533], [], [], [], [], [534, 535, 129, 536], [], [], [], [], [], [], [], [], [], [], [538, 537]]) (by decide +kernel)
set_option maxRecDepth 100000 in
theorem zk257 : kOk lw_tbl zNs zCl zP false zM257 := kM_ok (pc := 530) (pi := 128) (hs := []) (ps := []) (by decide +kernel)
set_option maxRecDepth 100000 in
theorem zk258 : kOk lw_tbl zNs zCl zP false zM258 := kM_ok (pc := 539) (pi := 128) (hs := []) (ps := []) (by decide +kernel)
set_option maxRecDepth 100000 in
theorem zk259 : kOk lw_tbl zNs zCl zP false zM259 := kM_ok (pc := 646) (pi := 127) (hs := []) (ps := [[], [513, 512, 511], [], [], [1735], [], [648, 647], [], [], [1735]]) (by decide +kernel)
set_option maxRecDepth 100000 in
theorem zk260 : kOk lw_tbl zNs zCl zP false zM260 := kM_ok (pc := 649) (pi := 128) (hs := []) (ps := [[], [], [], [651, 650]]) (by decide +kernel)
set_option maxRecDepth 100000 in
theorem zk261 : kOk lw_tbl zNs zCl zP false zM261 := kM_ok (pc := 652) (pi := 127) (hs := []) (ps := [[], [], [558], [654, 653]]) (by decide +kernel)
set_option maxRecDepth 100000 in
theorem zk262 : kOk lw_tbl zNs zCl zP false zM262 := kM_ok (pc := 655) (pi := 131) (hs := []) (ps := []) (by decide +kernel)
