theorem i_vc : Claimed_1_1 ∧ Claimed_1_2 := z_end zPure_ok (zAll zk0 z_k1) z_k2
