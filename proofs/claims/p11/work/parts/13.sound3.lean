section X3
variable {p : Program} {l : Launch} {e : Env} {R : Room} {s : State} {m : MethodId} {args : Array Value} {below : List Frame} {meth : Method} {c : Code} {H : Heap} {locs : List Loc} {cells slots : Nat} {Q : State → Prop} {cc : ByteArray} {pc : Nat} {lr : Array Slot}
variable {cl : List vw_C} {kc : Nat → ClassId} {sl : Nat → Nat → Nat} {s0 : State} {B K : Nat} {pre : Nat → Nat} {Ts Ns : List Cond}
theorem xat_ok {ok : Bool} {vs : List Value} {j : Int32} {v : Value} (h : xat ok vs j = some v) : ok = true ∧ ¬ j < 0 ∧ vs[j.toNatClampNeg]? = some v := by
  unfold xat at h
  split at h
  · rename_i hq
    exact ⟨hq.1, hq.2, h⟩
  · cases h
theorem x_slot {ρ : Nat → Nat} {own : Prop} {cell : Cell} {k : Nat} {vs : List Value} {j : Nat} {v : Value} (h : xCk cl kc sl s0 ρ own cell (k, vs)) (hk : 100 ≤ k) (hj : vs[j]? = some v) : cell.slots[j]? = some (tv ρ v) ∧ vs.length ≤ cell.slots.size := by
  have h5 := h.2.2.2.2.1 j v hj
  have e : xsl sl k j = j := by unfold xsl; rw [if_neg (by omega)]
  have h5' : cell.slots[xsl sl k j]? = some (tv ρ v) := h5
  rw [e] at h5'
  exact ⟨h5', (h.2.2.2.2.2.1 hk).1⟩
theorem x_in {cell : Cell} {j : Int32} {n : Nat} (h0 : ¬ j < 0) (hn : n ≤ cell.slots.size) (hj : j.toNatClampNeg < n) : ¬ (j < 0 ∨ cell.slots.size ≤ j.toNatClampNeg) := by
  rintro (q | q)
  · exact h0 q
  · omega
set_option maxHeartbeats 4000000 in
theorem xR_ok (hexec : p.tables.exec = Jvm.exec) (hb : c.code = cc) (hStr : xStr sl s) {nm own : String} (ho : s.vm.findClass own = some m.cls) (hts : ∀ w ∈ Ts, w.before args s = true) (hcl : ∀ (ci : Nat) (q : vw_C), cl[ci]? = some q → xclok Ts q) (hKn : ∀ (ci : Nat) (q : vw_C), cl[ci]? = some q → u_Kn s q.1 q.2.1 q.2.2 (kc ci) (sl ci)) (hal : s0.vm.Alike s.vm)
    {ins : Instr} {ax : List Nat} {st st' : List Value} {hp : xH} (h : xR ins ax st hp = some st') (hR : xRp cl kc sl s0 B K pre hp H) (hk : xlnk Ts Ns cl nm own ins ax) (hdg : decode cc pc = .ok (ins, xLen ins))
    (k : W p l e R s m args below meth c H locs cells slots Q (F0 m (pc + xLen ins) lr (st'.map (tv (xr B K pre))))) : W p l e R s m args below meth c H locs cells slots Q (F0 m pc lr (st.map (tv (xr B K pre)))) := by
  unfold xR at h
  split at h
  · rename_i idx ci kf rs a r
    split at h
    · rename_i c1 vs ha
      split at h
      · rename_i hc1
        subst hc1
        obtain ⟨v, h1, h2⟩ := Option.map_eq_some_iff.mp h
        cases h2
        obtain ⟨cell, g1, g2⟩ := xC_get (hR.2.2.1 a _ ha) (by rcases hk with ⟨q, -⟩ | ⟨q, -⟩ <;> omega)
        rcases hk with ⟨hlt, q, hq, hkN, hlink⟩ | ⟨rfl, hkN, hlink⟩
        rotate_left
        · obtain ⟨cf, kf2, fi, f, hi, hst, hsl⟩ := hStr kf hkN
          have g5 : cell.slots[xsl sl 70 kf]? = some (tv (xr B K pre) v) := g2.2.2.2.2.1 kf v h1
          rw [show xsl sl 70 kf = sl 70 kf from rfl] at g5
          exact W.getf hexec hb ho (hts _ hlink) hi hst g1 g2.2.1 (by rw [hsl]; exact g5) rfl rfl hdg k
        have hlt : c1 < 100 := by omega
        obtain ⟨hin, -, -⟩ := hcl _ _ hq
        obtain ⟨hS, hfc, kC, hkC, hkind⟩ := hKn _ _ hq
        obtain ⟨cf, kf2, fi, f, hi, hsl⟩ := hS kf hkN
        have g5 : cell.slots[xsl sl c1 kf]? = some (tv (xr B K pre) v) := g2.2.2.2.2.1 kf v h1
        rw [show xsl sl c1 kf = sl c1 kf by unfold xsl; rw [if_pos hlt]] at g5
        exact W.getf hexec hb ho (hts _ hlink) hi (u_facts hfc hkC (u_lays hts hin hkN) hi).1 g1 g2.2.1 (by rw [hsl]; exact g5) rfl rfl hdg k
      · cases h
    · cases h
  · rename_i a r
    split at h
    · rename_i c1 vs ha
      split at h
      · rename_i hc1
        cases h
        obtain ⟨cell, g1, g2⟩ := xC_get (hR.2.2.1 a _ ha) (by omega)
        exact W.alen hexec hb g1 (State.isArrayOf_alike hal (g2.1.2.1 hc1)) (g2.2.2.2.2.2.1 hc1).2 rfl rfl hdg k
      · cases h
    · cases h
  · rename_i j a r
    split at h
    · rename_i c1 vs ha
      obtain ⟨v, h1, h2⟩ := Option.map_eq_some_iff.mp h
      cases h2
      obtain ⟨q1, q2, q3⟩ := xat_ok h1
      have hc1 : c1 = 100 := by simpa using q1
      subst hc1
      obtain ⟨cell, g1, g2⟩ := xC_get (hR.2.2.1 a _ ha) (by omega)
      obtain ⟨g5, hsz⟩ := x_slot g2 (by omega) q3
      exact W.iald hexec hb g1 (State.isArrayOf_alike hal (g2.1.2.1 (Nat.le_refl _))) g2.2.1 (x_in q2 hsz (List.getElem?_eq_some_iff.mp q3).1) g5 rfl rfl hdg k
    · cases h
  · rename_i j a r
    split at h
    · rename_i c1 vs ha
      obtain ⟨v, h1, h2⟩ := Option.map_eq_some_iff.mp h
      cases h2
      obtain ⟨q1, q2, q3⟩ := xat_ok h1
      have hc1 : c1 = 101 ∨ c1 = 103 := by simpa using q1
      obtain ⟨cell, g1, g2⟩ := xC_get (hR.2.2.1 a _ ha) (by omega)
      obtain ⟨g5, hsz⟩ := x_slot g2 (by omega) q3
      rcases hc1 with rfl | rfl
      · exact W.bald hexec hb g1 (State.isArrayOf_alike hal (g2.1.2.1 (Nat.le_of_ble_eq_true rfl))) g2.2.1 (x_in q2 hsz (List.getElem?_eq_some_iff.mp q3).1) g5 rfl rfl hdg k
      · exact W.zald hexec hb g1 (State.isArrayOf_alike hal (g2.1.2.1 (Nat.le_of_ble_eq_true rfl))) g2.2.1 (x_in q2 hsz (List.getElem?_eq_some_iff.mp q3).1) g5 rfl rfl hdg k
    · cases h
  · rename_i j a r
    split at h
    · rename_i c1 vs ha
      obtain ⟨v, h1, h2⟩ := Option.map_eq_some_iff.mp h
      cases h2
      obtain ⟨q1, q2, q3⟩ := xat_ok h1
      have hc1 : c1 = 102 := by simpa using q1
      subst hc1
      obtain ⟨cell, g1, g2⟩ := xC_get (hR.2.2.1 a _ ha) (by omega)
      obtain ⟨g5, hsz⟩ := x_slot g2 (by omega) q3
      exact W.cald hexec hb g1 (State.isArrayOf_alike hal (g2.1.2.1 (Nat.le_of_ble_eq_true rfl))) g2.2.1 (x_in q2 hsz (List.getElem?_eq_some_iff.mp q3).1) g5 rfl rfl hdg k
    · cases h
  · rename_i j a r
    split at h
    · rename_i c1 vs ha
      obtain ⟨v, h1, h2⟩ := Option.map_eq_some_iff.mp h
      cases h2
      obtain ⟨q1, q2, q3⟩ := xat_ok h1
      have hc1 : c1 = 104 := by simpa using q1
      subst hc1
      obtain ⟨cell, g1, g2⟩ := xC_get (hR.2.2.1 a _ ha) (by omega)
      obtain ⟨g5, hsz⟩ := x_slot g2 (by omega) q3
      exact W.lald hexec hb g1 (State.isArrayOf_alike hal (g2.1.2.1 (Nat.le_of_ble_eq_true rfl))) g2.2.1 (x_in q2 hsz (List.getElem?_eq_some_iff.mp q3).1) g5 rfl rfl hdg k
    · cases h
  · rename_i j a r
    split at h
    · rename_i c1 vs ha
      obtain ⟨v, h1, h2⟩ := Option.map_eq_some_iff.mp h
      cases h2
      obtain ⟨q1, q2, q3⟩ := xat_ok h1
      have hc1 : 110 ≤ c1 := by simpa using q1
      obtain ⟨cell, g1, g2⟩ := xC_get (hR.2.2.1 a _ ha) (by omega)
      obtain ⟨g5, hsz⟩ := x_slot g2 (by omega) q3
      obtain ⟨C, hC⟩ := xTy_isr (cl := cl) hc1
      have g6 := State.isArrayOf_alike hal (g2.1.2.1 (by omega))
      rw [hC] at g6
      exact W.aald hexec hb g1 g6 rfl g2.2.1 (x_in q2 hsz (List.getElem?_eq_some_iff.mp q3).1) g5 rfl rfl hdg k
    · cases h
  · cases h
theorem xup_ok {hp hp' : xH} {a : Nat} {ok : Nat → Bool} {j : Int32} {v : Nat → Value} (h : xup K hp a ok j v = some hp') : ∃ (c1 : Nat) (vs : List Value), hp[a]? = some (c1, vs) ∧ K ≤ a ∧ ok c1 = true ∧ ¬ j < 0 ∧ j.toNatClampNeg < vs.length ∧ hp' = hp.set a (c1, vs.set j.toNatClampNeg (v c1)) := by
  unfold xup at h
  split at h
  · rename_i c1 vs ha
    split at h
    · rename_i hq
      cases h
      exact ⟨c1, vs, ha, hq.1, hq.2.1, hq.2.2.1, hq.2.2.2, rfl⟩
    · cases h
  · cases h
theorem x_locs {a i : Nat} (h : ∀ q ∈ locs, B ≤ q.base) (ha : B ≤ a) : ∀ q ∈ locs ++ [(⟨a, i⟩ : Loc)], B ≤ q.base := by
  intro q hq
  rcases List.mem_append.mp hq with h1 | h1
  · exact h q h1
  · rw [List.mem_singleton.mp h1]
    exact ha
theorem xr_B {a : Nat} (h : K ≤ a) : B ≤ xr B K pre a := by
  rw [xr_ge h]
  exact Nat.le_add_right _ _
set_option maxHeartbeats 8000000 in
theorem xW_ok (hexec : p.tables.exec = Jvm.exec) (hb : c.code = cc) {nm own : String} (ho : s.vm.findClass own = some m.cls) (hnm : meth.name = nm) (hts : ∀ w ∈ Ts, w.before args s = true) (hcl : ∀ (ci : Nat) (q : vw_C), cl[ci]? = some q → xclok Ts q) (hKn : ∀ (ci : Nat) (q : vw_C), cl[ci]? = some q → u_Kn s q.1 q.2.1 q.2.2 (kc ci) (sl ci)) (hal : s0.vm.Alike s.vm) (hpre : ∀ i, i + 1 < K → pre i < B) (hlo : ∀ q ∈ locs, B ≤ q.base)
    {ins : Instr} {ax : List Nat} {st st' : List Value} {hp hp' : xH} (h : xW K ins ax st hp = some (st', hp')) (hR : xRp cl kc sl s0 B K pre hp H) (hk : xlnk Ts Ns cl nm own ins ax) (hdg : decode cc pc = .ok (ins, xLen ins))
    (k : ∀ (H' : Heap) (locs' : List Loc), xRp cl kc sl s0 B K pre hp' H' → (∀ q ∈ locs', B ≤ q.base) → W p l e R s m args below meth c H' locs' cells slots Q (F0 m (pc + xLen ins) lr (st'.map (tv (xr B K pre))))) : W p l e R s m args below meth c H locs cells slots Q (F0 m pc lr (st.map (tv (xr B K pre)))) := by
  unfold xW at h
  split at h
  · rename_i idx ci kf t rs v a r
    split at h
    · rename_i c1 vs ha
      split at h
      · rename_i hq9
        obtain ⟨hKa, hc1, hkv, hft⟩ := hq9
        subst hc1
        cases h
        obtain ⟨hlt7, q, hq, hkN, hlink, ht, hfin⟩ := hk
        have hlt : c1 < 100 := by omega
        subst ht
        obtain ⟨hin, hnmd, hty⟩ := hcl _ _ hq
        obtain ⟨hn, hfit⟩ := xfit_ok (ρ := xr B K pre) hft
        have hKq := hKn _ _ hq
        have hap : ∀ x y, x < q.2.2 → y < q.2.2 → x ≠ y → sl c1 x ≠ sl c1 y := va_apart (D := (kc, sl)) (cl := cl) (tys := []) (own := own) hts hin (xty0 q) (fun k hk => (hty k hk).1) hnmd ⟨fun c q hq => hKn c q hq, fun k q h => by simp at h⟩ hq
        obtain ⟨hS, hfc, kC, hkC, hkind⟩ := hKq
        obtain ⟨cf, kf2, fi, f, hi, hsl⟩ := hS kf hkN
        obtain ⟨cell, g1, g2⟩ := xC_get (hR.2.2.1 a _ ha) (by omega)
        have hvm : cell.vm = .none := g2.2.2.2.1 hKa
        have hcls : cell.cls = kc c1 := g2.1.1 hlt
        have hst := (u_facts hfc hkC (u_lays hts hin hkN) hi).1
        have hlay := hts _ (hin _ (u_in_lay hkN))
        have h9 : vs[kf]? = some (vs[kf]'hkv) := List.getElem?_eq_getElem hkv
        have g5 : cell.slots[xsl sl c1 kf]? = some (tv (xr B K pre) (vs[kf]'hkv)) := g2.2.2.2.2.1 kf _ h9
        rw [show xsl sl c1 kf = sl c1 kf by unfold xsl; rw [if_pos hlt]] at g5
        have done : ∀ H' : Heap, H'[xr B K pre a]? = some (cell.setSlot f.slot (tv (xr B K pre) v)) → H'.size = H.size → (∀ q, q ≠ xr B K pre a → H'[q]? = H[q]?) → W p l e R s m args below meth c H' (locs ++ [⟨xr B K pre a, f.slot⟩]) cells slots Q (F0 m (pc + 3) lr (st'.map (tv (xr B K pre)))) := by
          intro H' e1 e2 e3
          refine k H' _ (xRp_set hpre hR ha hKa e2 e3 (Or.inr ⟨_, e1, ?_⟩)) (x_locs hlo (xr_B hKa))
          rw [hsl]
          exact xCk_obj g2 hlt hq hap hkv
        rcases hfin with hfin | ⟨hfin, hini, hdecl⟩
        · unfold u_lay at hlay
          rw [if_neg (by rw [hfin]; decide)] at hlay
          have h6 := u_store hfc hkC hkind hlay hi (hty kf hkN).1 hn hfit
          exact W.putK hexec hb (f := f) ⟨ho, hts _ hlink, ⟨_, _, _, hi⟩, hst⟩ (by rw [hcls]; exact h6) g1 hvm (by rw [hsl]; exact k2_hasslot g5) rfl rfl hdg done
        · unfold u_lay at hlay
          rw [if_pos hfin] at hlay
          have hcf : m.cls = cf := by
            obtain ⟨_, _, c', _, _, _, -, -, hf', -, -, -, hown2, -⟩ := Cond.laysFinal_spec hlay
            have e1 : c' = cf := by have := hi.symm.trans hf'; simp at this; exact this.1.symm
            rw [hdecl] at hown2
            rw [← e1]; exact Option.some.inj (ho.symm.trans hown2)
          have h6 := u_fits hfc hkC hkind (Or.inr hlay) hi (hty kf hkN).1 hn hfit
          exact W.putFinK hexec hb ho (hts _ hlink) hi hst hcf (hnm.trans hini) (by rw [hcls]; exact h6) g1 hvm (by rw [hsl]; exact k2_hasslot g5) rfl rfl hdg done
      · cases h
    · cases h
  · rename_i x j a r
    obtain ⟨h', h1, h2⟩ := Option.map_eq_some_iff.mp h
    cases h2
    obtain ⟨c1, vs, ha, hKa, hok, hj0, hj, rfl⟩ := xup_ok h1
    have hc1 : c1 = 100 := by simpa using hok
    subst hc1
    obtain ⟨cell, g1, g2⟩ := xC_get (hR.2.2.1 a _ ha) (by omega)
    have hsz : vs.length ≤ cell.slots.size := (g2.2.2.2.2.2.1 (Nat.le_of_ble_eq_true rfl)).1
    exact W.iast hexec hb g1 (State.isArrayOf_alike hal (g2.1.2.1 (Nat.le_of_ble_eq_true rfl))) g2.2.1 (x_in hj0 hsz hj) rfl rfl hdg fun H' e1 e2 e3 => k H' _ (xRp_set hpre hR ha hKa e2 e3 (Or.inr ⟨_, e1, xCk_arr (v := .int x) g2 (Nat.le_of_ble_eq_true rfl) hj⟩)) (x_locs hlo (xr_B hKa))
  · rename_i x j a r
    obtain ⟨h', h1, h2⟩ := Option.map_eq_some_iff.mp h
    cases h2
    obtain ⟨c1, vs, ha, hKa, hok, hj0, hj, rfl⟩ := xup_ok h1
    have hc1 : c1 = 101 ∨ c1 = 103 := by simpa using hok
    obtain ⟨cell, g1, g2⟩ := xC_get (hR.2.2.1 a _ ha) (by omega)
    have hsz : vs.length ≤ cell.slots.size := (g2.2.2.2.2.2.1 (show 100 ≤ c1 by omega)).1
    rcases hc1 with rfl | rfl
    · exact W.bast hexec hb g1 (State.isArrayOf_alike hal (g2.1.2.1 (Nat.le_of_ble_eq_true rfl))) g2.2.1 (x_in hj0 hsz hj) rfl rfl hdg fun H' e1 e2 e3 => k H' _ (xRp_set hpre hR ha hKa e2 e3 (Or.inr ⟨_, e1, xCk_arr (v := narrow .byte (.int x)) g2 (Nat.le_of_ble_eq_true rfl) hj⟩)) (x_locs hlo (xr_B hKa))
    · exact W.zast hexec hb g1 (State.isArrayOf_alike hal (g2.1.2.1 (Nat.le_of_ble_eq_true rfl))) g2.2.1 (x_in hj0 hsz hj) rfl rfl hdg fun H' e1 e2 e3 => k H' _ (xRp_set hpre hR ha hKa e2 e3 (Or.inr ⟨_, e1, xCk_arr (v := narrow .boolean (.int x)) g2 (Nat.le_of_ble_eq_true rfl) hj⟩)) (x_locs hlo (xr_B hKa))
  · rename_i x j a r
    obtain ⟨h', h1, h2⟩ := Option.map_eq_some_iff.mp h
    cases h2
    obtain ⟨c1, vs, ha, hKa, hok, hj0, hj, rfl⟩ := xup_ok h1
    have hc1 : c1 = 102 := by simpa using hok
    subst hc1
    obtain ⟨cell, g1, g2⟩ := xC_get (hR.2.2.1 a _ ha) (by omega)
    have hsz : vs.length ≤ cell.slots.size := (g2.2.2.2.2.2.1 (Nat.le_of_ble_eq_true rfl)).1
    exact W.cast hexec hb g1 (State.isArrayOf_alike hal (g2.1.2.1 (Nat.le_of_ble_eq_true rfl))) g2.2.1 (x_in hj0 hsz hj) rfl rfl hdg fun H' e1 e2 e3 => k H' _ (xRp_set hpre hR ha hKa e2 e3 (Or.inr ⟨_, e1, xCk_arr (v := narrow .char (.int x)) g2 (Nat.le_of_ble_eq_true rfl) hj⟩)) (x_locs hlo (xr_B hKa))
  · rename_i x j a r
    obtain ⟨h', h1, h2⟩ := Option.map_eq_some_iff.mp h
    cases h2
    obtain ⟨c1, vs, ha, hKa, hok, hj0, hj, rfl⟩ := xup_ok h1
    have hc1 : c1 = 104 := by simpa using hok
    subst hc1
    obtain ⟨cell, g1, g2⟩ := xC_get (hR.2.2.1 a _ ha) (by omega)
    have hsz : vs.length ≤ cell.slots.size := (g2.2.2.2.2.2.1 (Nat.le_of_ble_eq_true rfl)).1
    exact W.last hexec hb g1 (State.isArrayOf_alike hal (g2.1.2.1 (Nat.le_of_ble_eq_true rfl))) g2.2.1 (x_in hj0 hsz hj) rfl rfl hdg fun H' e1 e2 e3 => k H' _ (xRp_set hpre hR ha hKa e2 e3 (Or.inr ⟨_, e1, xCk_arr (v := .long x) g2 (Nat.le_of_ble_eq_true rfl) hj⟩)) (x_locs hlo (xr_B hKa))
  · rename_i ci rs v j a r
    split at h
    · rename_i cv vv hv
      split at h
      · rename_i hcv
        obtain ⟨hcv, hlt⟩ := hcv
        subst hcv
        obtain ⟨h', h1, h2⟩ := Option.map_eq_some_iff.mp h
        cases h2
        obtain ⟨c1, vs, ha, hKa, hok, hj0, hj, rfl⟩ := xup_ok h1
        have hc1 : c1 = 110 + cv := by simpa using hok
        subst hc1
        obtain ⟨hlt7, q, hq⟩ := hk
        obtain ⟨cell, g1, g2⟩ := xC_get (hR.2.2.1 a _ ha) (by omega)
        obtain ⟨cellV, v1, v2⟩ := xC_get (hR.2.2.1 v _ hv) (by omega)
        have hRA : va_RA s0 cell.cls (xTy cl (110 + cv)) := g2.1.2.2 (Nat.le_add_right _ _)
        rw [xTy_ref (q := q) (Nat.le_add_right _ _) (by rw [Nat.add_sub_cancel_left]; exact hq)] at hRA
        obtain ⟨kA, comp, k1, k2, k3, -⟩ := va_RA.moved hal hRA
        have hcls := (hKn cv q hq).2
        have hcomp : comp = kc cv := Option.some.inj (k3.symm.trans hcls.1)
        subst hcomp
        obtain ⟨kC, hkC, -⟩ := hcls.2
        have e9 : cellV.cls = kc cv := v2.1.1 hlt
        have hsz : vs.length ≤ cell.slots.size := (g2.2.2.2.2.2.1 (show 100 ≤ 110 + cv by omega)).1
        have nst : ∀ {cl9 : Cell}, cl9.vm.isStatics = false → ∀ q, cl9.vm ≠ .statics q := fun h9 q h8 => by rw [h8] at h9; cases h9
        exact W.aast hexec hb g1 (nst g2.2.2.1) g2.2.1 k1 k2 rfl hkC ⟨hj0, Nat.lt_of_lt_of_le hj hsz⟩ v1 (nst v2.2.2.1) (by rw [e9]; exact hkC) (by rw [e9]; exact va_assign hcls) rfl rfl hdg fun H' e1 e2 e3 => k H' _ (xRp_set hpre hR ha hKa e2 e3 (Or.inr ⟨_, e1, xCk_arr (v := .ref v) g2 (show 100 ≤ 110 + cv by omega) hj⟩)) (x_locs hlo (xr_B hKa))
      · cases h
    · cases h
  · cases h
theorem vm_nu {cell : Cell} (h : cell.vm = .none) : cell.vm ≠ .unknown := by
  rw [h]
  intro q
  cases q
theorem vm_ns {cell : Cell} (h : cell.vm = .none) : cell.vm.isStatics = false := by
  rw [h]
  rfl
theorem xat2_ty {t : ArrayType} (h : 100 ≤ xat2 t) : xTy cl (xat2 t) = newarray.typeOf t ∧ xat2 t < 110 ∧ defaultValue (newarray.typeOf t) = (if t = .long then .long 0 else .int 0) ∧ componentBytes (newarray.typeOf t) ≤ 8 := by
  cases t <;> first | exact absurd h (by decide) | exact ⟨rfl, by decide, rfl, by decide⟩
theorem xdef_ok {ty : FieldType} (h : xtc ty ≠ 9) : defaultValue ty = xdef (xtc ty) := by
  cases ty <;> first | rfl | exact absurd rfl h
theorem tv_def (ρ : Nat → Nat) (t : Nat) : tv ρ (xdef t) = xdef t := by
  unfold xdef
  split <;> rfl
set_option maxHeartbeats 8000000 in
theorem xA_ok (hexec : p.tables.exec = Jvm.exec) (hb : c.code = cc) {nm own : String} (ho : s.vm.findClass own = some m.cls) (hts : ∀ w ∈ Ts, w.before args s = true) (hcl : ∀ (ci : Nat) (q : vw_C), cl[ci]? = some q → xclok Ts q) (hKn : ∀ (ci : Nat) (q : vw_C), cl[ci]? = some q → u_Kn s q.1 q.2.1 q.2.2 (kc ci) (sl ci)) (hal : s0.vm.Alike s.vm) (hNs : ∀ w ∈ Ns, va_Nw w s)
    {ins : Instr} {ax : List Nat} {st st' : List Value} {hp hp' : xH} (h : xA ins ax st hp = some (st', hp')) (hR : xRp cl kc sl s0 B K pre hp H) (hk : xlnk Ts Ns cl nm own ins ax) (hdg : decode cc pc = .ok (ins, xLen ins))
    (hroom : ∀ o : xO, hp' = hp ++ [o] → cells + 1 ≤ R.cells ∧ slots + o.2.length ≤ R.slots)
    (k : ∀ (H' : Heap) (o : xO), hp' = hp ++ [o] → xRp cl kc sl s0 B K pre hp' H' → W p l e R s m args below meth c H' locs (cells + 1) (slots + o.2.length) Q (F0 m (pc + xLen ins) lr (st'.map (tv (xr B K pre))))) : W p l e R s m args below meth c H locs cells slots Q (F0 m pc lr (st.map (tv (xr B K pre)))) := by
  unfold xA at h
  split at h
  · rename_i idx ci ts
    split at h
    · rename_i hlt0
      have hlt : ci < 100 := by omega
      cases h
      obtain ⟨q, hq, hcl1, hcl2, hcl3, hts9⟩ := hk hlt
      have hlen : ts.length = q.2.2 := by rw [hts9]; simp
      obtain ⟨hin, hnmd, hty⟩ := hcl _ _ hq
      have hKq := hKn _ _ hq
      obtain ⟨r1, r2⟩ := hroom _ rfl
      have hl2 : (ci, ts.map xdef).2.length = q.2.2 := by simp [hlen]
      rw [hl2] at r2
      refine W.newcK hexec hb ho (hts _ hcl1) (hts _ hcl2) (hts _ hcl3) rfl hdg r1 r2 hKq.2.1 rfl fun H1 kC hkC e1 z1 o1 => ?_
      obtain ⟨cell, b1, b2, b3, b4⟩ := u_born (xty0 q) hts hin hKq hkC e1 (fun k hk => (hty k hk).1)
      have hx := k H1 (ci, ts.map xdef) rfl (xRp_push hR b1 z1 o1 ⟨⟨fun _ => b2, fun g => absurd hlt (by omega), fun g => absurd hlt (by omega)⟩, vm_nu b3, vm_ns b3, fun _ => b3, fun j v hj => ?_, fun g => absurd hlt (by omega), fun _ q' hq' => ?_⟩)
      · rw [hl2] at hx
        have e9 : xr B K pre hp.length = H.size := xr_len hR
        have hx' : W p l e R s m args below meth c H1 locs (cells + 1) (slots + q.2.2) Q (F0 m (pc + 3) lr (.ref (xr B K pre hp.length) :: st.map (tv (xr B K pre)))) := hx
        rw [e9] at hx'
        exact hx'
      · have hjl : j < q.2.2 := by
          have := (List.getElem?_eq_some_iff.mp hj).1
          simpa [hlen] using this
        have e8 : v = defaultValue (xty0 q j) := by
          have hj' : (ts.map xdef)[j]? = some v := hj
          rw [hts9, List.map_map, List.getElem?_map, List.getElem?_range hjl] at hj'
          have := Option.some.inj hj'
          rw [← this]
          exact (xdef_ok (hty j hjl).2).symm
        have e7 : tv (xr B K pre) v = v := by rw [e8, xdef_ok (hty j hjl).2, tv_def]
        rw [e7, e8, show xsl sl (ci, ts.map xdef).1 j = sl ci j by unfold xsl; rw [if_pos hlt]]
        exact b4 j hjl
      · rw [hq] at hq'
        cases hq'
        exact Nat.le_of_eq hl2
    · cases h
  · rename_i t n r
    split at h
    · rename_i hq
      obtain ⟨hn, hN, hkd⟩ := hq
      cases h
      obtain ⟨e1, e2, e3, e4⟩ := xat2_ty (cl := cl) hkd
      obtain ⟨r1, r2⟩ := hroom _ rfl
      have hl2 : ((xat2 t, List.replicate n.toNatClampNeg (if t = .long then Value.long 0 else Value.int 0)) : xO).2.length = n.toNatClampNeg := by simp
      rw [hl2] at r2
      have hbytes : n.toNatClampNeg * componentBytes (newarray.typeOf t) ≤ 536870912 := Nat.le_trans (Nat.mul_le_mul hN e4) (by decide)
      refine W.newaK hexec hb (hts _ hk) rfl hdg rfl hn rfl hbytes r1 r2 rfl fun H1 cA g1 z1 o1 hA => ?_
      have hx := k H1 (xat2 t, List.replicate n.toNatClampNeg (if t = .long then Value.long 0 else Value.int 0)) rfl (xRp_push hR g1 z1 o1 ⟨⟨fun g => absurd hkd (by omega), fun _ => by rw [e1]; exact State.isArrayOf_alike hal.symm (hA _ _), fun g => absurd e2 (by omega)⟩, vm_nu rfl, vm_ns rfl, fun _ => rfl, fun j v hj => ?_, fun _ => by rw [arrV_size]; simp, fun g => absurd hkd (by omega)⟩)
      · rw [hl2] at hx
        have e9 : xr B K pre hp.length = H.size := xr_len hR
        have hx' : W p l e R s m args below meth c H1 locs (cells + 1) (slots + n.toNatClampNeg) Q (F0 m (pc + 2) lr (.ref (xr B K pre hp.length) :: r.map (tv (xr B K pre)))) := hx
        rw [e9] at hx'
        exact hx'
      · have hj' : (List.replicate n.toNatClampNeg (if t = .long then Value.long 0 else Value.int 0))[j]? = some v := hj
        have hjl := (List.getElem?_eq_some_iff.mp hj').1
        rw [List.length_replicate] at hjl
        rw [List.getElem?_replicate_of_lt hjl] at hj'
        have hv := Option.some.inj hj'
        rw [show xsl sl (xat2 t) j = j by unfold xsl; rw [if_neg (by omega)], arrV_read _ _ hjl, e3, ← hv]
        split <;> rfl
    · cases h
  · rename_i idx ci n r
    split at h
    · rename_i hq
      obtain ⟨hn, hN, hlt⟩ := hq
      cases h
      obtain ⟨q, hq, hcl1, hcl2⟩ := hk
      obtain ⟨r1, r2⟩ := hroom _ rfl
      have hl2 : ((110 + ci, List.replicate n.toNatClampNeg Value.null) : xO).2.length = n.toNatClampNeg := by simp
      rw [hl2] at r2
      refine W.anew hexec hb ho (hts _ hcl1) (va_AO.use (hNs _ hcl2)) rfl hdg rfl hn (by omega) r1 r2 fun cA kA comp f1 f2 f3 f4 => ?_
      have hty : xTy cl (110 + ci) = .object q.1 := xTy_ref (Nat.le_add_right _ _) (by rw [Nat.add_sub_cancel_left]; exact hq)
      have hx := k (H.push { cls := cA, slots := Array.replicate n.toNatClampNeg .null, vm := .none }) (110 + ci, List.replicate n.toNatClampNeg Value.null) rfl (xRp_push hR (by rw [Array.getElem?_push_size]) (by rw [Array.size_push]) (fun q hq => by rw [Array.getElem?_push, if_neg (Nat.ne_of_lt hq)]) ⟨⟨fun g => absurd g (show ¬ 110 + ci < 100 by omega), fun _ => by rw [hty]; exact State.isArrayOf_alike hal.symm ⟨fun k h => (by cases h), kA, f2, comp, f3⟩, fun _ => by rw [hty]; exact va_RA.moved hal.symm (ty := .object q.1) ⟨kA, comp, f2, f3, f4, f1⟩⟩, vm_nu rfl, vm_ns rfl, fun _ => rfl, fun j v hj => ?_, fun _ => by simp, fun g => absurd g (show ¬ 110 + ci < 100 by omega)⟩)
      · rw [hl2] at hx
        have e9 : xr B K pre hp.length = H.size := xr_len hR
        have hx' : W p l e R s m args below meth c (H.push { cls := cA, slots := Array.replicate n.toNatClampNeg .null, vm := .none }) locs (cells + 1) (slots + n.toNatClampNeg) Q (F0 m (pc + 3) lr (.ref (xr B K pre hp.length) :: r.map (tv (xr B K pre)))) := hx
        rw [e9] at hx'
        exact hx'
      · have hj' : (List.replicate n.toNatClampNeg Value.null)[j]? = some v := hj
        have hjl := (List.getElem?_eq_some_iff.mp hj').1
        rw [List.length_replicate] at hjl
        rw [List.getElem?_replicate_of_lt hjl] at hj'
        have hv := Option.some.inj hj'
        rw [show xsl sl (110 + ci) j = j by unfold xsl; rw [if_neg (by omega)], ← hv]
        simp [hjl, tv]
    · cases h
  · cases h
end X3
