section XM
variable {l : Launch} {cl : List vw_C} {kc : Nat → ClassId} {sl : Nat → Nat → Nat} {s0 : State} {B K : Nat} {pre : Nat → Nat} {Ts Ns : List Cond} {X : State → Prop} {P : List xQ6} {Cs : List Value}
/-- what is known of the kinds that are thrown -/
def xEx (kc : Nat → ClassId) (s0 : State) : Prop := ∀ (y z : Nat) (C D : String), xen y = some C → xen z = some D → s0.vm.findClass C = some (kc (80 + y)) ∧ (∃ k : Class, s0.vm.classes[kc (80 + y)]? = some k) ∧ s0.vm.assignable (kc (80 + z)) (kc (80 + y)) = decide (y = z)
theorem xen_lt {z : Nat} {C : String} (h : xen z = some C) : z < 3 := by
  match z, h with
  | 0, _ => decide
  | 1, _ => decide
  | 2, _ => decide
theorem xhd_mem {i z t : Nat} : ∀ {hs : List (Nat × Nat × Nat × Nat × Nat)}, xhd hs i z = some t → ∃ h ∈ hs, h.1 ≤ i ∧ i < h.2.1 ∧ h.2.2.2.1 = z := by
  intro hs
  induction hs with
  | nil => intro h; simp [xhd] at h
  | cons a hs ih =>
    intro h
    obtain ⟨a0, b0, t0, y0, c0⟩ := a
    simp only [xhd] at h
    split at h
    · rename_i hq
      exact ⟨_, List.mem_cons_self, hq.1, hq.2.1, hq.2.2⟩
    · obtain ⟨q, h1, h2⟩ := ih h
      exact ⟨q, List.mem_cons_of_mem _ h1, h2⟩
set_option maxHeartbeats 16000000 in
theorem x_hC (hall : xall Ts Ns cl P) (hXW : ∀ s U : State, s.WarmedH U.vm → X s → X U) (hX : ∀ u U : State, u.vm = U.vm → X u → X U) (hNm : ∀ (ci : Nat) (q : String), xnm cl ci = some q → s0.vm.findClass q = some (kc ci)) (hEx : xEx kc s0) : xHC l cl kc sl s0 B K pre Ts X P := by
  intro k k1 M M1 i pc len ins ax ls st as r hp hp1 hp' z1 t d z hM hM1 hE hc hen y1 y2 y3 y4 hth hgo hhd hnext
  intro M' hM' hls p e R s m args below meth c H locs cells slots mc ms lr hctx hR hL hlo hmc hms hRc hRs hfr hloc
  cases Option.some.inj (hM.symm.trans hM')
  obtain ⟨hexec, hb, hml, hret, hlk, hnm, hown, hts, hal, hXs, hs0, hexc⟩ := id hctx
  obtain ⟨hmk, hcd⟩ := hall.1 k M hM
  obtain ⟨hdec, hlen0, -, -, -, hclk, hhs⟩ := hcd i _ hE
  have hlen9 : len = xLen ins := x_len hlen0 (xcall_fl hc).1
  clear hlen0
  subst hlen9
  have hk0 : 0 < k1 := x_k0 hall hM hE hc
  obtain ⟨hpl, hcode, hini, hmh, hmx, -⟩ := (hall.1 k1 M1 hM1).1 hk0
  obtain ⟨h9, hm9, hc1, hc2, hz9⟩ := xhd_mem hhd
  obtain ⟨-, -, ⟨Cz, hCz, -⟩, hvirt0⟩ := hhs h9 hm9
  have hvirt := hvirt0 ⟨hc1, hc2⟩
  clear hvirt0
  rw [hz9] at hCz
  have hz3 := xen_lt hCz
  have hgood : GoodIn Ts (xcw M1 :: Ts) := fun w hw => by
    rcases List.mem_cons.mp hw with rfl | hw
    · exact hall.2.2 _ hcode
    · exact hall.2.2 _ hw
  have hblind : FrameBlind (xPc cl kc sl s0 B K pre X hp as) := fun a U g mk q => by
    obtain ⟨q1, q2, q3, q4⟩ := q
    exact ⟨q1, q2, q3, hX U _ rfl q4⟩
  have hmet := x_met hall hM1 hk0 hen hgo
  have hstab := pay_in hts hgood
  rw [show xpc M i = pc by unfold xpc; rw [hE]]
  unfold xcall at hc
  split at hc
  · split at hc
    · cases hc; exact absurd hvirt (by simp [xvirt])
    · cases hc
  · split at hc
    · split at hc
      · cases hc; exact absurd hvirt (by simp [xvirt])
      · cases hc
    · cases hc
  · rename_i idx k' n ci rs
    split at hc
    · rename_i a hsta
      split at hc
      · rename_i c1 vs ha
        split at hc
        · rename_i hq
          obtain ⟨hci, hq⟩ := hq
          subst hci
          cases hc
          obtain ⟨-, hlt9, q, hqc, hrest⟩ := hclk
          obtain ⟨hhd1, hsel, hins, -, hnp⟩ := hrest M1 hM1
          have hlink : Cond.methodLink M.1.cls idx M1.1 ∈ Ts := hvirt M1 hM1
          have hcwc : xcw M1 = Cond.code M1.1 M1.2.1 M1.2.2.1 M1.2.2.2.1 := by unfold xcw; rw [hhd1]
          rw [hcwc] at hmet hcode hstab
          have hnp2 : ∀ sig, parseMethodDescriptor M1.1.desc = some sig → n = sig.parameters.length := fun sig h => by rw [h] at hnp; exact (Option.some.inj hnp).symm
          have hlt := (List.getElem?_eq_some_iff.mp hsta).1
          have hlen : (((st.take n).reverse).map (tv (xr B K pre))).length = n := by simp; omega
          have hstk : (F0 m pc lr (st.map (tv (xr B K pre)))).stack = (((st.take n).reverse).map (tv (xr B K pre))).reverse ++ .ref (xr B K pre a) :: (st.drop (n + 1)).map (tv (xr B K pre)) := by
            show st.map (tv (xr B K pre)) = _
            rw [List.map_reverse, List.reverse_reverse]
            conv => lhs; rw [x_split hsta]
            rw [List.map_append]
            rfl
          obtain ⟨cell, g1, g2⟩ := xC_get (hR.2.2.1 a _ ha) (by omega)
          intro T hT XS
          have hrecv : ∃ cellB : Cell, T.heap[xr B K pre a]? = some cellB ∧ cellB.vm.isStatics = false ∧ s.vm.findClass q = some cellB.cls := ⟨cell, by rw [hT]; exact g1, g2.2.2.1, by rw [show cell.cls = kc c1 from g2.1.1 (by show c1 < 100; omega), hal.findClass]; exact hNm _ _ hqc⟩
          have hpre9 : ∀ U : State, U.heap = T.heap → s.WarmedH U.vm → xPc cl kc sl s0 B K pre X hp (.ref a :: (st.take n).reverse) ((Value.ref a :: (st.take n).reverse).map (tv (xr B K pre))).toArray U := fun U hU hW => ⟨rfl, by rw [hU, hT]; exact hR, hal.trans hW.alike, hXW s U hW hXs⟩
          obtain ⟨x, st₀, t9, T', L, X', hLf, hheap, ⟨hR1, hx9⟩, hgo9⟩ := x_callT (n := n) (C := q) (b := xr B K pre a) (g := F0 m pc lr (st.map (tv (xr B K pre)))) (rest := (st.drop (n + 1)).map (tv (xr B K pre))) ⟨hexec, hb, hml, hown, hts⟩ hmet ⟨⟨rfl, rfl, by show d + 1 ≤ R.frames; omega, by show 8 + (M1.2.2.1 + 11) + 64 * d ≤ R.locals; omega, hstab, List.mem_cons_self, hts _ hcode, hts _ hini, hmh, hnp2, hts _ hlink⟩, hts _ hins, hts _ hsel⟩ ⟨hblind, hrecv, hpre9⟩ rfl hlen (hL.1.trans hls) hstk (lv_room (by rw [tv_sum]; exact hq)) hdec ⟨by omega, by omega⟩ XS
          have hx : x = xr B K pre (hp1.length - 1) := by cases hx9; rfl
          obtain ⟨hp0, hp0e⟩ := hth
          have hlast : hp1[hp1.length - 1]? = some (80 + z1, []) := by rw [hp0e]; simp
          obtain ⟨cellX, u1, u2⟩ := xC_get (hR1.2.2.1 _ _ hlast) (by omega)
          have hclsX : cellX.cls = kc (80 + z1) := u2.1.1 (by show 80 + z1 < 100; omega)
          have hpl9 : e.platform.magicAccessors = ({} : Platform).magicAccessors := by rw [XS.admits.platform]
          obtain ⟨vm', hW', hfind⟩ := x_find (e := e) (U := (T'.setTop { F0 m pc lr (st.map (tv (xr B K pre))) with stack := (st.drop (n + 1)).map (tv (xr B K pre)) }).pushFrame (.throwing x)) (f := { F0 m pc lr (st.map (tv (xr B K pre))) with stack := (st.drop (n + 1)).map (tv (xr B K pre)) }) (a := x) (args := args) (s := s) (own := M.1.cls) (cell := cellX) (i := i) (z := z1) (t := t) (F := xpc M) hpl9 hown (by rw [Stand.throwing_heap, hheap, hx]; exact u1) (fun k9 h8 => by have := u2.2.2.1; rw [h8] at this; cases this)
            (by
              rw [hclsX]
              obtain ⟨-, ⟨k9, h8⟩, -⟩ := hEx z1 z1 _ _ hCz hCz
              obtain ⟨k', h7, -⟩ := hal.2.2 _ _ h8
              exact ⟨k', h7⟩)
            (fun y C cI hy hfc => by
              obtain ⟨w1, ⟨k9, w2⟩, w3⟩ := hEx y z1 C Cz hy hCz
              rw [hal.findClass, w1] at hfc
              cases hfc
              obtain ⟨k', h7, -⟩ := hal.2.2 _ _ w2
              exact ⟨⟨k', h7⟩, by rw [hclsX, hal.assignable]; exact w3⟩)
            c.exceptionTable.toList M.2.2.2.2.1 hexc (fun h hh => by
              obtain ⟨v1, v2, ⟨C, v3, v4⟩, -⟩ := hhs h hh
              exact ⟨v1, v2, C, v3, hts _ v4⟩) hhd T'.vm X'.warmed
          have hnx := hnext M hM hls p e R s m args below meth c t9.heap (locs ++ L) (cells + (hp1.length - hp.length)) (slots + (xsz hp1 - xsz hp)) mc ms lr hctx hR1 hL (fun q hq => by
            rcases List.mem_append.mp hq with h8 | h8
            · exact hlo q h8
            · exact hLf q h8) (by omega) (by omega) hRc hRs hfr hloc
          obtain ⟨t2, a1, b1⟩ := hnx (T'.setVm vm') hheap (X'.noted hW')
          refine ⟨t2, hgo9 t2 (x_caught (vm' := vm') (pc := xpc M t) X'.here (fun Q E d' acts => ?_) ?_), b1⟩
          · rw [W.findHandler_eq (by rw [Stand.throwing_vm]; exact X'.method') X'.code]
            exact hfind Q E d' acts
          · rw [hx]
            exact a1
        · cases hc
      · cases hc
    · cases hc
  · cases hc
end XM
