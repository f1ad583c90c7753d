section XP
variable {cl : List vw_C} {kc : Nat → ClassId} {sl : Nat → Nat → Nat} {s0 : State} {B K : Nat} {pre : Nat → Nat}
theorem fold_set (at9 : Nat) : ∀ (vals : List Value) (i : Nat) (vs : List Value), at9 + i + vals.length ≤ vs.length → (vals.zipIdx i).foldl (fun l p => l.set (at9 + p.2) p.1) vs = vs.take (at9 + i) ++ vals ++ vs.drop (at9 + i + vals.length) := by
  intro vals
  induction vals with
  | nil => intro i vs h; simp
  | cons v vals ih =>
    intro i vs h
    rw [List.length_cons] at h
    rw [List.zipIdx_cons, List.foldl_cons, ih (i + 1) (vs.set (at9 + i) v) (by rw [List.length_set]; omega)]
    refine List.ext_getElem? fun j => ?_
    rw [List.length_cons, show at9 + (i + 1) = at9 + i + 1 by omega, show at9 + i + 1 + vals.length = at9 + i + (vals.length + 1) by omega]
    simp only [List.getElem?_append, List.length_append, List.length_take, List.length_set, List.length_cons]
    have e1 : min (at9 + i + 1) vs.length = at9 + i + 1 := by omega
    have e2 : min (at9 + i) vs.length = at9 + i := by omega
    rw [e1, e2]
    by_cases c1 : j < at9 + i
    · rw [if_pos (by omega), if_pos (by omega), if_pos (by omega), if_pos c1, List.getElem?_take_of_lt (by omega), List.getElem?_take_of_lt c1, List.getElem?_set_ne (by omega)]
    · by_cases c2 : j = at9 + i
      · subst c2
        rw [if_pos (by omega), if_pos (by omega), if_pos (by omega), if_neg (by omega), List.getElem?_take_of_lt (by omega), List.getElem?_set_self (by omega), Nat.sub_self]
        rfl
      · by_cases c3 : j < at9 + i + 1 + vals.length
        · rw [if_pos c3, if_neg (by omega), if_pos (by omega), if_neg c1, show j - (at9 + i) = (j - (at9 + i + 1)) + 1 by omega, List.getElem?_cons_succ]
        · rw [if_neg c3, if_neg (by omega), List.getElem?_drop, List.getElem?_drop, List.getElem?_set_ne (by omega)]
          congr 1
          omega
theorem xCk_run {ρ : Nat → Nat} {own : Prop} {c at9 : Nat} (hc : 100 ≤ c) : ∀ (ps : List (Value × Nat)) (cell : Cell) (vs : List Value), xCk cl kc sl s0 ρ own cell (c, vs) → (∀ p ∈ ps, at9 + p.2 < vs.length) → xCk cl kc sl s0 ρ own (cell.storePairs at9 (ps.map fun p => (tv ρ p.1, p.2))) (c, ps.foldl (fun l p => l.set (at9 + p.2) p.1) vs) := by
  intro ps
  induction ps with
  | nil => intro cell vs h _; exact h
  | cons p ps ih =>
    intro cell vs h hl
    have h1 := xCk_arr (v := p.1) h hc (hl p List.mem_cons_self)
    exact ih _ _ h1 (fun q hq => by rw [List.length_set]; exact hl q (List.mem_cons_of_mem _ hq))
end XP
section XQ
variable {l : Launch} {cl : List vw_C} {kc : Nat → ClassId} {sl : Nat → Nat → Nat} {s0 : State} {B K : Nat} {pre : Nat → Nat} {Ts Ns : List Cond} {X : State → Prop} {P : List xQ6}
set_option maxHeartbeats 8000000 in
theorem x_hA (hall : xall Ts Ns cl P) (hpre : ∀ i, i + 1 < K → pre i < B) : xHA l cl kc sl s0 B K pre Ts X P := by
  intro k M i pc len ins ax st st' hp hp' hM hE hs p e R s m args below meth c H locs cells slots Q lr ls hctx hR hL hls hlo hfr hlc hRc9 hRs9 kk
  obtain ⟨hexec, hb, hml, hret, hlk, hnm, hown, hts, hal, hXs, hs0, hexc⟩ := hctx
  obtain ⟨hdec, hlen0, -, -, -, hclk, -⟩ := (hall.1 k M hM).2 i _ hE
  have hlen9 : len = xLen ins := x_len hlen0 (xsp_fl hs).1
  clear hlen0
  subst hlen9
  unfold xsp at hs
  split at hs
  · rename_i idx a r
    split at hs
    · rename_i hsum
      cases hs
      obtain ⟨w1, w2, w3⟩ := hclk
      refine W.objInit hexec hb hown (hts _ w1) (hts _ w2) (hts _ w3) rfl ((hL.1.trans hls).trans hml.symm) rfl hdec hfr ?_ (kk H locs hR hlo)
      show 2 * 0 + ((st'.map (tv (xr B K pre))).map fun v => v.category).sum + 12 ≤ R.locals
      rw [tv_sum]
      omega
    · cases hs
  · rename_i idx n dp dd sp q r
    split at hs
    · rename_i cq vq cd vd hq hd
      split at hs
      · rename_i hcond
        obtain ⟨hsum, hKd, hne, rfl, rfl, h1, h2, h3, h4, h5, h6⟩ := hcond
        cases hs
        obtain ⟨w1, w2, w3, w4⟩ := hclk
        obtain ⟨cS, u1, u2⟩ := xC_get (hR.2.2.1 q _ hq) (by decide)
        obtain ⟨cD, v1, v2⟩ := xC_get (hR.2.2.1 dd _ hd) (by decide)
        obtain ⟨szS, -⟩ := u2.2.2.2.2.2.1 (by decide : 100 ≤ 100)
        obtain ⟨szD, -⟩ := v2.2.2.2.2.2.1 (by decide : 100 ≤ 100)
        have szS : vq.length ≤ cS.slots.size := szS
        have szD : vd.length ≤ cD.slots.size := szD
        obtain ⟨oS, kS, hkS, cmS, hkkS⟩ := State.isArrayOf_alike hal (u2.1.2.1 (by decide : 100 ≤ 100))
        obtain ⟨oD, kD, hkD, cmD, hkkD⟩ := State.isArrayOf_alike hal (v2.1.2.1 (by decide : 100 ≤ 100))
        have nn : ∀ z : Int32, ¬ z < 0 → z.toInt = (z.toNatClampNeg : Int) := by
          intro z hz
          have hz0 : (0 : Int) ≤ z.toInt := by
            have := Int32.not_lt.mp hz
            simpa using Int32.le_iff_toInt_le.mp this
          show z.toInt = ((z.toInt.toNat : Nat) : Int)
          omega
        have el : ∀ j, j < n.toNatClampNeg → cS.slots.getD (sp.toNatClampNeg + j) .null = tv (xr B K pre) (vq.getD (sp.toNatClampNeg + j) .null) := by
          intro j hj
          have hlt : sp.toNatClampNeg + j < vq.length := by omega
          have h9 : vq[sp.toNatClampNeg + j]? = some (vq[sp.toNatClampNeg + j]'hlt) := List.getElem?_eq_getElem hlt
          rw [Array.getD_eq_getD_getElem?, (x_slot u2 (by decide) h9).1, List.getD_eq_getElem?_getD, h9]
          rfl
        have hfit9 : ∀ j, j < n.toNatClampNeg → ∃ x : Int32, vq.getD (sp.toNatClampNeg + j) .null = .int x := by
          intro j hj
          have hlt : sp.toNatClampNeg + j < vq.length := by omega
          have hmem : vq.getD (sp.toNatClampNeg + j) .null ∈ (vq.drop sp.toNatClampNeg).take n.toNatClampNeg := by
            rw [List.getD_eq_getElem?_getD, List.getElem?_eq_getElem hlt]
            refine List.mem_of_getElem? (i := j) ?_
            rw [List.getElem?_take_of_lt hj, List.getElem?_drop, List.getElem?_eq_getElem hlt]
            rfl
          exact xfit0 (List.all_eq_true.mp h6 _ hmem)
        intro T hT XS
        obtain ⟨vm', X', step⟩ := XS.arraycopy hexec hown (hts _ w1) (hts _ w2) (hts _ w3) (hts _ w4) (src := xr B K pre q) (dst := xr B K pre dd) (cs := cS) (cd := cD) (srcPos := sp) (destPos := dp) (n := n) (by rw [hT]; exact u1) (by rw [hT]; exact v1)
          oS oD u2.2.1 v2.2.1 hkS hkD hkkS hkkD rfl h1 h2 h3 (by rw [nn sp h1, nn n h3]; omega) (by rw [nn dp h2, nn n h3]; omega)
          (fun vm₁ _ j hj => by
            obtain ⟨x, hx⟩ := hfit9 j hj
            rw [el j hj, hx]
            exact ⟨rfl, trivial⟩)
          (g := F0 m pc lr ((Value.int n :: .int dp :: .ref dd :: .int sp :: .ref q :: st').map (tv (xr B K pre)))) rfl ((hL.1.trans hls).trans hml.symm) (rest := st'.map (tv (xr B K pre))) rfl (by rw [hb]; exact hdec) hfr
          (by
            show 2 * 0 + ((st'.map (tv (xr B K pre))).map fun v => v.category).sum + (nativeFrameWords "java/lang/System" "arraycopy" 5 + 11) ≤ R.locals
            rw [tv_sum]
            have : nativeFrameWords "java/lang/System" "arraycopy" 5 ≤ 40 := by decide +kernel
            omega)
        have hstr : cS.stretch sp.toNatClampNeg n.toNatClampNeg = ((vq.drop sp.toNatClampNeg).take n.toNatClampNeg).map (tv (xr B K pre)) := by
          unfold Cell.stretch
          refine List.ext_getElem? fun j => ?_
          rw [List.getElem?_map, List.getElem?_map]
          by_cases hj : j < n.toNatClampNeg
          · have hlt : sp.toNatClampNeg + j < vq.length := by omega
            rw [List.getElem?_range hj, List.getElem?_take_of_lt hj, List.getElem?_drop, List.getElem?_eq_getElem hlt]
            show some (cS.slots.getD (sp.toNatClampNeg + j) .null) = _
            rw [el j hj, List.getD_eq_getElem?_getD, List.getElem?_eq_getElem hlt]
            rfl
          · rw [List.getElem?_eq_none (by simp; omega), List.getElem?_eq_none (by simp; omega)]
            rfl
        have hlv : ((vq.drop sp.toNatClampNeg).take n.toNatClampNeg).length = n.toNatClampNeg := by simp; omega
        have hrun : xCk cl kc sl s0 (xr B K pre) (K ≤ dd) (copied cS cD sp dp n) (100, vd.take dp.toNatClampNeg ++ (vq.drop sp.toNatClampNeg).take n.toNatClampNeg ++ vd.drop (dp.toNatClampNeg + n.toNatClampNeg)) := by
          have h9 := xCk_run (at9 := dp.toNatClampNeg) (Nat.le_refl 100) (((vq.drop sp.toNatClampNeg).take n.toNatClampNeg).zipIdx 0) cD vd v2 (fun p hp => by
            have := List.snd_lt_of_mem_zipIdx hp
            rw [hlv] at this
            omega)
          rw [fold_set dp.toNatClampNeg _ 0 vd (by rw [hlv]; omega), hlv] at h9
          have e9 : copied cS cD sp dp n = cD.storePairs dp.toNatClampNeg ((((vq.drop sp.toNatClampNeg).take n.toNatClampNeg).zipIdx 0).map fun p => (tv (xr B K pre) p.1, p.2)) := by
            show cD.storeRun dp.toNatClampNeg (cS.stretch sp.toNatClampNeg n.toNatClampNeg) = _
            rw [hstr, Cell.storeRun, List.zipIdx_map]
            rfl
          rw [e9]
          exact h9
        have hl9 : xr B K pre dd < H.size := (Array.getElem?_eq_some_iff.mp v1).1
        have hheap : ((T.setVm vm').setCell (xr B K pre dd) (copied cS cD sp dp n)).heap = H.setIfInBounds (xr B K pre dd) (copied cS cD sp dp n) := by rw [← hT]; rfl
        obtain ⟨t, a1, b1⟩ := kk (H.setIfInBounds (xr B K pre dd) (copied cS cD sp dp n)) _ (xRp_set hpre hR hd hKd (by simp) (fun q' hq' => by simp [Array.getElem?_setIfInBounds, Ne.symm hq']) (Or.inr ⟨_, by simp [Array.getElem?_setIfInBounds, hl9], hrun⟩)) (fun q' hq' => by
          rcases List.mem_append.mp hq' with h8 | h8
          · exact hlo q' h8
          · obtain ⟨z, -, hz⟩ := List.mem_map.mp h8
            rw [← hz]
            exact xr_B hKd) _ hheap X'
        exact ⟨t, step t a1, b1⟩
      · cases hs
    · cases hs
  · rename_i idx y x r
    split at hs
    · rename_i hsum
      cases hs
      obtain ⟨w1, w2, w3, w4⟩ := hclk
      refine va_mmax hexec hb (hml.trans (hls.symm.trans hL.1.symm)) hown (hts _ w1) (hts _ w2) (hts _ w3) (hts _ w4) hfr ?_ hRc9 hRs9 hdec (kk H locs hR hlo)
      rw [tv_sum]
      omega
    · cases hs
  · rename_i idx y x r
    split at hs
    · rename_i hsum
      cases hs
      obtain ⟨w1, w2, w3, w4⟩ := hclk
      refine va_mmin hexec hb (hml.trans (hls.symm.trans hL.1.symm)) hown (hts _ w1) (hts _ w2) (hts _ w3) (hts _ w4) hfr ?_ hRc9 hRs9 hdec (kk H locs hR hlo)
      rw [tv_sum]
      omega
    · cases hs
  · cases hs
end XQ
