/-! each call in both, with the formulas: drop, shift, move -/
section SGs
variable {tt : Nat} {xs : List Int32} {s s1 s2 : aS} {t : List Int32} {ns : List (List Int32)} {fs : Nat → Option Fm} {lt : Nat → Nat → List Int32} {A : Nat → Nat → Prop}
set_option maxRecDepth 100000 in
theorem s_drop (h : SG tt xs s t ns fs lt) (x : Int32) : PN tt xs s (dm4 x s) (dm182 x) := by
  have h0 := h
  obtain ⟨⟨hl, hv, hr⟩, hc⟩ := h
  rcases d52 hl hv.2.1.1 hv.2.1.2 hc.1 hv.2.2.1 x with ⟨c, e⟩ | ⟨c, s1, e, -, e2, -, -⟩
  · have e1 : dm4 x s = some (1, nw s 82 0) := by
      unfold dm4
      rw [e]
      rfl
    obtain ⟨l1, r1, -, -⟩ := h0.tw (y := 82) (by omega) 1
    rcases R182 r1 hv.2.1.2 x with ⟨d, s2, f, f1, f2, f3⟩ | ⟨d, -⟩
    · have q := dt182 (sio := true) (d := 2000) (by decide) l1 f
      exact ⟨_, _, s2, t, ns, fs, lt, e1, l1, f, f1, SG.m l1 (hv.thr hl (by decide)) (hc.gx hl (gx_nw s 82 0)) q.1 f3 f2, (gw_nw s).tr f3⟩
    · exact absurd d c
  · have e3 : dm4 x s = some (0, s1) := by
      unfold dm4
      rw [e]
      rfl
    have q1 := dt4 (sio := true) (d := 2000) (by decide) hl e3
    have r1 := hr.ex hl q1.2.1
    rcases y52 hv hl x with ⟨c9, -⟩ | ⟨-, s9, z1, z2, z3⟩
    · exact absurd c c9
    · have es : s9 = s1 := (Prod.mk.inj (Option.some.inj (z1.symm.trans e))).2
      rw [es] at z2 z3
      have ef : fsDrop x fs = fsDropM x fs := fsDrop_eq fun f h9 L9 q9 d hd z => ((hr.2.2.2.2.2 f h9 L9 q9).2 d hd).1.c c.1 z
      rw [ef] at e2
      have u2 : CLt s1 fs lt := d52y hl hv.2.1.1 hv.2.1.2 hc.1 hv.2.2.1 hc.2 c (fun f hf h9 L9 q9 => ⟨fun d hd z => Classical.byContradiction fun y => by
        have := ((hr.2.2.2.2.2 f h9 L9 q9).2 d hd).1.2.2.1 y
        rw [z, iEq] at this
        have : x.toInt = -1 := this
        omega, hr.em f hf h9 L9 q9⟩) e
      have u3 : CLt s1 (fsDropM x fs) lt := u2.len (fun f h9 L9 q => by
        unfold fsDropM at q
        cases hq : fs f with
        | none =>
          rw [hq] at q
          cases q
        | some v =>
          obtain ⟨h0, L⟩ := v
          rw [hq] at q
          have q : (if h0 = x then none else some (if h0 ≤ x then h0 else h0 - 1, L.map (lsM x))) = some (h9, L9) := q
          by_cases c : h0 = x
          · rw [if_pos c] at q
            cases q
          · rw [if_neg c] at q
            have e := (Prod.mk.inj (Option.some.inj q)).2
            exact ⟨h0, L, rfl, by rw [← e, List.length_map]⟩)
      rcases R182 r1 hv.2.1.2 x with ⟨d, -⟩ | ⟨-, s2, f, f1, f2, f3⟩
      · exact absurd c d
      · have q := dt182 (sio := true) (d := 2000) (by decide) q1.1 f
        exact ⟨_, _, s2, t, _, _, lt, e3, q1.1, f, f1, SG.m q1.1 z2 ⟨e2, u3⟩ q.1 f3 f2, z3.tr f3⟩
set_option maxRecDepth 100000 in
theorem s_shift (h : SG tt xs s t ns fs lt) (x y k n : Int32) : PV tt xs s True (dm7 x y k n s) (dm228 x y k n) := by
  have h0 := h
  obtain ⟨⟨hl, hv, hr⟩, hc⟩ := h
  rcases d133 hl hv.2.1.1.1 hv.2.1.2 hc.1 hv.2.2.1 x y k n with ⟨c, e⟩ | ⟨c, c2, e⟩ | ⟨c, c2, s1, e, e2, -, -⟩
  · have e1 : dm7 x y k n s = some (1, nw s 82 0) := by
      unfold dm7
      rw [e]
      rfl
    obtain ⟨l1, r1, -, -⟩ := h0.tw (y := 82) (by omega) 1
    rcases R228 r1 hv.2.1.2 x y k n with ⟨d, s2, f, f1, f2, f3⟩ | ⟨d, -⟩ | ⟨d, -⟩
    · have q := dt228 (sio := true) (d := 2000) (by decide) l1 f
      exact ⟨_, _, _, s2, t, ns, fs, lt, e1, l1, f, fun _ => ⟨f1, fun z => absurd z (by decide)⟩, SG.m l1 (hv.thr hl (by decide)) (hc.gx hl (gx_nw s 82 0)) q.1 f3 f2, (gw_nw s).tr f3⟩
    · exact absurd d c
    · exact absurd d c
  · have e1 : dm7 x y k n s = some (2, nw s 80 0) := by
      unfold dm7
      rw [e]
      rfl
    obtain ⟨l1, r1, -, -⟩ := h0.tw (y := 80) (by omega) 1
    rcases R228 r1 hv.2.1.2 x y k n with ⟨d, -⟩ | ⟨-, -, s2, f, f1, f2, f3⟩ | ⟨-, d2, -⟩
    · exact absurd c d
    · have q := dt228 (sio := true) (d := 2000) (by decide) l1 f
      exact ⟨_, _, _, s2, t, ns, fs, lt, e1, l1, f, fun _ => ⟨f1, fun z => absurd z (by decide)⟩, SG.m l1 (hv.thr hl (by decide)) (hc.gx hl (gx_nw s 80 0)) q.1 f3 f2, (gw_nw s).tr f3⟩
    · exact absurd d2 c2
  · have all : fsAll ndS fs := fun f h9 L9 q9 d hd => ((hr.2.2.2.2.2 f h9 L9 q9).2 d hd).1.s
    have hk : rgP k (lastT y) := bey_rg c2.1
    have ev := ca_eq c.1 hk c2.2 all 8 0 0
    have ef := fsSh_eq c.1 hk c2.2 all
    have u2 : CLt s1 fs lt := d133y hl hv.2.1.1.1 hv.2.1.2 hc.1 hv.2.2.1 hc.2 hr.em c c2 e
    have u3 : CLt s1 (fsShM x y k n (lastT y) fs) lt := u2.len (fun f h9 L9 q => by
      unfold fsShM at q
      cases hq : fs f with
      | none =>
        rw [hq] at q
        cases q
      | some v =>
        obtain ⟨h0, L⟩ := v
        rw [hq] at q
        have e := (Prod.mk.inj (Option.some.inj q)).2
        exact ⟨h0, L, rfl, by rw [← e, List.length_map]⟩)
    rw [ev] at e
    rw [ef] at e2
    have c9 : CG s1 (fsShM x y k n (lastT y) fs) lt := ⟨e2, u3⟩
    have e3 : dm7 x y k n s = some (0, wJ s1 148 (jN 0) (caM x y k n (lastT y) fs 8 0 0).toInt64) := by
      unfold dm7
      rw [e]
      simp only [bv_some]
      rw [zN_l, vI_int, if_pos a01, nx_eq]
    have q1 := dt7 (sio := true) (d := 2000) (by decide) hl e3
    have r1 := hr.ex hl q1.2.1
    obtain ⟨o, s9, z1, -, z2, z3⟩ := y133 hv hl x y k n
    have es : s9 = s1 := (Prod.mk.inj (Option.some.inj (z1.symm.trans e))).2
    rw [es] at z2 z3
    rcases R228 r1 hv.2.1.2 x y k n with ⟨d, -⟩ | ⟨-, d2, -⟩ | ⟨-, -, s2, f, f1, f2, f3⟩
    · exact absurd c d
    · exact absurd c2 d2
    · have q := dt228 (sio := true) (d := 2000) (by decide) q1.1 f
      refine ⟨_, _, _, s2, t, ns, _, lt, e3, q1.1, f, fun _ => ⟨f1, fun _ => ?_⟩, SG.m q1.1 z2.j c9.j q.1 f3 f2, z3.j.tr f3⟩
      rw [jj f3 (by unfold mA; omega), sJ_wJ, if_pos ⟨rfl, rfl⟩]
set_option maxRecDepth 100000 in
theorem CV.cl (h : CV s t ns) : CL s fs := fun f hf _ b hb => by
  rcases h.2.2.1.1 f hf with z | ⟨c, z1, z2⟩
  · rw [z] at hb
    cases hb
  · rw [z1] at hb
    injection hb with hb
    rw [← hb]
    obtain ⟨N, u, -, -, a, -⟩ := h.2.2.2.1 c z2
    exact ⟨u, a⟩
set_option maxRecDepth 100000 in
theorem s_move (h : SG tt xs s t ns fs lt) (x1 x2 x3 x4 x5 : Int32) : PN tt xs s (dm6 x1 x2 x3 x4 x5 s) (dm224 x1 x2 x3 x4 x5) := by
  have h0 := h
  obtain ⟨⟨hl, hv, hr⟩, hc⟩ := h
  rcases d125 hl hv.2.1.1.1 hv.2.1.2 hc.1 hv.2.2.1 hv.cl x1 x2 x3 x4 x5 with ⟨c, e⟩ | ⟨c, c2, e⟩ | ⟨c, c2, h9, L, s1, e0, e, e2, -, -⟩
  · have e1 : dm6 x1 x2 x3 x4 x5 s = some (1, nw s 82 0) := by
      unfold dm6
      rw [e]
      rfl
    obtain ⟨l1, r1, -, -⟩ := h0.tw (y := 82) (by omega) 1
    rcases R224 r1 hv.2.1.2 x1 x2 x3 x4 x5 with ⟨d, s2, f, f1, f2, f3⟩ | ⟨d, -⟩ | ⟨d, -⟩
    · have q := dt224 (sio := true) (d := 2000) (by decide) l1 f
      exact ⟨_, _, s2, t, ns, fs, lt, e1, l1, f, f1, SG.m l1 (hv.thr hl (by decide)) (hc.gx hl (gx_nw s 82 0)) q.1 f3 f2, (gw_nw s).tr f3⟩
    · exact absurd d c
    · exact absurd d c
  · have e1 : dm6 x1 x2 x3 x4 x5 s = some (2, nw s 80 0) := by
      unfold dm6
      rw [e]
      rfl
    obtain ⟨l1, r1, -, -⟩ := h0.tw (y := 80) (by omega) 1
    rcases R224 r1 hv.2.1.2 x1 x2 x3 x4 x5 with ⟨d, -⟩ | ⟨-, -, s2, f, f1, f2, f3⟩ | ⟨-, d2, -⟩
    · exact absurd c d
    · have q := dt224 (sio := true) (d := 2000) (by decide) l1 f
      exact ⟨_, _, s2, t, ns, fs, lt, e1, l1, f, f1, SG.m l1 (hv.thr hl (by decide)) (hc.gx hl (gx_nw s 80 0)) q.1 f3 f2, (gw_nw s).tr f3⟩
    · exact absurd d2 c2
  · have ef := fsMove_eq (x := x1.toInt.toNat) (y := x5.toInt.toNat) (r := x2) (c := x3) (ho := x4) (L := L) (fs := fs) (fun d hd q => ((hr.2.2.2.2.2 _ h9 L (fAt_s e0).2).2 d hd).1.r q)
    have u3 := d125y hl hv.2.1.1.1 hv.2.1.2 hc.1 hv.2.2.1 hc.2 c c2 e0 (hr.em _ (by have := (fAt_s e0).1; omega) h9 L (fAt_s e0).2) e
    rw [ef] at e2 u3
    have e3 : dm6 x1 x2 x3 x4 x5 s = some (0, s1) := by
      unfold dm6
      rw [e]
      rfl
    have q1 := dt6 (sio := true) (d := 2000) (by decide) hl e3
    have r1 := hr.ex hl q1.2.1
    obtain ⟨o, s9, z1, -, z2, z3⟩ := y125 hv hl x1 x2 x3 x4 x5
    have es : s9 = s1 := (Prod.mk.inj (Option.some.inj (z1.symm.trans e))).2
    rw [es] at z2 z3
    rcases R224 r1 hv.2.1.2 x1 x2 x3 x4 x5 with ⟨d, -⟩ | ⟨-, d2, -⟩ | ⟨-, -, h8, L8, s2, f0, f, f1, f2, f3⟩
    · exact absurd c d
    · exact absurd c2 d2
    · have q := dt224 (sio := true) (d := 2000) (by decide) q1.1 f
      have eL : L8 = L := (Prod.mk.inj (Option.some.inj (f0.symm.trans e0))).2
      rw [eL] at f2
      exact ⟨_, _, s2, t, ns, _, _, e3, q1.1, f, f1, SG.m q1.1 z2 ⟨e2, u3⟩ q.1 f3 f2, z3.tr f3⟩
end SGs
