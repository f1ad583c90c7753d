/-! each call in both, with the formulas: the calls that tell -/
section SGs
variable {tt : Nat} {xs : List Int32} {s s1 s2 : aS} {t : List Int32} {ns : List (List Int32)} {fs : Nat → Option Fm} {lt : Nat → Nat → List Int32} {A : Nat → Nat → Prop}
/-- how a call that answers ends in both: c says what is compared -/
def PV (tt : Nat) (xs : List Int32) (s : aS) (c : Prop) (D1 : Option (Int32 × aS)) (D2 : aS → Option (Int32 × aS)) : Prop := ∃ k s1 b s2 t1 ns1 fs1 lt1, D1 = some (k, s1) ∧ Ly tt (cCc xs) s1 ∧ D2 s1 = some (b, s2) ∧ (c → sI s2 121 0 = k ∧ (k = 0 → sJ s2 148 0 = b.toInt64)) ∧ SG tt xs s2 t1 ns1 fs1 lt1 ∧ gw s s2
def PN (tt : Nat) (xs : List Int32) (s : aS) (D1 : Option (Int32 × aS)) (D2 : aS → Option aS) : Prop := ∃ k s1 s2 t1 ns1 fs1 lt1, D1 = some (k, s1) ∧ Ly tt (cCc xs) s1 ∧ D2 s1 = some s2 ∧ sI s2 121 0 = k ∧ SG tt xs s2 t1 ns1 fs1 lt1 ∧ gw s s2
set_option maxRecDepth 100000 in
theorem s_size (h : SG tt xs s t ns fs lt) (x : Int32) : PV tt xs s True (dm10 x s) (dm243 x) := by
  rcases d159 h.2.1 x with ⟨c, e⟩ | ⟨ho, L, c, e⟩
  · have e1 : dm10 x s = some (1, nw s 82 0) := by
      unfold dm10
      rw [e]
      rfl
    obtain ⟨l1, r1, f1, g1⟩ := h.tw (y := 82) (by omega) 1
    rcases d243 r1.2.2.1 x with ⟨d, f⟩ | ⟨ho, L, d, f⟩
    · exact ⟨_, _, _, _, t, ns, fs, lt, e1, l1, f, fun _ => ⟨w120 _ 1, fun z => absurd z (by decide)⟩, f1, g1⟩
    · rw [c] at d
      cases d
  · have e3 : dm10 x s = some (0, wJ s 148 (jN 0) (Int32.ofNat L.length).toInt64) := by
      unfold dm10
      rw [e]
      simp only [bv_some]
      rw [zN_l, vI_int, if_pos a01, nx_eq]
    obtain ⟨l1, r1, f1, g1⟩ := h.a (jN 0) (Int32.ofNat L.length).toInt64 0
    rcases d243 r1.2.2.1 x with ⟨d, f⟩ | ⟨ho2, L2, d, f⟩
    · rw [c] at d
      cases d
    · rw [c] at d
      cases d
      exact ⟨_, _, _, _, t, ns, fs, lt, e3, l1, f, fun _ => ⟨w120 _ 0, fun _ => by rw [sJ_wI, sJ_wJ, if_pos ⟨rfl, rfl⟩]⟩, f1, g1⟩
set_option maxRecDepth 100000 in
theorem s_node (h : SG tt xs s t ns fs lt) (x y z : Int32) : PV tt xs s True (dm11 x y z s) (dm244 x y z) := by
  rcases d160 h.2.1 x y z with ⟨c, e⟩ | ⟨ho, L, c, cy, ⟨cz, e⟩ | ⟨cz, e⟩⟩
  · have e1 : dm11 x y z s = some (1, nw s 82 0) := by
      unfold dm11
      rw [e]
      rfl
    obtain ⟨l1, r1, f1, g1⟩ := h.tw (y := 82) (by omega) 1
    rcases d244 r1.2.2.1 x y z with ⟨d, f⟩ | ⟨ho, L, d, dy, -⟩
    · exact ⟨_, _, _, _, t, ns, fs, lt, e1, l1, f, fun _ => ⟨w120 _ 1, fun z => absurd z (by decide)⟩, f1, g1⟩
    · rcases c with c | ⟨ho2, L2, c, cy⟩
      · rw [c] at d
        cases d
      · rw [c] at d
        cases d
        exact absurd dy cy
  · have e1 : dm11 x y z s = some (2, nw s 80 0) := by
      unfold dm11
      rw [e]
      rfl
    obtain ⟨l1, r1, f1, g1⟩ := h.tw (y := 80) (by omega) 2
    rcases d244 r1.2.2.1 x y z with ⟨d, -⟩ | ⟨ho2, L2, d, dy, ⟨dz, f⟩ | ⟨dz, -⟩⟩
    · rcases d with d | ⟨ho2, L2, d, dy⟩
      · rw [c] at d
        cases d
      · rw [c] at d
        cases d
        exact absurd cy dy
    · exact ⟨_, _, _, _, t, ns, fs, lt, e1, l1, f, fun _ => ⟨w120 _ 2, fun z => absurd z (by decide)⟩, f1, g1⟩
    · exact absurd dz cz
  · have e3 : dm11 x y z s = some (0, wJ s 148 (jN 0) ((L.getD y.toInt.toNat (fun _ => 0)) z.toInt.toNat).toInt64) := by
      unfold dm11
      rw [e]
      simp only [bv_some]
      rw [zN_l, vI_int, if_pos a01, nx_eq]
    obtain ⟨l1, r1, f1, g1⟩ := h.a (jN 0) ((L.getD y.toInt.toNat (fun _ => 0)) z.toInt.toNat).toInt64 0
    rcases d244 r1.2.2.1 x y z with ⟨d, -⟩ | ⟨ho2, L2, d, dy, ⟨dz, -⟩ | ⟨dz, f⟩⟩
    · rcases d with d | ⟨ho2, L2, d, dy⟩
      · rw [c] at d
        cases d
      · rw [c] at d
        cases d
        exact absurd cy dy
    · exact absurd cz dz
    · rw [c] at d
      cases d
      exact ⟨_, _, _, _, t, ns, fs, lt, e3, l1, f, fun _ => ⟨w120 _ 0, fun _ => by rw [sJ_wI, sJ_wJ, if_pos ⟨rfl, rfl⟩]⟩, f1, g1⟩
set_option maxRecDepth 100000 in
theorem s_count (h : SG tt xs s t ns fs lt) (x : Int32) : PV tt xs s True (dm14 x s) (dm249 x) := by
  rcases d166 h.1.2.1.2.1.1.1 h.2.1 x with ⟨c, e⟩ | ⟨c, e⟩
  · have e1 : dm14 x s = some (1, nw s 80 0) := by
      unfold dm14
      rw [e]
      rfl
    obtain ⟨l1, r1, f1, g1⟩ := h.tw (y := 80) (by omega) 1
    rcases d249 r1.2.1 r1.2.2.1 x with ⟨d, f⟩ | ⟨d, -⟩
    · exact ⟨_, _, _, _, t, ns, fs, lt, e1, l1, f, fun _ => ⟨w120 _ 1, fun z => absurd z (by decide)⟩, f1, g1⟩
    · exact absurd d c
  · have e3 : dm14 x s = some (0, wJ s 148 (jN 0) (cntV ns fs x).toInt64) := by
      unfold dm14
      rw [e]
      simp only [bv_some]
      rw [zN_l, vI_int, if_pos a01, nx_eq]
    obtain ⟨l1, r1, f1, g1⟩ := h.a (jN 0) (cntV ns fs x).toInt64 0
    rcases d249 r1.2.1 r1.2.2.1 x with ⟨d, -⟩ | ⟨d, f⟩
    · exact absurd c d
    · exact ⟨_, _, _, _, t, ns, fs, lt, e3, l1, f, fun _ => ⟨w120 _ 0, fun _ => by rw [sJ_wI, sJ_wJ, if_pos ⟨rfl, rfl⟩]⟩, f1, g1⟩
set_option maxRecDepth 100000 in
theorem s_name (h : SG tt xs s t ns fs lt) (x y : Int32) : PV tt xs s True (dm15 x y s) (dm250 x y) := by
  rcases d169 h.1.2.1.2.1.1.1 (RC.ly h.1.1) h.1.2.1.2.1.2 x y with ⟨c, e⟩ | ⟨c, e⟩
  · have e1 : dm15 x y s = some (1, nw s 82 0) := by
      unfold dm15
      rw [e]
      rfl
    obtain ⟨l1, r1, f1, g1⟩ := h.tw (y := 82) (by omega) 1
    rcases d250 r1.2.1 h.1.2.1.2.1.2 x y with ⟨d, f⟩ | ⟨d, -⟩
    · exact ⟨_, _, _, _, t, ns, fs, lt, e1, l1, f, fun _ => ⟨w120 _ 1, fun z => absurd z (by decide)⟩, f1, g1⟩
    · exact absurd d c
  · have e3 : dm15 x y s = some (0, wJ s 148 (jN 0) (if y.toInt < 0 then -1 else (ns.getD x.toInt.toNat []).getD y.toInt.toNat (-1) : Int32).toInt64) := by
      unfold dm15
      rw [e]
      simp only [bv_some]
      rw [zN_l, vI_int, if_pos a01, nx_eq]
    obtain ⟨l1, r1, f1, g1⟩ := h.a (jN 0) (if y.toInt < 0 then -1 else (ns.getD x.toInt.toNat []).getD y.toInt.toNat (-1) : Int32).toInt64 0
    rcases d250 r1.2.1 h.1.2.1.2.1.2 x y with ⟨d, -⟩ | ⟨d, f⟩
    · exact absurd c d
    · exact ⟨_, _, _, _, t, ns, fs, lt, e3, l1, f, fun _ => ⟨w120 _ 0, fun _ => by rw [sJ_wI, sJ_wJ, if_pos ⟨rfl, rfl⟩]⟩, f1, g1⟩
set_option maxRecDepth 100000 in
theorem s_letter (h : SG tt xs s t ns fs lt) (x y z : Int32) : PV tt xs s True (dm12 x y z s) (dm246 x y z) := by
  rcases d162 h.1.1 h.2.1 h.2.2 x y z with ⟨c, e⟩ | ⟨ho, L, c, cy, e⟩
  · have e1 : dm12 x y z s = some (1, nw s 82 0) := by
      unfold dm12
      rw [e]
      rfl
    obtain ⟨l1, r1, f1, g1⟩ := h.tw (y := 82) (by omega) 1
    rcases d246 r1.2.2.1 r1.2.2.2.1 x y z with ⟨d, f⟩ | ⟨ho, L, d, dy, -⟩
    · exact ⟨_, _, _, _, t, ns, fs, lt, e1, l1, f, fun _ => ⟨w120 _ 1, fun z => absurd z (by decide)⟩, f1, g1⟩
    · rcases c with c | ⟨ho2, L2, c, cy⟩
      · rw [c] at d
        cases d
      · rw [c] at d
        cases d
        exact absurd dy cy
  · have e3 : dm12 x y z s = some (0, wJ s 148 (jN 0) (if z.toInt < 0 then -1 else (lt x.toInt.toNat y.toInt.toNat).getD z.toInt.toNat (-1) : Int32).toInt64) := by
      unfold dm12
      rw [e]
      simp only [bv_some]
      rw [zN_l, vI_int, if_pos a01, nx_eq]
    obtain ⟨l1, r1, f1, g1⟩ := h.a (jN 0) (if z.toInt < 0 then -1 else (lt x.toInt.toNat y.toInt.toNat).getD z.toInt.toNat (-1) : Int32).toInt64 0
    rcases d246 r1.2.2.1 r1.2.2.2.1 x y z with ⟨d, -⟩ | ⟨ho2, L2, d, dy, f⟩
    · rcases d with d | ⟨ho2, L2, d, dy⟩
      · rw [c] at d
        cases d
      · rw [c] at d
        cases d
        exact absurd cy dy
    · exact ⟨_, _, _, _, t, ns, fs, lt, e3, l1, f, fun _ => ⟨w120 _ 0, fun _ => by rw [sJ_wI, sJ_wJ, if_pos ⟨rfl, rfl⟩]⟩, f1, g1⟩
set_option maxRecDepth 100000 in
theorem s_same (h : SG tt xs s t ns fs lt) (x y : Int32) : PV tt xs s True (dm13 x y s) (dm248 x y) := by
  rcases d163 h.1.1 h.2.1 h.2.2 h.1.2.2.2.2.2.2.1 x y with ⟨c, e⟩ | ⟨h1, L, h2, M, c1, c2, e⟩
  · have e1 : dm13 x y s = some (1, nw s 82 0) := by
      unfold dm13
      rw [e]
      rfl
    obtain ⟨l1, r1, f1, g1⟩ := h.tw (y := 82) (by omega) 1
    rcases d248 r1.2.2.1 r1.2.2.2.1 r1.2.2.2.2.1 x y with ⟨d, f⟩ | ⟨h1, L, h2, M, d1, d2, -⟩
    · exact ⟨_, _, _, _, t, ns, fs, lt, e1, l1, f, fun _ => ⟨w120 _ 1, fun z => absurd z (by decide)⟩, f1, g1⟩
    · rcases c with c | c
      · rw [c] at d1
        cases d1
      · rw [c] at d2
        cases d2
  · have e3 : dm13 x y s = some (0, wJ s 148 (jN 0) (b01 (samF L M (lt x.toInt.toNat) (lt y.toInt.toNat))).toInt64) := by
      unfold dm13 dm13_10
      rw [e]
      simp only [bv_some]
      rw [zN_l, vI_int, if_pos a01, if_pos a01]
      simp only [nx_eq]
      have e10 : (1 : Int32).toInt64 = 1 := by decide
      have e00 : (0 : Int32).toInt64 = 0 := by decide
      by_cases p : samF L M (lt x.toInt.toNat) (lt y.toInt.toNat)
      · rw [b01_t p, if_neg (by decide), e10]
      · rw [b01_f p, if_pos rfl, e00]
    obtain ⟨l1, r1, f1, g1⟩ := h.a (jN 0) (b01 (samF L M (lt x.toInt.toNat) (lt y.toInt.toNat))).toInt64 0
    rcases d248 r1.2.2.1 r1.2.2.2.1 r1.2.2.2.2.1 x y with ⟨d, -⟩ | ⟨h3, L3, h4, M4, d1, d2, f⟩
    · rcases d with d | d
      · rw [c1] at d
        cases d
      · rw [c2] at d
        cases d
    · have eL : L3 = L := (Prod.mk.inj (Option.some.inj (d1.symm.trans c1))).2
      have eM : M4 = M := (Prod.mk.inj (Option.some.inj (d2.symm.trans c2))).2
      rw [eL, eM] at f
      exact ⟨_, _, _, _, t, ns, fs, lt, e3, l1, f, fun _ => ⟨w120 _ 0, fun _ => by rw [sJ_wI, sJ_wJ, if_pos ⟨rfl, rfl⟩]⟩, f1, g1⟩
set_option maxRecDepth 100000 in
/-- a call of which only the end is shown here -/
theorem s_form (h : SG tt xs s t ns fs lt) (x k : Int32) : PV tt xs s False (dm9 x k s) (dm232 x k) := by
  have ref : ∀ v s1, dm9 x k s = some (v, s1) → Ly tt (cCc xs) s1 → CV s1 t ns → CG s1 fs lt → RV s1 t ns fs lt → gw s s1 → PV tt xs s False (dm9 x k s) (dm232 x k) := by
    intro v s1 e l1 v1 c1 r1 g1
    obtain ⟨b, s2, f, f1, f2⟩ := r232 r1 v1.2.1.2 x k
    have q := dt232 (sio := true) (d := 2000) (by decide) l1 f
    exact ⟨v, s1, b, s2, t, ns, fs, lt, e, l1, f, fun z => z.elim, SG.m l1 v1 c1 q.1 f2 f1, g1.tr f2⟩
  obtain ⟨⟨hl, hv, hr⟩, hc⟩ := h
  rcases y54 hv.2.2.1 x with e | ⟨b, e, e2, e3, e4⟩
  · have e5 : dm9 x k s = some (1, nw s 82 0) := by
      unfold dm9 dm138
      rw [e]
      rfl
    exact ref _ _ e5 (ly_nw hl (by decide)) (hv.thr hl (by decide)) (hc.gx hl (gx_nw s 82 0)) (hr.nw9 hl) (gw_nw s)
  · obtain ⟨N, u, w1, w2, w3, w4⟩ := hv.2.2.2.1 b e2
    obtain ⟨v, s1, g1, g2⟩ := c139 (ns := ns) e2 (tr_at hl e2) ⟨N, u, w1, w2, w3, fun k hk => by
      obtain ⟨l, q, -⟩ := w4 k hk
      exact ⟨l, q⟩⟩ (by rw [(hl.tr e2).2.2.2.2.2.2.1]) hv.2.1.1.1 hv.2.1.2 (RC.ly hl) (AS.ly hl) k
    have l1 := (dt139 (sio := true) (d := 2000) (by decide) hl e2 g1).1
    have e5 : dm9 x k s = some (0, wJ s1 148 (jN 0) v.toInt64) := by
      unfold dm9 dm138
      rw [e]
      simp only [bu_some, vN_ref]
      rw [if_pos e2, g1]
      simp only [bv_some]
      rw [zN_l, vI_int, if_pos a01, nx_eq]
    exact ref _ _ e5 l1.wJd (hv.of hl g2 (fun a k z => Or.inr (by omega))).j (hc.of9 hl g2 (fun a k z => by omega)).j ((hr.same fun a k h1 h2 => g2.i (by omega)).j9) ((gw_ch g2).j)
set_option maxRecDepth 100000 in
theorem s_remove (h : SG tt xs s t ns fs lt) (x : Int32) : PN tt xs s (dm8 x s) (dm231 x) := by
  have h0 := h
  obtain ⟨⟨hl, hv, hr⟩, hc⟩ := h
  rcases d137 hc.1 x with ⟨c, e⟩ | ⟨ho, L, c, e⟩
  · have e1 : dm8 x s = some (1, nw s 82 0) := by
      unfold dm8
      rw [e]
      rfl
    obtain ⟨l1, r1, f1, g1⟩ := h0.tw (y := 82) (by omega) 1
    rcases d231 r1.2.2.1 x with ⟨d, f⟩ | ⟨ho, L, d, f⟩
    · exact ⟨_, _, _, t, ns, fs, lt, e1, l1, f, w120 _ 1, f1, g1⟩
    · rw [c] at d
      cases d
  · have e1 : dm8 x s = some (0, wI s 101 x.toInt.toNat (-1)) := by
      unfold dm8
      rw [e]
      rfl
    obtain ⟨f1, f2⟩ := fAt_s c
    have g : ch (fun a k => a = 101 ∧ k = x.toInt.toNat) s (wI s 101 x.toInt.toNat (-1)) := (ch.refl _ s).wI ⟨rfl, rfl⟩
    have l1 : Ly tt (cCc xs) (wI s 101 x.toInt.toNat (-1)) := hl.wId (by decide)
    have r1 : RV (wI s 101 x.toInt.toNat (-1)) t ns fs lt := hr.same fun a k h1 h2 => g.i (by omega)
    have v1 : CV (wI s 101 x.toInt.toNat (-1)) t ns := hv.of hl g (fun a k z => Or.inl z.1)
    have u1 : CLt (wI s 101 x.toInt.toNat (-1)) (fsDel fs x.toInt.toNat) lt := (CLt.go hc.1 hc.2 (fun f _ _ => g.r (by omega)) (fun f b _ _ _ hk => by
      have hb := tr_at hl hk
      exact ⟨fun k => g.i (by omega), g.i (by omega), fun k => g.i (by omega)⟩)).len (fun f h9 L9 q => by
      unfold fsDel at q
      by_cases ef : f = x.toInt.toNat
      · rw [if_pos ef] at q
        cases q
      · rw [if_neg ef] at q
        exact ⟨h9, L9, q, rfl⟩)
    have c1 : CF (wI s 101 x.toInt.toNat (-1)) (fsDel fs x.toInt.toNat) := fun f hf => by
      unfold fsDel
      by_cases ef : f = x.toInt.toNat
      · rw [if_pos ef]
        exact ⟨fun _ => by rw [sI_wI, if_pos ⟨rfl, ef⟩], fun h9 L9 q => (by cases q)⟩
      · rw [if_neg ef]
        refine ⟨fun q => (g.i (by omega)).trans ((hc.1 f hf).1 q), fun h9 L9 q => ?_⟩
        obtain ⟨a1, a2, b, a3, a4, a5⟩ := (hc.1 f hf).2 h9 L9 q
        have hb := tr_at hl a4
        exact ⟨(g.i (by omega)).trans a1, a2, b, (g.r (by omega)).trans a3, g.k.mpr a4, a5.of g (by omega) (fun k => by omega)⟩
    rcases R231 r1 x with ⟨d, -⟩ | ⟨d, s2, f, f3, f4, f5⟩
    · rw [c] at d
      cases d
    · have q := dt231 (sio := true) (d := 2000) (by decide) l1 f
      exact ⟨_, _, s2, t, ns, _, lt, e1, l1, f, f3, SG.m l1 v1 ⟨c1, u1⟩ q.1 f5 f4, (gw_ch g).tr f5⟩
end SGs
