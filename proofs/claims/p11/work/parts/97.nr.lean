/-! form in both, compared -/
section SGs
variable {tt : Nat} {xs : List Int32} {s s1 s2 : aS} {t : List Int32} {ns : List (List Int32)} {fs : Nat → Option Fm} {lt : Nat → Nat → List Int32} {A : Nat → Nat → Prop}
set_option maxRecDepth 100000 in
theorem s_formT (h : SG tt xs s t ns fs lt) (x k : Int32) : PV tt xs s True (dm9 x k s) (dm232 x k) := by
  have h9 := h
  obtain ⟨⟨hl, hv, hr⟩, hc⟩ := h
  rcases d54 hc.1 x with ⟨c, e⟩ | ⟨ho, L, b, c, hx, e, e3, e4, e5, -⟩
  · have e1 : dm9 x k s = some (1, nw s 82 0) := by
      unfold dm9 dm138
      rw [e]
      rfl
    obtain ⟨l1, r1, f1, g1⟩ := h9.tw (y := 82) (by omega) 1
    rcases x232 r1 hv.2.1.2 x k with ⟨d, f⟩ | ⟨ho, L, s', d, -⟩
    · exact ⟨_, _, _, _, t, ns, fs, lt, e1, l1, f, fun _ => ⟨w120 _ 1, fun z => absurd z (by decide)⟩, f1, g1⟩
    · rw [c] at d
      cases d
  · have hfs := (fAt_s c).2
    have hf8 : x.toInt.toNat < 8 := by omega
    obtain ⟨g1, g2⟩ := hr.2.2.2.2.2 _ ho L hfs
    obtain ⟨u, u1, u2⟩ := hc.2 _ hf8 ho L hfs b e5
    have zl := zip_len (lt x.toInt.toNat) L 0
    have h128 := e4.2.1
    have hfz := zip_ft (lt x.toInt.toNat) L 0 1 g1
    have hle : ∀ n ∈ zipL (lt x.toInt.toNat) L 0, arOk n.1 ∧ (leT ns n.1 n.2).length ≤ 600 := fun n q => by
      obtain ⟨i, q⟩ := List.mem_iff_getElem?.mp q
      obtain ⟨hi, en⟩ := zip_at (lt x.toInt.toNat) L 0 i n q
      rw [Nat.zero_add] at en
      subst en
      exact ⟨(g2 _ (List.getElem_mem hi)).2.1, leT_len hv.2.1.2 _ (hr.2.2.2.2.1 _ hf8 ho L hfs i hi).1⟩
    have hlen := txF_len 400 (zipL (lt x.toInt.toNat) L 0) [] hle hfz (by omega)
    rw [List.append_nil] at hlen
    obtain ⟨s1, y1, y2⟩ := x139 (Z := zipL (lt x.toInt.toNat) L 0) e3 (tr_at hl e3) (by rw [(hl.tr e3).2.2.2.2.2.2.1]) hv.2.1.1 hv.2.1.2 (RC.ly hl) (AS.ly hl) (LWs.ly hl) ⟨by rw [zl]; exact e4.1, by rw [zl]; exact h128, u, u1, fun i n q => by
      obtain ⟨hi, en⟩ := zip_at (lt x.toInt.toNat) L 0 i n q
      rw [Nat.zero_add] at en
      subst en
      exact ⟨fun w hw => e4.2.2 i hi w hw, u2 i hi⟩⟩ (fun n q => by
      obtain ⟨i, q⟩ := List.mem_iff_getElem?.mp q
      obtain ⟨hi, en⟩ := zip_at (lt x.toInt.toNat) L 0 i n q
      subst en
      obtain ⟨n1, n2, n3⟩ := g2 _ (List.getElem_mem hi)
      exact ⟨n2, n1.1.1, n3⟩) hfz (by omega) k
    have l1 := (dt139 (sio := true) (d := 2000) (by decide) hl e3 y1).1
    have e6 : dm9 x k s = some (0, wJ s1 148 (jN 0) (fmV ns (zipL (lt x.toInt.toNat) L 0) k).toInt64) := by
      unfold dm9 dm138
      rw [e]
      simp only [bu_some, vN_ref]
      rw [if_pos e3, y1]
      simp only [bv_some]
      rw [zN_l, vI_int, if_pos a01, nx_eq]
    have r1 : RV (wJ s1 148 (jN 0) (fmV ns (zipL (lt x.toInt.toNat) L 0) k).toInt64) t ns fs lt := (hr.same fun a k h1 h2 => y2.i (by omega)).j9
    have v1 : CV (wJ s1 148 (jN 0) (fmV ns (zipL (lt x.toInt.toNat) L 0) k).toInt64) t ns := (hv.of hl y2 (fun a k z => Or.inr (by omega))).j
    have c1 : CG (wJ s1 148 (jN 0) (fmV ns (zipL (lt x.toInt.toNat) L 0) k).toInt64) fs lt := (hc.of9 hl y2 (fun a k z => by omega)).j
    have w1 : gw s (wJ s1 148 (jN 0) (fmV ns (zipL (lt x.toInt.toNat) L 0) k).toInt64) := (gw_ch y2).j
    have l2 : Ly tt (cCc xs) (wJ s1 148 (jN 0) (fmV ns (zipL (lt x.toInt.toNat) L 0) k).toInt64) := l1.wJd
    obtain ⟨b2, s2, f, f1, f2⟩ := r232 r1 hv.2.1.2 x k
    rcases x232 r1 hv.2.1.2 x k with ⟨d, -⟩ | ⟨ho2, L2, s3, d, f3, f4, f5⟩
    · rw [c] at d
      cases d
    · have eL : L2 = L := (Prod.mk.inj (Option.some.inj (d.symm.trans c))).2
      rw [eL] at f3
      have q := dt232 (sio := true) (d := 2000) (by decide) l2 f3
      have es : s3 = s2 := (Prod.mk.inj (Option.some.inj (f3.symm.trans f))).2
      subst es
      exact ⟨0, _, _, s3, t, ns, fs, lt, e6, l2, f3, fun _ => ⟨f4, fun _ => by rw [f5, sJ_wJ, if_pos ⟨rfl, rfl⟩]⟩, SG.m l2 v1 c1 q.1 f2 f1, w1.tr f2⟩
end SGs
