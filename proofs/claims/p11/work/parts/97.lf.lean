/-! each call in both, with the formulas: read -/
section SGs
variable {tt : Nat} {xs : List Int32} {s s1 s2 : aS} {t : List Int32} {ns : List (List Int32)} {fs : Nat → Option Fm} {lt : Nat → Nat → List Int32} {A : Nat → Nat → Prop} {b : Nat}
set_option maxRecDepth 100000 in
/-- the spare tree is written: no formula's -/
theorem CF.rd (h : CF s fs) (hl : Ly tt (cCc xs) s) (hb : aK s b 3) (hn : ∀ f, f < 8 → sR s 100 f ≠ .ref b) (g : ch A s s1) (hA : ∀ a k, A a k → a = b ∨ a = b + 1 ∨ a = b + 2 ∨ a = b + 3 ∨ (106 ≤ a ∧ a ≤ 116)) : CF s1 fs := by
  have hb3 := tr_at hl hb
  refine fun f hf => ⟨fun q => (g.i fun z => by have := hA _ _ z; omega).trans ((h f hf).1 q), fun ho L q => ?_⟩
  obtain ⟨a1, a2, d, a3, a4, a5⟩ := (h f hf).2 ho L q
  have hd := tr_at hl a4
  have e : d ≠ b := fun z => hn f hf (by rw [← z]; exact a3)
  have p := tr_ne hl a4 hb e
  have r := tr_ne hl hb a4 (fun z => e z.symm)
  exact ⟨(g.i fun z => by have := hA _ _ z; omega).trans a1, a2, d, (g.r fun z => by have := hA _ _ z; omega).trans a3, g.k.mpr a4, a5.of g (fun z => by have := hA _ _ z; omega) (fun k z => by have := hA _ _ z; omega)⟩
set_option maxRecDepth 100000 in
theorem CF.put {f : Nat} {v : Int32} {L : List Nd} (h : CF s fs) (hl : Ly tt (cCc xs) s) (hb : aK s b 3) (hT : TC s b L) (hv : v ≠ -1) : CF (wI (wR s 100 f (.ref b)) 101 f v) (fun g => if g = f then some (v, L) else fs g) := by
  have c : ch (fun a k => (a = 100 ∨ a = 101) ∧ k = f) s (wI (wR s 100 f (.ref b)) 101 f v) := ((ch.refl _ s).wR ⟨Or.inl rfl, rfl⟩).wI ⟨Or.inr rfl, rfl⟩
  have hb3 := tr_at hl hb
  intro g hg
  by_cases e : g = f
  · refine ⟨fun q => ?_, fun ho M q => ?_⟩
    · have q : (if g = f then some (v, L) else fs g) = none := q
      rw [if_pos e] at q
      cases q
    · have q : (if g = f then some (v, L) else fs g) = some (ho, M) := q
      rw [if_pos e] at q
      cases q
      exact ⟨by rw [sI_wI, if_pos ⟨rfl, e⟩], hv, b, by rw [sR_wI, sR_wR, if_pos ⟨rfl, e⟩], c.k.mpr hb, hT.of c (by omega) (fun k => by omega)⟩
  · refine ⟨fun q => ?_, fun ho M q => ?_⟩
    · have q : (if g = f then some (v, L) else fs g) = none := q
      rw [if_neg e] at q
      exact (c.i (by omega)).trans ((h g hg).1 q)
    · have q : (if g = f then some (v, L) else fs g) = some (ho, M) := q
      rw [if_neg e] at q
      obtain ⟨a1, a2, d, a3, a4, a5⟩ := (h g hg).2 ho M q
      have hd := tr_at hl a4
      exact ⟨(c.i (by omega)).trans a1, a2, d, (c.r (by omega)).trans a3, c.k.mpr a4, a5.of c (by omega) (fun k => by omega)⟩
set_option maxRecDepth 100000 in
theorem TR.tc {z : Nat} {M : List NN} (h : TR s b z M) : TC s b (M.map (fun n => n.2.1)) := by
  obtain ⟨a1, a2, u, a3, a4, a5⟩ := h
  refine ⟨by rw [List.length_map]; exact a1, by rw [List.length_map]; exact a2, fun i hi w hw => ?_⟩
  have hi2 : i < M.length := by rw [List.length_map] at hi; exact hi
  rw [List.getElem_map]
  exact (a5 i M[i] (List.getElem?_eq_getElem hi2)).1 w hw
set_option maxRecDepth 100000 in
theorem CG.rd (h : CG s fs lt) (hl : Ly tt (cCc xs) s) (hb : aK s b 3) (hn : ∀ f, f < 8 → sR s 100 f ≠ .ref b) (g : ch A s s1) (hA : ∀ a k, A a k → a = b ∨ a = b + 1 ∨ a = b + 2 ∨ a = b + 3 ∨ (106 ≤ a ∧ a ≤ 116)) : CG s1 fs lt := by
  have hb3 := tr_at hl hb
  refine ⟨h.1.rd hl hb hn g hA, CLt.go h.1 h.2 (fun f _ _ => g.r fun z => by have := hA _ _ z; omega) (fun f d hf _ hd hk => ?_)⟩
  have hd3 := tr_at hl hk
  have e : d ≠ b := fun z => hn f hf (by rw [← z]; exact hd)
  have p := tr_ne hl hk hb e
  have r := tr_ne hl hb hk (fun z => e z.symm)
  exact ⟨fun k => g.i fun z => (by have := hA _ _ z; omega), g.i fun z => (by have := hA _ _ z; omega), fun k => g.i fun z => (by have := hA _ _ z; omega)⟩
set_option maxRecDepth 100000 in
theorem CG.put {f z : Nat} {v : Int32} {M : List NN} (h : CG s fs lt) (hl : Ly tt (cCc xs) s) (hb : aK s b 3) (hT : TR s b z M) (hv : v ≠ -1) : CG (wI (wR s 100 f (.ref b)) 101 f v) (fsRd fs f v M) (ltRd lt f M) := by
  refine ⟨h.1.put hl hb hT.tc hv, fun g hg ho L q b9 hb9 => ?_⟩
  have c : ch (fun a k => (a = 100 ∨ a = 101) ∧ k = f) s (wI (wR s 100 f (.ref b)) 101 f v) := ((ch.refl _ s).wR ⟨Or.inl rfl, rfl⟩).wI ⟨Or.inr rfl, rfl⟩
  have hb3 := tr_at hl hb
  unfold fsRd at q
  unfold ltRd
  by_cases e : g = f
  · rw [if_pos e] at q
    have eL : L = M.map (fun n => n.2.1) := (Prod.mk.inj (Option.some.inj q)).2.symm
    rw [sR_wI, sR_wR, if_pos ⟨rfl, e⟩] at hb9
    injection hb9 with hb9
    rw [← hb9]
    obtain ⟨-, -, u, a3, -, a5⟩ := hT
    refine ⟨u, a3.of c (by omega) (fun k => by omega), fun i hi => ?_⟩
    rw [eL, List.length_map] at hi
    rw [if_pos e, List.getD, List.getElem?_eq_getElem hi]
    obtain ⟨-, st, e1, e2, e3⟩ := a5 i M[i] (List.getElem?_eq_getElem hi)
    exact ⟨st, (c.i (by omega)).trans e1, (c.i (by omega)).trans e2, e3⟩
  · rw [if_neg e] at q
    obtain ⟨-, -, d, a3, a4, -⟩ := (h.1 g hg).2 ho L q
    have hd := tr_at hl a4
    rw [c.r (by omega), a3] at hb9
    injection hb9 with hb9
    rw [← hb9]
    obtain ⟨u, u1, u2⟩ := h.2 g hg ho L q d a3
    refine ⟨u, u1.of c (by omega) (fun k => by omega), fun i hi => ?_⟩
    rw [if_neg e]
    obtain ⟨st, e1, e2, e3⟩ := u2 i hi
    exact ⟨st, (c.i (by omega)).trans e1, (c.i (by omega)).trans e2, e3⟩
set_option maxRecDepth 100000 in
theorem x62 (h : CV s t ns) (hl : Ly tt (cCc xs) s) (hc : CG s fs lt) (x1 x2 : Int32) : (¬ ((0 ≤ x1.toInt ∧ x1.toInt < 8) ∧ 0 ≤ x2.toInt ∧ x2.toInt < ns.length) ∧ dm62 x1 x2 s = some (.inr 2, nw s 82 0)) ∨ (((0 ≤ x1.toInt ∧ x1.toInt < 8) ∧ 0 ≤ x2.toInt ∧ x2.toInt < ns.length) ∧ ∃ v s1, dm62 x1 x2 s = some (.inl (some (.int v)), s1) ∧ ((∃ p, mRd t ns = .inl p ∧ v ≠ -1 ∧ CG s1 fs lt) ∨ ∃ L, mRd t ns = .inr L ∧ v = -1 ∧ CG s1 (fsRd fs x1.toInt.toNat x2 L) (ltRd lt x1.toInt.toNat L))) := by
  unfold dm62 dm62_8
  rcases y55 x1 with ⟨hx, e⟩ | ⟨hx, e⟩
  · left
    rw [e]
    simp only [bu_some]
    rw [if_pos trivial]
    exact ⟨fun q => hx q.1, rfl⟩
  · rw [e, d40 h.2.1.1.1 h.2.1.2.1]
    simp only [bu_some]
    rw [if_neg (by decide)]
    by_cases c : 0 ≤ x2.toInt ∧ x2.toInt < ns.length
    · right
      refine ⟨⟨hx, c⟩, ?_⟩
      rw [b01_t c, if_neg (by decide)]
      obtain ⟨b, b1, b2, b3⟩ := h.2.2.1.2.2
      rw [b1, vN_ref, if_pos b2]
      have h3 := tr_at hl b2
      have k108 : (sT s 108).2 = 256 := by rw [hl.T (a := 108) (p := (102, 256)) 30 rfl rfl]
      have hP : KP s b := ⟨b2, h3, by rw [(hl.tr b2).2.2.2.2.2.2.1], k108, ⟨(RC.ly hl).1, RC.ly hl, TF.ly hl, ES.ly hl⟩, h.2.2.2.2.1, h.2.2.2.2.2.1⟩
      obtain ⟨v, s1, j, g1, g2, g3⟩ := k63 h.1.1 h.1.2.1 h.1.2.2 h.2.1.1.1 h.2.1.2 hP
      have hr := rdC h.1.1 h.1.2.1 h.1.2.2 h.2.1.1.1 h.2.1.2 hP g1
      have hl1 := (dt63 (sio := true) (d := 2000) (by decide) hl b2 g1).1
      rw [g1]
      simp only [bv_some]
      have hc1 : ch (fun a k => AC b a k ∨ (a = 106 ∧ k = 6)) s s1 := ((ch.refl _ s).wR (Or.inr ⟨rfl, rfl⟩)).trans (g2.1.mono fun a k z => Or.inl z)
      have c1 : CG s1 fs lt := hc.rd hl b2 b3 hc1 (fun a k z => by unfold AC at z; omega)
      have hV : CV s1 t ns := h.rd hl b2 hc1 (fun a k z => by unfold AC at z; omega) g2.2.2.w g2.2.2.2
      have e78 : sR s1 78 6 = .ref b := (hc1.r (by unfold AC; omega)).trans b1
      have hb1 : aK s1 b 3 := hc1.k.mpr b2
      have hx8 : x1.toInt.toNat < 8 := by omega
      have hx2 : x2 ≠ -1 := fun q => by
        rw [iEq] at q
        have q : x2.toInt = -1 := q
        omega
      cases hm : mRd t ns with
      | inl p =>
        rw [hm] at hr
        have hr : v ≠ -1 := hr
        rw [if_neg hr]
        exact ⟨v, s1, rfl, Or.inl ⟨p, rfl, hr, c1⟩⟩
      | inr L =>
        rw [hm] at hr
        obtain ⟨hv1, hT⟩ : v = -1 ∧ TR s1 b 256 L := hr
        have c2 : CG (wI (wR s1 100 x1.toInt.toNat (.ref b)) 101 x1.toInt.toNat x2) (fsRd fs x1.toInt.toNat x2 L) (ltRd lt x1.toInt.toNat L) := c1.put hl1 hb1 hT hx2
        have l1 : Ly tt (cCc xs) (wI (wR s1 100 (jN x1) (.ref b)) 101 (jN x1) x2) := (ly_100 hl1).wId (by decide)
        rw [if_pos hv1, if_pos (aB_iff.mpr hx)]
        rcases hV.2.2.1.1 x1.toInt.toNat hx8 with z | ⟨d, z1, z2⟩
        · rw [show sR s1 100 (jN x1) = .null from z, vN_null, e78, vN_ref, if_pos hb1, if_pos (aB_iff.mpr hx)]
          simp only [nx_eq]
          rw [if_pos (aB_iff.mpr hx)]
          unfold dm62_46
          simp only [nx_eq]
          have c3 := CG.gx c2 l1 (gx_nT _)
          have l2 := (lay_tree l1.gL l1).1
          have c4 := c3.of9 l2 (A := fun a _ => a = 78) ((ch.refl _ _).wR (k := 6) (v := .ref (sL s1)) rfl) (fun a k z => by omega)
          exact ⟨v, _, rfl, Or.inr ⟨L, rfl, hv1, c4⟩⟩
        · rw [show sR s1 100 (jN x1) = .ref d from z1, vN_ref, if_pos z2, e78, vN_ref, if_pos hb1, if_pos (aB_iff.mpr hx)]
          simp only [nx_eq]
          rw [if_pos (aB_iff.mpr hx)]
          unfold dm62_46
          simp only [nx_eq]
          have c4 := c2.of9 l1 (A := fun a _ => a = 78) ((ch.refl _ _).wR (k := 6) (v := .ref d) rfl) (fun a k z => by omega)
          exact ⟨v, _, rfl, Or.inr ⟨L, rfl, hv1, c4⟩⟩
    · left
      rw [b01_f c, if_pos rfl]
      exact ⟨fun q => c q.2, rfl⟩
set_option maxRecDepth 100000 in
theorem s_read (h : SG tt xs s t ns fs lt) (x1 x2 : Int32) : PV tt xs s False (dm5 x1 x2 s) (dm184 x1 x2) := by
  have h0 := h
  obtain ⟨⟨hl, hv, hr⟩, hc⟩ := h
  have T147 : ∀ s1, Ly tt (cCc xs) s1 → (sT s1 147).2 = 256 := fun s1 l1 => by rw [l1.T (a := 147) (p := (100, 256)) 69 rfl rfl]
  have T122 : ∀ s1, Ly tt (cCc xs) s1 → (sT s1 122).2 = 256 := fun s1 l1 => by rw [l1.T (a := 122) (p := (100, 256)) 44 rfl rfl]
  rcases x62 hv hl hc x1 x2 with ⟨c, e⟩ | ⟨c, v, s1, e, w⟩
  · have e1 : dm5 x1 x2 s = some (1, nw s 82 0) := by
      unfold dm5
      rw [e]
      rfl
    obtain ⟨l1, r1, -, -⟩ := h0.tw (y := 82) (by omega) 1
    rcases R184 r1 hv.1.2.1 hv.1.2.2 hv.2.1.2 (T147 _ l1) (T122 _ l1) x1 x2 with ⟨d, s2, f, f1, f2, f3⟩ | ⟨d, -⟩
    · have q := dt184 (sio := true) (d := 2000) (by decide) l1 f
      exact ⟨_, _, _, s2, t, ns, fs, lt, e1, l1, f, fun z => z.elim, SG.m l1 (hv.thr hl (by decide)) (hc.gx hl (gx_nw s 82 0)) q.1 f3 f2, (gw_nw s).tr f3⟩
    · exact absurd d c
  · have e3 : dm5 x1 x2 s = some (0, wJ s1 148 (jN 0) v.toInt64) := by
      unfold dm5
      rw [e]
      simp only [bv_some]
      rw [zN_l, vI_int, if_pos a01, nx_eq]
    have q1 := dt5 (sio := true) (d := 2000) (by decide) hl e3
    have r1 := hr.ex hl q1.2.1
    obtain ⟨o, s9, z1, -, z2, z3⟩ := y62 hv hl x1 x2
    have es : s9 = s1 := (Prod.mk.inj (Option.some.inj (z1.symm.trans e))).2
    rw [es] at z2 z3
    rcases R184 r1 hv.1.2.1 hv.1.2.2 hv.2.1.2 (T147 _ q1.1) (T122 _ q1.1) x1 x2 with ⟨d, -⟩ | ⟨-, ⟨p, s2, f0, f, f1, f2, f3⟩ | ⟨L, s2, f0, -, f, f1, f2, f3⟩⟩
    · exact absurd c d
    · have q := dt184 (sio := true) (d := 2000) (by decide) q1.1 f
      rcases w with ⟨p9, w1, w2, w3⟩ | ⟨L9, w1, -⟩
      · exact ⟨_, _, _, s2, t, ns, fs, lt, e3, q1.1, f, fun z => z.elim, SG.m q1.1 z2.j w3.j q.1 f3 f2, z3.j.tr f3⟩
      · rw [w1] at f0
        cases f0
    · have q := dt184 (sio := true) (d := 2000) (by decide) q1.1 f
      rcases w with ⟨p9, w1, -⟩ | ⟨L9, w1, w2, w3⟩
      · rw [w1] at f0
        cases f0
      · have eL : L9 = L := Sum.inr.inj (w1.symm.trans f0)
        rw [eL] at w3
        exact ⟨_, _, _, s2, t, ns, _, _, e3, q1.1, f, fun z => z.elim, SG.m q1.1 z2.j w3.j q.1 f3 f2, z3.j.tr f3⟩
end SGs
