/-! each call in both, with the formulas: text and names -/
section SGs
variable {tt : Nat} {xs : List Int32} {s s1 s2 : aS} {t : List Int32} {ns : List (List Int32)} {fs : Nat → Option Fm} {lt : Nat → Nat → List Int32} {A : Nat → Nat → Prop}
set_option maxRecDepth 100000 in
theorem s_type (h : SG tt xs s t ns fs lt) (x : Int32) : PV tt xs s True (dm1 x s) (dm172 x) := by
  obtain ⟨⟨hl, hv, hr⟩, hc⟩ := h
  have T80 : (sT s 80).2 = 256 := (RC.ly hl).1
  have fin : ∀ k s1, dm1 x s = some (k, s1) → Ly tt (cCc xs) s1 ∧ RV s1 t ns fs lt := fun k s1 e => by
    have q := dt1 (sio := true) (d := 2000) (by decide) hl e
    exact ⟨q.1, hr.ex hl q.2.1⟩
  rcases t27 (x := x) hv.1.1 T80 hv.1.2.1 with ⟨c, e⟩ | ⟨c, c2, e⟩ | ⟨c, c2, s1, e, e1, e2⟩
  · have e1 : dm1 x s = some (1, nw s 80 0) := by
      unfold dm1
      rw [e]
      rfl
    obtain ⟨l1, v1⟩ := fin _ _ e1
    rcases t172 (x := x) v1.1 hv.1.2.1 with ⟨d, f⟩ | ⟨d, -⟩ | ⟨d, -⟩
    · have q := dt172 (sio := true) (d := 2000) (by decide) l1 f
      exact ⟨_, _, _, _, t, ns, fs, lt, e1, l1, f, fun _ => ⟨by rw [sI_wI, if_pos ⟨rfl, rfl⟩], fun z => absurd z (by decide)⟩, SG.m l1 (hv.thr hl (by decide)) (hc.gx hl (gx_nw s 80 0)) q.1 (v1.t0 1).2 (v1.t0 1).1, (gw_nw s).tr (v1.t0 1).2⟩
    · exact absurd d c
    · exact absurd d c
  · have e1 : dm1 x s = some (2, nw s 81 0) := by
      unfold dm1
      rw [e]
      rfl
    obtain ⟨l1, v1⟩ := fin _ _ e1
    rcases t172 (x := x) v1.1 hv.1.2.1 with ⟨d, f⟩ | ⟨d, -, f⟩ | ⟨d, d2, -⟩
    · exact absurd c d
    · have q := dt172 (sio := true) (d := 2000) (by decide) l1 f
      exact ⟨_, _, _, _, t, ns, fs, lt, e1, l1, f, fun _ => ⟨by rw [sI_wI, if_pos ⟨rfl, rfl⟩], fun z => absurd z (by decide)⟩, SG.m l1 (hv.thr hl (by decide)) (hc.gx hl (gx_nw s 81 0)) q.1 (v1.t0 2).2 (v1.t0 2).1, (gw_nw s).tr (v1.t0 2).2⟩
    · omega
  · have e3 : dm1 x s = some (0, wJ s1 148 (jN 0) (Int32.ofNat (t ++ nzF x 4 0).length).toInt64) := by
      unfold dm1
      rw [e]
      simp only [bv_some]
      rw [zN_l, vI_int, if_pos a01, nx_eq]
    obtain ⟨l1, v1⟩ := fin _ _ e3
    have hlen : (t ++ nzF x 4 0).length ≤ 256 := by rw [List.length_append, nzF_len]; exact c2
    have hok : okT (t ++ nzF x 4 0) := okT_ap hv.1.2.2 (nzF_ok x 4 0 c)
    have w1 : CV (wJ s1 148 (jN 0) (Int32.ofNat (t ++ nzF x 4 0).length).toInt64) (t ++ nzF x 4 0) ns := (hv.tx hl (e2.mono fun a k z => by omega) e1 ⟨hlen, hok⟩).j
    rcases t172 (x := x) v1.1 hv.1.2.1 with ⟨d, -⟩ | ⟨d, d2, -⟩ | ⟨d, d2, s2, f, f1, f2, f3⟩
    · exact absurd c d
    · omega
    · have q := dt172 (sio := true) (d := 2000) (by decide) l1 f
      have g : ch mA (wJ s1 148 (jN 0) (Int32.ofNat (t ++ nzF x 4 0).length).toInt64) s2 := f3.mono fun a k z => by unfold mA; omega
      refine ⟨_, _, _, s2, t ++ nzF x 4 0, ns, fs, lt, e3, l1, f, fun _ => ⟨f2, fun _ => ?_⟩, SG.m l1 w1 (hc.of9 hl e2 (fun a k z => by omega)).j q.1 g ⟨f1, v1.2.1.of f3 (fun a k z => by omega), v1.2.2.1.of f3 (fun a k z => by omega), v1.2.2.2.1.of f3 (fun a k z => by omega), v1.2.2.2.2⟩, ?_⟩
      · rw [jj f3 (by omega), sJ_wJ, if_pos ⟨rfl, rfl⟩]
      · exact ((gw_ch e2).j (k := jN 0) (v := (Int32.ofNat (t ++ nzF x 4 0).length).toInt64)).tr f3
set_option maxRecDepth 100000 in
theorem s_erase (h : SG tt xs s t ns fs lt) : ∃ s1 s2, dm25 s = some s1 ∧ dm173 s1 = some s2 ∧ SG tt xs s2 [] ns fs lt ∧ gw s s2 := by
  obtain ⟨⟨hl, hv, hr⟩, hc⟩ := h
  have e : dm25 s = some (wI s 79 1 0) := rfl
  have g1 : ch (fun a _ => a = 79 ∨ a = 80) s (wI s 79 1 0) := (ch.refl _ s).wI (Or.inl rfl)
  have q := dt25 (sio := true) (d := 2000) (by decide) hl e
  have w1 : CV (wI s 79 1 0) [] ns := hv.tx hl g1 ⟨by rw [sI_wI, if_pos ⟨rfl, rfl⟩]; rfl, fun j hj => absurd hj (Nat.not_lt_zero j)⟩ ⟨Nat.zero_le _, fun y hy => (by cases hy)⟩
  obtain ⟨s2, f, f1, f2⟩ := r173 (hr.ex hl q.2.1)
  have q2 := dt173 (sio := true) (d := 2000) (by decide) q.1 f
  exact ⟨_, s2, e, f, SG.m q.1 w1 (hc.of9 hl g1 (fun a k z => by omega)) q2.1 f2 f1, (gw_ch g1).tr f2⟩
set_option maxRecDepth 100000 in
theorem s_sheet (h : SG tt xs s t ns fs lt) : PV tt xs s True (dm2 s) dm174 := by
  obtain ⟨⟨hl, hv, hr⟩, hc⟩ := h
  have fin : ∀ k s1, dm2 s = some (k, s1) → Ly tt (cCc xs) s1 ∧ RV s1 t ns fs lt := fun k s1 e => by
    have q := dt2 (sio := true) (d := 2000) (by decide) hl e
    exact ⟨q.1, hr.ex hl q.2.1⟩
  have T122 : ∀ s1, Ly tt (cCc xs) s1 → (sT s1 122).2 = 256 := fun s1 l1 => by rw [l1.T (a := 122) (p := (100, 256)) 44 rfl rfl]
  rcases d30 hv.2.1.1 (RC.ly hl) hv.2.1.2 (FB.ly hl) (TF.ly hl) hv.1.1 hv.1.2.1 hv.1.2.2 with ⟨c, e⟩ | ⟨c, c2, e⟩ | ⟨c, c2, s1, e, e1, e2⟩
  · have e1 : dm2 s = some (1, nw s 80 0) := by
      unfold dm2
      rw [e]
      rfl
    obtain ⟨l1, v1⟩ := fin _ _ e1
    rcases d174 v1.2.1 hv.2.1.2 v1.1 hv.1.2.1 (T122 _ l1) with ⟨d, f⟩ | ⟨d, -⟩ | ⟨d, -⟩
    · have q := dt174 (sio := true) (d := 2000) (by decide) l1 f
      exact ⟨_, _, _, _, t, ns, fs, lt, e1, l1, f, fun _ => ⟨by rw [sI_wI, if_pos ⟨rfl, rfl⟩], fun z => absurd z (by decide)⟩, SG.m l1 (hv.thr hl (by decide)) (hc.gx hl (gx_nw s 80 0)) q.1 (v1.t0 1).2 (v1.t0 1).1, (gw_nw s).tr (v1.t0 1).2⟩
    · exact absurd d c
    · exact absurd d c
  · have e1 : dm2 s = some (2, nw s 81 0) := by
      unfold dm2
      rw [e]
      rfl
    obtain ⟨l1, v1⟩ := fin _ _ e1
    rcases d174 v1.2.1 hv.2.1.2 v1.1 hv.1.2.1 (T122 _ l1) with ⟨d, f⟩ | ⟨d, -, f⟩ | ⟨d, d2, -⟩
    · exact absurd c d
    · have q := dt174 (sio := true) (d := 2000) (by decide) l1 f
      exact ⟨_, _, _, _, t, ns, fs, lt, e1, l1, f, fun _ => ⟨by rw [sI_wI, if_pos ⟨rfl, rfl⟩], fun z => absurd z (by decide)⟩, SG.m l1 (hv.thr hl (by decide)) (hc.gx hl (gx_nw s 81 0)) q.1 (v1.t0 2).2 (v1.t0 2).1, (gw_nw s).tr (v1.t0 2).2⟩
    · omega
  · have e3 : dm2 s = some (0, wJ s1 148 (jN 0) (Int32.ofNat ns.length).toInt64) := by
      unfold dm2
      rw [e]
      simp only [bv_some]
      rw [zN_l, vI_int, if_pos a01, nx_eq]
    obtain ⟨l1, v1⟩ := fin _ _ e3
    have w1 : CV (wJ s1 148 (jN 0) (Int32.ofNat ns.length).toInt64) t (ns ++ [t]) := (hv.nm hl e2 e1 (ok_ap hv.2.1.2 c2 c.1 hv.1.2.2)).j
    rcases d174 v1.2.1 hv.2.1.2 v1.1 hv.1.2.1 (T122 _ l1) with ⟨d, -⟩ | ⟨d, d2, -⟩ | ⟨d, d2, s2, f, f1, f2, f3⟩
    · exact absurd c d
    · omega
    · have q := dt174 (sio := true) (d := 2000) (by decide) l1 f
      have g : ch mA (wJ s1 148 (jN 0) (Int32.ofNat ns.length).toInt64) s2 := f3.mono fun a k z => by unfold mA; omega
      refine ⟨_, _, _, s2, t, ns ++ [t], fs, lt, e3, l1, f, fun _ => ⟨f2, fun _ => ?_⟩, SG.m l1 w1 (hc.of9 hl e2 (fun a k z => by omega)).j q.1 g ⟨v1.1.of f3 (by omega) (fun j => by omega), f1, v1.2.2.1.of f3 (fun a k z => by omega), v1.2.2.2.1.of f3 (fun a k z => by omega), v1.2.2.2.2.1, v1.2.2.2.2.2.len (by rw [List.length_append]; omega)⟩, ?_⟩
      · rw [jj f3 (by omega), sJ_wJ, if_pos ⟨rfl, rfl⟩]
      · exact ((gw_ch e2).j (k := jN 0) (v := (Int32.ofNat ns.length).toInt64)).tr f3
set_option maxRecDepth 100000 in
theorem s_rename (h : SG tt xs s t ns fs lt) (x : Int32) : PN tt xs s (dm3 x s) (dm180 x) := by
  obtain ⟨⟨hl, hv, hr⟩, hc⟩ := h
  have fin : ∀ k s1, dm3 x s = some (k, s1) → Ly tt (cCc xs) s1 ∧ RV s1 t ns fs lt := fun k s1 e => by
    have q := dt3 (sio := true) (d := 2000) (by decide) hl e
    exact ⟨q.1, hr.ex hl q.2.1⟩
  have T122 : ∀ s1, Ly tt (cCc xs) s1 → (sT s1 122).2 = 256 := fun s1 l1 => by rw [l1.T (a := 122) (p := (100, 256)) 44 rfl rfl]
  rcases d51 hv.2.1.1 (RC.ly hl) hv.2.1.2 (FB.ly hl) (TF.ly hl) hv.1.1 hv.1.2.1 hv.1.2.2 x with ⟨c, e⟩ | ⟨c, c2, e⟩ | ⟨c, c2, s1, e, e1, e2⟩
  · have e1 : dm3 x s = some (1, nw s 82 0) := by
      unfold dm3
      rw [e]
      rfl
    obtain ⟨l1, v1⟩ := fin _ _ e1
    rcases d180 v1.2.1 hv.2.1.2 v1.1 hv.1.2.1 (T122 _ l1) x with ⟨d, f⟩ | ⟨d, -⟩ | ⟨d, -⟩
    · have q := dt180 (sio := true) (d := 2000) (by decide) l1 f
      exact ⟨_, _, _, t, ns, fs, lt, e1, l1, f, by rw [sI_wI, if_pos ⟨rfl, rfl⟩], SG.m l1 (hv.thr hl (by decide)) (hc.gx hl (gx_nw s 82 0)) q.1 (v1.t0 1).2 (v1.t0 1).1, (gw_nw s).tr (v1.t0 1).2⟩
    · exact absurd d c
    · exact absurd d c
  · have e1 : dm3 x s = some (2, nw s 80 0) := by
      unfold dm3
      rw [e]
      rfl
    obtain ⟨l1, v1⟩ := fin _ _ e1
    rcases d180 v1.2.1 hv.2.1.2 v1.1 hv.1.2.1 (T122 _ l1) x with ⟨d, f⟩ | ⟨d, -, f⟩ | ⟨d, d2, -⟩
    · exact absurd c d
    · have q := dt180 (sio := true) (d := 2000) (by decide) l1 f
      exact ⟨_, _, _, t, ns, fs, lt, e1, l1, f, by rw [sI_wI, if_pos ⟨rfl, rfl⟩], SG.m l1 (hv.thr hl (by decide)) (hc.gx hl (gx_nw s 80 0)) q.1 (v1.t0 2).2 (v1.t0 2).1, (gw_nw s).tr (v1.t0 2).2⟩
    · exact absurd d2 c2
  · have e3 : dm3 x s = some (0, s1) := by
      unfold dm3
      rw [e]
      rfl
    obtain ⟨l1, v1⟩ := fin _ _ e3
    have w1 : CV s1 t (ns.set x.toInt.toNat t) := hv.nm hl e2 e1 (ok_set hv.2.1.2 c2.1 hv.1.2.2)
    rcases d180 v1.2.1 hv.2.1.2 v1.1 hv.1.2.1 (T122 _ l1) x with ⟨d, -⟩ | ⟨d, d2, -⟩ | ⟨d, d2, s2, f, f1, f2, f3⟩
    · exact absurd c d
    · exact absurd c2 d2
    · have q := dt180 (sio := true) (d := 2000) (by decide) l1 f
      have g : ch mA s1 s2 := f3.mono fun a k z => by unfold mA; omega
      exact ⟨_, _, s2, t, _, fs, lt, e3, l1, f, f2, SG.m l1 w1 (hc.of9 hl e2 (fun a k z => by omega)) q.1 g ⟨v1.1.of f3 (by omega) (fun j => by omega), f1, v1.2.2.1.of f3 (fun a k z => by omega), v1.2.2.2.1.of f3 (fun a k z => by omega), v1.2.2.2.2.1, v1.2.2.2.2.2.len (by rw [List.length_set]; omega)⟩, (gw_ch e2).tr f3⟩
end SGs
