/-! calls that change text and names, and name: both answer the same -/
section SSs
variable {tt : Nat} {xs : List Int32} {s s1 : aS} {t : List Int32} {ns : List (List Int32)} {fs : Nat → Option Fm} {lt : Nat → Nat → List Int32}
set_option maxRecDepth 100000 in
theorem okT_ap {t u : List Int32} (h : okT t) (g : okT u) : okT (t ++ u) := fun x hx => (List.mem_append.mp hx).elim (h x) (g x)
set_option maxRecDepth 100000 in
/-- both sides are done: the new state -/
theorem SS.on {t1 : List Int32} {ns1 : List (List Int32)} {s2 : aS} (l2 : Ly tt (cCc xs) s2) (l1 : Ly tt (cCc xs) s1) (hv : CV s1 t1 ns1) (g : ch mA s1 s2) (hr : RV s2 t1 ns1 fs lt) : SS tt xs s2 t1 ns1 fs lt := ⟨l2, hv.m l1 g, hr⟩
set_option maxRecDepth 100000 in
theorem jj {k : Nat} {A : Nat → Nat → Prop} {s2 : aS} (g : ch A s1 s2) (h : ¬ A 148 k) : sJ s2 148 k = sJ s1 148 k := (g.2.2 148 k h).2.2
set_option maxRecDepth 100000 in
theorem q_type (h : SS tt xs s t ns fs lt) (x : Int32) : ∃ k s1 b s2 t1, dm1 x s = some (k, s1) ∧ Ly tt (cCc xs) s1 ∧ dm172 x s1 = some (b, s2) ∧ sI s2 121 0 = k ∧ (k = 0 → sJ s2 148 0 = b.toInt64) ∧ SS tt xs s2 t1 ns fs lt ∧ gw s s2 := by
  obtain ⟨hl, hv, hr⟩ := h
  have T80 : (sT s 80).2 = 256 := (RC.ly hl).1
  have fin : ∀ k s1, dm1 x s = some (k, s1) → Ly tt (cCc xs) s1 ∧ RV s1 t ns fs lt := fun k s1 e => by
    have q := dt1 (sio := true) (d := 2000) (by decide) hl e
    exact ⟨q.1, hr.ex hl q.2.1⟩
  rcases t27 (x := x) hv.1.1 T80 hv.1.2.1 with ⟨c, e⟩ | ⟨c, c2, e⟩ | ⟨c, c2, s1, e, e1, e2⟩
  · have e1 : dm1 x s = some (1, nw s 80 0) := by
      unfold dm1
      rw [e]
      rfl
    obtain ⟨l1, v1⟩ := fin _ _ e1
    rcases t172 (x := x) v1.1 hv.1.2.1 with ⟨d, f⟩ | ⟨d, -⟩ | ⟨d, -⟩
    · have q := dt172 (sio := true) (d := 2000) (by decide) l1 f
      exact ⟨_, _, _, _, t, e1, l1, f, by rw [sI_wI, if_pos ⟨rfl, rfl⟩], fun z => absurd z (by decide), SS.on q.1 l1 (hv.thr hl (by decide)) (v1.t0 1).2 (v1.t0 1).1, (gw_nw s).tr (v1.t0 1).2⟩
    · exact absurd d c
    · exact absurd d c
  · have e1 : dm1 x s = some (2, nw s 81 0) := by
      unfold dm1
      rw [e]
      rfl
    obtain ⟨l1, v1⟩ := fin _ _ e1
    rcases t172 (x := x) v1.1 hv.1.2.1 with ⟨d, f⟩ | ⟨d, -, f⟩ | ⟨d, d2, -⟩
    · exact absurd c d
    · have q := dt172 (sio := true) (d := 2000) (by decide) l1 f
      exact ⟨_, _, _, _, t, e1, l1, f, by rw [sI_wI, if_pos ⟨rfl, rfl⟩], fun z => absurd z (by decide), SS.on q.1 l1 (hv.thr hl (by decide)) (v1.t0 2).2 (v1.t0 2).1, (gw_nw s).tr (v1.t0 2).2⟩
    · omega
  · have e3 : dm1 x s = some (0, wJ s1 148 (jN 0) (Int32.ofNat (t ++ nzF x 4 0).length).toInt64) := by
      unfold dm1
      rw [e]
      simp only [bv_some]
      rw [zN_l, vI_int, if_pos a01, nx_eq]
    obtain ⟨l1, v1⟩ := fin _ _ e3
    have hlen : (t ++ nzF x 4 0).length ≤ 256 := by rw [List.length_append, nzF_len]; exact c2
    have hok : okT (t ++ nzF x 4 0) := okT_ap hv.1.2.2 (nzF_ok x 4 0 c)
    have w1 : CV (wJ s1 148 (jN 0) (Int32.ofNat (t ++ nzF x 4 0).length).toInt64) (t ++ nzF x 4 0) ns := (hv.tx hl (e2.mono fun a k z => by omega) e1 ⟨hlen, hok⟩).j
    rcases t172 (x := x) v1.1 hv.1.2.1 with ⟨d, -⟩ | ⟨d, d2, -⟩ | ⟨d, d2, s2, f, f1, f2, f3⟩
    · exact absurd c d
    · omega
    · have q := dt172 (sio := true) (d := 2000) (by decide) l1 f
      have g : ch mA (wJ s1 148 (jN 0) (Int32.ofNat (t ++ nzF x 4 0).length).toInt64) s2 := f3.mono fun a k z => by unfold mA; omega
      refine ⟨_, _, _, s2, t ++ nzF x 4 0, e3, l1, f, f2, fun _ => ?_, SS.on q.1 l1 w1 g ⟨f1, v1.2.1.of f3 (fun a k z => by omega), v1.2.2.1.of f3 (fun a k z => by omega), v1.2.2.2.1.of f3 (fun a k z => by omega), v1.2.2.2.2⟩, ?_⟩
      · rw [jj f3 (by omega), sJ_wJ, if_pos ⟨rfl, rfl⟩]
      · exact ((gw_ch e2).j (k := jN 0) (v := (Int32.ofNat (t ++ nzF x 4 0).length).toInt64)).tr f3
set_option maxRecDepth 100000 in
theorem q_erase (h : SS tt xs s t ns fs lt) : ∃ s1 s2, dm25 s = some s1 ∧ dm173 s1 = some s2 ∧ SS tt xs s2 [] ns fs lt ∧ gw s s2 := by
  obtain ⟨hl, hv, hr⟩ := h
  have e : dm25 s = some (wI s 79 1 0) := rfl
  have g1 : ch (fun a _ => a = 79 ∨ a = 80) s (wI s 79 1 0) := (ch.refl _ s).wI (Or.inl rfl)
  have q := dt25 (sio := true) (d := 2000) (by decide) hl e
  have w1 : CV (wI s 79 1 0) [] ns := hv.tx hl g1 ⟨by rw [sI_wI, if_pos ⟨rfl, rfl⟩]; rfl, fun j hj => absurd hj (Nat.not_lt_zero j)⟩ ⟨Nat.zero_le _, fun y hy => (by cases hy)⟩
  obtain ⟨s2, f, f1, f2⟩ := r173 (hr.ex hl q.2.1)
  have q2 := dt173 (sio := true) (d := 2000) (by decide) q.1 f
  exact ⟨_, s2, e, f, SS.on q2.1 q.1 w1 f2 f1, (gw_ch g1).tr f2⟩
set_option maxRecDepth 100000 in
theorem ok_ap (h : nsOk ns) (h8 : ns.length < 8) (ht : nmP t) (ho : okT t) : nsOk (ns ++ [t]) := by
  refine ⟨by rw [List.length_append]; show ns.length + 1 ≤ 8; omega, fun n hn => ?_⟩
  rcases List.mem_append.mp hn with z | z
  · exact h.2 n z
  · rw [List.mem_singleton.mp z]
    exact ⟨ht.1, ht.2.1, ho⟩
set_option maxRecDepth 100000 in
theorem q_sheet (h : SS tt xs s t ns fs lt) : ∃ k s1 b s2 ns1, dm2 s = some (k, s1) ∧ Ly tt (cCc xs) s1 ∧ dm174 s1 = some (b, s2) ∧ sI s2 121 0 = k ∧ (k = 0 → sJ s2 148 0 = b.toInt64) ∧ SS tt xs s2 t ns1 fs lt ∧ gw s s2 := by
  obtain ⟨hl, hv, hr⟩ := h
  have fin : ∀ k s1, dm2 s = some (k, s1) → Ly tt (cCc xs) s1 ∧ RV s1 t ns fs lt := fun k s1 e => by
    have q := dt2 (sio := true) (d := 2000) (by decide) hl e
    exact ⟨q.1, hr.ex hl q.2.1⟩
  have T122 : ∀ s1, Ly tt (cCc xs) s1 → (sT s1 122).2 = 256 := fun s1 l1 => by rw [l1.T (a := 122) (p := (100, 256)) 44 rfl rfl]
  rcases d30 hv.2.1.1 (RC.ly hl) hv.2.1.2 (FB.ly hl) (TF.ly hl) hv.1.1 hv.1.2.1 hv.1.2.2 with ⟨c, e⟩ | ⟨c, c2, e⟩ | ⟨c, c2, s1, e, e1, e2⟩
  · have e1 : dm2 s = some (1, nw s 80 0) := by
      unfold dm2
      rw [e]
      rfl
    obtain ⟨l1, v1⟩ := fin _ _ e1
    rcases d174 v1.2.1 hv.2.1.2 v1.1 hv.1.2.1 (T122 _ l1) with ⟨d, f⟩ | ⟨d, -⟩ | ⟨d, -⟩
    · have q := dt174 (sio := true) (d := 2000) (by decide) l1 f
      exact ⟨_, _, _, _, ns, e1, l1, f, by rw [sI_wI, if_pos ⟨rfl, rfl⟩], fun z => absurd z (by decide), SS.on q.1 l1 (hv.thr hl (by decide)) (v1.t0 1).2 (v1.t0 1).1, (gw_nw s).tr (v1.t0 1).2⟩
    · exact absurd d c
    · exact absurd d c
  · have e1 : dm2 s = some (2, nw s 81 0) := by
      unfold dm2
      rw [e]
      rfl
    obtain ⟨l1, v1⟩ := fin _ _ e1
    rcases d174 v1.2.1 hv.2.1.2 v1.1 hv.1.2.1 (T122 _ l1) with ⟨d, f⟩ | ⟨d, -, f⟩ | ⟨d, d2, -⟩
    · exact absurd c d
    · have q := dt174 (sio := true) (d := 2000) (by decide) l1 f
      exact ⟨_, _, _, _, ns, e1, l1, f, by rw [sI_wI, if_pos ⟨rfl, rfl⟩], fun z => absurd z (by decide), SS.on q.1 l1 (hv.thr hl (by decide)) (v1.t0 2).2 (v1.t0 2).1, (gw_nw s).tr (v1.t0 2).2⟩
    · omega
  · have e3 : dm2 s = some (0, wJ s1 148 (jN 0) (Int32.ofNat ns.length).toInt64) := by
      unfold dm2
      rw [e]
      simp only [bv_some]
      rw [zN_l, vI_int, if_pos a01, nx_eq]
    obtain ⟨l1, v1⟩ := fin _ _ e3
    have w1 : CV (wJ s1 148 (jN 0) (Int32.ofNat ns.length).toInt64) t (ns ++ [t]) := (hv.nm hl e2 e1 (ok_ap hv.2.1.2 c2 c.1 hv.1.2.2)).j
    rcases d174 v1.2.1 hv.2.1.2 v1.1 hv.1.2.1 (T122 _ l1) with ⟨d, -⟩ | ⟨d, d2, -⟩ | ⟨d, d2, s2, f, f1, f2, f3⟩
    · exact absurd c d
    · omega
    · have q := dt174 (sio := true) (d := 2000) (by decide) l1 f
      have g : ch mA (wJ s1 148 (jN 0) (Int32.ofNat ns.length).toInt64) s2 := f3.mono fun a k z => by unfold mA; omega
      refine ⟨_, _, _, s2, ns ++ [t], e3, l1, f, f2, fun _ => ?_, SS.on q.1 l1 w1 g ⟨v1.1.of f3 (by omega) (fun j => by omega), f1, v1.2.2.1.of f3 (fun a k z => by omega), v1.2.2.2.1.of f3 (fun a k z => by omega), v1.2.2.2.2.1, v1.2.2.2.2.2.len (by rw [List.length_append]; omega)⟩, ?_⟩
      · rw [jj f3 (by omega), sJ_wJ, if_pos ⟨rfl, rfl⟩]
      · exact ((gw_ch e2).j (k := jN 0) (v := (Int32.ofNat ns.length).toInt64)).tr f3
set_option maxRecDepth 100000 in
theorem ok_set {i : Nat} (h : nsOk ns) (ht : nmP t) (ho : okT t) : nsOk (ns.set i t) := by
  refine ⟨by rw [List.length_set]; exact h.1, fun n hn => ?_⟩
  rcases List.mem_or_eq_of_mem_set hn with z | z
  · exact h.2 n z
  · rw [z]
    exact ⟨ht.1, ht.2.1, ho⟩
set_option maxRecDepth 100000 in
theorem q_rename (h : SS tt xs s t ns fs lt) (x : Int32) : ∃ k s1 s2 ns1, dm3 x s = some (k, s1) ∧ Ly tt (cCc xs) s1 ∧ dm180 x s1 = some s2 ∧ sI s2 121 0 = k ∧ SS tt xs s2 t ns1 fs lt ∧ gw s s2 := by
  obtain ⟨hl, hv, hr⟩ := h
  have fin : ∀ k s1, dm3 x s = some (k, s1) → Ly tt (cCc xs) s1 ∧ RV s1 t ns fs lt := fun k s1 e => by
    have q := dt3 (sio := true) (d := 2000) (by decide) hl e
    exact ⟨q.1, hr.ex hl q.2.1⟩
  have T122 : ∀ s1, Ly tt (cCc xs) s1 → (sT s1 122).2 = 256 := fun s1 l1 => by rw [l1.T (a := 122) (p := (100, 256)) 44 rfl rfl]
  rcases d51 hv.2.1.1 (RC.ly hl) hv.2.1.2 (FB.ly hl) (TF.ly hl) hv.1.1 hv.1.2.1 hv.1.2.2 x with ⟨c, e⟩ | ⟨c, c2, e⟩ | ⟨c, c2, s1, e, e1, e2⟩
  · have e1 : dm3 x s = some (1, nw s 82 0) := by
      unfold dm3
      rw [e]
      rfl
    obtain ⟨l1, v1⟩ := fin _ _ e1
    rcases d180 v1.2.1 hv.2.1.2 v1.1 hv.1.2.1 (T122 _ l1) x with ⟨d, f⟩ | ⟨d, -⟩ | ⟨d, -⟩
    · have q := dt180 (sio := true) (d := 2000) (by decide) l1 f
      exact ⟨_, _, _, ns, e1, l1, f, by rw [sI_wI, if_pos ⟨rfl, rfl⟩], SS.on q.1 l1 (hv.thr hl (by decide)) (v1.t0 1).2 (v1.t0 1).1, (gw_nw s).tr (v1.t0 1).2⟩
    · exact absurd d c
    · exact absurd d c
  · have e1 : dm3 x s = some (2, nw s 80 0) := by
      unfold dm3
      rw [e]
      rfl
    obtain ⟨l1, v1⟩ := fin _ _ e1
    rcases d180 v1.2.1 hv.2.1.2 v1.1 hv.1.2.1 (T122 _ l1) x with ⟨d, f⟩ | ⟨d, -, f⟩ | ⟨d, d2, -⟩
    · exact absurd c d
    · have q := dt180 (sio := true) (d := 2000) (by decide) l1 f
      exact ⟨_, _, _, ns, e1, l1, f, by rw [sI_wI, if_pos ⟨rfl, rfl⟩], SS.on q.1 l1 (hv.thr hl (by decide)) (v1.t0 2).2 (v1.t0 2).1, (gw_nw s).tr (v1.t0 2).2⟩
    · exact absurd d2 c2
  · have e3 : dm3 x s = some (0, s1) := by
      unfold dm3
      rw [e]
      rfl
    obtain ⟨l1, v1⟩ := fin _ _ e3
    have w1 : CV s1 t (ns.set x.toInt.toNat t) := hv.nm hl e2 e1 (ok_set hv.2.1.2 c2.1 hv.1.2.2)
    rcases d180 v1.2.1 hv.2.1.2 v1.1 hv.1.2.1 (T122 _ l1) x with ⟨d, -⟩ | ⟨d, d2, -⟩ | ⟨d, d2, s2, f, f1, f2, f3⟩
    · exact absurd c d
    · exact absurd c2 d2
    · have q := dt180 (sio := true) (d := 2000) (by decide) l1 f
      have g : ch mA s1 s2 := f3.mono fun a k z => by unfold mA; omega
      exact ⟨_, _, s2, _, e3, l1, f, f2, SS.on q.1 l1 w1 g ⟨v1.1.of f3 (by omega) (fun j => by omega), f1, v1.2.2.1.of f3 (fun a k z => by omega), v1.2.2.2.1.of f3 (fun a k z => by omega), v1.2.2.2.2.1, v1.2.2.2.2.2.len (by rw [List.length_set]; omega)⟩, (gw_ch e2).tr f3⟩
set_option maxRecDepth 100000 in
theorem q_drop (h : SS tt xs s t ns fs lt) (x : Int32) : ∃ k s1 s2 ns1 fs1, dm4 x s = some (k, s1) ∧ Ly tt (cCc xs) s1 ∧ dm182 x s1 = some s2 ∧ sI s2 121 0 = k ∧ SS tt xs s2 t ns1 fs1 lt ∧ gw s s2 := by
  obtain ⟨hl, hv, hr⟩ := h
  have fin : ∀ k s1, dm4 x s = some (k, s1) → Ly tt (cCc xs) s1 ∧ RV s1 t ns fs lt := fun k s1 e => by
    have q := dt4 (sio := true) (d := 2000) (by decide) hl e
    exact ⟨q.1, hr.ex hl q.2.1⟩
  rcases y52 hv hl x with ⟨c, e⟩ | ⟨c, s1, e, e1, e2⟩
  · have e1 : dm4 x s = some (1, nw s 82 0) := by
      unfold dm4
      rw [e]
      rfl
    obtain ⟨l1, v1⟩ := fin _ _ e1
    rcases r182 v1 hv.2.1.2 x with ⟨d, s2, f, f1, f2, f3⟩ | ⟨d, -⟩
    · have q := dt182 (sio := true) (d := 2000) (by decide) l1 f
      exact ⟨_, _, s2, ns, fs, e1, l1, f, f1, SS.on q.1 l1 (hv.thr hl (by decide)) f3 f2, (gw_nw s).tr f3⟩
    · exact absurd d c
  · have e3 : dm4 x s = some (0, s1) := by
      unfold dm4
      rw [e]
      rfl
    obtain ⟨l1, v1⟩ := fin _ _ e3
    rcases r182 v1 hv.2.1.2 x with ⟨d, -⟩ | ⟨d, s2, fs1, f, f1, f2, f3⟩
    · exact absurd c d
    · have q := dt182 (sio := true) (d := 2000) (by decide) l1 f
      exact ⟨_, _, s2, _, fs1, e3, l1, f, f1, SS.on q.1 l1 e1 f3 f2, e2.tr f3⟩
set_option maxRecDepth 100000 in
theorem q_name (h : SS tt xs s t ns fs lt) (x y : Int32) : ∃ k s1 b s2, dm15 x y s = some (k, s1) ∧ Ly tt (cCc xs) s1 ∧ dm250 x y s1 = some (b, s2) ∧ sI s2 121 0 = k ∧ (k = 0 → sJ s2 148 0 = b.toInt64) ∧ SS tt xs s2 t ns fs lt ∧ gw s s2 := by
  obtain ⟨hl, hv, hr⟩ := h
  have fin : ∀ k s1, dm15 x y s = some (k, s1) → Ly tt (cCc xs) s1 ∧ RV s1 t ns fs lt := fun k s1 e => by
    have q := dt15 (sio := true) (d := 2000) (by decide) hl e
    exact ⟨q.1, hr.ex hl q.2.1⟩
  rcases d169 hv.2.1.1.1 (RC.ly hl) hv.2.1.2 x y with ⟨c, e⟩ | ⟨c, e⟩
  · have e1 : dm15 x y s = some (1, nw s 82 0) := by
      unfold dm15
      rw [e]
      rfl
    obtain ⟨l1, v1⟩ := fin _ _ e1
    rcases d250 v1.2.1 hv.2.1.2 x y with ⟨d, f⟩ | ⟨d, -⟩
    · have q := dt250 (sio := true) (d := 2000) (by decide) l1 f
      exact ⟨_, _, _, _, e1, l1, f, by rw [sI_wI, if_pos ⟨rfl, rfl⟩], fun z => absurd z (by decide), SS.on q.1 l1 (hv.thr hl (by decide)) (v1.t0 1).2 (v1.t0 1).1, (gw_nw s).tr (v1.t0 1).2⟩
    · exact absurd d c
  · have e3 : dm15 x y s = some (0, wJ s 148 (jN 0) (if y.toInt < 0 then -1 else (ns.getD x.toInt.toNat []).getD y.toInt.toNat (-1) : Int32).toInt64) := by
      unfold dm15
      rw [e]
      simp only [bv_some]
      rw [zN_l, vI_int, if_pos a01, nx_eq]
    obtain ⟨l1, v1⟩ := fin _ _ e3
    rcases d250 v1.2.1 hv.2.1.2 x y with ⟨d, -⟩ | ⟨d, f⟩
    · exact absurd c d
    · have q := dt250 (sio := true) (d := 2000) (by decide) l1 f
      exact ⟨_, _, _, _, e3, l1, f, by rw [sI_wI, if_pos ⟨rfl, rfl⟩], fun _ => by rw [sJ_wI, sJ_wJ, if_pos ⟨rfl, rfl⟩], SS.on q.1 l1 hv.j (v1.t0 0).2 (v1.t0 0).1, ((gw_ch (ch.refl (fun _ _ => False) s)).j (k := jN 0)).tr (v1.t0 0).2⟩
end SSs
