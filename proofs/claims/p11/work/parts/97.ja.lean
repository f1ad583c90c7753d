/-! both sides together: steps of the law -/
def SS (tt : Nat) (xs : List Int32) (s : aS) (t : List Int32) (ns : List (List Int32)) (fs : Nat → Option Fm) (lt : Nat → Nat → List Int32) : Prop := Ly tt (cCc xs) s ∧ CV s t ns ∧ RV s t ns fs lt
set_option maxRecDepth 100000 in
theorem zG1_n {a : Nat} (h1 : 121 ≤ a) (h2 : a ≤ 147) : zG 1 a = false := by
  show (decide (a < 121) || decide (148 ≤ a)) = false
  rw [decide_eq_false (by omega), decide_eq_false (by omega)]
  rfl
section SSs
variable {tt : Nat} {xs : List Int32} {s s1 : aS} {t : List Int32} {ns : List (List Int32)} {fs : Nat → Option Fm} {lt : Nat → Nat → List Int32}
set_option maxRecDepth 100000 in
theorem RV.ex (h : RV s t ns fs lt) (hl : Ly tt (cCc xs) s) (e : ext (zG 1) s s1) : RV s1 t ns fs lt := h.same fun a k h1 h2 => (e.2.2.1 a (by have : 149 ≤ sL s := hl.1; omega) (zG1_n h1 h2)).1 k
set_option maxRecDepth 100000 in
theorem CV.j {k : Nat} {v : Int64} (h : CV s t ns) : CV (wJ s 148 k v) t ns := by
  obtain ⟨⟨a1, a2⟩, ⟨b1, b2⟩, c1, d1, e1⟩ := h
  exact ⟨⟨a1, a2⟩, ⟨b1, b2⟩, c1, d1, e1⟩
set_option maxRecDepth 100000 in
theorem CV.m (h : CV s t ns) (hl : Ly tt (cCc xs) s) (g : ch mA s s1) : CV s1 t ns := h.of hl g (fun a k z => by unfold mA at z; omega)
set_option maxRecDepth 100000 in
theorem gw.j {k : Nat} {v : Int64} (h : gw s s1) : gw s (wJ s1 148 k v) := h
set_option maxRecDepth 100000 in
theorem a01 : aB 0 1 := aB_iff.mpr ⟨by decide, by decide⟩
set_option maxRecDepth 100000 in
/-- wrappers -/
theorem wrI {D : Option (xZ × aS)} (h : Cm s t ns pI D) : ∃ k s1, (bv D fun z4 s3 => zN z4 (fun v5 => vI v5 fun r7 => if aB 0 1 then nx (wJ s3 148 (jN 0) r7.toInt64) fun s10 => some (((0 : Int32), s10)) else none) fun e6 => if e6 = 2 then some (1, s3) else none) = some (k, s1) ∧ CV s1 t ns ∧ gw s s1 := by
  obtain ⟨o, s1, e, hp, hv, hg⟩ := h
  rw [e]
  simp only [bv_some]
  rcases hp with ⟨v, rfl⟩ | rfl
  · rw [zN_l, vI_int, if_pos a01, nx_eq]
    exact ⟨_, _, rfl, hv.j, hg.j⟩
  · rw [zN_r, if_pos rfl]
    exact ⟨_, _, rfl, hv, hg⟩
set_option maxRecDepth 100000 in
theorem wrJ {D : Option (xZ × aS)} (h : Cm s t ns pJ D) : ∃ k s1, (bv D fun z4 s3 => zN z4 (fun v5 => vI v5 fun r7 => if aB 0 1 then nx (wJ s3 148 (jN 0) r7.toInt64) fun s10 => some (((0 : Int32), s10)) else none) fun e6 => if e6 = 2 then some (1, s3) else if e6 = 0 then some (2, s3) else none) = some (k, s1) ∧ CV s1 t ns ∧ gw s s1 := by
  obtain ⟨o, s1, e, hp, hv, hg⟩ := h
  rw [e]
  simp only [bv_some]
  rcases hp with ⟨v, rfl⟩ | rfl | rfl
  · rw [zN_l, vI_int, if_pos a01, nx_eq]
    exact ⟨_, _, rfl, hv.j, hg.j⟩
  · rw [zN_r, if_pos rfl]
    exact ⟨_, _, rfl, hv, hg⟩
  · rw [zN_r, if_neg (by decide), if_pos rfl]
    exact ⟨_, _, rfl, hv, hg⟩
set_option maxRecDepth 100000 in
theorem wrT {D : Option (xZ × aS)} (h : Cm s t ns pC D) : ∃ k s1, (bv D fun z4 s3 => zN z4 (fun v5 => vI v5 fun r7 => if aB 0 1 then nx (wJ s3 148 (jN 0) r7.toInt64) fun s10 => some (((0 : Int32), s10)) else none) fun e6 => if e6 = 0 then some (1, s3) else none) = some (k, s1) ∧ CV s1 t ns ∧ gw s s1 := by
  obtain ⟨o, s1, e, hp, hv, hg⟩ := h
  rw [e]
  simp only [bv_some]
  rcases hp with ⟨v, rfl⟩ | rfl
  · rw [zN_l, vI_int, if_pos a01, nx_eq]
    exact ⟨_, _, rfl, hv.j, hg.j⟩
  · rw [zN_r, if_pos rfl]
    exact ⟨_, _, rfl, hv, hg⟩
set_option maxRecDepth 100000 in
theorem wrS {D : Option (xZ × aS)} (h : Cm s t ns pI D) : ∃ k s1, (bv D fun z4 s3 => zN z4 (fun v5 => vI v5 fun r7 => if r7 = 0 then dm13_10 0 0 s3 else dm13_10 0 1 s3) fun e6 => if e6 = 2 then some (1, s3) else none) = some (k, s1) ∧ CV s1 t ns ∧ gw s s1 := by
  obtain ⟨o, s1, e, hp, hv, hg⟩ := h
  rw [e]
  simp only [bv_some]
  rcases hp with ⟨v, rfl⟩ | rfl
  · rw [zN_l, vI_int]
    unfold dm13_10
    rw [if_pos a01, if_pos a01]
    simp only [nx_eq]
    split
    · exact ⟨_, _, rfl, hv.j, hg.j⟩
    · exact ⟨_, _, rfl, hv.j, hg.j⟩
  · rw [zN_r, if_pos rfl]
    exact ⟨_, _, rfl, hv, hg⟩
set_option maxRecDepth 100000 in
theorem wrN {D : Option (xZ × aS)} (h : Cm s t ns pN D) : ∃ k s1, (bv D fun z4 s3 => zN z4 (fun v5 => vV v5 <| some (((0 : Int32), s3))) fun e6 => if e6 = 2 then some (1, s3) else none) = some (k, s1) ∧ CV s1 t ns ∧ gw s s1 := by
  obtain ⟨o, s1, e, hp, hv, hg⟩ := h
  rw [e]
  simp only [bv_some]
  rcases hp with rfl | rfl
  · rw [zN_l, vV_none]
    exact ⟨_, _, rfl, hv, hg⟩
  · rw [zN_r, if_pos rfl]
    exact ⟨_, _, rfl, hv, hg⟩
set_option maxRecDepth 100000 in
theorem wrM {D : Option (xZ × aS)} (h : Cm s t ns pM D) : ∃ k s1, (bv D fun z4 s3 => zN z4 (fun v5 => vV v5 <| some (((0 : Int32), s3))) fun e6 => if e6 = 2 then some (1, s3) else if e6 = 0 then some (2, s3) else none) = some (k, s1) ∧ CV s1 t ns ∧ gw s s1 := by
  obtain ⟨o, s1, e, hp, hv, hg⟩ := h
  rw [e]
  simp only [bv_some]
  rcases hp with rfl | rfl | rfl
  · rw [zN_l, vV_none]
    exact ⟨_, _, rfl, hv, hg⟩
  · rw [zN_r, if_pos rfl]
    exact ⟨_, _, rfl, hv, hg⟩
  · rw [zN_r, if_neg (by decide), if_pos rfl]
    exact ⟨_, _, rfl, hv, hg⟩
set_option maxRecDepth 100000 in
/-- a call of FormulaTrees, then the reference's -/
theorem kc5 (h : SS tt xs s t ns fs lt) (x1 x2 : Int32) : ∃ k s1, dm5 x1 x2 s = some (k, s1) ∧ SS tt xs s1 t ns fs lt ∧ gw s s1 := by
  obtain ⟨k, s1, e, hv, hg⟩ := wrI (y62 h.2.1 h.1 x1 x2)
  have e : dm5 x1 x2 s = some (k, s1) := e
  have q := dt5 (sio := true) (d := 2000) (by decide) h.1 e
  exact ⟨k, s1, e, ⟨q.1, hv, h.2.2.ex h.1 q.2.1⟩, hg⟩
set_option maxRecDepth 100000 in
theorem kc6 (h : SS tt xs s t ns fs lt) (x1 x2 x3 x4 x5 : Int32) : ∃ k s1, dm6 x1 x2 x3 x4 x5 s = some (k, s1) ∧ SS tt xs s1 t ns fs lt ∧ gw s s1 := by
  obtain ⟨k, s1, e, hv, hg⟩ := wrM (y125 h.2.1 h.1 x1 x2 x3 x4 x5)
  have e : dm6 x1 x2 x3 x4 x5 s = some (k, s1) := e
  have q := dt6 (sio := true) (d := 2000) (by decide) h.1 e
  exact ⟨k, s1, e, ⟨q.1, hv, h.2.2.ex h.1 q.2.1⟩, hg⟩
set_option maxRecDepth 100000 in
theorem kc7 (h : SS tt xs s t ns fs lt) (x1 x2 x3 x4 : Int32) : ∃ k s1, dm7 x1 x2 x3 x4 s = some (k, s1) ∧ SS tt xs s1 t ns fs lt ∧ gw s s1 := by
  obtain ⟨k, s1, e, hv, hg⟩ := wrJ (y133 h.2.1 h.1 x1 x2 x3 x4)
  have e : dm7 x1 x2 x3 x4 s = some (k, s1) := e
  have q := dt7 (sio := true) (d := 2000) (by decide) h.1 e
  exact ⟨k, s1, e, ⟨q.1, hv, h.2.2.ex h.1 q.2.1⟩, hg⟩
set_option maxRecDepth 100000 in
theorem kc8 (h : SS tt xs s t ns fs lt) (x1 : Int32) : ∃ k s1, dm8 x1 s = some (k, s1) ∧ SS tt xs s1 t ns fs lt ∧ gw s s1 := by
  obtain ⟨k, s1, e, hv, hg⟩ := wrN (y137 h.2.1 h.1 x1)
  have e : dm8 x1 s = some (k, s1) := e
  have q := dt8 (sio := true) (d := 2000) (by decide) h.1 e
  exact ⟨k, s1, e, ⟨q.1, hv, h.2.2.ex h.1 q.2.1⟩, hg⟩
set_option maxRecDepth 100000 in
theorem kc9 (h : SS tt xs s t ns fs lt) (x1 x2 : Int32) : ∃ k s1, dm9 x1 x2 s = some (k, s1) ∧ SS tt xs s1 t ns fs lt ∧ gw s s1 := by
  obtain ⟨k, s1, e, hv, hg⟩ := wrI (y138 h.2.1 h.1 x1 x2)
  have e : dm9 x1 x2 s = some (k, s1) := e
  have q := dt9 (sio := true) (d := 2000) (by decide) h.1 e
  exact ⟨k, s1, e, ⟨q.1, hv, h.2.2.ex h.1 q.2.1⟩, hg⟩
set_option maxRecDepth 100000 in
theorem kc10 (h : SS tt xs s t ns fs lt) (x1 : Int32) : ∃ k s1, dm10 x1 s = some (k, s1) ∧ SS tt xs s1 t ns fs lt ∧ gw s s1 := by
  obtain ⟨k, s1, e, hv, hg⟩ := wrI (y159 h.2.1 h.1 x1)
  have e : dm10 x1 s = some (k, s1) := e
  have q := dt10 (sio := true) (d := 2000) (by decide) h.1 e
  exact ⟨k, s1, e, ⟨q.1, hv, h.2.2.ex h.1 q.2.1⟩, hg⟩
set_option maxRecDepth 100000 in
theorem kc11 (h : SS tt xs s t ns fs lt) (x1 x2 x3 : Int32) : ∃ k s1, dm11 x1 x2 x3 s = some (k, s1) ∧ SS tt xs s1 t ns fs lt ∧ gw s s1 := by
  obtain ⟨k, s1, e, hv, hg⟩ := wrJ (y160 h.2.1 h.1 x1 x2 x3)
  have e : dm11 x1 x2 x3 s = some (k, s1) := e
  have q := dt11 (sio := true) (d := 2000) (by decide) h.1 e
  exact ⟨k, s1, e, ⟨q.1, hv, h.2.2.ex h.1 q.2.1⟩, hg⟩
set_option maxRecDepth 100000 in
theorem kc12 (h : SS tt xs s t ns fs lt) (x1 x2 x3 : Int32) : ∃ k s1, dm12 x1 x2 x3 s = some (k, s1) ∧ SS tt xs s1 t ns fs lt ∧ gw s s1 := by
  obtain ⟨k, s1, e, hv, hg⟩ := wrI (y162 h.2.1 h.1 x1 x2 x3)
  have e : dm12 x1 x2 x3 s = some (k, s1) := e
  have q := dt12 (sio := true) (d := 2000) (by decide) h.1 e
  exact ⟨k, s1, e, ⟨q.1, hv, h.2.2.ex h.1 q.2.1⟩, hg⟩
set_option maxRecDepth 100000 in
theorem kc13 (h : SS tt xs s t ns fs lt) (x1 x2 : Int32) : ∃ k s1, dm13 x1 x2 s = some (k, s1) ∧ SS tt xs s1 t ns fs lt ∧ gw s s1 := by
  obtain ⟨k, s1, e, hv, hg⟩ := wrS (y163 h.2.1 h.1 x1 x2)
  have e : dm13 x1 x2 s = some (k, s1) := e
  have q := dt13 (sio := true) (d := 2000) (by decide) h.1 e
  exact ⟨k, s1, e, ⟨q.1, hv, h.2.2.ex h.1 q.2.1⟩, hg⟩
set_option maxRecDepth 100000 in
theorem kc14 (h : SS tt xs s t ns fs lt) (x1 : Int32) : ∃ k s1, dm14 x1 s = some (k, s1) ∧ SS tt xs s1 t ns fs lt ∧ gw s s1 := by
  obtain ⟨k, s1, e, hv, hg⟩ := wrT (y166 h.2.1 h.1 x1)
  have e : dm14 x1 s = some (k, s1) := e
  have q := dt14 (sio := true) (d := 2000) (by decide) h.1 e
  exact ⟨k, s1, e, ⟨q.1, hv, h.2.2.ex h.1 q.2.1⟩, hg⟩
set_option maxRecDepth 100000 in
/-- the reference's -/
theorem ms184 (h : SS tt xs s t ns fs lt) (x1 x2 : Int32) : ∃ v s1 fs1 lt1, dm184 x1 x2 s = some (v, s1) ∧ SS tt xs s1 t ns fs1 lt1 ∧ ch mA s s1 := by
  obtain ⟨v, s1, fs1, lt1, e, hr, g⟩ := r184 h.2.2 h.2.1.1.2.1 h.2.1.1.2.2 h.2.1.2.1.2 (by rw [h.1.T (a := 147) (p := (100, 256)) 69 rfl rfl]) (by rw [h.1.T (a := 122) (p := (100, 256)) 44 rfl rfl]) x1 x2
  have q := dt184 (sio := true) (d := 2000) (by decide) h.1 e
  exact ⟨v, s1, fs1, lt1, e, ⟨q.1, h.2.1.m h.1 g, hr⟩, g⟩
set_option maxRecDepth 100000 in
theorem ms224 (h : SS tt xs s t ns fs lt) (x1 x2 x3 x4 x5 : Int32) : ∃ s1 fs1 lt1, dm224 x1 x2 x3 x4 x5 s = some s1 ∧ SS tt xs s1 t ns fs1 lt1 ∧ ch mA s s1 := by
  obtain ⟨s1, fs1, lt1, e, hr, g⟩ := r224 h.2.2 h.2.1.2.1.2 x1 x2 x3 x4 x5
  have q := dt224 (sio := true) (d := 2000) (by decide) h.1 e
  exact ⟨s1, fs1, lt1, e, ⟨q.1, h.2.1.m h.1 g, hr⟩, g⟩
set_option maxRecDepth 100000 in
theorem ms228 (h : SS tt xs s t ns fs lt) (x1 x2 x3 x4 : Int32) : ∃ v s1 fs1, dm228 x1 x2 x3 x4 s = some (v, s1) ∧ SS tt xs s1 t ns fs1 lt ∧ ch mA s s1 := by
  obtain ⟨v, s1, fs1, e, hr, g⟩ := r228 h.2.2 h.2.1.2.1.2 x1 x2 x3 x4
  have q := dt228 (sio := true) (d := 2000) (by decide) h.1 e
  exact ⟨v, s1, fs1, e, ⟨q.1, h.2.1.m h.1 g, hr⟩, g⟩
set_option maxRecDepth 100000 in
theorem ms231 (h : SS tt xs s t ns fs lt) (x1 : Int32) : ∃ s1 fs1, dm231 x1 s = some s1 ∧ SS tt xs s1 t ns fs1 lt ∧ ch mA s s1 := by
  obtain ⟨s1, fs1, e, hr, g⟩ := r231 h.2.2 x1
  have q := dt231 (sio := true) (d := 2000) (by decide) h.1 e
  exact ⟨s1, fs1, e, ⟨q.1, h.2.1.m h.1 g, hr⟩, g⟩
set_option maxRecDepth 100000 in
theorem ms232 (h : SS tt xs s t ns fs lt) (x1 x2 : Int32) : ∃ v s1, dm232 x1 x2 s = some (v, s1) ∧ SS tt xs s1 t ns fs lt ∧ ch mA s s1 := by
  obtain ⟨v, s1, e, hr, g⟩ := r232 h.2.2 h.2.1.2.1.2 x1 x2
  have q := dt232 (sio := true) (d := 2000) (by decide) h.1 e
  exact ⟨v, s1, e, ⟨q.1, h.2.1.m h.1 g, hr⟩, g⟩
set_option maxRecDepth 100000 in
theorem ms243 (h : SS tt xs s t ns fs lt) (x1 : Int32) : ∃ v s1, dm243 x1 s = some (v, s1) ∧ SS tt xs s1 t ns fs lt ∧ ch mA s s1 := by
  obtain ⟨v, s1, e, hr, g⟩ := r243 h.2.2 x1
  have q := dt243 (sio := true) (d := 2000) (by decide) h.1 e
  exact ⟨v, s1, e, ⟨q.1, h.2.1.m h.1 g, hr⟩, g⟩
set_option maxRecDepth 100000 in
theorem ms244 (h : SS tt xs s t ns fs lt) (x1 x2 x3 : Int32) : ∃ v s1, dm244 x1 x2 x3 s = some (v, s1) ∧ SS tt xs s1 t ns fs lt ∧ ch mA s s1 := by
  obtain ⟨v, s1, e, hr, g⟩ := r244 h.2.2 x1 x2 x3
  have q := dt244 (sio := true) (d := 2000) (by decide) h.1 e
  exact ⟨v, s1, e, ⟨q.1, h.2.1.m h.1 g, hr⟩, g⟩
set_option maxRecDepth 100000 in
theorem ms246 (h : SS tt xs s t ns fs lt) (x1 x2 x3 : Int32) : ∃ v s1, dm246 x1 x2 x3 s = some (v, s1) ∧ SS tt xs s1 t ns fs lt ∧ ch mA s s1 := by
  obtain ⟨v, s1, e, hr, g⟩ := r246 h.2.2 x1 x2 x3
  have q := dt246 (sio := true) (d := 2000) (by decide) h.1 e
  exact ⟨v, s1, e, ⟨q.1, h.2.1.m h.1 g, hr⟩, g⟩
set_option maxRecDepth 100000 in
theorem ms248 (h : SS tt xs s t ns fs lt) (x1 x2 : Int32) : ∃ v s1, dm248 x1 x2 s = some (v, s1) ∧ SS tt xs s1 t ns fs lt ∧ ch mA s s1 := by
  obtain ⟨v, s1, e, hr, g⟩ := r248 h.2.2 x1 x2
  have q := dt248 (sio := true) (d := 2000) (by decide) h.1 e
  exact ⟨v, s1, e, ⟨q.1, h.2.1.m h.1 g, hr⟩, g⟩
set_option maxRecDepth 100000 in
theorem ms249 (h : SS tt xs s t ns fs lt) (x1 : Int32) : ∃ v s1, dm249 x1 s = some (v, s1) ∧ SS tt xs s1 t ns fs lt ∧ ch mA s s1 := by
  obtain ⟨v, s1, e, hr, g⟩ := r249 h.2.2 x1
  have q := dt249 (sio := true) (d := 2000) (by decide) h.1 e
  exact ⟨v, s1, e, ⟨q.1, h.2.1.m h.1 g, hr⟩, g⟩
end SSs
