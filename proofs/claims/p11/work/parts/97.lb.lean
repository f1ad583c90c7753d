/-! both sides together, with the formulas: means -/
/-- a call that tells: nothing is changed, or something is thrown -/
def Cn (s : aS) (p : xZ → Prop) (D : Option (xZ × aS)) : Prop := ∃ o s1, D = some (o, s1) ∧ p o ∧ (s1 = s ∨ s1 = nw s 82 0)
section CVs
variable {tt : Nat} {xs : List Int32} {s : aS} {t : List Int32} {ns : List (List Int32)} {b : Nat} {p : xZ → Prop}
set_option maxRecDepth 100000 in
theorem Cn.x (hp : p (.inr 2)) (_hy : (82 : Nat) ≠ 3) : Cn s p (some (.inr 2, nw s 82 0)) := ⟨_, _, rfl, hp, Or.inr rfl⟩
set_option maxRecDepth 100000 in
theorem Cn.v {o : xZ} (hp : p o) : Cn s p (some (o, s)) := ⟨_, _, rfl, hp, Or.inl rfl⟩
set_option maxRecDepth 100000 in
theorem z162 (h : CV s t ns) (hl : Ly tt (cCc xs) s) (x y z : Int32) : Cn s pI (dm162 x y z s) := by
  unfold dm162 dm162_10
  rcases y54 h.2.2.1 x with e | ⟨b, e, e2, e3, e4⟩
  · rw [e]
    simp only [bu_some, vN_null]
    exact Cn.x (Or.inr rfl) (by decide)
  · rw [e]
    simp only [bu_some, vN_ref]
    obtain ⟨r, er⟩ := y161 b y s
    rw [if_pos e2, er]
    simp only [bu_some]
    split
    · exact Cn.x (Or.inr rfl) (by decide)
    · obtain ⟨v, ev⟩ := y144 (h.2.2.2.1 b e2) (by rw [(hl.tr e2).2.2.2.2.2.2.1]) y z
      rw [ev]
      simp only [bu_some]
      exact Cn.v (Or.inl ⟨v, rfl⟩)
set_option maxRecDepth 100000 in
theorem z163 (h : CV s t ns) (hl : Ly tt (cCc xs) s) (x y : Int32) : Cn s pI (dm163 x y s) := by
  unfold dm163 dm163_12
  rcases y54 h.2.2.1 x with e | ⟨b, e, e2, e3, e4⟩
  · rw [e]
    simp only [bu_some, vN_null]
    rcases y54 h.2.2.1 y with f | ⟨c, f, f2, f3, f4⟩
    · rw [f]
      simp only [bu_some, vN_null]
      exact Cn.x (Or.inr rfl) (by decide)
    · rw [f]
      simp only [bu_some, vN_ref]
      rw [if_pos f2]
      exact Cn.x (Or.inr rfl) (by decide)
  · rw [e]
    simp only [bu_some, vN_ref]
    rw [if_pos e2]
    rcases y54 h.2.2.1 y with f | ⟨c, f, f2, f3, f4⟩
    · rw [f]
      simp only [bu_some, vN_null]
      exact Cn.x (Or.inr rfl) (by decide)
    · rw [f]
      simp only [bu_some, vN_ref]
      obtain ⟨v, ev, hv⟩ := y164 (h.2.2.2.1 b e2) (h.2.2.2.1 c f2) (by rw [(hl.tr e2).2.2.2.2.2.2.1]) (by rw [(hl.tr f2).2.2.2.2.2.2.1])
      rw [if_pos f2, ev]
      simp only [bu_some]
      rw [if_pos hv]
      exact Cn.v (Or.inl ⟨v, rfl⟩)
end CVs
/-- formulas with their letters -/
def CG (s : aS) (fs : Nat → Option Fm) (lt : Nat → Nat → List Int32) : Prop := CF s fs ∧ CLt s fs lt
def SG (tt : Nat) (xs : List Int32) (s : aS) (t : List Int32) (ns : List (List Int32)) (fs : Nat → Option Fm) (lt : Nat → Nat → List Int32) : Prop := SS tt xs s t ns fs lt ∧ CG s fs lt
section SGs
variable {tt : Nat} {xs : List Int32} {s s1 s2 : aS} {t : List Int32} {ns : List (List Int32)} {fs : Nat → Option Fm} {lt : Nat → Nat → List Int32} {A : Nat → Nat → Prop}
set_option maxRecDepth 100000 in
theorem CF.of9 (h : CF s fs) (hl : Ly tt (cCc xs) s) (g : ch A s s1) (hA : ∀ a k, A a k → a < 100 ∨ (106 ≤ a ∧ a ≤ 148)) : CF s1 fs := fun f hf => ⟨fun q => (g.i fun z => by have := hA _ _ z; omega).trans ((h f hf).1 q), fun ho L q => by
  obtain ⟨a1, a2, b, a3, a4, a5⟩ := (h f hf).2 ho L q
  have hb := tr_at hl a4
  exact ⟨(g.i fun z => by have := hA _ _ z; omega).trans a1, a2, b, (g.r fun z => by have := hA _ _ z; omega).trans a3, g.k.mpr a4, a5.of g (fun z => by have := hA _ _ z; omega) (fun k z => by have := hA _ _ z; omega)⟩⟩
set_option maxRecDepth 100000 in
theorem CF.gx (h : CF s fs) (hl : Ly tt (cCc xs) s) (g : gx s s1) : CF s1 fs := fun f hf => by
  have hL : 149 ≤ sL s := hl.1
  refine ⟨fun q => ((g.2 101 (by omega)).2.1 f).trans ((h f hf).1 q), fun ho L q => ?_⟩
  obtain ⟨a1, a2, b, a3, a4, a5⟩ := (h f hf).2 ho L q
  have hb := (hl.tr a4).2.2.2.1
  exact ⟨((g.2 101 (by omega)).2.1 f).trans a1, a2, b, ((g.2 100 (by omega)).2.2 f).trans a3, g.k a4, ((g.2 b (by omega)).2.1 2).trans a5.1, a5.2.1, fun i hi w hw => ((g.2 (b + 1) (by omega)).2.1 _).trans (a5.2.2 i hi w hw)⟩
set_option maxRecDepth 100000 in
theorem CF.j {k : Nat} {v : Int64} (h : CF s fs) : CF (wJ s 148 k v) fs := h
set_option maxRecDepth 100000 in
theorem CG.of9 (h : CG s fs lt) (hl : Ly tt (cCc xs) s) (g : ch A s s1) (hA : ∀ a k, A a k → a < 100 ∨ (106 ≤ a ∧ a ≤ 148)) : CG s1 fs lt := ⟨h.1.of9 hl g hA, CLt.go h.1 h.2 (fun f _ _ => g.r fun z => by have := hA _ _ z; omega) (fun f b _ _ _ hk => by
  have hb := tr_at hl hk
  exact ⟨fun k => g.i fun z => (by have := hA _ _ z; omega), g.i fun z => (by have := hA _ _ z; omega), fun k => g.i fun z => (by have := hA _ _ z; omega)⟩)⟩
set_option maxRecDepth 100000 in
theorem CG.gx (h : CG s fs lt) (hl : Ly tt (cCc xs) s) (g : gx s s1) : CG s1 fs lt := ⟨h.1.gx hl g, CLt.go h.1 h.2 (fun f _ _ => (g.2 100 (by have : 149 ≤ sL s := hl.1; omega)).2.2 f) (fun f b _ _ _ hk => by
  have hb := (hl.tr hk).2.2.2.1
  exact ⟨fun k => (g.2 (b + 1) (by omega)).2.1 k, (g.2 (b + 2) (by omega)).2.1 1, fun k => (g.2 (b + 3) (by omega)).2.1 k⟩)⟩
set_option maxRecDepth 100000 in
theorem CG.j {k : Nat} {v : Int64} (h : CG s fs lt) : CG (wJ s 148 k v) fs lt := ⟨h.1.j, h.2⟩
set_option maxRecDepth 100000 in
/-- cells and ranges have no letters -/
theorem RV.em (h : RV s t ns fs lt) : ∀ f, f < 8 → ∀ h9 L, fs f = some (h9, L) → ∀ i (g : i < L.length), isRf L[i] → lt f i = [] := fun f hf h9 L q i g z => (h.2.2.2.1 f hf h9 L q i g).2.2 (fun y => by
  rcases z with z | z
  · rw [z] at y
    revert y
    decide
  · rw [z] at y
    revert y
    decide)
set_option maxRecDepth 100000 in
theorem ly_nw {y : Nat} (hl : Ly tt (cCc xs) s) (hy : y ≠ 1 ∧ y ≠ 3 ∧ y ≠ 70) : Ly tt (cCc xs) (nw s y 0) := hl.nwd lay_sm1 lay_sm2 hy
set_option maxRecDepth 100000 in
theorem RV.nw9 {y : Nat} (h : RV s t ns fs lt) (hl : Ly tt (cCc xs) s) : RV (nw s y 0) t ns fs lt := h.same fun a k h1 h2 => sI_nw (by have : 149 ≤ sL s := hl.1; omega)
set_option maxRecDepth 100000 in
theorem RV.j9 {k : Nat} {v : Int64} (h : RV s t ns fs lt) : RV (wJ s 148 k v) t ns fs lt := h.same fun _ _ _ _ => rfl
set_option maxRecDepth 100000 in
/-- the reference has had its turn -/
theorem SG.m (h1 : Ly tt (cCc xs) s1) (hv : CV s1 t ns) (hc : CG s1 fs lt) (l2 : Ly tt (cCc xs) s2) (g : ch mA s1 s2) (hr : RV s2 t ns fs lt) : SG tt xs s2 t ns fs lt := ⟨⟨l2, hv.m h1 g, hr⟩, hc.of9 h1 g (fun a k z => by unfold mA at z; omega)⟩
set_option maxRecDepth 100000 in
/-- something was thrown, and the reference says so -/
theorem SG.tw (h : SG tt xs s t ns fs lt) {y : Nat} (hy : y = 80 ∨ y = 81 ∨ y = 82) (w : Int32) : Ly tt (cCc xs) (nw s y 0) ∧ RV (nw s y 0) t ns fs lt ∧ SG tt xs (wI (nw s y 0) 121 0 w) t ns fs lt ∧ gw s (wI (nw s y 0) 121 0 w) := by
  obtain ⟨⟨hl, hv, hr⟩, hc⟩ := h
  have l1 : Ly tt (cCc xs) (nw s y 0) := ly_nw hl (by omega)
  have r1 := hr.nw9 (y := y) hl
  exact ⟨l1, r1, SG.m l1 (hv.thr hl (by omega)) (hc.gx hl (gx_nw s y 0)) (l1.wId (by decide)) (r1.t0 w).2 (r1.t0 w).1, (gw_nw s).tr (r1.t0 w).2⟩
set_option maxRecDepth 100000 in
/-- an answer, and the reference's -/
theorem SG.a (h : SG tt xs s t ns fs lt) (k : Nat) (v : Int64) (w : Int32) : Ly tt (cCc xs) (wJ s 148 k v) ∧ RV (wJ s 148 k v) t ns fs lt ∧ SG tt xs (wI (wJ s 148 k v) 121 0 w) t ns fs lt ∧ gw s (wI (wJ s 148 k v) 121 0 w) := by
  obtain ⟨⟨hl, hv, hr⟩, hc⟩ := h
  have l1 : Ly tt (cCc xs) (wJ s 148 k v) := hl.wJd
  have r1 := hr.j9 (k := k) (v := v)
  exact ⟨l1, r1, SG.m l1 hv.j hc.j (l1.wId (by decide)) (r1.t0 w).2 (r1.t0 w).1, ((gw_ch (ch.refl (fun _ _ => False) s)).j (k := k) (v := v)).tr (r1.t0 w).2⟩
end SGs
