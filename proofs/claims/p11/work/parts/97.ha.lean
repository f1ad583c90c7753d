/-! what holds of FormulaTrees between calls, weakly: every tree is one -/
def RD (s : aS) : Prop := (∃ hd, LT s 107 hd ∧ hd.length ≤ 256 ∧ okT hd) ∧ (∃ m, m ≤ 128 ∧ sI s 110 2 = Int32.ofNat m) ∧ ∃ o, o ≤ 32 ∧ sI s 113 3 = Int32.ofNat o
def CV (s : aS) (t : List Int32) (ns : List (List Int32)) : Prop := (LT s 79 t ∧ t.length ≤ 256 ∧ okT t) ∧ (SQ s ns ∧ nsOk ns) ∧ TD s ∧ (∀ b, aK s b 3 → TW s b) ∧ RD s
section CVs
variable {tt : Nat} {cc : Nat → Nat → Int32} {s s1 : aS} {t : List Int32} {ns : List (List Int32)} {A : Nat → Nat → Prop} {b : Nat}
set_option maxRecDepth 100000 in
theorem SQ.of (h : SQ s ns) (h8 : ns.length ≤ 8) (g : ch A s s1) (hA : ∀ a k, A a k → a < 81 ∨ 99 < a) : SQ s1 ns := ⟨⟨(g.i fun q => by have := hA _ _ q; omega).trans h.1.1, fun i hi => (h.1.2 i hi).of g (fun q => by have := hA _ _ q; omega) (fun j q => by have := hA _ _ q; omega)⟩, fun i hi => (g.i fun q => by have := hA _ _ q; omega).trans (h.2 i hi)⟩
set_option maxRecDepth 100000 in
theorem RD.of (h : RD s) (g : ch A s s1) (hA : ∀ a k, A a k → a < 107 ∨ 116 < a) : RD s1 := by
  obtain ⟨⟨hd, a1, a2, a3⟩, ⟨m, b1, b2⟩, o, c1, c2⟩ := h
  exact ⟨⟨hd, a1.of g (fun q => by have := hA _ _ q; omega) (fun j q => by have := hA _ _ q; omega), a2, a3⟩, ⟨m, b1, (g.i fun q => by have := hA _ _ q; omega).trans b2⟩, o, c1, (g.i fun q => by have := hA _ _ q; omega).trans c2⟩
set_option maxRecDepth 100000 in
/-- what lies in no tree -/
theorem CV.of (h : CV s t ns) (hl : Ly tt cc s) (g : ch A s s1) (hA : ∀ a k, A a k → a = 101 ∨ (117 ≤ a ∧ a ≤ 148)) : CV s1 t ns := by
  obtain ⟨⟨a1, a2⟩, ⟨b1, b2⟩, c1, d1, e1⟩ := h
  refine ⟨⟨a1.of g (fun q => by have := hA _ _ q; omega) (fun j q => by have := hA _ _ q; omega), a2⟩, ⟨b1.of b2.1 g (fun a k q => by have := hA _ _ q; omega), b2⟩, c1.of g (fun k q => by have := hA _ _ q; omega) (fun q => by have := hA _ _ q; omega), fun b hb => ?_, e1.of g (fun a k q => by have := hA _ _ q; omega)⟩
  have hb := g.k.mp hb
  have h3 := tr_at hl hb
  exact (d1 b hb).of g (fun q => by have := hA _ _ q; omega) (fun k q => by have := hA _ _ q; omega) (fun q => by have := hA _ _ q; omega) (fun k q => by have := hA _ _ q; omega)
set_option maxRecDepth 100000 in
/-- one tree is changed -/
theorem CV.tree (h : CV s t ns) (hl : Ly tt cc s) (hb : aK s b 3) (g : ch A s s1) (hA : ∀ a k, A a k → a = 101 ∨ a = b ∨ a = b + 1 ∨ a = b + 2 ∨ a = b + 3) (hw : TW s1 b) : CV s1 t ns := by
  obtain ⟨⟨a1, a2⟩, ⟨b1, b2⟩, c1, d1, e1⟩ := h
  have hb3 := tr_at hl hb
  refine ⟨⟨a1.of g (fun q => by have := hA _ _ q; omega) (fun j q => by have := hA _ _ q; omega), a2⟩, ⟨b1.of b2.1 g (fun a k q => by have := hA _ _ q; omega), b2⟩, c1.of g (fun k q => by have := hA _ _ q; omega) (fun q => by have := hA _ _ q; omega), fun c hc => ?_, e1.of g (fun a k q => by have := hA _ _ q; omega)⟩
  by_cases e : c = b
  · rw [e]
    exact hw
  · have hc := g.k.mp hc
    have h3 := tr_at hl hc
    have p := tr_ne hl hc hb e
    have q := tr_ne hl hb hc (fun z => e z.symm)
    exact (d1 c hc).of g (fun z => by have := hA _ _ z; omega) (fun k z => by have := hA _ _ z; omega) (fun z => by have := hA _ _ z; omega) (fun k z => by have := hA _ _ z; omega)
/-- more cells, the old ones as they were -/
def gx (s s1 : aS) : Prop := sL s ≤ sL s1 ∧ ∀ a, a < sL s → sT s1 a = sT s a ∧ (∀ k, sI s1 a k = sI s a k) ∧ ∀ k, sR s1 a k = sR s a k
set_option maxRecDepth 100000 in
theorem gx_nw (s : aS) (c n : Nat) : gx s (nw s c n) := ⟨Nat.le_succ _, fun a ha => ⟨sT_nw ha, fun k => sI_nw ha, fun k => sR_nw ha⟩⟩
set_option maxRecDepth 100000 in
theorem gx_nT (s : aS) : gx s (nTree s) := ⟨by rw [nTree_L]; omega, fun a ha => ⟨nT_T ha, fun k => nT_I ha, fun k => nT_R ha⟩⟩
set_option maxRecDepth 100000 in
theorem LT.gx (h : LT s b t) (g : gx s s1) (hb : b + 1 < sL s) : LT s1 b t := ⟨((g.2 b (by omega)).2.1 1).trans h.1, fun j hj => ((g.2 (b + 1) hb).2.1 j).trans (h.2 j hj)⟩
set_option maxRecDepth 100000 in
theorem gx.k (g : gx s s1) {c : Nat} (h : aK s b c) : aK s1 b c := ⟨Nat.lt_of_lt_of_le h.1 g.1, by rw [(g.2 b h.1).1]; exact h.2⟩
set_option maxRecDepth 100000 in
theorem TW.gx (h : TW s b) (g : gx s s1) (hb : b + 3 < sL s) : TW s1 b := by
  obtain ⟨N, u, a1, a2, a3, a5⟩ := h
  refine ⟨N, u, a1, ((g.2 b (by omega)).2.1 2).trans a2, ⟨a3.1.gx g (by omega), a3.2⟩, fun k hk => ?_⟩
  obtain ⟨l, ⟨st, e1, e2, e3, e4⟩, e5⟩ := a5 k hk
  exact ⟨l, ⟨st, ((g.2 (b + 1) (by omega)).2.1 _).trans e1, ((g.2 (b + 1) (by omega)).2.1 _).trans e2, e3, e4⟩, e5⟩
set_option maxRecDepth 100000 in
theorem SQ.gx (h : SQ s ns) (h8 : ns.length ≤ 8) (g : gx s s1) (hL : 149 ≤ sL s) : SQ s1 ns := ⟨⟨((g.2 81 (by omega)).2.1 2).trans h.1.1, fun i hi => (h.1.2 i hi).gx g (by omega)⟩, fun i hi => ((g.2 83 (by omega)).2.1 i).trans (h.2 i hi)⟩
set_option maxRecDepth 100000 in
theorem TD.gx (h : TD s) (g : gx s s1) (hL : 149 ≤ sL s) : TD s1 := by
  obtain ⟨a1, a2, b, b1, b2, b3⟩ := h
  have e : ∀ f, sR s1 100 f = sR s 100 f := fun f => (g.2 100 (by omega)).2.2 f
  refine ⟨fun f hf => ?_, fun f g9 b9 hf hg q1 q2 => a2 f g9 b9 hf hg (by rw [← e]; exact q1) (by rw [← e]; exact q2), b, ((g.2 78 (by omega)).2.2 6).trans b1, g.k b2, fun f hf => by rw [e]; exact b3 f hf⟩
  rw [e]
  rcases a1 f hf with q | ⟨c, q1, q2⟩
  · exact Or.inl q
  · exact Or.inr ⟨c, q1, g.k q2⟩
set_option maxRecDepth 100000 in
theorem RD.gx (h : RD s) (g : gx s s1) (hL : 149 ≤ sL s) : RD s1 := by
  obtain ⟨⟨hd, a1, a2, a3⟩, ⟨m, b1, b2⟩, o, c1, c2⟩ := h
  exact ⟨⟨hd, a1.gx g (by omega), a2, a3⟩, ⟨m, b1, ((g.2 110 (by omega)).2.1 2).trans b2⟩, o, c1, ((g.2 113 (by omega)).2.1 3).trans c2⟩
set_option maxRecDepth 100000 in
theorem CV.gx (h : CV s t ns) (hl : Ly tt cc s) (g : gx s s1) (hn : ∀ b, aK s1 b 3 → sL s ≤ b → TW s1 b) : CV s1 t ns := by
  obtain ⟨⟨a1, a2⟩, ⟨b1, b2⟩, c1, d1, e1⟩ := h
  have hL : 149 ≤ sL s := hl.1
  refine ⟨⟨a1.gx g (by omega), a2⟩, ⟨b1.gx b2.1 g hL, b2⟩, c1.gx g hL, fun b hb => ?_, e1.gx g hL⟩
  by_cases hbl : b < sL s
  · have hb0 : aK s b 3 := ⟨hbl, by rw [← (g.2 b hbl).1]; exact hb.2⟩
    exact (d1 b hb0).gx g (hl.tr hb0).2.2.2.1
  · exact hn b hb (by omega)
set_option maxRecDepth 100000 in
theorem CV.thr (h : CV s t ns) (hl : Ly tt cc s) {c : Nat} (hc : c ≠ 3) : CV (nw s c 0) t ns := h.gx hl (gx_nw s c 0) fun b hb hbl => by
  have h1 : b < sL s + 1 := hb.1
  have e : b = sL s := by omega
  subst e
  have h2 : (sT (nw s c 0) (sL s)).1 = 3 := hb.2
  rw [show sT (nw s c 0) (sL s) = (c, 0) from if_pos rfl] at h2
  exact absurd h2 hc
/-- how much a call makes -/
def gw (s s1 : aS) : Prop := sL s1 ≤ sL s + 8 ∧ aSz s1 ≤ aSz s + 3000
set_option maxRecDepth 100000 in
theorem aSz_ch (g : ch A s s1) : aSz s1 = aSz s := by
  unfold aSz
  rw [g.1]
  congr 1
  exact List.map_congr_left fun a _ => by rw [g.2.1]
set_option maxRecDepth 100000 in
theorem gw_ch (g : ch A s s1) : gw s s1 := ⟨by rw [g.1]; omega, by rw [aSz_ch g]; omega⟩
set_option maxRecDepth 100000 in
theorem gw_nw (s : aS) {c : Nat} : gw s (nw s c 0) := ⟨by rw [sL_nw]; omega, by
  rw [aSz_nw]
  unfold wt
  split
  · omega
  · exact Nat.le_add_right _ _⟩
/-- how a call of FormulaTrees comes to its end: p says of what it answers -/
def Cm (s : aS) (t : List Int32) (ns : List (List Int32)) (p : xZ → Prop) (D : Option (xZ × aS)) : Prop := ∃ o s1, D = some (o, s1) ∧ p o ∧ CV s1 t ns ∧ gw s s1
variable {p : xZ → Prop}
set_option maxRecDepth 100000 in
theorem Cm.x (h : CV s t ns) (hl : Ly tt cc s) {z y : Nat} (hp : p (.inr z)) (hy : y ≠ 3) : Cm s t ns p (some (.inr z, nw s y 0)) := ⟨_, _, rfl, hp, h.thr hl hy, gw_nw s⟩
set_option maxRecDepth 100000 in
theorem Cm.v (h : CV s t ns) {o : xZ} (hp : p o) : Cm s t ns p (some (o, s)) := ⟨_, _, rfl, hp, h, gw_ch (ch.refl (fun _ _ => False) s)⟩
set_option maxRecDepth 100000 in
theorem y55 (x : Int32) : (¬ (0 ≤ x.toInt ∧ x.toInt < 8) ∧ dm55 x = some 0) ∨ ((0 ≤ x.toInt ∧ x.toInt < 8) ∧ dm55 x = some 1) := by
  unfold dm55
  have l1 : x < 0 ↔ x.toInt < 0 := iLt
  have l2 : 8 ≤ x ↔ 8 ≤ x.toInt := iLe
  by_cases c1 : x < 0
  · left
    rw [if_pos c1]
    exact ⟨fun q => by have := l1.mp c1; omega, rfl⟩
  · rw [if_neg c1]
    have c1 : ¬ x.toInt < 0 := fun q => c1 (l1.mpr q)
    by_cases c2 : 8 ≤ x
    · left
      rw [if_pos c2]
      exact ⟨fun q => by have := l2.mp c2; omega, rfl⟩
    · right
      rw [if_neg c2]
      have c2 : ¬ 8 ≤ x.toInt := fun q => c2 (l2.mpr q)
      exact ⟨by omega, rfl⟩
set_option maxRecDepth 100000 in
theorem y54 (ht : TD s) (x : Int32) : dm54 x s = some .null ∨ ∃ b, dm54 x s = some (.ref b) ∧ aK s b 3 ∧ (0 ≤ x.toInt ∧ x.toInt < 8) ∧ sR s 100 x.toInt.toNat = .ref b := by
  unfold dm54
  rcases y55 x with ⟨-, e⟩ | ⟨hx, e⟩
  · left
    rw [e]
    rfl
  · rw [e]
    simp only [bu_some]
    rw [if_neg (by decide), if_pos (aB_iff.mpr hx)]
    by_cases c : sI s 101 (jN x) = -1
    · left
      rw [if_pos c]
    · rw [if_neg c, if_pos (aB_iff.mpr hx)]
      rcases ht.1 x.toInt.toNat (by omega) with z | ⟨b, z1, z2⟩
      · left
        rw [show sR s 100 (jN x) = .null from z]
        rfl
      · right
        rw [show sR s 100 (jN x) = .ref b from z1, vN_ref, if_pos z2]
        exact ⟨b, rfl, z2, hx, z1⟩
set_option maxRecDepth 100000 in
theorem y57 (h : TW s b) (x : Int32) (w : Nat) (hw : w < 11) : ∃ v, dm57 b x (Int32.ofNat w) s = some v ∧ (w = 10 → v.toInt ≤ 256) := by
  obtain ⟨N, u, b1, b2, b3, b4⟩ := h
  by_cases c : 0 ≤ x.toInt ∧ x.toInt < N
  · obtain ⟨k, hk⟩ : ∃ k, k = x.toInt.toNat := ⟨_, rfl⟩
    have ex : x = Int32.ofNat k := by rw [hk]; exact ofNat_of c.1
    rw [ex, d57 b2 b1 (by omega) hw]
    refine ⟨_, rfl, fun q => ?_⟩
    subst q
    obtain ⟨l, ⟨st, e1, e2, e3, e4⟩, -⟩ := b4 k (by omega)
    have := b3.2.1
    rw [e2, iOfNat (by omega)]
    omega
  · refine ⟨-1, ?_, fun _ => by decide⟩
    unfold dm57 dm57_13 dm57_14
    by_cases c1 : x < 0
    · rw [if_pos c1, if_pos rfl]
    · have z1 : ¬ x.toInt < 0 := fun q => c1 (iLt.mpr q)
      have c2 : sI s b 2 ≤ x := by
        rw [b2, iLe, iOfNat (by omega)]
        omega
      rw [if_neg c1, if_pos c2, if_pos rfl]
set_option maxRecDepth 100000 in
theorem y144 (h : TW s b) (hT : (sT s (b + 3)).2 = 256) (x y : Int32) : ∃ v, dm144 b x y s = some v := by
  obtain ⟨v9, e9, -⟩ := y57 h x 9 (by omega)
  obtain ⟨v10, e10, -⟩ := y57 h x 10 (by omega)
  have e9 : dm57 b x 9 s = some v9 := e9
  have e10 : dm57 b x 10 s = some v10 := e10
  obtain ⟨N, u, b1, b2, b3, b4⟩ := h
  obtain ⟨w, ew⟩ := c34 (x := v9 + y) b3.1 (by show u.length ≤ (sT s (b + 3)).2; rw [hT]; exact b3.2.1) (by have := b3.2.1; omega)
  unfold dm144 dm144_10 dm144_11
  rw [e10, e9]
  simp only [bu_some]
  rw [ew]
  simp only [bu_some]
  repeat' split
  all_goals exact ⟨_, rfl⟩
end CVs
