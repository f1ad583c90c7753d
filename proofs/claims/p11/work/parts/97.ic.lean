/-! what holds of the reference between calls -/
def okA (fs : Nat → Option Fm) (ns : List (List Int32)) : Prop := ∀ f h L, fs f = some (h, L) → ft L 1 ∧ ∀ d ∈ L, ndOk d ∧ arOk d ∧ (d 2).toInt < ns.length
def RV (s : aS) (t : List Int32) (ns : List (List Int32)) (fs : Nat → Option Fm) (lt : Nat → Nat → List Int32) : Prop := MT s t ∧ SM s ns ∧ MM s fs ∧ MLt s fs lt ∧ ltOk fs lt ∧ okA fs ns
def mA (a _k : Nat) : Prop := 121 ≤ a ∧ a ≤ 147
section RVs
variable {s s1 : aS} {t : List Int32} {ns : List (List Int32)} {fs : Nat → Option Fm} {lt : Nat → Nat → List Int32} {A : Nat → Nat → Prop}
set_option maxRecDepth 100000 in
theorem SM.of (h : SM s ns) (g : ch A s s1) (hA : ∀ a k, A a k → (a = 121 ∧ k ≠ 3) ∨ a = 122 ∨ 124 < a) : SM s1 ns := ⟨(g.i fun q => by have := hA _ _ q; omega).trans h.1, fun i hi => ⟨(g.i fun q => by have := hA _ _ q; omega).trans (h.2 i hi).1, fun j hj => (g.i fun q => by have := hA _ _ q; omega).trans ((h.2 i hi).2 j hj)⟩⟩
set_option maxRecDepth 100000 in
/-- the reference's cells are as they were -/
theorem RV.same (h : RV s t ns fs lt) (e : ∀ a k, 121 ≤ a → a ≤ 147 → sI s1 a k = sI s a k) : RV s1 t ns fs lt := by
  obtain ⟨a1, a2, a3, a4, a5⟩ := h
  refine ⟨⟨(e _ _ (by omega) (by omega)).trans a1.1, fun j hj => (e _ _ (by omega) (by omega)).trans (a1.2 j hj)⟩, ⟨(e _ _ (by omega) (by omega)).trans a2.1, fun i hi => ⟨(e _ _ (by omega) (by omega)).trans (a2.2 i hi).1, fun j hj => (e _ _ (by omega) (by omega)).trans ((a2.2 i hi).2 j hj)⟩⟩, fun f hf => ⟨fun q => (e _ _ (by omega) (by omega)).trans ((a3 f hf).1 q), fun h9 L q => ?_⟩, fun f hf h9 L q i hi => ?_, a5⟩
  · obtain ⟨b1, b2, b3, b4, b5⟩ := (a3 f hf).2 h9 L q
    exact ⟨(e _ _ (by omega) (by omega)).trans b1, (e _ _ (by omega) (by omega)).trans b2, (e _ _ (by omega) (by omega)).trans b3, b4, fun i hi w hw => (e _ _ (by omega) (by omega)).trans (b5 i hi w hw)⟩
  · refine (a4 f hf h9 L q i hi).go (fun w hw => ?_) (Or.inl rfl)
    obtain ⟨st, r1, r2, r3, r4⟩ := hw
    exact ⟨st, (e _ _ (by omega) (by omega)).trans r1, (e _ _ (by omega) (by omega)).trans r2, r3, fun j hj => (e _ _ (by omega) (by omega)).trans (r4 j hj)⟩
set_option maxRecDepth 100000 in
theorem RV.fl (h : RV s t ns fs lt) (g : ch A s s1) (hA : ∀ a k, A a k → a = 121 ∧ k ≠ 1 ∧ k ≠ 3) : RV s1 t ns fs lt := ⟨h.1.of g (fun q => by have := hA _ _ q; omega) (fun j q => by have := hA _ _ q; omega), h.2.1.of g (fun a k q => by have := hA _ _ q; omega), h.2.2.1.of g (fun a k q => by have := hA _ _ q; omega), h.2.2.2.1.of g (fun a k q => by have := hA _ _ q; omega), h.2.2.2.2⟩
set_option maxRecDepth 100000 in
theorem RV.t0 (h : RV s t ns fs lt) (v : Int32) : RV (wI s 121 0 v) t ns fs lt ∧ ch mA s (wI s 121 0 v) := ⟨h.fl (ch0 s v) (fun a k z => by omega), (ch0 s v).mono fun a k z => by unfold mA; omega⟩
set_option maxRecDepth 100000 in
theorem okA.len {ns1 : List (List Int32)} (h : okA fs ns) (hn : ns.length ≤ ns1.length) : okA fs ns1 := fun f h9 L q => ⟨(h f h9 L q).1, fun d hd => ⟨((h f h9 L q).2 d hd).1, ((h f h9 L q).2 d hd).2.1, by have := ((h f h9 L q).2 d hd).2.2; omega⟩⟩
set_option maxRecDepth 100000 in
/-- erase -/
theorem r173 (h : RV s t ns fs lt) : ∃ s', dm173 s = some s' ∧ RV s' [] ns fs lt ∧ ch mA s s' := by
  have g : ch (fun a k => a = 121 ∧ k < 2) s (wI (wI s 121 0 0) 121 1 0) := ((ch.refl _ s).wI ⟨rfl, by omega⟩).wI ⟨rfl, by omega⟩
  refine ⟨_, rfl, ⟨⟨?_, fun j hj => absurd hj (Nat.not_lt_zero j)⟩, h.2.1.of g (fun a k q => by omega), h.2.2.1.of g (fun a k q => by omega), h.2.2.2.1.of g (fun a k q => by omega), h.2.2.2.2⟩, g.mono fun a k z => by unfold mA; omega⟩
  rw [sI_wI, if_pos ⟨rfl, rfl⟩]
  rfl
set_option maxRecDepth 100000 in
/-- a formula is no more -/
theorem r231 (h : RV s t ns fs lt) (x : Int32) : ∃ s' fs', dm231 x s = some s' ∧ RV s' t ns fs' lt ∧ ch mA s s' := by
  rcases d231 h.2.2.1 x with ⟨-, e⟩ | ⟨ho, L, e0, e⟩
  · exact ⟨_, fs, e, (h.t0 1).1, (h.t0 1).2⟩
  · obtain ⟨f1, f2⟩ := fAt_s e0
    have g : ch (fun a k => (a = 121 ∧ k = 0) ∨ (a = 125 ∧ k = x.toInt.toNat)) s (wI (wI s 121 0 0) 125 x.toInt.toNat 0) := ((ch.refl _ s).wI (Or.inl ⟨rfl, rfl⟩)).wI (Or.inr ⟨rfl, rfl⟩)
    have hfs : ∀ f v, fsDel fs x.toInt.toNat f = some v → f ≠ x.toInt.toNat ∧ fs f = some v := fun f v q => by
      unfold fsDel at q
      by_cases e : f = x.toInt.toNat
      · rw [if_pos e] at q
        cases q
      · rw [if_neg e] at q
        exact ⟨e, q⟩
    refine ⟨_, fsDel fs x.toInt.toNat, e, ⟨h.1.of g (by omega) (fun j => by omega), h.2.1.of g (fun a k q => by omega), fun f hf => ⟨fun q => ?_, fun h9 L9 q => ?_⟩, fun f hf h9 L9 q i hi => ?_, fun f hf h9 L9 q i hi => ?_, fun f h9 L9 q => ?_⟩, g.mono fun a k z => by unfold mA; omega⟩
    · by_cases e : f = x.toInt.toNat
      · rw [e, sI_wI, if_pos ⟨rfl, rfl⟩]
      · unfold fsDel at q
        rw [if_neg e] at q
        exact (g.i (by omega)).trans ((h.2.2.1 f hf).1 q)
    · obtain ⟨n1, n2⟩ := hfs f _ q
      obtain ⟨b1, b2, b3, b4, b5⟩ := (h.2.2.1 f hf).2 h9 L9 n2
      exact ⟨(g.i (by omega)).trans b1, (g.i (by omega)).trans b2, (g.i (by omega)).trans b3, b4, fun i hi w hw => (g.i (by omega)).trans (b5 i hi w hw)⟩
    · obtain ⟨n1, n2⟩ := hfs f _ q
      exact (h.2.2.2.1 f hf h9 L9 n2 i hi).go (fun w hw => hw.of g (fun a k z => by omega)) (Or.inl rfl)
    · exact h.2.2.2.2.1 f hf h9 L9 (hfs f _ q).2 i hi
    · exact h.2.2.2.2.2 f h9 L9 (hfs f _ q).2
set_option maxRecDepth 100000 in
/-- what tells of formulas changes only the flag -/
theorem r243 (h : RV s t ns fs lt) (x : Int32) : ∃ v s', dm243 x s = some (v, s') ∧ RV s' t ns fs lt ∧ ch mA s s' := by
  rcases d243 h.2.2.1 x with ⟨-, e⟩ | ⟨ho, L, -, e⟩
  · exact ⟨_, _, e, h.t0 _⟩
  · exact ⟨_, _, e, h.t0 _⟩
set_option maxRecDepth 100000 in
theorem r244 (h : RV s t ns fs lt) (x y z : Int32) : ∃ v s', dm244 x y z s = some (v, s') ∧ RV s' t ns fs lt ∧ ch mA s s' := by
  rcases d244 h.2.2.1 x y z with ⟨-, e⟩ | ⟨ho, L, -, -, ⟨-, e⟩ | ⟨-, e⟩⟩
  · exact ⟨_, _, e, h.t0 _⟩
  · exact ⟨_, _, e, h.t0 _⟩
  · exact ⟨_, _, e, h.t0 _⟩
set_option maxRecDepth 100000 in
theorem r246 (h : RV s t ns fs lt) (x y z : Int32) : ∃ v s', dm246 x y z s = some (v, s') ∧ RV s' t ns fs lt ∧ ch mA s s' := by
  rcases d246 h.2.2.1 h.2.2.2.1 x y z with ⟨-, e⟩ | ⟨ho, L, -, -, e⟩
  · exact ⟨_, _, e, h.t0 _⟩
  · exact ⟨_, _, e, h.t0 _⟩
set_option maxRecDepth 100000 in
theorem r248 (h : RV s t ns fs lt) (x y : Int32) : ∃ v s', dm248 x y s = some (v, s') ∧ RV s' t ns fs lt ∧ ch mA s s' := by
  rcases d248 h.2.2.1 h.2.2.2.1 h.2.2.2.2.1 x y with ⟨-, e⟩ | ⟨h1, L, h2, M, -, -, e⟩
  · exact ⟨_, _, e, h.t0 _⟩
  · exact ⟨_, _, e, h.t0 _⟩
set_option maxRecDepth 100000 in
theorem r249 (h : RV s t ns fs lt) (x : Int32) : ∃ v s', dm249 x s = some (v, s') ∧ RV s' t ns fs lt ∧ ch mA s s' := by
  rcases d249 h.2.1 h.2.2.1 x with ⟨-, e⟩ | ⟨-, e⟩
  · exact ⟨_, _, e, h.t0 _⟩
  · exact ⟨_, _, e, h.t0 _⟩
set_option maxRecDepth 100000 in
theorem r232 (h : RV s t ns fs lt) (hn : nsOk ns) (x k : Int32) : ∃ v s', dm232 x k s = some (v, s') ∧ RV s' t ns fs lt ∧ ch mA s s' := by
  obtain ⟨v, s', e, g⟩ := w232 h.2.1 hn h.2.2.1 h.2.2.2.1 h.2.2.2.2.2 x k
  exact ⟨v, s', e, h.fl g (fun a k z => by omega), g.mono fun a k z => by unfold mA; omega⟩
set_option maxRecDepth 100000 in
/-- read -/
theorem r184 (h : RV s t ns fs lt) (hl : t.length ≤ 256) (hok : okT t) (hn : nsOk ns) (h147 : (sT s 147).2 = 256) (h122 : (sT s 122).2 = 256) (x1 x2 : Int32) : ∃ v s' fs' lt', dm184 x1 x2 s = some (v, s') ∧ RV s' t ns fs' lt' ∧ ch mA s s' := by
  have rm : ∀ a k, rdA x1.toInt.toNat a k → (a = 121 ∧ (k = 0 ∨ 21 ≤ k)) ∨ (125 ≤ a ∧ a ≤ 147) := fun a k z => by
    unfold rdA scr at z
    omega
  rcases d184 h.1 hl hok h.2.1 hn h.2.2.1 h.2.2.2.1 h147 h122 x1 x2 with ⟨-, e⟩ | ⟨cx, ⟨p, s', -, -, e, -, e2, e3, e4⟩ | ⟨L, s', eL, eF, e8, e, -, e2, e3, e4⟩⟩
  · exact ⟨_, _, fs, lt, e, h.t0 _⟩
  · exact ⟨_, s', fs, lt, e, ⟨h.1.of e4 (fun q => by have := rm _ _ q; omega) (fun j q => by have := rm _ _ q; omega), h.2.1.of e4 (fun a k q => by have := rm _ _ q; omega), e2, e3, h.2.2.2.2⟩, e4.mono fun a k z => by have := rm _ _ z; unfold mA; omega⟩
  · have gd := mRd_gd hn hl hok eL
    refine ⟨_, s', _, _, e, ⟨h.1.of e4 (fun q => by have := rm _ _ q; omega) (fun j q => by have := rm _ _ q; omega), h.2.1.of e4 (fun a k q => by have := rm _ _ q; omega), e2, e3, fun f hf h9 L9 q i hi => ?_, fun f h9 L9 q => ?_⟩, e4.mono fun a k z => by have := rm _ _ z; unfold mA; omega⟩
    · unfold fsRd at q
      unfold ltRd
      by_cases c : f = x1.toInt.toNat
      · rw [if_pos c] at q
        rw [if_pos c]
        cases q
        rw [List.length_map] at hi
        have hm : L.getD i dN ∈ L := by
          rw [List.getD, List.getElem?_eq_getElem hi]
          exact List.getElem_mem hi
        have := gd _ hm
        exact ⟨this.2.2.2.2.1, fun y hy => by have := this.2.2.2.2.2 y hy; omega⟩
      · rw [if_neg c] at q
        rw [if_neg c]
        exact h.2.2.2.2.1 f hf h9 L9 q i hi
    · unfold fsRd at q
      by_cases c : f = x1.toInt.toNat
      · rw [if_pos c] at q
        cases q
        refine ⟨eF, fun d hd => ?_⟩
        obtain ⟨n, n1, n2⟩ := List.mem_map.mp hd
        subst n2
        have := gd n n1
        exact ⟨this.1, this.2.1, this.2.2.1⟩
      · rw [if_neg c] at q
        exact h.2.2.2.2.2 f h9 L9 q
set_option maxRecDepth 100000 in
/-- move -/
theorem r224 (h : RV s t ns fs lt) (hn : nsOk ns) (x1 x2 x3 x4 x5 : Int32) : ∃ s' fs' lt', dm224 x1 x2 x3 x4 x5 s = some s' ∧ RV s' t ns fs' lt' ∧ ch mA s s' := by
  rcases d224x h.2.1 hn h.2.2.1 h.2.2.2.1 x1 x2 x3 x4 x5 with ⟨-, e⟩ | ⟨-, -, e⟩ | ⟨cV, -, h0, L, s', e0, e, e2, e3, -, e4⟩
  · exact ⟨_, fs, lt, e, h.t0 _⟩
  · exact ⟨_, fs, lt, e, h.t0 _⟩
  · obtain ⟨f1, f2⟩ := fAt_s e0
    refine ⟨s', _, _, e, ⟨h.1.of e4 (by omega) (fun j => by omega), h.2.1.of e4 (fun a k q => by omega), e2, e3, fun f hf h9 L9 q i hi => ?_, fun f h9 L9 q => ?_⟩, e4.mono fun a k z => by unfold mA; omega⟩
    · unfold fsMove at q
      unfold ltMv
      by_cases c : f = x5.toInt.toNat
      · rw [if_pos c] at q
        rw [if_pos c]
        cases q
        rw [List.length_map] at hi
        exact h.2.2.2.2.1 _ (by omega) h0 L f2 i hi
      · rw [if_neg c] at q
        rw [if_neg c]
        exact h.2.2.2.2.1 f hf h9 L9 q i hi
    · unfold fsMove at q
      by_cases c : f = x5.toInt.toNat
      · rw [if_pos c] at q
        cases q
        obtain ⟨o1, o2⟩ := h.2.2.2.2.2 _ h0 L f2
        refine ⟨ft_map (fun d => (mv_map d).2) L 1 o1, fun d hd => ?_⟩
        obtain ⟨n, n1, n2⟩ := List.mem_map.mp hd
        subst n2
        obtain ⟨p1, p2, p3⟩ := o2 n n1
        exact ⟨mv_okd p1, ar_map p2 (mv_map n).1 (mv_map n).2, mv_s2 p3⟩
      · rw [if_neg c] at q
        exact h.2.2.2.2.2 f h9 L9 q
set_option maxRecDepth 100000 in
/-- shift -/
theorem r228 (h : RV s t ns fs lt) (hn : nsOk ns) (x y k n : Int32) : ∃ v s' fs', dm228 x y k n s = some (v, s') ∧ RV s' t ns fs' lt ∧ ch mA s s' := by
  rcases d228 h.2.1 hn h.2.2.1 x y k n with ⟨-, e⟩ | ⟨-, -, e⟩ | ⟨cx, cn, s', e, e2, -, e4⟩
  · exact ⟨_, _, fs, e, h.t0 _⟩
  · exact ⟨_, _, fs, e, h.t0 _⟩
  · have hfs : ∀ f h9 L9, fsShM x y k n (lastT y) fs f = some (h9, L9) → ∃ L, fs f = some (h9, L) ∧ L9 = L.map (shM x y k n (lastT y) h9) := fun f h9 L9 q => by
      unfold fsShM at q
      cases hq : fs f with
      | none =>
        rw [hq] at q
        cases q
      | some v =>
        obtain ⟨h0, L⟩ := v
        rw [hq] at q
        cases q
        exact ⟨L, rfl, rfl⟩
    refine ⟨_, s', _, e, ⟨h.1.of e4 (by omega) (fun j => by omega), h.2.1.of e4 (fun a k q => by omega), e2, fun f hf h9 L9 q i hi => ?_, fun f hf h9 L9 q i hi => ?_, fun f h9 L9 q => ?_⟩, e4.mono fun a k z => by unfold mA; omega⟩
    · obtain ⟨L, q1, q2⟩ := hfs f h9 L9 q
      subst q2
      have hi2 : i < L.length := by rw [List.length_map] at hi; exact hi
      rw [List.getElem_map]
      exact (h.2.2.2.1 f hf h9 L q1 i hi2).go (fun w hw => hw.of e4 (fun a k z => by omega)) (sh_map L[i]).1
    · obtain ⟨L, q1, q2⟩ := hfs f h9 L9 q
      subst q2
      rw [List.length_map] at hi
      exact h.2.2.2.2.1 f hf h9 L q1 i hi
    · obtain ⟨L, q1, q2⟩ := hfs f h9 L9 q
      subst q2
      obtain ⟨o1, o2⟩ := h.2.2.2.2.2 f h9 L q1
      refine ⟨ft_map (fun d => (sh_map d).2) L 1 o1, fun d hd => ?_⟩
      obtain ⟨m, n1, n2⟩ := List.mem_map.mp hd
      subst n2
      obtain ⟨p1, p2, p3⟩ := o2 m n1
      exact ⟨sh_ok p1 (bey_rg cn.1) cn.2, ar_map p2 (sh_map m).1 (sh_map m).2, sh_2 p3⟩
set_option maxRecDepth 100000 in
/-- drop -/
theorem r182 (h : RV s t ns fs lt) (hn : nsOk ns) (x : Int32) : (¬ (0 ≤ x.toInt ∧ x.toInt < ns.length) ∧ ∃ s', dm182 x s = some s' ∧ sI s' 121 0 = 1 ∧ RV s' t ns fs lt ∧ ch mA s s') ∨ ((0 ≤ x.toInt ∧ x.toInt < ns.length) ∧ ∃ s' fs', dm182 x s = some s' ∧ sI s' 121 0 = 0 ∧ RV s' t (ns.eraseIdx x.toInt.toNat) fs' lt ∧ ch mA s s') := by
  rcases d182 h.2.1 hn h.2.2.1 x with ⟨c, e⟩ | ⟨c, s', e, e1, e2, e3, e4⟩
  · exact Or.inl ⟨c, _, e, (by rw [sI_wI, if_pos ⟨rfl, rfl⟩]), h.t0 _⟩
  · refine Or.inr ⟨c, s', fsDropM x fs, e, e3, ?_, e4.mono fun a k z => by unfold mA; omega⟩
    have hfs : ∀ f h9 L9, fsDropM x fs f = some (h9, L9) → ∃ h0 L, fs f = some (h0, L) ∧ L9 = L.map (lsM x) := fun f h9 L9 q => by
      unfold fsDropM at q
      cases hq : fs f with
      | none =>
        rw [hq] at q
        cases q
      | some v =>
        obtain ⟨h0, L⟩ := v
        rw [hq] at q
        have q : (if h0 = x then none else some (if h0 ≤ x then h0 else h0 - 1, L.map (lsM x))) = some (h9, L9) := q
        by_cases c : h0 = x
        · rw [if_pos c] at q
          cases q
        · rw [if_neg c] at q
          cases q
          exact ⟨h0, L, rfl, rfl⟩
    refine ⟨h.1.of e4 (by omega) (fun j => by omega), e1, e2, fun f hf h9 L9 q i hi => ?_, fun f hf h9 L9 q i hi => ?_, fun f h9 L9 q => ?_⟩
    · obtain ⟨h0, L, q1, q2⟩ := hfs f h9 L9 q
      subst q2
      have hi2 : i < L.length := by rw [List.length_map] at hi; exact hi
      rw [List.getElem_map]
      exact (h.2.2.2.1 f hf h0 L q1 i hi2).go (fun w hw => hw.of e4 (fun a k z => by omega)) (ls_map c.1 ((h.2.2.2.2.2 f h0 L q1).2 L[i] (List.getElem_mem hi2)).1).1
    · obtain ⟨h0, L, q1, q2⟩ := hfs f h9 L9 q
      subst q2
      rw [List.length_map] at hi
      exact h.2.2.2.2.1 f hf h0 L q1 i hi
    · obtain ⟨h0, L, q1, q2⟩ := hfs f h9 L9 q
      subst q2
      obtain ⟨o1, o2⟩ := h.2.2.2.2.2 f h0 L q1
      refine ⟨?_, fun d hd => ?_⟩
      · have key : ∀ (M : List Nd) (k : Nat), (∀ d ∈ M, ndOk d) → ft M k → ft (M.map (lsM x)) k := by
          intro M
          induction M with
          | nil => exact fun k _ z => z
          | cons d M ih =>
            intro k hM hz
            obtain ⟨z1, z2⟩ := hz
            have e : arN (lsM x d) = arN d := by unfold arN; rw [(ls_map c.1 (hM d List.mem_cons_self)).2]
            refine ⟨z1, ?_⟩
            rw [e]
            exact ih _ (fun d hd => hM d (List.mem_cons_of_mem _ hd)) z2
        exact key L 1 (fun d hd => (o2 d hd).1) o1
      · obtain ⟨m, n1, n2⟩ := List.mem_map.mp hd
        subst n2
        obtain ⟨p1, p2, p3⟩ := o2 m n1
        refine ⟨by rw [ls_eq c.1 p1]; exact ls_ok c.1 p1, ar_map p2 (ls_map c.1 p1).1 (ls_map c.1 p1).2, ?_⟩
        have := ls_2 c p1 p3
        rw [List.length_eraseIdx_of_lt (by omega)]
        omega
end RVs
