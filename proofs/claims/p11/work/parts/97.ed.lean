/-! the reader of FormulaTrees: behind operands, references, ranges, letters kept -/
section KK
variable {s0 s : aS} {b i z9 : Nat} {t : List Int32} {ns : List (List Int32)}
set_option maxRecDepth 100000 in
theorem k83 (x0 x1 : Int32) : ∃ v, dm83 x0 x1 = some v ∧ ((v = 18 ∨ v = 21 ∨ v = 22) → x1 = 62 ∨ x1 = 61) := by
  unfold dm83
  repeat' split
  all_goals first
    | (refine ⟨_, rfl, fun q => ?_⟩; exact absurd q (by decide))
    | (rename_i z; exact ⟨_, rfl, fun _ => Or.inl z⟩)
    | (rename_i z; exact ⟨_, rfl, fun _ => Or.inr z⟩)
set_option maxRecDepth 100000 in
theorem k68 (h0 : KS s0 b t ns) (h : KW s0 s b i i) (hi : i < t.length) (x : Int32) : KO s0 b i t.length (dm68 x s) := by
  have hb := h0.2.1.2.2.1
  have hl := h0.1.2.1
  have f52 : KO s0 b i t.length (dm68_52 x s) := by
    unfold dm68_52
    rw [h.2.1, ofNat_succ (by omega), kch h0 h (by omega)]
    simp only [bu_some]
    obtain ⟨v, e1, e2⟩ := k83 x (t.getD (i + 1) (-1))
    rw [e1]
    simp only [bu_some]
    refine (k84 (d := 0) (c := 0) h0 h hi v fun q => ?_).b fun s1 j c1 c2 c3 => KO.s c1 c2 c3
    rcases e2 q with z | z
    · exact kin (p := fun x => x = 62) (by decide) z
    · exact kin (p := fun x => x = 61) (by decide) z
  have f40 : ∀ y, KO s0 b i t.length (dm68_40 y s) := fun y => by
    unfold dm68_40
    exact (k75 h0 h hi y).b fun s1 j c1 c2 c3 => KO.s c1 c2 c3
  have f42 : KO s0 b i t.length (dm68_42 x s) := by
    unfold dm68_42 dm82
    split
    · simp only [bu_some]
      split
      · exact f52
      · exact (k77 h0 h hi).b fun s1 j c1 c2 c3 => KO.s c1 c2 c3
    · exact f52
  have f29 : KO s0 b i t.length (dm68_29 x s) := by
    unfold dm68_29
    obtain ⟨v, e⟩ := k73 h
    rw [e]
    simp only [bu_some]
    split
    · exact f42
    · split
      · exact f40 1
      · exact f40 0
  have f17 : KO s0 b i t.length (dm68_17 x s) := by
    unfold dm68_17
    split
    · exact (k69 h0 h hi).b fun s1 j c1 c2 c3 => KO.s c1 c2 c3
    · split
      · exact f29
      · split
        · exact f29
        · exact f42
  unfold dm68
  split
  · split
    · simp only [nx_eq]
      have h5 := KW.fld (k := 9) (v := 3) h hb (by omega)
      exact KO.s ((KW.adv (j := 1) h5 hb (by omega) (by omega)).up hb (by omega)) (by omega) (by omega)
    · exact f17
  · exact f17
set_option maxRecDepth 100000 in
/-- put of what a cell reader found -/
theorem kput {w : Nat} (h : KW s0 s b i z9) (hb : b = 102 ∨ 149 ≤ b) (hw : w < 9) (x v : Int32) {K : aS → Option aS} {P : Option aS → Prop} (k : ∀ s1, KW s0 s1 b i z9 → ch (fun a _ => a = b ∨ a = b + 1) s s1 → P (K s1)) : P (bu (dm60 b x (Int32.ofNat w) v s) K) := by
  obtain ⟨s1, a1, a2, a3⟩ := k60 h hb x v w hw
  rw [a1]
  exact k s1 a2 a3
set_option maxRecDepth 100000 in
theorem k95 (h : KW s0 s b i z9) (hb : b = 102 ∨ 149 ≤ b) (x : Int32) : ∃ s', dm95 b x s = some s' ∧ KW s0 s' b i z9 ∧ ch (fun a _ => a = b ∨ a = b + 1) s s' := by
  unfold dm95 dm96 dm97 dm98
  simp only [bu_some]
  obtain ⟨s1, a1, a2, a3⟩ := k60 h hb x (sI s 109 1) 3 (by omega)
  have a1 : dm60 b x 3 (sI s 109 1) s = some s1 := a1
  rw [a1]
  simp only [bu_some]
  obtain ⟨s2, b1, b2, b3⟩ := k60 a2 hb x (sI s1 109 2) 4 (by omega)
  have b1 : dm60 b x 4 (sI s1 109 2) s1 = some s2 := b1
  rw [b1]
  simp only [bu_some]
  obtain ⟨s3, c1, c2, c3⟩ := k60 b2 hb x (sI s2 109 1) 5 (by omega)
  have c1 : dm60 b x 5 (sI s2 109 1) s2 = some s3 := c1
  rw [c1]
  simp only [bu_some]
  obtain ⟨s4, d1, d2, d3⟩ := k60 c2 hb x (sI s3 109 2) 6 (by omega)
  have d1 : dm60 b x 6 (sI s3 109 2) s3 = some s4 := d1
  rw [d1]
  simp only [bu_some]
  obtain ⟨s5, e1, e2, e3⟩ := k60 d2 hb x (sI s4 109 3) 7 (by omega)
  have e1 : dm60 b x 7 (sI s4 109 3) s4 = some s5 := e1
  rw [e1]
  exact ⟨s5, rfl, e2, (((a3.trans b3).trans c3).trans d3).trans e3⟩
set_option maxRecDepth 100000 in
theorem k57 (h : KW s0 s b i z9) (x : Int32) (w : Nat) (hw : w < 11) : ∃ v, dm57 b x (Int32.ofNat w) s = some v := by
  obtain ⟨-, -, ⟨N, u, a1, a2, -⟩, -⟩ := h
  by_cases c : 0 ≤ x.toInt ∧ x.toInt < N
  · obtain ⟨k, hk⟩ : ∃ k, k = x.toInt.toNat := ⟨_, rfl⟩
    have ex : x = Int32.ofNat k := by rw [hk]; exact ofNat_of c.1
    rw [ex, d57 a2 a1 (by omega) hw]
    exact ⟨_, rfl⟩
  · refine ⟨-1, ?_⟩
    unfold dm57 dm57_13 dm57_14
    by_cases c1 : x < 0
    · rw [if_pos c1, if_pos rfl]
    · have z1 : ¬ x.toInt < 0 := fun q => c1 (iLt.mpr q)
      have c2 : sI s b 2 ≤ x := by
        rw [a2, iLe, iOfNat (by omega)]
        omega
      rw [if_neg c1, if_pos c2, if_pos rfl]
set_option maxRecDepth 100000 in
theorem k102 (h : KW s0 s b i z9) (hb : b = 102 ∨ 149 ≤ b) (x : Int32) (w : Nat) (hw : w = 3 ∨ w = 4) : ∃ s', dm102 b x (Int32.ofNat w) s = some s' ∧ KW s0 s' b i z9 ∧ ch (fun a _ => a = b ∨ a = b + 1) s s' := by
  have e2 : Int32.ofNat w + 2 = Int32.ofNat (w + 2) := iSum (i := w) (j := 2) (by omega) (by omega)
  obtain ⟨v1, q1⟩ := k57 h x w (by omega)
  obtain ⟨v2, q2⟩ := k57 h x (w + 2) (by omega)
  unfold dm102
  rw [e2, q1]
  simp only [bu_some]
  rw [q2]
  simp only [bu_some]
  obtain ⟨s1, a1, a2, a3⟩ := k60 h hb x v2 w (by omega)
  rw [a1]
  simp only [bu_some]
  obtain ⟨s2, b1, b2, b3⟩ := k60 a2 hb x v1 (w + 2) (by omega)
  rw [b1]
  simp only [bu_some]
  have f28 : ∀ y, ∃ s', dm102_28 b x y s2 = some s' ∧ KW s0 s' b i z9 ∧ ch (fun a _ => a = b ∨ a = b + 1) s s' := by
    intro y
    obtain ⟨v3, q3⟩ := k57 b2 x 7 (by omega)
    have q3 : dm57 b x 7 s2 = some v3 := q3
    unfold dm102_28
    rw [q3]
    simp only [bu_some]
    obtain ⟨s3, c1, c2, c3⟩ := k60 b2 hb x (((v3 &&& ((y * 5) ^^^ (-1))) + ((v3 &&& y) * 4)) + ((v3 &&& (y * 4)) / 4)) 7 (by omega)
    have c1 : dm60 b x 7 (((v3 &&& ((y * 5) ^^^ (-1))) + ((v3 &&& y) * 4)) + ((v3 &&& (y * 4)) / 4)) s2 = some s3 := c1
    rw [c1]
    exact ⟨s3, rfl, c2, (a3.trans b3).trans c3⟩
  split
  · exact f28 1
  · exact f28 2
set_option maxRecDepth 100000 in
theorem k101 (h : KW s0 s b i z9) (hb : b = 102 ∨ 149 ≤ b) (x : Int32) : ∃ s', dm101 b x s = some s' ∧ KW s0 s' b i z9 ∧ ch (fun a _ => a = b ∨ a = b + 1) s s' := by
  have f13 : ∀ s, KW s0 s b i z9 → ∃ s', dm101_13 b x s = some s' ∧ KW s0 s' b i z9 ∧ ch (fun a _ => a = b ∨ a = b + 1) s s' := by
    intro s h
    obtain ⟨v1, q1⟩ := k57 h x 4 (by omega)
    obtain ⟨v2, q2⟩ := k57 h x 6 (by omega)
    have q1 : dm57 b x 4 s = some v1 := q1
    have q2 : dm57 b x 6 s = some v2 := q2
    unfold dm101_13
    rw [q1]
    simp only [bu_some]
    rw [q2]
    simp only [bu_some]
    split
    · exact ⟨s, rfl, h, ch.refl _ s⟩
    · obtain ⟨s1, a1, a2, a3⟩ := k102 h hb x 4 (Or.inr rfl)
      have a1 : dm102 b x 4 s = some s1 := a1
      rw [a1]
      exact ⟨s1, rfl, a2, a3⟩
  obtain ⟨v1, q1⟩ := k57 h x 3 (by omega)
  obtain ⟨v2, q2⟩ := k57 h x 5 (by omega)
  have q1 : dm57 b x 3 s = some v1 := q1
  have q2 : dm57 b x 5 s = some v2 := q2
  unfold dm101
  rw [q1]
  simp only [bu_some]
  rw [q2]
  simp only [bu_some]
  split
  · exact f13 s h
  · obtain ⟨s1, a1, a2, a3⟩ := k102 h hb x 3 (Or.inl rfl)
    have a1 : dm102 b x 3 s = some s1 := a1
    rw [a1]
    simp only [bu_some]
    obtain ⟨s2, b1, b2, b3⟩ := f13 s1 a2
    exact ⟨s2, b1, b2, a3.trans b3⟩
set_option maxRecDepth 100000 in
theorem k100 (h : KW s0 s b i z9) (hb : b = 102 ∨ 149 ≤ b) (x : Int32) : ∃ s', dm100 b x s = some s' ∧ KW s0 s' b i z9 ∧ ch (fun a _ => a = b ∨ a = b + 1) s s' := by
  unfold dm100 dm96 dm97 dm98
  obtain ⟨s1, a1, a2, a3⟩ := k60 h hb x 5 0 (by omega)
  have a1 : dm60 b x 0 5 s = some s1 := a1
  rw [a1]
  simp only [bu_some]
  obtain ⟨s2, b1, b2, b3⟩ := k60 a2 hb x (sI s1 109 1) 5 (by omega)
  have b1 : dm60 b x 5 (sI s1 109 1) s1 = some s2 := b1
  rw [b1]
  simp only [bu_some]
  obtain ⟨s3, c1, c2, c3⟩ := k60 b2 hb x (sI s2 109 2) 6 (by omega)
  have c1 : dm60 b x 6 (sI s2 109 2) s2 = some s3 := c1
  rw [c1]
  simp only [bu_some]
  obtain ⟨v3, q3⟩ := k57 c2 x 7 (by omega)
  have q3 : dm57 b x 7 s3 = some v3 := q3
  rw [q3]
  simp only [bu_some]
  obtain ⟨s4, d1, d2, d3⟩ := k60 c2 hb x (v3 + (sI s3 109 3 * 4)) 7 (by omega)
  have d1 : dm60 b x 7 (v3 + (sI s3 109 3 * 4)) s3 = some s4 := d1
  rw [d1]
  simp only [bu_some]
  obtain ⟨s5, e1, e2, e3⟩ := k101 d2 hb x
  rw [e1]
  exact ⟨s5, rfl, e2, (((a3.trans b3).trans c3).trans d3).trans e3⟩
set_option maxRecDepth 100000 in
/-- a reference that must come here -/
theorem k88 (h0 : KS s0 b t ns) (h : KW s0 s b i i) (hi : i ≤ t.length) : KO s0 b i t.length (dm88 s) := by
  have hb := h0.2.1.2.2.1
  have hl := h0.1.2.1
  obtain ⟨v, s1, a1, a2, e, a3, a4, a5⟩ := k89 h0 h hi
  have k1 := K9.kw (j := 0) h hb a2
  have nob : ∀ (s2 s3 : aS), ch (fun a _ => a = b ∨ a = b + 1) s2 s3 → sI s3 109 0 = sI s2 109 0 := fun s2 s3 c => c.i (by omega)
  unfold dm88 dm93
  rw [h.2.1, a1]
  simp only [bv_some]
  split
  · simp only [bu_some, nx_eq]
    exact KO.s (KW.fld k1 hb (by omega)) (Nat.le_refl _) hi
  · obtain ⟨v2, s2, c1, c2, c3⟩ := k70 h0 k1 (sI s1 106 11)
    rw [c1]
    simp only [bv_some]
    split
    · exact KO.s c2 (Nat.le_refl _) hi
    · unfold dm94
      rw [(ktr h0 c2).1, if_pos (ktr (β := aS) (x := none) (f := fun _ => none) h0 c2).2]
      simp only [bu_some]
      rw [(ktr h0 c2).1, if_pos (ktr (β := aS) (x := none) (f := fun _ => none) h0 c2).2]
      obtain ⟨s3, d1, d2, d3⟩ := k72 c2 hb (sI s2 b 2) 4 0
      rw [d1]
      simp only [bu_some]
      rw [(ktr h0 d2).1, if_pos (ktr (β := aS) (x := none) (f := fun _ => none) h0 d2).2]
      obtain ⟨s4, f1, f2, f3⟩ := k60 d2 hb (sI s2 b 2) (sI s3 106 12) 2 (by omega)
      have f1 : dm60 b (sI s2 b 2) 2 (sI s3 106 12) s3 = some s4 := f1
      rw [f1]
      simp only [bu_some]
      rw [(ktr h0 f2).1, if_pos (ktr (β := aS) (x := none) (f := fun _ => none) h0 f2).2]
      obtain ⟨s5, g1, g2, g3⟩ := k95 f2 hb (sI s2 b 2)
      rw [g1]
      simp only [bu_some]
      obtain ⟨s6, m1, m2, m3⟩ := k81 hb g2 (sI s2 b 2)
      rw [m1]
      simp only [bu_some, nx_eq]
      have e6 : sI (wI s6 106 9 5) 109 0 = Int32.ofNat e := by
        rw [sI_wI, if_neg (by omega), m3.i (by omega), nob _ _ g3, nob _ _ f3, nob _ _ d3, c3.i (by omega)]
        exact a3
      rw [e6]
      exact KO.s (((KW.fld (k := 9) (v := 5) m2 hb (by omega)).at hb).up hb a4) a4 a5
set_option maxRecDepth 100000 in
theorem k99 (h0 : KS s0 b t ns) (h : KW s0 s b i i) (hi : i ≤ t.length) : KO s0 b i t.length (dm99 s) := by
  have hb := h0.2.1.2.2.1
  have hl := h0.1.2.1
  obtain ⟨v, s1, a1, a2, e, a3, a4, a5⟩ := k89 h0 h hi
  have k1 := K9.kw (j := 0) h hb a2
  unfold dm99 dm93
  rw [h.2.1, a1]
  simp only [bv_some]
  split
  · simp only [bu_some, nx_eq]
    exact KO.s (KW.fld k1 hb (by omega)) (Nat.le_refl _) hi
  · rw [(ktr h0 k1).1, if_pos (ktr (β := aS) (x := none) (f := fun _ => none) h0 k1).2]
    obtain ⟨s2, c1, c2, c3⟩ := k100 k1 hb (sI s1 106 10)
    rw [c1]
    simp only [bu_some, nx_eq]
    have e6 : sI (wI s2 106 9 4) 109 0 = Int32.ofNat e := by
      rw [sI_wI, if_neg (by omega), c3.i (by omega)]
      exact a3
    rw [e6]
    exact KO.s (((KW.fld (k := 9) (v := 4) c2 hb (by omega)).at hb).up hb a4) a4 a5
set_option maxRecDepth 100000 in
/-- a token with the letters that are held -/
theorem k106w {hd : List Int32} (h0 : KS s0 b t ns) (h : KW s0 s b i z9) (hh : HH s hd) (hz : z9 + hd.length ≤ i) (hi : i ≤ t.length) (x1 x2 : Int32) : ∃ s', dm106 x1 x2 s = some s' ∧ KW s0 s' b i i := by
  have hb := h0.2.1.2.2.1
  have hl := h0.1.2.1
  obtain ⟨v2, s2, c1, c2, c3⟩ := k70 h0 h x2
  unfold dm106 dm94
  rw [c1]
  simp only [bv_some]
  split
  · exact ⟨s2, rfl, c2.up hb (by omega)⟩
  · rw [(ktr h0 c2).1, if_pos (ktr (β := aS) (x := none) (f := fun _ => none) h0 c2).2]
    simp only [bu_some]
    rw [(ktr h0 c2).1, if_pos (ktr (β := aS) (x := none) (f := fun _ => none) h0 c2).2]
    obtain ⟨s3, d1, d2, d3⟩ := k72 c2 hb (sI s2 b 2) x1 0
    rw [d1]
    simp only [bu_some]
    rw [(ktr h0 d2).1, if_pos (ktr (β := aS) (x := none) (f := fun _ => none) h0 d2).2]
    have hh3 : HH s3 hd := ⟨(hh.1.of c3 (by omega) (fun k => by omega)).of d3 (by omega) (fun k => by omega), hh.2⟩
    obtain ⟨s4, f1, f2⟩ := k107 h0 d2 hh3 (by omega) (sI s2 b 2)
    rw [f1]
    simp only [bu_some]
    obtain ⟨s5, g1, g2, g3⟩ := k81 hb f2 (sI s2 b 2)
    rw [g1]
    exact ⟨s5, rfl, g2.up hb hz⟩
set_option maxRecDepth 100000 in
theorem k106 {hd : List Int32} (h0 : KS s0 b t ns) (h : KW s0 s b i z9) (hh : HH s hd) (hz : z9 + hd.length ≤ i) (hi : i ≤ t.length) (x1 x2 : Int32) : KO s0 b z9 t.length (dm106 x1 x2 s) := by
  obtain ⟨s', a1, a2⟩ := k106w h0 h hh hz hi x1 x2
  exact ⟨s', i, a1, a2, by omega, hi⟩
set_option maxRecDepth 100000 in
theorem k111 (h0 : KS s0 b t ns) (h : KW s0 s b i z9) (hz : z9 ≤ i) (hi : i ≤ t.length) (x1 x2 x3 : Int32) : KO s0 b z9 t.length (dm111 x1 x2 x3 s) := by
  have hb := h0.2.1.2.2.1
  have hl := h0.1.2.1
  obtain ⟨v2, s2, c1, c2, c3⟩ := k70 h0 h x3
  unfold dm111 dm94
  rw [c1]
  simp only [bv_some]
  split
  · exact KO.s (c2.up hb (by omega)) (by omega) hi
  · rw [(ktr h0 c2).1, if_pos (ktr (β := aS) (x := none) (f := fun _ => none) h0 c2).2]
    simp only [bu_some]
    rw [(ktr h0 c2).1, if_pos (ktr (β := aS) (x := none) (f := fun _ => none) h0 c2).2]
    obtain ⟨s3, d1, d2, d3⟩ := k72 c2 hb (sI s2 b 2) x1 0
    rw [d1]
    simp only [bu_some]
    rw [(ktr h0 d2).1, if_pos (ktr (β := aS) (x := none) (f := fun _ => none) h0 d2).2]
    obtain ⟨s4, f1, f2, f3⟩ := k60 d2 hb (sI s2 b 2) x2 8 (by omega)
    have f1 : dm60 b (sI s2 b 2) 8 x2 s3 = some s4 := f1
    rw [f1]
    simp only [bu_some]
    obtain ⟨s5, g1, g2, g3⟩ := k81 hb f2 (sI s2 b 2)
    rw [g1]
    exact KO.s (g2.up hb hz) (by omega) hi
end KK
