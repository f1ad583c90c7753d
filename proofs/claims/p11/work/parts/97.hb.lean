/-! calls of FormulaTrees that tell of trees come to their end -/
def pI (o : xZ) : Prop := (∃ v, o = .inl (some (.int v))) ∨ o = .inr 2
def pJ (o : xZ) : Prop := (∃ v, o = .inl (some (.int v))) ∨ o = .inr 2 ∨ o = .inr 0
def pC (o : xZ) : Prop := (∃ v, o = .inl (some (.int v))) ∨ o = .inr 0
def pN (o : xZ) : Prop := o = .inl none ∨ o = .inr 2
def pM (o : xZ) : Prop := o = .inl none ∨ o = .inr 2 ∨ o = .inr 0
section CVs
variable {tt : Nat} {xs : List Int32} {s : aS} {t : List Int32} {ns : List (List Int32)} {b : Nat}
set_option maxRecDepth 100000 in
theorem y138 (h : CV s t ns) (hl : Ly tt (cCc xs) s) (x k : Int32) : Cm s t ns pI (dm138 x k s) := by
  unfold dm138
  rcases y54 h.2.2.1 x with e | ⟨b, e, e2, e3, e4⟩
  · rw [e]
    simp only [bu_some, vN_null]
    exact Cm.x h hl (Or.inr rfl) (by decide)
  · rw [e]
    simp only [bu_some, vN_ref]
    rw [if_pos e2]
    obtain ⟨N, u, w1, w2, w3, w4⟩ := h.2.2.2.1 b e2
    obtain ⟨v, s1, g1, g2⟩ := c139 (ns := ns) e2 (tr_at hl e2) ⟨N, u, w1, w2, w3, fun k hk => by
      obtain ⟨l, q, -⟩ := w4 k hk
      exact ⟨l, q⟩⟩ (by rw [(hl.tr e2).2.2.2.2.2.2.1]) h.2.1.1.1 h.2.1.2 (RC.ly hl) (AS.ly hl) k
    rw [g1]
    simp only [bv_some]
    exact ⟨_, s1, rfl, Or.inl ⟨v, rfl⟩, h.of hl g2 (fun a k z => Or.inr (by omega)), gw_ch g2⟩
set_option maxRecDepth 100000 in
theorem y137 (h : CV s t ns) (hl : Ly tt (cCc xs) s) (x : Int32) : Cm s t ns pN (dm137 x s) := by
  unfold dm137
  rcases y54 h.2.2.1 x with e | ⟨b, e, e2, e3, e4⟩
  · rw [e]
    simp only [bu_some, vN_null]
    exact Cm.x h hl (Or.inr rfl) (by decide)
  · rw [e]
    simp only [bu_some, vN_ref]
    rw [if_pos e2, if_pos (aB_iff.mpr e3), nx_eq]
    have g : ch (fun a _ => a = 101) s (wI s 101 (jN x) (-1)) := (ch.refl _ s).wI rfl
    exact ⟨_, _, rfl, Or.inl rfl, h.of hl g (fun a k z => Or.inl z), gw_ch g⟩
set_option maxRecDepth 100000 in
theorem y159 (h : CV s t ns) (hl : Ly tt (cCc xs) s) (x : Int32) : Cm s t ns pI (dm159 x s) := by
  unfold dm159
  rcases y54 h.2.2.1 x with e | ⟨b, e, e2, e3, e4⟩
  · rw [e]
    simp only [bu_some, vN_null]
    exact Cm.x h hl (Or.inr rfl) (by decide)
  · rw [e]
    simp only [bu_some, vN_ref]
    rw [if_pos e2]
    unfold dm94
    simp only [bu_some]
    exact Cm.v h (Or.inl ⟨_, rfl⟩)
set_option maxRecDepth 100000 in
theorem y161 (b : Nat) (x : Int32) (s : aS) : ∃ r, dm161 b x s = some r := by
  unfold dm161
  repeat' split
  all_goals exact ⟨_, rfl⟩
set_option maxRecDepth 100000 in
theorem y160 (h : CV s t ns) (hl : Ly tt (cCc xs) s) (x y z : Int32) : Cm s t ns pJ (dm160 x y z s) := by
  unfold dm160 dm160_10 dm160_20
  rcases y54 h.2.2.1 x with e | ⟨b, e, e2, e3, e4⟩
  · rw [e]
    simp only [bu_some, vN_null]
    exact Cm.x h hl (Or.inr (Or.inl rfl)) (by decide)
  · rw [e]
    simp only [bu_some, vN_ref]
    obtain ⟨r, er⟩ := y161 b y s
    rw [if_pos e2, er]
    simp only [bu_some]
    split
    · exact Cm.x h hl (Or.inr (Or.inl rfl)) (by decide)
    · split
      · exact Cm.x h hl (Or.inr (Or.inr rfl)) (by decide)
      · rename_i c1
        split
        · rename_i c2
          have z1 : ¬ z.toInt < 0 := fun q => c1 (iLt.mpr q)
          have z2 : z.toInt < 9 := iLt.mp c2
          have ez : z = Int32.ofNat z.toInt.toNat := ofNat_of (by omega)
          obtain ⟨v, ev, -⟩ := y57 (h.2.2.2.1 b e2) y z.toInt.toNat (by omega)
          rw [← ez] at ev
          rw [ev]
          simp only [bu_some]
          exact Cm.v h (Or.inl ⟨v, rfl⟩)
        · exact Cm.x h hl (Or.inr (Or.inr rfl)) (by decide)
set_option maxRecDepth 100000 in
theorem y162 (h : CV s t ns) (hl : Ly tt (cCc xs) s) (x y z : Int32) : Cm s t ns pI (dm162 x y z s) := by
  unfold dm162 dm162_10
  rcases y54 h.2.2.1 x with e | ⟨b, e, e2, e3, e4⟩
  · rw [e]
    simp only [bu_some, vN_null]
    exact Cm.x h hl (Or.inr rfl) (by decide)
  · rw [e]
    simp only [bu_some, vN_ref]
    obtain ⟨r, er⟩ := y161 b y s
    rw [if_pos e2, er]
    simp only [bu_some]
    split
    · exact Cm.x h hl (Or.inr rfl) (by decide)
    · obtain ⟨v, ev⟩ := y144 (h.2.2.2.1 b e2) (by rw [(hl.tr e2).2.2.2.2.2.2.1]) y z
      rw [ev]
      simp only [bu_some]
      exact Cm.v h (Or.inl ⟨v, rfl⟩)
set_option maxRecDepth 100000 in
theorem y165c {b0 b1 : Nat} (h0 : TW s b0) (h1 : TW s b1) (hT0 : (sT s (b0 + 3)).2 = 256) (hT1 : (sT s (b1 + 3)).2 = 256) (x2 : Int32) : ∀ (m j n : Nat) (x3 : Int32), (x3 = 0 ∨ x3 = 1) → j + m = 257 → m < n → ∃ v, dm165_37 n b0 b1 x2 x3 (Int32.ofNat j) s = some v ∧ (v = 0 ∨ v = 1) := by
  obtain ⟨v, e, e9⟩ := y57 h0 x2 10 (by omega)
  have e : dm57 b0 x2 10 s = some v := e
  intro m
  induction m with
  | zero =>
    intro j n x3 h3 h4 h5
    obtain ⟨n, rfl⟩ : ∃ q, n = q + 1 := ⟨n - 1, by omega⟩
    have hj : j = 257 := by omega
    subst hj
    rw [dm165_37, e]
    simp only [bu_some]
    rw [if_pos (iLe.mpr (by rw [iOfNat (by omega)]; have := e9 rfl; omega)), if_pos h3]
    exact ⟨x3, rfl, h3⟩
  | succ m ih =>
    intro j n x3 h3 h4 h5
    obtain ⟨n, rfl⟩ : ∃ q, n = q + 1 := ⟨n - 1, by omega⟩
    obtain ⟨v1, q1⟩ := y144 h0 hT0 x2 (Int32.ofNat j)
    obtain ⟨v2, q2⟩ := y144 h1 hT1 x2 (Int32.ofNat j)
    rw [dm165_37, e]
    simp only [bu_some]
    split
    · exact ⟨x3, rfl, h3⟩
    · split
      · exact ⟨x3, rfl, h3⟩
      · rw [q1]
        simp only [bu_some]
        rw [q2]
        simp only [bu_some]
        unfold dm165_57
        rw [ofNat_succ (by omega)]
        split
        · exact ih (j + 1) n 1 (Or.inr rfl) (by omega) (by omega)
        · exact ih (j + 1) n 0 (Or.inl rfl) (by omega) (by omega)
set_option maxRecDepth 100000 in
theorem y165 {b0 b1 : Nat} (h0 : TW s b0) (h1 : TW s b1) (hT0 : (sT s (b0 + 3)).2 = 256) (hT1 : (sT s (b1 + 3)).2 = 256) (x2 : Int32) : ∃ v, dm165 b0 b1 x2 s = some v ∧ (v = 0 ∨ v = 1) := by
  have f35 : ∀ x3, (x3 = 0 ∨ x3 = 1) → ∃ v, dm165_35 b0 b1 x2 x3 s = some v ∧ (v = 0 ∨ v = 1) := fun x3 h3 => y165c h0 h1 hT0 hT1 x2 257 0 5000 x3 h3 (by omega) (by omega)
  have loop : ∀ (m j n : Nat) (x3 : Int32), (x3 = 0 ∨ x3 = 1) → j + m = 9 → m < n → ∃ v, dm165_15 n b0 b1 x2 x3 (Int32.ofNat j) s = some v ∧ (v = 0 ∨ v = 1) := by
    intro m
    induction m with
    | zero =>
      intro j n x3 h3 h4 h5
      obtain ⟨n, rfl⟩ : ∃ q, n = q + 1 := ⟨n - 1, by omega⟩
      have hj : j = 9 := by omega
      subst hj
      rw [dm165_15, if_pos (by decide)]
      exact f35 x3 h3
    | succ m ih =>
      intro j n x3 h3 h4 h5
      obtain ⟨n, rfl⟩ : ∃ q, n = q + 1 := ⟨n - 1, by omega⟩
      obtain ⟨v1, q1, -⟩ := y57 h0 x2 j (by omega)
      obtain ⟨v2, q2, -⟩ := y57 h1 x2 j (by omega)
      rw [dm165_15]
      split
      · exact f35 x3 h3
      · split
        · exact f35 x3 h3
        · rw [q1]
          simp only [bu_some]
          rw [q2]
          simp only [bu_some]
          unfold dm165_32
          rw [ofNat_succ (by omega)]
          split
          · exact ih (j + 1) n 1 (Or.inr rfl) (by omega) (by omega)
          · exact ih (j + 1) n 0 (Or.inl rfl) (by omega) (by omega)
  have f12 : ∀ x3, (x3 = 0 ∨ x3 = 1) → ∃ v, dm165_12 b0 b1 x2 x3 s = some v ∧ (v = 0 ∨ v = 1) := fun x3 h3 => loop 9 0 5000 x3 h3 (by omega) (by omega)
  obtain ⟨v1, q1, -⟩ := y57 h0 x2 10 (by omega)
  obtain ⟨v2, q2, -⟩ := y57 h1 x2 10 (by omega)
  have q1 : dm57 b0 x2 10 s = some v1 := q1
  have q2 : dm57 b1 x2 10 s = some v2 := q2
  unfold dm165
  rw [q1]
  simp only [bu_some]
  rw [q2]
  simp only [bu_some]
  split
  · exact f12 1 (Or.inr rfl)
  · exact f12 0 (Or.inl rfl)
set_option maxRecDepth 100000 in
theorem y164 {b0 b1 : Nat} (h0 : TW s b0) (h1 : TW s b1) (hT0 : (sT s (b0 + 3)).2 = 256) (hT1 : (sT s (b1 + 3)).2 = 256) : ∃ v, dm164 b0 b1 s = some v ∧ (v = 0 ∨ v = 1) := by
  have h00 := h0
  obtain ⟨N, u, a1, a2, -⟩ := h00
  have loop : ∀ (m j n : Nat) (x3 : Int32), (x3 = 0 ∨ x3 = 1) → j + m = N → m < n → ∃ v, dm164_11 n b0 b1 x3 (Int32.ofNat j) s = some v ∧ (v = 0 ∨ v = 1) := by
    intro m
    induction m with
    | zero =>
      intro j n x3 h3 h4 h5
      obtain ⟨n, rfl⟩ : ∃ q, n = q + 1 := ⟨n - 1, by omega⟩
      rw [dm164_11, a2, if_pos ((nle_iff (by omega) (by omega)).mpr (by omega)), if_pos h3]
      exact ⟨x3, rfl, h3⟩
    | succ m ih =>
      intro j n x3 h3 h4 h5
      obtain ⟨n, rfl⟩ : ∃ q, n = q + 1 := ⟨n - 1, by omega⟩
      obtain ⟨v, q1, q2⟩ := y165 h0 h1 hT0 hT1 (Int32.ofNat j)
      rw [dm164_11]
      split
      · exact ⟨x3, rfl, h3⟩
      · split
        · exact ⟨x3, rfl, h3⟩
        · rw [q1]
          simp only [bu_some]
          rw [ofNat_succ (by omega)]
          exact ih (j + 1) n v q2 (by omega) (by omega)
  have f8 : ∀ x3, (x3 = 0 ∨ x3 = 1) → ∃ v, dm164_8 b0 b1 x3 s = some v ∧ (v = 0 ∨ v = 1) := fun x3 h3 => loop N 0 5000 x3 h3 (by omega) (by omega)
  unfold dm164
  split
  · exact f8 1 (Or.inr rfl)
  · exact f8 0 (Or.inl rfl)
set_option maxRecDepth 100000 in
theorem y163 (h : CV s t ns) (hl : Ly tt (cCc xs) s) (x y : Int32) : Cm s t ns pI (dm163 x y s) := by
  unfold dm163 dm163_12
  rcases y54 h.2.2.1 x with e | ⟨b, e, e2, e3, e4⟩
  · rw [e]
    simp only [bu_some, vN_null]
    rcases y54 h.2.2.1 y with f | ⟨c, f, f2, f3, f4⟩
    · rw [f]
      simp only [bu_some, vN_null]
      exact Cm.x h hl (Or.inr rfl) (by decide)
    · rw [f]
      simp only [bu_some, vN_ref]
      rw [if_pos f2]
      exact Cm.x h hl (Or.inr rfl) (by decide)
  · rw [e]
    simp only [bu_some, vN_ref]
    rw [if_pos e2]
    rcases y54 h.2.2.1 y with f | ⟨c, f, f2, f3, f4⟩
    · rw [f]
      simp only [bu_some, vN_null]
      exact Cm.x h hl (Or.inr rfl) (by decide)
    · rw [f]
      simp only [bu_some, vN_ref]
      obtain ⟨v, ev, hv⟩ := y164 (h.2.2.2.1 b e2) (h.2.2.2.1 c f2) (by rw [(hl.tr e2).2.2.2.2.2.2.1]) (by rw [(hl.tr f2).2.2.2.2.2.2.1])
      rw [if_pos f2, ev]
      simp only [bu_some]
      rw [if_pos hv]
      exact Cm.v h (Or.inl ⟨v, rfl⟩)
set_option maxRecDepth 100000 in
theorem y168 (s : aS) : ∃ v, dm168 s = some v := by
  have loop : ∀ (m j n : Nat) (x : Int32), j + m = 8 → m < n → ∃ v, dm168_4 n x (Int32.ofNat j) s = some v := by
    intro m
    induction m with
    | zero =>
      intro j n x h4 h5
      obtain ⟨n, rfl⟩ : ∃ q, n = q + 1 := ⟨n - 1, by omega⟩
      have hj : j = 8 := by omega
      subst hj
      rw [dm168_4, if_pos (by decide)]
      exact ⟨x, rfl⟩
    | succ m ih =>
      intro j n x h4 h5
      obtain ⟨n, rfl⟩ : ∃ q, n = q + 1 := ⟨n - 1, by omega⟩
      rw [dm168_4]
      split
      · exact ⟨x, rfl⟩
      · rw [if_pos (aB_of (by omega) (by omega))]
        unfold dm168_19
        rw [ofNat_succ (by omega)]
        split
        · exact ih (j + 1) n _ (by omega) (by omega)
        · exact ih (j + 1) n _ (by omega) (by omega)
  exact loop 8 0 5000 0 (by omega) (by omega)
set_option maxRecDepth 100000 in
theorem y166 (h : CV s t ns) (hl : Ly tt (cCc xs) s) (x : Int32) : Cm s t ns pC (dm166 x s) := by
  unfold dm166 dm166_5
  split
  · exact Cm.x h hl (Or.inr rfl) (by decide)
  · rename_i c1
    split
    · rename_i c2
      split
      · unfold dm167
        simp only [bu_some]
        exact Cm.v h (Or.inl ⟨_, rfl⟩)
      · rename_i c3
        split
        · obtain ⟨v, ev⟩ := y168 s
          rw [ev]
          simp only [bu_some]
          exact Cm.v h (Or.inl ⟨_, rfl⟩)
        · rename_i c4
          have z1 : ¬ x.toInt < 0 := fun q => c1 (iLt.mpr q)
          have z2 : x.toInt ≤ 9 := iLe.mp c2
          have z3 : x.toInt ≠ 0 := fun q => c3 (iEq.mpr q)
          have z4 : x.toInt ≠ 1 := fun q => c4 (iEq.mpr q)
          have e2 : (2 : Int32).toInt = 2 := rfl
          rw [if_pos (by rw [aB_iff, iSub (by rw [e2]; omega) (by rw [e2]; omega), e2]; omega)]
          exact Cm.v h (Or.inl ⟨_, rfl⟩)
    · exact Cm.x h hl (Or.inr rfl) (by decide)
set_option maxRecDepth 100000 in
theorem y169 (h : CV s t ns) (hl : Ly tt (cCc xs) s) (x y : Int32) : Cm s t ns pI (dm169 x y s) := by
  rcases d169 h.2.1.1.1 (RC.ly hl) h.2.1.2 x y with ⟨-, e⟩ | ⟨-, e⟩
  · rw [e]
    exact Cm.x h hl (Or.inr rfl) (by decide)
  · rw [e]
    exact Cm.v h (Or.inl ⟨_, rfl⟩)
end CVs
