/-! the writer of FormulaTrees: a child more; the end of a node -/
set_option maxRecDepth 100000 in
theorem k85 : ∀ k ∈ List.range 23, dm85 (Int32.ofNat k) = some (rkM (Int32.ofNat k)) := by decide
set_option maxRecDepth 100000 in
theorem kd_n {d : Nd} (h : arOk d) : ∃ k, k < 23 ∧ d 0 = Int32.ofNat k ∧ (d 0).toInt.toNat = k := ⟨(d 0).toInt.toNat, by have := h.1; omega, ofNat_of h.1.1, rfl⟩
set_option maxRecDepth 100000 in
theorem x85k {d : Nd} (h : arOk d) : dm85 (d 0) = some (rkM (d 0)) := by
  obtain ⟨k, h1, h2, -⟩ := kd_n h
  rw [h2]
  exact k85 k (List.mem_range.mpr h1)
set_option maxRecDepth 100000 in
theorem k157 {k : Nat} (h1 : 11 ≤ k) (h2 : k < 23) : dm157 (Int32.ofNat k) = some (.ref (25 + 2 * k)) := by
  match k, h2, h1 with
  | 11, _, _ => rfl
  | 12, _, _ => rfl
  | 13, _, _ => rfl
  | 14, _, _ => rfl
  | 15, _, _ => rfl
  | 16, _, _ => rfl
  | 17, _, _ => rfl
  | 18, _, _ => rfl
  | 19, _, _ => rfl
  | 20, _, _ => rfl
  | 21, _, _ => rfl
  | 22, _, _ => rfl
  | j + 23, h9, _ => exact absurd h9 (by omega)
set_option maxRecDepth 100000 in
theorem opT_p : ∀ e ∈ List.range 23, (opT e).length ≤ 2 ∧ ∀ x ∈ opT e, 0 ≤ x.toInt ∧ x.toInt ≤ 127 := by decide
/-- what stands before child j -/
def sepT (d : Nd) (j : Nat) : List Int32 := if j = 0 then [] else if d 0 = 7 then [44] else opT (d 0).toInt.toNat
/-- child j, of kind kd, stands in brackets -/
def brB (d : Nd) (kd : Int32) (j : Nat) : Prop := ¬ d 0 = 7 ∧ (rkM kd < rkM (d 0) ∨ (rkM kd = rkM (d 0) ∧ ¬ j = 0))
def clT (d : Nd) : List Int32 := if d 0 = 9 then [37] else if d 0 = 7 then [41] else []
section CW
variable {s : aS} {b : Nat} {ns : List (List Int32)} {L : List (Nd × List Int32)} {n c : Nd × List Int32} {i j p : Nat} {S : List (Nat × Nat × Int32)} {br : Int32}
set_option maxRecDepth 100000 in
theorem x158 {d : Nd} (h : FE s b ns L) (hp : L[p]? = some c) (h6 : sI s 117 6 = Int32.ofNat p) (hd : arOk d) (hc : arOk c.1) (hj : j < 1000) : dm158 (d 0) (Int32.ofNat j) s = some (b01 (brB d (c.1 0) j)) := by
  unfold dm158 dm158_24
  by_cases c7 : d 0 = 7
  · rw [if_pos c7, b01_f (fun z => z.1 c7)]
  · rw [if_neg c7, x85k hd]
    simp only [bu_some]
    rw [h.1.1, vN_ref, if_pos h.1.2.1, h6, show dm57 b (Int32.ofNat p) 0 s = some (c.1 0) from f57 (w := 0) h hp (by omega)]
    simp only [bu_some]
    rw [x85k hc]
    simp only [bu_some]
    by_cases q1 : rkM (c.1 0) < rkM (d 0)
    · rw [if_pos q1, b01_t ⟨c7, Or.inl q1⟩]
    · rw [if_neg q1]
      by_cases q2 : rkM (c.1 0) = rkM (d 0)
      · rw [if_pos q2]
        by_cases q3 : j = 0
        · rw [if_pos (by rw [q3]; decide), b01_f (fun z => z.2.elim q1 (fun y => y.2 q3))]
        · rw [if_neg (fun z => q3 (by have := (nle_iff (b := 0) (by omega) (by omega)).mp z; omega)), b01_t ⟨c7, Or.inr ⟨q2, q3⟩⟩]
      · rw [if_neg q2, b01_f (fun z => z.2.elim q1 (fun y => q2 y.1))]
set_option maxRecDepth 100000 in
/-- a child more -/
theorem x155p (h : FE s b ns L) (hn : L[i]? = some n) (hp : L[p]? = some c) (hd : arOk n.1) (hc : arOk c.1) (hC : Cf s ((i, j, br) :: S) p 0) (hj : j < arN n.1) : ∃ s1, dm155 (Int32.ofNat i) (Int32.ofNat j) s = some s1 ∧ ch wrC s s1 ∧ Cf s1 ((p, 0, b01 (brB n.1 (c.1 0) j)) :: (i, j + 1, br) :: S) (p + 1) 1 ∧ ∀ l k, WC s l k → l.length + (sepT n.1 j).length + 1 < 900000 → WC s1 (l ++ (sepT n.1 j ++ (if b01 (brB n.1 (c.1 0) j) = 0 then [] else [40]))) k := by
  have ar8 := hd.2.2.2.2
  have hj8 : j < 128 := by
    unfold arN at hj
    omega
  have hk : n.1 1 = Int32.ofNat (arN n.1) := ofNat_of ar8.1
  have hk9 : arN n.1 ≤ 128 := by
    unfold arN
    omega
  have hp8 : p < 128 := by
    have := fe_i hp
    have := h.2.2.1.2.1
    omega
  have f28 : ∀ s, FE s b ns L → Cf s ((i, j, br) :: S) p 0 → ∃ s1, dm155_28 (Int32.ofNat j) (n.1 0) s = some s1 ∧ ch wrC s s1 ∧ Cf s1 ((p, 0, b01 (brB n.1 (c.1 0) j)) :: (i, j + 1, br) :: S) (p + 1) 1 ∧ ∀ l k, WC s l k → l.length + 1 < 900000 → WC s1 (l ++ (if b01 (brB n.1 (c.1 0) j) = 0 then [] else [40])) k := by
    intro s h hC
    unfold dm155_28
    rw [x158 h hp hC.2.1 hd hc (by omega)]
    simp only [bu_some]
    obtain ⟨s1, e1, e2, e3, e4⟩ := x140 hC hp8 (b01_01 (brB n.1 (c.1 0) j)) (fun q S0 e => by
      cases e
      show j < 1000
      omega)
    rw [e1]
    exact ⟨s1, rfl, e3, e2, e4⟩
  have f27 : ∀ (a : Nat) (u : List Int32), a + 1 < 78 → ST s a u → u.length ≤ 100 → (∀ x ∈ u, 0 ≤ x.toInt ∧ x.toInt ≤ 127) → ∃ s1, dm155_27 (Int32.ofNat j) (n.1 0) a s = some s1 ∧ ch wrC s s1 ∧ Cf s1 ((p, 0, b01 (brB n.1 (c.1 0) j)) :: (i, j + 1, br) :: S) (p + 1) 1 ∧ ∀ l k, WC s l k → l.length + u.length + 1 < 900000 → WC s1 (l ++ (u ++ (if b01 (brB n.1 (c.1 0) j) = 0 then [] else [40]))) k := by
    intro a u ha hs hl hu
    unfold dm155_27
    obtain ⟨s0, d1, d2, d3⟩ := x147 ha hs hl hu
    rw [d1]
    simp only [bu_some]
    obtain ⟨s1, e1, e3, e2, e4⟩ := f28 s0 (h.d d2) (hC.d d2)
    exact ⟨s1, e1, (dc d2).trans e3, e2, fun l k hw hn => by
      rw [← List.append_assoc]
      exact e4 _ k (d3 l k hw (by omega)) (by rw [List.length_append]; omega)⟩
  unfold dm155
  rw [h.1.1, vN_ref, if_pos h.1.2.1, show dm57 b (Int32.ofNat i) 0 s = some (n.1 0) from f57 (w := 0) h hn (by omega)]
  simp only [bu_some, vN_ref]
  rw [if_pos h.1.2.1, show dm57 b (Int32.ofNat i) 1 s = some (n.1 1) from f57 (w := 1) h hn (by omega)]
  simp only [bu_some]
  rw [hk, if_pos ((nlt_iff (by omega) (by omega)).mpr hj)]
  unfold sepT
  by_cases j0 : j = 0
  · rw [if_pos (show Int32.ofNat j ≤ 0 by rw [j0]; decide), if_pos j0]
    obtain ⟨s1, e1, e3, e2, e4⟩ := f28 s h hC
    exact ⟨s1, e1, e3, e2, fun l k hw hn => e4 l k hw (by omega)⟩
  · rw [if_neg (show ¬ Int32.ofNat j ≤ 0 from fun z => j0 (by have := (nle_iff (b := 0) (by omega) (by omega)).mp z; omega)), if_neg j0]
    by_cases c7 : n.1 0 = 7
    · rw [if_pos c7, if_pos c7]
      exact f27 45 [44] (by decide) h.2.2.2.2.1.2.2 (by decide) (by decide)
    · rw [if_neg c7, if_neg c7]
      obtain ⟨k, k1, k2, k3⟩ := kd_n hd
      have k11 : 11 ≤ k := by
        have h9 : ¬ (n.1 0 = 9 ∨ n.1 0 = 10) := fun z => by
          have e := hd.2.1 z
          unfold arN at hj
          rw [e] at hj
          have t1 : (1 : Int32).toInt = 1 := rfl
          omega
        have h0 : n.1 0 = 7 ∨ n.1 0 = 9 ∨ n.1 0 = 10 ∨ 11 ≤ (n.1 0).toInt := Classical.byContradiction fun z => by
          have e := hd.2.2.2.1 z
          unfold arN at hj
          rw [e] at hj
          have t0 : (0 : Int32).toInt = 0 := rfl
          omega
        rcases h0 with z | z | z | z
        · exact absurd z c7
        · exact absurd (Or.inl z) h9
        · exact absurd (Or.inr z) h9
        · omega
      have hs := h.2.2.2.2.2 k k11 (by omega)
      have ho := opT_p k (List.mem_range.mpr k1)
      rw [k3, show dm157 (n.1 0) = some (.ref (25 + 2 * k)) by rw [k2]; exact k157 k11 k1]
      simp only [bu_some]
      show ∃ s1, (if aK s (25 + 2 * k) 70 then dm155_27 (Int32.ofNat j) (n.1 0) (25 + 2 * k) s else none) = some s1 ∧ _
      rw [if_pos hs.2]
      exact f27 (25 + 2 * k) (opT k) (by omega) hs.1 (by have := ho.1; omega) ho.2
set_option maxRecDepth 100000 in
/-- the end of a node -/
theorem x155c (h : FE s b ns L) (hn : L[i]? = some n) (hd : arOk n.1) (hC : Cf s ((i, j, br) :: S) p 0) (hb : br = 0 ∨ br = 1) (hj : arN n.1 ≤ j) (hj8 : j < 1000) : ∃ s1, dm155 (Int32.ofNat i) (Int32.ofNat j) s = some s1 ∧ ch wrC s s1 ∧ Cf s1 S p 0 ∧ ∀ l k, WC s l k → l.length + (clT n.1).length + 1 < 900000 → WC s1 (l ++ (clT n.1 ++ (if br = 0 then [] else [41]))) k := by
  have hk : n.1 1 = Int32.ofNat (arN n.1) := ofNat_of hd.2.2.2.2.1
  have one : ∀ x : Int32, ∃ s1, (bu (dm141 x s) fun s4 => dm156_13 s4) = some s1 ∧ ch wrC s s1 ∧ Cf s1 S p 0 ∧ ∀ l k, WC s l k → l.length + 1 + 1 < 900000 → WC s1 (l ++ ([x] ++ (if br = 0 then [] else [41]))) k := by
    intro x
    obtain ⟨s0, d1, d2, d3⟩ := x141 x s
    rw [d1]
    simp only [bu_some]
    obtain ⟨s1, e1, e2, e3, e4⟩ := x156a (hC.d d2) hb
    exact ⟨s1, e1, (dc d2).trans e3, e2, fun l k hw hn => by
      rw [← List.append_assoc]
      exact e4 _ k (d3 l k hw (by show l.length + 1 < 900000; omega)) (by rw [List.length_append]; show l.length + 1 + 1 < 900000; omega)⟩
  have f156 : ∃ s1, dm156 (n.1 0) s = some s1 ∧ ch wrC s s1 ∧ Cf s1 S p 0 ∧ ∀ l k, WC s l k → l.length + (clT n.1).length + 1 < 900000 → WC s1 (l ++ (clT n.1 ++ (if br = 0 then [] else [41]))) k := by
    unfold dm156 clT
    by_cases c9 : n.1 0 = 9
    · rw [if_pos c9, if_pos c9]
      exact one 37
    · rw [if_neg c9, if_neg c9]
      by_cases c7 : n.1 0 = 7
      · rw [if_pos c7, if_pos c7]
        exact one 41
      · rw [if_neg c7, if_neg c7]
        obtain ⟨s1, e1, e2, e3, e4⟩ := x156a hC hb
        exact ⟨s1, e1, e3, e2, fun l k hw hn => e4 l k hw (by omega)⟩
  unfold dm155
  rw [h.1.1, vN_ref, if_pos h.1.2.1, show dm57 b (Int32.ofNat i) 0 s = some (n.1 0) from f57 (w := 0) h hn (by omega)]
  simp only [bu_some, vN_ref]
  rw [if_pos h.1.2.1, show dm57 b (Int32.ofNat i) 1 s = some (n.1 1) from f57 (w := 1) h hn (by omega)]
  simp only [bu_some]
  rw [hk, if_neg (fun z => by have := (nlt_iff (by omega) (by omega)).mp z; omega)]
  obtain ⟨s1, e1, e2⟩ := f156
  rw [e1]
  exact ⟨s1, rfl, e2⟩
end CW
