/-! a node as FormulaTrees opens it -/
def opT (e : Nat) : List Int32 := if e = 11 then [94] else if e = 12 then [42] else if e = 13 then [47] else if e = 14 then [43] else if e = 15 then [45] else if e = 16 then [38] else if e = 17 then [61] else if e = 18 then [60, 62] else if e = 19 then [60] else if e = 20 then [62] else if e = 21 then [60, 61] else [62, 61]
/-- texts that are written as they are -/
def LWs (s : aS) : Prop := (∀ e, 1 ≤ e → e < 8 → ST s (19 + 2 * e) (erN e) ∧ aK s (19 + 2 * e) 70) ∧ (ST s 41 trL ∧ ST s 43 faL ∧ ST s 45 [44]) ∧ ∀ e, 11 ≤ e → e ≤ 22 → ST s (25 + 2 * e) (opT e) ∧ aK s (25 + 2 * e) 70
set_option maxRecDepth 100000 in
theorem LWs.ly {tt : Nat} {xs : List Int32} {s : aS} (h : Ly tt (cCc xs) s) : LWs s := by
  refine ⟨ES.ly h, ⟨ST.ly h 20 (by decide), ST.ly h 21 (by decide), ST.ly h 22 (by decide)⟩, fun e h1 h2 => ?_⟩
  match e, h1, h2 with
  | 11, _, _ => exact ⟨ST.ly h 23 (by decide), Lay.lowK h (by decide) (by decide)⟩
  | 12, _, _ => exact ⟨ST.ly h 24 (by decide), Lay.lowK h (by decide) (by decide)⟩
  | 13, _, _ => exact ⟨ST.ly h 25 (by decide), Lay.lowK h (by decide) (by decide)⟩
  | 14, _, _ => exact ⟨ST.ly h 26 (by decide), Lay.lowK h (by decide) (by decide)⟩
  | 15, _, _ => exact ⟨ST.ly h 27 (by decide), Lay.lowK h (by decide) (by decide)⟩
  | 16, _, _ => exact ⟨ST.ly h 28 (by decide), Lay.lowK h (by decide) (by decide)⟩
  | 17, _, _ => exact ⟨ST.ly h 29 (by decide), Lay.lowK h (by decide) (by decide)⟩
  | 18, _, _ => exact ⟨ST.ly h 30 (by decide), Lay.lowK h (by decide) (by decide)⟩
  | 19, _, _ => exact ⟨ST.ly h 31 (by decide), Lay.lowK h (by decide) (by decide)⟩
  | 20, _, _ => exact ⟨ST.ly h 32 (by decide), Lay.lowK h (by decide) (by decide)⟩
  | 21, _, _ => exact ⟨ST.ly h 33 (by decide), Lay.lowK h (by decide) (by decide)⟩
  | 22, _, _ => exact ⟨ST.ly h 34 (by decide), Lay.lowK h (by decide) (by decide)⟩
  | k + 23, _, h9 => exact absurd h9 (by omega)
set_option maxRecDepth 100000 in
theorem LWs.of {A : Nat → Nat → Prop} {s s1 : aS} (h : LWs s) (g : ch A s s1) (hA : ∀ a k, A a k → 78 ≤ a) : LWs s1 := ⟨fun e h1 h2 => ⟨(h.1 e h1 h2).1.of (by omega) g hA, g.k.mpr (h.1 e h1 h2).2⟩, ⟨h.2.1.1.of (by decide) g hA, h.2.1.2.1.of (by decide) g hA, h.2.1.2.2.of (by decide) g hA⟩, fun e h1 h2 => ⟨(h.2.2 e h1 h2).1.of (by omega) g hA, g.k.mpr (h.2.2 e h1 h2).2⟩⟩
/-- what the writer rests on -/
def FE (s : aS) (b : Nat) (ns : List (List Int32)) (L : List (Nd × List Int32)) : Prop := FS s b ns ∧ (∀ k (_ : k < ns.length), sI s 83 k = b01 (qtP ns[k])) ∧ (sI s b 2 = Int32.ofNat L.length ∧ L.length ≤ 128 ∧ ∃ u, TL s b u ∧ ∀ i n, L[i]? = some n → CR s b i n.1 ∧ NL s b i u n.2) ∧ LWs s
section CW
variable {s s1 : aS} {b : Nat} {ns : List (List Int32)} {L : List (Nd × List Int32)} {n : Nd × List Int32} {i : Nat}
set_option maxRecDepth 100000 in
theorem FE.of (h : FE s b ns L) (g : ch wrC s s1) : FE s1 b ns L := by
  obtain ⟨h1, h2, ⟨a1, a2, u, a3, a4⟩, h4⟩ := h
  have hb := h1.2.2.1
  have h8 := h1.2.2.2.2.2.2.1.1
  exact ⟨h1.of g, fun k hk => (g.i (by unfold wrC; omega)).trans (h2 k hk), ⟨(g.i (by unfold wrC; omega)).trans a1, a2, u, a3.of g (by unfold wrC; omega) (fun k => by unfold wrC; omega), fun i n q => by
    obtain ⟨r, st, e1, e2, e3⟩ := a4 i n q
    exact ⟨fun w hw => (g.i (by unfold wrC; omega)).trans (r w hw), st, (g.i (by unfold wrC; omega)).trans e1, (g.i (by unfold wrC; omega)).trans e2, e3⟩⟩, h4.of g (fun a k z => by unfold wrC at z; omega)⟩
set_option maxRecDepth 100000 in
theorem FE.d (h : FE s b ns L) (g : ch wrD s s1) : FE s1 b ns L := h.of (dc g)
set_option maxRecDepth 100000 in
theorem fe_i (hn : L[i]? = some n) : i < L.length := (List.getElem?_eq_some_iff.mp hn).1
set_option maxRecDepth 100000 in
theorem f57 (h : FE s b ns L) (hn : L[i]? = some n) {w : Nat} (hw : w < 9) : dm57 b (Int32.ofNat i) (Int32.ofNat w) s = some (n.1 w) := by
  obtain ⟨-, -, ⟨a1, a2, u, a3, a4⟩, -⟩ := h
  rw [d57 a1 a2 (fe_i hn) (by omega), (a4 i n hn).1 w hw]
set_option maxRecDepth 100000 in
theorem f57t (h : FE s b ns L) (hn : L[i]? = some n) : dm57 b (Int32.ofNat i) 10 s = some (Int32.ofNat n.2.length) ∧ n.2.length ≤ 256 := by
  obtain ⟨-, -, ⟨a1, a2, u, a3, a4⟩, -⟩ := h
  obtain ⟨-, st, e1, e2, e3, -⟩ := a4 i n hn
  have := d57 (w := 10) a1 a2 (fe_i hn) (by omega)
  rw [e2] at this
  exact ⟨this, by have := a3.2.1; omega⟩
set_option maxRecDepth 100000 in
theorem f144 (h : FE s b ns L) (hn : L[i]? = some n) {j : Nat} (hj : j < n.2.length) : dm144 b (Int32.ofNat i) (Int32.ofNat j) s = some n.2[j] := by
  have hl := (f57t h hn).2
  obtain ⟨h1, -, ⟨a1, a2, u, a3, a4⟩, -⟩ := h
  have ej : (Int32.ofNat j).toInt = j := iOfNat (by omega)
  rw [d144 a1 a2 (fe_i hn) a3 h1.2.2.2.2.1 (a4 i n hn).2, if_neg (by omega), ej, show ((j : Int)).toNat = j by omega, getD_in hj]
set_option maxRecDepth 100000 in
theorem x143 (h : FE s b ns L) (hn : L[i]? = some n) : Ec n.2 (dm143 (Int32.ofNat i) s) s := by
  have loop : ∀ (m j k : Nat) (s : aS), FE s b ns L → j + m = n.2.length → m < k → Ec (n.2.drop j) (dm143_2 k (Int32.ofNat i) (Int32.ofNat j) s) s := by
    intro m
    induction m with
    | zero =>
      intro j k s h h1 h2
      obtain ⟨k, rfl⟩ : ∃ q, k = q + 1 := ⟨k - 1, by omega⟩
      obtain ⟨e, hl⟩ := f57t h hn
      rw [dm143_2, h.1.1, vN_ref, if_pos h.1.2.1, e]
      simp only [bu_some]
      rw [if_pos ((nle_iff (by omega) (by omega)).mpr (by omega)), List.drop_eq_nil_of_le (by omega)]
      exact Ec.n s
    | succ m ih =>
      intro j k s h h1 h2
      obtain ⟨k, rfl⟩ : ∃ q, k = q + 1 := ⟨k - 1, by omega⟩
      obtain ⟨e, hl⟩ := f57t h hn
      have hj : j < n.2.length := by omega
      rw [dm143_2, h.1.1, vN_ref, if_pos h.1.2.1, e]
      simp only [bu_some, vN_ref]
      rw [if_neg (fun z => by have := (nle_iff (by omega) (by omega)).mp z; omega), if_pos h.1.2.1, f144 h hn hj]
      simp only [bu_some]
      rw [List.drop_eq_getElem_cons hj]
      refine Ec.b (w1 := [n.2[j]]) (w2 := n.2.drop (j + 1)) (x141 _ s) fun s1 c1 => ?_
      rw [ofNat_succ (by omega)]
      exact ih (j + 1) k s1 (h.d c1) (by omega) (by omega)
  have hl := (f57t h hn).2
  have := loop n.2.length 0 5000 s h (by omega) (by omega)
  rw [List.drop_zero] at this
  exact this
set_option maxRecDepth 100000 in
theorem x145 (h : FE s b ns L) (hn : L[i]? = some n) : Ec ([34] ++ (dbq 34 n.2 ++ [34])) (dm145 (Int32.ofNat i) s) s := by
  have loop : ∀ (m j k : Nat) (s : aS), FE s b ns L → j + m = n.2.length → m < k → Ec (dbq 34 (n.2.drop j) ++ [34]) (dm145_5 k (Int32.ofNat i) (Int32.ofNat j) s) s := by
    intro m
    induction m with
    | zero =>
      intro j k s h h1 h2
      obtain ⟨k, rfl⟩ : ∃ q, k = q + 1 := ⟨k - 1, by omega⟩
      obtain ⟨e, hl⟩ := f57t h hn
      rw [dm145_5, h.1.1, vN_ref, if_pos h.1.2.1, e]
      simp only [bu_some]
      rw [if_pos ((nle_iff (by omega) (by omega)).mpr (by omega)), List.drop_eq_nil_of_le (by omega)]
      exact (x141 34 s).o
    | succ m ih =>
      intro j k s h h1 h2
      obtain ⟨k, rfl⟩ : ∃ q, k = q + 1 := ⟨k - 1, by omega⟩
      obtain ⟨e, hl⟩ := f57t h hn
      have hj : j < n.2.length := by omega
      rw [dm145_5, h.1.1, vN_ref, if_pos h.1.2.1, e]
      simp only [bu_some, vN_ref]
      rw [if_neg (fun z => by have := (nle_iff (by omega) (by omega)).mp z; omega), if_pos h.1.2.1, f144 h hn hj]
      simp only [bu_some]
      rw [List.drop_eq_getElem_cons hj]
      show Ec ((dq1 n.2[j] 34 ++ dbq 34 (n.2.drop (j + 1))) ++ [34]) _ _
      rw [List.append_assoc]
      refine (x146 _ 34 s).b fun s1 c1 => ?_
      rw [ofNat_succ (by omega)]
      exact ih (j + 1) k s1 (h.d c1) (by omega) (by omega)
  have hl := (f57t h hn).2
  unfold dm145
  refine (x141 34 s).b fun s1 c1 => ?_
  have := loop n.2.length 0 5000 s1 (h.d c1) (by omega) (by omega)
  rw [List.drop_zero] at this
  exact this
set_option maxRecDepth 100000 in
theorem x147 {a : Nat} {u : List Int32} (ha : a + 1 < 78) (h : ST s a u) (hl : u.length ≤ 100) (hu : ∀ x ∈ u, 0 ≤ x.toInt ∧ x.toInt ≤ 127) : Ec u (dm147 a s) s := by
  have loop : ∀ (m j k : Nat) (s : aS), ST s a u → j + m = u.length → m < k → Ec (u.drop j) (dm147_2 k a (Int32.ofNat j) s) s := by
    intro m
    induction m with
    | zero =>
      intro j k s h h1 h2
      obtain ⟨k, rfl⟩ : ∃ q, k = q + 1 := ⟨k - 1, by omega⟩
      rw [dm147_2, d254 h (by omega)]
      simp only [bu_some]
      rw [if_pos ((nle_iff (by omega) (by omega)).mpr (by omega)), List.drop_eq_nil_of_le (by omega)]
      exact Ec.n s
    | succ m ih =>
      intro j k s h h1 h2
      obtain ⟨k, rfl⟩ : ∃ q, k = q + 1 := ⟨k - 1, by omega⟩
      have hj : j < u.length := by omega
      rw [dm147_2, d254 h (by omega)]
      simp only [bu_some]
      rw [if_neg (fun z => by have := (nle_iff (by omega) (by omega)).mp z; omega), d259 h (by omega) hj (hu _ (List.getElem_mem hj))]
      simp only [bv_some]
      rw [List.drop_eq_getElem_cons hj]
      refine Ec.b (w1 := [u[j]]) (w2 := u.drop (j + 1)) (x141 _ s) fun s1 c1 => ?_
      rw [ofNat_succ (by omega)]
      exact ih (j + 1) k s1 (h.of ha c1 (fun a k z => by unfold wrD at z; omega)) (by omega) (by omega)
  have := loop u.length 0 5000 s h (by omega) (by omega)
  rw [List.drop_zero] at this
  exact this
set_option maxRecDepth 100000 in
/-- a cell or a range -/
noncomputable def rfT (ns : List (List Int32)) (d : Nd) : List Int32 := pfx ns (d 2) ++ (crC (d 3) (d 4) (d 7) ++ (if d 0 = 5 then [58] ++ crC (d 5) (d 6) (d 7 / 4) else []))
set_option maxRecDepth 100000 in
theorem x148 (h : FE s b ns L) (hn : L[i]? = some n) (h2 : -1 ≤ (n.1 2).toInt ∧ (n.1 2).toInt < ns.length) : Ec (rfT ns n.1) (dm148 (Int32.ofNat i) s) s := by
  have F : ∀ (s : aS) (w : Nat), FE s b ns L → w < 9 → dm57 b (Int32.ofNat i) (Int32.ofNat w) s = some (n.1 w) := fun s w h hw => f57 h hn hw
  have f18 : ∀ s, FE s b ns L → Ec (crC (n.1 3) (n.1 4) (n.1 7) ++ (if n.1 0 = 5 then [58] ++ crC (n.1 5) (n.1 6) (n.1 7 / 4) else [])) (dm148_18 (Int32.ofNat i) (n.1 7) s) s := fun s h => by
    unfold dm148_18
    rw [h.1.1, vN_ref, if_pos h.1.2.1, show dm57 b (Int32.ofNat i) 3 s = some (n.1 3) from F s 3 h (by omega)]
    simp only [bu_some, vN_ref]
    rw [if_pos h.1.2.1, show dm57 b (Int32.ofNat i) 4 s = some (n.1 4) from F s 4 h (by omega)]
    simp only [bu_some]
    refine (x152 _ _ _ s).b fun s1 c1 => ?_
    have h1 := h.d c1
    rw [h1.1.1, vN_ref, if_pos h1.1.2.1, show dm57 b (Int32.ofNat i) 0 s1 = some (n.1 0) from F s1 0 h1 (by omega)]
    simp only [bu_some]
    by_cases c : n.1 0 = 5
    · rw [if_pos c, if_pos c]
      refine (x141 58 s1).b fun s2 c2 => ?_
      have h2 := h1.d c2
      rw [h2.1.1, vN_ref, if_pos h2.1.2.1, show dm57 b (Int32.ofNat i) 5 s2 = some (n.1 5) from F s2 5 h2 (by omega)]
      simp only [bu_some, vN_ref]
      rw [if_pos h2.1.2.1, show dm57 b (Int32.ofNat i) 6 s2 = some (n.1 6) from F s2 6 h2 (by omega)]
      simp only [bu_some]
      exact (x152 _ _ _ s2).o
    · rw [if_neg c, if_neg c]
      exact Ec.n s1
  unfold dm148 rfT
  rw [h.1.1, vN_ref, if_pos h.1.2.1, show dm57 b (Int32.ofNat i) 2 s = some (n.1 2) from F s 2 h (by omega)]
  simp only [bu_some, vN_ref]
  rw [if_pos h.1.2.1, show dm57 b (Int32.ofNat i) 7 s = some (n.1 7) from F s 7 h (by omega)]
  simp only [bu_some]
  unfold pfx
  by_cases c : n.1 2 = -1
  · rw [if_pos c, if_pos c]
    exact f18 s h
  · rw [if_neg c, if_neg c]
    have c0 : 0 ≤ (n.1 2).toInt := by
      have : ¬ (n.1 2).toInt = -1 := fun z => c (iEq.mpr z)
      omega
    obtain ⟨k, hk⟩ : ∃ k, k = (n.1 2).toInt.toNat := ⟨_, rfl⟩
    have ek : n.1 2 = Int32.ofNat k := by rw [hk]; exact ofNat_of c0
    have hkl : k < ns.length := by omega
    have en : ns.getD (n.1 2).toInt.toNat [] = ns[k] := by rw [← hk, List.getD, List.getElem?_eq_getElem hkl]; rfl
    rw [en, ek]
    exact (x149 h.1 hkl (h.2.1 k hkl)).b fun s1 c1 => f18 s1 (h.d c1)
end CW
