/-! texts of its own: lengths, characters, spelling -/
def ST (s : aS) (a : Nat) (u : List Int32) : Prop := sI s a 1 = 0 ∧ (sT s (a + 1)).2 = u.length ∧ ∀ j (h : j < u.length), sI s (a + 1) j = u[j]
set_option maxRecDepth 100000 in
theorem ST.ly {tt : Nat} {xs : List Int32} {s : aS} (h : Ly tt (cCc xs) s) (k : Nat) (hk : k < 38) : ST s (2 * k + 1) (zTx.getD k ("", 0, [])).2.2 := by
  have key : ∀ k : Fin 38, zTz.getD (2 * k.val + 2) (0, 0) = (101, (zTx.getD k.val ("", 0, [])).2.2.length) := by decide +kernel
  have h78 : zK = 78 := rfl
  refine ⟨?_, ?_, fun j hj => ?_⟩
  · rw [h.2.2.2.2.2.2.2.2 (2 * k + 1) 1 (by omega)]
    unfold cCc
    rw [if_neg (by omega), if_pos (by omega)]
  · rw [h.lowT (a := 2 * k + 1 + 1) (by omega)]
    unfold zTt0
    rw [if_neg (by omega), key ⟨k, hk⟩]
  · rw [h.2.2.2.2.2.2.2.2 (2 * k + 1 + 1) j (by omega)]
    unfold cCc
    rw [if_neg (by omega), if_neg (by omega), show (2 * k + 1 + 1 - 2) / 2 = k by omega]
    generalize (zTx.getD k ("", 0, [])).2.2 = l at hj ⊢
    simp [List.getD, List.getElem?_eq_getElem hj]
set_option maxRecDepth 100000 in
theorem ST.of {A : Nat → Nat → Prop} {s s1 : aS} {a : Nat} {u : List Int32} (h : ST s a u) (ha : a + 1 < 78) (g : ch A s s1) (h1 : ∀ a k, A a k → 78 ≤ a) : ST s1 a u := ⟨(g.i fun q => by have := h1 _ _ q; omega).trans h.1, by rw [g.2.1]; exact h.2.1, fun j hj => (g.i fun q => by have := h1 _ _ q; omega).trans (h.2.2 j hj)⟩
set_option maxRecDepth 100000 in
theorem d254 {s : aS} {a : Nat} {u : List Int32} (h : ST s a u) (hm : u.length < 1000000) : dm254 a s = some (Int32.ofNat u.length) := by
  unfold dm254 dm255
  rw [h.1, if_pos (by decide)]
  simp only [bu_some]
  rw [h.2.1]
  have : Int32.ofNat u.length >>> ((0 : Int32) &&& 31) = Int32.ofNat u.length := by
    rw [show ((0 : Int32) &&& 31) = 0 by decide]
    apply Int32.toBitVec_inj.mp
    rw [Int32.toBitVec_shiftRight]
    show BitVec.sshiftRight' (Int32.ofNat u.length).toBitVec (BitVec.smod 0#32 32#32) = _
    rw [show BitVec.smod 0#32 32#32 = 0#32 by decide, BitVec.sshiftRight', show (0#32).toNat = 0 from rfl, BitVec.sshiftRight_zero]
  rw [this]
set_option maxRecDepth 100000 in
theorem and255_id {x : Int32} (h : 0 ≤ x.toInt ∧ x.toInt ≤ 255) : x &&& 255 = x := by
  have hn := nonneg_nat h.1
  apply Int32.toBitVec_inj.mp
  apply BitVec.eq_of_toNat_eq
  show (x.toBitVec &&& 255#32).toNat = _
  rw [BitVec.toNat_and]
  show x.toBitVec.toNat &&& (2 ^ 8 - 1) = _
  rw [Nat.and_two_pow_sub_one_eq_mod]
  omega
set_option maxRecDepth 100000 in
theorem d259 {s : aS} {a j : Nat} {u : List Int32} (h : ST s a u) (hm : u.length < 1000000) (hj : j < u.length) (hx : 0 ≤ (u[j]).toInt ∧ (u[j]).toInt ≤ 127) : dm259 a (Int32.ofNat j) s = some (u[j], s) := by
  have e1 : (Int32.ofNat j).toInt = j := iOfNat (by omega)
  unfold dm259 dm253 dm260 dm261 dm262
  rw [h.1, if_pos rfl]
  simp only [bu_some]
  rw [if_neg (by decide), h.2.1, if_neg (by rw [iLt, e1]; show ¬ (j : Int) < 0; omega), if_pos (by rw [iLt, e1, iOfNat (by omega)]; omega)]
  simp only [bu_some]
  rw [h.2.1, if_pos (by rw [aB_iff, e1]; omega), jN_of (by omega), h.2.2 j hj, and255_id (by omega), i2c_id (by omega)]
  have c : 0 ≤ u[j] ∧ u[j] ≤ 65535 := by
    rw [iLe, iLe]
    show (0 : Int) ≤ _ ∧ _ ≤ (65535 : Int)
    omega
  rw [if_pos c]
  simp only [bv_some]
  rw [if_pos c]
/-- do the letters from o on spell the first m of u -/
def spQ (t u : List Int32) (o m j : Nat) : Prop := ∀ k, j ≤ k → k < m → gr (t.getD (o + k) (-1)) = u.getD k 0
set_option maxRecDepth 100000 in
theorem d49l {s : aS} {b a o m : Nat} {t u : List Int32} (h : LT s b t) (hT : t.length ≤ (sT s (b + 1)).2) (hm : t.length < 100000) (g : ST s a u) (hu : u.length < 100000) (hmu : m ≤ u.length) (ho : o < 100000) (hx : ∀ x ∈ u, 0 ≤ x.toInt ∧ x.toInt ≤ 127) : ∀ (q j n : Nat), j + q = m → q + 1 < n → dm49_10 n b a (Int32.ofNat m) (Int32.ofNat o) 1 (Int32.ofNat j) s = some (b01 (spQ t u o m j), s) := by
  intro q
  induction q with
  | zero =>
    intro j n hj hn
    obtain ⟨n, rfl⟩ : ∃ k, n = k + 1 := ⟨n - 1, by omega⟩
    rw [dm49_10, if_pos (by rw [iLe, iOfNat (by omega), iOfNat (by omega)]; omega), if_pos (Or.inr rfl), b01_t]
    intro k h1 h2
    omega
  | succ q ih =>
    intro j n hj hn
    obtain ⟨n, rfl⟩ : ∃ k, n = k + 1 := ⟨n - 1, by omega⟩
    have h1 : j < u.length := by omega
    have e1 : u.getD j 0 = u[j] := by simp [List.getD, List.getElem?_eq_getElem h1]
    rw [dm49_10, if_neg (by rw [iLe, iOfNat (by omega), iOfNat (by omega)]; omega), if_neg (by decide), iSum (by omega) (by omega), d34 h hT (by omega) (by omega)]
    simp only [bu_some, d35]
    rw [d259 g (by omega) h1 (hx _ (List.getElem_mem h1))]
    simp only [bv_some]
    unfold dm49_28
    rw [ofNat_succ (by omega)]
    by_cases hq : gr (t.getD (o + j) (-1)) = u[j]
    · rw [if_pos hq, ih (j + 1) n (by omega) (by omega)]
      congr 2
      refine b01_c ⟨fun z k k1 k2 => ?_, fun z k k1 k2 => z k (by omega) k2⟩
      by_cases hk : k = j
      · subst hk; rw [e1]; exact hq
      · exact z k (by omega) k2
    · rw [if_neg hq, b01_f (fun z => hq (by rw [← e1]; exact z j (Nat.le_refl _) (by omega)))]
      obtain ⟨n, rfl⟩ : ∃ k, n = k + 1 := ⟨n - 1, by omega⟩
      rw [dm49_10]
      split
      · rw [if_pos (Or.inl rfl)]
      · rw [if_pos rfl, if_pos (Or.inl rfl)]
set_option maxRecDepth 100000 in
theorem d49 {s : aS} {b a o m : Nat} {t u : List Int32} (h : LT s b t) (hT : t.length ≤ (sT s (b + 1)).2) (hm : t.length < 100000) (g : ST s a u) (hu : u.length < 4000) (hmu : m ≤ u.length) (ho : o < 100000) (hx : ∀ x ∈ u, 0 ≤ x.toInt ∧ x.toInt ≤ 127) : dm49 b a (Int32.ofNat m) (Int32.ofNat o) s = some (b01 (spQ t u o m 0), s) := by
  unfold dm49 dm49_7
  rw [d254 g (by omega)]
  simp only [bu_some]
  rw [if_neg (by rw [iLt, iOfNat (by omega), iOfNat (by omega)]; omega)]
  exact d49l h hT hm g (by omega) hmu ho hx m 0 5000 (by omega) (by omega)
/-- TRUE and FALSE -/
def trL : List Int32 := [84, 82, 85, 69]
def faL : List Int32 := [70, 65, 76, 83, 69]
def TF (s : aS) : Prop := ST s 11 trL ∧ ST s 13 faL
set_option maxRecDepth 100000 in
theorem TF.ly {tt : Nat} {xs : List Int32} {s : aS} (h : Ly tt (cCc xs) s) : TF s := ⟨ST.ly h 5 (by decide), ST.ly h 6 (by decide)⟩
set_option maxRecDepth 100000 in
theorem TF.of {A : Nat → Nat → Prop} {s s1 : aS} (h : TF s) (g : ch A s s1) (h1 : ∀ a k, A a k → 78 ≤ a) : TF s1 := ⟨h.1.of (by decide) g h1, h.2.of (by decide) g h1⟩
set_option maxRecDepth 100000 in
/-- is what stands from o to e one of them: 1, 0, or neither -/
noncomputable def trI (t : List Int32) (o e : Nat) : Int32 := if e = o + 4 ∧ b01 (spQ t trL o 4 0) = 1 then 1 else if e = o + 5 ∧ b01 (spQ t faL o 5 0) = 1 then 0 else -1
set_option maxRecDepth 100000 in
theorem b01_01 (p : Prop) : b01 p = 0 ∨ b01 p = 1 := by
  by_cases h : p
  · exact Or.inr (b01_t h)
  · exact Or.inl (b01_f h)
set_option maxRecDepth 100000 in
theorem d48 {s : aS} {b o e : Nat} {t : List Int32} (h : LT s b t) (hT : t.length ≤ (sT s (b + 1)).2) (hm : t.length < 100000) (g : TF s) (ho : o < 100000) (he : e < 100000) : dm48 b (Int32.ofNat o) (Int32.ofNat e) s = some (trI t o e, s) := by
  have e1 : (Int32.ofNat o).toInt = o := iOfNat (by omega)
  have e2 : (Int32.ofNat e).toInt = e := iOfNat (by omega)
  have e3 : (Int32.ofNat e - Int32.ofNat o).toInt = (e : Int) - o := by rw [iSub (by omega) (by omega), e1, e2]
  have c4 : Int32.ofNat e - Int32.ofNat o = 4 ↔ e = o + 4 := by
    rw [iEq, e3]
    show (e : Int) - o = 4 ↔ _
    omega
  have c5 : Int32.ofNat e - Int32.ofNat o = 5 ↔ e = o + 5 := by
    rw [iEq, e3]
    show (e : Int) - o = 5 ↔ _
    omega
  have q4 : dm49 b 11 4 (Int32.ofNat o) s = some (b01 (spQ t trL o 4 0), s) := d49 (m := 4) h hT hm g.1 (by decide) (by decide) ho (by decide)
  have q5 : dm49 b 13 5 (Int32.ofNat o) s = some (b01 (spQ t faL o 5 0), s) := d49 (m := 5) h hT hm g.2 (by decide) (by decide) ho (by decide)
  have z5 : dm48_13 b (Int32.ofNat o) (Int32.ofNat e) s = some (if e = o + 5 ∧ b01 (spQ t faL o 5 0) = 1 then 0 else -1, s) := by
    unfold dm48_13
    by_cases h5 : e = o + 5
    · rw [if_pos (c5.mpr h5), q5]
      simp only [bv_some]
      rcases b01_01 (spQ t faL o 5 0) with z | z
      · rw [z, if_pos rfl, if_neg (fun q => absurd q.2 (by decide))]
      · rw [z, if_neg (by decide), if_pos ⟨h5, rfl⟩]
    · rw [if_neg (fun q => h5 (c5.mp q)), if_neg (fun q => h5 q.1)]
  unfold dm48 trI
  by_cases h4 : e = o + 4
  · rw [if_pos (c4.mpr h4), q4]
    simp only [bv_some]
    rcases b01_01 (spQ t trL o 4 0) with z | z
    · rw [z, if_pos rfl, z5, if_neg (show ¬ (e = o + 4 ∧ (0 : Int32) = 1) from fun q => absurd q.2 (by decide))]
    · rw [z, if_neg (by decide), if_pos ⟨h4, rfl⟩]
  · rw [if_neg (fun q => h4 (c4.mp q)), z5, if_neg (show ¬ (e = o + 4 ∧ b01 (spQ t trL o 4 0) = 1) from fun q => h4 q.1)]
/-- is a name written in quotes -/
def qtP (t : List Int32) : Prop := wEnd t 0 ≠ t.length ∨ trI t 0 t.length ≠ -1 ∨ likeCell t
set_option maxRecDepth 100000 in
theorem wEnd_le {t : List Int32} {i : Nat} (h : i ≤ t.length) : wEnd t i ≤ t.length := by
  unfold wEnd
  have := cntF_le gW (t.drop i)
  rw [List.length_drop] at this
  split <;> omega
set_option maxRecDepth 100000 in
theorem d42 {s : aS} {b : Nat} {t : List Int32} (h : LT s b t) (hT : t.length ≤ (sT s (b + 1)).2) (hm : t.length < 4000) (g : TF s) : dm42 b s = some (b01 (qtP t), s) := by
  have hw := wEnd_le (Nat.zero_le t.length)
  unfold dm42 dm28 dm42_11 dm42_23
  simp only [bu_some]
  rw [show (0 : Int32) = Int32.ofNat 0 from rfl, d43 h hT hm (Nat.zero_le _), h.n]
  simp only [bu_some]
  by_cases h1 : wEnd t 0 = t.length
  · rw [if_pos (by rw [h1]), if_neg (by decide), d48 h hT (by omega) g (by omega) (by omega)]
    simp only [bv_some]
    by_cases h2 : trI t 0 t.length = -1
    · rw [if_pos h2, d50 h hT hm]
      simp only [bu_some]
      by_cases h3 : likeCell t
      · rw [b01_t h3, if_neg (by decide), b01_t (show qtP t from Or.inr (Or.inr h3))]
      · rw [b01_f h3, if_pos (show (0 : Int32) = Int32.ofNat 0 from rfl), b01_f (p := qtP t)]
        · rfl
        · rintro (q | q | q)
          · exact q h1
          · exact q h2
          · exact h3 q
    · rw [if_neg h2, b01_t (show qtP t from Or.inr (Or.inl h2))]
  · rw [if_neg (by rw [iEq, iOfNat (by omega), iOfNat (by omega)]; omega), if_pos trivial, b01_t (show qtP t from Or.inl h1)]
