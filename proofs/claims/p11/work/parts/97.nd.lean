/-! the reference: is a name written in quotes, exactly -/
set_option maxRecDepth 100000 in
theorem LD9 {x : Int32} (h : isL x) : ¬ isD x := by unfold isL at h; unfold isD; omega
set_option maxRecDepth 100000 in
theorem d240 {s : aS} {i u : Nat} {t w : List Int32} {W : Int64} (hi : i < 8) (hL : sI s 123 i = Int32.ofNat t.length) (hT : ∀ j (g : j < t.length), sI s 124 (32 * i + j) = t[j]) (h31 : t.length ≤ 31) (hu : u ≤ 5) (hW : ∀ k, k < u → ((W >>> ((8 * ((Int32.ofNat u - 1) - Int32.ofNat k)).toInt64 &&& 63)) &&& 255).toInt32 = w.getD k 0) : dm240 (Int32.ofNat i) W (Int32.ofNat u) s = some (b01 (t.length = u ∧ spQ t w 0 u 0)) := by
  have b8 : aB (Int32.ofNat i) 8 := aB_of hi (by omega)
  have j8 : jN (Int32.ofNat i) = i := jN_of (by omega)
  have loop0 : ∀ n x6, dm240_12 (n + 1) (Int32.ofNat i) W (Int32.ofNat u) 0 x6 s = some 0 := by
    intro n x6
    rw [dm240_12]
    split
    · rw [if_pos (Or.inl rfl)]
    · rw [if_pos rfl, if_pos (Or.inl rfl)]
  have loop : ∀ (m j n : Nat), t.length = u → j + m = u → m + 1 < n → dm240_12 n (Int32.ofNat i) W (Int32.ofNat u) 1 (Int32.ofNat j) s = some (b01 (spQ t w 0 u j)) := by
    intro m
    induction m with
    | zero =>
      intro j n h0 h1 h2
      obtain ⟨n, rfl⟩ : ∃ q, n = q + 1 := ⟨n - 1, by omega⟩
      rw [dm240_12, if_pos ((nle_iff (by omega) (by omega)).mpr (by omega)), if_pos (Or.inr rfl), b01_t (p := spQ t w 0 u j) (fun k h3 h4 => by omega)]
    | succ m ih =>
      intro j n h0 h1 h2
      obtain ⟨n, rfl⟩ : ∃ q, n = q + 2 := ⟨n - 2, by omega⟩
      have hj : j < t.length := by omega
      have ej : gr (t.getD (0 + j) (-1)) = gr t[j] := by rw [Nat.zero_add, getD_in hj]
      rw [dm240_12, if_neg (fun q => by have := (nle_iff (by omega) (by omega)).mp q; omega), if_neg (by decide), iLin (by omega) (by omega), if_pos (aB_of (n := 256) (by omega) (by omega)), jN_of (by omega), hT j hj, d178]
      simp only [bu_some]
      rw [hW j (by omega)]
      unfold dm240_42
      rw [ofNat_succ (by omega)]
      by_cases c : gr t[j] = w.getD j 0
      · rw [if_pos c, ih (j + 1) (n + 1) h0 (by omega) (by omega)]
        have : spQ t w 0 u (j + 1) = spQ t w 0 u j := propext ⟨fun z k h3 h4 => by
          by_cases e : k = j
          · rw [e, ej]
            exact c
          · exact z k (by omega) h4, fun z k h3 h4 => z k (by omega) h4⟩
        rw [this]
      · rw [if_neg c, loop0 n, b01_f (p := spQ t w 0 u j) (fun z => c (by rw [← ej]; exact z j (Nat.le_refl _) (by omega)))]
  unfold dm240 dm240_9
  rw [if_pos b8, j8, hL]
  by_cases c : t.length = u
  · rw [if_pos (by rw [c])]
    refine Eq.trans (loop u 0 5000 c (by omega) (by omega)) ?_
    rw [show (t.length = u ∧ spQ t w 0 u 0) = spQ t w 0 u 0 from propext ⟨fun z => z.2, fun z => ⟨c, z⟩⟩]
  · rw [if_neg (fun z => c ((neq_iff (by omega) (by omega)).mp z)), b01_f (p := t.length = u ∧ spQ t w 0 u 0) (fun z => c z.1)]
    exact loop0 4999 0
set_option maxRecDepth 100000 in
/-- letters ahead of the first figure, and figures -/
noncomputable def cl3 : List Int32 → Nat → Nat → Nat × Nat
  | [], a, d => (a, d)
  | x :: r, a, d => cl3 r (if b01 (isL x) = 0 then a else if d = 0 then a + 1 else a) (if b01 (isD x) = 0 then d else d + 1)
set_option maxRecDepth 100000 in
theorem cl3_le : ∀ (r : List Int32) (a d : Nat), (cl3 r a d).1 + (cl3 r a d).2 ≤ a + d + r.length ∧ a ≤ (cl3 r a d).1 ∧ d ≤ (cl3 r a d).2
  | [], a, d => ⟨Nat.le_refl _, Nat.le_refl _, Nat.le_refl _⟩
  | x :: r, a, d => by
    have ih := cl3_le r (if b01 (isL x) = 0 then a else if d = 0 then a + 1 else a) (if b01 (isD x) = 0 then d else d + 1)
    have e9 : cl3 (x :: r) a d = cl3 r (if b01 (isL x) = 0 then a else if d = 0 then a + 1 else a) (if b01 (isD x) = 0 then d else d + 1) := rfl
    rw [e9, List.length_cons]
    by_cases c1 : isL x
    · have c2 : ¬ isD x := LD9 c1
      rw [b01_t c1, if_neg (show ¬ (1 : Int32) = 0 by decide), b01_f c2, if_pos rfl] at ih ⊢
      by_cases c3 : d = 0
      · rw [if_pos c3] at ih ⊢
        omega
      · rw [if_neg c3] at ih ⊢
        omega
    · rw [b01_f c1, if_pos rfl] at ih ⊢
      by_cases c2 : isD x
      · rw [b01_t c2, if_neg (show ¬ (1 : Int32) = 0 by decide)] at ih ⊢
        omega
      · rw [b01_f c2, if_pos rfl] at ih ⊢
        omega
set_option maxRecDepth 100000 in
theorem cl3_d : ∀ (r : List Int32) (a d : Nat), 0 < d → (cl3 r a d).1 = a ∧ ((cl3 r a d).2 = d + r.length ↔ cntF isD r = r.length)
  | [], a, d, h => ⟨rfl, ⟨fun _ => rfl, fun _ => rfl⟩⟩
  | x :: r, a, d, h => by
    have hd : ¬ d = 0 := by omega
    have e : cl3 (x :: r) a d = cl3 r a (if b01 (isD x) = 0 then d else d + 1) := by
      show cl3 r (if b01 (isL x) = 0 then a else if d = 0 then a + 1 else a) _ = _
      rw [if_neg hd, ite_self]
    rw [e]
    have ec : cntF isD (x :: r) = if b01 (isD x) = 0 then 0 else cntF isD r + 1 := rfl
    rw [ec, List.length_cons]
    by_cases c2 : isD x
    · rw [b01_t c2, if_neg (show ¬ (1 : Int32) = 0 by decide), if_neg (show ¬ (1 : Int32) = 0 by decide)]
      obtain ⟨i1, i2⟩ := cl3_d r a (d + 1) (by omega)
      refine ⟨i1, ?_⟩
      rw [show d + (r.length + 1) = d + 1 + r.length by omega, i2]
      omega
    · rw [b01_f c2, if_pos rfl, if_pos rfl]
      obtain ⟨i1, -⟩ := cl3_d r a d h
      have := cl3_le r a d
      exact ⟨i1, by omega⟩
set_option maxRecDepth 100000 in
theorem cl3_0 : ∀ (r : List Int32) (a : Nat), ((cl3 r a 0).1 + (cl3 r a 0).2 = a + r.length ↔ cntF isL r + cntF isD (r.drop (cntF isL r)) = r.length) ∧ ((cl3 r a 0).1 + (cl3 r a 0).2 = a + r.length → (cl3 r a 0).1 = a + cntF isL r)
  | [], a => ⟨⟨fun _ => rfl, fun _ => rfl⟩, fun _ => rfl⟩
  | x :: r, a => by
    have el : cntF isL (x :: r) = if b01 (isL x) = 0 then 0 else cntF isL r + 1 := rfl
    have e : cl3 (x :: r) a 0 = cl3 r (if b01 (isL x) = 0 then a else a + 1) (if b01 (isD x) = 0 then 0 else 1) := rfl
    rw [e, el, List.length_cons]
    by_cases c1 : isL x
    · have c2 : ¬ isD x := LD9 c1
      rw [b01_t c1, if_neg (show ¬ (1 : Int32) = 0 by decide), if_neg (show ¬ (1 : Int32) = 0 by decide), b01_f c2, if_pos rfl, List.drop_succ_cons]
      obtain ⟨i1, i2⟩ := cl3_0 r (a + 1)
      refine ⟨?_, fun z => ?_⟩
      · rw [show a + (r.length + 1) = a + 1 + r.length by omega, i1]
        omega
      · have := i2 (by omega)
        omega
    · rw [b01_f c1, if_pos rfl, if_pos rfl, List.drop_zero]
      have ed : cntF isD (x :: r) = if b01 (isD x) = 0 then 0 else cntF isD r + 1 := rfl
      rw [ed]
      by_cases c2 : isD x
      · rw [b01_t c2, if_neg (show ¬ (1 : Int32) = 0 by decide), if_neg (show ¬ (1 : Int32) = 0 by decide)]
        obtain ⟨i1, i2⟩ := cl3_d r a 1 (by omega)
        refine ⟨?_, fun _ => by omega⟩
        constructor
        · intro z
          have := i2.mp (by omega)
          omega
        · intro z
          have := i2.mpr (by omega)
          omega
      · rw [b01_f c2, if_pos rfl, if_pos rfl]
        have := cl3_le r a 0
        exact ⟨by omega, fun z => by omega⟩
set_option maxRecDepth 100000 in
theorem cl3_c {t : List Int32} : (1 ≤ (cl3 t 0 0).1 ∧ (cl3 t 0 0).1 ≤ 3 ∧ 0 < (cl3 t 0 0).2 ∧ (cl3 t 0 0).1 + (cl3 t 0 0).2 = t.length) ↔ likeCell t := by
  obtain ⟨i1, i2⟩ := cl3_0 t 0
  rw [Nat.zero_add] at i1 i2
  unfold likeCell
  constructor
  · rintro ⟨h1, h2, h3, h4⟩
    have e1 := i2 h4
    have e2 := i1.mp h4
    omega
  · rintro ⟨h1, h2, h3, h4⟩
    have e2 := i1.mpr h4
    have e1 := i2 e2
    omega
set_option maxRecDepth 100000 in
theorem cnt_all {p : Int32 → Prop} : ∀ (r : List Int32), cntF p r = r.length ↔ ∀ x ∈ r, p x
  | [] => ⟨fun _ x hx => (by cases hx), fun _ => rfl⟩
  | x :: r => by
    have e : cntF p (x :: r) = if b01 (p x) = 0 then 0 else cntF p r + 1 := rfl
    rw [e, List.length_cons]
    by_cases c : p x
    · rw [b01_t c, if_neg (show ¬ (1 : Int32) = 0 by decide)]
      have ih := cnt_all (p := p) r
      constructor
      · intro z y hy
        rcases List.mem_cons.mp hy with q | q
        · rw [q]
          exact c
        · exact ih.mp (by omega) y q
      · intro z
        have := ih.mpr (fun y hy => z y (List.mem_cons_of_mem _ hy))
        omega
    · rw [b01_f c, if_pos rfl]
      exact ⟨fun z => by omega, fun z => absurd (z x List.mem_cons_self) c⟩
set_option maxRecDepth 100000 in
theorem d239 {s : aS} {i : Nat} {t : List Int32} (hi : i < 8) (hL : sI s 123 i = Int32.ofNat t.length) (hT : ∀ j (g : j < t.length), sI s 124 (32 * i + j) = t[j]) (h31 : 1 ≤ t.length ∧ t.length ≤ 31) : dm239 (Int32.ofNat i) s = some (b01 (qtP t)) := by
  have b8 : aB (Int32.ofNat i) 8 := aB_of hi (by omega)
  have j8 : jN (Int32.ofNat i) = i := jN_of (by omega)
  have n10 : ¬ (1 : Int32) = 0 := by decide
  have e1 : dm240 (Int32.ofNat i) 1414681925 4 s = some (b01 (t.length = 4 ∧ spQ t trL 0 4 0)) := d240 (u := 4) (W := 1414681925) hi hL hT h31.2 (by omega) (fun k hk => by
    match k, hk with
    | 0, _ => decide
    | 1, _ => decide
    | 2, _ => decide
    | 3, _ => decide)
  have e2 : dm240 (Int32.ofNat i) 301743231813 5 s = some (b01 (t.length = 5 ∧ spQ t faL 0 5 0)) := d240 (u := 5) (W := 301743231813) hi hL hT h31.2 (by omega) (fun k hk => by
    match k, hk with
    | 0, _ => decide
    | 1, _ => decide
    | 2, _ => decide
    | 3, _ => decide
    | 4, _ => decide)
  generalize hA4 : (t.length = 4 ∧ spQ t trL 0 4 0) = A4 at e1
  generalize hA5 : (t.length = 5 ∧ spQ t faL 0 5 0) = A5 at e2
  have h79 : ∀ (p : Prop) (y : Int32), (y = 0 ∨ y = 1) → dm239_79 (Int32.ofNat i) (b01 p) y s = some (b01 (¬ p ∨ y = 1 ∨ A4 ∨ A5)) := by
    intro p y hy
    unfold dm239_79 dm239_96
    rw [e1, e2]
    simp only [bu_some]
    by_cases c : p
    · rw [b01_t c, if_neg n10]
      by_cases cy : y = 0
      · rw [if_pos cy]
        by_cases c4 : A4
        · rw [b01_t c4, if_neg n10, b01_t (p := ¬ p ∨ y = 1 ∨ A4 ∨ A5) (Or.inr (Or.inr (Or.inl c4)))]
        · rw [b01_f c4, if_pos rfl]
          by_cases c5 : A5
          · rw [b01_t c5, if_neg n10, b01_t (p := ¬ p ∨ y = 1 ∨ A4 ∨ A5) (Or.inr (Or.inr (Or.inr c5)))]
          · rw [b01_f c5, if_pos rfl, b01_f (p := ¬ p ∨ y = 1 ∨ A4 ∨ A5)]
            rintro (z | z | z | z)
            · exact z c
            · rw [cy] at z
              exact absurd z (by decide)
            · exact c4 z
            · exact c5 z
      · rw [if_neg cy, b01_t (p := ¬ p ∨ y = 1 ∨ A4 ∨ A5) (Or.inr (Or.inl (hy.resolve_left cy)))]
    · rw [b01_f c, if_pos rfl, b01_t (p := ¬ p ∨ y = 1 ∨ A4 ∨ A5) (Or.inl c)]
  have loop : ∀ (m j n a d : Nat) (p : Prop), a ≤ j → d ≤ j → j + m = t.length → m < n → dm239_14 n (Int32.ofNat i) (b01 p) (Int32.ofNat a) (Int32.ofNat d) (Int32.ofNat j) s = some (b01 (¬ (p ∧ ∀ x ∈ t.drop j, gW x) ∨ (1 ≤ (cl3 (t.drop j) a d).1 ∧ (cl3 (t.drop j) a d).1 ≤ 3 ∧ 0 < (cl3 (t.drop j) a d).2 ∧ (cl3 (t.drop j) a d).1 + (cl3 (t.drop j) a d).2 = t.length) ∨ A4 ∨ A5)) := by
    intro m
    induction m with
    | zero =>
      intro j n a d p ha hd h1 h2
      obtain ⟨n, rfl⟩ : ∃ q, n = q + 1 := ⟨n - 1, by omega⟩
      rw [List.drop_eq_nil_of_le (by omega)]
      have ep : (p ∧ ∀ x ∈ ([] : List Int32), gW x) = p := propext ⟨fun z => z.1, fun z => ⟨z, fun x hx => (by cases hx)⟩⟩
      rw [ep]
      show _ = some (b01 (¬ p ∨ (1 ≤ a ∧ a ≤ 3 ∧ 0 < d ∧ a + d = t.length) ∨ A4 ∨ A5))
      have key : ∀ y : Int32, (y = 0 ∨ y = 1) → (y = 1 ↔ (1 ≤ a ∧ a ≤ 3 ∧ 0 < d ∧ a + d = t.length)) → dm239_79 (Int32.ofNat i) (b01 p) y s = some (b01 (¬ p ∨ (1 ≤ a ∧ a ≤ 3 ∧ 0 < d ∧ a + d = t.length) ∨ A4 ∨ A5)) := by
        intro y hy hq
        rw [h79 p y hy, propext hq]
      have k0 : ¬ (1 ≤ a ∧ a ≤ 3 ∧ 0 < d ∧ a + d = t.length) → dm239_79 (Int32.ofNat i) (b01 p) 0 s = some (b01 (¬ p ∨ (1 ≤ a ∧ a ≤ 3 ∧ 0 < d ∧ a + d = t.length) ∨ A4 ∨ A5)) := fun z => key 0 (Or.inl rfl) ⟨fun w => absurd w (by decide), fun w => absurd w z⟩
      rw [dm239_14]
      simp only [if_pos b8, j8, hL]
      rw [if_pos ((nle_iff (by omega) (by omega)).mpr (by omega))]
      unfold dm239_78
      by_cases c1 : a < 1
      · rw [if_pos (show Int32.ofNat a < 1 from (nlt_iff (b := 1) (by omega) (by omega)).mpr c1)]
        exact k0 (by omega)
      · rw [if_neg (show ¬ Int32.ofNat a < 1 from fun z => c1 ((nlt_iff (b := 1) (by omega) (by omega)).mp z))]
        by_cases c2 : 3 < a
        · rw [if_pos (show (3 : Int32) < Int32.ofNat a from (nlt_iff (a := 3) (by omega) (by omega)).mpr c2)]
          exact k0 (by omega)
        · rw [if_neg (show ¬ (3 : Int32) < Int32.ofNat a from fun z => c2 ((nlt_iff (a := 3) (by omega) (by omega)).mp z))]
          by_cases c3 : d ≤ 0
          · rw [if_pos (show Int32.ofNat d ≤ 0 from (nle_iff (b := 0) (by omega) (by omega)).mpr c3)]
            exact k0 (by omega)
          · rw [if_neg (show ¬ Int32.ofNat d ≤ 0 from fun z => c3 ((nle_iff (b := 0) (by omega) (by omega)).mp z)), iSum (by omega) (by omega)]
            by_cases c4 : a + d = t.length
            · rw [if_pos (by rw [c4])]
              exact key 1 (Or.inr rfl) ⟨fun _ => by omega, fun _ => rfl⟩
            · rw [if_neg (fun z => c4 ((neq_iff (by omega) (by omega)).mp z))]
              exact k0 (by omega)
    | succ m ih =>
      intro j n a d p ha hd h1 h2
      obtain ⟨n, rfl⟩ : ∃ q, n = q + 1 := ⟨n - 1, by omega⟩
      have hj : j < t.length := by omega
      have hx : sI s 124 (jN (Int32.ofNat (32 * i + j))) = t[j] := by rw [jN_of (by omega)]; exact hT j hj
      rw [dm239_14]
      simp only [if_pos b8, j8, hL]
      rw [if_neg (fun q => by have := (nle_iff (by omega) (by omega)).mp q; omega), iLin (by omega) (by omega)]
      simp only [if_pos (aB_of (i := 32 * i + j) (n := 256) (by omega) (by omega)), hx, d211, bu_some]
      unfold dm239_36
      -- the word goes on or not
      have e37 : (if b01 p = 0 then dm239_37 (dm239_14 n) (Int32.ofNat i) (Int32.ofNat a) (Int32.ofNat d) (Int32.ofNat j) t[j] 0 s else if b01 (gW t[j]) = 0 then dm239_37 (dm239_14 n) (Int32.ofNat i) (Int32.ofNat a) (Int32.ofNat d) (Int32.ofNat j) t[j] 0 s else dm239_37 (dm239_14 n) (Int32.ofNat i) (Int32.ofNat a) (Int32.ofNat d) (Int32.ofNat j) t[j] 1 s) = dm239_37 (dm239_14 n) (Int32.ofNat i) (Int32.ofNat a) (Int32.ofNat d) (Int32.ofNat j) t[j] (b01 (p ∧ gW t[j])) s := by
        by_cases c1 : p
        · rw [b01_t c1, if_neg n10]
          by_cases c2 : gW t[j]
          · rw [b01_t c2, if_neg n10, b01_t (p := p ∧ gW t[j]) ⟨c1, c2⟩]
          · rw [b01_f c2, if_pos rfl, b01_f (p := p ∧ gW t[j]) (fun z => c2 z.2)]
        · rw [b01_f c1, if_pos rfl, b01_f (p := p ∧ gW t[j]) (fun z => c1 z.1)]
      rw [e37]
      have ed : t.drop j = t[j] :: t.drop (j + 1) := List.drop_eq_getElem_cons hj
      have e48 : ∀ y : Nat, y ≤ j + 1 → dm239_48 (dm239_14 n) (Int32.ofNat i) (b01 (p ∧ gW t[j])) (Int32.ofNat d) (Int32.ofNat j) t[j] (Int32.ofNat y) s = dm239_14 n (Int32.ofNat i) (b01 (p ∧ gW t[j])) (Int32.ofNat y) (Int32.ofNat (if b01 (isD t[j]) = 0 then d else d + 1)) (Int32.ofNat (j + 1)) s := by
        intro y hy
        unfold dm239_48 dm239_57
        rw [d196, ofNat_succ (by omega)]
        simp only [bu_some]
        by_cases c : isD t[j]
        · rw [b01_t c, if_neg n10, if_neg n10, ofNat_succ (by omega)]
        · rw [b01_f c, if_pos rfl, if_pos rfl]
      have e38 : dm239_37 (dm239_14 n) (Int32.ofNat i) (Int32.ofNat a) (Int32.ofNat d) (Int32.ofNat j) t[j] (b01 (p ∧ gW t[j])) s = dm239_48 (dm239_14 n) (Int32.ofNat i) (b01 (p ∧ gW t[j])) (Int32.ofNat d) (Int32.ofNat j) t[j] (Int32.ofNat (if b01 (isL t[j]) = 0 then a else if d = 0 then a + 1 else a)) s := by
        unfold dm239_37 dm239_47
        rw [d198]
        simp only [bu_some]
        by_cases c : isL t[j]
        · rw [b01_t c, if_neg n10, if_neg n10]
          by_cases c0 : d = 0
          · rw [if_pos c0, if_pos (show Int32.ofNat d = 0 by rw [c0]; rfl), ofNat_succ (by omega)]
          · rw [if_neg c0, if_neg (show ¬ Int32.ofNat d = 0 from fun z => c0 ((neq_iff (b := 0) (by omega) (by omega)).mp z))]
        · rw [b01_f c, if_pos rfl, if_pos rfl]
      have ha1 : (if b01 (isL t[j]) = 0 then a else if d = 0 then a + 1 else a) ≤ j + 1 := by
        repeat' split
        all_goals omega
      have hd1 : (if b01 (isD t[j]) = 0 then d else d + 1) ≤ j + 1 := by split <;> omega
      rw [e38, e48 _ ha1, ih (j + 1) n _ _ (p ∧ gW t[j]) ha1 hd1 (by omega) (by omega)]
      have eq : ((p ∧ gW t[j]) ∧ ∀ x ∈ t.drop (j + 1), gW x) = (p ∧ ∀ x ∈ t.drop j, gW x) := by
        rw [ed]
        refine propext ⟨fun z => ⟨z.1.1, fun x hx => ?_⟩, fun z => ⟨⟨z.1, z.2 _ List.mem_cons_self⟩, fun x hx => z.2 x (List.mem_cons_of_mem _ hx)⟩⟩
        rcases List.mem_cons.mp hx with q | q
        · rw [q]
          exact z.1.2
        · exact z.2 x q
      have ec : cl3 (t.drop j) a d = cl3 (t.drop (j + 1)) (if b01 (isL t[j]) = 0 then a else if d = 0 then a + 1 else a) (if b01 (isD t[j]) = 0 then d else d + 1) := by
        rw [ed]
        rfl
      rw [eq, ec]
  have e0 : (32 : Int32) * Int32.ofNat i = Int32.ofNat (32 * i) := by
    have := iLin (i := i) (j := 0) (by omega) (by omega)
    rw [Nat.add_zero] at this
    rw [← this, show Int32.ofNat 0 = 0 from rfl, Int32.add_zero]
  have h0 : sI s 124 (jN (Int32.ofNat (32 * i))) = t[0] := by rw [jN_of (by omega)]; exact hT 0 (by omega)
  unfold dm239
  rw [e0, if_pos (aB_of (n := 256) (by omega) (by omega)), h0, d197]
  simp only [bu_some]
  refine Eq.trans (loop t.length 0 5000 0 0 (bW t[0]) (by omega) (by omega) (by omega) (by omega)) ?_
  rw [List.drop_zero]
  have q1 : (¬ (bW t[0] ∧ ∀ x ∈ t, gW x)) = (wEnd t 0 ≠ t.length) := by
    unfold wEnd
    rw [getD_in (show 0 < t.length by omega), List.drop_zero, Nat.zero_add]
    refine propext ⟨fun z w => z ?_, fun z w => z ?_⟩
    · by_cases c : bW t[0]
      · rw [b01_t c, if_neg n10] at w
        exact ⟨c, (cnt_all t).mp w⟩
      · rw [b01_f c, if_pos rfl] at w
        omega
    · rw [b01_t w.1, if_neg n10]
      exact (cnt_all t).mpr w.2
  have q2 : (A4 ∨ A5) = (trI t 0 t.length ≠ -1) := by
    rw [← hA4, ← hA5]
    unfold trI
    rw [Nat.zero_add, Nat.zero_add]
    by_cases c4 : t.length = 4 ∧ spQ t trL 0 4 0
    · rw [if_pos ⟨c4.1, b01_t c4.2⟩]
      exact propext ⟨fun _ => by decide, fun _ => Or.inl c4⟩
    · rw [if_neg (fun z => c4 ⟨z.1, Classical.byContradiction fun y => by have := b01_f y; rw [this] at z; exact absurd z.2 (by decide)⟩)]
      by_cases c5 : t.length = 5 ∧ spQ t faL 0 5 0
      · rw [if_pos ⟨c5.1, b01_t c5.2⟩]
        exact propext ⟨fun _ => by decide, fun _ => Or.inr c5⟩
      · rw [if_neg (fun z => c5 ⟨z.1, Classical.byContradiction fun y => by have := b01_f y; rw [this] at z; exact absurd z.2 (by decide)⟩)]
        exact propext ⟨fun z => z.elim (fun y => absurd y c4) (fun y => absurd y c5), fun z => absurd rfl z⟩
  have q3 : (1 ≤ (cl3 t 0 0).1 ∧ (cl3 t 0 0).1 ≤ 3 ∧ 0 < (cl3 t 0 0).2 ∧ (cl3 t 0 0).1 + (cl3 t 0 0).2 = t.length) = likeCell t := propext cl3_c
  rw [q1, q3]
  have q4 : (wEnd t 0 ≠ t.length ∨ likeCell t ∨ A4 ∨ A5) = qtP t := by
    rw [q2]
    unfold qtP
    exact propext ⟨fun z => z.elim Or.inl (fun y => y.elim (fun x => Or.inr (Or.inr x)) (fun x => Or.inr (Or.inl x))), fun z => z.elim Or.inl (fun y => y.elim (fun x => Or.inr (Or.inr x)) (fun x => Or.inr (Or.inl x)))⟩
  rw [q4]
