/-! signs, words, texts of their own -/
def isL (x : Int32) : Prop := (65 ≤ x.toInt ∧ x.toInt ≤ 90) ∨ (97 ≤ x.toInt ∧ x.toInt ≤ 122)
def isD (x : Int32) : Prop := 48 ≤ x.toInt ∧ x.toInt ≤ 57
def bW (x : Int32) : Prop := isL x ∨ x = 95
def gW (x : Int32) : Prop := isL x ∨ isD x ∨ x = 95 ∨ x = 46
set_option maxRecDepth 100000 in
theorem d45 (x : Int32) : dm45 x = some (b01 (isL x)) := by
  unfold dm45 dm45_6 dm45_12
  have l1 : x < 65 ↔ x.toInt < 65 := iLt
  have l2 : x ≤ 90 ↔ x.toInt ≤ 90 := iLe
  have l3 : x < 97 ↔ x.toInt < 97 := iLt
  have l4 : 122 < x ↔ 122 < x.toInt := iLt
  by_cases h1 : x < 65
  · rw [if_pos h1, if_pos (l3.mpr (by have := l1.mp h1; omega)), b01_f]
    unfold isL
    have := l1.mp h1
    omega
  · rw [if_neg h1]
    have h1 : ¬ x.toInt < 65 := fun q => h1 (l1.mpr q)
    by_cases h2 : x ≤ 90
    · rw [if_pos h2, b01_t]
      exact Or.inl ⟨by omega, l2.mp h2⟩
    · rw [if_neg h2]
      have h2 : ¬ x.toInt ≤ 90 := fun q => h2 (l2.mpr q)
      by_cases h3 : x < 97
      · rw [if_pos h3, b01_f]
        unfold isL
        have := l3.mp h3
        omega
      · rw [if_neg h3]
        have h3 : ¬ x.toInt < 97 := fun q => h3 (l3.mpr q)
        by_cases h4 : 122 < x
        · rw [if_pos h4, b01_f]
          unfold isL
          have := l4.mp h4
          omega
        · rw [if_neg h4, b01_t]
          have h4 : ¬ 122 < x.toInt := fun q => h4 (l4.mpr q)
          exact Or.inr ⟨by omega, by omega⟩
set_option maxRecDepth 100000 in
theorem d47 (x : Int32) : dm47 x = some (b01 (isD x)) := by
  unfold dm47
  have l1 : x < 48 ↔ x.toInt < 48 := iLt
  have l2 : 57 < x ↔ 57 < x.toInt := iLt
  by_cases h1 : x < 48
  · rw [if_pos h1, b01_f]
    unfold isD
    have := l1.mp h1
    omega
  · rw [if_neg h1]
    have h1 : ¬ x.toInt < 48 := fun q => h1 (l1.mpr q)
    by_cases h2 : 57 < x
    · rw [if_pos h2, b01_f]
      unfold isD
      have := l2.mp h2
      omega
    · rw [if_neg h2, b01_t]
      have h2 : ¬ 57 < x.toInt := fun q => h2 (l2.mpr q)
      exact ⟨by omega, by omega⟩
set_option maxRecDepth 100000 in
theorem d44 (x : Int32) : dm44 x = some (b01 (bW x)) := by
  unfold dm44 dm44_6
  rw [d45]
  simp only [bu_some]
  by_cases h1 : isL x
  · rw [b01_t h1, if_neg (by decide), b01_t (show bW x from Or.inl h1)]
  · rw [b01_f h1, if_pos rfl]
    by_cases h2 : x = 95
    · rw [if_pos h2, b01_t (show bW x from Or.inr h2)]
    · rw [if_neg h2, b01_f (p := bW x)]
      rintro (q | q)
      · exact h1 q
      · exact h2 q
set_option maxRecDepth 100000 in
theorem d46 (x : Int32) : dm46 x = some (b01 (gW x)) := by
  unfold dm46 dm46_12
  rw [d45, d47]
  simp only [bu_some]
  by_cases h1 : isL x
  · rw [b01_t h1, if_neg (by decide), b01_t (show gW x from Or.inl h1)]
  · rw [b01_f h1, if_pos rfl]
    by_cases h2 : isD x
    · rw [b01_t h2, if_neg (by decide), b01_t (show gW x from Or.inr (Or.inl h2))]
    · rw [b01_f h2, if_pos rfl]
      by_cases h3 : x = 95
      · rw [if_pos h3, b01_t (show gW x from Or.inr (Or.inr (Or.inl h3)))]
      · rw [if_neg h3]
        by_cases h4 : x = 46
        · rw [if_pos h4, b01_t (show gW x from Or.inr (Or.inr (Or.inr h4)))]
        · rw [if_neg h4, b01_f]
          rintro (q | q | q | q)
          · exact h1 q
          · exact h2 q
          · exact h3 q
          · exact h4 q
set_option maxRecDepth 100000 in
/-- how many from the first on are such -/
noncomputable def cntF (p : Int32 → Prop) : List Int32 → Nat
  | [] => 0
  | x :: r => if b01 (p x) = 0 then 0 else cntF p r + 1
set_option maxRecDepth 100000 in
theorem cntF_le (p : Int32 → Prop) : ∀ t, cntF p t ≤ t.length
  | [] => Nat.le_refl _
  | x :: r => by
    have := cntF_le p r
    show (if b01 (p x) = 0 then 0 else cntF p r + 1) ≤ r.length + 1
    split <;> omega
set_option maxRecDepth 100000 in
theorem b01_ne {p : Prop} : b01 p = 0 ↔ ¬ p := by
  by_cases h : p
  · rw [b01_t h]; exact ⟨fun q => absurd q (by decide), fun q => absurd h q⟩
  · rw [b01_f h]; exact ⟨fun _ => h, fun _ => rfl⟩
set_option maxRecDepth 100000 in
theorem d43l {s : aS} {b : Nat} {t : List Int32} (h : LT s b t) (hT : t.length ≤ (sT s (b + 1)).2) (hm : t.length < 1000000) : ∀ (m i n : Nat), i + m = t.length → m < n → dm43_7 n b (Int32.ofNat i) s = some (Int32.ofNat (i + cntF gW (t.drop i))) := by
  intro m
  induction m with
  | zero =>
    intro i n hi hn
    obtain ⟨n, rfl⟩ : ∃ k, n = k + 1 := ⟨n - 1, by omega⟩
    rw [dm43_7, h.n, if_pos (by rw [iLe, iOfNat (by omega), iOfNat (by omega)]; omega), List.drop_eq_nil_of_le (by omega)]
    rfl
  | succ m ih =>
    intro i n hi hn
    obtain ⟨n, rfl⟩ : ∃ k, n = k + 1 := ⟨n - 1, by omega⟩
    have h1 : i < t.length := by omega
    have e1 : t.getD i (-1) = t[i] := by simp [List.getD, List.getElem?_eq_getElem h1]
    rw [dm43_7, h.n, if_neg (by rw [iLe, iOfNat (by omega), iOfNat (by omega)]; omega), d34 h hT (by omega) (by omega)]
    simp only [bu_some, d46]
    rw [e1, List.drop_eq_getElem_cons h1, ofNat_succ (by omega), ih (i + 1) n (by omega) (by omega)]
    show _ = some (Int32.ofNat (i + (if b01 (gW t[i]) = 0 then 0 else cntF gW (t.drop (i + 1)) + 1)))
    split
    · rfl
    · rw [show i + 1 + cntF gW (t.drop (i + 1)) = i + (cntF gW (t.drop (i + 1)) + 1) by omega]
set_option maxRecDepth 100000 in
/-- where a word that begins at i ends -/
noncomputable def wEnd (t : List Int32) (i : Nat) : Nat := if b01 (bW (t.getD i (-1))) = 0 then i else i + cntF gW (t.drop i)
set_option maxRecDepth 100000 in
theorem d43 {s : aS} {b i : Nat} {t : List Int32} (h : LT s b t) (hT : t.length ≤ (sT s (b + 1)).2) (hm : t.length < 4000) (hi : i ≤ t.length) : dm43 b (Int32.ofNat i) s = some (Int32.ofNat (wEnd t i)) := by
  unfold dm43 wEnd
  rw [d34 h hT (by omega) (by omega)]
  simp only [bu_some, d44]
  rw [d43l h hT (by omega) (t.length - i) i 5000 (by omega) (by omega)]
  split <;> rfl
set_option maxRecDepth 100000 in
theorem d50b {s : aS} {b i : Nat} {t : List Int32} (h : LT s b t) (hT : t.length ≤ (sT s (b + 1)).2) (hm : t.length < 4000) (hi : i ≤ t.length) : ∀ (m j n : Nat), j + m = t.length → m < n → dm50_15 n b (Int32.ofNat i) (Int32.ofNat j) s = dm50_26 b (Int32.ofNat i) (Int32.ofNat (j + cntF isD (t.drop j))) s := by
  intro m
  induction m with
  | zero =>
    intro j n hj hn
    obtain ⟨n, rfl⟩ : ∃ k, n = k + 1 := ⟨n - 1, by omega⟩
    rw [dm50_15]
    unfold dm28
    simp only [bu_some]
    rw [h.n, if_pos (by rw [iLe, iOfNat (by omega), iOfNat (by omega)]; omega), List.drop_eq_nil_of_le (by omega)]
    rfl
  | succ m ih =>
    intro j n hj hn
    obtain ⟨n, rfl⟩ : ∃ k, n = k + 1 := ⟨n - 1, by omega⟩
    have h1 : j < t.length := by omega
    have e1 : t.getD j (-1) = t[j] := by simp [List.getD, List.getElem?_eq_getElem h1]
    rw [dm50_15]
    unfold dm28
    simp only [bu_some]
    rw [h.n, if_neg (by rw [iLe, iOfNat (by omega), iOfNat (by omega)]; omega), d34 h hT (by omega) (by omega)]
    simp only [bu_some, d47]
    rw [e1, List.drop_eq_getElem_cons h1, ofNat_succ (by omega), ih (j + 1) n (by omega) (by omega)]
    show _ = dm50_26 b (Int32.ofNat i) (Int32.ofNat (j + (if b01 (isD t[j]) = 0 then 0 else cntF isD (t.drop (j + 1)) + 1))) s
    split
    · rfl
    · rw [show j + 1 + cntF isD (t.drop (j + 1)) = j + (cntF isD (t.drop (j + 1)) + 1) by omega]
set_option maxRecDepth 100000 in
theorem d50a {s : aS} {b : Nat} {t : List Int32} (h : LT s b t) (hT : t.length ≤ (sT s (b + 1)).2) (hm : t.length < 4000) : ∀ (m j n : Nat), j + m = t.length → m < n → dm50_2 n b (Int32.ofNat j) s = dm50_13 b (Int32.ofNat (j + cntF isL (t.drop j))) s := by
  intro m
  induction m with
  | zero =>
    intro j n hj hn
    obtain ⟨n, rfl⟩ : ∃ k, n = k + 1 := ⟨n - 1, by omega⟩
    rw [dm50_2]
    unfold dm28
    simp only [bu_some]
    rw [h.n, if_pos (by rw [iLe, iOfNat (by omega), iOfNat (by omega)]; omega), List.drop_eq_nil_of_le (by omega)]
    rfl
  | succ m ih =>
    intro j n hj hn
    obtain ⟨n, rfl⟩ : ∃ k, n = k + 1 := ⟨n - 1, by omega⟩
    have h1 : j < t.length := by omega
    have e1 : t.getD j (-1) = t[j] := by simp [List.getD, List.getElem?_eq_getElem h1]
    rw [dm50_2]
    unfold dm28
    simp only [bu_some]
    rw [h.n, if_neg (by rw [iLe, iOfNat (by omega), iOfNat (by omega)]; omega), d34 h hT (by omega) (by omega)]
    simp only [bu_some, d45]
    rw [e1, List.drop_eq_getElem_cons h1, ofNat_succ (by omega), ih (j + 1) n (by omega) (by omega)]
    show _ = dm50_13 b (Int32.ofNat (j + (if b01 (isL t[j]) = 0 then 0 else cntF isL (t.drop (j + 1)) + 1))) s
    split
    · rfl
    · rw [show j + 1 + cntF isL (t.drop (j + 1)) = j + (cntF isL (t.drop (j + 1)) + 1) by omega]
/-- one to three letters, then digits alone -/
def likeCell (t : List Int32) : Prop := 1 ≤ cntF isL t ∧ cntF isL t ≤ 3 ∧ 0 < cntF isD (t.drop (cntF isL t)) ∧ cntF isL t + cntF isD (t.drop (cntF isL t)) = t.length
set_option maxRecDepth 100000 in
theorem d50 {s : aS} {b : Nat} {t : List Int32} (h : LT s b t) (hT : t.length ≤ (sT s (b + 1)).2) (hm : t.length < 4000) : dm50 b s = some (b01 (likeCell t)) := by
  have a := d50a h hT hm t.length 0 5000 (by omega) (by omega)
  rw [List.drop_zero, Nat.zero_add] at a
  have hl := cntF_le isL t
  have hd := cntF_le isD (t.drop (cntF isL t))
  rw [List.length_drop] at hd
  unfold dm50
  rw [show (0 : Int32) = Int32.ofNat 0 from rfl, a]
  unfold dm50_13
  rw [d50b h hT hm hl (t.length - cntF isL t) _ 5000 (by omega) (by omega)]
  unfold dm50_26 dm28
  simp only [bu_some]
  have e1 : (Int32.ofNat (cntF isL t)).toInt = cntF isL t := iOfNat (by omega)
  have e2 : (Int32.ofNat (cntF isL t + cntF isD (t.drop (cntF isL t)))).toInt = ((cntF isL t + cntF isD (t.drop (cntF isL t)) : Nat) : Int) := iOfNat (by omega)
  have e3 : (Int32.ofNat t.length).toInt = t.length := iOfNat (by omega)
  rw [h.n]
  unfold likeCell
  by_cases c1 : 1 ≤ cntF isL t
  · rw [if_neg (by rw [iLt, e1]; show ¬ (cntF isL t : Int) < 1; omega)]
    by_cases c2 : cntF isL t ≤ 3
    · rw [if_neg (by rw [iLt, e1]; show ¬ (3 : Int) < cntF isL t; omega)]
      by_cases c3 : 0 < cntF isD (t.drop (cntF isL t))
      · rw [if_neg (by rw [iLe, e1, e2]; omega)]
        by_cases c4 : cntF isL t + cntF isD (t.drop (cntF isL t)) = t.length
        · rw [if_pos (by rw [c4]), b01_t ⟨c1, c2, c3, c4⟩]
        · rw [if_neg (by rw [iEq, e2, e3]; omega), b01_f (fun q => c4 q.2.2.2)]
      · rw [if_pos (by rw [iLe, e1, e2]; omega), b01_f (fun q => c3 q.2.2.1)]
    · rw [if_pos (by rw [iLt, e1]; show (3 : Int) < cntF isL t; omega), b01_f (fun q => c2 q.2.1)]
  · rw [if_pos (by rw [iLt, e1]; show (cntF isL t : Int) < 1; omega), b01_f (fun q => c1 q.1)]
