/-! letters read, great letters, names compared -/
def gr (x : Int32) : Int32 := if x < 97 then x else if 122 < x then x else x - 32
set_option maxRecDepth 100000 in
theorem d178 (x : Int32) : dm178 x = some (gr x) := by
  unfold dm178 gr
  split
  · rfl
  · split <;> rfl
set_option maxRecDepth 100000 in
theorem d35 (x : Int32) : dm35 x = some (gr x) := by
  unfold dm35 gr
  have e : (x - 97) + 65 = x - 32 := by
    rw [Int32.sub_eq_add_neg, Int32.sub_eq_add_neg, Int32.add_assoc]
    rfl
  split
  · rfl
  · split
    · rfl
    · rw [e]
set_option maxRecDepth 100000 in
theorem d34 {s : aS} {b i : Nat} {t : List Int32} (h : LT s b t) (hT : t.length ≤ (sT s (b + 1)).2) (hm : t.length < 2147483648) (hi : i < 2147483648) : dm34 b (Int32.ofNat i) s = some (t.getD i (-1)) := by
  have e1 : (Int32.ofNat i).toInt = i := iOfNat hi
  have e2 : (Int32.ofNat t.length).toInt = t.length := iOfNat hm
  unfold dm34
  rw [if_neg (by rw [iLt, e1]; show ¬ (i : Int) < 0; omega), h.n]
  by_cases hl : t.length ≤ i
  · rw [if_pos (by rw [iLe, e1, e2]; omega)]
    simp [List.getD, List.getElem?_eq_none hl]
  · rw [if_neg (by rw [iLe, e1, e2]; omega), if_pos (by rw [aB_iff, e1]; omega), jN_eq, e1, h.c _ (by omega)]
    simp [List.getD, List.getElem?_eq_getElem (by omega : i < t.length)]
/-- the same letters, small and great ones being no matter -/
def lk (t u : List Int32) : Prop := t.map gr = u.map gr
set_option maxRecDepth 100000 in
theorem lk_dec (t u : List Int32) : lk t u ∨ ¬ lk t u := Classical.em _
set_option maxRecDepth 100000 in
noncomputable def b01 (p : Prop) : Int32 := @ite _ p (Classical.propDecidable p) 1 0
set_option maxRecDepth 100000 in
theorem b01_t {p : Prop} (h : p) : b01 p = 1 := by unfold b01; exact if_pos h
set_option maxRecDepth 100000 in
theorem b01_f {p : Prop} (h : ¬ p) : b01 p = 0 := by unfold b01; exact if_neg h
set_option maxRecDepth 100000 in
theorem b01_c {p q : Prop} (h : p ↔ q) : b01 p = b01 q := by rw [propext h]
set_option maxRecDepth 100000 in
theorem d33l {s : aS} {b c : Nat} {t u : List Int32} (h : LT s b t) (g : LT s c u) (hT : t.length ≤ (sT s (b + 1)).2) (hU : u.length ≤ (sT s (c + 1)).2) (he : t.length = u.length) (hm : t.length < 1000000) : ∀ (m i n : Nat), i + m = t.length → m < n → dm33_11 n b c 1 (Int32.ofNat i) s = some (b01 ((t.drop i).map gr = (u.drop i).map gr)) := by
  intro m
  induction m with
  | zero =>
    intro i n hi hn
    obtain ⟨n, rfl⟩ : ∃ k, n = k + 1 := ⟨n - 1, by omega⟩
    rw [dm33_11, h.n, if_pos (by rw [iLe, iOfNat (by omega), iOfNat (by omega)]; omega), if_pos (Or.inr rfl), b01_t]
    rw [List.drop_eq_nil_of_le (by omega), List.drop_eq_nil_of_le (by omega)]
  | succ m ih =>
    intro i n hi hn
    obtain ⟨n, rfl⟩ : ∃ k, n = k + 1 := ⟨n - 1, by omega⟩
    have h1 : i < t.length := by omega
    have h2 : i < u.length := by omega
    rw [dm33_11, h.n, if_neg (by rw [iLe, iOfNat (by omega), iOfNat (by omega)]; omega), if_neg (by decide), d34 h hT (by omega) (by omega), d34 g hU (by omega) (by omega)]
    simp only [bu_some, d35]
    unfold dm33_29
    rw [ofNat_succ (by omega)]
    have e1 : t.getD i (-1) = t[i] := by simp [List.getD, List.getElem?_eq_getElem h1]
    have e2 : u.getD i (-1) = u[i] := by simp [List.getD, List.getElem?_eq_getElem h2]
    rw [e1, e2, List.drop_eq_getElem_cons h1, List.drop_eq_getElem_cons h2, List.map_cons, List.map_cons]
    by_cases hq : gr t[i] = gr u[i]
    · rw [if_pos hq, ih (i + 1) n (by omega) (by omega)]
      congr 1
      refine b01_c ⟨fun q => by rw [hq, q], fun q => (List.cons.inj q).2⟩
    · rw [if_neg hq, b01_f (fun q => hq (List.cons.inj q).1)]
      obtain ⟨n, rfl⟩ : ∃ k, n = k + 1 := ⟨n - 1, by omega⟩
      rw [dm33_11]
      split
      · rw [if_pos (Or.inl rfl)]
      · rw [if_pos rfl, if_pos (Or.inl rfl)]
set_option maxRecDepth 100000 in
theorem d33 {s : aS} {b c : Nat} {t u : List Int32} (h : LT s b t) (g : LT s c u) (hT : t.length ≤ (sT s (b + 1)).2) (hU : u.length ≤ (sT s (c + 1)).2) (hm : t.length < 4000) (hu : u.length < 1000000) : dm33 b c s = some (b01 (lk t u)) := by
  unfold dm33 dm28 dm33_8
  simp only [bu_some]
  rw [h.n, g.n]
  by_cases he : t.length = u.length
  · rw [if_pos (by rw [he]), show (0 : Int32) = Int32.ofNat 0 from rfl, d33l h g hT hU he (by omega) t.length 0 5000 (by omega) (by omega)]
    rfl
  · rw [if_neg, dm33_11, b01_f]
    · split
      · rw [if_pos (Or.inl rfl)]
      · rw [if_pos rfl, if_pos (Or.inl rfl)]
    · intro q
      exact he (by have := congrArg List.length q; simpa using this)
    · intro q
      have := congrArg Int32.toInt q
      rw [iOfNat (by omega), iOfNat (by omega)] at this
      omega
