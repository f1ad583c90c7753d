/-! same in FormulaTrees -/
set_option maxRecDepth 100000 in
theorem d165l {s : aS} {b0 b1 : Nat} {x2 : Int32} {a b : List Int32} (h10 : dm57 b0 x2 10 s = some (Int32.ofNat a.length)) (ha : ∀ k : Int32, 0 ≤ k.toInt → dm144 b0 x2 k s = some (a.getD k.toInt.toNat (-1))) (hb : ∀ k : Int32, 0 ≤ k.toInt → dm144 b1 x2 k s = some (b.getD k.toInt.toNat (-1))) (hl : a.length = b.length) (la : a.length ≤ 256) : ∀ (m j n : Nat), j + m = a.length → m + 1 < n → dm165_37 n b0 b1 x2 1 (Int32.ofNat j) s = some (b01 (a.drop j = b.drop j)) := by
  intro m
  induction m with
  | zero =>
    intro j n hj hn
    obtain ⟨n, rfl⟩ : ∃ q, n = q + 1 := ⟨n - 1, by omega⟩
    rw [dm165_37, h10]
    simp only [bu_some]
    rw [if_pos (by rw [iLe, iOfNat (by omega), iOfNat (by omega)]; omega), if_pos (Or.inr trivial), b01_t]
    rw [List.drop_eq_nil_of_le (by omega), List.drop_eq_nil_of_le (by omega)]
  | succ m ih =>
    intro j n hj hn
    obtain ⟨n, rfl⟩ : ∃ q, n = q + 1 := ⟨n - 1, by omega⟩
    have ej : (Int32.ofNat j).toInt = j := iOfNat (by omega)
    have en : ((j : Int)).toNat = j := by omega
    have q1 : j < a.length := by omega
    have q2 : j < b.length := by omega
    rw [dm165_37, h10]
    simp only [bu_some]
    rw [if_neg (by rw [iLe, iOfNat (by omega), iOfNat (by omega)]; omega), if_neg (by decide), ha _ (by omega), hb _ (by omega), ej, en, getD_in q1, getD_in q2]
    simp only [bu_some]
    unfold dm165_57
    rw [ofNat_succ (by omega), List.drop_eq_getElem_cons q1, List.drop_eq_getElem_cons q2]
    by_cases q : a[j] = b[j]
    · rw [if_pos q, ih (j + 1) n (by omega) (by omega)]
      congr 1
      exact b01_c ⟨fun z => by rw [q, z], fun z => (List.cons.inj z).2⟩
    · rw [if_neg q, b01_f (fun z => q (List.cons.inj z).1)]
      obtain ⟨n, rfl⟩ : ∃ q, n = q + 1 := ⟨n - 1, by omega⟩
      rw [dm165_37, h10]
      simp only [bu_some]
      split
      · rw [if_pos (Or.inl trivial)]
      · rw [if_pos trivial, if_pos (Or.inl trivial)]
set_option maxRecDepth 100000 in
theorem d165f {s : aS} {b0 b1 : Nat} {x2 : Int32} {d e : Nd} (ha : ∀ w, w < 9 → dm57 b0 x2 (Int32.ofNat w) s = some (d w)) (hb : ∀ w, w < 9 → dm57 b1 x2 (Int32.ofNat w) s = some (e w)) : ∀ (m w n : Nat) (p : Prop), w + m = 9 → m < n → dm165_15 n b0 b1 x2 (b01 p) (Int32.ofNat w) s = dm165_35 b0 b1 x2 (b01 (p ∧ ∀ v, w ≤ v → v < 9 → d v = e v)) s := by
  intro m
  induction m with
  | zero =>
    intro w n p hw hn
    obtain ⟨n, rfl⟩ : ∃ q, n = q + 1 := ⟨n - 1, by omega⟩
    rw [dm165_15, if_pos (by rw [iLe, iOfNat (by omega)]; show (9 : Int) ≤ w; omega), b01_c (show p ↔ (p ∧ ∀ v, w ≤ v → v < 9 → d v = e v) from ⟨fun q => ⟨q, fun v h1 h2 => by omega⟩, fun q => q.1⟩)]
  | succ m ih =>
    intro w n p hw hn
    obtain ⟨n, rfl⟩ : ∃ q, n = q + 1 := ⟨n - 1, by omega⟩
    have hT := ih (w + 1) n True (by omega) (by omega)
    have hF := ih (w + 1) n False (by omega) (by omega)
    rw [b01_t trivial] at hT
    rw [b01_f id] at hF
    rw [dm165_15, if_neg (by rw [iLe, iOfNat (by omega)]; show ¬ (9 : Int) ≤ w; omega), ha w (by omega), hb w (by omega)]
    simp only [bu_some]
    unfold dm165_32
    rw [ofNat_succ (by omega), hT, hF]
    by_cases hp : p
    · rw [b01_t hp, if_neg (by decide)]
      by_cases q : d w = e w
      · rw [if_pos q, b01_c (show (True ∧ ∀ v, w + 1 ≤ v → v < 9 → d v = e v) ↔ (p ∧ ∀ v, w ≤ v → v < 9 → d v = e v) from ⟨fun z => ⟨hp, fun v h1 h2 => by
          by_cases hv : v = w
          · rw [hv]; exact q
          · exact z.2 v (by omega) h2⟩, fun z => ⟨trivial, fun v h1 h2 => z.2 v (by omega) h2⟩⟩)]
      · rw [if_neg q, b01_c (show (False ∧ ∀ v, w + 1 ≤ v → v < 9 → d v = e v) ↔ (p ∧ ∀ v, w ≤ v → v < 9 → d v = e v) from ⟨fun z => absurd z.1 id, fun z => absurd (z.2 w (Nat.le_refl _) (by omega)) q⟩)]
    · rw [b01_f hp, if_pos rfl, b01_f (p := p ∧ ∀ v, w ≤ v → v < 9 → d v = e v) (fun z => hp z.1)]
set_option maxRecDepth 100000 in
theorem d165 {s : aS} {b0 b1 : Nat} {x2 : Int32} {d e : Nd} {a b : List Int32} (ha : ∀ w, w < 9 → dm57 b0 x2 (Int32.ofNat w) s = some (d w)) (hb : ∀ w, w < 9 → dm57 b1 x2 (Int32.ofNat w) s = some (e w)) (h0 : dm57 b0 x2 10 s = some (Int32.ofNat a.length)) (h1 : dm57 b1 x2 10 s = some (Int32.ofNat b.length)) (ga : ∀ k : Int32, 0 ≤ k.toInt → dm144 b0 x2 k s = some (a.getD k.toInt.toNat (-1))) (gb : ∀ k : Int32, 0 ≤ k.toInt → dm144 b1 x2 k s = some (b.getD k.toInt.toNat (-1))) (la : a.length ≤ 256) (lb : b.length ≤ 256) : dm165 b0 b1 x2 s = some (b01 (smP d e a b)) := by
  have zero : dm165_35 b0 b1 x2 0 s = some 0 := by
    unfold dm165_35
    rw [dm165_37, h0]
    simp only [bu_some]
    split
    · rw [if_pos (Or.inl trivial)]
    · rw [if_pos trivial, if_pos (Or.inl trivial)]
  unfold dm165 dm165_12
  rw [h0, h1]
  simp only [bu_some]
  by_cases hl : a.length = b.length
  · rw [if_pos (by rw [hl])]
    have k := d165f ha hb 9 0 5000 True (by omega) (by omega)
    rw [b01_t trivial] at k
    have k : dm165_15 5000 b0 b1 x2 1 0 s = _ := k
    rw [k]
    by_cases q : True ∧ ∀ v, 0 ≤ v → v < 9 → d v = e v
    · rw [b01_t q]
      unfold dm165_35
      have k2 := d165l h0 ga gb hl la a.length 0 5000 (by omega) (by omega)
      have k2 : dm165_37 5000 b0 b1 x2 1 0 s = _ := k2
      rw [k2, List.drop_zero, List.drop_zero]
      congr 1
      exact b01_c ⟨fun z => ⟨fun v hv => q.2 v (Nat.zero_le _) hv, z⟩, fun z => z.2⟩
    · rw [b01_f q, zero, b01_f (p := smP d e a b) (fun z => q ⟨trivial, fun v _ hv => z.1 v hv⟩)]
  · rw [if_neg (by rw [iEq, iOfNat (by omega), iOfNat (by omega)]; omega)]
    have k := d165f ha hb 9 0 5000 False (by omega) (by omega)
    rw [b01_f id] at k
    have k : dm165_15 5000 b0 b1 x2 0 0 s = _ := k
    rw [k, b01_f (fun z => z.1), zero, b01_f (p := smP d e a b) (fun z => hl (by rw [z.2]))]
