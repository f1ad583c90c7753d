/-! the reference's isName -/
set_option maxRecDepth 100000 in
theorem d176 {s : aS} {t : List Int32} {i : Nat} (h : MT s t) (hl : t.length ≤ 256) (hi : i < 100000) : dm176 (Int32.ofNat i) s = some (t.getD i 0) := by
  unfold dm176
  rw [h.1]
  by_cases hq : t.length ≤ i
  · rw [if_pos (by rw [iLe, iOfNat (by omega), iOfNat (by omega)]; omega)]
    simp [List.getD, List.getElem?_eq_none hq]
  · rw [if_neg (by rw [iLe, iOfNat (by omega), iOfNat (by omega)]; omega), if_pos (by rw [aB_iff, iOfNat (by omega)]; omega), jN_of (by omega), h.2 i (by omega)]
    simp [List.getD, List.getElem?_eq_getElem (by omega : i < t.length)]
set_option maxRecDepth 100000 in
theorem d175l {s : aS} {t : List Int32} (h : MT s t) (hl : t.length ≤ 256) : ∀ (m i n : Nat) (p : Prop), i + m = t.length → m + 1 < n → dm175_27 n (b01 p) (Int32.ofNat i) s = some (b01 (p ∧ ∀ x ∈ t.drop i, x ∉ nmL)) := by
  intro m
  have b0 : ∀ p : Prop, b01 p = 0 ∨ b01 p = 1 := fun p => by
    by_cases hp : p
    · exact Or.inr (b01_t hp)
    · exact Or.inl (b01_f hp)
  induction m with
  | zero =>
    intro i n p hi hn
    obtain ⟨n, rfl⟩ : ∃ k, n = k + 1 := ⟨n - 1, by omega⟩
    rw [dm175_27, h.1, if_pos (by rw [iLe, iOfNat (by omega), iOfNat (by omega)]; omega), if_pos (b0 p), List.drop_eq_nil_of_le (by omega)]
    congr 1
    exact b01_c ⟨fun q => ⟨q, fun x hx => by cases hx⟩, fun q => q.1⟩
  | succ m ih =>
    intro i n p hi hn
    obtain ⟨n, rfl⟩ : ∃ k, n = k + 1 := ⟨n - 1, by omega⟩
    have hq : i < t.length := by omega
    by_cases hp : p
    · rw [dm175_27, h.1, if_neg (by rw [iLe, iOfNat (by omega), iOfNat (by omega)]; omega), b01_t hp, if_neg (by decide), if_pos (by rw [aB_iff, iOfNat (by omega)]; omega), jN_of (by omega), h.2 i hq]
      unfold dm175_61 dm175_62
      rw [ofNat_succ (by omega), List.drop_eq_getElem_cons hq]
      have hF := ih (i + 1) n False (by omega) (by omega)
      have hT := ih (i + 1) n True (by omega) (by omega)
      rw [b01_f id] at hF
      rw [b01_t trivial] at hT
      have hbad : t[i] ∈ nmL → some (b01 (False ∧ ∀ x ∈ t.drop (i + 1), x ∉ nmL)) = some (b01 (p ∧ ∀ x ∈ t[i] :: t.drop (i + 1), x ∉ nmL)) := fun z => by
        congr 1
        exact b01_c ⟨fun q => absurd q.1 id, fun q => absurd z (q.2 _ List.mem_cons_self)⟩
      rw [hF, hT]
      by_cases c1 : t[i] = 58
      · rw [if_pos c1]; exact hbad (by rw [c1]; decide)
      · rw [if_neg c1]
        by_cases c2 : t[i] = 92
        · rw [if_pos c2]; exact hbad (by rw [c2]; decide)
        · rw [if_neg c2]
          by_cases c3 : t[i] = 47
          · rw [if_pos c3]; exact hbad (by rw [c3]; decide)
          · rw [if_neg c3]
            by_cases c4 : t[i] = 63
            · rw [if_pos c4]; exact hbad (by rw [c4]; decide)
            · rw [if_neg c4]
              by_cases c5 : t[i] = 42
              · rw [if_pos c5]; exact hbad (by rw [c5]; decide)
              · rw [if_neg c5]
                by_cases c6 : t[i] = 91
                · rw [if_pos c6]; exact hbad (by rw [c6]; decide)
                · rw [if_neg c6]
                  by_cases c7 : t[i] = 93
                  · rw [if_pos c7]; exact hbad (by rw [c7]; decide)
                  · rw [if_neg c7]
                    congr 1
                    refine b01_c ⟨fun q => ⟨hp, fun x hx => ?_⟩, fun q => ⟨trivial, fun x hx => q.2 x (List.mem_cons_of_mem _ hx)⟩⟩
                    rcases List.mem_cons.mp hx with rfl | hx
                    · intro z
                      simp [nmL] at z
                      rcases z with z | z | z | z | z | z | z
                      · exact c1 z
                      · exact c2 z
                      · exact c3 z
                      · exact c4 z
                      · exact c5 z
                      · exact c6 z
                      · exact c7 z
                    · exact q.2 x hx
    · have e : b01 (p ∧ ∀ x ∈ t.drop i, x ∉ nmL) = 0 := b01_f fun q => hp q.1
      rw [e, dm175_27, b01_f hp]
      split
      · rw [if_pos (Or.inl rfl)]
      · rw [if_pos rfl, if_pos (Or.inl rfl)]
set_option maxRecDepth 100000 in
theorem d175 {s : aS} {t : List Int32} (h : MT s t) (hl : t.length ≤ 256) : dm175 s = some (b01 (nmP t)) := by
  have e : (Int32.ofNat t.length).toInt = t.length := iOfNat (by omega)
  have z : ∀ p : Prop, ¬ p → dm175_23 s = some (b01 p) := by
    intro p hp
    unfold dm175_23 dm175_24
    have := d175l h hl t.length 0 5000 False (by omega) (by omega)
    rw [b01_f id] at this
    rw [show (0 : Int32) = Int32.ofNat 0 from rfl] at this ⊢
    rw [this]
    congr 1
    exact b01_c ⟨fun q => absurd q.1 id, fun q => absurd q hp⟩
  unfold dm175
  rw [h.1]
  by_cases h1 : 1 ≤ t.length
  · rw [if_neg (by rw [iLt, e]; show ¬ (t.length : Int) < 1; omega)]
    by_cases h2 : t.length ≤ 31
    · rw [if_neg (by rw [iLt, e]; show ¬ (31 : Int) < t.length; omega), show dm176 0 s = dm176 (Int32.ofNat 0) s from rfl, d176 h hl (by omega)]
      simp only [bu_some]
      have g0 : t.getD 0 0 = t.getD 0 (-1) := by simp [List.getD, List.getElem?_eq_getElem (by omega : 0 < t.length)]
      have g1 : t.getD (t.length - 1) 0 = t.getD (t.length - 1) (-1) := by simp [List.getD, List.getElem?_eq_getElem (by omega : t.length - 1 < t.length)]
      rw [g0]
      by_cases h3 : t.getD 0 (-1) = 39
      · rw [if_pos h3]
        exact z _ fun q => q.2.2.2.1 h3
      · rw [if_neg h3]
        have es : Int32.ofNat t.length - 1 = Int32.ofNat (t.length - 1) := by
          apply Int32.toInt_inj.mp
          rw [iSub (y := 1) (by rw [e]; show _ ≤ (t.length : Int) - 1; omega) (by rw [e]; show (t.length : Int) - 1 ≤ _; omega), e, iOfNat (by omega)]
          show (t.length : Int) - 1 = ((t.length - 1 : Nat) : Int)
          omega
        rw [es, d176 h hl (by omega)]
        simp only [bu_some]
        rw [g1]
        by_cases h4 : t.getD (t.length - 1) (-1) = 39
        · rw [if_pos h4]
          exact z _ fun q => q.2.2.2.2 h4
        · rw [if_neg h4]
          unfold dm175_24
          have := d175l h hl t.length 0 5000 True (by omega) (by omega)
          rw [b01_t trivial] at this
          rw [show (0 : Int32) = Int32.ofNat 0 from rfl, this]
          congr 1
          rw [List.drop_zero]
          exact b01_c ⟨fun q => ⟨h1, h2, q.2, h3, h4⟩, fun q => ⟨trivial, q.2.2.1⟩⟩
    · rw [if_pos (by rw [iLt, e]; show (31 : Int) < t.length; omega)]
      exact z _ fun q => h2 q.2.1
  · rw [if_pos (by rw [iLt, e]; show (t.length : Int) < 1; omega)]
    exact z _ fun q => h1 q.1
