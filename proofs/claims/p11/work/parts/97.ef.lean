/-! the reader of FormulaTrees: errors and words, and the whole of it -/
section KK
variable {s0 s : aS} {b i z9 : Nat} {t : List Int32} {ns : List (List Int32)}
set_option maxRecDepth 100000 in
theorem erN_p : ∀ e ∈ List.range 8, ∀ x ∈ erN e, 0 ≤ x.toInt ∧ x.toInt ≤ 127 := by decide
set_option maxRecDepth 100000 in
theorem erN_l : ∀ e ∈ List.range 8, 4 ≤ (erN e).length ∧ (erN e).length ≤ 7 := by decide
set_option maxRecDepth 100000 in
theorem k49 {e m o : Nat} (h0 : KS s0 b t ns) (h : KW s0 s b i z9) (he : 1 ≤ e ∧ e < 8) (hm : 1 ≤ m ∧ m ≤ 7) (ho : o ≤ 300) : ∃ v, dm49 79 (19 + 2 * e) (Int32.ofNat m) (Int32.ofNat o) s = some (v, s) ∧ (¬ v = 0 → m ≤ (erN e).length ∧ spQ t (erN e) o m 0) := by
  have hl := h0.1.2.1
  have hs := h0.of h.1
  have hST := (hs.2.2.2.2.2.2 e he.1 he.2).1
  have hlen := erN_l e (List.mem_range.mpr he.2)
  by_cases c : m ≤ (erN e).length
  · refine ⟨b01 (spQ t (erN e) o m 0), d49 hs.1.1 (by rw [hs.1.2.2.2]; exact hl) (by omega) hST (by omega) c (by omega) (erN_p e (List.mem_range.mpr he.2)), fun q => ⟨c, ?_⟩⟩
    exact Classical.byContradiction fun z => q (b01_ne.mpr z)
  · refine ⟨0, ?_, fun q => absurd rfl q⟩
    unfold dm49 dm49_7
    rw [d254 hST (by omega)]
    simp only [bu_some]
    rw [if_pos ((nlt_iff (by omega) (by omega)).mpr (by omega)), dm49_10, if_neg (fun q => by have := (nle_iff (b := 0) (by omega) (by omega)).mp q; omega), if_pos rfl, if_pos (Or.inl rfl)]
set_option maxRecDepth 100000 in
theorem k110 {e : Nat} (he : 1 ≤ e ∧ e < 8) : dm110 (Int32.ofNat e) = some (.ref (19 + 2 * e)) := by
  match e, he with
  | 1, _ => rfl
  | 2, _ => rfl
  | 3, _ => rfl
  | 4, _ => rfl
  | 5, _ => rfl
  | 6, _ => rfl
  | 7, _ => rfl
set_option maxRecDepth 100000 in
theorem k109 {m o : Nat} (h0 : KS s0 b t ns) (h : KW s0 s b i z9) (hm : 1 ≤ m ∧ m ≤ 7) (ho : o ≤ 300) : ∃ e, dm109 (Int32.ofNat o) (Int32.ofNat m) s = some (Int32.ofNat e, s) ∧ (e = 0 ∨ ((1 ≤ e ∧ e < 8) ∧ m ≤ (erN e).length ∧ spQ t (erN e) o m 0)) := by
  have hs := h0.of h.1
  have loop : ∀ (q e n : Nat), e + q = 8 → 1 ≤ e → q < n → ∃ r, dm109_2 n (Int32.ofNat o) (Int32.ofNat m) (Int32.ofNat e) s = some (Int32.ofNat r, s) ∧ (r = 0 ∨ ((1 ≤ r ∧ r < 8) ∧ m ≤ (erN r).length ∧ spQ t (erN r) o m 0)) := by
    intro q
    induction q with
    | zero =>
      intro e n h1 h2 h3
      obtain ⟨n, rfl⟩ : ∃ q, n = q + 1 := ⟨n - 1, by omega⟩
      have : e = 8 := by omega
      subst this
      rw [dm109_2, if_pos (by decide)]
      exact ⟨0, rfl, Or.inl rfl⟩
    | succ q ih =>
      intro e n h1 h2 h3
      obtain ⟨n, rfl⟩ : ∃ q, n = q + 1 := ⟨n - 1, by omega⟩
      have he : 1 ≤ e ∧ e < 8 := by omega
      rw [dm109_2, if_neg (fun z => by have := (nlt_iff (a := 7) (by omega) (by omega)).mp z; omega), k110 he]
      simp only [bu_some]
      show ∃ r, (if aK s (19 + 2 * e) 70 then bv (dm49 79 (19 + 2 * e) (Int32.ofNat m) (Int32.ofNat o) s) fun r11 s10 => if r11 = 0 then dm109_2 n (Int32.ofNat o) (Int32.ofNat m) (Int32.ofNat e + 1) s10 else some (Int32.ofNat e, s10) else none) = some (Int32.ofNat r, s) ∧ _
      rw [if_pos (hs.2.2.2.2.2.2 e he.1 he.2).2]
      obtain ⟨v, e1, e2⟩ := k49 h0 h he hm ho
      rw [e1]
      simp only [bv_some]
      by_cases c : v = 0
      · rw [if_pos c, ofNat_succ (by omega)]
        exact ih (e + 1) n (by omega) (by omega) (by omega)
      · rw [if_neg c]
        exact ⟨e, rfl, Or.inr ⟨he, e2 c⟩⟩
  exact loop 7 1 5000 (by omega) (by omega) (by omega)
set_option maxRecDepth 100000 in
theorem sp_in {u : List Int32} {o m : Nat} (h : spQ t u o m 0) (hm : 1 ≤ m) (hu : m ≤ u.length) (hp : ∀ x ∈ u, 0 ≤ x.toInt ∧ x.toInt ≤ 127) : o + m ≤ t.length := by
  have := h (m - 1) (Nat.zero_le _) (by omega)
  by_cases c : o + (m - 1) < t.length
  · omega
  · exfalso
    rw [getD_out (by omega), getD_in (show m - 1 < u.length by omega)] at this
    have h1 := (hp _ (List.getElem_mem (show m - 1 < u.length by omega))).1
    rw [← this] at h1
    exact absurd h1 (by decide)
set_option maxRecDepth 100000 in
theorem k108 (h0 : KS s0 b t ns) (h : KW s0 s b i i) (hi : i < t.length) : KO s0 b i t.length (dm108 s) := by
  have hb := h0.2.1.2.2.1
  have hl := h0.1.2.1
  have hs := h0.of h.1
  have f38 : ∀ e, (1 ≤ e ∧ e < 8) → i + (erN e).length ≤ t.length → KO s0 b i t.length (dm108_38 (Int32.ofNat i) (Int32.ofNat e) s) := by
    intro e he hle
    unfold dm108_38
    rw [k110 he]
    simp only [bu_some]
    show KO s0 b i t.length (if aK s (19 + 2 * e) 70 then bu (dm254 (19 + 2 * e) s) fun r9 => nx (wI s 106 7 (Int32.ofNat i + r9)) fun s10 => bu (dm111 2 (Int32.ofNat e) (Int32.ofNat i) s10) fun s16 => some s16 else none)
    rw [if_pos (hs.2.2.2.2.2.2 e he.1 he.2).2, d254 (hs.2.2.2.2.2.2 e he.1 he.2).1 (by omega)]
    simp only [bu_some, nx_eq]
    rw [iSum (by omega) (by omega)]
    exact (k111 h0 (h.at (j := i + (erN e).length) hb) (by omega) hle 2 (Int32.ofNat e) (Int32.ofNat i)).b fun s2 j c1 c2 c3 => KO.s c1 c2 c3
  have loop : ∀ (q m n e : Nat), m + q = 8 → 1 ≤ m → q < n → (e = 0 ∨ ((1 ≤ e ∧ e < 8) ∧ i + (erN e).length ≤ t.length)) → (e = 0 → m ≤ 7) → KO s0 b i t.length (dm108_7 n (Int32.ofNat i) (Int32.ofNat e) (Int32.ofNat m) s) := by
    intro q
    induction q with
    | zero =>
      intro m n e h1 h2 h3 h4 h5
      obtain ⟨n, rfl⟩ : ∃ q, n = q + 1 := ⟨n - 1, by omega⟩
      have : m = 8 := by omega
      subst this
      rcases h4 with z | ⟨z1, z2⟩
      · exact absurd (h5 z) (by decide)
      · rw [dm108_7, if_pos (by decide)]
        exact f38 e z1 z2
    | succ q ih =>
      intro m n e h1 h2 h3 h4 h5
      obtain ⟨n, rfl⟩ : ∃ q, n = q + 1 := ⟨n - 1, by omega⟩
      rw [dm108_7, if_neg (fun z => by have := (nlt_iff (a := 7) (by omega) (by omega)).mp z; omega)]
      rcases h4 with z | ⟨z1, z2⟩
      · subst z
        rw [if_pos (show Int32.ofNat 0 = 0 from rfl)]
        obtain ⟨r, e1, e2⟩ := k109 (m := m) (o := i) h0 h (by omega) (by omega)
        rw [e1]
        simp only [bv_some]
        by_cases c : r = 0
        · subst c
          rw [if_pos (show Int32.ofNat 0 = 0 from rfl), nx_eq]
          exact KO.s (KW.fld h hb (by omega)) (Nat.le_refl _) (by omega)
        · obtain ⟨y1, y2, y3⟩ := e2.resolve_left c
          have hlen := erN_l r (List.mem_range.mpr y1.2)
          rw [if_neg (show ¬ Int32.ofNat r = 0 from fun z => c ((neq_iff (b := 0) (by omega) (by omega)).mp z)), k110 y1]
          simp only [bu_some]
          show KO s0 b i t.length (if aK s (19 + 2 * r) 70 then bu (dm254 (19 + 2 * r) s) fun r19 => if r19 = Int32.ofNat m then dm108_35 (dm108_7 n) (Int32.ofNat i) (Int32.ofNat m) (Int32.ofNat r) s else dm108_35 (dm108_7 n) (Int32.ofNat i) (Int32.ofNat m) 0 s else none)
          rw [if_pos (hs.2.2.2.2.2.2 r y1.1 y1.2).2, d254 (hs.2.2.2.2.2.2 r y1.1 y1.2).1 (by omega)]
          simp only [bu_some]
          unfold dm108_35
          rw [ofNat_succ (by omega)]
          by_cases c2 : (erN r).length = m
          · rw [if_pos (by rw [c2])]
            have := sp_in y3 h2 y2 (erN_p r (List.mem_range.mpr y1.2))
            exact ih (m + 1) n r (by omega) (by omega) (by omega) (Or.inr ⟨y1, by omega⟩) (fun z => absurd z c)
          · rw [if_neg (fun z => c2 ((neq_iff (by omega) (by omega)).mp z))]
            exact ih (m + 1) n 0 (by omega) (by omega) (by omega) (Or.inl rfl) (fun _ => by omega)
      · rw [if_neg (fun z => by have := (neq_iff (b := 0) (by omega) (by omega)).mp z; omega)]
        exact f38 e z1 z2
  unfold dm108
  rw [h.2.1]
  exact loop 7 1 5000 0 (by omega) (by omega) (by omega) (Or.inl rfl) (fun _ => by omega)
set_option maxRecDepth 100000 in
theorem k124 {e : Nat} (h0 : KS s0 b t ns) (h : KW s0 s b i i) (hie : i ≤ e) (he : e ≤ t.length) (x : Int32) (hx : ¬ x = 0 → e < t.length) : KO s0 b i t.length (dm124 (Int32.ofNat i) (Int32.ofNat e) x s) := by
  have hb := h0.2.1.2.2.1
  have hl := h0.1.2.1
  have hs := h0.of h.1
  have f9 : ∀ y, KO s0 b i t.length (dm124_9 (Int32.ofNat i) (Int32.ofNat e) x y s) := by
    intro y
    unfold dm124_9
    rw [nx_eq]
    have h1 := h.at (j := e) hb
    split
    · obtain ⟨s1, hd, a1, a2, a3, a4⟩ := k122 h0 h1 hie he
      rw [a1]
      simp only [bu_some]
      have f32 : ∀ kd, KO s0 b i t.length (dm124_32 (Int32.ofNat i) x kd s1) := by
        intro kd
        unfold dm124_32
        obtain ⟨s2, c1, c2⟩ := k106w h0 a2 a3 (by omega) he kd (Int32.ofNat i)
        rw [c1]
        simp only [bu_some]
        split
        · exact KO.s c2 hie he
        · rename_i q
          split
          · exact ((k115 h0 c2 (hx q) (sI s2 106 10) 0).m hie).b fun s2 j c1 c2 c3 => KO.s c1 c2 c3
          · exact KO.s c2 hie he
      split
      · exact f32 6
      · exact f32 7
    · exact (k111 h0 h1 hie he 3 y (Int32.ofNat i)).b fun s2 j c1 c2 c3 => KO.s c1 c2 c3
  unfold dm124
  split
  · rw [d48 hs.1.1 (by rw [hs.1.2.2.2]; exact hl) (by omega) hs.2.2.2.2.2.1 (by omega) (by omega)]
    simp only [bv_some]
    exact f9 _
  · exact f9 _
set_option maxRecDepth 100000 in
theorem k123 (h0 : KS s0 b t ns) (h : KW s0 s b i i) (hi : i < t.length) : KO s0 b i t.length (dm123 s) := by
  have hb := h0.2.1.2.2.1
  have hl := h0.1.2.1
  have hs := h0.of h.1
  have he := wEnd_le (t := t) (i := i) (by omega)
  have hie : i ≤ wEnd t i := by
    unfold wEnd
    split <;> omega
  unfold dm123
  rw [h.2.1, d43 hs.1.1 (by rw [hs.1.2.2.2]; exact hl) (by omega) (by omega)]
  simp only [bu_some]
  rw [kch h0 h (by omega)]
  simp only [bu_some]
  generalize wEnd t i = e at he hie ⊢
  have f61 : ∀ (s1 : aS), KW s0 s1 b i i → KO s0 b i t.length (dm123_61 (Int32.ofNat i) (Int32.ofNat e) (t.getD e (-1)) s1) := by
    intro s1 k1
    unfold dm123_61 dm123_70
    split
    · rename_i c
      have := kin (p := fun x => x = 40) (by decide) c
      exact (k124 h0 k1 hie he 1 (fun _ => this)).b fun s2 j c1 c2 c3 => KO.s c1 c2 c3
    · exact (k124 h0 k1 hie he 0 (fun z => absurd rfl z)).b fun s2 j c1 c2 c3 => KO.s c1 c2 c3
  have f48 : ∀ (y : Int32) (s1 : aS), KW s0 s1 b i i → KO s0 b i t.length (dm123_48 (Int32.ofNat i) (Int32.ofNat e) (t.getD e (-1)) y s1) := by
    intro y s1 k1
    unfold dm123_48 dm93
    split
    · exact f61 s1 k1
    · simp only [bu_some]
      split
      · exact f61 s1 k1
      · rw [nx_eq]
        exact KO.s (KW.fld k1 hb (by omega)) (Nat.le_refl _) (by omega)
  have f19 : ∀ y, KO s0 b i t.length (dm123_19 (Int32.ofNat i) (Int32.ofNat e) (t.getD e (-1)) y s) := by
    intro y
    unfold dm123_19
    split
    · rename_i c
      have hlt := kin (p := fun x => x = 33) (by decide) c
      obtain ⟨s1, hd, a1, a2, a3, a4⟩ := k122 h0 h hie he
      rw [a1]
      simp only [bu_some, nx_eq]
      have hh1 : HH (wI s1 106 7 (Int32.ofNat e)) hd := ⟨a3.1.of ((ch.refl (fun a k => a = 106 ∧ k = 7) s1).wI ⟨rfl, rfl⟩) (by omega) (fun k => by omega), a3.2⟩
      exact (k114 h0 (a2.at hb) hh1 hie hlt (Int32.ofNat i)).b fun s2 j c1 c2 c3 => KO.s c1 c2 c3
    · split
      · exact f48 y s h
      · obtain ⟨v, s1, a1, a2, -⟩ := k89 h0 h (show i ≤ t.length by omega)
        have k1 := K9.kw (j := 0) h hb a2
        rw [a1]
        simp only [bv_some]
        split
        · exact f48 y s1 k1
        · obtain ⟨s2, c1, c2⟩ := k112 hb k1 (Int32.ofNat i) (-1)
          rw [c1]
          exact KO.s c2 (Nat.le_refl _) (by omega)
  split
  · exact f19 0
  · exact f19 1
set_option maxRecDepth 100000 in
theorem k103 (h0 : KS s0 b t ns) (h : KW s0 s b i i) (hi : i < t.length) (x : Int32) : KO s0 b i t.length (dm103 x s) := by
  have hb := h0.2.1.2.2.1
  have hl := h0.1.2.1
  have f52 : KO s0 b i t.length (dm103_52 s) := by
    unfold dm103_52
    exact (k120 h0 h hi).b fun s2 j c1 c2 c3 => KO.s c1 c2 c3
  have f44 : ∀ y, KO s0 b i t.length (dm103_44 y s) := fun y => by
    unfold dm103_44
    exact (k119 h0 h hi y).b fun s2 j c1 c2 c3 => KO.s c1 c2 c3
  have bad : KO s0 b i t.length (nx (wI s 106 8 (sI s 106 7)) fun s23 => some s23) := by
    rw [nx_eq]
    exact KO.s (KW.fld h hb (by omega)) (Nat.le_refl _) (by omega)
  have wd : KO s0 b i t.length (bu (dm123 s) fun s28 => some s28) := (k123 h0 h hi).b fun s2 j c1 c2 c3 => KO.s c1 c2 c3
  have dflt : KO s0 b i t.length (bu (dm47 x) fun r16 => if r16 = 0 then (if x = 46 then dm103_52 s else bu (dm44 x) fun r21 => if r21 = 0 then (nx (wI s 106 8 (sI s 106 7)) fun s23 => some s23) else bu (dm123 s) fun s28 => some s28) else dm103_52 s) := by
    rw [d47]
    simp only [bu_some]
    split
    · split
      · exact f52
      · rw [d44]
        simp only [bu_some]
        split
        · exact bad
        · exact wd
    · exact f52
  unfold dm103
  by_cases q34 : x = 34
  · rw [if_pos q34]
    exact (k104 h0 h hi).b fun s2 j c1 c2 c3 => KO.s c1 c2 c3
  · rw [if_neg q34]
    by_cases q35 : x = 35
    · rw [if_pos q35]
      exact (k108 h0 h hi).b fun s2 j c1 c2 c3 => KO.s c1 c2 c3
    · rw [if_neg q35]
      by_cases q36 : x = 36
      · rw [if_pos q36]
        obtain ⟨s2, c1, c2⟩ := k112 hb h (sI s 106 7) (-1)
        rw [c1]
        exact KO.s c2 (Nat.le_refl _) (by omega)
      · rw [if_neg q36]
        by_cases q37 : x = 37
        · rw [if_pos q37]
          exact dflt
        · rw [if_neg q37]
          by_cases q38 : x = 38
          · rw [if_pos q38]
            exact dflt
          · rw [if_neg q38]
            by_cases q39 : x = 39
            · rw [if_pos q39]
              exact (k113 h0 h hi).b fun s2 j c1 c2 c3 => KO.s c1 c2 c3
            · rw [if_neg q39]
              by_cases q40 : x = 40
              · rw [if_pos q40]
                unfold dm94
                rw [(ktr h0 h).1, if_pos (ktr (β := aS) (x := none) (f := fun _ => none) h0 h).2]
                simp only [bu_some]
                exact (k115 h0 h hi (sI s b 2) (-1)).b fun s2 j c1 c2 c3 => KO.s c1 c2 c3
              · rw [if_neg q40]
                by_cases q41 : x = 41
                · rw [if_pos q41]
                  rw [if_pos q41]
                  exact f44 1
                · rw [if_neg q41]
                  by_cases q42 : x = 42
                  · rw [if_pos q42]
                    exact dflt
                  · rw [if_neg q42]
                    by_cases q43 : x = 43
                    · rw [if_pos q43]
                      simp only [nx_eq]
                      have h5 := KW.adv (j := 1) h hb (by omega) (by omega)
                      exact KO.s ((KW.fld (k := 9) (v := 1) h5 hb (by omega)).up hb (by omega)) (by omega) (by omega)
                    · rw [if_neg q43]
                      by_cases q44 : x = 44
                      · rw [if_pos q44]
                        rw [if_neg q41]
                        exact f44 0
                      · rw [if_neg q44]
                        by_cases q45 : x = 45
                        · rw [if_pos q45]
                          exact (k118 h0 h hi).b fun s2 j c1 c2 c3 => KO.s c1 c2 c3
                        · rw [if_neg q45]
                          exact dflt
end KK
