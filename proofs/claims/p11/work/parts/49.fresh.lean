/-! a new object: each call, with no sheets, no formulas and no text -/
def Fr (s : aS) : Prop := sI s 79 1 = 0 ∧ sI s 81 2 = 0 ∧ (∀ k, k < 8 → sI s 101 k = -1) ∧ sI s 121 1 = 0 ∧ sI s 121 3 = 0 ∧ ∀ k, k < 8 → sI s 125 k = 0
set_option maxRecDepth 100000 in
theorem Fr.c1 {s : aS} (h : Fr s) : sI s 79 1 = 0 := h.1
set_option maxRecDepth 100000 in
theorem Fr.c2 {s : aS} (h : Fr s) : sI s 81 2 = 0 := h.2.1
set_option maxRecDepth 100000 in
theorem Fr.c3 {s : aS} (h : Fr s) : ∀ k, k < 8 → sI s 101 k = -1 := h.2.2.1
set_option maxRecDepth 100000 in
theorem Fr.m1 {s : aS} (h : Fr s) : sI s 121 1 = 0 := h.2.2.2.1
set_option maxRecDepth 100000 in
theorem Fr.m3 {s : aS} (h : Fr s) : sI s 121 3 = 0 := h.2.2.2.2.1
set_option maxRecDepth 100000 in
theorem Fr.m5 {s : aS} (h : Fr s) : ∀ k, k < 8 → sI s 125 k = 0 := h.2.2.2.2.2
set_option maxRecDepth 100000 in
theorem i_ge {x : Int32} (h : ¬ x < 0) : (0 : Int32) ≤ x := by rw [iLe]; rw [iLt] at h; show (0 : Int) ≤ _; have : ¬ x.toInt < 0 := h; omega
set_option maxRecDepth 100000 in
theorem f40 {s : aS} (h : Fr s) (x : Int32) : dm40 x s = some 0 := by
  unfold dm40
  by_cases h0 : x < 0
  · rw [if_pos h0]
  · rw [if_neg h0, h.c2, if_pos (i_ge h0)]
set_option maxRecDepth 100000 in
theorem f54 {s : aS} (h : Fr s) (x : Int32) : dm54 x s = some .null := by
  unfold dm54 dm55
  by_cases h0 : x < 0
  · simp [h0, bu_some, bv_some, nx_eq, vN_null, zN_l, zN_r, vI_int, vV_none, sI_wI]
  · by_cases h1 : 8 ≤ x
    · simp [h0, h1, bu_some, bv_some, nx_eq, vN_null, zN_l, zN_r, vI_int, vV_none, sI_wI]
    · have hb : aB x 8 := by
        rw [aB_iff]
        rw [iLe] at h1
        rw [iLt] at h0
        have h0 : ¬ x.toInt < 0 := h0
        have h1 : ¬ (8 : Int) ≤ x.toInt := h1
        omega
      have hk : sI s 101 (jN x) = -1 := h.c3 _ hb.2
      rw [if_neg h0, if_neg h1]
      simp only [bu_some]
      rw [if_neg (by decide), if_pos hb, if_pos hk]
set_option maxRecDepth 100000 in
theorem f3 {s : aS} (h : Fr s) (x : Int32) : dm3 x s = some (1, nw s 82 0) := by
  unfold dm3 dm51
  rw [f40 h]
  rfl
set_option maxRecDepth 100000 in
theorem f4 {s : aS} (h : Fr s) (x : Int32) : dm4 x s = some (1, nw s 82 0) := by
  unfold dm4 dm52
  rw [f40 h]
  rfl
set_option maxRecDepth 100000 in
theorem f5 {s : aS} (h : Fr s) (x y : Int32) : dm5 x y s = some (1, nw s 82 0) := by
  unfold dm5 dm62 dm55
  rw [f40 h]
  by_cases h0 : x < 0
  · rw [if_pos h0]; rfl
  · by_cases h1 : 8 ≤ x
    · rw [if_neg h0, if_pos h1]; rfl
    · rw [if_neg h0, if_neg h1]; rfl
set_option maxRecDepth 100000 in
theorem f6 {s : aS} (h : Fr s) (x y z u v : Int32) : dm6 x y z u v s = some (1, nw s 82 0) := by
  unfold dm6 dm125
  rw [f54 h]
  simp only [bu_some, vN_null]
  unfold dm55
  by_cases h0 : v < 0
  · rw [if_pos h0]; rfl
  · by_cases h1 : 8 ≤ v
    · rw [if_neg h0, if_pos h1]; rfl
    · rw [if_neg h0, if_neg h1]; rfl
set_option maxRecDepth 100000 in
theorem f7 {s : aS} (h : Fr s) (x y z u : Int32) : dm7 x y z u s = some (1, nw s 82 0) := by
  unfold dm7 dm133
  rw [f40 h]
  rfl
set_option maxRecDepth 100000 in
theorem f8 {s : aS} (h : Fr s) (x : Int32) : dm8 x s = some (1, nw s 82 0) := by
  unfold dm8 dm137
  rw [f54 h]
  rfl
set_option maxRecDepth 100000 in
theorem f9 {s : aS} (h : Fr s) (x y : Int32) : dm9 x y s = some (1, nw s 82 0) := by
  unfold dm9 dm138
  rw [f54 h]
  rfl
set_option maxRecDepth 100000 in
theorem f10 {s : aS} (h : Fr s) (x : Int32) : dm10 x s = some (1, nw s 82 0) := by
  unfold dm10 dm159
  rw [f54 h]
  rfl
set_option maxRecDepth 100000 in
theorem f11 {s : aS} (h : Fr s) (x y z : Int32) : dm11 x y z s = some (1, nw s 82 0) := by
  unfold dm11 dm160
  rw [f54 h]
  rfl
set_option maxRecDepth 100000 in
theorem f12 {s : aS} (h : Fr s) (x y z : Int32) : dm12 x y z s = some (1, nw s 82 0) := by
  unfold dm12 dm162
  rw [f54 h]
  rfl
set_option maxRecDepth 100000 in
theorem f13 {s : aS} (h : Fr s) (x y : Int32) : dm13 x y s = some (1, nw s 82 0) := by
  unfold dm13 dm163
  rw [f54 h, f54 h]
  rfl
set_option maxRecDepth 100000 in
theorem f15 {s : aS} (h : Fr s) (x y : Int32) : dm15 x y s = some (1, nw s 82 0) := by
  unfold dm15 dm169
  rw [f40 h]
  rfl
set_option maxRecDepth 100000 in
theorem f2 {s : aS} (h : Fr s) : dm2 s = some (1, nw s 80 0) := by
  unfold dm2 dm30 dm31 dm32 dm36 dm28
  rw [dm32_2, h.c2, if_pos (by decide)]
  simp only [bu_some]
  rw [h.c1, if_pos (by decide)]
  unfold dm36_11 dm36_12
  rw [dm36_15, if_pos (by decide)]
  unfold dm36_33
  rfl
/-! the reference -/
set_option maxRecDepth 100000 in
theorem g181 {s : aS} (h : Fr s) (x : Int32) : dm181 x s = some 1 := by
  unfold dm181 dm181_6
  by_cases h0 : x < 0
  · rw [if_pos h0]
  · rw [if_neg h0, h.m3, if_neg h0]
set_option maxRecDepth 100000 in
theorem g175 {s : aS} (h : Fr s) : dm175 s = some 0 := by
  unfold dm175 dm175_23 dm175_24
  rw [h.m1, if_pos (by decide), dm175_27, h.m1, if_pos (by decide)]
  rfl
set_option maxRecDepth 100000 in
theorem g225 {s : aS} (h : Fr s) (x : Int32) : dm225 x s = some 1 := by
  unfold dm225 dm225_10
  by_cases h0 : x < 0
  · rw [if_pos h0]
  · by_cases h1 : 7 < x
    · rw [if_neg h0, if_pos h1]
    · have hb : aB x 8 := by
        rw [aB_iff]
        rw [iLt] at h0 h1
        have h0 : ¬ x.toInt < 0 := h0
        have h1 : ¬ (7 : Int) < x.toInt := h1
        omega
      rw [if_neg h0, if_neg h1, if_pos hb, h.m5 _ hb.2, if_pos rfl]
set_option maxRecDepth 100000 in
theorem g174 {s : aS} (h : Fr s) : dm174 s = some (0, wI s 121 0 1) := by
  unfold dm174 dm174_12 dm174_21
  rw [g175 h]
  simp [bu_some, bv_some, nx_eq, vN_null, zN_l, zN_r, vI_int, vV_none, sI_wI]
set_option maxRecDepth 100000 in
theorem g180 {s : aS} (h : Fr s) (x : Int32) : dm180 x s = some (wI s 121 0 1) := by
  unfold dm180 dm180_6 dm180_18 dm180_36
  rw [g175 h, g181 h]
  simp [bu_some, bv_some, nx_eq, vN_null, zN_l, zN_r, vI_int, vV_none, sI_wI]
set_option maxRecDepth 100000 in
theorem g182 {s : aS} (h : Fr s) (x : Int32) : dm182 x s = some (wI s 121 0 1) := by
  unfold dm182 dm182_8
  rw [g181 h]
  simp [bu_some, bv_some, nx_eq, vN_null, zN_l, zN_r, vI_int, vV_none, sI_wI]
set_option maxRecDepth 100000 in
theorem g184_13 {s : aS} (x y : Int32) : dm184_13 x y 1 s = some (0, wI s 121 0 1) := by
  unfold dm184_13
  rw [nx_eq]
  exact if_neg (show ¬ (1 : Int32) ≤ 0 by decide)
set_option maxRecDepth 100000 in
theorem g184 {s : aS} (h : Fr s) (x y : Int32) : dm184 x y s = some (0, wI s 121 0 1) := by
  unfold dm184 dm184_10
  rw [g181 h, g184_13]
  by_cases h0 : x < 0
  · rw [if_pos h0]
  · by_cases h1 : 7 < x
    · rw [if_neg h0, if_pos h1]
    · rw [if_neg h0, if_neg h1]
      rfl
set_option maxRecDepth 100000 in
theorem g224 {s : aS} (h : Fr s) (x y z u v : Int32) : dm224 x y z u v s = some (wI s 121 0 1) := by
  have e1 : dm224_30 x y z u v s = some (wI s 121 0 1) := by
    unfold dm224_30 dm224_37
    simp [bu_some, bv_some, nx_eq, vN_null, zN_l, zN_r, vI_int, vV_none, sI_wI]
  have e : ∀ w, dm224_15 x y z u v w s = some (wI s 121 0 1) := by
    intro w
    unfold dm224_15
    rw [g225 h]
    by_cases h0 : v < 0
    · rw [if_pos h0, e1]
    · by_cases h1 : 7 < v
      · rw [if_neg h0, if_pos h1, e1]
      · rw [if_neg h0, if_neg h1]
        simp only [bu_some]
        rw [if_neg (by decide), e1]
  unfold dm224 dm224_12
  simp only [e, ite_self]
set_option maxRecDepth 100000 in
theorem g228 {s : aS} (h : Fr s) (x y z u : Int32) : dm228 x y z u s = some (0, wI s 121 0 1) := by
  have e : ∀ w, dm228_5 x y z u w s = some (0, wI s 121 0 1) := by
    intro w
    unfold dm228_5
    rw [g181 h]
    unfold dm228_26
    simp [bu_some, bv_some, nx_eq, vN_null, zN_l, zN_r, vI_int, vV_none, sI_wI]
  unfold dm228
  simp only [e, ite_self]
set_option maxRecDepth 100000 in
theorem g231 {s : aS} (h : Fr s) (x : Int32) : dm231 x s = some (wI s 121 0 1) := by
  unfold dm231 dm231_8
  rw [g225 h]
  simp [bu_some, bv_some, nx_eq, vN_null, zN_l, zN_r, vI_int, vV_none, sI_wI]
set_option maxRecDepth 100000 in
theorem g232 {s : aS} (h : Fr s) (x y : Int32) : dm232 x y s = some (0, wI s 121 0 1) := by
  unfold dm232 dm232_8
  rw [g225 h]
  simp [bu_some, bv_some, nx_eq, vN_null, zN_l, zN_r, vI_int, vV_none, sI_wI]
set_option maxRecDepth 100000 in
theorem g243 {s : aS} (h : Fr s) (x : Int32) : dm243 x s = some (0, wI s 121 0 1) := by
  unfold dm243 dm243_8
  rw [g225 h]
  simp [bu_some, bv_some, nx_eq, vN_null, zN_l, zN_r, vI_int, vV_none, sI_wI]
set_option maxRecDepth 100000 in
theorem g244 {s : aS} (h : Fr s) (x y z : Int32) : dm244 x y z s = some (0, wI s 121 0 1) := by
  unfold dm244 dm244_13 dm244_23
  rw [g225 h]
  simp [bu_some, bv_some, nx_eq, vN_null, zN_l, zN_r, vI_int, vV_none, sI_wI]
set_option maxRecDepth 100000 in
theorem g246 {s : aS} (h : Fr s) (x y z : Int32) : dm246 x y z s = some (0, wI s 121 0 1) := by
  unfold dm246 dm246_13 dm246_16
  rw [g225 h]
  simp [bu_some, bv_some, nx_eq, vN_null, zN_l, zN_r, vI_int, vV_none, sI_wI]
set_option maxRecDepth 100000 in
theorem g248 {s : aS} (h : Fr s) (x y : Int32) : dm248 x y s = some (0, wI s 121 0 1) := by
  unfold dm248 dm248_9 dm248_12
  rw [g225 h, g225 h]
  simp [bu_some, bv_some, nx_eq, vN_null, zN_l, zN_r, vI_int, vV_none, sI_wI]
set_option maxRecDepth 100000 in
theorem g250 {s : aS} (h : Fr s) (x y : Int32) : dm250 x y s = some (0, wI s 121 0 1) := by
  unfold dm250 dm250_8
  rw [g181 h]
  simp [bu_some, bv_some, nx_eq, vN_null, zN_l, zN_r, vI_int, vV_none, sI_wI]
/-! count: 0 sheets, no formula, no homes -/
set_option maxRecDepth 100000 in
theorem f168 {s : aS} (h : Fr s) : dm168 s = some 0 := by
  have e : ∀ k, k < 8 → sI s 101 k = -1 := h.c3
  unfold dm168
  have st : ∀ (n : Nat) (i : Int32), aB i 8 → dm168_4 (n + 1) 0 i s = dm168_4 n 0 (i + 1) s := by
    intro n i hi
    have h8 : ¬ 8 ≤ i := by
      rw [iLe]
      have := aB_iff.mp hi
      show ¬ (8 : Int) ≤ _
      omega
    rw [dm168_4, if_neg h8, if_pos hi, e _ hi.2, if_pos rfl]
    rfl
  rw [st 4999 0 (by decide), st 4998 _ (by decide), st 4997 _ (by decide), st 4996 _ (by decide), st 4995 _ (by decide), st 4994 _ (by decide), st 4993 _ (by decide), st 4992 _ (by decide), dm168_4, if_pos (by decide)]
set_option maxRecDepth 100000 in
theorem g249_43 {s : aS} (h : Fr s) : dm249_43 5000 0 0 (wI s 121 0 0) = some (0, wI s 121 0 0) := by
  have e : ∀ k, k < 8 → sI (wI s 121 0 0) 125 k = 0 := h.m5
  have st : ∀ (n : Nat) (i : Int32), aB i 8 → dm249_43 (n + 1) 0 i (wI s 121 0 0) = dm249_43 n 0 (i + 1) (wI s 121 0 0) := by
    intro n i hi
    have h8 : ¬ 8 ≤ i := by
      rw [iLe]
      have := aB_iff.mp hi
      show ¬ (8 : Int) ≤ _
      omega
    rw [dm249_43, if_neg h8, if_pos hi, e _ hi.2, if_pos rfl]
    rfl
  rw [st 4999 0 (by decide), st 4998 _ (by decide), st 4997 _ (by decide), st 4996 _ (by decide), st 4995 _ (by decide), st 4994 _ (by decide), st 4993 _ (by decide), st 4992 _ (by decide), dm249_43, if_pos (by decide)]
set_option maxRecDepth 100000 in
theorem f14 {s : aS} (h : Fr s) (x : Int32) : (dm14 x s = some (1, nw s 80 0) ∧ ∀ s', Fr s' → dm249 x s' = some (0, wI s' 121 0 1)) ∨ ∃ r : Int32, dm14 x s = some (0, wJ s 148 0 r.toInt64) ∧ ∀ s', Fr s' → dm249 x s' = some (r, wI s' 121 0 0) := by
  by_cases h0 : x < 0
  · left
    refine ⟨?_, fun s' h' => ?_⟩
    · unfold dm14 dm166 dm166_5
      rw [if_pos h0]
      rfl
    · unfold dm249 dm249_6 dm249_9
      rw [if_pos h0]
      rfl
  · by_cases h9 : x ≤ 9
    · right
      by_cases hx0 : x = 0
      · subst hx0
        refine ⟨0, ?_, fun s' h' => ?_⟩
        · unfold dm14 dm166 dm167
          rw [if_neg (by decide), if_pos (by decide), if_pos rfl, h.c2]
          rfl
        · unfold dm249 dm249_9
          rw [if_neg (by decide), if_pos (by decide)]
          simp [bu_some, bv_some, nx_eq, vN_null, zN_l, zN_r, vI_int, vV_none, sI_wI, h'.m3]
      · by_cases hx1 : x = 1
        · subst hx1
          refine ⟨0, ?_, fun s' h' => ?_⟩
          · unfold dm14 dm166
            rw [if_neg (by decide), if_pos (by decide), if_neg (by decide), if_pos rfl, f168 h]
            rfl
          · unfold dm249 dm249_9
            rw [if_neg (by decide), if_pos (by decide)]
            simp only [nx_eq, sI_wI, and_self, if_true]
            rw [if_pos (by decide), if_neg (by decide), if_pos (by decide)]
            exact g249_43 h'
        · have hx : 2 ≤ x.toInt ∧ x.toInt ≤ 9 := by
            rw [iEq] at hx0 hx1
            rw [iLt] at h0
            rw [iLe] at h9
            have a1 : ¬ x.toInt < 0 := h0
            have a2 : x.toInt ≤ 9 := h9
            have a3 : ¬ x.toInt = 0 := hx0
            have a4 : ¬ x.toInt = 1 := hx1
            omega
          have hs : (x - 2).toInt = x.toInt - 2 := iSub (y := 2) (by show _ ≤ x.toInt - 2; omega) (by show x.toInt - 2 ≤ _; omega)
          have hb : aB (x - 2) 8 := by rw [aB_iff, hs]; omega
          refine ⟨-1, ?_, fun s' h' => ?_⟩
          · unfold dm14 dm166
            rw [if_neg h0, if_pos h9, if_neg hx0, if_neg hx1, if_pos hb, h.c3 _ hb.2]
            rfl
          · unfold dm249 dm249_9
            rw [if_neg h0, if_pos h9]
            simp only [nx_eq, sI_wI, and_self, if_true]
            have n1 : ¬ x ≤ 1 := by rw [iLe]; show ¬ x.toInt ≤ 1; omega
            rw [if_pos (by decide), if_neg hx0, if_neg n1, if_pos hb]
            simp [bu_some, bv_some, nx_eq, vN_null, zN_l, zN_r, vI_int, vV_none, sI_wI, h'.m5 _ hb.2]
    · left
      refine ⟨?_, fun s' h' => ?_⟩
      · unfold dm14 dm166 dm166_5
        rw [if_neg h0, if_neg h9]
        rfl
      · unfold dm249 dm249_6 dm249_9
        rw [if_neg h0, if_neg h9]
        rfl
