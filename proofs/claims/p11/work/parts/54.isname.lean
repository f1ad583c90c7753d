/-! is a text a name -/
def nmL : List Int32 := [58, 92, 47, 63, 42, 91, 93]
/-- the text of the characters that no name has, in cells 5 and 6 -/
def FB (s : aS) : Prop := sI s 5 1 = 0 ∧ (sT s 6).2 = 7 ∧ ∀ j (h : j < nmL.length), sI s 6 j = nmL[j]
set_option maxRecDepth 100000 in
theorem FB.ly {tt : Nat} {xs : List Int32} {s : aS} (h : Ly tt (cCc xs) s) : FB s := by
  refine ⟨?_, ?_, fun j hj => ?_⟩
  · rw [h.2.2.2.2.2.2.2.2 5 1 (by decide)]
    rfl
  · rw [h.lowT (a := 6) (by decide)]
    rfl
  · rw [h.2.2.2.2.2.2.2.2 6 j (by decide)]
    have hj : j < 7 := hj
    match j, hj with
    | 0, _ => rfl
    | 1, _ => rfl
    | 2, _ => rfl
    | 3, _ => rfl
    | 4, _ => rfl
    | 5, _ => rfl
    | 6, _ => rfl
set_option maxRecDepth 100000 in
theorem FB.of {A : Nat → Nat → Prop} {s s1 : aS} (h : FB s) (g : ch A s s1) (h1 : ∀ a k, A a k → 78 ≤ a) : FB s1 := ⟨(g.i fun q => by have := h1 _ _ q; omega).trans h.1, by rw [g.2.1]; exact h.2.1, fun j hj => (g.i fun q => by have := h1 _ _ q; omega).trans (h.2.2 j hj)⟩
set_option maxRecDepth 100000 in
theorem i8_id {x : Int32} (h : 0 ≤ x.toInt ∧ x.toInt ≤ 127) : x.toInt8.toInt32 = x := by
  apply Int32.toInt_inj.mp
  rw [Int8.toInt_toInt32, Int32.toInt_toInt8]
  exact Int.bmod_eq_of_le (by omega) (by omega)
set_option maxRecDepth 100000 in
theorem d258l {s : aS} {x : Int32} (hf : FB s) : ∀ (m i n : Nat), i + m = 7 → m < n → ∃ r : Int32, dm258_5 n 6 (Int32.ofNat 7) x (Int32.ofNat i) s = some r ∧ (0 ≤ r ↔ x ∈ nmL.drop i) := by
  intro m
  induction m with
  | zero =>
    intro i n hi hn
    obtain ⟨n, rfl⟩ : ∃ k, n = k + 1 := ⟨n - 1, by omega⟩
    refine ⟨-1, by rw [dm258_5, if_pos (by rw [iLe, iOfNat (by omega), iOfNat (by omega)]; omega)], ?_⟩
    rw [List.drop_eq_nil_of_le (by show 7 ≤ i; omega)]
    exact ⟨fun q => absurd q (by decide), fun q => by cases q⟩
  | succ m ih =>
    intro i n hi hn
    obtain ⟨n, rfl⟩ : ∃ k, n = k + 1 := ⟨n - 1, by omega⟩
    have hj : i < nmL.length := by show i < 7; omega
    rw [dm258_5, if_neg (by rw [iLe, iOfNat (by omega), iOfNat (by omega)]; omega), if_pos (by rw [aB_iff, iOfNat (by omega), hf.2.1]; omega), jN_of (by omega), hf.2.2 i hj, List.drop_eq_getElem_cons hj]
    by_cases hq : nmL[i] = x
    · rw [if_pos hq]
      refine ⟨_, rfl, fun _ => by rw [← hq]; exact List.mem_cons_self, fun _ => ?_⟩
      rw [iLe, iOfNat (by omega)]
      show (0 : Int) ≤ i
      omega
    · rw [if_neg hq, ofNat_succ (by omega)]
      obtain ⟨r, r1, r2⟩ := ih (i + 1) n (by omega) (by omega)
      refine ⟨r, r1, r2.trans ⟨fun q => List.mem_cons_of_mem _ q, fun q => ?_⟩⟩
      rcases List.mem_cons.mp q with q | q
      · exact absurd q.symm hq
      · exact q
set_option maxRecDepth 100000 in
theorem d251 {s : aS} {x : Int32} (hf : FB s) (hx : 0 ≤ x.toInt ∧ x.toInt ≤ 126) : ∃ r : Int32, dm251 5 x s = some r ∧ (0 ≤ r ↔ x ∈ nmL) := by
  obtain ⟨r, r1, r2⟩ := d258l (x := x) hf 7 0 5000 (by omega) (by omega)
  refine ⟨r, ?_, r2⟩
  unfold dm251 dm252 dm253 dm254 dm255 dm256 dm257 dm258
  rw [hf.1, if_pos rfl, if_pos (by decide)]
  simp only [bu_some]
  rw [if_neg (by decide), hf.2.1, if_neg (by rw [iLt]; show ¬ x.toInt < 0; omega), if_neg (by rw [iLt]; show ¬ (255 : Int) < x.toInt; omega)]
  simp only [bu_some]
  rw [if_neg (by decide), i8_id (by omega)]
  rw [show (if (0 : Int32) < 0 then (0 : Int32) else 0) = Int32.ofNat 0 by decide, show (if Int32.ofNat 7 < Int32.ofNat 7 >>> (0 &&& 31) then Int32.ofNat 7 else Int32.ofNat 7 >>> (0 &&& 31)) = Int32.ofNat 7 by decide, if_pos (by decide), r1]
  rfl
/-- a name: 1 to 31 characters, none of those, and no ' first or last -/
def nmP (t : List Int32) : Prop := 1 ≤ t.length ∧ t.length ≤ 31 ∧ (∀ x ∈ t, x ∉ nmL) ∧ t.getD 0 (-1) ≠ 39 ∧ t.getD (t.length - 1) (-1) ≠ 39
set_option maxRecDepth 100000 in
theorem d36f {s : aS} {b : Nat} {t : List Int32} (h : LT s b t) (hT : t.length ≤ (sT s (b + 1)).2) (hm : t.length < 1000) (h1 : 1 ≤ t.length) {p : Prop} : dm36_33 b (Int32.ofNat t.length) (b01 p) s = some (b01 (p ∧ t.getD 0 (-1) ≠ 39 ∧ t.getD (t.length - 1) (-1) ≠ 39)) := by
  unfold dm36_33
  by_cases hp : p
  · rw [b01_t hp, if_neg (by decide), show (0 : Int32) = Int32.ofNat 0 from rfl, d34 h hT (by omega) (by omega)]
    simp only [bu_some]
    by_cases h39 : t.getD 0 (-1) = 39
    · rw [if_pos h39, b01_f (fun q => q.2.1 h39)]
      rfl
    · rw [if_neg h39]
      have e : Int32.ofNat t.length - 1 = Int32.ofNat (t.length - 1) := by
        apply Int32.toInt_inj.mp
        rw [iSub (y := 1) (by rw [iOfNat (by omega)]; show _ ≤ (t.length : Int) - 1; omega) (by rw [iOfNat (by omega)]; show (t.length : Int) - 1 ≤ _; omega), iOfNat (by omega), iOfNat (by omega)]
        show (t.length : Int) - 1 = ((t.length - 1 : Nat) : Int)
        omega
      rw [e, d34 h hT (by omega) (by omega)]
      simp only [bu_some]
      by_cases h38 : t.getD (t.length - 1) (-1) = 39
      · rw [if_pos h38, b01_f (fun q => q.2.2 h38)]
        rfl
      · rw [if_neg h38, b01_t ⟨hp, h39, h38⟩]
  · rw [b01_f hp, if_pos rfl, b01_f (fun q => hp q.1)]
set_option maxRecDepth 100000 in
theorem d36l {s : aS} {b : Nat} {t : List Int32} (h : LT s b t) (hT : t.length ≤ (sT s (b + 1)).2) (hm : t.length < 1000) (h1 : 1 ≤ t.length) (hf : FB s) (ho : okT t) : ∀ (m i n : Nat) (p : Prop), i + m = t.length → m + 1 < n → ∃ q : Prop, (q ↔ p ∧ ∀ x ∈ t.drop i, x ∉ nmL) ∧ dm36_15 n b (Int32.ofNat t.length) (b01 p) (Int32.ofNat i) s = some (b01 (q ∧ t.getD 0 (-1) ≠ 39 ∧ t.getD (t.length - 1) (-1) ≠ 39)) := by
  intro m
  induction m with
  | zero =>
    intro i n p hi hn
    obtain ⟨n, rfl⟩ : ∃ k, n = k + 1 := ⟨n - 1, by omega⟩
    refine ⟨p, ?_, ?_⟩
    · rw [List.drop_eq_nil_of_le (by omega)]
      exact ⟨fun q => ⟨q, fun x hx => by cases hx⟩, fun q => q.1⟩
    · rw [dm36_15, if_pos (by rw [iLe, iOfNat (by omega), iOfNat (by omega)]; omega), d36f h hT hm h1]
  | succ m ih =>
    intro i n p hi hn
    obtain ⟨n, rfl⟩ : ∃ k, n = k + 1 := ⟨n - 1, by omega⟩
    have hl : i < t.length := by omega
    by_cases hp : p
    · have e1 : t.getD i (-1) = t[i] := by simp [List.getD, List.getElem?_eq_getElem hl]
      have hx := ho _ (List.getElem_mem hl)
      obtain ⟨r, r1, r2⟩ := d251 (x := t[i]) hf ⟨by omega, by omega⟩
      rw [dm36_15, if_neg (by rw [iLe, iOfNat (by omega), iOfNat (by omega)]; omega), b01_t hp, if_neg (by decide), d34 h hT (by omega) (by omega)]
      simp only [bu_some]
      rw [e1, i2c_id (by omega), r1]
      simp only [bu_some]
      unfold dm36_30
      rw [ofNat_succ (by omega), List.drop_eq_getElem_cons hl]
      by_cases hr : 0 ≤ r
      · obtain ⟨q, q1, q2⟩ := ih (i + 1) n False (by omega) (by omega)
        rw [b01_f id] at q2
        rw [if_pos hr, q2]
        exact ⟨q, ⟨fun z => absurd (q1.mp z).1 id, fun z => absurd (r2.mp hr) (z.2 _ List.mem_cons_self)⟩, rfl⟩
      · obtain ⟨q, q1, q2⟩ := ih (i + 1) n True (by omega) (by omega)
        rw [b01_t trivial] at q2
        rw [if_neg hr, q2]
        refine ⟨q, ⟨fun z => ⟨hp, fun x hx => ?_⟩, fun z => q1.mpr ⟨trivial, fun x hx => z.2 x (List.mem_cons_of_mem _ hx)⟩⟩, rfl⟩
        rcases List.mem_cons.mp hx with rfl | hx
        · exact fun y => hr (r2.mpr y)
        · exact (q1.mp z).2 x hx
    · refine ⟨p, ⟨fun q => absurd q hp, fun q => q.1⟩, ?_⟩
      rw [dm36_15]
      split
      · rw [d36f h hT hm h1]
      · rw [if_pos (b01_f hp), d36f h hT hm h1]
set_option maxRecDepth 100000 in
theorem d36 {s : aS} {b : Nat} {t : List Int32} (h : LT s b t) (hT : t.length ≤ (sT s (b + 1)).2) (hm : t.length < 1000) (hf : FB s) (ho : okT t) : dm36 b s = some (b01 (nmP t)) := by
  unfold dm36 dm28 dm36_11 dm36_12
  simp only [bu_some]
  rw [h.n]
  have e : (Int32.ofNat t.length).toInt = t.length := iOfNat (by omega)
  by_cases h1 : 1 ≤ t.length
  · rw [if_neg (by rw [iLt, e]; show ¬ (t.length : Int) < 1; omega)]
    by_cases h2 : t.length ≤ 31
    · rw [if_neg (by rw [iLt, e]; show ¬ (31 : Int) < t.length; omega)]
      obtain ⟨q, q1, q2⟩ := d36l h hT hm h1 hf ho t.length 0 5000 True (by omega) (by omega)
      rw [b01_t trivial] at q2
      rw [show (0 : Int32) = Int32.ofNat 0 from rfl, q2]
      congr 1
      rw [List.drop_zero] at q1
      exact b01_c ⟨fun z => ⟨h1, h2, (q1.mp z.1).2, z.2⟩, fun z => ⟨q1.mpr ⟨trivial, z.2.2.1⟩, z.2.2.2⟩⟩
    · rw [if_pos (by rw [iLt, e]; show (31 : Int) < t.length; omega)]
      obtain ⟨q, q1, q2⟩ := d36l h hT hm h1 hf ho t.length 0 5000 False (by omega) (by omega)
      rw [b01_f id] at q2
      rw [show Int32.ofNat 0 = 0 from rfl] at q2
      rw [q2]
      congr 1
      exact b01_c ⟨fun z => absurd (q1.mp z.1).1 id, fun z => absurd z.2.1 h2⟩
  · rw [if_pos (by rw [iLt, e]; show (t.length : Int) < 1; omega), dm36_15, if_pos (by rw [iLe, e]; show (t.length : Int) ≤ 0; omega)]
    unfold dm36_33
    rw [if_pos rfl, b01_f (fun z => h1 z.1)]
