/-! is a text a name -/
def nmL : List Int32 := [58, 92, 47, 63, 42, 91, 93]
/-- the text of the characters that no name has, in cells 5 and 6 -/
def FB (s : aS) : Prop := sI s 5 1 = 0 ∧ (sT s 6).2 = 7 ∧ ∀ j (h : j < nmL.length), sI s 6 j = nmL[j]
set_option maxRecDepth 100000 in
theorem FB.ly {tt : Nat} {xs : List Int32} {s : aS} (h : Ly tt (cCc xs) s) : FB s := by
  refine ⟨?_, ?_, fun j hj => ?_⟩
  · rw [h.2.2.2.2.2.2.2.2 5 1 (by decide)]
    rfl
  · rw [h.lowT (a := 6) (by decide)]
    rfl
  · rw [h.2.2.2.2.2.2.2.2 6 j (by decide)]
    have hj : j < 7 := hj
    match j, hj with
    | 0, _ => rfl
    | 1, _ => rfl
    | 2, _ => rfl
    | 3, _ => rfl
    | 4, _ => rfl
    | 5, _ => rfl
    | 6, _ => rfl
set_option maxRecDepth 100000 in
theorem FB.of {A : Nat → Nat → Prop} {s s1 : aS} (h : FB s) (g : ch A s s1) (h1 : ∀ a k, A a k → 78 ≤ a) : FB s1 := ⟨(g.i fun q => by have := h1 _ _ q; omega).trans h.1, by rw [g.2.1]; exact h.2.1, fun j hj => (g.i fun q => by have := h1 _ _ q; omega).trans (h.2.2 j hj)⟩
set_option maxRecDepth 100000 in
theorem i8_id {x : Int32} (h : 0 ≤ x.toInt ∧ x.toInt ≤ 127) : x.toInt8.toInt32 = x := by
  have hn := nonneg_nat h.1
  apply Int32.toBitVec_inj.mp
  apply BitVec.eq_of_toInt_eq
  show ((x.toBitVec.setWidth 8).signExtend 32).toInt = x.toInt
  rw [BitVec.toInt_signExtend_of_le (by decide)]
  rw [BitVec.toInt_eq_toNat_cond, BitVec.toNat_setWidth]
  have e : x.toBitVec.toNat % 2 ^ 8 = x.toBitVec.toNat := Nat.mod_eq_of_lt (by omega)
  rw [e, if_pos (by omega)]
  exact hn
set_option maxRecDepth 100000 in
theorem d258l {s : aS} {x : Int32} (hf : FB s) : ∀ (m i n : Nat), i + m = 7 → m < n → ∃ r : Int32, dm258_5 n 6 (Int32.ofNat 7) x (Int32.ofNat i) s = some r ∧ (0 ≤ r ↔ x ∈ nmL.drop i) := by
  intro m
  induction m with
  | zero =>
    intro i n hi hn
    obtain ⟨n, rfl⟩ : ∃ k, n = k + 1 := ⟨n - 1, by omega⟩
    refine ⟨-1, by rw [dm258_5, if_pos (by rw [iLe, iOfNat (by omega), iOfNat (by omega)]; omega)], ?_⟩
    rw [List.drop_eq_nil_of_le (by show 7 ≤ i; omega)]
    exact ⟨fun q => absurd q (by decide), fun q => by cases q⟩
  | succ m ih =>
    intro i n hi hn
    obtain ⟨n, rfl⟩ : ∃ k, n = k + 1 := ⟨n - 1, by omega⟩
    have hj : i < nmL.length := by show i < 7; omega
    rw [dm258_5, if_neg (by rw [iLe, iOfNat (by omega), iOfNat (by omega)]; omega), if_pos (by rw [aB_iff, iOfNat (by omega), hf.2.1]; omega), jN_of (by omega), hf.2.2 i hj, List.drop_eq_getElem_cons hj]
    by_cases hq : nmL[i] = x
    · rw [if_pos hq]
      refine ⟨_, rfl, fun _ => by rw [← hq]; exact List.mem_cons_self, fun _ => ?_⟩
      rw [iLe, iOfNat (by omega)]
      show (0 : Int) ≤ i
      omega
    · rw [if_neg hq, ofNat_succ (by omega)]
      obtain ⟨r, r1, r2⟩ := ih (i + 1) n (by omega) (by omega)
      refine ⟨r, r1, r2.trans ⟨fun q => List.mem_cons_of_mem _ q, fun q => ?_⟩⟩
      rcases List.mem_cons.mp q with q | q
      · exact absurd q.symm hq
      · exact q
set_option maxRecDepth 100000 in
theorem d251 {s : aS} {x : Int32} (hf : FB s) (hx : 0 ≤ x.toInt ∧ x.toInt ≤ 126) : ∃ r : Int32, dm251 5 x s = some r ∧ (0 ≤ r ↔ x ∈ nmL) := by
  obtain ⟨r, r1, r2⟩ := d258l (x := x) hf 7 0 5000 (by omega) (by omega)
  refine ⟨r, ?_, r2⟩
  unfold dm251 dm252 dm253 dm254 dm255 dm256 dm257 dm258
  rw [hf.1, if_pos rfl, if_pos (by decide)]
  simp only [bu_some]
  rw [if_neg (by decide), hf.2.1, if_neg (by rw [iLt]; show ¬ x.toInt < 0; omega), if_neg (by rw [iLt]; show ¬ (255 : Int) < x.toInt; omega)]
  simp only [bu_some]
  rw [if_neg (by decide), i8_id (by omega)]
  rw [show (if (0 : Int32) < 0 then (0 : Int32) else 0) = Int32.ofNat 0 by decide, show (if Int32.ofNat 7 < Int32.ofNat 7 >>> (0 &&& 31) then Int32.ofNat 7 else Int32.ofNat 7 >>> (0 &&& 31)) = Int32.ofNat 7 by decide, if_pos (by decide), r1]
  rfl
/-- a name: 1 to 31 characters, none of those, and no ' first or last -/
def nmP (t : List Int32) : Prop := 1 ≤ t.length ∧ t.length ≤ 31 ∧ (∀ x ∈ t, x ∉ nmL) ∧ t.getD 0 (-1) ≠ 39 ∧ t.getD (t.length - 1) (-1) ≠ 39
set_option maxRecDepth 100000 in
theorem d36f {s : aS} {b : Nat} {t : List Int32} (h : LT s b t) (hT : t.length ≤ (sT s (b + 1)).2) (hm : t.length < 1000) (h1 : 1 ≤ t.length) {p : Prop} : dm36_33 b (Int32.ofNat t.length) (b01 p) s = some (b01 (p ∧ t.getD 0 (-1) ≠ 39 ∧ t.getD (t.length - 1) (-1) ≠ 39)) := by
  unfold dm36_33
  by_cases hp : p
  · rw [b01_t hp, if_neg (by decide), show (0 : Int32) = Int32.ofNat 0 from rfl, d34 h hT (by omega) (by omega)]
    simp only [bu_some]
    by_cases h39 : t.getD 0 (-1) = 39
    · rw [if_pos h39, b01_f (fun q => q.2.1 h39)]
      rfl
    · rw [if_neg h39]
      have e : Int32.ofNat t.length - 1 = Int32.ofNat (t.length - 1) := by
        apply Int32.toInt_inj.mp
        rw [iSub (y := 1) (by rw [iOfNat (by omega)]; show _ ≤ (t.length : Int) - 1; omega) (by rw [iOfNat (by omega)]; show (t.length : Int) - 1 ≤ _; omega), iOfNat (by omega), iOfNat (by omega)]
        show (t.length : Int) - 1 = ((t.length - 1 : Nat) : Int)
        omega
      rw [e, d34 h hT (by omega) (by omega)]
      simp only [bu_some]
      by_cases h38 : t.getD (t.length - 1) (-1) = 39
      · rw [if_pos h38, b01_f (fun q => q.2.2 h38)]
        rfl
      · rw [if_neg h38, b01_t ⟨hp, h39, h38⟩]
  · rw [b01_f hp, if_pos rfl, b01_f (fun q => hp q.1)]
