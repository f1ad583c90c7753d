/-! the heap of the pure machine in the machine's heap -/
def xr (B K : Nat) (pre : Nat → Nat) (i : Nat) : Nat := if i < K then pre i else B + (i - K)
theorem xr_ge {B K : Nat} {pre : Nat → Nat} {a : Nat} (h : K ≤ a) : xr B K pre a = B + (a - K) := by
  unfold xr
  rw [if_neg (by omega)]
theorem xr_ne {B K : Nat} {pre : Nat → Nat} (hpre : ∀ i, i + 1 < K → pre i < B) {a b : Nat} (hbK : b + 1 ≠ K) (ha : K ≤ a) (hab : b ≠ a) : xr B K pre b ≠ xr B K pre a := by
  rw [xr_ge ha]
  unfold xr
  split
  · rename_i h
    have := hpre b (by omega)
    omega
  · omega
def xTy (cl : List vw_C) (c : Nat) : FieldType := if c = 100 then .int else if c = 101 then .byte else if c = 102 then .char else if c = 103 then .boolean else if c = 104 then .long else .object (match cl[c - 110]? with
  | some q => q.1
  | none => "")
theorem xTy_ref {cl : List vw_C} {c : Nat} (h : 110 ≤ c) {q : vw_C} (hq : cl[c - 110]? = some q) : xTy cl c = .object q.1 := by
  unfold xTy
  rw [if_neg (by omega), if_neg (by omega), if_neg (by omega), if_neg (by omega), if_neg (by omega), hq]
theorem xTy_isr {cl : List vw_C} {c : Nat} (h : 110 ≤ c) : ∃ C, xTy cl c = .object C := by
  unfold xTy
  rw [if_neg (by omega), if_neg (by omega), if_neg (by omega), if_neg (by omega), if_neg (by omega)]
  exact ⟨_, rfl⟩
/-- what the tables say of a cell of a kind -/
def xkd (cl : List vw_C) (kc : Nat → ClassId) (s0 : State) (cell : Cell) (c : Nat) : Prop := (c < 100 → cell.cls = kc c) ∧ (100 ≤ c → s0.isArrayOf cell (xTy cl c)) ∧ (110 ≤ c → va_RA s0 cell.cls (xTy cl c))
def xsl (sl : Nat → Nat → Nat) (c j : Nat) : Nat := if c < 100 then sl c j else j
def xCk (cl : List vw_C) (kc : Nat → ClassId) (sl : Nat → Nat → Nat) (s0 : State) (ρ : Nat → Nat) (own : Prop) (cell : Cell) (o : xO) : Prop :=
  xkd cl kc s0 cell o.1 ∧ cell.vm ≠ .unknown ∧ cell.vm.isStatics = false ∧ (own → cell.vm = .none) ∧ (∀ (j : Nat) (v : Value), o.2[j]? = some v → cell.slots[xsl sl o.1 j]? = some (tv ρ v)) ∧ (100 ≤ o.1 → o.2.length ≤ cell.slots.size ∧ cell.slots.size.toInt32 = Int32.ofNat o.2.length) ∧ (o.1 < 100 → ∀ q : vw_C, cl[o.1]? = some q → o.2.length ≤ q.2.2)
def xC (cl : List vw_C) (kc : Nat → ClassId) (sl : Nat → Nat → Nat) (s0 : State) (ρ : Nat → Nat) (K : Nat) (H : Heap) (i : Nat) (o : xO) : Prop := (o.1 = 99 ∧ i < K) ∨ ∃ cell : Cell, H[ρ i]? = some cell ∧ xCk cl kc sl s0 ρ (K ≤ i) cell o
def xRp (cl : List vw_C) (kc : Nat → ClassId) (sl : Nat → Nat → Nat) (s0 : State) (B K : Nat) (pre : Nat → Nat) (hp : xH) (H : Heap) : Prop :=
  (K ≤ hp.length ∧ ∀ (i : Nat) (o : xO), i + 1 = K → hp[i]? = some o → o.1 = 99) ∧ H.size = B + (hp.length - K) ∧ (∀ (i : Nat) (o : xO), hp[i]? = some o → xC cl kc sl s0 (xr B K pre) K H i o) ∧ ∀ q : Nat, q < B → H[q]? = s0.heap[q]?
section X2
variable {cl : List vw_C} {kc : Nat → ClassId} {sl : Nat → Nat → Nat} {s0 : State} {B K : Nat} {pre : Nat → Nat}
theorem xC_kept {ρ : Nat → Nat} {H H' : Heap} {i : Nat} {o : xO} (h : xC cl kc sl s0 ρ K H i o) (hq : H'[ρ i]? = H[ρ i]?) : xC cl kc sl s0 ρ K H' i o := by
  rcases h with h | ⟨cell, h1, h2⟩
  · exact Or.inl h
  · exact Or.inr ⟨cell, by rw [hq]; exact h1, h2⟩
theorem xC_get {ρ : Nat → Nat} {H : Heap} {i c : Nat} {vs : List Value} (h : xC cl kc sl s0 ρ K H i (c, vs)) (hc : c ≠ 99) : ∃ cell : Cell, H[ρ i]? = some cell ∧ xCk cl kc sl s0 ρ (K ≤ i) cell (c, vs) := by
  rcases h with h | h
  · exact absurd h.1 hc
  · exact h
theorem xRp_set (hpre : ∀ i, i + 1 < K → pre i < B) {hp : xH} {H H' : Heap} {a c : Nat} {vs vs' : List Value} (hR : xRp cl kc sl s0 B K pre hp H) (ha : hp[a]? = some (c, vs)) (hK : K ≤ a) (hsz : H'.size = H.size) (hoth : ∀ q : Nat, q ≠ xr B K pre a → H'[q]? = H[q]?)
    (hc : xC cl kc sl s0 (xr B K pre) K H' a (c, vs')) : xRp cl kc sl s0 B K pre (hp.set a (c, vs')) H' := by
  refine ⟨⟨by rw [List.length_set]; exact hR.1.1, fun i o h1 h2 => hR.1.2 i o h1 (by rw [List.getElem?_set_ne (by omega)] at h2; exact h2)⟩, by rw [hsz, List.length_set]; exact hR.2.1, fun i o hi => ?_, fun q hq => (hoth q (by rw [xr_ge hK]; omega)).trans (hR.2.2.2 q hq)⟩
  by_cases h : i = a
  · subst h
    rw [List.getElem?_set_self (List.getElem?_eq_some_iff.mp ha).1] at hi
    cases hi
    exact hc
  · rw [List.getElem?_set_ne (fun q => h q.symm)] at hi
    by_cases h9 : i + 1 = K
    · exact Or.inl ⟨hR.1.2 i o h9 hi, by omega⟩
    · exact xC_kept (hR.2.2.1 i o hi) (hoth _ (xr_ne hpre h9 hK h))
theorem xRp_push {hp : xH} {H H' : Heap} {o : xO} {cell : Cell} (hR : xRp cl kc sl s0 B K pre hp H) (he : H'[H.size]? = some cell) (hsz : H'.size = H.size + 1) (hoth : ∀ q : Nat, q < H.size → H'[q]? = H[q]?)
    (hc : xCk cl kc sl s0 (xr B K pre) True cell o) : xRp cl kc sl s0 B K pre (hp ++ [o]) H' := by
  obtain ⟨⟨h1, h1b⟩, h2, h3, h4⟩ := hR
  have hlen : (hp ++ [o]).length = hp.length + 1 := by simp
  refine ⟨⟨by omega, fun i q g1 g2 => h1b i q g1 (by rw [List.getElem?_append_left (by omega)] at g2; exact g2)⟩, by omega, fun i q hi => ?_, fun q hq => (hoth q (by omega)).trans (h4 q hq)⟩
  by_cases h : i < hp.length
  · rw [List.getElem?_append_left h] at hi
    have hx := h3 i q hi
    rcases id hx with g | ⟨cl2, g1, g2⟩
    · exact Or.inl g
    · exact xC_kept hx (hoth _ (Array.getElem?_eq_some_iff.mp g1).1)
  · have hl : i < (hp ++ [o]).length := (List.getElem?_eq_some_iff.mp hi).1
    have hi2 : i = hp.length := by omega
    subst hi2
    rw [List.getElem?_append_right (Nat.le_refl _), Nat.sub_self] at hi
    cases hi
    refine Or.inr ⟨cell, by rw [xr_ge h1, ← h2]; exact he, ?_⟩
    obtain ⟨g1, g2, g3, g4, g5⟩ := hc
    exact ⟨g1, g2, g3, fun _ => g4 trivial, g5⟩
theorem xr_len {hp : xH} {H : Heap} (hR : xRp cl kc sl s0 B K pre hp H) : xr B K pre hp.length = H.size := by
  rw [xr_ge hR.1.1, hR.2.1]
theorem xCk_arr {ρ : Nat → Nat} {own : Prop} {cell : Cell} {c j : Nat} {vs : List Value} {v : Value} (h : xCk cl kc sl s0 ρ own cell (c, vs)) (hc : 100 ≤ c) (hj : j < vs.length) : xCk cl kc sl s0 ρ own (cell.setSlot j (tv ρ v)) (c, vs.set j v) := by
  obtain ⟨h1, h2, h3, h4, h5, h6, h7⟩ := h
  obtain ⟨hsz, hsz2⟩ := h6 hc
  refine ⟨⟨fun q => absurd hc (by omega), h1.2.1, h1.2.2⟩, h2, h3, h4, fun i w hi => ?_, fun _ => by rw [k2_slotsz]; simpa using ⟨hsz, hsz2⟩, fun q => absurd hc (by omega)⟩
  have hx : ∀ i, xsl sl c i = i := fun i => by unfold xsl; rw [if_neg (by omega)]
  simp only [hx] at h5 ⊢
  by_cases hij : i = j
  · subst hij
    simp only [List.getElem?_set_self hj] at hi
    cases hi
    exact Cell.slots_setSlot_self _ (Nat.lt_of_lt_of_le hj hsz)
  · simp only [List.getElem?_set_ne (fun q => hij q.symm)] at hi
    rw [slot_ne _ _ (fun q => hij q.symm)]
    exact h5 i w hi
theorem xCk_obj {ρ : Nat → Nat} {own : Prop} {cell : Cell} {c k : Nat} {vs : List Value} {v : Value} {q : vw_C} (h : xCk cl kc sl s0 ρ own cell (c, vs)) (hc : c < 100) (hq : cl[c]? = some q) (hap : ∀ x y, x < q.2.2 → y < q.2.2 → x ≠ y → sl c x ≠ sl c y) (hk : k < vs.length) : xCk cl kc sl s0 ρ own (cell.setSlot (sl c k) (tv ρ v)) (c, vs.set k v) := by
  obtain ⟨h1, h2, h3, h4, h5, h6, h7⟩ := h
  refine ⟨⟨fun g => h1.1 g, fun g => absurd hc (by omega), fun g => absurd hc (by omega)⟩, h2, h3, h4, fun i w hi => ?_, fun g => absurd hc (by omega), fun g q' hq' => by simpa using h7 hc q' hq'⟩
  have hx : ∀ i, xsl sl c i = sl c i := fun i => by unfold xsl; rw [if_pos hc]
  have hle : vs.length ≤ q.2.2 := h7 hc q hq
  simp only [hx] at h5 ⊢
  by_cases hij : i = k
  · subst hij
    simp only [List.getElem?_set_self hk] at hi
    cases hi
    have h9 : vs[i]? = some (vs[i]'hk) := List.getElem?_eq_getElem hk
    exact Cell.slots_setSlot_self _ (k2_hasslot (h5 i _ h9))
  · simp only [List.getElem?_set_ne (fun q => hij q.symm)] at hi
    have hlt : i < vs.length := (List.getElem?_eq_some_iff.mp hi).1
    rw [slot_ne _ _ (hap k i (by omega) (by omega) (fun q => hij q.symm))]
    exact h5 i w hi
end X2
def xty0 (q : vw_C) (k : Nat) : FieldType := (parseFieldDescriptor (q.2.1 k).2.2.1).getD .int
/-- what is known of a row of the table of objects' kinds -/
def xclok (Ts : List Cond) (q : vw_C) : Prop := (∀ w ∈ u_ws q.1 q.2.1 q.2.2, w ∈ Ts) ∧ (∀ a, a < q.2.2 → ∀ b, b < q.2.2 → a ≠ b → (q.2.1 a).2.1 ≠ (q.2.1 b).2.1) ∧ ∀ k, k < q.2.2 → parseFieldDescriptor (q.2.1 k).2.2.1 = some (xty0 q k) ∧ xtc (xty0 q k) ≠ 9
/-- a String's fields: what it holds, and how -/
def xsn (k : Nat) : String × String := if k = 0 then ("value", "[B") else ("coder", "B")
def xStr (sl : Nat → Nat → Nat) (s : State) : Prop := ∀ k : Nat, k < 2 → ∃ (cf : ClassId) (kf : Class) (fi : Nat) (f : Field), s.fieldFound? "java/lang/String" (xsn k).1 (xsn k).2 = some (cf, kf, fi, f) ∧ f.isStatic = false ∧ f.slot = sl 70 k
/-- what the tables must hold for an instruction -/
def xlnk (Ts Ns : List Cond) (cl : List vw_C) (nm own : String) (ins : Instr) (ax : List Nat) : Prop := match ins, ax with
  | .getfield idx, ci :: k :: _ => (ci < 70 ∧ ∃ q : vw_C, cl[ci]? = some q ∧ k < q.2.2 ∧ Cond.fieldLink own idx (q.2.1 k).1 (q.2.1 k).2.1 (q.2.1 k).2.2.1 ∈ Ts) ∨ (ci = 70 ∧ k < 2 ∧ Cond.fieldLink own idx "java/lang/String" (xsn k).1 (xsn k).2 ∈ Ts)
  | .putfield idx, ci :: k :: t :: _ => ci < 70 ∧ ∃ q : vw_C, cl[ci]? = some q ∧ k < q.2.2 ∧ Cond.fieldLink own idx (q.2.1 k).1 (q.2.1 k).2.1 (q.2.1 k).2.2.1 ∈ Ts ∧ t = xtc (xty0 q k) ∧ ((q.2.1 k).2.2.2 = false ∨ ((q.2.1 k).2.2.2 = true ∧ nm = "<init>" ∧ (q.2.1 k).1 = own))
  | .new idx, ci :: ts => ci < 100 → ∃ q : vw_C, cl[ci]? = some q ∧ Cond.classLink own idx q.1 ∈ Ts ∧ Cond.instantiable q.1 q.2.2 ∈ Ts ∧ Cond.initialized q.1 ∈ Ts ∧ ts = (List.range q.2.2).map fun k => xtc (xty0 q k)
  | .aastore, ci :: _ => ci < 70 ∧ ∃ q : vw_C, cl[ci]? = some q
  | .newarray t, _ => Cond.arrayClass (newarray.typeOf t) ∈ Ts
  | .anewarray idx, [ci] => ∃ q : vw_C, cl[ci]? = some q ∧ Cond.classLink own idx q.1 ∈ Ts ∧ Cond.arrayOver (.object q.1) ∈ Ns
  | _, _ => True
theorem xfit_byte {x : Int32} (h : (-128 : Int32) ≤ x) (h2 : x ≤ 127) : narrow .byte (.int x) = .int x := by
  show Value.int x.toInt8.toInt32 = .int x
  congr 1
  refine Int32.toInt_inj.mp ?_
  rw [Int8.toInt_toInt32, Int32.toInt_toInt8]
  rw [Int32.le_iff_toInt_le] at h h2
  have e1 : (-128 : Int32).toInt = -128 := by decide
  have e2 : (127 : Int32).toInt = 127 := by decide
  rw [e1] at h
  rw [e2] at h2
  simp only [Int.bmod]
  split <;> omega
theorem xfit_ok {ρ : Nat → Nat} {ty : FieldType} {v : Value} (h : xfit (xtc ty) v = true) : narrow ty (tv ρ v) = tv ρ v ∧ fits ty (tv ρ v) = true := by
  cases ty with
  | byte =>
    cases v with
    | int x =>
      have h1 : (decide (-128 ≤ x) && decide (x ≤ 127)) = true := h
      simp only [Bool.and_eq_true, decide_eq_true_eq] at h1
      exact ⟨xfit_byte h1.1 h1.2, by show (decide (-128 ≤ x) && decide (x ≤ 127)) = true; simp [h1.1, h1.2]⟩
    | _ => cases h
  | char =>
    cases v with
    | int x =>
      have h1 : (decide (0 ≤ x) && decide (x ≤ 65535)) = true := h
      simp only [Bool.and_eq_true, decide_eq_true_eq] at h1
      obtain ⟨j, hj, rfl⟩ := nI_of2 (x := x) (M := 65535) (n := 65535) (by decide) (fun q => absurd h1.1 (by rw [Int32.le_iff_toInt_le]; rw [Int32.lt_iff_toInt_lt] at q; omega)) h1.2
      exact pk_charN (by omega)
    | _ => cases h
  | boolean =>
    cases v with
    | int x =>
      have h1 : (x == 0 || x == 1) = true := h
      simp only [Bool.or_eq_true, beq_iff_eq] at h1
      rcases h1 with rfl | rfl <;> exact ⟨rfl, rfl⟩
    | _ => cases h
  | int => cases v <;> first | exact ⟨rfl, rfl⟩ | cases h
  | long => cases v <;> first | exact ⟨rfl, rfl⟩ | cases h
  | object n => cases v <;> first | exact ⟨rfl, rfl⟩ | cases h
  | array n => cases v <;> first | exact ⟨rfl, rfl⟩ | cases h
  | _ => cases v <;> cases h
