/-! the heap before the law's first step: the script, the texts with their bytes, one object of which nothing is known -/
def sCo (t : String × Nat × List Int32) : List Cond := [.exactly (.string t.1 t.2.1) "java/lang/String", .eq (.field (.string t.1 t.2.1) "java/lang/String" "coder" "B") (.int 0), .arrayOf (.field (.string t.1 t.2.1) "java/lang/String" "value" "[B") .byte, .eq (.length (.field (.string t.1 t.2.1) "java/lang/String" "value" "[B")) (.int (Int32.ofNat t.2.2.length))] ++ (List.range t.2.2.length).map fun j => .eq (.elem (.field (.string t.1 t.2.1) "java/lang/String" "value" "[B") (.int (Int32.ofNat j))) (.int (t.2.2.getD j 0))
theorem sCo_ok {args : Array Value} {s : State} {t : String × Nat × List Int32} {A : Nat → Prop} (h : ∀ w ∈ sCo t, w.before args s = true) (hl : t.2.2.length < 2 ^ 31) (hA : ∀ a : Nat, a < s.heap.size → ¬ A a) :
    ∃ q r : Nat, (Term.string t.1 t.2.1).eval args s none [] s = some (.ref q) ∧ va_O "java/lang/String" q A s s.heap ∧ va_OF "java/lang/String" "coder" "B" (.int 0) q A s s.heap ∧ va_OF "java/lang/String" "value" "[B" (.ref r) q A s s.heap ∧ va_T .byte r t.2.2.length (fun j => .int (t.2.2.getD j 0)) A s s.heap := by
  have h1 := h (.exactly (.string t.1 t.2.1) "java/lang/String") (by simp [sCo])
  have h2 := h (.eq (.field (.string t.1 t.2.1) "java/lang/String" "coder" "B") (.int 0)) (by simp [sCo])
  have h3 := h (.arrayOf (.field (.string t.1 t.2.1) "java/lang/String" "value" "[B") .byte) (by simp [sCo])
  have h4 := h (.eq (.length (.field (.string t.1 t.2.1) "java/lang/String" "value" "[B")) (.int (Int32.ofNat t.2.2.length))) (by simp [sCo])
  have h5 : ∀ j, j < t.2.2.length → (Cond.eq (.elem (.field (.string t.1 t.2.1) "java/lang/String" "value" "[B") (.int (Int32.ofNat j))) (.int (t.2.2.getD j 0))).before args s = true := fun j hj => h _ (List.mem_append_right _ (List.mem_map.mpr ⟨j, List.mem_range.mpr hj, rfl⟩))
  obtain ⟨a, c, cA, kA, q1, q2, q3, q4, q5, q6, -⟩ := Cond.exactly_spec (args := args) (first := s) (o := none) (s := s) (idx := []) (t := .string t.1 t.2.1) (cls := "java/lang/String") h1
  obtain ⟨r, hr, hT⟩ := va_Tof (f := fun j => .int (t.2.2.getD j 0)) (A := A) hl h3 (va_eqt h4) (fun j hj => va_eqt (h5 j hj)) hA
  exact ⟨a, r, q1, ⟨cA, q3, q5, by rw [q6]; exact q2, hA a (Array.getElem?_eq_some_iff.mp q3).1⟩, vk_OFof q1 (va_eqt h2) hA, vk_OFof q1 hr hA, hT⟩
def fCell (xs : List Int32) (tx : List (String × Nat × List Int32)) (i : Nat) : xO := if i = 0 then (100, xs.map .int) else if i = 1 + 2 * tx.length then (99, []) else if i % 2 = 1 then (70, [.ref (i + 1), .int 0]) else (101, ((tx.getD ((i - 2) / 2) ("", 0, [])).2.2).map .int)
def fHp (xs : List Int32) (tx : List (String × Nat × List Int32)) : xH := (List.range (2 + 2 * tx.length)).map (fCell xs tx)
def fPre (b sa : Nat) (n : Nat) (ad : Nat → Nat × Nat) (i : Nat) : Nat := if i = 0 then b else if i = 1 + 2 * n then sa else if i % 2 = 1 then (ad ((i - 1) / 2)).1 else (ad ((i - 2) / 2)).2
def fSl (s : State) (k : Nat) : Nat := match s.fieldFound? "java/lang/String" (xsn k).1 (xsn k).2 with
  | some (_, _, _, f) => f.slot
  | none => 0
set_option maxHeartbeats 4000000 in
theorem f_Rp {cl : List vw_C} {kc : Nat → ClassId} {sl : Nat → Nat → Nat} {s : State} {b sa : Nat} {xs : List Int32} {tx : List (String × Nat × List Int32)} {ad : Nat → Nat × Nat} (hsl : ∀ k, sl 70 k = fSl s k) (hkc : s.vm.findClass "java/lang/String" = some (kc 70)) (hcl : cl.length < 70) (hbl : b < s.heap.size) (hX : va_X b xs.length (fun j => xs.getD j 0) s s.heap) (hlen : xs.length < 2 ^ 31)
    (had : ∀ i, i < tx.length → va_O "java/lang/String" (ad i).1 (fun q => s.heap.size ≤ q) s s.heap ∧ va_OF "java/lang/String" "coder" "B" (.int 0) (ad i).1 (fun q => s.heap.size ≤ q) s s.heap ∧ va_OF "java/lang/String" "value" "[B" (.ref (ad i).2) (ad i).1 (fun q => s.heap.size ≤ q) s s.heap ∧ va_T .byte (ad i).2 (tx.getD i ("", 0, [])).2.2.length (fun j => .int ((tx.getD i ("", 0, [])).2.2.getD j 0)) (fun q => s.heap.size ≤ q) s s.heap) :
    xRp cl kc sl s s.heap.size (2 + 2 * tx.length) (fPre b sa tx.length ad) (fHp xs tx) s.heap ∧ ∀ i, i + 1 < 2 + 2 * tx.length → fPre b sa tx.length ad i < s.heap.size := by
  have hL : (fHp xs tx).length = 2 + 2 * tx.length := by simp [fHp]
  have hget : ∀ (i : Nat) (o : xO), (fHp xs tx)[i]? = some o → i < 2 + 2 * tx.length ∧ o = fCell xs tx i := by
    intro i o h
    have hlt : i < 2 + 2 * tx.length := by rw [← hL]; exact (List.getElem?_eq_some_iff.mp h).1
    rw [fHp, List.getElem?_map, List.getElem?_range hlt] at h
    exact ⟨hlt, (Option.some.inj h).symm⟩
  have hxr : ∀ i, i < 2 + 2 * tx.length → xr s.heap.size (2 + 2 * tx.length) (fPre b sa tx.length ad) i = fPre b sa tx.length ad i := fun i hi => by unfold xr; rw [if_pos hi]
  have key : ∀ i, i < 2 + 2 * tx.length → i = 0 ∨ i = 1 + 2 * tx.length ∨ (∃ j, j < tx.length ∧ i = 1 + 2 * j) ∨ ∃ j, j < tx.length ∧ i = 2 + 2 * j := by
    intro i hi
    by_cases h0 : i = 0
    · exact Or.inl h0
    · by_cases h1 : i = 1 + 2 * tx.length
      · exact Or.inr (Or.inl h1)
      · by_cases h2 : i % 2 = 1
        · exact Or.inr (Or.inr (Or.inl ⟨(i - 1) / 2, by omega, by omega⟩))
        · exact Or.inr (Or.inr (Or.inr ⟨(i - 2) / 2, by omega, by omega⟩))
  have p1 : ∀ j, j < tx.length → fPre b sa tx.length ad (1 + 2 * j) = (ad j).1 := fun j hj => by
    unfold fPre
    rw [if_neg (by omega), if_neg (by omega), if_pos (by omega), show (1 + 2 * j - 1) / 2 = j by omega]
  have p2 : ∀ j, j < tx.length → fPre b sa tx.length ad (2 + 2 * j) = (ad j).2 := fun j hj => by
    unfold fPre
    rw [if_neg (by omega), if_neg (by omega), if_neg (by omega), show (2 + 2 * j - 2) / 2 = j by omega]
  have ns : ∀ {cell : Cell}, (∀ k, cell.vm ≠ .statics k) → cell.vm.isStatics = false := by
    intro cell h
    cases hv : cell.vm with
    | statics k => exact absurd hv (h k)
    | _ => rfl
  refine ⟨⟨⟨by rw [hL]; exact Nat.le_refl _, fun i o h1 h2 => ?_⟩, by rw [hL, Nat.sub_self]; rfl, fun i o h => ?_, fun _ _ => rfl⟩, fun i hi => ?_⟩
  · obtain ⟨-, rfl⟩ := hget i o h2
    unfold fCell
    rw [if_neg (by omega), if_pos (by omega)]
  · obtain ⟨hi, rfl⟩ := hget i o h
    rcases key i hi with rfl | rfl | ⟨j, hj, rfl⟩ | ⟨j, hj, rfl⟩
    · obtain ⟨scr, x1, x2, x3, x4, x5⟩ := hX
      refine Or.inr ⟨scr, by rw [hxr 0 hi]; exact x1, ⟨⟨fun g => absurd g (by show ¬ 100 < 100; omega), fun _ => x2, fun g => absurd g (by show ¬ 110 ≤ 100; omega)⟩, x3, ns x2.1, fun g => absurd g (by omega), fun j v hj => ?_, fun _ => ?_, fun g => absurd g (by show ¬ 100 < 100; omega)⟩⟩
      · have hj' : (xs.map Value.int)[j]? = some v := hj
        rw [List.getElem?_map] at hj'
        obtain ⟨w, w1, rfl⟩ := Option.map_eq_some_iff.mp hj'
        have hlt := (List.getElem?_eq_some_iff.mp w1).1
        show scr.slots[j]? = some (.int w)
        have hd : xs.getD j 0 = w := by rw [List.getD_eq_getElem?_getD, w1]; rfl
        rw [x5 j hlt]
        show some (Value.int (xs.getD j 0)) = _
        rw [hd]
      · show (xs.map Value.int).length ≤ _ ∧ _ = Int32.ofNat (xs.map Value.int).length
        rw [List.length_map, x4]
        exact ⟨Nat.le_refl _, rfl⟩
    · refine Or.inl ⟨?_, by omega⟩
      unfold fCell
      rw [if_neg (by omega), if_pos rfl]
    · obtain ⟨⟨cell, o1, o2, o3, -⟩, ⟨cf, kf, fi, f, cell2, c1, c2, c3, c4, c5, -⟩, ⟨cf', kf', fi', f', cell3, d1, d2, d3, d4, d5, -⟩, -⟩ := had j hj
      cases o1.symm.trans c3
      cases o1.symm.trans d3
      have e9 : fCell xs tx (1 + 2 * j) = (70, [.ref (2 + 2 * j), .int 0]) := by
        unfold fCell
        rw [if_neg (by omega), if_neg (by omega), if_pos (by omega), show 1 + 2 * j + 1 = 2 + 2 * j by omega]
      rw [e9]
      refine Or.inr ⟨cell, by rw [hxr _ hi, p1 j hj]; exact o1, ⟨⟨fun _ => Option.some.inj (o3.symm.trans hkc), fun g => absurd g (by show ¬ 100 ≤ 70; omega), fun g => absurd g (by show ¬ 110 ≤ 70; omega)⟩, c4, o2, fun g => absurd g (by omega), fun k v hk => ?_, fun g => absurd g (by show ¬ 100 ≤ 70; omega), fun _ q hq => ?_⟩⟩
      · match k, hk with
        | 0, hk =>
          cases hk
          show cell.slots[sl 70 0]? = some (.ref (xr s.heap.size (2 + 2 * tx.length) (fPre b sa tx.length ad) (2 + 2 * j)))
          rw [hxr _ (by omega), p2 j hj, hsl, show fSl s 0 = f'.slot by unfold fSl; rw [show s.fieldFound? "java/lang/String" (xsn 0).1 (xsn 0).2 = some (cf', kf', fi', f') from d1]]
          exact d5
        | 1, hk =>
          cases hk
          show cell.slots[sl 70 1]? = some (.int 0)
          rw [hsl, show fSl s 1 = f.slot by unfold fSl; rw [show s.fieldFound? "java/lang/String" (xsn 1).1 (xsn 1).2 = some (cf, kf, fi, f) from c1]]
          exact c5
      · have := (List.getElem?_eq_some_iff.mp hq).1
        exact absurd this (by show ¬ 70 < cl.length; omega)
    · obtain ⟨-, -, -, ⟨cell, t1, t2, t3, t4, t5, t6, -⟩⟩ := had j hj
      have e9 : fCell xs tx (2 + 2 * j) = (101, ((tx.getD j ("", 0, [])).2.2).map .int) := by
        unfold fCell
        rw [if_neg (by omega), if_neg (by omega), if_neg (by omega), show (2 + 2 * j - 2) / 2 = j by omega]
      rw [e9]
      refine Or.inr ⟨cell, by rw [hxr _ hi, p2 j hj]; exact t1, ⟨⟨fun g => absurd g (by show ¬ 101 < 100; omega), fun _ => t2, fun g => absurd g (by show ¬ 110 ≤ 101; omega)⟩, t3, ns t2.1, fun g => absurd g (by omega), fun k v hk => ?_, fun _ => ?_, fun g => absurd g (by show ¬ 101 < 100; omega)⟩⟩
      · have hk' : (((tx.getD j ("", 0, [])).2.2).map Value.int)[k]? = some v := hk
        rw [List.getElem?_map] at hk'
        obtain ⟨w, w1, rfl⟩ := Option.map_eq_some_iff.mp hk'
        have hlt := (List.getElem?_eq_some_iff.mp w1).1
        show cell.slots[k]? = some (.int w)
        have hd : (tx.getD j ("", 0, [])).2.2.getD k 0 = w := by
          generalize (tx.getD j ("", 0, [])).2.2 = l9 at w1 ⊢
          rw [List.getD_eq_getElem?_getD, w1]
          rfl
        rw [t6 k hlt]
        show some (Value.int ((tx.getD j ("", 0, [])).2.2.getD k 0)) = _
        rw [hd]
      · show (((tx.getD j ("", 0, [])).2.2).map Value.int).length ≤ _ ∧ _ = Int32.ofNat (((tx.getD j ("", 0, [])).2.2).map Value.int).length
        rw [List.length_map]
        exact ⟨t4, t5⟩
  · rcases key i (by omega) with rfl | rfl | ⟨j, hj, rfl⟩ | ⟨j, hj, rfl⟩
    · exact hbl
    · omega
    · rw [p1 j hj]
      obtain ⟨⟨cell, o1, -⟩, -⟩ := had j hj
      exact (Array.getElem?_eq_some_iff.mp o1).1
    · rw [p2 j hj]
      obtain ⟨-, -, -, ⟨cell, t1, -⟩⟩ := had j hj
      exact (Array.getElem?_eq_some_iff.mp t1).1
