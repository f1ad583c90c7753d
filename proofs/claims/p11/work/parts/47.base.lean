/-! small means for the functions: places read behind writes, numbers -/
set_option maxRecDepth 100000 in
theorem bu_some {α β : Type} (a : α) (f : α → Option β) : bu (some a) f = f a := rfl
set_option maxRecDepth 100000 in
theorem bv_some {α β γ : Type} (a : α) (b : β) (f : α → β → Option γ) : bv (some (a, b)) f = f a b := rfl
set_option maxRecDepth 100000 in
theorem nx_eq {α β : Type} (v : α) (f : α → Option β) : nx v f = f v := rfl
set_option maxRecDepth 100000 in
theorem vN_null {β : Type} (x : Option β) (f : Nat → Option β) : vN .null x f = x := rfl
set_option maxRecDepth 100000 in
theorem vN_ref {β : Type} (b : Nat) (x : Option β) (f : Nat → Option β) : vN (.ref b) x f = f b := rfl
set_option maxRecDepth 100000 in
theorem zN_l {β : Type} (v : Option Value) (f : Option Value → Option β) (g : Nat → Option β) : zN (.inl v) f g = f v := rfl
set_option maxRecDepth 100000 in
theorem zN_r {β : Type} (e : Nat) (f : Option Value → Option β) (g : Nat → Option β) : zN (.inr e) f g = g e := rfl
set_option maxRecDepth 100000 in
theorem vI_int {β : Type} (x : Int32) (f : Int32 → Option β) : vI (some (.int x)) f = f x := rfl
set_option maxRecDepth 100000 in
theorem vV_none {β : Type} (x : Option β) : vV none x = x := rfl
set_option maxRecDepth 100000 in
theorem sI_wI (s : aS) (a k : Nat) (v : Int32) (b j : Nat) : sI (wI s a k v) b j = if b = a ∧ j = k then v else sI s b j := rfl
set_option maxRecDepth 100000 in
theorem sI_wR (s : aS) (a k : Nat) (v : Value) (b j : Nat) : sI (wR s a k v) b j = sI s b j := rfl
set_option maxRecDepth 100000 in
theorem sI_wJ (s : aS) (a k : Nat) (v : Int64) (b j : Nat) : sI (wJ s a k v) b j = sI s b j := rfl
set_option maxRecDepth 100000 in
theorem sR_wI (s : aS) (a k : Nat) (v : Int32) (b j : Nat) : sR (wI s a k v) b j = sR s b j := rfl
set_option maxRecDepth 100000 in
theorem sR_wR (s : aS) (a k : Nat) (v : Value) (b j : Nat) : sR (wR s a k v) b j = if b = a ∧ j = k then v else sR s b j := rfl
set_option maxRecDepth 100000 in
theorem sR_wJ (s : aS) (a k : Nat) (v : Int64) (b j : Nat) : sR (wJ s a k v) b j = sR s b j := rfl
set_option maxRecDepth 100000 in
theorem sJ_wI (s : aS) (a k : Nat) (v : Int32) (b j : Nat) : sJ (wI s a k v) b j = sJ s b j := rfl
set_option maxRecDepth 100000 in
theorem sJ_wR (s : aS) (a k : Nat) (v : Value) (b j : Nat) : sJ (wR s a k v) b j = sJ s b j := rfl
set_option maxRecDepth 100000 in
theorem sJ_wJ (s : aS) (a k : Nat) (v : Int64) (b j : Nat) : sJ (wJ s a k v) b j = if b = a ∧ j = k then v else sJ s b j := rfl
set_option maxRecDepth 100000 in
theorem sT_wI (s : aS) (a k : Nat) (v : Int32) (b : Nat) : sT (wI s a k v) b = sT s b := rfl
set_option maxRecDepth 100000 in
theorem sT_wR (s : aS) (a k : Nat) (v : Value) (b : Nat) : sT (wR s a k v) b = sT s b := rfl
set_option maxRecDepth 100000 in
theorem sT_wJ (s : aS) (a k : Nat) (v : Int64) (b : Nat) : sT (wJ s a k v) b = sT s b := rfl
set_option maxRecDepth 100000 in
theorem sL_wI (s : aS) (a k : Nat) (v : Int32) : sL (wI s a k v) = sL s := rfl
set_option maxRecDepth 100000 in
theorem sL_wR (s : aS) (a k : Nat) (v : Value) : sL (wR s a k v) = sL s := rfl
set_option maxRecDepth 100000 in
theorem sL_wJ (s : aS) (a k : Nat) (v : Int64) : sL (wJ s a k v) = sL s := rfl
set_option maxRecDepth 100000 in
theorem sL_nw (s : aS) (c n : Nat) : sL (nw s c n) = sL s + 1 := rfl
set_option maxRecDepth 100000 in
theorem sT_nw {s : aS} {c n b : Nat} (h : b < sL s) : sT (nw s c n) b = sT s b := if_neg (by omega)
set_option maxRecDepth 100000 in
theorem sI_nw {s : aS} {c n b j : Nat} (h : b < sL s) : sI (nw s c n) b j = sI s b j := if_neg (by omega)
set_option maxRecDepth 100000 in
theorem sR_nw {s : aS} {c n b j : Nat} (h : b < sL s) : sR (nw s c n) b j = sR s b j := if_neg (by omega)
set_option maxRecDepth 100000 in
theorem sJ_nw {s : aS} {c n b j : Nat} (h : b < sL s) : sJ (nw s c n) b j = sJ s b j := if_neg (by omega)
set_option maxRecDepth 100000 in
theorem iLt {x y : Int32} : x < y ↔ x.toInt < y.toInt := Int32.lt_iff_toInt_lt
set_option maxRecDepth 100000 in
theorem iLe {x y : Int32} : x ≤ y ↔ x.toInt ≤ y.toInt := Int32.le_iff_toInt_le
set_option maxRecDepth 100000 in
theorem iEq {x y : Int32} : x = y ↔ x.toInt = y.toInt := Int32.toInt_inj.symm
set_option maxRecDepth 100000 in
theorem jN_eq (j : Int32) : jN j = j.toInt.toNat := rfl
set_option maxRecDepth 100000 in
theorem aB_iff {j : Int32} {n : Nat} : aB j n ↔ 0 ≤ j.toInt ∧ j.toInt < n := by
  unfold aB
  rw [iLt, jN_eq]
  show ¬ j.toInt < 0 ∧ _ ↔ _
  omega
set_option maxRecDepth 100000 in
theorem iRange (x : Int32) : -2147483648 ≤ x.toInt ∧ x.toInt ≤ 2147483647 := by
  have h1 := Int32.le_toInt x
  have h2 := Int32.toInt_lt x
  omega
set_option maxRecDepth 100000 in
theorem iAdd {x y : Int32} (h1 : -2147483648 ≤ x.toInt + y.toInt) (h2 : x.toInt + y.toInt ≤ 2147483647) : (x + y).toInt = x.toInt + y.toInt := by
  rw [Int32.toInt_add]
  exact Int.bmod_eq_of_le (by omega) (by omega)
set_option maxRecDepth 100000 in
theorem iSub {x y : Int32} (h1 : -2147483648 ≤ x.toInt - y.toInt) (h2 : x.toInt - y.toInt ≤ 2147483647) : (x - y).toInt = x.toInt - y.toInt := by
  rw [Int32.toInt_sub]
  exact Int.bmod_eq_of_le (by omega) (by omega)
set_option maxRecDepth 100000 in
theorem iMul {x y : Int32} (h1 : -2147483648 ≤ x.toInt * y.toInt) (h2 : x.toInt * y.toInt ≤ 2147483647) : (x * y).toInt = x.toInt * y.toInt := by
  rw [Int32.toInt_mul]
  exact Int.bmod_eq_of_le (by omega) (by omega)
set_option maxRecDepth 100000 in
theorem iOfNat {n : Nat} (h : n < 2147483648) : (Int32.ofNat n).toInt = n := Int32.toInt_ofNat_of_lt h
/-- cells and their weight -/
def wt (p : Nat × Nat) : Nat := if 80 ≤ p.1 ∧ p.1 < 100 then 6 else p.2
set_option maxRecDepth 100000 in
theorem aSz_nw (s : aS) (c n : Nat) : aSz (nw s c n) = aSz s + wt (c, n) := by
  show ((List.range (sL s + 1)).map _).sum = _
  rw [List.range_succ, List.map_append, List.sum_append]
  have h1 : (List.range (sL s)).map (fun a => if 80 ≤ (sT (nw s c n) a).1 ∧ (sT (nw s c n) a).1 < 100 then 6 else (sT (nw s c n) a).2) = (List.range (sL s)).map fun a => if 80 ≤ (sT s a).1 ∧ (sT s a).1 < 100 then 6 else (sT s a).2 := by
    refine List.map_congr_left fun a ha => ?_
    rw [sT_nw (List.mem_range.mp ha)]
  have h2 : sT (nw s c n) (sL s) = (c, n) := if_pos rfl
  rw [h1]
  simp only [List.map_cons, List.map_nil, List.sum_cons, List.sum_nil, h2]
  rfl
set_option maxRecDepth 100000 in
theorem aSz_wI (s : aS) (a k : Nat) (v : Int32) : aSz (wI s a k v) = aSz s := rfl
set_option maxRecDepth 100000 in
theorem aSz_wR (s : aS) (a k : Nat) (v : Value) : aSz (wR s a k v) = aSz s := rfl
set_option maxRecDepth 100000 in
theorem aSz_wJ (s : aS) (a k : Nat) (v : Int64) : aSz (wJ s a k v) = aSz s := rfl
set_option maxRecDepth 100000 in
theorem aSz_csE (xs : List Int32) : aSz (csE xs) ≤ xs.length + 30000 := by
  obtain ⟨h1, h2, h3, -, -, -, h7, -⟩ := caE xs
  have hL : sL (csE []) = 149 := by decide +kernel
  have hz : aSz (csE []) ≤ 30000 := by decide +kernel
  unfold aSz at hz ⊢
  rw [h1, hL, show (149 : Nat) = 148 + 1 from rfl, List.range_succ_eq_map, List.map_cons, List.sum_cons]
  rw [hL, show (149 : Nat) = 148 + 1 from rfl, List.range_succ_eq_map, List.map_cons, List.sum_cons] at hz
  have e : ((List.range 148).map Nat.succ).map (fun a => if 80 ≤ (sT (csE xs) a).1 ∧ (sT (csE xs) a).1 < 100 then 6 else (sT (csE xs) a).2) = ((List.range 148).map Nat.succ).map (fun a => if 80 ≤ (sT (csE []) a).1 ∧ (sT (csE []) a).1 < 100 then 6 else (sT (csE []) a).2) := by
    refine List.map_congr_left fun a ha => ?_
    obtain ⟨j, -, rfl⟩ := List.mem_map.mp ha
    rw [h3 (Nat.succ j) (Nat.succ_ne_zero j)]
  rw [e, h7 0 (by decide)]
  have : (if 80 ≤ (zTt0 xs.length 0).1 ∧ (zTt0 xs.length 0).1 < 100 then 6 else (zTt0 xs.length 0).2) = xs.length := rfl
  rw [this]
  omega
