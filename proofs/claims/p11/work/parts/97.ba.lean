/-! the reference's object with other numbers in it; the place where it reads -/
def wF (s : aS) (r : Nat → Int32) : aS := (s.1, s.2.1, fun a k => if a = 121 then r k else s.2.2.1 a k, s.2.2.2)
set_option maxRecDepth 100000 in
theorem wF_t (s : aS) (r : Nat → Int32) (k : Nat) : sI (wF s r) 121 k = r k := by
  show (if (121 : Nat) = 121 then r k else s.2.2.1 121 k) = r k
  exact if_pos rfl
set_option maxRecDepth 100000 in
theorem wF_n {s : aS} {r : Nat → Int32} {a k : Nat} (h : a ≠ 121) : sI (wF s r) a k = sI s a k := if_neg h
set_option maxRecDepth 100000 in
theorem wF_T (s : aS) (r : Nat → Int32) (a : Nat) : sT (wF s r) a = sT s a := rfl
set_option maxRecDepth 100000 in
theorem wI_wF (s : aS) (r : Nat → Int32) (k : Nat) (v : Int32) : wI (wF s r) 121 k v = wF s (setN r k v) := by
  have e : fu (fun a k => if a = 121 then r k else s.2.2.1 a k) 121 k v = fun a j => if a = 121 then setN r k v j else s.2.2.1 a j := by
    funext a j
    show (if a = 121 ∧ j = k then v else if a = 121 then r j else s.2.2.1 a j) = if a = 121 then (if j = k then v else r j) else s.2.2.1 a j
    by_cases h : a = 121
    · rw [if_pos h, if_pos h]
      by_cases g : j = k
      · rw [if_pos ⟨h, g⟩, if_pos g]
      · rw [if_neg (fun q => g q.2), if_neg g]
    · rw [if_neg (fun q => h q.1), if_neg h, if_neg h]
  show ((s.1, s.2.1, fu (fun a k => if a = 121 then r k else s.2.2.1 a k) 121 k v, s.2.2.2) : aS) = (s.1, s.2.1, fun a j => if a = 121 then setN r k v j else s.2.2.1 a j, s.2.2.2)
  rw [e]
set_option maxRecDepth 100000 in
theorem wF_wI {s : aS} {r : Nat → Int32} {a k : Nat} {v : Int32} (h : a ≠ 121) : wI (wF s r) a k v = wF (wI s a k v) r := by
  have e : fu (fun a k => if a = 121 then r k else s.2.2.1 a k) a k v = fun b j => if b = 121 then r j else fu s.2.2.1 a k v b j := by
    funext b j
    show (if b = a ∧ j = k then v else if b = 121 then r j else s.2.2.1 b j) = if b = 121 then r j else if b = a ∧ j = k then v else s.2.2.1 b j
    by_cases g : b = 121
    · rw [if_neg (fun q => h (by rw [← q.1]; exact g)), if_pos g, if_pos g]
    · rw [if_neg g, if_neg g]
  show ((s.1, s.2.1, fu (fun a k => if a = 121 then r k else s.2.2.1 a k) a k v, s.2.2.2) : aS) = (s.1, s.2.1, fun b j => if b = 121 then r j else fu s.2.2.1 a k v b j, s.2.2.2)
  rw [e]
set_option maxRecDepth 100000 in
theorem wF_id (s : aS) : wF s (fun k => sI s 121 k) = s := by
  have e : (fun a k => if a = 121 then sI s 121 k else s.2.2.1 a k) = s.2.2.1 := by
    funext a k
    by_cases h : a = 121
    · rw [if_pos h, h]; rfl
    · rw [if_neg h]
  show ((s.1, s.2.1, (fun a k => if a = 121 then sI s 121 k else s.2.2.1 a k), s.2.2.2) : aS) = s
  rw [e]
set_option maxRecDepth 100000 in
theorem setN_id {r : Nat → Int32} {k : Nat} {v : Int32} (h : r k = v) : setN r k v = r := by
  funext j
  unfold setN
  by_cases g : j = k
  · rw [if_pos g, g, h]
  · rw [if_neg g]
set_option maxRecDepth 100000 in
theorem setN_2 (r : Nat → Int32) (k : Nat) (u v : Int32) : setN (setN r k u) k v = setN r k v := by
  funext j
  unfold setN
  by_cases g : j = k
  · rw [if_pos g, if_pos g]
  · rw [if_neg g, if_neg g, if_neg g]
set_option maxRecDepth 100000 in
theorem setN_c {r : Nat → Int32} {k l : Nat} {u v : Int32} (h : k ≠ l) : setN (setN r k u) l v = setN (setN r l v) k u := by
  funext j
  unfold setN
  by_cases g : j = k
  · by_cases e : j = l
    · omega
    · rw [if_neg e, if_pos g, if_pos g]
  · by_cases e : j = l
    · rw [if_pos e, if_neg g, if_pos e]
    · rw [if_neg e, if_neg g, if_neg g, if_neg e]
/-- reading at place i -/
def wP (s : aS) (r : Nat → Int32) (i : Nat) : aS := wF s (setN r 26 (Int32.ofNat i))
set_option maxRecDepth 100000 in
theorem wP_at (s : aS) (r : Nat → Int32) (i : Nat) : sI (wP s r i) 121 26 = Int32.ofNat i := by
  unfold wP
  rw [wF_t]
  exact if_pos rfl
set_option maxRecDepth 100000 in
theorem wP_f {s : aS} {r : Nat → Int32} {i k : Nat} (h : k ≠ 26) : sI (wP s r i) 121 k = r k := by
  unfold wP
  rw [wF_t]
  exact if_neg h
set_option maxRecDepth 100000 in
theorem wP_n {s : aS} {r : Nat → Int32} {i a k : Nat} (h : a ≠ 121) : sI (wP s r i) a k = sI s a k := wF_n h
set_option maxRecDepth 100000 in
theorem wP_go (s : aS) (r : Nat → Int32) (i j : Nat) : wI (wP s r i) 121 26 (Int32.ofNat j) = wP s r j := by
  unfold wP
  rw [wI_wF, setN_2]
set_option maxRecDepth 100000 in
theorem wP_set {s : aS} {r : Nat → Int32} {i k : Nat} {v : Int32} (h : k ≠ 26) : wI (wP s r i) 121 k v = wP s (setN r k v) i := by
  unfold wP
  rw [wI_wF, setN_c (Ne.symm h)]
set_option maxRecDepth 100000 in
theorem wP_wI {s : aS} {r : Nat → Int32} {i a k : Nat} {v : Int32} (h : a ≠ 121) : wI (wP s r i) a k v = wP (wI s a k v) r i := wF_wI h
set_option maxRecDepth 100000 in
theorem wP_id {s : aS} {i : Nat} (h : sI s 121 26 = Int32.ofNat i) : wP s (fun k => sI s 121 k) i = s := by
  unfold wP
  rw [setN_id h, wF_id]
/-- the text -/
def TX (s : aS) (r : Nat → Int32) (t : List Int32) : Prop := t.length ≤ 256 ∧ r 1 = Int32.ofNat t.length ∧ ∀ j (h : j < t.length), sI s 122 j = t[j]
set_option maxRecDepth 100000 in
theorem TX.set {s : aS} {r : Nat → Int32} {t : List Int32} (h : TX s r t) (k : Nat) (v : Int32) (hk : k ≠ 1) : TX s (setN r k v) t := ⟨h.1, (if_neg (Ne.symm hk)).trans h.2.1, h.2.2⟩
set_option maxRecDepth 100000 in
theorem TX.wr {s : aS} {r : Nat → Int32} {t : List Int32} (h : TX s r t) {a k : Nat} {v : Int32} (ha : a ≠ 122) : TX (wI s a k v) r t := ⟨h.1, h.2.1, fun j hj => (if_neg (fun q => ha q.1.symm)).trans (h.2.2 j hj)⟩
set_option maxRecDepth 100000 in
theorem TX.mt {s : aS} {r : Nat → Int32} {t : List Int32} (h : TX s r t) (i : Nat) : MT (wP s r i) t := ⟨(wP_f (by decide)).trans h.2.1, fun j hj => (wP_n (by decide)).trans (h.2.2 j hj)⟩
set_option maxRecDepth 100000 in
theorem TX.len {s : aS} {r : Nat → Int32} {t : List Int32} (h : TX s r t) (i : Nat) : sI (wP s r i) 121 1 = Int32.ofNat t.length := (h.mt i).1
set_option maxRecDepth 100000 in
theorem rch {s : aS} {r : Nat → Int32} {t : List Int32} (h : TX s r t) {i j : Nat} (hj : j < 100000) : dm176 (Int32.ofNat j) (wP s r i) = some (t.getD j 0) := d176 (h.mt i) h.1 hj
set_option maxRecDepth 100000 in
theorem d196 (x : Int32) : dm196 x = some (b01 (isD x)) := by
  unfold dm196
  have l1 : x < 48 ↔ x.toInt < 48 := iLt
  have l2 : 57 < x ↔ 57 < x.toInt := iLt
  by_cases h1 : x < 48
  · rw [if_pos h1, b01_f]
    intro q
    have := q.1
    have := l1.mp h1
    omega
  · rw [if_neg h1]
    have h1 : ¬ x.toInt < 48 := fun q => h1 (l1.mpr q)
    by_cases h2 : 57 < x
    · rw [if_pos h2, b01_f]
      intro q
      have := q.2
      have := l2.mp h2
      omega
    · rw [if_neg h2, b01_t]
      have h2 : ¬ 57 < x.toInt := fun q => h2 (l2.mpr q)
      exact ⟨by omega, by omega⟩
set_option maxRecDepth 100000 in
theorem d198 (x : Int32) : dm198 x = some (b01 (isL x)) := by
  unfold dm198 dm198_6 dm198_12
  have l1 : x < 97 ↔ x.toInt < 97 := iLt
  have l2 : x ≤ 122 ↔ x.toInt ≤ 122 := iLe
  have l3 : x < 65 ↔ x.toInt < 65 := iLt
  have l4 : 90 < x ↔ 90 < x.toInt := iLt
  by_cases q : isL x
  · rw [b01_t q]
    rcases q with q | q
    · rw [if_pos (l1.mpr (by omega)), if_neg (fun z => by have := l3.mp z; omega), if_neg (fun z => by have := l4.mp z; omega)]
    · rw [if_neg (fun z => by have := l1.mp z; omega), if_pos (l2.mpr (by omega))]
  · rw [b01_f q]
    have q1 : ¬ (65 ≤ x.toInt ∧ x.toInt ≤ 90) := fun z => q (Or.inl z)
    have q2 : ¬ (97 ≤ x.toInt ∧ x.toInt ≤ 122) := fun z => q (Or.inr z)
    have tail : (if x < 65 then some (0 : Int32) else if 90 < x then some 0 else some 1) = some 0 := by
      by_cases h3 : x < 65
      · rw [if_pos h3]
      · rw [if_neg h3, if_pos (l4.mpr (by
          have : ¬ x.toInt < 65 := fun z => h3 (l3.mpr z)
          omega))]
    by_cases h1 : x < 97
    · rw [if_pos h1, tail]
    · rw [if_neg h1, if_neg (fun z => by
        have := l2.mp z
        have : ¬ x.toInt < 97 := fun z => h1 (l1.mpr z)
        omega), tail]
set_option maxRecDepth 100000 in
theorem d197 (x : Int32) : dm197 x = some (b01 (bW x)) := by
  unfold dm197 dm197_6
  rw [d198]
  simp only [bu_some]
  by_cases h1 : isL x
  · rw [b01_t h1, if_neg (by decide), b01_t (show bW x from Or.inl h1)]
  · rw [b01_f h1, if_pos rfl]
    by_cases h2 : x = 95
    · rw [if_pos h2, b01_t (show bW x from Or.inr h2)]
    · rw [if_neg h2, b01_f]
      rintro (q | q)
      · exact h1 q
      · exact h2 q
set_option maxRecDepth 100000 in
theorem d211 (x : Int32) : dm211 x = some (b01 (gW x)) := by
  unfold dm211 dm211_9
  rw [d197, d196]
  simp only [bu_some]
  by_cases h1 : bW x
  · rw [b01_t h1, if_neg (by decide), b01_t]
    rcases h1 with q | q
    · exact Or.inl q
    · exact Or.inr (Or.inr (Or.inl q))
  · rw [b01_f h1, if_pos rfl]
    by_cases h2 : isD x
    · rw [b01_t h2, if_neg (by decide), b01_t (show gW x from Or.inr (Or.inl h2))]
    · rw [b01_f h2, if_pos rfl]
      by_cases h3 : x = 46
      · rw [if_pos h3, b01_t (show gW x from Or.inr (Or.inr (Or.inr h3)))]
      · rw [if_neg h3, b01_f]
        rintro (q | q | q | q)
        · exact h1 (Or.inl q)
        · exact h2 q
        · exact h1 (Or.inr q)
        · exact h3 q
