/-! the sheets' names, in both; the first that is like a text -/
def nsOk (ns : List (List Int32)) : Prop := ns.length ≤ 8 ∧ ∀ n ∈ ns, 1 ≤ n.length ∧ n.length ≤ 31 ∧ okT n
def SC (s : aS) (ns : List (List Int32)) : Prop := sI s 81 2 = Int32.ofNat ns.length ∧ ∀ i (h : i < ns.length), LT s (84 + 2 * i) ns[i]
def SM (s : aS) (ns : List (List Int32)) : Prop := sI s 121 3 = Int32.ofNat ns.length ∧ ∀ i (h : i < ns.length), sI s 123 i = Int32.ofNat ns[i].length ∧ ∀ j (g : j < ns[i].length), sI s 124 (32 * i + j) = ns[i][j]
/-- the rooms of the names -/
def RC (s : aS) : Prop := (sT s 80).2 = 256 ∧ ∀ i, i < 8 → (sT s (85 + 2 * i)).2 = 31
set_option maxRecDepth 100000 in
theorem RC.of {A : Nat → Nat → Prop} {s s1 : aS} (h : RC s) (g : ch A s s1) : RC s1 := ⟨by rw [g.2.1]; exact h.1, fun i hi => by rw [g.2.1]; exact h.2 i hi⟩
set_option maxRecDepth 100000 in
theorem RC.ly {tt : Nat} {cc : Nat → Nat → Int32} {s : aS} (h : Ly tt cc s) : RC s := by
  refine ⟨by rw [h.T (a := 80) (p := (102, 256)) 2 rfl rfl], fun i hi => ?_⟩
  match i, hi with
  | 0, _ => rw [h.T (a := 85) (p := (102, 31)) 7 rfl rfl]
  | 1, _ => rw [h.T (a := 87) (p := (102, 31)) 9 rfl rfl]
  | 2, _ => rw [h.T (a := 89) (p := (102, 31)) 11 rfl rfl]
  | 3, _ => rw [h.T (a := 91) (p := (102, 31)) 13 rfl rfl]
  | 4, _ => rw [h.T (a := 93) (p := (102, 31)) 15 rfl rfl]
  | 5, _ => rw [h.T (a := 95) (p := (102, 31)) 17 rfl rfl]
  | 6, _ => rw [h.T (a := 97) (p := (102, 31)) 19 rfl rfl]
  | 7, _ => rw [h.T (a := 99) (p := (102, 31)) 21 rfl rfl]
set_option maxRecDepth 100000 in
noncomputable def fndF (t : List Int32) : List (List Int32) → Nat → Int32
  | [], _ => -1
  | n :: r, i => if b01 (lk n t) = 0 then fndF t r (i + 1) else Int32.ofNat i
set_option maxRecDepth 100000 in
theorem jN_of {i : Nat} (h : i < 2147483648) : jN (Int32.ofNat i) = i := by rw [jN_eq, iOfNat h]; omega
set_option maxRecDepth 100000 in
theorem d32l {s : aS} {b : Nat} {t : List Int32} {ns : List (List Int32)} (hs : SC s ns) (hr : RC s) (ho : nsOk ns) (h : LT s b t) (hT : t.length ≤ (sT s (b + 1)).2) (hm : t.length < 1000000) : ∀ (m i n : Nat), i + m = ns.length → m < n → dm32_2 n b (Int32.ofNat i) s = some (fndF t (ns.drop i) i) := by
  intro m
  induction m with
  | zero =>
    intro i n hi hn
    obtain ⟨n, rfl⟩ : ∃ k, n = k + 1 := ⟨n - 1, by omega⟩
    have h8 := ho.1
    rw [dm32_2, hs.1, if_pos (by rw [iLe, iOfNat (by omega), iOfNat (by omega)]; omega), List.drop_eq_nil_of_le (by omega)]
    rfl
  | succ m ih =>
    intro i n hi hn
    obtain ⟨n, rfl⟩ : ∃ k, n = k + 1 := ⟨n - 1, by omega⟩
    have h8 := ho.1
    have h1 : i < ns.length := by omega
    have hn1 := ho.2 _ (List.getElem_mem h1)
    rw [dm32_2, hs.1, if_neg (by rw [iLe, iOfNat (by omega), iOfNat (by omega)]; omega), if_pos (by rw [aB_iff, iOfNat (by omega)]; omega), jN_of (by omega), d33 (hs.2 i h1) h (by rw [show 84 + 2 * i + 1 = 85 + 2 * i by omega, hr.2 i (by omega)]; omega) hT (by omega) hm]
    simp only [bu_some]
    rw [ofNat_succ (by omega), ih (i + 1) n (by omega) (by omega), List.drop_eq_getElem_cons h1]
    show _ = some (if b01 (lk ns[i] t) = 0 then fndF t (ns.drop (i + 1)) (i + 1) else Int32.ofNat i)
    split <;> rfl
set_option maxRecDepth 100000 in
theorem d32 {s : aS} {b : Nat} {t : List Int32} {ns : List (List Int32)} (hs : SC s ns) (hr : RC s) (ho : nsOk ns) (h : LT s b t) (hT : t.length ≤ (sT s (b + 1)).2) (hm : t.length < 1000000) : dm32 b s = some (fndF t ns 0) := by
  unfold dm32
  have h8 := ho.1
  have := d32l hs hr ho h hT hm ns.length 0 5000 (by omega) (by omega)
  rw [List.drop_zero] at this
  exact this
set_option maxRecDepth 100000 in
theorem iLin {i j : Nat} (hi : i < 1000) (hj : j < 100000) : (32 * Int32.ofNat i) + Int32.ofNat j = Int32.ofNat (32 * i + j) := by
  have e1 : (Int32.ofNat i).toInt = i := iOfNat (by omega)
  have e2 : (Int32.ofNat j).toInt = j := iOfNat (by omega)
  have e3 : (32 * Int32.ofNat i).toInt = 32 * i := by
    rw [iMul (x := 32) (by rw [e1]; show _ ≤ (32 : Int) * i; omega) (by rw [e1]; show (32 : Int) * i ≤ _; omega), e1]
    rfl
  apply Int32.toInt_inj.mp
  rw [iAdd (by rw [e3, e2]; omega) (by rw [e3, e2]; omega), e3, e2, iOfNat (by omega)]
  omega
set_option maxRecDepth 100000 in
theorem iSum {i j : Nat} (hi : i < 1000000) (hj : j < 1000000) : Int32.ofNat i + Int32.ofNat j = Int32.ofNat (i + j) := by
  have e1 : (Int32.ofNat i).toInt = i := iOfNat (by omega)
  have e2 : (Int32.ofNat j).toInt = j := iOfNat (by omega)
  apply Int32.toInt_inj.mp
  rw [iAdd (by rw [e1, e2]; omega) (by rw [e1, e2]; omega), e1, e2, iOfNat (by omega)]
  omega
/-- letters that lie in a row from a place on -/
def RW (s : aS) (b o : Nat) (u : List Int32) : Prop := o + u.length ≤ (sT s b).2 ∧ ∀ j (h : j < u.length), sI s b (o + j) = u[j]
set_option maxRecDepth 100000 in
theorem d177i {s : aS} {b o i : Nat} {u n9 : List Int32} {k2 : Nat → Int32 → Int32 → Int32 → aS → Option Int32} (hu : RW s b o u) (ho : o + u.length < 100000) (hi : i < 8) (hn : ∀ j (g : j < n9.length), sI s 124 (32 * i + j) = n9[j]) (he : n9.length = u.length) (h31 : n9.length ≤ 31) : ∀ (m j n : Nat), j + m = u.length → m + 1 < n → dm177_18 k2 n b (Int32.ofNat o) (Int32.ofNat u.length) (Int32.ofNat i) 1 (Int32.ofNat j) s = dm177_45 k2 b (Int32.ofNat o) (Int32.ofNat u.length) (Int32.ofNat i) (b01 ((n9.drop j).map gr = (u.drop j).map gr)) s := by
  intro m
  induction m with
  | zero =>
    intro j n hj hn9
    obtain ⟨n, rfl⟩ : ∃ k, n = k + 1 := ⟨n - 1, by omega⟩
    rw [dm177_18, if_pos (by rw [iLe, iOfNat (by omega), iOfNat (by omega)]; omega), b01_t]
    rw [List.drop_eq_nil_of_le (by omega), List.drop_eq_nil_of_le (by omega)]
  | succ m ih =>
    intro j n hj hn9
    obtain ⟨n, rfl⟩ : ∃ k, n = k + 1 := ⟨n - 1, by omega⟩
    have h1 : j < n9.length := by omega
    have h2 : j < u.length := by omega
    have hb := hu.1
    rw [dm177_18, if_neg (by rw [iLe, iOfNat (by omega), iOfNat (by omega)]; omega), if_neg (by decide), iLin (by omega) (by omega), iSum (by omega) (by omega), if_pos (by rw [aB_iff, iOfNat (by omega)]; omega), jN_of (i := 32 * i + j) (by omega), hn j h1]
    simp only [bu_some, d178]
    rw [if_pos (by rw [aB_iff, iOfNat (by omega)]; omega), jN_of (by omega), hu.2 j h2]
    unfold dm177_42
    rw [ofNat_succ (by omega), List.drop_eq_getElem_cons h1, List.drop_eq_getElem_cons h2, List.map_cons, List.map_cons]
    by_cases hq : gr n9[j] = gr u[j]
    · rw [if_pos hq, ih (j + 1) n (by omega) (by omega)]
      congr 1
      exact b01_c ⟨fun q => by rw [hq, q], fun q => (List.cons.inj q).2⟩
    · rw [if_neg hq, b01_f (fun q => hq (List.cons.inj q).1)]
      obtain ⟨n, rfl⟩ : ∃ k, n = k + 1 := ⟨n - 1, by omega⟩
      rw [dm177_18]
      split
      · rfl
      · rw [if_pos rfl]
set_option maxRecDepth 100000 in
theorem d177l {s : aS} {b o : Nat} {u : List Int32} {ns : List (List Int32)} (hs : SM s ns) (ho : nsOk ns) (hu : RW s b o u) (hb : o + u.length < 4000) : ∀ (m i n : Nat), i + m = ns.length → m < n → dm177_2 n b (Int32.ofNat o) (Int32.ofNat u.length) (Int32.ofNat i) s = some (fndF u (ns.drop i) i) := by
  intro m
  induction m with
  | zero =>
    intro i n hi hn
    obtain ⟨n, rfl⟩ : ∃ k, n = k + 1 := ⟨n - 1, by omega⟩
    have h8 := ho.1
    rw [dm177_2, hs.1, if_pos (by rw [iLe, iOfNat (by omega), iOfNat (by omega)]; omega), List.drop_eq_nil_of_le (by omega)]
    rfl
  | succ m ih =>
    intro i n hi hn
    obtain ⟨n, rfl⟩ : ∃ k, n = k + 1 := ⟨n - 1, by omega⟩
    have h8 := ho.1
    have h1 : i < ns.length := by omega
    have hn1 := ho.2 _ (List.getElem_mem h1)
    obtain ⟨g1, g2⟩ := hs.2 i h1
    rw [dm177_2, hs.1, if_neg (by rw [iLe, iOfNat (by omega), iOfNat (by omega)]; omega), if_pos (by rw [aB_iff, iOfNat (by omega)]; omega), jN_of (by omega), g1, List.drop_eq_getElem_cons h1]
    unfold dm177_15
    have key : ∀ x : Int32, x = b01 (lk ns[i] u) → dm177_45 (dm177_2 n) b (Int32.ofNat o) (Int32.ofNat u.length) (Int32.ofNat i) x s = some (fndF u (ns[i] :: ns.drop (i + 1)) i) := by
      intro x hx
      unfold dm177_45
      rw [ofNat_succ (by omega), ih (i + 1) n (by omega) (by omega), hx]
      show _ = some (if b01 (lk ns[i] u) = 0 then fndF u (ns.drop (i + 1)) (i + 1) else Int32.ofNat i)
      split <;> rfl
    by_cases he : ns[i].length = u.length
    · rw [if_pos (by rw [he]), show (0 : Int32) = Int32.ofNat 0 from rfl, d177i hu (by omega) (by omega) g2 he hn1.2.1 u.length 0 5000 (by omega) (by omega)]
      exact key _ (by rw [List.drop_zero, List.drop_zero]; rfl)
    · rw [if_neg (fun q => by have := congrArg Int32.toInt q; rw [iOfNat (by omega), iOfNat (by omega)] at this; omega)]
      have hf : b01 (lk ns[i] u) = 0 := b01_f fun q => he (by have := congrArg List.length q; simpa using this)
      have : dm177_18 (dm177_2 n) 5000 b (Int32.ofNat o) (Int32.ofNat u.length) (Int32.ofNat i) 0 0 s = dm177_45 (dm177_2 n) b (Int32.ofNat o) (Int32.ofNat u.length) (Int32.ofNat i) 0 s := by
        rw [dm177_18]
        split
        · rfl
        · rw [if_pos rfl]
      rw [this]
      exact key 0 hf.symm
set_option maxRecDepth 100000 in
theorem d177 {s : aS} {b o : Nat} {u : List Int32} {ns : List (List Int32)} (hs : SM s ns) (ho : nsOk ns) (hu : RW s b o u) (hb : o + u.length < 4000) : dm177 b (Int32.ofNat o) (Int32.ofNat u.length) s = some (fndF u ns 0) := by
  unfold dm177
  have h8 := ho.1
  have := d177l hs ho hu hb ns.length 0 5000 (by omega) (by omega)
  rw [List.drop_zero] at this
  exact this
