/-! the reference takes a name away; both tell names -/
set_option maxRecDepth 100000 in
theorem ofNat_sub1 {n : Nat} (h : 1 ≤ n) (h2 : n < 2147483648) : Int32.ofNat n - 1 = Int32.ofNat (n - 1) := by
  apply Int32.toInt_inj.mp
  rw [iSub (y := 1) (by rw [iOfNat (by omega)]; show _ ≤ (n : Int) - 1; omega) (by rw [iOfNat (by omega)]; show (n : Int) - 1 ≤ _; omega), iOfNat (by omega), iOfNat (by omega)]
  show (n : Int) - 1 = ((n - 1 : Nat) : Int)
  omega
set_option maxRecDepth 100000 in
theorem d182c {i : Nat} {k9 : Int32 → aS → Option aS} (hi : i < 7) : ∀ (m j n : Nat) (s : aS), j + m = 32 → m < n → ∃ s', dm182_130 k9 n (Int32.ofNat i) (Int32.ofNat j) s = k9 (Int32.ofNat (i + 1)) s' ∧ (∀ q, j ≤ q → q < 32 → sI s' 124 (32 * i + q) = sI s 124 (32 * i + 32 + q)) ∧ ch (fun a k => a = 124 ∧ 32 * i + j ≤ k ∧ k < 32 * i + 32) s s' := by
  intro m
  induction m with
  | zero =>
    intro j n s hj hn
    obtain ⟨n, rfl⟩ : ∃ k, n = k + 1 := ⟨n - 1, by omega⟩
    rw [dm182_130, if_pos (by rw [iLe, iOfNat (by omega)]; show (32 : Int) ≤ j; omega), ofNat_succ (by omega)]
    exact ⟨s, rfl, fun q h1 h2 => by omega, ch.refl _ s⟩
  | succ m ih =>
    intro j n s hj hn
    obtain ⟨n, rfl⟩ : ∃ k, n = k + 1 := ⟨n - 1, by omega⟩
    have e1 : ((32 * Int32.ofNat i) + 32) + Int32.ofNat j = Int32.ofNat (32 * i + 32 + j) := by
      rw [show (32 : Int32) = Int32.ofNat 32 from rfl, show Int32.ofNat 32 * Int32.ofNat i + Int32.ofNat 32 = Int32.ofNat (32 * i + 32) from iLin (by omega) (by omega), iSum (by omega) (by omega)]
    rw [dm182_130, if_neg (by rw [iLe, iOfNat (by omega)]; show ¬ (32 : Int) ≤ j; omega), e1, iLin (by omega) (by omega), if_pos (by rw [aB_iff, iOfNat (by omega)]; omega), if_pos (by rw [aB_iff, iOfNat (by omega)]; omega), nx_eq, jN_of (by omega), jN_of (by omega), ofNat_succ (by omega)]
    have hc1 : ch (fun a k => a = 124 ∧ k = 32 * i + j) s (wI s 124 (32 * i + j) (sI s 124 (32 * i + 32 + j))) := (ch.refl _ s).wI ⟨rfl, rfl⟩
    obtain ⟨s', g1, g2, g3⟩ := ih (j + 1) n _ (by omega) (by omega)
    refine ⟨s', g1, fun q h1 h2 => ?_, (hc1.mono fun a k q => by omega).trans (g3.mono fun a k q => by omega)⟩
    by_cases e : q = j
    · subst e
      rw [g3.i (by omega), sI_wI, if_pos ⟨rfl, rfl⟩]
    · rw [g2 q (by omega) h2, hc1.i (by omega)]
/-- names by their numbers, in the reference -/
def MF (s : aS) (n : Nat) (f : Nat → List Int32) : Prop := sI s 121 3 = Int32.ofNat n ∧ ∀ k, k < n → sI s 123 k = Int32.ofNat (f k).length ∧ ∀ j (h : j < (f k).length), sI s 124 (32 * k + j) = (f k)[j]
set_option maxRecDepth 100000 in
theorem MF.cg {s : aS} {n : Nat} {f g : Nat → List Int32} (h : MF s n f) (e : ∀ k, k < n → f k = g k) : MF s n g := ⟨h.1, fun k hk => e k hk ▸ h.2 k hk⟩
set_option maxRecDepth 100000 in
theorem d182n {i n9 : Nat} {nm : Nat → List Int32} (hi : i < n9) (h8 : n9 ≤ 8) (hk : ∀ k, k < n9 → (nm k).length ≤ 31) : ∀ (m j n : Nat) (s : aS), j + m + 1 = n9 → i ≤ j → m < n → MF s n9 (fun k => if i ≤ k ∧ k < j then nm (k + 1) else nm k) → ∃ s', dm182_112 n (Int32.ofNat j) s = some s' ∧ MF s' (n9 - 1) (fun k => if i ≤ k then nm (k + 1) else nm k) ∧ ch (fun a k => (a = 121 ∧ k = 3) ∨ a = 123 ∨ a = 124) s s' := by
  intro m
  induction m with
  | zero =>
    intro j n s hj hij hn hs
    obtain ⟨n, rfl⟩ : ∃ k, n = k + 1 := ⟨n - 1, by omega⟩
    rw [dm182_112, hs.1, ofNat_succ (by omega), if_pos (by rw [iLe, iOfNat (by omega), iOfNat (by omega)]; omega), nx_eq, ofNat_sub1 (by omega) (by omega)]
    have hc : ch (fun a k => a = 121 ∧ k = 3) s (wI s 121 3 (Int32.ofNat (n9 - 1))) := (ch.refl _ s).wI ⟨rfl, rfl⟩
    refine ⟨_, rfl, MF.cg (f := fun k => if i ≤ k ∧ k < j then nm (k + 1) else nm k) ⟨by rw [sI_wI, if_pos ⟨rfl, rfl⟩], fun k hk9 => ?_⟩ fun k hk9 => ?_, hc.mono fun a k q => by omega⟩
    · obtain ⟨a1, a2⟩ := hs.2 k (by omega)
      exact ⟨(hc.i (by omega)).trans a1, fun q hq => (hc.i (by omega)).trans (a2 q hq)⟩
    · by_cases q : i ≤ k
      · rw [if_pos ⟨q, by omega⟩, if_pos q]
      · rw [if_neg (fun z => q z.1), if_neg q]
  | succ m ih =>
    intro j n s hj hij hn hs
    obtain ⟨n, rfl⟩ : ∃ k, n = k + 1 := ⟨n - 1, by omega⟩
    rw [dm182_112, hs.1, ofNat_succ (by omega), if_neg (by rw [iLe, iOfNat (by omega), iOfNat (by omega)]; omega), if_pos (by rw [aB_iff, iOfNat (by omega)]; omega), if_pos (by rw [aB_iff, iOfNat (by omega)]; omega), nx_eq, jN_of (by omega), jN_of (by omega)]
    have hc1 : ch (fun a k => a = 123 ∧ k = j) s (wI s 123 j (sI s 123 (j + 1))) := (ch.refl _ s).wI ⟨rfl, rfl⟩
    obtain ⟨s1, g1, g2, g3⟩ := d182c (i := j) (k9 := dm182_112 n) (by omega) 32 0 5000 (wI s 123 j (sI s 123 (j + 1))) (by omega) (by omega)
    have g1 : dm182_130 (dm182_112 n) 5000 (Int32.ofNat j) 0 (wI s 123 j (sI s 123 (j + 1))) = dm182_112 n (Int32.ofNat (j + 1)) s1 := g1
    rw [g1]
    obtain ⟨a1, a2⟩ := hs.2 (j + 1) (by omega)
    have a1 : sI s 123 (j + 1) = Int32.ofNat (if i ≤ j + 1 ∧ j + 1 < j then nm (j + 1 + 1) else nm (j + 1)).length := a1
    have a2 : ∀ q (h : q < (if i ≤ j + 1 ∧ j + 1 < j then nm (j + 1 + 1) else nm (j + 1)).length), sI s 124 (32 * (j + 1) + q) = (if i ≤ j + 1 ∧ j + 1 < j then nm (j + 1 + 1) else nm (j + 1))[q] := a2
    have hkj := hk (j + 1) (by omega)
    rw [if_neg (by omega)] at a1
    have a2 : ∀ q (h : q < (nm (j + 1)).length), sI s 124 (32 * (j + 1) + q) = (nm (j + 1))[q] := by
      have e : (if i ≤ j + 1 ∧ j + 1 < j then nm (j + 1 + 1) else nm (j + 1)) = nm (j + 1) := if_neg (by omega)
      intro q hq
      have := a2 q (by rw [e]; exact hq)
      simp only [e] at this
      exact this
    obtain ⟨s', b1, b2, b3⟩ := ih (j + 1) n s1 (by omega) (by omega) (by omega) ⟨(g3.i (by omega)).trans ((hc1.i (by omega)).trans hs.1), fun k hk9 => by
      have main : ∀ u : List Int32, (k = j → u = nm (j + 1)) → (k ≠ j → u = (if i ≤ k ∧ k < j then nm (k + 1) else nm k)) → sI s1 123 k = Int32.ofNat u.length ∧ ∀ q (h : q < u.length), sI s1 124 (32 * k + q) = u[q] := by
        intro u u1 u2
        by_cases e : k = j
        · have := u1 e
          subst this
          subst e
          refine ⟨(g3.i (by omega)).trans (by rw [sI_wI, if_pos ⟨rfl, rfl⟩]; exact a1), fun q hq => ?_⟩
          rw [g2 q (by omega) (by omega), hc1.i (by omega), show 32 * k + 32 + q = 32 * (k + 1) + q by omega]
          exact a2 q hq
        · have := u2 e
          subst this
          obtain ⟨c1, c2⟩ := hs.2 k hk9
          have hk1 : (if i ≤ k ∧ k < j then nm (k + 1) else nm k).length ≤ 31 := by
            split
            · exact hk _ (by omega)
            · exact hk _ (by omega)
          exact ⟨(g3.i (by omega)).trans ((hc1.i (by omega)).trans c1), fun q hq => (g3.i (by omega)).trans ((hc1.i (by omega)).trans (c2 q hq))⟩
      refine main _ (fun e => ?_) (fun e => ?_)
      · subst e
        exact if_pos (by omega)
      · show (if i ≤ k ∧ k < j + 1 then nm (k + 1) else nm k) = _
        by_cases q : i ≤ k ∧ k < j
        · rw [if_pos q, if_pos (by omega)]
        · rw [if_neg q, if_neg (by omega)]⟩
    exact ⟨s', b1, b2, ((hc1.mono fun a k q => by omega).trans (g3.mono fun a k q => by omega)).trans b3⟩
set_option maxRecDepth 100000 in
theorem d182m {s : aS} {i : Nat} {ns : List (List Int32)} (hs : SM s ns) (hn : nsOk ns) (hi : i < ns.length) : ∃ s', dm182_112 5000 (Int32.ofNat i) s = some s' ∧ SM s' (ns.eraseIdx i) ∧ ch (fun a k => (a = 121 ∧ k = 3) ∨ a = 123 ∨ a = 124) s s' := by
  have h8 := hn.1
  have hk : ∀ k, k < ns.length → (ns.getD k []).length ≤ 31 := fun k hk => by
    rw [getD_nm hk]
    exact (hn.2 _ (List.getElem_mem hk)).2.1
  obtain ⟨s', g1, g2, g3⟩ := d182n (nm := fun k => ns.getD k []) hi h8 hk (ns.length - (i + 1)) i 5000 s (by omega) (by omega) (by omega) (MF.cg (f := fun k => ns.getD k []) ⟨hs.1, fun k hk9 => by
    show sI s 123 k = Int32.ofNat (ns.getD k []).length ∧ ∀ j (h : j < (ns.getD k []).length), sI s 124 (32 * k + j) = (ns.getD k [])[j]
    rw [getD_nm hk9]
    exact hs.2 k hk9⟩ fun k _ => (if_neg (by omega)).symm)
  refine ⟨s', g1, ⟨by rw [g2.1, List.length_eraseIdx_of_lt hi], fun k hk9 => ?_⟩, g3⟩
  rw [List.length_eraseIdx_of_lt hi] at hk9
  have hh := g2.2 k hk9
  have hh : ∀ u : List Int32, u = (if i ≤ k then ns.getD (k + 1) [] else ns.getD k []) → sI s' 123 k = Int32.ofNat u.length ∧ ∀ j (h : j < u.length), sI s' 124 (32 * k + j) = u[j] := fun u hu => by subst hu; exact hh
  refine hh _ ?_
  rw [List.getElem_eraseIdx]
  by_cases q : k < i
  · rw [dif_pos q, if_neg (by omega), getD_nm (by omega)]
  · rw [dif_neg q, if_pos (by omega), getD_nm (by omega)]
set_option maxRecDepth 100000 in
/-- character k of a name -/
theorem d169 {s : aS} {ns : List (List Int32)} (hs : SC s ns) (hr : RC s) (hn : nsOk ns) (x y : Int32) :
    (¬ (0 ≤ x.toInt ∧ x.toInt < ns.length) ∧ dm169 x y s = some (.inr 2, nw s 82 0)) ∨
    ((0 ≤ x.toInt ∧ x.toInt < ns.length) ∧ dm169 x y s = some (.inl (some (.int (if y.toInt < 0 then -1 else (ns.getD x.toInt.toNat []).getD y.toInt.toNat (-1)))), s)) := by
  have h8 := hn.1
  unfold dm169 dm151
  rw [d40 hs h8]
  simp only [bu_some]
  by_cases hx : 0 ≤ x.toInt ∧ x.toInt < ns.length
  · right
    refine ⟨hx, ?_⟩
    have hi : x.toInt.toNat < ns.length := by omega
    have hl := (hn.2 _ (List.getElem_mem hi)).2.1
    rw [b01_t hx, if_neg (by decide), if_neg (by decide), if_pos (by rw [aB_iff]; omega), jN_eq, getD_nm hi]
    have hT : (ns[x.toInt.toNat]).length ≤ (sT s (84 + 2 * x.toInt.toNat + 1)).2 := by rw [show 84 + 2 * x.toInt.toNat + 1 = 85 + 2 * x.toInt.toNat by omega, hr.2 _ (by omega)]; exact hl
    by_cases hy : y.toInt < 0
    · rw [if_pos hy]
      have : dm34 (84 + 2 * x.toInt.toNat) y s = some (-1) := by
        unfold dm34
        rw [if_pos (by rw [iLt]; exact hy)]
      rw [this]
      rfl
    · have ey : y = Int32.ofNat y.toInt.toNat := by
        have := iRange y
        apply Int32.toInt_inj.mp
        rw [iOfNat (by omega)]
        omega
      have hr2 := iRange y
      have : dm34 (84 + 2 * x.toInt.toNat) y s = some ((ns[x.toInt.toNat]).getD y.toInt.toNat (-1)) := by
        have := d34 (i := y.toInt.toNat) (hs.2 _ hi) hT (by omega) (by omega)
        rw [← ey] at this
        exact this
      rw [if_neg hy, this]
      rfl
  · left
    rw [b01_f hx, if_pos rfl]
    exact ⟨hx, rfl⟩
