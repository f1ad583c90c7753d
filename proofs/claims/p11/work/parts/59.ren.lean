/-! a sheet gets another name, is taken away, tells its name -/
set_option maxRecDepth 100000 in
theorem d51 {s : aS} {t : List Int32} {ns : List (List Int32)} (hs : SQ s ns) (hr : RC s) (hn : nsOk ns) (hf : FB s) (g : TF s) (h : LT s 79 t) (hl : t.length ≤ 256) (ho : okT t) (x : Int32) :
    (¬ (0 ≤ x.toInt ∧ x.toInt < ns.length) ∧ dm51 x s = some (.inr 2, nw s 82 0)) ∨
    ((0 ≤ x.toInt ∧ x.toInt < ns.length) ∧ ¬ (nmP t ∧ (fndF t ns 0 = -1 ∨ fndF t ns 0 = x)) ∧ dm51 x s = some (.inr 0, nw s 80 0)) ∨
    ((0 ≤ x.toInt ∧ x.toInt < ns.length) ∧ (nmP t ∧ (fndF t ns 0 = -1 ∨ fndF t ns 0 = x)) ∧ ∃ s', dm51 x s = some (.inl none, s') ∧ SQ s' (ns.set x.toInt.toNat t) ∧ ch (fun a _ => 81 ≤ a ∧ a ≤ 99) s s') := by
  have h8 := hn.1
  unfold dm51
  rw [d40 hs.1 h8, d31 hs.1 hr hn hf h hl ho]
  simp only [bu_some]
  by_cases hx : 0 ≤ x.toInt ∧ x.toInt < ns.length
  · right
    rw [b01_t hx, if_neg (by decide)]
    by_cases hq : nmP t ∧ (fndF t ns 0 = -1 ∨ fndF t ns 0 = x)
    · right
      refine ⟨hx, hq, ?_⟩
      rw [b01_t hq, if_neg (by decide)]
      have ex : x = Int32.ofNat x.toInt.toNat := by
        apply Int32.toInt_inj.mp
        rw [iOfNat (by omega)]
        omega
      obtain ⟨s', g1, g2, g3, g4⟩ := d39 (i := x.toInt.toNat) (n9 := ns.length) (b2 := 79) (u := t) hs.1.1 (by omega) h8 hr g h hq.1.2.1 ho (by rw [show 79 + 1 = 80 from rfl, hr.1]; exact hl) (by omega)
      rw [← ex] at g1
      rw [g1]
      exact ⟨s', rfl, hs.up (by omega) g2 g3 g4, g4.mono fun a k q => by omega⟩
    · left
      rw [b01_f hq, if_pos rfl]
      exact ⟨hx, hq, rfl⟩
  · left
    rw [b01_f hx, if_pos rfl]
    exact ⟨hx, rfl⟩
/-- names by their numbers -/
def SF (s : aS) (n : Nat) (f : Nat → List Int32) : Prop := sI s 81 2 = Int32.ofNat n ∧ ∀ k, k < n → LT s (84 + 2 * k) (f k) ∧ sI s 83 k = b01 (qtP (f k))
set_option maxRecDepth 100000 in
theorem getD_nm {ns : List (List Int32)} {k : Nat} (h : k < ns.length) : ns.getD k [] = ns[k] := by simp [List.getD, List.getElem?_eq_getElem h]
set_option maxRecDepth 100000 in
theorem SQ.f {s : aS} {ns : List (List Int32)} (h : SQ s ns) : SF s ns.length (fun k => ns.getD k []) := ⟨h.1.1, fun k hk => by
  show LT s _ (ns.getD k []) ∧ sI s 83 k = b01 (qtP (ns.getD k []))
  rw [getD_nm hk]
  exact ⟨h.1.2 k hk, h.2 k hk⟩⟩
set_option maxRecDepth 100000 in
theorem d53l {i n9 : Nat} {nm : Nat → List Int32} (hi : i < n9) (h8 : n9 ≤ 8) (hk : ∀ k, k < n9 → (nm k).length ≤ 31 ∧ okT (nm k)) : ∀ (m j n : Nat) (s : aS), j + m = n9 → i < j → m < n → RC s → TF s → SF s n9 (fun k => if i ≤ k ∧ k + 1 < j then nm (k + 1) else nm k) → ∃ s', dm53_8 n (Int32.ofNat j) s = some s' ∧ SF s' (n9 - 1) (fun k => if i ≤ k then nm (k + 1) else nm k) ∧ ch (fun a _ => 81 ≤ a ∧ a ≤ 99) s s' := by
  intro m
  induction m with
  | zero =>
    intro j n s hj hij hn hr ht hs
    obtain ⟨n, rfl⟩ : ∃ k, n = k + 1 := ⟨n - 1, by omega⟩
    rw [dm53_8, hs.1, if_pos (by rw [iLe, iOfNat (by omega), iOfNat (by omega)]; omega), nx_eq]
    have hm : Int32.ofNat n9 - 1 = Int32.ofNat (n9 - 1) := by
      apply Int32.toInt_inj.mp
      rw [iSub (y := 1) (by rw [iOfNat (by omega)]; show _ ≤ (n9 : Int) - 1; omega) (by rw [iOfNat (by omega)]; show (n9 : Int) - 1 ≤ _; omega), iOfNat (by omega), iOfNat (by omega)]
      show (n9 : Int) - 1 = ((n9 - 1 : Nat) : Int)
      omega
    have hc : ch (fun a k => a = 81 ∧ k = 2) s (wI s 81 2 (Int32.ofNat n9 - 1)) := (ch.refl _ s).wI ⟨rfl, rfl⟩
    refine ⟨_, rfl, ⟨by rw [sI_wI, if_pos ⟨rfl, rfl⟩, hm], fun k hk9 => ?_⟩, hc.mono fun a k q => by omega⟩
    obtain ⟨a1, a2⟩ := hs.2 k (by omega)
    have e : (if i ≤ k ∧ k + 1 < j then nm (k + 1) else nm k) = (if i ≤ k then nm (k + 1) else nm k) := by
      by_cases q : i ≤ k
      · rw [if_pos ⟨q, by omega⟩, if_pos q]
      · rw [if_neg (fun z => q z.1), if_neg q]
    have a1 : LT s (84 + 2 * k) (if i ≤ k ∧ k + 1 < j then nm (k + 1) else nm k) := a1
    have a2 : sI s 83 k = b01 (qtP (if i ≤ k ∧ k + 1 < j then nm (k + 1) else nm k)) := a2
    rw [e] at a1 a2
    exact ⟨a1.of hc (by omega) (by omega), (hc.i (by omega)).trans a2⟩
  | succ m ih =>
    intro j n s hj hij hn hr ht hs
    obtain ⟨n, rfl⟩ : ∃ k, n = k + 1 := ⟨n - 1, by omega⟩
    have ej : jN (Int32.ofNat j) = j := jN_of (by omega)
    have hm : Int32.ofNat j - 1 = Int32.ofNat (j - 1) := by
      apply Int32.toInt_inj.mp
      rw [iSub (y := 1) (by rw [iOfNat (by omega)]; show _ ≤ (j : Int) - 1; omega) (by rw [iOfNat (by omega)]; show (j : Int) - 1 ≤ _; omega), iOfNat (by omega), iOfNat (by omega)]
      show (j : Int) - 1 = ((j - 1 : Nat) : Int)
      omega
    obtain ⟨a1, a2⟩ := hs.2 j (by omega)
    have a1 : LT s (84 + 2 * j) (if i ≤ j ∧ j + 1 < j then nm (j + 1) else nm j) := a1
    rw [if_neg (by omega)] at a1
    obtain ⟨k1, k2⟩ := hk j (by omega)
    obtain ⟨s1, g1, g2, g3, g4⟩ := d39 (i := j - 1) (n9 := n9) (b2 := 84 + 2 * j) (u := nm j) hs.1 (by omega) h8 hr ht a1 k1 k2 (by rw [show 84 + 2 * j + 1 = 85 + 2 * j by omega, hr.2 j (by omega)]; exact k1) (by omega)
    have gj : dm39 (Int32.ofNat j - 1) (84 + 2 * jN (Int32.ofNat j)) s = some s1 := by rw [hm, ej]; exact g1
    rw [dm53_8, hs.1, if_neg (by rw [iLe, iOfNat (by omega), iOfNat (by omega)]; omega), if_pos (by rw [aB_iff, iOfNat (by omega)]; omega), gj]
    simp only [bu_some]
    rw [ofNat_succ (by omega)]
    obtain ⟨s', b1, b2, b3⟩ := ih (j + 1) n s1 (by omega) (by omega) (by omega) (hr.of g4) (ht.of g4 (by omega)) ⟨(g4.i (by omega)).trans hs.1, fun k hk9 => by
      show LT s1 _ (if i ≤ k ∧ k + 1 < j + 1 then nm (k + 1) else nm k) ∧ sI s1 83 k = b01 (qtP (if i ≤ k ∧ k + 1 < j + 1 then nm (k + 1) else nm k))
      by_cases e : k = j - 1
      · have e2 : k + 1 = j := by omega
        rw [if_pos (by omega), e2]
        subst e
        exact ⟨g2, g3⟩
      · obtain ⟨c1, c2⟩ := hs.2 k hk9
        have c1 : LT s (84 + 2 * k) (if i ≤ k ∧ k + 1 < j then nm (k + 1) else nm k) := c1
        have c2 : sI s 83 k = b01 (qtP (if i ≤ k ∧ k + 1 < j then nm (k + 1) else nm k)) := c2
        have e3 : (if i ≤ k ∧ k + 1 < j + 1 then nm (k + 1) else nm k) = (if i ≤ k ∧ k + 1 < j then nm (k + 1) else nm k) := by
          by_cases q : i ≤ k ∧ k + 1 < j
          · rw [if_pos q, if_pos (by omega)]
          · rw [if_neg q, if_neg (by omega)]
        rw [e3]
        exact ⟨c1.of g4 (by omega) (by omega), (g4.i (by omega)).trans c2⟩⟩
    exact ⟨s', b1, b2, (g4.mono fun a k q => by omega).trans b3⟩
set_option maxRecDepth 100000 in
theorem d53 {s : aS} {i : Nat} {ns : List (List Int32)} (hs : SQ s ns) (hr : RC s) (hn : nsOk ns) (g : TF s) (hi : i < ns.length) : ∃ s', dm53 (Int32.ofNat i) s = some s' ∧ SQ s' (ns.eraseIdx i) ∧ ch (fun a _ => 81 ≤ a ∧ a ≤ 99) s s' := by
  have h8 := hn.1
  have hk : ∀ k, k < ns.length → (ns.getD k []).length ≤ 31 ∧ okT (ns.getD k []) := fun k hk => by
    rw [getD_nm hk]
    have := hn.2 _ (List.getElem_mem hk)
    exact ⟨this.2.1, this.2.2⟩
  have hf := hs.f
  obtain ⟨s', g1, g2, g3⟩ := d53l (nm := fun k => ns.getD k []) hi h8 hk (ns.length - (i + 1)) (i + 1) 5000 s (by omega) (by omega) (by omega) hr g ⟨hf.1, fun k hk9 => by
    show LT s _ (if i ≤ k ∧ k + 1 < i + 1 then _ else ns.getD k []) ∧ sI s 83 k = b01 (qtP (if i ≤ k ∧ k + 1 < i + 1 then _ else ns.getD k []))
    rw [if_neg (by omega)]
    exact hf.2 k hk9⟩
  refine ⟨s', ?_, ⟨⟨?_, fun k hk9 => ?_⟩, fun k hk9 => ?_⟩, g3⟩
  · unfold dm53
    rw [d40 hs.1 h8, b01_t (by rw [iOfNat (by omega)]; omega)]
    simp only [bu_some]
    rw [if_neg (by decide), ofNat_succ (by omega), g1]
  · rw [g2.1, List.length_eraseIdx_of_lt hi]
  · rw [List.length_eraseIdx_of_lt hi] at hk9
    have := (g2.2 k hk9).1
    have : LT s' (84 + 2 * k) (if i ≤ k then ns.getD (k + 1) [] else ns.getD k []) := this
    rw [List.getElem_eraseIdx]
    by_cases q : k < i
    · rw [dif_pos q]
      rw [if_neg (by omega), getD_nm (by omega)] at this
      exact this
    · rw [dif_neg q]
      rw [if_pos (by omega), getD_nm (by omega)] at this
      exact this
  · rw [List.length_eraseIdx_of_lt hi] at hk9
    have := (g2.2 k hk9).2
    have : sI s' 83 k = b01 (qtP (if i ≤ k then ns.getD (k + 1) [] else ns.getD k [])) := this
    rw [List.getElem_eraseIdx]
    by_cases q : k < i
    · rw [dif_pos q]
      rw [if_neg (by omega), getD_nm (by omega)] at this
      exact this
    · rw [dif_neg q]
      rw [if_pos (by omega), getD_nm (by omega)] at this
      exact this
