/-! errors, as the reference reads them -/
def erN (e : Nat) : List Int32 := if e = 1 then [35, 78, 85, 76, 76, 33] else if e = 2 then [35, 68, 73, 86, 47, 48, 33] else if e = 3 then [35, 86, 65, 76, 85, 69, 33] else if e = 4 then [35, 82, 69, 70, 33] else if e = 5 then [35, 78, 65, 77, 69, 63] else if e = 6 then [35, 78, 85, 77, 33] else [35, 78, 47, 65]
set_option maxRecDepth 100000 in
theorem d204 {e k : Nat} (he : e < 8) (hk : k < 9) : dm204 (Int32.ofNat e) (Int32.ofNat k) = some ((erN e).getD k 0) := by
  have h : ∀ e ∈ List.range 8, ∀ k ∈ List.range 9, dm204 (Int32.ofNat e) (Int32.ofNat k) = some ((erN e).getD k 0) := by decide +kernel
  exact h e (List.mem_range.mpr he) k (List.mem_range.mpr hk)
set_option maxRecDepth 100000 in
theorem d203i {s : aS} {r : Nat → Int32} {t : List Int32} {k5 : Int32 → Int32 → aS → Option aS} {k19 : Int32 → Int32 → Int32 → Int32 → Int32 → aS → Option aS} {f k e a : Nat} {x2 : Int32} {Q : Prop} (h : TX s r t) (hf : f ≤ 300) (hk : k ≤ 7) (he : e < 8) : ∀ (m j n : Nat) (p : Prop), j + m = k + 1 → m < n → dm203_33 k5 k19 n (Int32.ofNat f) x2 (Int32.ofNat k) (b01 Q) (Int32.ofNat e) (b01 p) (Int32.ofNat j) (wP s r a) = if b01 (p ∧ ∀ q, j ≤ q → q ≤ k → (erN e).getD q 0 = gr (t.getD (f + q) 0)) = 0 then k19 (Int32.ofNat f) x2 (Int32.ofNat k) (b01 Q) (Int32.ofNat (e + 1)) (wP s r a) else k19 (Int32.ofNat f) (if (erN e).getD (k + 1) 0 = 0 then Int32.ofNat e else x2) (Int32.ofNat k) 1 (Int32.ofNat (e + 1)) (wP s r a) := by
  intro m
  induction m with
  | zero =>
    intro j n p h1 h2
    obtain ⟨n, rfl⟩ : ∃ q, n = q + 1 := ⟨n - 1, by omega⟩
    have ep : b01 (p ∧ ∀ q, j ≤ q → q ≤ k → (erN e).getD q 0 = gr (t.getD (f + q) 0)) = b01 p := b01_c ⟨fun z => z.1, fun z => ⟨z, fun q a b => by omega⟩⟩
    rw [dm203_33, if_pos ((nlt_iff (by omega) (by omega)).mpr (by omega)), ep]
    unfold dm203_58 dm203_61 dm203_72 dm203_73
    rw [ofNat_succ (n := k) (by omega), ofNat_succ (n := e) (by omega), d204 he (by omega)]
    simp only [bu_some]
    have n10 : ¬ (1 : Int32) = 0 := by decide
    have z00 : (0 : Int32) = 0 := rfl
    by_cases hp : p
    · rw [b01_t hp]
      have key : (if (1 : Int32) = 0 then k19 (Int32.ofNat f) x2 (Int32.ofNat k) 1 (Int32.ofNat (e + 1)) (wP s r a) else if (erN e).getD (k + 1) 0 = 0 then k19 (Int32.ofNat f) (Int32.ofNat e) (Int32.ofNat k) 1 (Int32.ofNat (e + 1)) (wP s r a) else k19 (Int32.ofNat f) x2 (Int32.ofNat k) 1 (Int32.ofNat (e + 1)) (wP s r a)) = k19 (Int32.ofNat f) (if (erN e).getD (k + 1) 0 = 0 then Int32.ofNat e else x2) (Int32.ofNat k) 1 (Int32.ofNat (e + 1)) (wP s r a) := by
        rw [if_neg n10]
        by_cases c : (erN e).getD (k + 1) 0 = 0
        · rw [if_pos c, if_pos c]
        · rw [if_neg c, if_neg c]
      rw [key]
      by_cases hQ : Q
      · rw [b01_t hQ, if_neg n10, if_neg n10]
      · rw [b01_f hQ, if_pos z00, if_neg n10, if_neg n10]
    · rw [b01_f hp]
      by_cases hQ : Q
      · rw [b01_t hQ, if_neg n10, if_pos z00, if_pos z00]
      · rw [b01_f hQ, if_pos z00, if_pos z00, if_pos z00, if_pos z00]
  | succ m ih =>
    intro j n p h1 h2
    obtain ⟨n, rfl⟩ : ∃ q, n = q + 1 := ⟨n - 1, by omega⟩
    rw [dm203_33, if_neg (fun q => by have := (nlt_iff (by omega) (by omega)).mp q; omega)]
    unfold dm203_50 dm203_51
    rw [iSum (by omega) (by omega), rch h (by omega), d204 he (by omega), ofNat_succ (n := j) (by omega)]
    simp only [bu_some, d178]
    have one : (1 : Int32) = b01 True := (b01_t trivial).symm
    have zer : (0 : Int32) = b01 False := (b01_f (fun q => q)).symm
    by_cases hp : p
    · rw [b01_t hp, if_neg (by decide)]
      by_cases g : (erN e).getD j 0 = gr (t.getD (f + j) 0)
      · rw [if_pos g]
        have := ih (j + 1) n True (by omega) (by omega)
        rw [b01_t trivial] at this
        rw [this]
        have ep : b01 (True ∧ ∀ q, j + 1 ≤ q → q ≤ k → (erN e).getD q 0 = gr (t.getD (f + q) 0)) = b01 (p ∧ ∀ q, j ≤ q → q ≤ k → (erN e).getD q 0 = gr (t.getD (f + q) 0)) := by
          refine b01_c ⟨fun z => ⟨hp, fun q a b => ?_⟩, fun z => ⟨trivial, fun q a b => z.2 q (by omega) b⟩⟩
          by_cases w : q = j
          · rw [w]; exact g
          · exact z.2 q (by omega) b
        rw [ep]
      · rw [if_neg g]
        have := ih (j + 1) n False (by omega) (by omega)
        rw [b01_f (fun q : False => q)] at this
        have nR : ¬ (p ∧ ∀ q, j ≤ q → q ≤ k → (erN e).getD q 0 = gr (t.getD (f + q) 0)) := fun z => g (z.2 j (Nat.le_refl _) (by omega))
        rw [this, b01_f (fun z : False ∧ _ => z.1), b01_f nR]
    · rw [b01_f hp, if_pos rfl]
      have := ih (j + 1) n False (by omega) (by omega)
      rw [b01_f (fun q : False => q)] at this
      have nR : ¬ (p ∧ ∀ q, j ≤ q → q ≤ k → (erN e).getD q 0 = gr (t.getD (f + q) 0)) := fun z => hp z.1
      rw [this, b01_f (fun z : False ∧ _ => z.1), b01_f nR]
def sameE (t : List Int32) (f k e : Nat) : Prop := f + k < t.length ∧ ∀ q, q ≤ k → (erN e).getD q 0 = gr (t.getD (f + q) 0)
set_option maxRecDepth 100000 in
noncomputable def fdE (t : List Int32) (f k : Nat) : Nat → Nat → Int32 → Int32
  | 0, _, x => x
  | m + 1, e, x => fdE t f k m (e + 1) (if b01 (sameE t f k e) = 0 then x else if (erN e).getD (k + 1) 0 = 0 then Int32.ofNat e else x)
set_option maxRecDepth 100000 in
theorem d203m {s : aS} {r : Nat → Int32} {t : List Int32} {k5 : Int32 → Int32 → aS → Option aS} {f k : Nat} (h : TX s r t) (hf : f ≤ 300) (hk : k ≤ 7) : ∀ (m e n : Nat) (x2 : Int32) (Q : Prop), e + m = 8 → m < n → dm203_19 k5 n (Int32.ofNat f) x2 (Int32.ofNat k) (b01 Q) (Int32.ofNat e) (wP s r (f + k)) = if b01 (Q ∨ ∃ e', e ≤ e' ∧ e' < 8 ∧ sameE t f k e') = 0 then k5 (Int32.ofNat f) (fdE t f k m e x2) (wP s (setN r 27 1) (f + k)) else k5 (Int32.ofNat f) (fdE t f k m e x2) (wP s r (f + k + 1)) := by
  have hl := h.1
  intro m
  induction m with
  | zero =>
    intro e n x2 Q h1 h2
    obtain ⟨n, rfl⟩ : ∃ q, n = q + 1 := ⟨n - 1, by omega⟩
    have ep : b01 (Q ∨ ∃ e', e ≤ e' ∧ e' < 8 ∧ sameE t f k e') = b01 Q := b01_c ⟨fun z => by
      rcases z with z | ⟨e', a, b, -⟩
      · exact z
      · omega, fun z => Or.inl z⟩
    rw [dm203_19, if_pos (show (8 : Int32) ≤ Int32.ofNat e from (nle_iff (a := 8) (by omega) (by omega)).mpr (by omega)), ep]
    unfold dm203_89
    simp only [wP_at, d186, bu_some, nx_eq]
    rw [ofNat_succ (by omega), wP_go]
    rfl
  | succ m ih =>
    intro e n x2 Q h1 h2
    obtain ⟨n, rfl⟩ : ∃ q, n = q + 1 := ⟨n - 1, by omega⟩
    have key : dm203_19 k5 (n + 1) (Int32.ofNat f) x2 (Int32.ofNat k) (b01 Q) (Int32.ofNat e) (wP s r (f + k)) = if b01 (sameE t f k e) = 0 then dm203_19 k5 n (Int32.ofNat f) x2 (Int32.ofNat k) (b01 Q) (Int32.ofNat (e + 1)) (wP s r (f + k)) else dm203_19 k5 n (Int32.ofNat f) (if (erN e).getD (k + 1) 0 = 0 then Int32.ofNat e else x2) (Int32.ofNat k) 1 (Int32.ofNat (e + 1)) (wP s r (f + k)) := by
      rw [dm203_19, if_neg (fun q => by have := (nle_iff (a := 8) (by omega) (by omega)).mp q; omega)]
      unfold dm203_30
      rw [h.len, wP_at]
      by_cases g : t.length ≤ f + k
      · rw [if_pos ((nle_iff (by omega) (by omega)).mpr g)]
        have := d203i (k5 := k5) (k19 := dm203_19 k5 n) (x2 := x2) (Q := Q) (a := f + k) h hf hk (show e < 8 by omega) (k + 1) 0 5000 False (by omega) (by omega)
        rw [b01_f (fun q : False => q)] at this
        rw [show (0 : Int32) = Int32.ofNat 0 from rfl] at this ⊢
        rw [this, b01_f (fun z : False ∧ _ => z.1), b01_f (fun z : sameE t f k e => by have := z.1; omega)]
      · rw [if_neg (fun q => g ((nle_iff (by omega) (by omega)).mp q))]
        have := d203i (k5 := k5) (k19 := dm203_19 k5 n) (x2 := x2) (Q := Q) (a := f + k) h hf hk (show e < 8 by omega) (k + 1) 0 5000 True (by omega) (by omega)
        rw [b01_t trivial] at this
        rw [show (0 : Int32) = Int32.ofNat 0 from rfl] at this ⊢
        rw [this]
        have ep : b01 (True ∧ ∀ q, 0 ≤ q → q ≤ k → (erN e).getD q (Int32.ofNat 0) = gr (t.getD (f + q) (Int32.ofNat 0))) = b01 (sameE t f k e) := b01_c ⟨fun z => ⟨by omega, fun q a => z.2 q (Nat.zero_le _) a⟩, fun z => ⟨trivial, fun q _ a => z.2 q a⟩⟩
        rw [ep]
    rw [key]
    by_cases g : sameE t f k e
    · rw [if_neg (fun q => b01_ne.mp q g)]
      have := ih (e + 1) n (if (erN e).getD (k + 1) 0 = 0 then Int32.ofNat e else x2) True (by omega) (by omega)
      rw [b01_t trivial] at this
      rw [this, b01_t (Or.inl trivial), b01_t (Or.inr ⟨e, Nat.le_refl _, by omega, g⟩)]
      show _ = if (1 : Int32) = 0 then _ else k5 (Int32.ofNat f) (fdE t f k m (e + 1) (if b01 (sameE t f k e) = 0 then x2 else if (erN e).getD (k + 1) 0 = 0 then Int32.ofNat e else x2)) (wP s r (f + k + 1))
      rw [if_neg (show ¬ (1 : Int32) = 0 by decide), if_neg (show ¬ (1 : Int32) = 0 by decide), if_neg (fun q => b01_ne.mp q g)]
    · rw [if_pos (b01_ne.mpr g), ih (e + 1) n x2 Q (by omega) (by omega)]
      have ep : b01 (Q ∨ ∃ e', e + 1 ≤ e' ∧ e' < 8 ∧ sameE t f k e') = b01 (Q ∨ ∃ e', e ≤ e' ∧ e' < 8 ∧ sameE t f k e') := by
        refine b01_c ⟨fun z => ?_, fun z => ?_⟩
        · rcases z with z | ⟨e', a, b, c⟩
          · exact Or.inl z
          · exact Or.inr ⟨e', by omega, b, c⟩
        · rcases z with z | ⟨e', a, b, c⟩
          · exact Or.inl z
          · by_cases w : e' = e
            · rw [w] at c; exact absurd c g
            · exact Or.inr ⟨e', by omega, b, c⟩
      have ef : fdE t f k (m + 1) e x2 = fdE t f k m (e + 1) x2 := by
        rw [fdE, if_pos (b01_ne.mpr g)]
      rw [ep, ef]
def someE (t : List Int32) (f k : Nat) : Prop := ∃ e, 1 ≤ e ∧ e < 8 ∧ sameE t f k e
set_option maxRecDepth 100000 in
noncomputable def erG (t : List Int32) (f : Nat) : Nat → Nat → Int32 × Nat
  | 0, k => (0, f + k)
  | m + 1, k => if b01 (someE t f k) = 0 then (0, f + k) else if fdE t f k 7 1 0 = 0 then erG t f m (k + 1) else (fdE t f k 7 1 0, f + k + 1)
set_option maxRecDepth 100000 in
theorem erN_len (e : Nat) : (erN e).length ≤ 7 := by
  unfold erN
  repeat' split
  all_goals decide
set_option maxRecDepth 100000 in
theorem gr_pos {x : Int32} (h : 32 ≤ x.toInt ∧ x.toInt ≤ 126) : ¬ gr x = 0 := by
  have l1 : x < 97 ↔ x.toInt < 97 := iLt
  have l2 : 122 < x ↔ 122 < x.toInt := iLt
  unfold gr
  intro q
  have q := iEq.mp q
  have q0 : (0 : Int32).toInt = 0 := rfl
  rw [q0] at q
  split at q
  · omega
  · split at q
    · omega
    · rename_i a b
      have a : ¬ x.toInt < 97 := fun z => a (l1.mpr z)
      have e : (x - 32).toInt = x.toInt - 32 := iSub (y := 32) (by show _ ≤ x.toInt - 32; omega) (by show x.toInt - 32 ≤ _; omega)
      omega
set_option maxRecDepth 100000 in
theorem someE_b {t : List Int32} {f k : Nat} (ho : okT t) (h : someE t f k) : k < 7 ∧ f + k < t.length := by
  obtain ⟨e, a, b, c, d⟩ := h
  refine ⟨?_, c⟩
  by_cases q : k < 7
  · exact q
  · exfalso
    have := d 7 (by omega)
    rw [getD_out (erN_len e), getD_in (show f + 7 < t.length by omega)] at this
    exact gr_pos (ho _ (List.getElem_mem _)) this.symm
set_option maxRecDepth 100000 in
theorem d203l {s : aS} {r : Nat → Int32} {t : List Int32} {f : Nat} (h : TX s r t) (ho : okT t) (hf : f ≤ t.length) (h27 : r 27 = 0) : ∀ (m k n : Nat), k + m = 8 → k ≤ 7 → m + 1 < n → dm203_5 n (Int32.ofNat f) 0 (wP s r (f + k)) = if (erG t f m k).1 = 0 then some (wP s (setN r 27 1) (erG t f m k).2) else dm203_90 (erG t f m k).1 (wP s r (erG t f m k).2) := by
  have hl := h.1
  intro m
  induction m with
  | zero =>
    intro k n h1 h2 h3
    omega
  | succ m ih =>
    intro k n h1 h2 h3
    obtain ⟨n, rfl⟩ : ∃ q, n = q + 2 := ⟨n - 2, by omega⟩
    have es : Int32.ofNat (f + k) - Int32.ofNat f = Int32.ofNat k := by
      rw [iEq, iSub (by rw [iOfNat (by omega), iOfNat (by omega)]; omega) (by rw [iOfNat (by omega), iOfNat (by omega)]; omega), iOfNat (by omega), iOfNat (by omega), iOfNat (by omega)]
      omega
    have w27 : sI (wP s r (f + k)) 121 27 = 0 := (wP_f (by decide)).trans h27
    have e1 : dm203_5 (n + 2) (Int32.ofNat f) 0 (wP s r (f + k)) = if b01 (someE t f k) = 0 then dm203_5 (n + 1) (Int32.ofNat f) (fdE t f k 7 1 0) (wP s (setN r 27 1) (f + k)) else dm203_5 (n + 1) (Int32.ofNat f) (fdE t f k 7 1 0) (wP s r (f + k + 1)) := by
      rw [dm203_5, if_pos rfl, w27, if_pos rfl, wP_at, es]
      have := d203m (k5 := dm203_5 (n + 1)) h (show f ≤ 300 by omega) h2 7 1 5000 0 False (by omega) (by omega)
      rw [b01_f (fun q : False => q)] at this
      have ep : b01 (False ∨ ∃ e', 1 ≤ e' ∧ e' < 8 ∧ sameE t f k e') = b01 (someE t f k) := b01_c ⟨fun z => z.resolve_left (fun q => q), fun z => Or.inr z⟩
      rw [ep] at this
      exact this
    rw [e1]
    by_cases g : someE t f k
    · have hb := someE_b ho g
      rw [if_neg (fun q => b01_ne.mp q g)]
      by_cases g2 : fdE t f k 7 1 0 = 0
      · have ee : erG t f (m + 1) k = erG t f m (k + 1) := by rw [erG, if_neg (fun q => b01_ne.mp q g), if_pos g2]
        rw [ee, g2]
        exact ih (k + 1) (n + 1) (by omega) (by omega) (by omega)
      · have ee : erG t f (m + 1) k = (fdE t f k 7 1 0, f + k + 1) := by rw [erG, if_neg (fun q => b01_ne.mp q g), if_neg g2]
        rw [ee, if_neg g2, dm203_5, if_neg g2]
    · rw [if_pos (b01_ne.mpr g)]
      have ee : erG t f (m + 1) k = (0, f + k) := by rw [erG, if_pos (b01_ne.mpr g)]
      have w1 : sI (wP s (setN r 27 1) (f + k)) 121 27 = 1 := (wP_f (by decide)).trans (if_pos rfl)
      rw [ee, if_pos rfl, dm203_5]
      unfold dm203_90
      rw [w1, if_neg (show ¬ (1 : Int32) = 0 by decide), if_neg (show ¬ (1 : Int32) = 0 by decide), ite_self]
set_option maxRecDepth 100000 in
theorem erG_b {t : List Int32} {f : Nat} (ho : okT t) : ∀ (m k : Nat), f + k ≤ t.length → (erG t f m k).2 ≤ t.length ∧ (¬ (erG t f m k).1 = 0 → f + k < (erG t f m k).2)
  | 0, k, h => ⟨h, fun q => absurd rfl q⟩
  | m + 1, k, h => by
    rw [erG]
    by_cases g : someE t f k
    · have hb := someE_b ho g
      rw [if_neg (fun q => b01_ne.mp q g)]
      by_cases g2 : fdE t f k 7 1 0 = 0
      · rw [if_pos g2]
        have := erG_b (f := f) ho m (k + 1) (by omega)
        exact ⟨this.1, fun q => by have := this.2 q; omega⟩
      · rw [if_neg g2]
        exact ⟨by show f + k + 1 ≤ _; omega, fun _ => by show f + k < f + k + 1; omega⟩
    · rw [if_pos (b01_ne.mpr g)]
      exact ⟨h, fun q => absurd rfl q⟩
