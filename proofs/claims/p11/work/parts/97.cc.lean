/-! the reference's reader, its loop -/
set_option maxRecDepth 100000 in
noncomputable def mRun (t : List Int32) (ns : List (List Int32)) : Nat → St → Nat ⊕ (List Fw × List NN)
  | 0, _ => .inl 0
  | n + 1, z => if t.length ≤ skS t z.1 then (if z.2.2.1.isEmpty = true ∨ ¬ nO z.2.1 = 0 then .inl t.length else .inr (z.2.1, z.2.2.1)) else (match (if z.2.2.1.isEmpty = true then mOpd t ns (skS t z.1) z.2.1 z.2.2.2.1 else mBeh t (skS t z.1) z.2.1 z.2.2.1 z.2.2.2.2) with
    | .inl p => .inl p
    | .inr z' => mRun t ns n z')
def LI (s : aS) (r : Nat → Int32) (t : List Int32) (ns : List (List Int32)) (z : St) : Prop := TX s r t ∧ GM s r z.1 z.2.1 z.2.2.1 ∧ okT t ∧ z.1 ≤ t.length ∧ r 27 = 0 ∧ r 35 = z.2.2.2.1 ∧ r 36 = (if z.2.2.1.isEmpty = true then 1 else 0) ∧ r 34 = (if z.2.2.2.2 = 1 then Int32.ofNat (hdI z.2.2.1) else -1) ∧ (sT s 147).2 = 256 ∧ SX s r ns ∧ (z.2.2.1.isEmpty = false → z.2.2.2.1 = 0) ∧ (z.2.2.1.isEmpty = true → z.2.2.2.2 = 0 ∧ (z.2.2.2.1 = 1 → ∃ f F0, z.2.1 = f :: F0 ∧ f.1 = 7)) ∧ (z.2.2.2.2 = 1 → ∃ n, z.2.2.1 = [n] ∧ n.2.1 0 = 4)
def muS (t : List Int32) (z : St) : Nat := 2 * (t.length - z.1) + (if z.2.2.1.isEmpty = true then 1 else 0)
set_option maxRecDepth 100000 in
theorem emp_iff {L : List NN} : L.isEmpty = true ↔ L = [] := by
  cases L with
  | nil => exact ⟨fun _ => rfl, fun _ => rfl⟩
  | cons a b => exact ⟨fun q => (by cases q), fun q => (by cases q)⟩
set_option maxRecDepth 100000 in
theorem nE_of {L : List NN} (h : ¬ L.isEmpty = true) : L.isEmpty = false := by
  cases L with
  | nil => exact absurd rfl h
  | cons a b => rfl
set_option maxRecDepth 100000 in
theorem d184st {s : aS} {r : Nat → Int32} {t : List Int32} {ns : List (List Int32)} {z : St} (h : LI s r t ns z) (hj : ¬ t.length ≤ skS t z.1) : OUT s r (if z.2.2.1.isEmpty = true then dm185 (wP s r (skS t z.1)) else dm216 (wP s r (skS t z.1))) (if z.2.2.1.isEmpty = true then mOpd t ns (skS t z.1) z.2.1 z.2.2.2.1 else mBeh t (skS t z.1) z.2.1 z.2.2.1 z.2.2.2.2) ∧ stOk t (skS t z.1) z.2.2.1.isEmpty (if z.2.2.1.isEmpty = true then mOpd t ns (skS t z.1) z.2.1 z.2.2.2.1 else mBeh t (skS t z.1) z.2.1 z.2.2.1 z.2.2.2.2) := by
  obtain ⟨h1, h2, h3, h4, h5, h6, h7, h8, h9, h10, h11, h12, h13⟩ := h
  have hb := sk_b h4
  by_cases c : z.2.2.1.isEmpty = true
  · rw [if_pos c, if_pos c]
    have e0 := emp_iff.mp c
    rw [if_pos c] at h7
    rw [e0] at h2
    obtain ⟨q1, q2⟩ := h12 c
    rw [q1, if_neg (by decide)] at h8
    refine ⟨d185 ⟨h1, h2, h3, h4, h5, h6, h7, h8, h9, h10⟩ hb.1 (by omega) q2, ?_⟩
    rw [c]
    exact mOpd_ok h3 (by omega)
  · rw [if_neg c, if_neg c]
    have e0 : z.2.2.1 ≠ [] := fun q => c (emp_iff.mpr q)
    have cf := nE_of c
    rw [if_neg c] at h7
    rw [h11 cf] at h6
    refine ⟨d216 (ns := ns) ⟨h1, h2, e0, h3, h4, h5, h6, h7, h8, h13, h9, h10⟩ hb.1 (by omega), ?_⟩
    rw [cf]
    exact mBeh_ok (by omega) e0
set_option maxRecDepth 100000 in
theorem d184r {t : List Int32} {ns : List (List Int32)} {x1 x2 : Int32} : ∀ (m : Nat) (z : St) (n : Nat) (s : aS) (r : Nat → Int32), LI s r t ns z → muS t z ≤ m → m + 2 < n → match mRun t ns (m + 1) z with
    | .inl p => ∃ s' r', dm184_48 n x1 x2 1 (wP s r z.1) = some (Int32.ofNat p, wP s' r' p) ∧ (∀ k, k ≤ 20 → r' k = r k) ∧ ch scr s s' ∧ p ≤ t.length
    | .inr q => ∃ s' r' j, dm184_48 n x1 x2 1 (wP s r z.1) = dm184_101 x1 x2 (wP s' r' j) ∧ GM s' r' j q.1 q.2 ∧ q.2 ≠ [] ∧ nO q.1 = 0 ∧ j ≤ t.length ∧ r' 27 = 0 ∧ (∀ k, k ≤ 20 → r' k = r k) ∧ ch scr s s' := by
  intro m
  induction m with
  | zero =>
    intro z n s r h hm hn
    have h4 := h.2.2.2.1
    have hm0 : muS t z = 0 := by omega
    have hb := sk_b h4
    unfold muS at hm0
    have he : t.length ≤ skS t z.1 := by omega
    have hc : ¬ z.2.2.1.isEmpty = true := fun q => by rw [if_pos q] at hm0; omega
    obtain ⟨h1, h2, h3, h4, h5, h6, h7, h8, h9, h10, h11, h12, h13⟩ := h
    obtain ⟨n, rfl⟩ : ∃ q, n = q + 2 := ⟨n - 2, by omega⟩
    have hl := h1.1
    have w27 : ∀ i, sI (wP s r i) 121 27 = 0 := fun i => (wP_f (by decide)).trans h5
    rw [if_neg hc] at h7
    have w36 : ∀ i, sI (wP s r i) 121 36 = 0 := fun i => (wP_f (by decide)).trans h7
    have a3 : r 33 = Int32.ofNat (nO z.2.1) := h2.2.2.1.1
    have hO8 := h2.2.2.1.2
    have e1 : dm184_48 (n + 2) x1 x2 1 (wP s r z.1) = dm184_88 x1 x2 (wP s r (skS t z.1)) := by
      rw [dm184_48, if_neg (by decide), w27, if_pos rfl, d184p h1 t.length z.1 5000 (by omega) (by omega) (by omega), if_pos he]
      unfold dm184_74 dm184_83
      rw [if_pos rfl, if_pos rfl, dm184_48, if_pos rfl]
    have e2 : mRun t ns (0 + 1) z = if z.2.2.1.isEmpty = true ∨ ¬ nO z.2.1 = 0 then .inl t.length else .inr (z.2.1, z.2.2.1) := by
      rw [mRun, if_pos he]
    rw [e2, e1]
    unfold dm184_88
    rw [w27, if_pos rfl, w36, if_pos rfl, wP_f (by decide), a3]
    by_cases g : nO z.2.1 = 0
    · rw [if_neg (show ¬ (z.2.2.1.isEmpty = true ∨ ¬ nO z.2.1 = 0) by rintro (q | q); exact hc q; exact q g), if_pos (show Int32.ofNat (nO z.2.1) ≤ 0 by rw [g]; decide)]
      exact ⟨s, r, skS t z.1, rfl, h2.at hb.1 rfl rfl rfl rfl, fun q => hc (emp_iff.mpr q), g, hb.2, h5, fun _ _ => rfl, ch.refl _ s⟩
    · rw [if_pos (show z.2.2.1.isEmpty = true ∨ ¬ nO z.2.1 = 0 from Or.inr g), if_neg (show ¬ Int32.ofNat (nO z.2.1) ≤ 0 from fun q => by have := (nle_iff (b := 0) (by omega) (by omega)).mp q; omega)]
      refine ⟨s, setN r 27 1, ?_, fun k hk => if_neg (by omega), ch.refl _ s, Nat.le_refl _⟩
      unfold dm184_97 dm184_101
      rw [h1.len, d186]
      simp only [bu_some]
      rw [wP_f (by decide), show setN r 27 1 27 = 1 from rfl, if_neg (by decide), wP_at]
  | succ m ih =>
    intro z n s r h hm hn
    have hL := h
    have h4 := h.2.2.2.1
    have hb := sk_b h4
    obtain ⟨h1, h2, h3, h4, h5, h6, h7, h8, h9, h10, h11, h12, h13⟩ := h
    obtain ⟨n, rfl⟩ : ∃ q, n = q + 2 := ⟨n - 2, by omega⟩
    have hl := h1.1
    have w27 : ∀ i, sI (wP s r i) 121 27 = 0 := fun i => (wP_f (by decide)).trans h5
    have a3 : r 33 = Int32.ofNat (nO z.2.1) := h2.2.2.1.1
    have hO8 := h2.2.2.1.2
    by_cases he : t.length ≤ skS t z.1
    · have e1 : dm184_48 (n + 2) x1 x2 1 (wP s r z.1) = dm184_88 x1 x2 (wP s r (skS t z.1)) := by
        rw [dm184_48, if_neg (by decide), w27, if_pos rfl, d184p h1 t.length z.1 5000 (by omega) (by omega) (by omega), if_pos he]
        unfold dm184_74 dm184_83
        rw [if_pos rfl, if_pos rfl, dm184_48, if_pos rfl]
      have e2 : mRun t ns (m + 1 + 1) z = if z.2.2.1.isEmpty = true ∨ ¬ nO z.2.1 = 0 then .inl t.length else .inr (z.2.1, z.2.2.1) := by
        rw [mRun, if_pos he]
      have fail : ∃ s' r', dm184_97 x1 x2 (wP s r (skS t z.1)) = some (Int32.ofNat t.length, wP s' r' t.length) ∧ (∀ k, k ≤ 20 → r' k = r k) ∧ ch scr s s' ∧ t.length ≤ t.length := by
        refine ⟨s, setN r 27 1, ?_, fun k hk => if_neg (by omega), ch.refl _ s, Nat.le_refl _⟩
        unfold dm184_97 dm184_101
        rw [h1.len, d186]
        simp only [bu_some]
        rw [wP_f (by decide), show setN r 27 1 27 = 1 from rfl, if_neg (by decide), wP_at]
      rw [e2, e1]
      unfold dm184_88
      rw [w27, if_pos rfl, wP_f (show (36 : Nat) ≠ 26 by decide), h7, wP_f (show (33 : Nat) ≠ 26 by decide), a3]
      by_cases hc : z.2.2.1.isEmpty = true
      · rw [if_pos hc, if_neg (show ¬ (1 : Int32) = 0 by decide), if_pos (show z.2.2.1.isEmpty = true ∨ ¬ nO z.2.1 = 0 from Or.inl hc)]
        exact fail
      · rw [if_neg hc, if_pos rfl]
        by_cases g : nO z.2.1 = 0
        · rw [if_neg (show ¬ (z.2.2.1.isEmpty = true ∨ ¬ nO z.2.1 = 0) by rintro (q | q); exact hc q; exact q g), if_pos (show Int32.ofNat (nO z.2.1) ≤ 0 by rw [g]; decide)]
          exact ⟨s, r, skS t z.1, rfl, h2.at hb.1 rfl rfl rfl rfl, fun q => hc (emp_iff.mpr q), g, hb.2, h5, fun _ _ => rfl, ch.refl _ s⟩
        · rw [if_pos (show z.2.2.1.isEmpty = true ∨ ¬ nO z.2.1 = 0 from Or.inr g), if_neg (show ¬ Int32.ofNat (nO z.2.1) ≤ 0 from fun q => by have := (nle_iff (b := 0) (by omega) (by omega)).mp q; omega)]
          exact fail
    · obtain ⟨o1, o2⟩ := d184st hL he
      have e1 : dm184_48 (n + 2) x1 x2 1 (wP s r z.1) = bu (if z.2.2.1.isEmpty = true then dm185 (wP s r (skS t z.1)) else dm216 (wP s r (skS t z.1))) (fun s4 => dm184_48 (n + 1) x1 x2 1 s4) := by
        rw [dm184_48, if_neg (by decide), w27, if_pos rfl, d184p h1 t.length z.1 5000 (by omega) (by omega) (by omega), if_neg he]
        unfold dm184_74 dm184_83
        rw [if_neg (show ¬ (1 : Int32) = 0 by decide), if_neg (show ¬ (1 : Int32) = 0 by decide), wP_f (show (36 : Nat) ≠ 26 by decide), h7]
        by_cases hc : z.2.2.1.isEmpty = true
        · rw [if_pos hc, if_pos hc, if_neg (show ¬ (1 : Int32) = 0 by decide)]
        · rw [if_neg hc, if_neg hc, if_pos rfl]
      have e2 : mRun t ns (m + 1 + 1) z = match (if z.2.2.1.isEmpty = true then mOpd t ns (skS t z.1) z.2.1 z.2.2.2.1 else mBeh t (skS t z.1) z.2.1 z.2.2.1 z.2.2.2.2) with
          | .inl p => .inl p
          | .inr z' => mRun t ns (m + 1) z' := by
        rw [mRun, if_neg he]
      rw [e2, e1]
      generalize (if z.2.2.1.isEmpty = true then mOpd t ns (skS t z.1) z.2.1 z.2.2.2.1 else mBeh t (skS t z.1) z.2.1 z.2.2.1 z.2.2.2.2) = X at o1 o2 ⊢
      generalize (if z.2.2.1.isEmpty = true then dm185 (wP s r (skS t z.1)) else dm216 (wP s r (skS t z.1))) = D at o1 ⊢
      cases X with
      | inl p =>
        obtain ⟨s', r', b1, b2, b3, b4⟩ := o1
        refine ⟨s', r', ?_, b3, b4, o2⟩
        rw [b1]
        simp only [bu_some]
        have v27 : sI (wP s' r' p) 121 27 = 1 := (wP_f (by decide)).trans b2
        rw [dm184_48, if_neg (by decide), v27, if_neg (by decide)]
        unfold dm184_88 dm184_101
        rw [v27, if_neg (by decide), if_neg (by decide), wP_at]
      | inr z' =>
        obtain ⟨s', r', b1, b2, b3, b4, b5, b6, b7, b8⟩ := o1
        obtain ⟨c1, c2, c3, c4, c5, c6⟩ := o2
        have hL' : LI s' r' t ns z' := ⟨⟨h1.1, (b7 1 (by decide)).trans h1.2.1, fun j hj => (b8.i (by unfold scr; omega)).trans (h1.2.2 j hj)⟩, b2, h3, c2, b3, b4, b5, b6, by rw [b8.2.1]; exact h9, h10.of b8 (fun a k z => by unfold scr at z; omega) (b7 3 (by decide)), c4, c5, c6⟩
        have hmu : muS t z' ≤ m := by
          unfold muS at hm ⊢
          by_cases q : z'.1 = skS t z.1
          · obtain ⟨q1, q2⟩ := c3 q
            rw [q1, if_pos rfl] at hm
            rw [q2, if_neg (by decide)]
            omega
          · by_cases w : z'.2.2.1.isEmpty = true
            · rw [if_pos w]
              by_cases w2 : z.2.2.1.isEmpty = true
              · rw [if_pos w2] at hm
                omega
              · rw [if_neg w2] at hm
                omega
            · rw [if_neg w]
              by_cases w2 : z.2.2.1.isEmpty = true
              · rw [if_pos w2] at hm
                omega
              · rw [if_neg w2] at hm
                omega
        have := ih z' (n + 1) s' r' hL' hmu (by omega)
        rw [b1]
        simp only [bu_some]
        cases hq : mRun t ns (m + 1) z' with
        | inl p =>
          rw [hq] at this
          obtain ⟨s2, r2, d1, d2, d3, d4⟩ := this
          exact ⟨s2, r2, d1, fun k hk => (d2 k hk).trans (b7 k hk), b8.trans d3, d4⟩
        | inr q =>
          rw [hq] at this
          obtain ⟨s2, r2, j, d1, d2, d3, d4, d5, d6, d7, d8⟩ := this
          exact ⟨s2, r2, j, d1, d2, d3, d4, d5, d6, fun k hk => (d7 k hk).trans (b7 k hk), b8.trans d8⟩
