/-! what stands in quotes, as the reference reads it -/
/-- from place i on, inside of quotes q: what they hold, and the place behind them -/
def qtG (t : List Int32) (q : Int32) : Nat → Nat → Option (List Int32 × Nat)
  | 0, _ => none
  | m + 1, i => if t.length ≤ i then none else if t.getD i 0 = q then (if t.getD (i + 1) 0 = q then (qtG t q m (i + 2)).map (fun p => (q :: p.1, p.2)) else some ([], i + 1)) else (qtG t q m (i + 1)).map (fun p => (t.getD i 0 :: p.1, p.2))
set_option maxRecDepth 100000 in
theorem d202o {s : aS} {r : Nat → Int32} {q : Int32} {i n : Nat} (hi : i < 1000) : dm202_11 (n + 1) q 0 (wP s r i) = some (wP s r (i + 1)) := by
  rw [dm202_11, if_pos rfl]
  unfold dm202_71
  rw [if_pos rfl, wP_at, ofNat_succ (by omega), wP_go]
  rfl
set_option maxRecDepth 100000 in
theorem d202w {s : aS} {r : Nat → Int32} {t : List Int32} {q : Int32} {k : Int32 → Int32 → aS → Option aS} {i c : Nat} (h : TX s r t) (hi : i < 1000) (hc : r 38 = Int32.ofNat c) (h8 : c < 256) : dm202_35 k q 1 (wP s r i) = if t.getD i 0 = q then k q 1 (wP (wI s 147 c (t.getD i 0)) (setN r 38 (Int32.ofNat (c + 1))) (i + 2)) else k q 1 (wP (wI s 147 c (t.getD i 0)) (setN r 38 (Int32.ofNat (c + 1))) (i + 1)) := by
  have h2 : TX (wI s 147 c (t.getD i 0)) (setN r 38 (Int32.ofNat (c + 1))) t := (h.wr (by decide)).set 38 _ (by decide)
  unfold dm202_35 dm202_69
  rw [if_neg (by decide), wP_at, rch h (by omega)]
  simp only [bu_some]
  rw [wP_f (by decide), hc, if_pos (by rw [aB_iff, iOfNat (by omega)]; omega), jN_of (by omega), wP_wI (by decide)]
  simp only [nx_eq]
  rw [wP_f (by decide), hc, ofNat_succ (by omega), wP_set (by decide)]
  simp only [wP_at]
  rw [rch h2 (by omega)]
  simp only [bu_some]
  rw [show Int32.ofNat i + 2 = Int32.ofNat (i + 2) from iSum (i := i) (j := 2) (by omega) (by omega), ofNat_succ (by omega), wP_go, wP_go]
set_option maxRecDepth 100000 in
theorem d202s {s : aS} {r : Nat → Int32} {t : List Int32} {q : Int32} {i n c : Nat} (h : TX s r t) (hi : i < 1000) (hc : r 38 = Int32.ofNat c) (h8 : c < 256) : dm202_11 (n + 2) q 1 (wP s r i) = if t.length ≤ i then some (wP s (setN r 27 1) t.length) else if t.getD i 0 = q then (if t.getD (i + 1) 0 = q then dm202_11 (n + 1) q 1 (wP (wI s 147 c (t.getD i 0)) (setN r 38 (Int32.ofNat (c + 1))) (i + 2)) else some (wP s r (i + 1))) else dm202_11 (n + 1) q 1 (wP (wI s 147 c (t.getD i 0)) (setN r 38 (Int32.ofNat (c + 1))) (i + 1)) := by
  have hl := h.1
  rw [dm202_11, if_neg (by decide), h.len, wP_at]
  unfold dm202_71 dm202_32
  rw [if_neg (show ¬ (1 : Int32) = 0 by decide), h.len, d186, d202w h hi hc h8]
  simp only [nle_iff (show t.length < 1000000 by omega) (show i < 1000000 by omega), bu_some, rch h (show i < 100000 by omega)]
  rw [ofNat_succ (by omega), rch h (by omega)]
  simp only [bu_some]
  by_cases c1 : t.length ≤ i
  · rw [if_pos c1, if_pos c1]
  · rw [if_neg c1, if_neg c1]
    by_cases c2 : t.getD i 0 = q
    · rw [if_pos c2, if_pos c2]
      by_cases c3 : t.getD (i + 1) 0 = q
      · rw [if_pos c3, if_pos c3, if_pos c2]
      · rw [if_neg c3, if_neg c3]
        unfold dm202_35
        rw [if_pos rfl, d202o hi, if_pos c2]
    · rw [if_neg c2, if_neg c2, if_neg c2]
set_option maxRecDepth 100000 in
theorem rw_add {s : aS} {c : Nat} {w : List Int32} {x : Int32} (hw : RW s 147 0 w) (hc : w.length = c) (h8 : c < 256) (hT : (sT s 147).2 = 256) : RW (wI s 147 c x) 147 0 (w ++ [x]) := by
  refine ⟨?_, fun j hj => ?_⟩
  · rw [sT_wI, hT, List.length_append]
    show 0 + (w.length + 1) ≤ 256
    omega
  · rw [List.length_append] at hj
    have hj : j < w.length + 1 := hj
    rw [sI_wI]
    by_cases e : j = c
    · rw [if_pos ⟨rfl, by omega⟩, List.getElem_append_right (by omega)]
      simp
    · rw [if_neg (fun z => e (by omega)), hw.2 j (by omega), List.getElem_append_left]
set_option maxRecDepth 100000 in
theorem d202l {t : List Int32} {q : Int32} (hq0 : ¬ q = 0) : ∀ (m i n c : Nat) (s : aS) (r : Nat → Int32) (w : List Int32), TX s r t → (sT s 147).2 = 256 → RW s 147 0 w → w.length = c → r 38 = Int32.ofNat c → c + 1 ≤ i → i ≤ t.length → t.length < i + m → m + 1 < n →
    (qtG t q m i = none ∧ ∃ s' v, dm202_11 n q 1 (wP s r i) = some (wP s' (setN (setN r 38 v) 27 1) t.length) ∧ ch (fun a _ => a = 147) s s') ∨
    ∃ u e s', qtG t q m i = some (u, e) ∧ i < e ∧ e ≤ t.length ∧ dm202_11 n q 1 (wP s r i) = some (wP s' (setN r 38 (Int32.ofNat (w ++ u).length)) e) ∧ RW s' 147 0 (w ++ u) ∧ ch (fun a _ => a = 147) s s' := by
  intro m
  induction m with
  | zero =>
    intro i n c s r w h1 h2 h3 h4 h5 h6 h7 h8 h9
    omega
  | succ m ih =>
    intro i n c s r w h1 h2 h3 h4 h5 h6 h7 h8 h9
    have hl := h1.1
    obtain ⟨n, rfl⟩ : ∃ k, n = k + 2 := ⟨n - 2, by omega⟩
    by_cases c1 : t.length ≤ i
    · left
      refine ⟨if_pos c1, s, r 38, ?_, ch.refl _ s⟩
      rw [d202s h1 (by omega) h5 (by omega), if_pos c1, setN_id (k := 38) rfl]
    · have step : ∀ (x : Int32) (j : Nat), i < j → j ≤ t.length → dm202_11 (n + 2) q 1 (wP s r i) = dm202_11 (n + 1) q 1 (wP (wI s 147 c x) (setN r 38 (Int32.ofNat (c + 1))) j) → qtG t q (m + 1) i = (qtG t q m j).map (fun p => (x :: p.1, p.2)) →
          (qtG t q (m + 1) i = none ∧ ∃ s' v, dm202_11 (n + 2) q 1 (wP s r i) = some (wP s' (setN (setN r 38 v) 27 1) t.length) ∧ ch (fun a _ => a = 147) s s') ∨ ∃ u e s', qtG t q (m + 1) i = some (u, e) ∧ i < e ∧ e ≤ t.length ∧ dm202_11 (n + 2) q 1 (wP s r i) = some (wP s' (setN r 38 (Int32.ofNat (w ++ u).length)) e) ∧ RW s' 147 0 (w ++ u) ∧ ch (fun a _ => a = 147) s s' := by
        intro x j hj1 hj2 hd hq
        have hs : ch (fun a _ => a = 147) s (wI s 147 c x) := (ch.refl _ s).wI rfl
        rcases ih j (n + 1) (c + 1) (wI s 147 c x) (setN r 38 (Int32.ofNat (c + 1))) (w ++ [x]) ((h1.wr (by decide)).set 38 _ (by decide)) h2 (rw_add h3 h4 (by omega) h2) (by simp [h4]) (if_pos rfl) (by omega) hj2 (by omega) (by omega) with ⟨a1, s', v, a2, a3⟩ | ⟨u, e, s', a1, a2, a3, a4, a5, a6⟩
        · left
          refine ⟨by rw [hq, a1]; rfl, s', v, ?_, hs.trans a3⟩
          rw [hd, a2, setN_2]
        · right
          refine ⟨x :: u, e, s', by rw [hq, a1]; rfl, by omega, a3, ?_, ?_, hs.trans a6⟩
          · rw [hd, a4, setN_2, List.append_assoc]
            rfl
          · rw [List.append_assoc] at a5
            exact a5
      by_cases c2 : t.getD i 0 = q
      · by_cases c3 : t.getD (i + 1) 0 = q
        · have z : i + 2 ≤ t.length := by
            by_cases z : i + 1 < t.length
            · omega
            · rw [getD_out (by omega)] at c3
              exact absurd c3.symm hq0
          refine step (t.getD i 0) (i + 2) (by omega) z ?_ ?_
          · rw [d202s h1 (by omega) h5 (by omega), if_neg c1, if_pos c2, if_pos c3]
          · rw [qtG, if_neg c1, if_pos c2, if_pos c3, c2]
        · right
          refine ⟨[], i + 1, s, ?_, by omega, by omega, ?_, ?_, ch.refl _ s⟩
          · rw [qtG, if_neg c1, if_pos c2, if_neg c3]
          · rw [d202s h1 (by omega) h5 (by omega), if_neg c1, if_pos c2, if_neg c3, List.append_nil, h4, setN_id h5]
          · rw [List.append_nil]
            exact h3
      · refine step (t.getD i 0) (i + 1) (by omega) (by omega) ?_ ?_
        · rw [d202s h1 (by omega) h5 (by omega), if_neg c1, if_neg c2]
        · rw [qtG, if_neg c1, if_neg c2]
/-- what quotes hold that begin at i, and the place behind them -/
def qtA (t : List Int32) (q : Int32) (i : Nat) : Option (List Int32 × Nat) := qtG t q 300 (i + 1)
set_option maxRecDepth 100000 in
theorem d202 {s : aS} {r : Nat → Int32} {t : List Int32} {q : Int32} {i : Nat} (hq0 : ¬ q = 0) (h : TX s r t) (hT : (sT s 147).2 = 256) (hi : i < t.length) :
    (qtA t q i = none ∧ ∃ s' v, dm202 q (wP s r i) = some (wP s' (setN (setN r 38 v) 27 1) t.length) ∧ ch (fun a _ => a = 147) s s') ∨
    ∃ u e s', qtA t q i = some (u, e) ∧ i + 1 < e ∧ e ≤ t.length ∧ dm202 q (wP s r i) = some (wP s' (setN r 38 (Int32.ofNat u.length)) e) ∧ RW s' 147 0 u ∧ ch (fun a _ => a = 147) s s' := by
  have hl := h.1
  have e0 : dm202 q (wP s r i) = dm202_11 5000 q 1 (wP s (setN r 38 (Int32.ofNat 0)) (i + 1)) := by
    unfold dm202
    simp only [nx_eq]
    rw [wP_set (by decide), wP_at, ofNat_succ (by omega), wP_go]
    rfl
  rcases d202l hq0 300 (i + 1) 5000 0 s (setN r 38 (Int32.ofNat 0)) [] (h.set 38 _ (by decide)) hT ⟨by rw [hT]; exact Nat.zero_le _, fun j hj => absurd hj (Nat.not_lt_zero j)⟩ rfl (if_pos rfl) (by omega) (by omega) (by omega) (by omega) with ⟨a1, s', v, a2, a3⟩ | ⟨u, e, s', a1, a2, a3, a4, a5, a6⟩
  · exact Or.inl ⟨a1, s', v, by rw [e0, a2, setN_2], a3⟩
  · exact Or.inr ⟨u, e, s', a1, a2, a3, by rw [e0, a4, setN_2]; rfl, a5, a6⟩
