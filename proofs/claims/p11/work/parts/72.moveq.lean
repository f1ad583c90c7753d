/-! a node moved: both the same -/
set_option maxRecDepth 100000 in
noncomputable def mvC (r c : Int32) (d : Nd) : Nd :=
  if okW (cvW r c d 3) 3 = 0 then loF else
  if okW (cvW r c (setN d 3 (cvW r c d 3)) 4) 4 = 0 then loF else
  if okW (cvW r c (setN (setN d 3 (cvW r c d 3)) 4 (cvW r c (setN d 3 (cvW r c d 3)) 4)) 5) 5 = 0 then loF else
  if okW (cvW r c (setN (setN (setN d 3 (cvW r c d 3)) 4 (cvW r c (setN d 3 (cvW r c d 3)) 4)) 5 (cvW r c (setN (setN d 3 (cvW r c d 3)) 4 (cvW r c (setN d 3 (cvW r c d 3)) 4)) 5)) 6) 6 = 0 then loF else
  orC (orR (setN (setN (setN (setN d 3 (cvW r c d 3)) 4 (cvW r c (setN d 3 (cvW r c d 3)) 4)) 5 (cvW r c (setN (setN d 3 (cvW r c d 3)) 4 (cvW r c (setN d 3 (cvW r c d 3)) 4)) 5)) 6 (cvW r c (setN (setN (setN d 3 (cvW r c d 3)) 4 (cvW r c (setN d 3 (cvW r c d 3)) 4)) 5 (cvW r c (setN (setN d 3 (cvW r c d 3)) 4 (cvW r c (setN d 3 (cvW r c d 3)) 4)) 5)) 6)))
set_option maxRecDepth 100000 in
theorem okW_1 {v : Int32} {w : Nat} (h : ¬ okW v w = 0) : okW v w = 1 := (b01_01 _).resolve_left h
set_option maxRecDepth 100000 in
theorem d130 {s : aS} {b n i : Nat} {d : Nd} {r c : Int32} (hn : sI s b 2 = Int32.ofNat n) (h8 : n ≤ 128) (hi : i < n) (h : CR s b i d) : ∃ s', dm130 b (Int32.ofNat i) r c s = some s' ∧ CR s' b i (mvC r c d) ∧ ch (fun a q => a = b + 1 ∧ 11 * i ≤ q ∧ q < 11 * i + 11) s s' := by
  have lost : ∀ (k w : Nat) (s1 : aS), w < 100 → sI s1 b 2 = Int32.ofNat n → ch (fun a q => a = b + 1 ∧ 11 * i ≤ q ∧ q < 11 * i + 11) s s1 → ∃ s', dm130_4 (k + 1) b (Int32.ofNat i) r c 0 (Int32.ofNat w) s1 = some s' ∧ CR s' b i loF ∧ ch (fun a q => a = b + 1 ∧ 11 * i ≤ q ∧ q < 11 * i + 11) s s' := by
    intro k w s1 hw h1 hc
    obtain ⟨s', g1, g2, g3⟩ := d58 h1 h8 hi
    have e55 : dm130_55 b (Int32.ofNat i) 0 s1 = some s' := by
      unfold dm130_55
      rw [if_pos rfl, g1]
      rfl
    refine ⟨s', ?_, fun w hw => g2 w (by omega), hc.trans g3⟩
    rw [dm130_4, if_pos rfl, e55]
    split <;> rfl
  have st : ∀ (s1 : aS) (w : Nat) (v : Int32), w < 11 → sI s1 b 2 = Int32.ofNat n → ch (fun a q => a = b + 1 ∧ 11 * i ≤ q ∧ q < 11 * i + 11) s s1 → sI (wI s1 (b + 1) (11 * i + w) v) b 2 = Int32.ofNat n ∧ ch (fun a q => a = b + 1 ∧ 11 * i ≤ q ∧ q < 11 * i + 11) s (wI s1 (b + 1) (11 * i + w) v) := by
    intro s1 w v hw h1 hc
    exact ⟨(sI_wI _ _ _ _ _ _).trans ((if_neg (by omega)).trans h1), hc.wI (by omega)⟩
  unfold dm130 mvC
  rw [show dm130_4 5000 b (Int32.ofNat i) r c 1 3 s = dm130_4 (4999 + 1) b (Int32.ofNat i) r c 1 (Int32.ofNat 3) s from rfl, d130s hn h8 hi h (by omega)]
  obtain ⟨n1, c1⟩ := st s 3 (cvW r c d 3) (by omega) hn (ch.refl _ s)
  have h1 := h.set (w := 3) (v := cvW r c d 3) (by omega)
  by_cases q1 : okW (cvW r c d 3) 3 = 0
  · rw [if_pos q1, q1]
    exact lost 4998 4 _ (by omega) n1 c1
  · rw [if_neg q1, okW_1 q1]
    generalize setN d 3 (cvW r c d 3) = e1 at h1 ⊢
    generalize wI s (b + 1) (11 * i + 3) (cvW r c d 3) = s1 at h1 n1 c1 ⊢
    rw [show dm130_4 4999 b (Int32.ofNat i) r c 1 (Int32.ofNat (3 + 1)) s1 = dm130_4 (4998 + 1) b (Int32.ofNat i) r c 1 (Int32.ofNat 4) s1 from rfl, d130s n1 h8 hi h1 (by omega)]
    obtain ⟨n2, c2⟩ := st s1 4 (cvW r c e1 4) (by omega) n1 c1
    have h2 := h1.set (w := 4) (v := cvW r c e1 4) (by omega)
    by_cases q2 : okW (cvW r c e1 4) 4 = 0
    · rw [if_pos q2, q2]
      exact lost 4997 5 _ (by omega) n2 c2
    · rw [if_neg q2, okW_1 q2]
      generalize setN e1 4 (cvW r c e1 4) = e2 at h2 ⊢
      generalize wI s1 (b + 1) (11 * i + 4) (cvW r c e1 4) = s2 at h2 n2 c2 ⊢
      rw [show dm130_4 4998 b (Int32.ofNat i) r c 1 (Int32.ofNat (4 + 1)) s2 = dm130_4 (4997 + 1) b (Int32.ofNat i) r c 1 (Int32.ofNat 5) s2 from rfl, d130s n2 h8 hi h2 (by omega)]
      obtain ⟨n3, c3⟩ := st s2 5 (cvW r c e2 5) (by omega) n2 c2
      have h3 := h2.set (w := 5) (v := cvW r c e2 5) (by omega)
      by_cases q3 : okW (cvW r c e2 5) 5 = 0
      · rw [if_pos q3, q3]
        exact lost 4996 6 _ (by omega) n3 c3
      · rw [if_neg q3, okW_1 q3]
        generalize setN e2 5 (cvW r c e2 5) = e3 at h3 ⊢
        generalize wI s2 (b + 1) (11 * i + 5) (cvW r c e2 5) = s3 at h3 n3 c3 ⊢
        rw [show dm130_4 4997 b (Int32.ofNat i) r c 1 (Int32.ofNat (5 + 1)) s3 = dm130_4 (4996 + 1) b (Int32.ofNat i) r c 1 (Int32.ofNat 6) s3 from rfl, d130s n3 h8 hi h3 (by omega)]
        obtain ⟨n4, c4⟩ := st s3 6 (cvW r c e3 6) (by omega) n3 c3
        have h4 := h3.set (w := 6) (v := cvW r c e3 6) (by omega)
        by_cases q4 : okW (cvW r c e3 6) 6 = 0
        · rw [if_pos q4, q4]
          exact lost 4995 7 _ (by omega) n4 c4
        · rw [if_neg q4, okW_1 q4]
          generalize setN e3 6 (cvW r c e3 6) = e4 at h4 ⊢
          generalize wI s3 (b + 1) (11 * i + 6) (cvW r c e3 6) = s4 at h4 n4 c4 ⊢
          obtain ⟨s', g1, g2, g3⟩ := d101 n4 h8 hi h4
          refine ⟨s', ?_, g2, c4.trans g3⟩
          rw [show dm130_4 4996 b (Int32.ofNat i) r c 1 (Int32.ofNat (6 + 1)) s4 = dm130_4 (4995 + 1) b (Int32.ofNat i) r c 1 (Int32.ofNat 7) s4 from rfl, dm130_4, if_pos (by decide)]
          unfold dm130_55
          rw [if_neg (by decide), g1]
          rfl
/-- what holds of a cell or a range -/
def ndR (d : Nd) : Prop := (d 0 = 4 ∨ d 0 = 5) ∧ (0 ≤ (d 7).toInt ∧ (d 7).toInt ≤ 15) ∧ d 1 = 0 ∧ (d 0 = 4 → d 5 = d 3 ∧ d 6 = d 4)
set_option maxRecDepth 100000 in
theorem and_le0 {x y : Int32} (hx : 0 ≤ x.toInt ∧ x.toInt ≤ 15) (hy : y = 1 ∨ y = 2 ∨ y = 4 ∨ y = 8) : (x &&& y) ≤ 0 ↔ (x &&& y) = 0 := by
  have key : ∀ q : Fin 16, ∀ y ∈ [(1 : Int32), 2, 4, 8], (Int32.ofNat q.val &&& y) ≤ 0 ↔ (Int32.ofNat q.val &&& y) = 0 := by decide
  have := key ⟨x.toInt.toNat, by omega⟩ y (by rcases hy with rfl | rfl | rfl | rfl <;> decide)
  rw [← ofNat_of (x := x) hx.1] at this
  exact this
set_option maxRecDepth 100000 in
theorem exR {x : Int32} (hx : 0 ≤ x.toInt ∧ x.toInt ≤ 15) : ((x &&& ((1 * 5) ^^^ (-1))) + ((x &&& 1) * 4)) + ((x &&& (1 * 4)) / 4) = ((x &&& 10) ||| ((x &&& 1) <<< ((2 : Int32) &&& 31))) ||| ((x >>> ((2 : Int32) &&& 31)) &&& 1) ∧ 0 ≤ (((x &&& 10) ||| ((x &&& 1) <<< ((2 : Int32) &&& 31))) ||| ((x >>> ((2 : Int32) &&& 31)) &&& 1)).toInt ∧ (((x &&& 10) ||| ((x &&& 1) <<< ((2 : Int32) &&& 31))) ||| ((x >>> ((2 : Int32) &&& 31)) &&& 1)).toInt ≤ 15 := by
  have key : ∀ q : Fin 16, (((Int32.ofNat q.val &&& ((1 * 5) ^^^ (-1))) + ((Int32.ofNat q.val &&& 1) * 4)) + ((Int32.ofNat q.val &&& (1 * 4)) / 4) = ((Int32.ofNat q.val &&& 10) ||| ((Int32.ofNat q.val &&& 1) <<< ((2 : Int32) &&& 31))) ||| ((Int32.ofNat q.val >>> ((2 : Int32) &&& 31)) &&& 1)) ∧ 0 ≤ (((Int32.ofNat q.val &&& 10) ||| ((Int32.ofNat q.val &&& 1) <<< ((2 : Int32) &&& 31))) ||| ((Int32.ofNat q.val >>> ((2 : Int32) &&& 31)) &&& 1)).toInt ∧ (((Int32.ofNat q.val &&& 10) ||| ((Int32.ofNat q.val &&& 1) <<< ((2 : Int32) &&& 31))) ||| ((Int32.ofNat q.val >>> ((2 : Int32) &&& 31)) &&& 1)).toInt ≤ 15 := by decide +kernel
  have := key ⟨x.toInt.toNat, by omega⟩
  rw [← ofNat_of (x := x) hx.1] at this
  exact this
set_option maxRecDepth 100000 in
theorem exC {x : Int32} (hx : 0 ≤ x.toInt ∧ x.toInt ≤ 15) : ((x &&& ((2 * 5) ^^^ (-1))) + ((x &&& 2) * 4)) + ((x &&& (2 * 4)) / 4) = ((x &&& 5) ||| ((x &&& 2) <<< ((2 : Int32) &&& 31))) ||| ((x >>> ((2 : Int32) &&& 31)) &&& 2) := by
  have key : ∀ q : Fin 16, (((Int32.ofNat q.val &&& ((2 * 5) ^^^ (-1))) + ((Int32.ofNat q.val &&& 2) * 4)) + ((Int32.ofNat q.val &&& (2 * 4)) / 4) = ((Int32.ofNat q.val &&& 5) ||| ((Int32.ofNat q.val &&& 2) <<< ((2 : Int32) &&& 31))) ||| ((Int32.ofNat q.val >>> ((2 : Int32) &&& 31)) &&& 2)) := by decide +kernel
  have := key ⟨x.toInt.toNat, by omega⟩
  rw [← ofNat_of (x := x) hx.1] at this
  exact this
set_option maxRecDepth 100000 in
theorem or_eq {d : Nd} (h : 0 ≤ (d 7).toInt ∧ (d 7).toInt ≤ 15) : orC (orR d) = srC (srR d) := by
  have e1 : orR d = srR d := by
    unfold orR srR
    rw [(exR h).1]
  have h7 : 0 ≤ (srR d 7).toInt ∧ (srR d 7).toInt ≤ 15 := by
    unfold srR
    by_cases q : d 3 ≤ d 5
    · rw [if_pos q]; exact h
    · rw [if_neg q]
      exact (exR h).2
  rw [e1]
  unfold orC srC
  rw [exC h7]
