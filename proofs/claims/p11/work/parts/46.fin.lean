/-! from the functions to zPure: the cells at the start, and what is left to show of the law's function -/
set_option maxRecDepth 100000 in
theorem fin_hp (xs : List Int32) : hOf zTy (cs0 xs) = fHp xs zTx := by
  have hl : 2 + 2 * zTx.length = zK := by decide
  unfold hOf fHp
  rw [hl]
  refine List.map_congr_left fun a ha => ?_
  have ha : a < 78 := List.mem_range.mp ha
  unfold aCell fCell
  have hT : sT (cs0 xs) a = zTt0 xs.length a := rfl
  rw [hT]
  by_cases h0 : a = 0
  · subst h0
    rw [if_pos rfl]
    show ((100 : Nat), (List.range xs.length).map fun k => Value.int (xs.getD k 0)) = _
    congr 1
    apply List.ext_getElem?
    intro j
    by_cases hj : j < xs.length
    · rw [List.getElem?_map, List.getElem?_range hj, List.getElem?_map, List.getElem?_eq_getElem hj]
      simp [List.getD, List.getElem?_eq_getElem hj]
    · rw [List.getElem?_eq_none (by simp; omega), List.getElem?_eq_none (by simp; omega)]
  · rw [if_neg h0]
    have e : zTt0 xs.length a = zTz.getD a (0, 0) := by unfold zTt0; rw [if_neg h0]
    rw [e]
    have hc : ∀ k, aSlot (aTy zTy (zTz.getD a (0, 0)).1 k) (cs0 xs) a k = if aTy zTy (zTz.getD a (0, 0)).1 k = 2 then .ref (a + 1) else if aTy zTy (zTz.getD a (0, 0)).1 k = 3 then .long 0 else .int (if a % 2 = 1 then 0 else (zTx.getD ((a - 2) / 2) ("", 0, [])).2.2.getD k 0) := by
      intro k
      unfold aSlot
      have : sI (cs0 xs) a k = if a % 2 = 1 then 0 else (zTx.getD ((a - 2) / 2) ("", 0, [])).2.2.getD k 0 := by
        show cCc xs a k = _
        unfold cCc
        rw [if_neg h0]
      rw [this]
      rfl
    simp only [hc]
    have key : ∀ a : Fin 78, a.val ≠ 0 → ((zTz.getD a.val (0, 0)).1, (List.range (zTz.getD a.val (0, 0)).2).map fun k => if aTy zTy (zTz.getD a.val (0, 0)).1 k = 2 then Value.ref (a.val + 1) else if aTy zTy (zTz.getD a.val (0, 0)).1 k = 3 then .long 0 else .int (if a.val % 2 = 1 then 0 else (zTx.getD ((a.val - 2) / 2) ("", 0, [])).2.2.getD k 0)) = (if a.val = 1 + 2 * zTx.length then ((99 : Nat), ([] : List Value)) else if a.val % 2 = 1 then (70, [.ref (a.val + 1), .int 0]) else (101, ((zTx.getD ((a.val - 2) / 2) ("", 0, [])).2.2).map .int)) := by decide +kernel
    exact key ⟨a, ha⟩ h0
set_option maxRecDepth 100000 in
theorem fin_ly (xs : List Int32) : Ly xs.length (cCc xs) (csE xs) := by
  obtain ⟨h1, h2, h3, h4, h5, h6, h7, h8⟩ := caE xs
  have hL : sL (csE xs) = 149 := h1.trans (by decide +kernel)
  have k1 : ∀ j : Fin 71, sT (csE []) (zK + j.val) = zTt.getD j.val (0, 0) := by decide +kernel
  have k2 : ∀ q ∈ zRt, q.1 ≠ 0 ∧ sR (csE []) q.1 q.2.1 = .ref q.2.2 := by decide +kernel
  have k3 : ∀ b : Fin 149, b.val ≠ 0 → (sT (csE []) b.val).1 = 1 → sT (csE []) b.val = (1, 2) ∧ sR (csE []) b.val 0 = .ref (b.val + 1) ∧ b.val + 1 < 149 ∧ (sT (csE []) (b.val + 1)).1 = 102 ∧ zK ≤ b.val := by decide +kernel
  have k4 : ∀ b : Fin 149, b.val ≠ 0 → (sT (csE []) b.val).1 = 3 → sT (csE []) b.val = (3, 3) ∧ sR (csE []) b.val 0 = .ref (b.val + 1) ∧ sR (csE []) b.val 1 = .ref (b.val + 2) ∧ b.val + 3 < 149 ∧ sT (csE []) (b.val + 1) = (100, 1408) ∧ sT (csE []) (b.val + 2) = (1, 2) ∧ sT (csE []) (b.val + 3) = (102, 256) ∧ zK ≤ b.val := by decide +kernel
  have k5 : ∀ b : Fin 149, b.val ≠ 0 → (sT (csE []) b.val).1 = 70 → sT (csE []) b.val = (70, 2) ∧ sR (csE []) b.val 0 = .ref (b.val + 1) ∧ b.val + 1 < 149 ∧ (sT (csE []) (b.val + 1)).1 = 101 ∧ b.val + 1 < zK := by decide +kernel
  have kz : ∀ b c, c ≠ 100 → aK (csE xs) b c → b < 149 ∧ b ≠ 0 ∧ (sT (csE []) b).1 = c := by
    rintro b c hc ⟨hb1, hb2⟩
    have hb0 : b ≠ 0 := by
      rintro rfl
      rw [h7 0 (by omega)] at hb2
      exact hc hb2.symm
    exact ⟨by omega, hb0, by rw [← h3 b hb0]; exact hb2⟩
  refine ⟨by rw [hL]; decide, by decide, fun j p hp => ?_, fun j q hq => ?_, fun b hb => ?_, fun b hb => ?_, fun b hb => ?_, h7, h8⟩
  · have hj : j < 71 := (List.getElem?_eq_some_iff.mp hp).1
    rw [h3 _ (by show 78 + j ≠ 0; omega), k1 ⟨j, hj⟩]
    simp [List.getD, hp]
  · obtain ⟨q1, q2⟩ := k2 q (List.mem_of_getElem? hq)
    rw [h4 _ _ q1]
    exact q2
  · obtain ⟨b1, b2, b3⟩ := kz b 1 (by decide) hb
    obtain ⟨g1, g2, g3, g4, g5⟩ := k3 ⟨b, b1⟩ b2 b3
    exact ⟨by rw [h3 b b2]; exact g1, by rw [h4 b _ b2]; exact g2, by rw [hL]; exact g3, by rw [h3 _ (by omega)]; exact g4, g5⟩
  · obtain ⟨b1, b2, b3⟩ := kz b 3 (by decide) hb
    obtain ⟨g1, g2, g3, g4, g5, g6, g7, g8⟩ := k4 ⟨b, b1⟩ b2 b3
    exact ⟨by rw [h3 b b2]; exact g1, by rw [h4 b _ b2]; exact g2, by rw [h4 b _ b2]; exact g3, by rw [hL]; exact g4, by rw [h3 _ (by omega)]; exact g5, by rw [h3 _ (by omega)]; exact g6, by rw [h3 _ (by omega)]; exact g7, g8⟩
  · obtain ⟨b1, b2, b3⟩ := kz b 70 (by decide) hb
    obtain ⟨g1, g2, g3, g4, g5⟩ := k5 ⟨b, b1⟩ b2 b3
    exact ⟨by rw [h3 b b2]; exact g1, by rw [h4 b _ b2]; exact g2, by rw [hL]; exact g3, by rw [h3 _ (by omega)]; exact g4, g5⟩
/-- what a state's cells weigh -/
def aSz (s : aS) : Nat := ((List.range (sL s)).map fun a => if 80 ≤ (sT s a).1 ∧ (sT s a).1 < 100 then 6 else (sT s a).2).sum
set_option maxRecDepth 100000 in
theorem aSz_eq (s : aS) : xsz (hOf zTy s) = aSz s := by
  unfold xsz aSz hOf
  rw [List.map_map]
  congr 1
  refine List.map_congr_left fun a _ => ?_
  show xwt (aCell zTy s a) = _
  unfold xwt
  rw [aCell_len]
  rfl
set_option maxRecDepth 100000 in
theorem zPure_of {N : Nat} (h : ∀ xs : List Int32, xs.length ≤ N → ∃ s', dm0 0 (csE xs) = some (1, s') ∧ sL s' ≤ 601000 ∧ aSz s' ≤ 7293000) : zPure N := by
  intro sio hsio xs hx
  obtain ⟨s', g1, g2, g3⟩ := h xs hx
  obtain ⟨c9, rfl⟩ : ∃ c9, sio = sv c9 := by
    rcases hsio with rfl | rfl
    · exact ⟨true, rfl⟩
    · exact ⟨false, rfl⟩
  have hq := (dt0 (sio := c9) (d := 1296 + 4) (by decide) (fin_ly xs) g1).2.2
  have hz := z_start (sio := c9) (d := 1296) xs hq
  obtain ⟨n, hn⟩ := hz
  refine ⟨n, 1300, _, by decide, by rw [← fin_hp]; exact hn, ?_, ?_⟩
  · rw [hOf_len]
    exact Nat.le_trans (Nat.sub_le _ _) (Nat.le_trans g2 (by decide))
  · rw [aSz_eq]
    exact Nat.le_trans (Nat.sub_le _ _) (Nat.le_trans g3 (by decide))
