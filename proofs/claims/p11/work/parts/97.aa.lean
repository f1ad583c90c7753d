/-! the reference's writer: what was written so far, and the one that is wanted -/
def WM (s : aS) (l : List Int32) (k : Int32) : Prop := l.length < 1000000 ∧ sI s 121 42 = Int32.ofNat l.length ∧ sI s 121 43 = k ∧ sI s 121 44 = if 0 ≤ k.toInt then l.getD k.toInt.toNat (-1) else -1
set_option maxRecDepth 100000 in
theorem d235 {s : aS} {l : List Int32} {k : Int32} (h : WM s l k) (hl : l.length < 900000) (c : Int32) : ∃ s', dm235 c s = some s' ∧ WM s' (l ++ [c]) k ∧ ch (fun a q => a = 121 ∧ (q = 42 ∨ q = 44)) s s' := by
  obtain ⟨-, h1, h2, h3⟩ := h
  have hr := iRange k
  have ap : (l ++ [c]).length = l.length + 1 := by simp
  have fin : ∀ y : Int32, y = (if 0 ≤ k.toInt then (l ++ [c]).getD k.toInt.toNat (-1) else -1) → ∃ s', dm235_10 y s = some s' ∧ WM s' (l ++ [c]) k ∧ ch (fun a q => a = 121 ∧ (q = 42 ∨ q = 44)) s s' := by
    intro y hy
    unfold dm235_10
    simp only [nx_eq]
    refine ⟨_, rfl, ⟨by omega, ?_, ?_, ?_⟩, ((ch.refl _ s).wI (by omega)).wI (by omega)⟩
    · rw [sI_wI, if_pos ⟨rfl, rfl⟩, sI_wI, if_neg (by omega), h1, ofNat_succ (by omega), ap]
    · rw [sI_wI, if_neg (by omega), sI_wI, if_neg (by omega)]
      exact h2
    · rw [sI_wI, if_neg (by omega), sI_wI, if_pos ⟨rfl, rfl⟩]
      exact hy
  unfold dm235
  rw [h1, h2]
  by_cases q : Int32.ofNat l.length = k
  · rw [if_pos q]
    have e : k.toInt = l.length := by rw [← q, iOfNat (by omega)]
    refine fin c ?_
    rw [if_pos (by omega), e, show ((l.length : Int)).toNat = l.length by omega, getD_in (by omega), List.getElem_append_right (Nat.le_refl _)]
    simp
  · rw [if_neg q]
    refine fin _ ?_
    rw [h3]
    by_cases z : 0 ≤ k.toInt
    · rw [if_pos z, if_pos z]
      have ne : k.toInt.toNat ≠ l.length := by
        intro w
        apply q
        rw [iEq, iOfNat (by omega)]
        omega
      by_cases w : k.toInt.toNat < l.length
      · rw [getD_in w, getD_in (by omega), List.getElem_append_left]
      · rw [getD_out (by omega), getD_out (by omega)]
    · rw [if_neg z, if_neg z]
