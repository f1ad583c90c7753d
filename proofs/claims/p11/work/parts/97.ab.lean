/-! the reference writes a node's letters as they were read -/
set_option maxRecDepth 100000 in
theorem d234 {s : aS} {f p : Nat} {w l : List Int32} {k : Int32} (hf : f < 9) (hp : p < 1152) (h : RL s f p w) (hW : WM s l k) (hl : l.length < 800000) : ∃ s', dm234 (Int32.ofNat f) (Int32.ofNat p) s = some s' ∧ WM s' (l ++ w) k ∧ ch (fun a q => a = 121 ∧ (q = 42 ∨ q = 44)) s s' := by
  obtain ⟨st, a1, a2, a3, a4⟩ := h
  have hb : aB (Int32.ofNat p) 1152 := by rw [aB_iff, iOfNat (by omega)]; omega
  have ej : jN (Int32.ofNat p) = p := jN_of (by omega)
  have loop : ∀ (m j n : Nat) (s1 : aS), j + m = w.length → m < n → WM s1 (l ++ w.take j) k → ch (fun a q => a = 121 ∧ (q = 42 ∨ q = 44)) s s1 → ∃ s', dm234_2 n (Int32.ofNat f) (Int32.ofNat p) (Int32.ofNat j) s1 = some s' ∧ WM s' (l ++ w) k ∧ ch (fun a q => a = 121 ∧ (q = 42 ∨ q = 44)) s s' := by
    intro m
    induction m with
    | zero =>
      intro j n s1 hj hn h1 hc
      obtain ⟨n, rfl⟩ : ∃ q, n = q + 1 := ⟨n - 1, by omega⟩
      have e2 : sI s1 138 p = Int32.ofNat w.length := (hc.i (by omega)).trans a2
      rw [dm234_2]
      simp only [if_pos hb, ej, e2]
      rw [if_pos (by rw [iLe, iOfNat (by omega), iOfNat (by omega)]; omega)]
      rw [List.take_of_length_le (by omega)] at h1
      exact ⟨s1, rfl, h1, hc⟩
    | succ m ih =>
      intro j n s1 hj hn h1 hc
      obtain ⟨n, rfl⟩ : ∃ q, n = q + 1 := ⟨n - 1, by omega⟩
      have hjl : j < w.length := by omega
      have e1 : sI s1 137 p = Int32.ofNat st := (hc.i (by omega)).trans a1
      have e2 : sI s1 138 p = Int32.ofNat w.length := (hc.i (by omega)).trans a2
      have e4 : sI s1 139 (256 * f + st + j) = w[j] := (hc.i (by omega)).trans (a4 j hjl)
      obtain ⟨s2, g1, g2, g3⟩ := d235 h1 (by rw [List.length_append, List.length_take]; omega) w[j]
      have hq : aB (Int32.ofNat (256 * f + st + j)) 2304 := by rw [aB_iff, iOfNat (by omega)]; omega
      have eq9 : jN (Int32.ofNat (256 * f + st + j)) = 256 * f + st + j := jN_of (by omega)
      rw [dm234_2]
      simp only [if_pos hb, ej, e1, e2]
      rw [if_neg (by rw [iLe, iOfNat (by omega), iOfNat (by omega)]; omega), i256 (by omega) (by omega), iSum (by omega) (by omega)]
      simp only [if_pos hq, eq9, e4]
      rw [g1]
      simp only [bu_some]
      rw [ofNat_succ (by omega)]
      refine ih (j + 1) n s2 (by omega) (by omega) ?_ (hc.trans g3)
      rw [List.take_succ_eq_append_getElem hjl, ← List.append_assoc]
      exact g2
  exact loop w.length 0 5000 s (by omega) (by omega) (by rw [List.take_zero, List.append_nil]; exact hW) (ch.refl _ s)
