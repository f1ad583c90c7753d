/-! letterOf in the reference, for every kind of node -/
def NM (s : aS) (f p : Nat) (kd : Int32) (l : List Int32) : Prop := ((kd = 0 ∨ kd = 6 ∨ kd = 7) → RL s f p l) ∧ (kd = 1 → RL s f p (34 :: (dbl l ++ [34]))) ∧ (¬ (kd = 0 ∨ kd = 1 ∨ kd = 6 ∨ kd = 7) → l = [])
set_option maxRecDepth 100000 in
theorem dbl_len (l : List Int32) : l.length ≤ (dbl l).length := by
  induction l with
  | nil => exact Nat.le_refl _
  | cons x r ih =>
    show r.length + 1 ≤ (if x = 34 then 34 :: 34 :: dbl r else x :: dbl r).length
    split <;> simp only [List.length_cons] <;> omega
set_option maxRecDepth 100000 in
theorem d247 {s : aS} {f p : Nat} {kd : Int32} {l : List Int32} (hf : f < 9) (hp : p < 1152) (hk : sI s 128 p = kd) (h : NM s f p kd l) (k : Int32) : dm247 (Int32.ofNat f) (Int32.ofNat p) k s = some (if k.toInt < 0 then -1 else l.getD k.toInt.toNat (-1)) := by
  have hb : aB (Int32.ofNat p) 1152 := by rw [aB_iff, iOfNat (by omega)]; omega
  have ej : jN (Int32.ofNat p) = p := jN_of (by omega)
  unfold dm247
  rw [if_pos hb, ej, hk]
  by_cases c0 : k.toInt < 0
  · rw [if_pos (show k < 0 by rw [iLt]; exact c0), if_pos c0]
  · rw [if_neg (show ¬ k < 0 by rw [iLt]; exact c0), if_neg c0]
    have hk0 : 0 ≤ k.toInt := by omega
    by_cases q0 : kd = 0
    · rw [if_pos q0]
      exact d247p hf hp (h.1 (Or.inl q0)) (by rw [q0]; decide) k hk0
    · rw [if_neg q0]
      by_cases q1 : kd = 1
      · rw [if_pos q1]
        obtain ⟨st, a1, a2, a3, a4⟩ := h.2.1 q1
        have hlen : (34 :: (dbl l ++ [34])).length = (dbl l).length + 2 := by simp
        have hdl := dbl_len l
        unfold dm247_20
        simp only [if_pos hb, ej, a1]
        rw [if_pos q1, i256 (by omega) (by omega)]
        have := d247q (s := s) (f := f) (p := p) (st := st) (k := k) hf hp hk0 l 0 1 5000 ((dbl l).length + 2) (by rw [a2, hlen]) (by omega) (by rw [← hlen]; exact a3) (fun i hi => by
          have e := a4 (i + 1) (by rw [hlen]; omega)
          rw [show 256 * f + st + (1 + i) = 256 * f + st + (i + 1) by omega, e]
          rw [List.getElem_cons_succ, List.getElem_append_left]) (Nat.zero_le _) (by rw [hlen] at a3; omega)
        rw [Nat.sub_zero] at this
        exact this
      · rw [if_neg q1]
        by_cases q6 : kd = 6
        · rw [if_pos q6]
          exact d247p hf hp (h.1 (Or.inr (Or.inl q6))) q1 k hk0
        · rw [if_neg q6]
          by_cases q7 : kd = 7
          · rw [if_pos q7]
            exact d247p hf hp (h.1 (Or.inr (Or.inr q7))) q1 k hk0
          · rw [if_neg q7]
            have e : l = [] := h.2.2 (by
              rintro (z | z | z | z)
              · exact q0 z
              · exact q1 z
              · exact q6 z
              · exact q7 z)
            rw [e]
            rfl
