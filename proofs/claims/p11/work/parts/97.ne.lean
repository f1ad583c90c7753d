/-! the sheet of a cell, in both writers -/
def dbq (q : Int32) : List Int32 → List Int32
  | [] => []
  | x :: r => dq1 x q ++ dbq q r
set_option maxRecDepth 100000 in
noncomputable def qtT (t : List Int32) : List Int32 := if b01 (qtP t) = 0 then [] else [39]
set_option maxRecDepth 100000 in
noncomputable def shT (t : List Int32) : List Int32 := qtT t ++ (dbq 39 t ++ (qtT t ++ [33]))
section CW
variable {s : aS} {b : Nat} {ns : List (List Int32)}
set_option maxRecDepth 100000 in
theorem x151 {i j : Nat} (h : FS s b ns) (hi : i < ns.length) (hj : j < 1000) : dm151 (Int32.ofNat i) (Int32.ofNat j) s = some (ns[i].getD j (-1)) := by
  have h8 := h.2.2.2.2.2.2.1.1
  have hr := h.2.2.2.2.2.2.2.1
  have ei : (Int32.ofNat i).toInt = i := iOfNat (by omega)
  have hl := (h.2.2.2.2.2.2.1.2 _ (List.getElem_mem hi)).2.1
  unfold dm151
  rw [d40 h.2.2.2.2.2.1 h8, b01_t (by omega)]
  simp only [bu_some]
  rw [if_neg (by decide), if_pos (aB_of (by omega) (by omega)), jN_of (by omega), d34 (h.2.2.2.2.2.1.2 i hi) (by rw [show 84 + 2 * i + 1 = 85 + 2 * i by omega, hr.2 i (by omega)]; exact hl) (by omega) (by omega)]
  rfl
set_option maxRecDepth 100000 in
theorem x149 {i : Nat} (h : FS s b ns) (hi : i < ns.length) (hq : sI s 83 i = b01 (qtP ns[i])) : Ec (shT ns[i]) (dm149 (Int32.ofNat i) s) s := by
  have h8 := h.2.2.2.2.2.2.1.1
  have ei : (Int32.ofNat i).toInt = i := iOfNat (by omega)
  have hn := h.2.2.2.2.2.2.1.2 _ (List.getElem_mem hi)
  have n10 : ¬ (1 : Int32) = 0 := by decide
  have f32 : ∀ (p : Prop) s, Ec ((if b01 p = 0 then [] else [39]) ++ [33]) (dm149_32 (b01 p) s) s := fun p s => by
    unfold dm149_32 dm149_37
    by_cases c : b01 p = 0
    · rw [if_pos c, if_pos c]
      exact (x141 _ s).o
    · rw [if_neg c, if_neg c]
      exact (x141 _ s).b fun s1 _ => (x141 _ s1).o
  have loop : ∀ (p : Prop) (m j n : Nat) (s : aS), FS s b ns → j + m = ns[i].length → m < n → Ec (dbq 39 (ns[i].drop j) ++ ((if b01 p = 0 then [] else [39]) ++ [33])) (dm149_12 n (Int32.ofNat i) (b01 p) (Int32.ofNat j) s) s := by
    intro p m
    induction m with
    | zero =>
      intro j n s h h1 h2
      obtain ⟨n, rfl⟩ : ∃ q, n = q + 1 := ⟨n - 1, by omega⟩
      rw [List.drop_eq_nil_of_le (by omega), dm149_12]
      by_cases c : 31 ≤ j
      · rw [if_pos (show (31 : Int32) ≤ Int32.ofNat j from (nle_iff (a := 31) (by omega) (by omega)).mpr c)]
        exact f32 p s
      · rw [if_neg (show ¬ (31 : Int32) ≤ Int32.ofNat j from fun z => c ((nle_iff (a := 31) (by omega) (by omega)).mp z)), x151 h hi (by omega), getD_out (by omega)]
        simp only [bu_some]
        rw [if_pos trivial]
        exact f32 p s
    | succ m ih =>
      intro j n s h h1 h2
      obtain ⟨n, rfl⟩ : ∃ q, n = q + 1 := ⟨n - 1, by omega⟩
      have hj : j < ns[i].length := by omega
      have hx := hn.2.2 _ (List.getElem_mem hj)
      have hm1 : ¬ ns[i][j] = -1 := fun z => by
        rw [z] at hx
        exact absurd hx.1 (by decide)
      rw [dm149_12, if_neg (show ¬ (31 : Int32) ≤ Int32.ofNat j from fun z => by have := (nle_iff (a := 31) (by omega) (by omega)).mp z; omega), x151 h hi (by omega), getD_in hj]
      simp only [bu_some]
      rw [if_neg hm1, List.drop_eq_getElem_cons hj]
      show Ec ((dq1 ns[i][j] 39 ++ dbq 39 (ns[i].drop (j + 1))) ++ _) _ _
      rw [List.append_assoc]
      refine (x146 _ 39 s).b fun s1 c1 => ?_
      rw [ofNat_succ (by omega)]
      exact ih (j + 1) n s1 (h.of (dc c1)) (by omega) (by omega)
  have e150 : dm150 (Int32.ofNat i) s = some (b01 (qtP ns[i])) := by
    unfold dm150
    rw [d40 h.2.2.2.2.2.1 h8, b01_t (by omega)]
    simp only [bu_some]
    rw [if_neg (by decide), if_pos (aB_of (by omega) (by omega)), jN_of (by omega), hq]
    by_cases c : qtP ns[i]
    · rw [b01_t c, if_neg n10]
    · rw [b01_f c, if_pos rfl]
  unfold dm149 dm149_10 shT qtT
  rw [e150]
  simp only [bu_some]
  by_cases c : b01 (qtP ns[i]) = 0
  · rw [if_pos c, if_pos c]
    have := loop (qtP ns[i]) ns[i].length 0 5000 s h (by omega) (by omega)
    rw [if_pos c, List.drop_zero] at this
    exact this
  · rw [if_neg c, if_neg c]
    refine (x141 39 s).b fun s1 c1 => ?_
    have := loop (qtP ns[i]) ns[i].length 0 5000 s1 (h.of (dc c1)) (by omega) (by omega)
    rw [if_neg c, List.drop_zero] at this
    exact this
end CW
set_option maxRecDepth 100000 in
/-- of the reference -/
noncomputable def pfx (ns : List (List Int32)) (x : Int32) : List Int32 := if x = -1 then [] else shT (ns.getD x.toInt.toNat [])
set_option maxRecDepth 100000 in
theorem e238 {s : aS} {ns : List (List Int32)} {x : Int32} (hs : SM s ns) (hn : nsOk ns) (hx : -1 ≤ x.toInt ∧ x.toInt < ns.length) : Er (pfx ns x) (dm238 x s) s := by
  have n10 : ¬ (1 : Int32) = 0 := by decide
  unfold dm238 pfx
  by_cases c : 0 ≤ x.toInt
  · rw [if_pos (show (0 : Int32) ≤ x from iLe.mpr c), if_neg (fun z => by rw [z] at c; exact absurd c (by decide))]
    have h8 := hn.1
    obtain ⟨i, hi⟩ : ∃ i, i = x.toInt.toNat := ⟨_, rfl⟩
    have ex : x = Int32.ofNat i := by rw [hi]; exact ofNat_of c
    have hil : i < ns.length := by omega
    have en : ns.getD x.toInt.toNat [] = ns[i] := by rw [← hi, List.getD, List.getElem?_eq_getElem hil]; rfl
    rw [en, ex]
    have h31 := hn.2 ns[i] (List.getElem_mem hil)
    have e := d239 (s := s) (i := i) (t := ns[i]) (by omega) (hs.2 i hil).1 (hs.2 i hil).2 ⟨h31.1, h31.2.1⟩
    have b8 : aB (Int32.ofNat i) 8 := aB_of (by omega) (by omega)
    have j8 : jN (Int32.ofNat i) = i := jN_of (by omega)
    have h45 : ∀ s, Er [33] (dm238_45 s) s := fun s => by
      unfold dm238_45
      exact (e235 _ s).o
    have loop : ∀ (p : Prop) (m j n : Nat) (s1 : aS), ch wrA s s1 → j + m = ns[i].length → m < n → Er (dbq 39 (ns[i].drop j) ++ ((if b01 p = 0 then [] else [39]) ++ [33])) (dm238_14 n (Int32.ofNat i) (b01 p) (Int32.ofNat j) s1) s1 := by
      intro p m
      induction m with
      | zero =>
        intro j n s1 h0 h1 h2
        obtain ⟨n, rfl⟩ : ∃ q, n = q + 1 := ⟨n - 1, by omega⟩
        have hL : sI s1 123 i = Int32.ofNat ns[i].length := (h0.i (by unfold wrA; omega)).trans (hs.2 i hil).1
        rw [List.drop_eq_nil_of_le (by omega), dm238_14, if_pos b8, j8, hL, if_pos ((nle_iff (by omega) (by omega)).mpr (by omega))]
        by_cases q : b01 p = 0
        · rw [if_pos q, if_pos q]
          exact h45 s1
        · rw [if_neg q, if_neg q]
          exact (e235 _ s1).b fun s2 _ => h45 s2
      | succ m ih =>
        intro j n s1 h0 h1 h2
        obtain ⟨n, rfl⟩ : ∃ q, n = q + 1 := ⟨n - 1, by omega⟩
        have hj : j < ns[i].length := by omega
        have hL : sI s1 123 i = Int32.ofNat ns[i].length := (h0.i (by unfold wrA; omega)).trans (hs.2 i hil).1
        have hX : sI s1 124 (32 * i + j) = ns[i][j] := (h0.i (by unfold wrA; omega)).trans ((hs.2 i hil).2 j hj)
        have h35 : ∀ s2, ch wrA s s2 → Er ([ns[i][j]] ++ (dbq 39 (ns[i].drop (j + 1)) ++ ((if b01 p = 0 then [] else [39]) ++ [33]))) (dm238_35 (dm238_14 n) (Int32.ofNat i) (b01 p) (Int32.ofNat j) ns[i][j] s2) s2 := by
          intro s2 h3
          unfold dm238_35
          refine (e235 _ s2).b fun s3 c3 => ?_
          rw [ofNat_succ (by omega)]
          exact ih (j + 1) n s3 (h3.trans c3) (by omega) (by omega)
        rw [dm238_14, if_pos b8, j8, hL, if_neg (show ¬ Int32.ofNat ns[i].length ≤ Int32.ofNat j from fun q => by have := (nle_iff (by omega) (by omega)).mp q; omega), iLin (by omega) (by omega), if_pos (aB_of (n := 256) (by omega) (by omega)), jN_of (by omega), hX, List.drop_eq_getElem_cons hj]
        show Er ((dq1 ns[i][j] 39 ++ dbq 39 (ns[i].drop (j + 1))) ++ _) _ _
        rw [List.append_assoc]
        unfold dq1
        by_cases q : ns[i][j] = 39
        · rw [if_pos q, if_pos q]
          refine Er.eq ((e235 39 s1).b fun s2 c2 => h35 s2 (h0.trans c2)) ?_
          rw [q]
          rfl
        · rw [if_neg q, if_neg q]
          exact h35 s1 h0
    rw [e]
    simp only [bu_some]
    unfold dm238_12 shT qtT
    by_cases q : b01 (qtP ns[i]) = 0
    · rw [if_pos q, if_pos q]
      have := loop (qtP ns[i]) ns[i].length 0 5000 s (ch.refl _ s) (by omega) (by omega)
      rw [if_pos q, List.drop_zero] at this
      exact this
    · rw [if_neg q, if_neg q]
      refine (e235 39 s).b fun s1 c1 => ?_
      have := loop (qtP ns[i]) ns[i].length 0 5000 s1 c1 (by omega) (by omega)
      rw [if_neg q, List.drop_zero] at this
      exact this
  · rw [if_neg (show ¬ (0 : Int32) ≤ x from fun z => c (iLe.mp z)), if_pos (iEq.mpr (show x.toInt = -1 by omega))]
    exact Er.n s
