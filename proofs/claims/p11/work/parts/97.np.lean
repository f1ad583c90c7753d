/-! how long the text of a formula is -/
set_option maxRecDepth 100000 in
theorem dbq_len (q : Int32) : ∀ l : List Int32, (dbq q l).length ≤ 2 * l.length
  | [] => Nat.le_refl _
  | x :: r => by
    show (dq1 x q ++ dbq q r).length ≤ 2 * (r.length + 1)
    have := dbq_len q r
    have h1 : (dq1 x q).length ≤ 2 := by
      unfold dq1
      split
      · exact Nat.le_of_ble_eq_true rfl
      · exact Nat.le_of_ble_eq_true rfl
    rw [List.length_append]
    omega
set_option maxRecDepth 100000 in
theorem if_len (p : Prop) [Decidable p] (c : Int32) : (if p then [] else [c]).length ≤ 1 := by
  split
  · exact Nat.le_of_ble_eq_true rfl
  · exact Nat.le_of_ble_eq_true rfl
set_option maxRecDepth 100000 in
theorem coC_len (x : Int32) : (coC x).length ≤ 3 := by
  unfold coC
  have h1 := if_len ((x - 1) < 702) (65 + ((((x - 1) - 26) - 676) / 676))
  have h2 := if_len ((x - 1) < 26) (65 + ((((x - 1) - 26) / 26) - (((x - 1) - 26) / 26) / 26 * 26))
  rw [List.length_append, List.length_append]
  have h3 : [65 + ((x - 1) - (x - 1) / 26 * 26)].length = 1 := rfl
  omega
set_option maxRecDepth 100000 in
theorem deC_len (x : Int32) : ∀ m : Nat, (deC x m).length ≤ m
  | 0 => Nat.le_refl _
  | m + 1 => by
    show ((if x < Int32.ofNat (10 ^ m) then [] else [dgC x m]) ++ deC x m).length ≤ m + 1
    have h1 := if_len (x < Int32.ofNat (10 ^ m)) (dgC x m)
    have := deC_len x m
    rw [List.length_append]
    omega
set_option maxRecDepth 100000 in
theorem crC_len (w c f : Int32) : (crC w c f).length ≤ 12 := by
  unfold crC
  have h1 := if_len ((f &&& 2) = 0) 36
  have h2 := if_len ((f &&& 1) = 0) 36
  have h3 := coC_len c
  have h4 := deC_len w 7
  rw [List.length_append, List.length_append, List.length_append]
  omega
set_option maxRecDepth 100000 in
theorem rfT_len {ns : List (List Int32)} (hn : nsOk ns) (d : Nd) : (rfT ns d).length ≤ 100 := by
  have hp : (pfx ns (d 2)).length ≤ 65 := by
    unfold pfx
    by_cases c : d 2 = -1
    · rw [if_pos c]
      exact Nat.zero_le _
    · rw [if_neg c]
      have h31 : (ns.getD (d 2).toInt.toNat []).length ≤ 31 := by
        by_cases q : (d 2).toInt.toNat < ns.length
        · rw [List.getD, List.getElem?_eq_getElem q]
          exact (hn.2 _ (List.getElem_mem q)).2.1
        · rw [List.getD, List.getElem?_eq_none (by omega)]
          exact Nat.zero_le _
      unfold shT qtT
      have h1 := if_len (b01 (qtP (ns.getD (d 2).toInt.toNat [])) = 0) 39
      have h2 := dbq_len 39 (ns.getD (d 2).toInt.toNat [])
      rw [List.length_append, List.length_append, List.length_append]
      have h3 : ([33] : List Int32).length = 1 := rfl
      omega
  unfold rfT
  have h1 := crC_len (d 3) (d 4) (d 7)
  have h2 := crC_len (d 5) (d 6) (d 7 / 4)
  rw [List.length_append, List.length_append]
  by_cases c : d 0 = 5
  · rw [if_pos c, List.length_append]
    have h3 : ([58] : List Int32).length = 1 := rfl
    omega
  · rw [if_neg c]
    have h3 : ([] : List Int32).length = 0 := rfl
    omega
set_option maxRecDepth 100000 in
theorem leT_len {ns : List (List Int32)} (hn : nsOk ns) (d : Nd) {l : List Int32} (hl : l.length ≤ 256) : (leT ns d l).length ≤ 600 := by
  have hr := rfT_len hn d
  have l1 : ∀ x : Int32, [x].length = 1 := fun _ => rfl
  unfold leT
  by_cases c0 : d 0 = 0
  · rw [if_pos c0]
    omega
  rw [if_neg c0]
  by_cases c1 : d 0 = 1
  · rw [if_pos c1, List.length_append, List.length_append, l1]
    have := dbq_len 34 l
    omega
  rw [if_neg c1]
  by_cases c2 : d 0 = 2
  · rw [if_pos c2]
    obtain ⟨e, -, e1, -⟩ := er_w (d 8)
    rw [e1]
    have := erN_len e
    omega
  rw [if_neg c2]
  by_cases c3 : d 0 = 3
  · rw [if_pos c3]
    by_cases c8 : d 8 = 1
    · rw [if_pos c8]
      exact Nat.le_of_ble_eq_true rfl
    · rw [if_neg c8]
      exact Nat.le_of_ble_eq_true rfl
  rw [if_neg c3]
  by_cases c4 : d 0 = 4
  · rw [if_pos c4]
    omega
  rw [if_neg c4]
  by_cases c5 : d 0 = 5
  · rw [if_pos c5]
    omega
  rw [if_neg c5]
  by_cases c6 : d 0 = 6
  · rw [if_pos c6]
    omega
  rw [if_neg c6]
  by_cases c7 : d 0 = 7
  · rw [if_pos c7, List.length_append, l1]
    omega
  rw [if_neg c7]
  by_cases c10 : d 0 = 10
  · rw [if_pos c10]
    exact Nat.le_of_ble_eq_true rfl
  · rw [if_neg c10]
    exact Nat.le_of_ble_eq_true rfl
set_option maxRecDepth 100000 in
theorem brT_le (p : Prop) (w : List Int32) : (brT p w).length ≤ w.length + 2 := by
  rw [brT_len]
  split
  · omega
  · omega
set_option maxRecDepth 100000 in
theorem txF_len {ns : List (List Int32)} : ∀ (m : Nat) (T B : List (Nd × List Int32)), (∀ n ∈ T, arOk n.1 ∧ (leT ns n.1 n.2).length ≤ 600) → fz T 1 → T.length ≤ m → (txF ns m (T ++ B)).1.length + 5 ≤ 610 * T.length := by
  intro m
  induction m with
  | zero =>
    intro T B ha h hm
    cases T with
    | nil => exact absurd h (by show ¬ (1 : Nat) = 0; decide)
    | cons d T =>
      rw [List.length_cons] at hm
      omega
  | succ m ih =>
    intro T B ha h hm
    cases T with
    | nil => exact absurd h (by show ¬ (1 : Nat) = 0; decide)
    | cons n R =>
      rw [List.length_cons] at hm ⊢
      have hR : fz R (arN n.1) := by
        have := h.2
        rw [show 1 - 1 + arN n.1 = arN n.1 by omega] at this
        exact this
      obtain ⟨har, hle⟩ := ha n List.mem_cons_self
      have haR : ∀ x ∈ R, arOk x.1 ∧ (leT ns x.1 x.2).length ≤ 600 := fun x hx => ha x (List.mem_cons_of_mem _ hx)
      have sub : ∀ T2 B2 : List (Nd × List Int32), (∀ x ∈ T2, x ∈ R) → fz T2 1 → T2.length ≤ m → (txF ns m (T2 ++ B2)).1.length + 5 ≤ 610 * T2.length := fun T2 B2 hx h2 h3 => ih T2 B2 (fun x hx2 => haR x (hx x hx2)) h2 h3
      have rst : ∀ T2 B2 : List (Nd × List Int32), (∀ x ∈ T2, x ∈ R) → fz T2 1 → T2.length ≤ m → (txF ns m (T2 ++ B2)).2 = B2 := fun T2 B2 hx h2 h3 => txF_r m T2 B2 (fun x hx2 => (haR x (hx x hx2)).1) h2 h3
      have l1 : ∀ x : Int32, [x].length = 1 := fun _ => rfl
      show (txF ns (m + 1) (n :: (R ++ B))).1.length + 5 ≤ 610 * (R.length + 1)
      unfold txF
      by_cases c7 : n.1 0 = 7
      · rw [if_pos c7]
        have loop : ∀ (k c : Nat) (R2 : List (Nd × List Int32)), (∀ x ∈ R2, x ∈ R) → fz R2 k → R2.length ≤ m → (tAr (txF ns m) k c (R2 ++ B)).1.length ≤ 610 * R2.length := by
          intro k
          induction k with
          | zero =>
            intro c R2 hx h2 h3
            exact Nat.zero_le _
          | succ k ihk =>
            intro c R2 hx h2 h3
            obtain ⟨T, R3, e, t1, t2⟩ := fz_sp R2 1 k (by rw [Nat.add_comm]; exact h2)
            subst e
            rw [List.length_append] at h3
            show ((if c = 0 then [] else [44]) ++ ((txF ns m ((T ++ R3) ++ B)).1 ++ (tAr (txF ns m) k (c + 1) (txF ns m ((T ++ R3) ++ B)).2).1)).length ≤ 610 * (T ++ R3).length
            rw [List.append_assoc T, rst T (R3 ++ B) (fun x q => hx x (List.mem_append_left _ q)) t1 (by omega)]
            have q1 := if_len (c = 0) 44
            have q2 := sub T (R3 ++ B) (fun x q => hx x (List.mem_append_left _ q)) t1 (by omega)
            have q3 := ihk (c + 1) R3 (fun x q => hx x (List.mem_append_right _ q)) t2 (by omega)
            rw [List.length_append, List.length_append, List.length_append]
            omega
        have q := loop (arN n.1) 0 R (fun x q => q) hR (by omega)
        show (leT ns n.1 n.2 ++ ((tAr (txF ns m) (arN n.1) 0 (R ++ B)).1 ++ [41])).length + 5 ≤ 610 * (R.length + 1)
        rw [List.length_append, List.length_append, l1]
        omega
      · rw [if_neg c7]
        by_cases c9 : n.1 0 = 9
        · rw [if_pos c9]
          have h1 : arN n.1 = 1 := by unfold arN; rw [har.2.1 (Or.inl c9)]; rfl
          rw [h1] at hR
          have q := sub R B (fun x q => q) hR (by omega)
          have q2 := brT_le (rkM (hk (R ++ B)) < 7) (txF ns m (R ++ B)).1
          show (brT (rkM (hk (R ++ B)) < 7) (txF ns m (R ++ B)).1 ++ [37]).length + 5 ≤ 610 * (R.length + 1)
          rw [List.length_append, l1]
          omega
        · rw [if_neg c9]
          by_cases c10 : n.1 0 = 10
          · rw [if_pos c10]
            have h1 : arN n.1 = 1 := by unfold arN; rw [har.2.1 (Or.inr c10)]; rfl
            rw [h1] at hR
            have q := sub R B (fun x q => q) hR (by omega)
            have q2 := brT_le (rkM (hk (R ++ B)) < 6) (txF ns m (R ++ B)).1
            show ([45] ++ brT (rkM (hk (R ++ B)) < 6) (txF ns m (R ++ B)).1).length + 5 ≤ 610 * (R.length + 1)
            rw [List.length_append, l1]
            omega
          · rw [if_neg c10]
            have l11 : n.1 0 < 11 ↔ (n.1 0).toInt < 11 := iLt
            by_cases c11 : n.1 0 < 11
            · rw [if_pos c11]
              show (leT ns n.1 n.2).length + 5 ≤ 610 * (R.length + 1)
              omega
            · rw [if_neg c11]
              have c11 : ¬ (n.1 0).toInt < 11 := fun q => c11 (l11.mpr q)
              have h2 : arN n.1 = 2 := by
                unfold arN
                rw [har.2.2.1 (by omega)]
                rfl
              rw [h2] at hR
              obtain ⟨T1, T2, e, t1, t2⟩ := fz_sp R 1 1 hR
              subst e
              rw [List.length_append] at hm
              show (brT (rkM (hk ((T1 ++ T2) ++ B)) < rkM (n.1 0)) (txF ns m ((T1 ++ T2) ++ B)).1 ++ (opT (n.1 0).toInt.toNat ++ brT (rkM (hk (txF ns m ((T1 ++ T2) ++ B)).2) < rkM (n.1 0) + 1) (txF ns m (txF ns m ((T1 ++ T2) ++ B)).2).1)).length + 5 ≤ 610 * ((T1 ++ T2).length + 1)
              rw [List.length_append (as := T1)]
              rw [List.append_assoc T1, rst T1 (T2 ++ B) (fun x q => List.mem_append_left _ q) t1 (by omega)]
              have q1 := sub T1 (T2 ++ B) (fun x q => List.mem_append_left _ q) t1 (by omega)
              have q2 := sub T2 B (fun x q => List.mem_append_right _ q) t2 (by omega)
              have q3 := brT_le (rkM (hk (T1 ++ (T2 ++ B))) < rkM (n.1 0)) (txF ns m (T1 ++ (T2 ++ B))).1
              have q4 := brT_le (rkM (hk (T2 ++ B)) < rkM (n.1 0) + 1) (txF ns m (T2 ++ B)).1
              obtain ⟨k, k1, -, k3⟩ := kd_n har
              have q5 := (opT_p k (List.mem_range.mpr k1)).1
              rw [k3, List.length_append, List.length_append]
              omega
