/-! the writer of FormulaTrees: a subtree -/
set_option maxRecDepth 100000 in
theorem x139m {b : Nat} {ns : List (List Int32)} {Z : List (Nd × List Int32)} {k : Int32} (hZ : ∀ n ∈ Z, arOk n.1 ∧ -1 ≤ (n.1 2).toInt ∧ (n.1 2).toInt < ns.length) (k0 : 0 ≤ k.toInt) : ∀ (m : Nat) (T A B : List (Nd × List Int32)) (s : aS) (N r : Nat) (l : List Int32) (S : List (Nat × Nat × Int32)) (br : Int32), FE s b ns Z → fz T 1 → T.length ≤ m → Z = A ++ (T ++ B) → Cf s ((A.length, 0, br) :: S) (A.length + 1) 1 → (br = 0 ∨ br = 1) → WC s l k → r + 3 * T.length ≤ 385 → 4000 ≤ r + N → l.length + (txF ns m (T ++ B)).1.length + 1 < 900000 → Rn9 N r s l ((txF ns m (T ++ B)).1 ++ (if br = 0 then [] else [41])) k (3 * T.length - 1) (fun s' => Cf s' S (A.length + T.length) 0) := by
  intro m
  induction m with
  | zero =>
    intro T A B s N r l S br h hT hn hM hC hbr hW hr hN hl
    cases T with
    | nil => exact absurd hT (by show ¬ (1 : Nat) = 0; decide)
    | cons d T => simp only [List.length_cons] at hn; omega
  | succ m ih =>
    intro T A B s N r l S br h hT hn hM hC hbr hW hr hN hl
    cases T with
    | nil => exact absurd hT (by show ¬ (1 : Nat) = 0; decide)
    | cons n R =>
      have hR : fz R (arN n.1) := by
        have := hT.2
        rw [show 1 - 1 + arN n.1 = arN n.1 by omega] at this
        exact this
      simp only [List.length_cons] at hn hr ⊢
      have hM1 : Z = A ++ (n :: (R ++ B)) := hM
      have hlen : Z.length = A.length + (R.length + 1) + B.length := by
        rw [hM1]
        simp only [List.length_append, List.length_cons]
        omega
      have h128 := h.2.2.1.2.1
      have hdM : n ∈ Z := by
        rw [hM1]
        exact List.mem_append_right _ List.mem_cons_self
      obtain ⟨har, hs1, hs2⟩ := hZ n hdM
      have hRZ : ∀ x ∈ R, x ∈ Z := fun x hx => by
        rw [hM1]
        exact List.mem_append_right _ (List.mem_cons_of_mem _ (List.mem_append_left _ hx))
      have rst : ∀ (T2 B2 : List (Nd × List Int32)), (∀ x ∈ T2, x ∈ R) → fz T2 1 → T2.length ≤ m → (txF ns m (T2 ++ B2)).2 = B2 := fun T2 B2 hx h2 h3 => txF_r m T2 B2 (fun x hx2 => (hZ x (hRZ x (hx x hx2))).1) h2 h3
      have hat : Z[A.length]? = some n := by rw [hM1]; exact z_mid
      have hA1 : (A ++ [n]).length = A.length + 1 := by rw [List.length_append]; rfl
      have hM2 : Z = (A ++ [n]) ++ (R ++ B) := by rw [hM1, List.append_assoc]; rfl
      have ar8 := har.2.2.2.2
      have hk9 : arN n.1 ≤ 128 := by
        unfold arN
        omega
      have pos : ∀ {T1 : List (Nd × List Int32)}, fz T1 1 → 1 ≤ T1.length := fun {T1} t1 => by
        cases T1 with
        | nil => exact absurd t1 (by show ¬ (1 : Nat) = 0; decide)
        | cons a b => simp only [List.length_cons]; omega
      -- it is opened
      have op : l.length + (leT ns n.1 n.2).length < 900000 → Rn9 N r s l (leT ns n.1 n.2) k 1 (fun s' => Cf s' ((A.length, 0, br) :: S) (A.length + 1) 0) := fun hq => rn_o h hat ⟨hs1, hs2⟩ hC hW k0 (by omega) (by omega) hq
      -- a child
      have chd : ∀ (j : Nat) (T1 A2 B2 : List (Nd × List Int32)) (s1 : aS) (N1 r1 : Nat) (l1 : List Int32), ch wrC s s1 → j < arN n.1 → fz T1 1 → T1.length ≤ m → Z = A2 ++ (T1 ++ B2) → Cf s1 ((A.length, j, br) :: S) A2.length 0 → WC s1 l1 k → r1 + 3 * T1.length ≤ 384 → 4000 ≤ r1 + N1 → l1.length + (sepT n.1 j ++ brT (brB n.1 (hk (T1 ++ B2)) j) (txF ns m (T1 ++ B2)).1).length + 1 < 900000 → Rn9 N1 r1 s1 l1 (sepT n.1 j ++ brT (brB n.1 (hk (T1 ++ B2)) j) (txF ns m (T1 ++ B2)).1) k (3 * T1.length) (fun s' => Cf s' ((A.length, j + 1, br) :: S) (A2.length + T1.length) 0) := by
        intro j T1 A2 B2 s1 N1 r1 l1 c1 hj t1 hm e2 hC1 hW1 hr1 hN1 hl1
        obtain ⟨c, T0, e3, e4⟩ := z_hk (B := B2) t1
        have hT1 := pos t1
        have hcat : Z[A2.length]? = some c := by rw [e2, e3]; exact z_mid
        have hcar := (hZ c (List.mem_of_getElem? hcat)).1
        have X01 := b01_01 (brB n.1 (c.1 0) j)
        rw [e4] at hl1 ⊢
        rw [List.length_append, brT_len] at hl1
        rw [brT_s]
        have hl2 : l1.length + (sepT n.1 j ++ (if b01 (brB n.1 (c.1 0) j) = 0 then [] else [40])).length + (txF ns m (T1 ++ B2)).1.length + 1 < 900000 := by
          rw [List.length_append]
          rcases X01 with z | z
          · rw [if_pos z] at hl1 ⊢
            simp only [List.length_nil]
            omega
          · rw [if_neg (by rw [z]; decide)] at hl1 ⊢
            simp only [List.length_cons, List.length_nil]
            omega
        refine Rn9.equ (Rn9.bnd (c2 := 3 * T1.length - 1) (rn_p (h.of c1) hat hcat har hcar hC1 hj hW1 k0 (by omega) (by omega) (by omega)) fun s2 c2 w2 p2 => ?_) rfl (by omega)
        exact ih T1 A2 B2 s2 (N1 - 1) (r1 + 1) _ ((A.length, j + 1, br) :: S) _ (h.of (c1.trans c2)) t1 hm e2 p2 X01 w2 (by omega) (by omega) (by rw [List.length_append]; omega)
      -- its end
      have cl : ∀ (j p : Nat) (s1 : aS) (N1 r1 : Nat) (l1 : List Int32), ch wrC s s1 → arN n.1 ≤ j → j < 1000 → Cf s1 ((A.length, j, br) :: S) p 0 → WC s1 l1 k → r1 < 384 → 4000 ≤ r1 + N1 → l1.length + (clT n.1).length + 1 < 900000 → Rn9 N1 r1 s1 l1 (clT n.1 ++ (if br = 0 then [] else [41])) k 1 (fun s' => Cf s' S p 0) := fun j p s1 N1 r1 l1 c1 hj hj8 hC1 hW1 hr1 hN1 hl1 => rn_c (h.of c1) hat har hC1 hbr hj hj8 hW1 k0 hr1 (by omega) hl1
      have eB : A.length + (R.length + 1) = (A ++ [n]).length + R.length := by rw [hA1]; omega
      rw [eB]
      rw [← hA1] at op
      have hl0 : l.length + (txF ns (m + 1) (n :: (R ++ B))).1.length + 1 < 900000 := hl
      show Rn9 N r s l ((txF ns (m + 1) (n :: (R ++ B))).1 ++ (if br = 0 then [] else [41])) k _ _
      unfold txF at hl0 ⊢
      by_cases c7 : n.1 0 = 7
      · rw [if_pos c7] at hl0 ⊢
        have eC : clT n.1 = [41] := by
          unfold clT
          rw [if_neg (by rw [c7]; decide), if_pos c7]
        replace hl0 : l.length + (leT ns n.1 n.2 ++ ((tAr (txF ns m) (arN n.1) 0 (R ++ B)).1 ++ [41])).length + 1 < 900000 := hl0
        show Rn9 N r s l ((leT ns n.1 n.2 ++ ((tAr (txF ns m) (arN n.1) 0 (R ++ B)).1 ++ [41])) ++ (if br = 0 then [] else [41])) k _ _
        have loop : ∀ (q j : Nat) (A2 R2 : List (Nd × List Int32)) (s1 : aS) (N1 r1 : Nat) (l1 : List Int32), ch wrC s s1 → (∀ x ∈ R2, x ∈ R) → fz R2 q → j + q = arN n.1 → R2.length ≤ m → Z = A2 ++ (R2 ++ B) → Cf s1 ((A.length, j, br) :: S) A2.length 0 → WC s1 l1 k → r1 + 3 * R2.length ≤ 384 → 4000 ≤ r1 + N1 → l1.length + (tAr (txF ns m) q j (R2 ++ B)).1.length + 1 < 900000 → Rn9 N1 r1 s1 l1 (tAr (txF ns m) q j (R2 ++ B)).1 k (3 * R2.length) (fun s' => Cf s' ((A.length, arN n.1, br) :: S) (A2.length + R2.length) 0) := by
          intro q
          induction q with
          | zero =>
            intro j A2 R2 s1 N1 r1 l1 c1 hx hR2 hq hm e2 hC1 hW1 hr1 hN1 hl1
            have e0 := fz_0 hR2
            subst e0
            have ej : j = arN n.1 := by omega
            subst ej
            exact Rn9.nil hW1 hC1
          | succ q ihq =>
            intro j A2 R2 s1 N1 r1 l1 c1 hx hR2 hq hm e2 hC1 hW1 hr1 hN1 hl1
            obtain ⟨T1, R3, e1, t1, t2⟩ := fz_sp R2 1 q (by rw [Nat.add_comm]; exact hR2)
            subst e1
            rw [List.length_append] at hm hr1
            have hr := rst T1 (R3 ++ B) (fun x q => hx x (List.mem_append_left _ q)) t1 (by omega)
            have eS : sepT n.1 j = if j = 0 then [] else [44] := by
              unfold sepT
              rw [if_pos c7]
            have eT : (tAr (txF ns m) (q + 1) j ((T1 ++ R3) ++ B)).1 = (sepT n.1 j ++ brT (brB n.1 (hk (T1 ++ (R3 ++ B))) j) (txF ns m (T1 ++ (R3 ++ B))).1) ++ (tAr (txF ns m) q (j + 1) (R3 ++ B)).1 := by
              have : brT (brB n.1 (hk (T1 ++ (R3 ++ B))) j) (txF ns m (T1 ++ (R3 ++ B))).1 = (txF ns m (T1 ++ (R3 ++ B))).1 := by
                unfold brT
                rw [if_pos (b01_f fun z => z.1 c7)]
              rw [this, eS]
              show (if j = 0 then [] else [44]) ++ ((txF ns m ((T1 ++ R3) ++ B)).1 ++ (tAr (txF ns m) q (j + 1) (txF ns m ((T1 ++ R3) ++ B)).2).1) = _
              rw [List.append_assoc T1, hr, List.append_assoc]
            rw [eT] at hl1 ⊢
            rw [List.length_append] at hl1
            have e3 : A2.length + (T1 ++ R3).length = (A2 ++ T1).length + R3.length := by
              simp only [List.length_append]
              omega
            rw [e3]
            refine Rn9.equ (Rn9.bnd (c2 := 3 * R3.length) (chd j T1 A2 (R3 ++ B) s1 N1 r1 l1 c1 (by omega) t1 (by omega) (by rw [e2, List.append_assoc]) hC1 hW1 (by omega) hN1 (by omega)) fun s2 c2 w2 p2 => ?_) rfl (by rw [List.length_append]; omega)
            rw [← List.length_append] at p2
            exact ihq (j + 1) (A2 ++ T1) R3 s2 (N1 - 3 * T1.length) (r1 + 3 * T1.length) _ (c1.trans c2) (fun x q => hx x (List.mem_append_right _ q)) t2 (by omega) (by omega) (by rw [e2, List.append_assoc, List.append_assoc]) p2 w2 (by omega) (by omega) (by rw [List.length_append]; omega)
        simp only [List.length_append, List.length_cons, List.length_nil] at hl0
        refine Rn9.equ (Rn9.bnd (c2 := 3 * R.length + 1) (w2 := (tAr (txF ns m) (arN n.1) 0 (R ++ B)).1 ++ (clT n.1 ++ (if br = 0 then [] else [41]))) (op (by omega)) fun s1 c1 w1 p1 => ?_) (by rw [eC]; simp only [List.append_assoc]) (by omega)
        refine Rn9.bnd (loop (arN n.1) 0 (A ++ [n]) R s1 (N - 1) (r + 1) _ c1 (fun x q => q) hR (by omega) (by omega) hM2 p1 w1 (by omega) (by omega) (by rw [List.length_append]; omega)) fun s2 c2 w2 p2 => ?_
        exact cl (arN n.1) _ s2 _ _ _ (c1.trans c2) (Nat.le_refl _) (by omega) p2 w2 (by omega) (by omega) (by rw [eC]; simp only [List.length_append, List.length_cons, List.length_nil]; omega)
      · rw [if_neg c7] at hl0 ⊢
        -- nodes with one child
        have one : ∀ (f : List Int32) (x3 : Int32), arN n.1 = 1 → rkM (n.1 0) = x3 → clT n.1 = f → l.length + (leT ns n.1 n.2 ++ (brT (rkM (hk (R ++ B)) < x3) (txF ns m (R ++ B)).1 ++ f)).length + 1 < 900000 → Rn9 N r s l ((leT ns n.1 n.2 ++ (brT (rkM (hk (R ++ B)) < x3) (txF ns m (R ++ B)).1 ++ f)) ++ (if br = 0 then [] else [41])) k (3 * (R.length + 1) - 1) (fun s' => Cf s' S ((A ++ [n]).length + R.length) 0) := by
          intro f x3 h1 ex ef hl1
          rw [h1] at hR
          have hRl := pos hR
          have eb : sepT n.1 0 ++ brT (brB n.1 (hk (R ++ B)) 0) (txF ns m (R ++ B)).1 = brT (rkM (hk (R ++ B)) < x3) (txF ns m (R ++ B)).1 := by
            show [] ++ _ = _
            rw [List.nil_append, ← ex]
            exact brT_c ⟨fun z => z.2.elim id (fun y => absurd rfl y.2), fun z => ⟨c7, Or.inl z⟩⟩ _
          rw [← eb] at hl1 ⊢
          rw [← ef] at hl1 ⊢
          rw [List.length_append, List.length_append (as := sepT n.1 0 ++ _)] at hl1
          refine Rn9.equ (Rn9.bnd (c2 := 3 * R.length + 1) (w2 := (sepT n.1 0 ++ brT (brB n.1 (hk (R ++ B)) 0) (txF ns m (R ++ B)).1) ++ (clT n.1 ++ (if br = 0 then [] else [41]))) (op (by omega)) fun s1 c1 w1 p1 => ?_) (by simp only [List.append_assoc]) (by omega)
          refine Rn9.bnd (chd 0 R (A ++ [n]) B s1 (N - 1) (r + 1) _ c1 (by omega) hR (by omega) hM2 p1 w1 (by omega) (by omega) (by rw [List.length_append (as := l)]; omega)) fun s2 c2 w2 p2 => ?_
          exact cl 1 _ s2 _ _ _ (c1.trans c2) (by omega) (by omega) p2 w2 (by omega) (by omega) (by rw [List.length_append (as := l ++ _), List.length_append (as := l)]; omega)
        by_cases c9 : n.1 0 = 9
        · rw [if_pos c9] at hl0 ⊢
          have h1 : arN n.1 = 1 := by unfold arN; rw [har.2.1 (Or.inl c9)]; rfl
          have eL : leT ns n.1 n.2 = [] := by
            unfold leT
            rw [c9]
            rfl
          have := one [37] 7 h1 (by rw [c9]; rfl) (by unfold clT; rw [if_pos c9]) (by rw [eL]; exact hl0)
          rw [eL] at this
          exact this
        · rw [if_neg c9] at hl0 ⊢
          by_cases c10 : n.1 0 = 10
          · rw [if_pos c10] at hl0 ⊢
            have h1 : arN n.1 = 1 := by unfold arN; rw [har.2.1 (Or.inr c10)]; rfl
            have eL : leT ns n.1 n.2 = [45] := by
              unfold leT
              rw [c10]
              rfl
            have := one [] 6 h1 (by rw [c10]; rfl) (by unfold clT; rw [if_neg c9, if_neg c7]) (by rw [eL, List.append_nil]; exact hl0)
            rw [eL, List.append_nil] at this
            exact this
          · rw [if_neg c10] at hl0 ⊢
            have eC : clT n.1 = [] := by
              unfold clT
              rw [if_neg c9, if_neg c7]
            have l11 : n.1 0 < 11 ↔ (n.1 0).toInt < 11 := iLt
            by_cases c11 : n.1 0 < 11
            · rw [if_pos c11] at hl0 ⊢
              have c11 := l11.mp c11
              have h1 : arN n.1 = 0 := by
                unfold arN
                rw [har.2.2.2.1 (by rintro (q | q | q | q); exact c7 q; exact c9 q; exact c10 q; omega)]
                rfl
              rw [h1] at hR
              have e0 := fz_0 hR
              subst e0
              replace hl0 : l.length + (leT ns n.1 n.2).length + 1 < 900000 := hl0
              show Rn9 N r s l (leT ns n.1 n.2 ++ (if br = 0 then [] else [41])) k _ _
              refine Rn9.equ (Rn9.bnd (c2 := 1) (w2 := clT n.1 ++ (if br = 0 then [] else [41])) (op (by omega)) fun s1 c1 w1 p1 => ?_) (by rw [eC]; rfl) (by rfl)
              exact cl 0 _ s1 _ _ _ c1 (by omega) (by omega) p1 w1 (by simp only [List.length_nil] at hr; omega) (by omega) (by rw [eC, List.length_append]; simp only [List.length_nil]; omega)
            · rw [if_neg c11] at hl0 ⊢
              have c11 : ¬ (n.1 0).toInt < 11 := fun q => c11 (l11.mpr q)
              have h2 : arN n.1 = 2 := by
                unfold arN
                rw [har.2.2.1 (by omega)]
                rfl
              rw [h2] at hR
              obtain ⟨T1, T2, e1, t1, t2⟩ := fz_sp R 1 1 hR
              subst e1
              rw [List.length_append] at hn hr
              have hT1 := pos t1
              have hT2 := pos t2
              have hr2 := rst T1 (T2 ++ B) (fun x q => List.mem_append_left _ q) t1 (by omega)
              have eL : leT ns n.1 n.2 = [] := by
                unfold leT
                have t : ∀ v : Int32, v.toInt < 11 → ¬ n.1 0 = v := fun v hv z => c11 (by rw [z]; exact hv)
                rw [if_neg (t 0 (by decide)), if_neg (t 1 (by decide)), if_neg (t 2 (by decide)), if_neg (t 3 (by decide)), if_neg (t 4 (by decide)), if_neg (t 5 (by decide)), if_neg (t 6 (by decide)), if_neg c7, if_neg c10]
              replace hl0 : l.length + (brT (rkM (hk ((T1 ++ T2) ++ B)) < rkM (n.1 0)) (txF ns m ((T1 ++ T2) ++ B)).1 ++ (opT (n.1 0).toInt.toNat ++ brT (rkM (hk (txF ns m ((T1 ++ T2) ++ B)).2) < rkM (n.1 0) + 1) (txF ns m (txF ns m ((T1 ++ T2) ++ B)).2).1)).length + 1 < 900000 := hl0
              show Rn9 N r s l ((brT (rkM (hk ((T1 ++ T2) ++ B)) < rkM (n.1 0)) (txF ns m ((T1 ++ T2) ++ B)).1 ++ (opT (n.1 0).toInt.toNat ++ brT (rkM (hk (txF ns m ((T1 ++ T2) ++ B)).2) < rkM (n.1 0) + 1) (txF ns m (txF ns m ((T1 ++ T2) ++ B)).2).1)) ++ (if br = 0 then [] else [41])) k _ _
              rw [List.append_assoc T1, hr2] at hl0 ⊢
              have b1 : brT (rkM (hk (T1 ++ (T2 ++ B))) < rkM (n.1 0)) (txF ns m (T1 ++ (T2 ++ B))).1 = sepT n.1 0 ++ brT (brB n.1 (hk (T1 ++ (T2 ++ B))) 0) (txF ns m (T1 ++ (T2 ++ B))).1 := by
                show _ = [] ++ _
                rw [List.nil_append]
                exact brT_c ⟨fun z => ⟨c7, Or.inl z⟩, fun z => z.2.elim id (fun y => absurd rfl y.2)⟩ _
              have b2 : opT (n.1 0).toInt.toNat ++ brT (rkM (hk (T2 ++ B)) < rkM (n.1 0) + 1) (txF ns m (T2 ++ B)).1 = sepT n.1 1 ++ brT (brB n.1 (hk (T2 ++ B)) 1) (txF ns m (T2 ++ B)).1 := by
                have : sepT n.1 1 = opT (n.1 0).toInt.toNat := by
                  unfold sepT
                  rw [if_neg (by decide), if_neg c7]
                rw [this]
                congr 1
                exact brT_c ((rk_s _ _).trans ⟨fun z => ⟨c7, z.elim Or.inl (fun y => Or.inr ⟨y, by decide⟩)⟩, fun z => z.2.elim Or.inl (fun y => Or.inr y.1)⟩) _
              rw [b1, b2] at hl0 ⊢
              rw [List.length_append] at hl0
              refine Rn9.equ (Rn9.bnd (c2 := 3 * T1.length + (3 * T2.length + 1)) (w2 := (sepT n.1 0 ++ brT (brB n.1 (hk (T1 ++ (T2 ++ B))) 0) (txF ns m (T1 ++ (T2 ++ B))).1) ++ ((sepT n.1 1 ++ brT (brB n.1 (hk (T2 ++ B)) 1) (txF ns m (T2 ++ B)).1) ++ (clT n.1 ++ (if br = 0 then [] else [41])))) (op (by rw [eL]; simp only [List.length_nil]; omega)) fun s1 c1 w1 p1 => ?_) (by rw [eL, eC]; simp only [List.append_assoc, List.nil_append]) (by rw [List.length_append]; omega)
              have hM3 : Z = (A ++ [n]) ++ (T1 ++ (T2 ++ B)) := by rw [hM2]; simp only [List.append_assoc]
              have hM4 : Z = ((A ++ [n]) ++ T1) ++ (T2 ++ B) := by rw [hM2]; simp only [List.append_assoc]
              rw [eL, List.append_nil] at w1 ⊢
              refine Rn9.bnd (chd 0 T1 (A ++ [n]) (T2 ++ B) s1 (N - 1) (r + 1) _ c1 (by omega) t1 (by omega) hM3 p1 w1 (by omega) (by omega) (by omega)) fun s2 c2 w2 p2 => ?_
              rw [← List.length_append] at p2
              have e5 : (A ++ [n]).length + (T1 ++ T2).length = ((A ++ [n]) ++ T1).length + T2.length := by
                rw [List.length_append (as := A ++ [n]), List.length_append (as := T1)]
                omega
              rw [e5]
              refine Rn9.bnd (chd 1 T2 ((A ++ [n]) ++ T1) B s2 _ _ _ (c1.trans c2) (by omega) t2 (by omega) hM4 p2 w2 (by omega) (by omega) (by rw [List.length_append (as := l)]; omega)) fun s3 c3 w3 p3 => ?_
              exact cl 2 _ s3 _ _ _ ((c1.trans c2).trans c3) (by omega) (by omega) p3 w3 (by omega) (by omega) (by rw [eC, List.length_append (as := l ++ _), List.length_append (as := l)]; simp only [List.length_nil]; omega)
