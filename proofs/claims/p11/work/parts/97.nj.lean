/-! the reference writes the text of a formula -/
def WZ (s : aS) (f : Nat) (Z : List (Nd × List Int32)) (ns : List (List Int32)) : Prop := (∀ i n, Z[i]? = some n → (∀ w, w < 9 → sI s (128 + w) (128 * f + i) = n.1 w) ∧ NM s f (128 * f + i) (n.1 0) n.2) ∧ Z.length ≤ 128 ∧ SM s ns ∧ nsOk ns ∧ ∀ n ∈ Z, ndOk n.1 ∧ arOk n.1 ∧ (n.1 2).toInt < ns.length
set_option maxRecDepth 100000 in
theorem WZ.of {s s1 : aS} {f : Nat} {Z : List (Nd × List Int32)} {ns : List (List Int32)} (h : WZ s f Z ns) (g : ch wrA s s1) : WZ s1 f Z ns := ⟨fun i n q => ⟨fun w hw => (g.i (by unfold wrA; omega)).trans ((h.1 i n q).1 w hw), (h.1 i n q).2.wr g⟩, h.2.1, h.2.2.1.wr g, h.2.2.2⟩
set_option maxRecDepth 100000 in
theorem z_mid {A B : List (Nd × List Int32)} {n : Nd × List Int32} : (A ++ n :: B)[A.length]? = some n := by
  rw [List.getElem?_append_right (Nat.le_refl _), Nat.sub_self]
  rfl
set_option maxRecDepth 100000 in
theorem z_hk {T B : List (Nd × List Int32)} (h : fz T 1) : ∃ n T0, T = n :: T0 ∧ hk (T ++ B) = n.1 0 := by
  cases T with
  | nil => exact absurd h (by show ¬ (1 : Nat) = 0; decide)
  | cons n T0 => exact ⟨n, T0, rfl, rfl⟩
set_option maxRecDepth 100000 in
theorem op_w : ∀ k ∈ List.range 23, 11 ≤ k → ∃ c, dm237 (Int32.ofNat k) = some c ∧ opT k = [c] ++ ((if Int32.ofNat k = 18 then [62] else []) ++ (if Int32.ofNat k ≤ 20 then [] else [61])) := by
  intro k hk h11
  have hk := List.mem_range.mp hk
  match k, hk, h11 with
  | 11, _, _ => exact ⟨94, rfl, by decide⟩
  | 12, _, _ => exact ⟨42, rfl, by decide⟩
  | 13, _, _ => exact ⟨47, rfl, by decide⟩
  | 14, _, _ => exact ⟨43, rfl, by decide⟩
  | 15, _, _ => exact ⟨45, rfl, by decide⟩
  | 16, _, _ => exact ⟨38, rfl, by decide⟩
  | 17, _, _ => exact ⟨61, rfl, by decide⟩
  | 18, _, _ => exact ⟨60, rfl, by decide⟩
  | 19, _, _ => exact ⟨60, rfl, by decide⟩
  | 20, _, _ => exact ⟨62, rfl, by decide⟩
  | 21, _, _ => exact ⟨60, rfl, by decide⟩
  | 22, _, _ => exact ⟨62, rfl, by decide⟩
  | j + 23, h9, _ => exact absurd h9 (by omega)
set_option maxRecDepth 100000 in
theorem e233 {f : Nat} {Z : List (Nd × List Int32)} {ns : List (List Int32)} (hf : f < 8) : ∀ (m : Nat) (T A B : List (Nd × List Int32)) (s : aS), WZ s f Z ns → fz T 1 → T.length ≤ m → Z = A ++ (T ++ B) → Ev (txF ns m (T ++ B)).1 (dm233 m (Int32.ofNat f) (Int32.ofNat (128 * f + A.length)) s) s (Int32.ofNat (128 * f + A.length + T.length)) := by
  intro m
  induction m with
  | zero =>
    intro T A B s h hT hn hM
    cases T with
    | nil => exact absurd hT (by show ¬ (1 : Nat) = 0; decide)
    | cons d T => simp only [List.length_cons] at hn; omega
  | succ m ih =>
    intro T A B s h hT hn hM
    cases T with
    | nil => exact absurd hT (by show ¬ (1 : Nat) = 0; decide)
    | cons n R =>
      have hR : fz R (arN n.1) := by
        have := hT.2
        rw [show 1 - 1 + arN n.1 = arN n.1 by omega] at this
        exact this
      simp only [List.length_cons] at hn
      have hM1 : Z = A ++ (n :: (R ++ B)) := hM
      have hlen : Z.length = A.length + (R.length + 1) + B.length := by
        rw [hM1]
        simp only [List.length_append, List.length_cons]
        omega
      have h128 := h.2.1
      have hdM : n ∈ Z := by
        rw [hM1]
        exact List.mem_append_right _ List.mem_cons_self
      obtain ⟨hnd, har, hsh⟩ := h.2.2.2.2 n hdM
      have hZa : ∀ x ∈ Z, arOk x.1 := fun x hx => (h.2.2.2.2 x hx).2.1
      have hRZ : ∀ x ∈ R, x ∈ Z := fun x hx => by
        rw [hM1]
        exact List.mem_append_right _ (List.mem_cons_of_mem _ (List.mem_append_left _ hx))
      have rst : ∀ (T2 B2 : List (Nd × List Int32)), (∀ x ∈ T2, x ∈ R) → fz T2 1 → T2.length ≤ m → (txF ns m (T2 ++ B2)).2 = B2 := fun T2 B2 hx h2 h3 => txF_r m T2 B2 (fun x hx2 => hZa x (hRZ x (hx x hx2))) h2 h3
      have hb : aB (Int32.ofNat (128 * f + A.length)) 1152 := aB_of (by omega) (by omega)
      have ej : jN (Int32.ofNat (128 * f + A.length)) = 128 * f + A.length := jN_of (by omega)
      have hat : Z[A.length]? = some n := by rw [hM1]; exact z_mid
      have row : ∀ s1, ch wrA s s1 → ∀ w, w < 9 → sI s1 (128 + w) (128 * f + A.length) = n.1 w := fun s1 c1 w hw => ((h.of c1).1 _ n hat).1 w hw
      have r0 : ∀ s1, ch wrA s s1 → sI s1 128 (128 * f + A.length) = n.1 0 := fun s1 c1 => row s1 c1 0 (by decide)
      have hA1 : (A ++ [n]).length = A.length + 1 := by rw [List.length_append]; rfl
      have hM2 : Z = (A ++ [n]) ++ (R ++ B) := by rw [hM1, List.append_assoc]; rfl
      have eN : Int32.ofNat (128 * f + A.length) + 1 = Int32.ofNat (128 * f + (A ++ [n]).length) := by
        rw [hA1, ofNat_succ (by omega)]
        rfl
      have eE : 128 * f + A.length + (R.length + 1) = 128 * f + (A ++ [n]).length + R.length := by rw [hA1]; omega
      have hNM : NM s f (128 * f + A.length) (n.1 0) n.2 := (h.1 _ n hat).2
      -- the first node of a subtree that stands behind A2
      have k0 : ∀ (A2 T2 B2 : List (Nd × List Int32)) (s1 : aS), ch wrA s s1 → Z = A2 ++ (T2 ++ B2) → fz T2 1 → sI s1 128 (128 * f + A2.length) = hk (T2 ++ B2) := fun A2 T2 B2 s1 c1 e2 t2 => by
        obtain ⟨x, T0, e3, e4⟩ := z_hk (B := B2) t2
        rw [e4]
        have : Z[A2.length]? = some x := by rw [e2, e3]; exact z_mid
        exact ((h.of c1).1 _ x this).1 0 (by decide)
      simp only [List.length_cons]
      rw [eE, dm233, nx_eq, if_pos hb]
      simp only [ej, r0 s (ch.refl _ s)]
      show Ev (txF ns (m + 1) (n :: (R ++ B))).1 _ s _
      unfold txF
      by_cases c7 : n.1 0 = 7
      · rw [if_pos c7, if_pos c7]
        have eL : leT ns n.1 n.2 = n.2 ++ [40] := by
          unfold leT
          rw [c7, if_neg (by decide), if_neg (by decide), if_neg (by decide), if_neg (by decide), if_neg (by decide), if_neg (by decide), if_neg (by decide), if_pos rfl]
        show Ev (leT ns n.1 n.2 ++ ((tAr (txF ns m) (arN n.1) 0 (R ++ B)).1 ++ [41])) _ s _
        rw [eL, List.append_assoc]
        refine (e234 (by omega) (by omega) (hNM.1 (Or.inr (Or.inr c7)))).v fun s1 c1 => ?_
        refine (e235 _ s1).v fun s2 c2 => ?_
        have loop : ∀ (j k N : Nat) (A2 R2 : List (Nd × List Int32)) (s3 : aS), ch wrA s s3 → (∀ x ∈ R2, x ∈ R) → fz R2 j → k + j = arN n.1 → R2.length ≤ m → Z = A2 ++ (R2 ++ B) → j < N → Ev ((tAr (txF ns m) j k (R2 ++ B)).1 ++ [41]) (dm233_21 (dm233 m) N (Int32.ofNat f) (Int32.ofNat (128 * f + A.length)) (Int32.ofNat (128 * f + A2.length)) (Int32.ofNat k) s3) s3 (Int32.ofNat (128 * f + A2.length + R2.length)) := by
          have hk : n.1 1 = Int32.ofNat (arN n.1) := ofNat_of har.2.2.2.2.1
          have hk8 := har.2.2.2.2.2
          have hk9 : arN n.1 ≤ 128 := by unfold arN; omega
          intro j
          induction j with
          | zero =>
            intro k N A2 R2 s3 c3 hx hR2 hkm hn2 hM3 hN
            obtain ⟨N, rfl⟩ : ∃ q, N = q + 1 := ⟨N - 1, by omega⟩
            have e0 := fz_0 hR2
            subst e0
            have r1 : sI s3 129 (128 * f + A.length) = Int32.ofNat (arN n.1) := (row s3 c3 1 (by decide)).trans hk
            rw [dm233_21, if_pos hb, ej, r1, if_pos ((nle_iff (by omega) (by omega)).mpr (by omega))]
            exact Ev.eq ((e235 41 s3).v (w2 := []) fun s4 _ => Ev.n _ s4) rfl
          | succ j ihj =>
            intro k N A2 R2 s3 c3 hx hR2 hkm hn2 hM3 hN
            obtain ⟨N, rfl⟩ : ∃ q, N = q + 1 := ⟨N - 1, by omega⟩
            have r1 : sI s3 129 (128 * f + A.length) = Int32.ofNat (arN n.1) := (row s3 c3 1 (by decide)).trans hk
            obtain ⟨T1, R3, e1, t1, t2⟩ := fz_sp R2 1 j (by rw [Nat.add_comm]; exact hR2)
            subst e1
            simp only [List.length_append] at hn2
            have hr := rst T1 (R3 ++ B) (fun x q => hx x (List.mem_append_left _ q)) t1 (by omega)
            show Ev (((if k = 0 then [] else [44]) ++ ((txF ns m ((T1 ++ R3) ++ B)).1 ++ (tAr (txF ns m) j (k + 1) (txF ns m ((T1 ++ R3) ++ B)).2).1)) ++ [41]) _ s3 _
            rw [List.append_assoc T1, hr, List.append_assoc, List.append_assoc]
            have h32 : ∀ s4, ch wrA s s4 → Ev ((txF ns m (T1 ++ (R3 ++ B))).1 ++ ((tAr (txF ns m) j (k + 1) (R3 ++ B)).1 ++ [41])) (dm233_32 (dm233 m) (dm233_21 (dm233 m) N) (Int32.ofNat f) (Int32.ofNat (128 * f + A.length)) (Int32.ofNat (128 * f + A2.length)) (Int32.ofNat k) s4) s4 (Int32.ofNat (128 * f + A2.length + (T1 ++ R3).length)) := by
              intro s4 c4
              unfold dm233_32
              refine (ih T1 A2 (R3 ++ B) s4 (h.of c4) t1 (by omega) (by rw [hM3, List.append_assoc])).v fun s5 c5 => ?_
              have := ihj (k + 1) N (A2 ++ T1) R3 s5 (c4.trans c5) (fun x q => hx x (List.mem_append_right _ q)) t2 (by omega) (by omega) (by rw [hM3, List.append_assoc, List.append_assoc]) (by omega)
              rw [List.length_append, ← Nat.add_assoc] at this
              rw [ofNat_succ (by omega), List.length_append, ← Nat.add_assoc]
              exact this
            rw [dm233_21, if_pos hb, ej, r1, if_neg (show ¬ Int32.ofNat (arN n.1) ≤ Int32.ofNat k from fun q => by have := (nle_iff (by omega) (by omega)).mp q; omega)]
            by_cases ck : k = 0
            · rw [if_pos ck, if_pos (show Int32.ofNat k ≤ 0 by rw [ck]; decide)]
              exact h32 s3 c3
            · rw [if_neg ck, if_neg (show ¬ Int32.ofNat k ≤ 0 from fun z => ck (by have := (nle_iff (b := 0) (by omega) (by omega)).mp z; omega))]
              exact (e235 44 s3).v fun s4 c4 => h32 s4 (c3.trans c4)
        rw [eN]
        have hk8 := har.2.2.2.2.2
        exact loop (arN n.1) 0 5000 (A ++ [n]) R s2 (c1.trans c2) (fun x q => q) hR (by omega) (by omega) hM2 (by unfold arN; omega)
      · rw [if_neg c7, if_neg c7]
        have one : arN n.1 = 1 → ∀ x3 s1, ch wrA s s1 → Ev (brT (rkM (hk (R ++ B)) < x3) (txF ns m (R ++ B)).1) (dm236 (dm233 m) (Int32.ofNat f) (Int32.ofNat (128 * f + A.length) + 1) x3 s1) s1 (Int32.ofNat (128 * f + (A ++ [n]).length + R.length)) := by
          intro h1 x3 s1 c1
          rw [h1] at hR
          rw [eN]
          have hRl : 1 ≤ R.length := by
            cases R with
            | nil => exact absurd hR (by show ¬ (1 : Nat) = 0; decide)
            | cons a b => simp only [List.length_cons]; omega
          exact e236 (by rw [hA1]; omega) (k0 (A ++ [n]) R B s1 c1 hM2 hR) fun s2 c2 => ih R (A ++ [n]) B s2 (h.of (c1.trans c2)) hR (by omega) hM2
        by_cases c9 : n.1 0 = 9
        · rw [if_pos c9, if_pos c9]
          have h1 : arN n.1 = 1 := by unfold arN; rw [har.2.1 (Or.inl c9)]; rfl
          exact (one h1 7 s (ch.refl _ s)).v fun s1 c1 => Ev.eq ((e235 37 s1).v (w2 := []) fun s2 _ => Ev.n _ s2) rfl
        · rw [if_neg c9, if_neg c9]
          by_cases c10 : n.1 0 = 10
          · rw [if_pos c10, if_pos c10]
            have h1 : arN n.1 = 1 := by unfold arN; rw [har.2.1 (Or.inr c10)]; rfl
            refine (e235 45 s).v fun s1 c1 => ?_
            exact Ev.eq ((one h1 6 s1 c1).v (w2 := []) fun s2 _ => Ev.n _ s2) (List.append_nil _)
          · rw [if_neg c10, if_neg c10]
            have l11 : n.1 0 < 11 ↔ (n.1 0).toInt < 11 := iLt
            by_cases c11 : n.1 0 < 11
            · rw [if_pos c11, if_pos c11]
              have c11 := l11.mp c11
              have h1 : arN n.1 = 0 := by
                unfold arN
                rw [har.2.2.2.1 (by rintro (q | q | q | q); exact c7 q; exact c9 q; exact c10 q; omega)]
                rfl
              rw [h1] at hR
              have e0 := fz_0 hR
              subst e0
              have eE2 : 128 * f + (A ++ [n]).length + ([] : List (Nd × List Int32)).length = 128 * f + A.length + 1 := by rw [hA1]; rfl
              rw [eE2]
              show Ev (leT ns n.1 n.2) _ s _
              have fin : ∀ s1, Ev [] (dm233_231 (dm233 m) (Int32.ofNat (128 * f + A.length)) s1) s1 (Int32.ofNat (128 * f + A.length + 1)) := fun s1 => by
                unfold dm233_231
                rw [ofNat_succ (by omega)]
                exact Ev.n _ s1
              have r8 : sI s 136 (128 * f + A.length) = n.1 8 := row s (ch.refl _ s) 8 (by decide)
              by_cases c2 : n.1 0 = 2
              · have eL : leT ns n.1 n.2 = erW (n.1 8) := by
                  unfold leT
                  rw [if_neg (show ¬ n.1 0 = 0 by rw [c2]; decide), if_neg (show ¬ n.1 0 = 1 by rw [c2]; decide), if_pos c2]
                rw [if_pos c2, eL]
                obtain ⟨e, he, e1, -, e3⟩ := er_w (n.1 8)
                rw [e1]
                have := e117 (rc := dm233 m) (p := 128 * f + A.length) (by omega) he.2 e3 (erN e).length 0 5000 s r8 (by omega) (by have := erN_len e; omega)
                rw [List.drop_zero] at this
                exact this
              · rw [if_neg c2]
                by_cases c3 : n.1 0 = 3
                · have eL : leT ns n.1 n.2 = if n.1 8 = 1 then trL else faL := by
                    unfold leT
                    rw [if_neg (show ¬ n.1 0 = 0 by rw [c3]; decide), if_neg (show ¬ n.1 0 = 1 by rw [c3]; decide), if_neg c2, if_pos c3]
                  rw [if_pos c3, eL]
                  unfold dm233_147 dm233_157
                  simp only [if_pos hb, ej, r8]
                  by_cases q : n.1 8 = 1
                  · simp only [if_pos q]
                    exact Ev.eq (e158 (p := 128 * f + A.length) (W := 1414681925) (by omega) 4 5000 s (by omega) (by omega)) by_t.1
                  · simp only [if_neg q]
                    exact Ev.eq (e158 (p := 128 * f + A.length) (W := 301743231813) (by omega) 5 5000 s (by omega) (by omega)) by_t.2
                · rw [if_neg c3]
                  have cell : isRf n.1 → Ev (rfT ns n.1) (dm233_179 (dm233 m) (Int32.ofNat (128 * f + A.length)) (n.1 0) s) s (Int32.ofNat (128 * f + A.length + 1)) := by
                    intro hrf
                    obtain ⟨q1, q2, q3, q4, q5, q6, q7⟩ := hnd.2.2.2.1 hrf
                    have t20 : (1048576 : Int32).toInt = 1048576 := by decide
                    have t14 : (16384 : Int32).toInt = 16384 := by decide
                    have p3 : 1 ≤ (n.1 3).toInt ∧ (n.1 3).toInt ≤ 1048576 := by
                      have q2 : 1 ≤ (n.1 3).toInt ∧ (n.1 3).toInt ≤ (1048576 : Int32).toInt := q2
                      omega
                    have p5 : 1 ≤ (n.1 5).toInt ∧ (n.1 5).toInt ≤ 1048576 := by
                      have q3 : 1 ≤ (n.1 5).toInt ∧ (n.1 5).toInt ≤ (1048576 : Int32).toInt := q3
                      omega
                    have p4 : 1 ≤ (n.1 4).toInt ∧ (n.1 4).toInt ≤ 16384 := by
                      have q5 : 1 ≤ (n.1 4).toInt ∧ (n.1 4).toInt ≤ (16384 : Int32).toInt := q5
                      omega
                    have p6 : 1 ≤ (n.1 6).toInt ∧ (n.1 6).toInt ≤ 16384 := by
                      have q6 : 1 ≤ (n.1 6).toInt ∧ (n.1 6).toInt ≤ (16384 : Int32).toInt := q6
                      omega
                    unfold dm233_179 rfT
                    simp only [if_pos hb, ej]
                    rw [show sI s 130 (128 * f + A.length) = n.1 2 from row s (ch.refl _ s) 2 (by decide)]
                    refine (e238 h.2.2.1 h.2.2.2.1 ⟨hnd.1.1, hsh⟩).v fun s1 c1 => ?_
                    rw [show sI s1 131 (128 * f + A.length) = n.1 3 from row s1 c1 3 (by decide), show sI s1 132 (128 * f + A.length) = n.1 4 from row s1 c1 4 (by decide), show sI s1 135 (128 * f + A.length) = n.1 7 from row s1 c1 7 (by decide), (cr_eq p3 p4 hnd.2.1).1]
                    refine (e241 (by omega) _ _ s1).v fun s2 c2 => ?_
                    by_cases q : n.1 0 = 5
                    · rw [if_pos q, if_pos q]
                      refine (e235 58 s2).v fun s3 c3 => ?_
                      rw [show sI s3 133 (128 * f + A.length) = n.1 5 from row s3 ((c1.trans c2).trans c3) 5 (by decide), show sI s3 134 (128 * f + A.length) = n.1 6 from row s3 ((c1.trans c2).trans c3) 6 (by decide), show sI s3 135 (128 * f + A.length) = n.1 7 from row s3 ((c1.trans c2).trans c3) 7 (by decide), (cr_eq p5 p6 hnd.2.1).2]
                      exact Ev.eq ((e241 (by omega) _ _ s3).v (w2 := []) fun s4 _ => fin s4) (List.append_nil _)
                    · rw [if_neg q, if_neg q]
                      exact fin s2
                  by_cases c4 : n.1 0 = 4
                  · have eL : leT ns n.1 n.2 = rfT ns n.1 := by
                      unfold leT
                      rw [if_neg (show ¬ n.1 0 = 0 by rw [c4]; decide), if_neg (show ¬ n.1 0 = 1 by rw [c4]; decide), if_neg c2, if_neg c3, if_pos c4]
                    rw [if_pos c4, eL]
                    exact cell (Or.inl c4)
                  · rw [if_neg c4]
                    by_cases c5 : n.1 0 = 5
                    · have eL : leT ns n.1 n.2 = rfT ns n.1 := by
                        unfold leT
                        rw [if_neg (show ¬ n.1 0 = 0 by rw [c5]; decide), if_neg (show ¬ n.1 0 = 1 by rw [c5]; decide), if_neg c2, if_neg c3, if_neg c4, if_pos c5]
                      rw [if_pos c5, eL]
                      exact cell (Or.inr c5)
                    · rw [if_neg c5]
                      by_cases c8 : n.1 0 = 8
                      · have eL : leT ns n.1 n.2 = [] := by
                          unfold leT
                          rw [if_neg (show ¬ n.1 0 = 0 by rw [c8]; decide), if_neg (show ¬ n.1 0 = 1 by rw [c8]; decide), if_neg c2, if_neg c3, if_neg c4, if_neg c5, if_neg (show ¬ n.1 0 = 6 by rw [c8]; decide), if_neg c7, if_neg c10]
                        rw [if_pos c8, eL]
                        exact fin s
                      · rw [if_neg c8]
                        by_cases c1 : n.1 0 = 1
                        · have eL : leT ns n.1 n.2 = [34] ++ (dbl n.2 ++ [34]) := by
                            unfold leT
                            rw [if_neg (show ¬ n.1 0 = 0 by rw [c1]; decide), if_pos c1, dbq_l]
                          rw [eL]
                          exact Ev.eq ((e234 (by omega) (by omega) (hNM.2.1 c1)).v (w2 := []) fun s1 _ => fin s1) (List.append_nil _)
                        · have g1 := har.1
                          have t : ∀ k : Nat, k ≤ 10 → ¬ n.1 0 = Int32.ofNat k → ¬ (n.1 0).toInt = k := fun k hk q z => q (by rw [iEq, iOfNat (by omega)]; exact z)
                          have h06 : n.1 0 = 0 ∨ n.1 0 = 6 := by
                            by_cases c0 : n.1 0 = 0
                            · exact Or.inl c0
                            · by_cases c6 : n.1 0 = 6
                              · exact Or.inr c6
                              · exfalso
                                have := t 0 (by decide) c0
                                have := t 1 (by decide) c1
                                have := t 2 (by decide) c2
                                have := t 3 (by decide) c3
                                have := t 4 (by decide) c4
                                have := t 5 (by decide) c5
                                have := t 6 (by decide) c6
                                have := t 7 (by decide) c7
                                have := t 8 (by decide) c8
                                have := t 9 (by decide) c9
                                have := t 10 (by decide) c10
                                omega
                          have eL : leT ns n.1 n.2 = n.2 := by
                            unfold leT
                            rcases h06 with z | z
                            · rw [if_pos z]
                            · rw [if_neg (by rw [z]; decide), if_neg c1, if_neg c2, if_neg c3, if_neg c4, if_neg c5, if_pos z]
                          rw [eL]
                          exact Ev.eq ((e234 (by omega) (by omega) (hNM.1 (h06.elim Or.inl (fun z => Or.inr (Or.inl z))))).v (w2 := []) fun s1 _ => fin s1) (List.append_nil _)
            · rw [if_neg c11, if_neg c11, d191]
              have c11 : ¬ (n.1 0).toInt < 11 := fun q => c11 (l11.mpr q)
              have h2 : arN n.1 = 2 := by
                unfold arN
                rw [har.2.2.1 (by omega)]
                rfl
              rw [h2] at hR
              obtain ⟨T1, T2, e1, t1, t2⟩ := fz_sp R 1 1 hR
              subst e1
              simp only [List.length_append] at hn
              have hT1 : 1 ≤ T1.length := by
                cases T1 with
                | nil => exact absurd t1 (by show ¬ (1 : Nat) = 0; decide)
                | cons a b => simp only [List.length_cons]; omega
              have hT2 : 1 ≤ T2.length := by
                cases T2 with
                | nil => exact absurd t2 (by show ¬ (1 : Nat) = 0; decide)
                | cons a b => simp only [List.length_cons]; omega
              rw [List.length_append] at hlen
              have hr := rst T1 (T2 ++ B) (fun x q => List.mem_append_left _ q) t1 (by omega)
              obtain ⟨k, hk9⟩ : ∃ k, k = (n.1 0).toInt.toNat := ⟨_, rfl⟩
              have ek : n.1 0 = Int32.ofNat k := by rw [hk9]; exact ofNat_of (by omega)
              obtain ⟨v9, e9, e8⟩ := op_w k (List.mem_range.mpr (by have := har.1.2; omega)) (by omega)
              rw [← ek] at e9 e8
              rw [e9]
              simp only [bu_some]
              rw [eN]
              show Ev (brT (rkM (hk ((T1 ++ T2) ++ B)) < rkM (n.1 0)) (txF ns m ((T1 ++ T2) ++ B)).1 ++ (opT (n.1 0).toInt.toNat ++ brT (rkM (hk (txF ns m ((T1 ++ T2) ++ B)).2) < rkM (n.1 0) + 1) (txF ns m (txF ns m ((T1 ++ T2) ++ B)).2).1)) _ s _
              rw [List.append_assoc T1, hr, ← hk9, e8, List.append_assoc]
              refine (e236 (by rw [hA1]; omega) (k0 (A ++ [n]) T1 (T2 ++ B) s (ch.refl _ s) (by rw [hM2]; simp only [List.append_assoc]) t1) fun s2 c2 => ih T1 (A ++ [n]) (T2 ++ B) s2 (h.of c2) t1 (by omega) (by rw [hM2]; simp only [List.append_assoc])).v fun s1 c1 => ?_
              refine (e235 _ s1).v fun s2 c2 => ?_
              have h104 : ∀ s3, ch wrA s s3 → Ev (brT (rkM (hk (T2 ++ B)) < rkM (n.1 0) + 1) (txF ns m (T2 ++ B)).1) (dm233_104 (dm233 m) (Int32.ofNat f) (rkM (n.1 0)) (Int32.ofNat (128 * f + (A ++ [n]).length + T1.length)) s3) s3 (Int32.ofNat (128 * f + (A ++ [n]).length + (T1 ++ T2).length)) := by
                intro s3 c3
                unfold dm233_104
                have e2 : 128 * f + (A ++ [n]).length + T1.length = 128 * f + ((A ++ [n]) ++ T1).length := by
                  rw [List.length_append (as := A ++ [n])]
                  omega
                have e3 : 128 * f + (A ++ [n]).length + (T1 ++ T2).length = 128 * f + ((A ++ [n]) ++ T1).length + T2.length := by
                  rw [List.length_append (as := A ++ [n]), List.length_append (as := T1)]
                  omega
                rw [e2, e3]
                have hZ2 : Z = ((A ++ [n]) ++ T1) ++ (T2 ++ B) := by rw [hM2]; simp only [List.append_assoc]
                exact Ev.eq ((e236 (by rw [List.length_append (as := A ++ [n]), hA1]; omega) (k0 ((A ++ [n]) ++ T1) T2 B s3 c3 hZ2 t2) fun s4 c4 => ih T2 ((A ++ [n]) ++ T1) B s4 (h.of (c3.trans c4)) t2 (by omega) hZ2).v (w2 := []) fun s4 _ => Ev.n _ s4) (List.append_nil _)
              have h98 : ∀ s3, ch wrA s s3 → Ev ((if n.1 0 ≤ 20 then [] else [61]) ++ brT (rkM (hk (T2 ++ B)) < rkM (n.1 0) + 1) (txF ns m (T2 ++ B)).1) (dm233_98 (dm233 m) (Int32.ofNat f) (n.1 0) (rkM (n.1 0)) (Int32.ofNat (128 * f + (A ++ [n]).length + T1.length)) s3) s3 (Int32.ofNat (128 * f + (A ++ [n]).length + (T1 ++ T2).length)) := by
                intro s3 c3
                unfold dm233_98
                by_cases q : n.1 0 ≤ 20
                · rw [if_pos q, if_pos q]
                  exact h104 s3 c3
                · rw [if_neg q, if_neg q]
                  exact (e235 61 s3).v fun s4 c4 => h104 s4 (c3.trans c4)
              rw [List.append_assoc]
              by_cases q : n.1 0 = 18
              · rw [if_pos q, if_pos q]
                exact (e235 62 s2).v fun s3 c3 => h98 s3 ((c1.trans c2).trans c3)
              · rw [if_neg q, if_neg q]
                exact h98 s2 (c1.trans c2)
