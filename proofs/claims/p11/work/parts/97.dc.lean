/-! the reference's writer comes to its end: whole -/
set_option maxRecDepth 100000 in
theorem w236 {s : aS} {f p : Nat} {rc : Int32 → Int32 → aS → Option (Int32 × aS)} {x3 v : Int32} (hp : p < 1152) (h : ∀ s1, ch wrA s s1 → Wv (rc (Int32.ofNat f) (Int32.ofNat p) s1) s1 v) : Wv (dm236 rc (Int32.ofNat f) (Int32.ofNat p) x3 s) s v := by
  have hb : aB (Int32.ofNat p) 1152 := aB_of hp (by omega)
  unfold dm236 dm236_10 dm236_16
  rw [if_pos hb, d191]
  simp only [bu_some]
  split
  · rw [if_pos trivial]
    refine (h s (ch.refl _ s)).v fun s1 c1 => ?_
    rw [if_pos trivial]
    exact Wv.s c1
  · rw [if_neg (by decide)]
    refine (w235 _ s).v fun s1 c1 => Wv.t c1 ?_
    refine (h s1 c1).v fun s2 c2 => ?_
    rw [if_neg (by decide)]
    exact Wv.t c2 ((w235 _ s2).v fun s3 c3 => Wv.s c3)
set_option maxRecDepth 100000 in
theorem w237 (x : Int32) : ∃ v, dm237 x = some v := by
  unfold dm237 dm237_41
  repeat' split
  all_goals exact ⟨_, rfl⟩
set_option maxRecDepth 100000 in
theorem w233 {f : Nat} {M : List Nd} {l : Nat → List Int32} {ns : List (List Int32)} (hf : f < 8) : ∀ (n : Nat) (T A B : List Nd) (s : aS), WF s f M l ns → ft T 1 → T.length ≤ n → M = A ++ (T ++ B) → Wv (dm233 n (Int32.ofNat f) (Int32.ofNat (128 * f + A.length)) s) s (Int32.ofNat (128 * f + A.length + T.length)) := by
  intro n
  induction n with
  | zero =>
    intro T A B s h hT hn hM
    cases T with
    | nil => exact absurd hT (by show ¬ (1 : Nat) = 0; decide)
    | cons d T => simp only [List.length_cons] at hn; omega
  | succ n ih =>
    intro T A B s h hT hn hM
    cases T with
    | nil => exact absurd hT (by show ¬ (1 : Nat) = 0; decide)
    | cons d R =>
      have hR : ft R (arN d) := by
        have := hT.2
        rw [show 1 - 1 + arN d = arN d by omega] at this
        exact this
      simp only [List.length_cons] at hn
      have hM1 : M = A ++ (d :: (R ++ B)) := hM
      have hlen : M.length = A.length + (R.length + 1) + B.length := by
        rw [hM1]
        simp only [List.length_append, List.length_cons]
        omega
      have h128 := h.1.2.1
      have hdM : d ∈ M := by
        rw [hM1]
        exact List.mem_append_right _ List.mem_cons_self
      obtain ⟨hnd, har, hsh⟩ := h.2.2.2.2 d hdM
      have hb : aB (Int32.ofNat (128 * f + A.length)) 1152 := aB_of (by omega) (by omega)
      have ej : jN (Int32.ofNat (128 * f + A.length)) = 128 * f + A.length := jN_of (by omega)
      have row : ∀ s1, ch wrA s s1 → ∀ w, w < 9 → sI s1 (128 + w) (128 * f + A.length) = d w := fun s1 c1 w hw => (h.of c1).row hM1 w hw
      have r0 : ∀ s1, ch wrA s s1 → sI s1 128 (128 * f + A.length) = d 0 := fun s1 c1 => row s1 c1 0 (by decide)
      have hA1 : (A ++ [d]).length = A.length + 1 := by rw [List.length_append]; rfl
      have hM2 : M = (A ++ [d]) ++ (R ++ B) := by rw [hM1, List.append_assoc]; rfl
      have eN : Int32.ofNat (128 * f + A.length) + 1 = Int32.ofNat (128 * f + (A ++ [d]).length) := by
        rw [hA1, ofNat_succ (by omega)]
        rfl
      have eE : 128 * f + A.length + (R.length + 1) = 128 * f + (A ++ [d]).length + R.length := by rw [hA1]; omega
      have hNM : NM s f (128 * f + A.length) (d 0) (l A.length) := by
        have hi : A.length < M.length := by omega
        have := h.2.1 A.length hi
        have e9 : M[A.length] = d := by
          have : M[A.length]? = some d := by
            rw [hM1, List.getElem?_append_right (Nat.le_refl _), Nat.sub_self]
            rfl
          rw [List.getElem?_eq_getElem hi] at this
          exact Option.some.inj this
        rw [e9] at this
        exact this
      simp only [List.length_cons]
      rw [eE, dm233, nx_eq, if_pos hb]
      simp only [ej, r0 s (ch.refl _ s)]
      by_cases c7 : d 0 = 7
      · rw [if_pos c7]
        refine (w234 (by omega) (by omega) (hNM.1 (Or.inr (Or.inr c7)))).v fun s1 c1 => Wv.t c1 ?_
        refine (w235 _ s1).v fun s2 c2 => Wv.t c2 ?_
        have loop : ∀ (m k N : Nat) (A2 R2 : List Nd) (s3 : aS), ch wrA s s3 → ft R2 m → k + m = arN d → R2.length ≤ n → M = A2 ++ (R2 ++ B) → m < N → Wv (dm233_21 (dm233 n) N (Int32.ofNat f) (Int32.ofNat (128 * f + A.length)) (Int32.ofNat (128 * f + A2.length)) (Int32.ofNat k) s3) s3 (Int32.ofNat (128 * f + A2.length + R2.length)) := by
          have hk : d 1 = Int32.ofNat (arN d) := ofNat_of har.2.2.2.2.1
          have hk8 := har.2.2.2.2.2
          have hk9 : arN d ≤ 128 := by unfold arN; omega
          intro m
          induction m with
          | zero =>
            intro k N A2 R2 s3 c3 hR2 hkm hn2 hM3 hN
            obtain ⟨N, rfl⟩ : ∃ q, N = q + 1 := ⟨N - 1, by omega⟩
            have e0 := ft_0 hR2
            subst e0
            have r1 : sI s3 129 (128 * f + A.length) = Int32.ofNat (arN d) := (row s3 c3 1 (by decide)).trans hk
            rw [dm233_21, if_pos hb, ej, r1, if_pos ((nle_iff (by omega) (by omega)).mpr (by omega))]
            exact (w235 _ s3).v fun s4 c4 => Wv.s c4
          | succ m ihm =>
            intro k N A2 R2 s3 c3 hR2 hkm hn2 hM3 hN
            obtain ⟨N, rfl⟩ : ∃ q, N = q + 1 := ⟨N - 1, by omega⟩
            have r1 : sI s3 129 (128 * f + A.length) = Int32.ofNat (arN d) := (row s3 c3 1 (by decide)).trans hk
            obtain ⟨T1, R3, e1, t1, t2⟩ := ft_sp R2 1 m (by rw [Nat.add_comm]; exact hR2)
            subst e1
            simp only [List.length_append] at hn2
            have h32 : ∀ s4, ch wrA s s4 → Wv (dm233_32 (dm233 n) (dm233_21 (dm233 n) N) (Int32.ofNat f) (Int32.ofNat (128 * f + A.length)) (Int32.ofNat (128 * f + A2.length)) (Int32.ofNat k) s4) s4 (Int32.ofNat (128 * f + A2.length + (T1 ++ R3).length)) := by
              intro s4 c4
              unfold dm233_32
              refine (ih T1 A2 (R3 ++ B) s4 (h.of c4) t1 (by omega) (by rw [hM3, List.append_assoc])).v fun s5 c5 => Wv.t c5 ?_
              have := ihm (k + 1) N (A2 ++ T1) R3 s5 (c4.trans c5) t2 (by omega) (by omega) (by rw [hM3, List.append_assoc, List.append_assoc]) (by omega)
              rw [List.length_append, ← Nat.add_assoc] at this
              rw [ofNat_succ (by omega), List.length_append, ← Nat.add_assoc]
              exact this
            rw [dm233_21, if_pos hb, ej, r1, if_neg (fun q => by have := (nle_iff (by omega) (by omega)).mp q; omega)]
            split
            · exact h32 s3 c3
            · exact (w235 _ s3).v fun s4 c4 => Wv.t c4 (h32 s4 (c3.trans c4))
        rw [eN]
        have hk8 := har.2.2.2.2.2
        exact loop (arN d) 0 5000 (A ++ [d]) R s2 (c1.trans c2) hR (by omega) (by omega) hM2 (by unfold arN; omega)
      · rw [if_neg c7]
        have one : arN d = 1 → ∀ x3 s1, ch wrA s s1 → Wv (dm236 (dm233 n) (Int32.ofNat f) (Int32.ofNat (128 * f + A.length) + 1) x3 s1) s1 (Int32.ofNat (128 * f + (A ++ [d]).length + R.length)) := by
          intro h1 x3 s1 c1
          rw [h1] at hR
          rw [eN]
          have hRl : 1 ≤ R.length := by
            cases R with
            | nil => exact absurd hR (by show ¬ (1 : Nat) = 0; decide)
            | cons a b => simp only [List.length_cons]; omega
          exact w236 (by rw [hA1]; omega) fun s2 c2 => ih R (A ++ [d]) B s2 (h.of (c1.trans c2)) hR (by omega) hM2
        by_cases c9 : d 0 = 9
        · rw [if_pos c9]
          have h1 : arN d = 1 := by unfold arN; rw [har.2.1 (Or.inl c9)]; rfl
          exact (one h1 7 s (ch.refl _ s)).v fun s1 c1 => Wv.t c1 ((w235 _ s1).v fun s2 c2 => Wv.s c2)
        · rw [if_neg c9]
          by_cases c10 : d 0 = 10
          · rw [if_pos c10]
            have h1 : arN d = 1 := by unfold arN; rw [har.2.1 (Or.inr c10)]; rfl
            refine (w235 _ s).v fun s1 c1 => Wv.t c1 ?_
            exact (one h1 6 s1 c1).v fun s2 c2 => Wv.s c2
          · rw [if_neg c10]
            have l11 : d 0 < 11 ↔ (d 0).toInt < 11 := iLt
            by_cases c11 : d 0 < 11
            · rw [if_pos c11]
              have c11 := l11.mp c11
              have h1 : arN d = 0 := by
                unfold arN
                rw [har.2.2.2.1 (by rintro (q | q | q | q); exact c7 q; exact c9 q; exact c10 q; omega)]
                rfl
              rw [h1] at hR
              have e0 := ft_0 hR
              subst e0
              have eE2 : 128 * f + (A ++ [d]).length + ([] : List Nd).length = 128 * f + A.length + 1 := by rw [hA1]; rfl
              rw [eE2]
              have fin : ∀ s1, Wv (dm233_231 (dm233 n) (Int32.ofNat (128 * f + A.length)) s1) s1 (Int32.ofNat (128 * f + A.length + 1)) := fun s1 => by
                unfold dm233_231
                rw [ofNat_succ (by omega)]
                exact Wv.s (ch.refl _ s1)
              by_cases c2 : d 0 = 2
              · rw [if_pos c2]
                exact w233e (by omega) 8 0 5000 s (ch.refl _ s) (by omega) (by omega)
              · rw [if_neg c2]
                by_cases c3 : d 0 = 3
                · rw [if_pos c3]
                  unfold dm233_147 dm233_157
                  simp only [if_pos hb, ej]
                  split
                  · exact w233t (by omega) 4 5000 s (by omega) (by omega)
                  · exact w233t (by omega) 5 5000 s (by omega) (by omega)
                · rw [if_neg c3]
                  have cell : isRf d → Wv (dm233_179 (dm233 n) (Int32.ofNat (128 * f + A.length)) (d 0) s) s (Int32.ofNat (128 * f + A.length + 1)) := by
                    intro hrf
                    obtain ⟨q1, q2, q3, q4, q5, q6, q7⟩ := hnd.2.2.2.1 hrf
                    have p1 : 0 ≤ (d 3).toInt ∧ (d 3).toInt ≤ 1048576 := by
                      have q2 : 1 ≤ (d 3).toInt ∧ (d 3).toInt ≤ (1048576 : Int32).toInt := q2
                      have : (1048576 : Int32).toInt = 1048576 := by decide
                      omega
                    have p2 : 0 ≤ (d 5).toInt ∧ (d 5).toInt ≤ 1048576 := by
                      have q3 : 1 ≤ (d 5).toInt ∧ (d 5).toInt ≤ (1048576 : Int32).toInt := q3
                      have : (1048576 : Int32).toInt = 1048576 := by decide
                      omega
                    have z2 := row s (ch.refl _ s) 2 (by decide)
                    unfold dm233_179
                    simp only [if_pos hb, ej]
                    rw [show sI s 130 (128 * f + A.length) = d 2 from z2]
                    refine (w238 h.2.2.1 h.2.2.2.1 ⟨hnd.1.1, hsh⟩).v fun s1 c1 => Wv.t c1 ?_
                    rw [show sI s1 131 (128 * f + A.length) = d 3 from row s1 c1 3 (by decide)]
                    refine (w241 p1 s1).v fun s2 c2 => Wv.t c2 ?_
                    split
                    · refine (w235 _ s2).v fun s3 c3 => Wv.t c3 ?_
                      rw [show sI s3 133 (128 * f + A.length) = d 5 from row s3 ((c1.trans c2).trans c3) 5 (by decide)]
                      exact (w241 p2 s3).v fun s4 c4 => Wv.t c4 (fin s4)
                    · exact fin s2
                  by_cases c4 : d 0 = 4
                  · rw [if_pos c4]
                    exact cell (Or.inl c4)
                  · rw [if_neg c4]
                    by_cases c5 : d 0 = 5
                    · rw [if_pos c5]
                      exact cell (Or.inr c5)
                    · rw [if_neg c5]
                      by_cases c8 : d 0 = 8
                      · rw [if_pos c8]
                        exact fin s
                      · rw [if_neg c8]
                        have key : Wt (dm234 (Int32.ofNat f) (Int32.ofNat (128 * f + A.length)) s) s := by
                          by_cases c1 : d 0 = 1
                          · exact w234 (by omega) (by omega) (hNM.2.1 c1)
                          · refine w234 (by omega) (by omega) (hNM.1 ?_)
                            have g1 := har.1
                            have t : ∀ k : Nat, k ≤ 10 → ¬ d 0 = Int32.ofNat k → ¬ (d 0).toInt = k := fun k hk q z => q (by rw [iEq, iOfNat (by omega)]; exact z)
                            by_cases c0 : d 0 = 0
                            · exact Or.inl c0
                            · by_cases c6 : d 0 = 6
                              · exact Or.inr (Or.inl c6)
                              · exfalso
                                have := t 0 (by decide) c0
                                have := t 1 (by decide) c1
                                have := t 2 (by decide) c2
                                have := t 3 (by decide) c3
                                have := t 4 (by decide) c4
                                have := t 5 (by decide) c5
                                have := t 6 (by decide) c6
                                have := t 7 (by decide) c7
                                have := t 8 (by decide) c8
                                have := t 9 (by decide) c9
                                have := t 10 (by decide) c10
                                omega
                        exact key.v fun s1 c1 => Wv.t c1 (fin s1)
            · rw [if_neg c11, d191]
              have c11 : ¬ (d 0).toInt < 11 := fun q => c11 (l11.mpr q)
              have h2 : arN d = 2 := by
                unfold arN
                rw [har.2.2.1 (by omega)]
                rfl
              rw [h2] at hR
              obtain ⟨T1, T2, e1, t1, t2⟩ := ft_sp R 1 1 hR
              subst e1
              simp only [List.length_append] at hn
              have hT1 : 1 ≤ T1.length := by
                cases T1 with
                | nil => exact absurd t1 (by show ¬ (1 : Nat) = 0; decide)
                | cons a b => simp only [List.length_cons]; omega
              have hT2 : 1 ≤ T2.length := by
                cases T2 with
                | nil => exact absurd t2 (by show ¬ (1 : Nat) = 0; decide)
                | cons a b => simp only [List.length_cons]; omega
              rw [List.length_append] at hlen
              obtain ⟨v9, e9⟩ := w237 (d 0)
              rw [e9]
              simp only [bu_some]
              rw [eN]
              refine (w236 (by rw [hA1]; omega) fun s2 c2 => ih T1 (A ++ [d]) (T2 ++ B) s2 (h.of c2) t1 (by omega) (by rw [hM2]; simp only [List.append_assoc])).v fun s1 c1 => Wv.t c1 ?_
              refine (w235 _ s1).v fun s2 c2 => Wv.t c2 ?_
              have h104 : ∀ x4 s3, ch wrA s s3 → Wv (dm233_104 (dm233 n) (Int32.ofNat f) x4 (Int32.ofNat (128 * f + (A ++ [d]).length + T1.length)) s3) s3 (Int32.ofNat (128 * f + (A ++ [d]).length + (T1 ++ T2).length)) := by
                intro x4 s3 c3
                unfold dm233_104
                have e2 : 128 * f + (A ++ [d]).length + T1.length = 128 * f + ((A ++ [d]) ++ T1).length := by
                  rw [List.length_append (as := A ++ [d])]
                  omega
                have e3 : 128 * f + (A ++ [d]).length + (T1 ++ T2).length = 128 * f + ((A ++ [d]) ++ T1).length + T2.length := by
                  rw [List.length_append (as := A ++ [d]), List.length_append (as := T1)]
                  omega
                rw [e2, e3]
                exact (w236 (by rw [List.length_append (as := A ++ [d]), hA1]; omega) fun s4 c4 => ih T2 ((A ++ [d]) ++ T1) B s4 (h.of (c3.trans c4)) t2 (by omega) (by rw [hM2]; simp only [List.append_assoc])).v fun s4 c4 => Wv.s c4
              have h98 : ∀ x4 s3, ch wrA s s3 → Wv (dm233_98 (dm233 n) (Int32.ofNat f) (d 0) x4 (Int32.ofNat (128 * f + (A ++ [d]).length + T1.length)) s3) s3 (Int32.ofNat (128 * f + (A ++ [d]).length + (T1 ++ T2).length)) := by
                intro x4 s3 c3
                unfold dm233_98
                split
                · exact h104 x4 s3 c3
                · exact (w235 _ s3).v fun s4 c4 => Wv.t c4 (h104 x4 s4 (c3.trans c4))
              split
              · exact (w235 _ s2).v fun s3 c3 => Wv.t c3 (h98 _ s3 ((c1.trans c2).trans c3))
              · exact h98 _ s2 (c1.trans c2)
set_option maxRecDepth 100000 in
/-- the reference's form comes to its end -/
theorem w232 {s : aS} {ns : List (List Int32)} {fs : Nat → Option Fm} {lt : Nat → Nat → List Int32} (hS : SM s ns) (hn : nsOk ns) (h : MM s fs) (hL : MLt s fs lt) (hok : ∀ f h L, fs f = some (h, L) → ft L 1 ∧ ∀ d ∈ L, ndOk d ∧ arOk d ∧ (d 2).toInt < ns.length) (x k : Int32) : ∃ v s', dm232 x k s = some (v, s') ∧ ch (fun a q => a = 121 ∧ (q = 0 ∨ 42 ≤ q)) s s' := by
  unfold dm232 dm232_8
  rcases d225 h x with ⟨e1, e2⟩ | ⟨ho, L, e1, e2, e3, e4, e5⟩
  · rw [e2]
    simp only [bu_some, nx_eq]
    rw [if_neg (by decide), if_neg (show ¬ sI (wI s 121 0 1) 121 0 ≤ 0 by rw [sI_wI, if_pos ⟨rfl, rfl⟩]; decide)]
    exact ⟨_, _, rfl, (ch.refl _ s).wI ⟨rfl, Or.inl rfl⟩⟩
  · rw [e3]
    simp only [bu_some, nx_eq]
    rw [if_pos trivial, if_pos (show sI (wI s 121 0 0) 121 0 ≤ 0 by rw [sI_wI, if_pos ⟨rfl, rfl⟩]; decide)]
    obtain ⟨f, hf⟩ : ∃ f, f = x.toInt.toNat := ⟨_, rfl⟩
    have ex : x = Int32.ofNat f := by rw [hf]; exact ofNat_of e2.1
    have hf8 : f < 8 := by omega
    have hfs : fs f = some (ho, L) := by rw [hf]; exact (fAt_s e1).2
    rw [← hf] at e4
    have hc : ch (fun a q => a = 121 ∧ (q = 0 ∨ 42 ≤ q)) s (wI (wI (wI (wI s 121 0 0) 121 42 0) 121 43 k) 121 44 (-1)) := ((((ch.refl _ s).wI ⟨rfl, Or.inl rfl⟩).wI ⟨rfl, by omega⟩).wI ⟨rfl, by omega⟩).wI ⟨rfl, by omega⟩
    obtain ⟨g1, g2⟩ := hok f ho L hfs
    have hWF : WF (wI (wI (wI (wI s 121 0 0) 121 42 0) 121 43 k) 121 44 (-1)) f L (lt f) ns := by
      refine ⟨e4.of hc (fun a k z => by omega), fun i hi => ?_, ⟨(hc.i (by omega)).trans hS.1, fun i hi => ⟨(hc.i (by omega)).trans (hS.2 i hi).1, fun j hj => (hc.i (by omega)).trans ((hS.2 i hi).2 j hj)⟩⟩, hn, g2⟩
      have := hL f hf8 ho L hfs i hi
      have rl : ∀ w, RL s f (128 * f + i) w → RL (wI (wI (wI (wI s 121 0 0) 121 42 0) 121 43 k) 121 44 (-1)) f (128 * f + i) w := by
        rintro w ⟨st, b1, b2, b3, b4⟩
        exact ⟨st, (hc.i (by omega)).trans b1, (hc.i (by omega)).trans b2, b3, fun j hj => (hc.i (by omega)).trans (b4 j hj)⟩
      exact ⟨fun q => rl _ (this.1 q), fun q => rl _ (this.2.1 q), this.2.2⟩
    have eM : (128 : Int32) * Int32.ofNat f = Int32.ofNat (128 * f + ([] : List Nd).length) := by
      have := i128 (f := f) (i := 0) (by omega) (by omega)
      rw [show Int32.ofNat 0 = 0 from rfl, Int32.add_zero] at this
      exact this
    have hL8 := e4.2.1
    obtain ⟨s', d1, d2⟩ := w233 hf8 400 L [] [] _ hWF g1 (by omega) (by rw [List.append_nil]; rfl)
    rw [ex, eM, d1]
    simp only [bv_some]
    exact ⟨_, s', rfl, hc.trans (d2.mono fun a k z => by unfold wrA at z; omega)⟩
