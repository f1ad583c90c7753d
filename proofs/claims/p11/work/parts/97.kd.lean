/-! the reader of FormulaTrees, exactly: signs, spaces, digits, letters held -/
set_option maxRecDepth 100000 in
theorem gd_eq {t : List Int32} {j : Nat} {c : Int32} (h1 : c ≠ -1) (h0 : c ≠ 0) : t.getD j (-1) = c ↔ t.getD j 0 = c := by
  by_cases hj : j < t.length
  · rw [getD_in hj, getD_in hj]
  · have e : ∀ d : Int32, t.getD j d = d := fun d => by simp [List.getD, List.getElem?_eq_none (Nat.le_of_not_lt hj)]
    rw [e, e]
    exact ⟨fun q => absurd q.symm h1, fun q => absurd q.symm h0⟩
set_option maxRecDepth 100000 in
theorem gd_p {t : List Int32} {j : Nat} {p : Int32 → Prop} (h1 : ¬ p (-1)) (h0 : ¬ p 0) : p (t.getD j (-1)) ↔ p (t.getD j 0) := by
  by_cases hj : j < t.length
  · rw [getD_in hj, getD_in hj]
  · have e : ∀ d : Int32, t.getD j d = d := fun d => by simp [List.getD, List.getElem?_eq_none (Nat.le_of_not_lt hj)]
    rw [e, e]
    exact ⟨fun q => absurd q h1, fun q => absurd q h0⟩
set_option maxRecDepth 100000 in
theorem gd_in {t : List Int32} {j : Nat} (h : j < t.length) : t.getD j (-1) = t.getD j 0 := by rw [getD_in h, getD_in h]
section XX
variable {s s1 : aS} {b : Nat} {t : List Int32} {ns : List (List Int32)}
set_option maxRecDepth 100000 in
theorem x34 (h : KS s b t ns) {j : Nat} (hj : j < 100000) : dm34 79 (Int32.ofNat j) s = some (t.getD j (-1)) := d34 h.1.1 (by show t.length ≤ (sT s 80).2; rw [h.1.2.2.2]; exact h.1.2.1) (by have := h.1.2.1; omega) (by omega)
set_option maxRecDepth 100000 in
theorem x28 (h : KS s b t ns) : dm28 79 s = some (Int32.ofNat t.length) := by
  unfold dm28
  rw [h.1.1.n]
set_option maxRecDepth 100000 in
theorem xtr (h : KS s b t ns) {β : Type} {x : Option β} {f : Nat → Option β} : vN (sR s 106 6) x f = f b ∧ aK s b 3 := by
  rw [h.2.1.1]
  exact ⟨rfl, h.2.1.2.1⟩
def a7 (a k : Nat) : Prop := a = 106 ∧ k = 7
set_option maxRecDepth 100000 in
theorem a7C {a k : Nat} (h : a7 a k) : AC b a k := by unfold a7 at h; unfold AC; omega
set_option maxRecDepth 100000 in
/-- spaces -/
theorem x67 (h : KS s b t ns) {i : Nat} (hi : i ≤ t.length) (h7 : sI s 106 7 = Int32.ofNat i) : ∃ s', dm67 s = some s' ∧ sI s' 106 7 = Int32.ofNat (skS t i) ∧ ch a7 s s' := by
  have hl := h.1.2.1
  have loop : ∀ (m i n : Nat) (s : aS), KS s b t ns → sI s 106 7 = Int32.ofNat i → i + m = t.length → m < n → ∃ s', dm67_0 n s = some s' ∧ sI s' 106 7 = Int32.ofNat (skS t i) ∧ ch a7 s s' := by
    intro m
    induction m with
    | zero =>
      intro i n s h h7 h1 h2
      obtain ⟨n, rfl⟩ : ∃ q, n = q + 1 := ⟨n - 1, by omega⟩
      rw [dm67_0, x28 h]
      simp only [bu_some]
      rw [h7, if_pos ((nle_iff (by omega) (by omega)).mpr (by omega))]
      have e : skS t i = i := by
        have := cnt_b (p := spP) (t := t) (i := i)
        unfold skS
        omega
      exact ⟨s, rfl, by rw [e]; exact h7, ch.refl _ s⟩
    | succ m ih =>
      intro i n s h h7 h1 h2
      obtain ⟨n, rfl⟩ : ∃ q, n = q + 1 := ⟨n - 1, by omega⟩
      rw [dm67_0, x28 h]
      simp only [bu_some]
      rw [h7, if_neg (fun q => by have := (nle_iff (by omega) (by omega)).mp q; omega), x34 h (by omega)]
      simp only [bu_some]
      by_cases c : t.getD i (-1) = 32
      · rw [if_pos c, ofNat_succ (by omega), nx_eq]
        have g : ch a7 s (wI s 106 7 (Int32.ofNat (i + 1))) := (ch.refl _ s).wI ⟨rfl, rfl⟩
        obtain ⟨s', k1, k2, k3⟩ := ih (i + 1) n (wI s 106 7 (Int32.ofNat (i + 1))) (h.of (g.mono fun a k z => a7C z)) (by rw [sI_wI, if_pos ⟨rfl, rfl⟩]) (by omega) (by omega)
        have e : skS t (i + 1) = skS t i := by
          have := (cnt_y (p := spP) (d := -1) (by unfold spP; decide) c).2
          unfold skS
          omega
        exact ⟨s', k1, by rw [k2, e], g.trans k3⟩
      · rw [if_neg c]
        have e : skS t i = i := by
          have := cnt_n (p := spP) (t := t) (i := i) (d := -1) c
          unfold skS
          omega
        exact ⟨s, rfl, by rw [e]; exact h7, ch.refl _ s⟩
  exact loop (t.length - i) i 5000 s h h7 (by omega) (by omega)
set_option maxRecDepth 100000 in
/-- digits -/
noncomputable def ndM (t : List Int32) (i m : Nat) : Nat := if nd1 t i ≤ m then nd1 t i else m
set_option maxRecDepth 100000 in
theorem x121 (h : KS s b t ns) {i mx : Nat} (hi : i ≤ t.length) (hm : mx ≤ 256) (h7 : sI s 106 7 = Int32.ofNat i) : ∃ s', dm121 (Int32.ofNat mx) s = some (Int32.ofNat (ndM t i mx), s') ∧ sI s' 106 7 = Int32.ofNat (i + ndM t i mx) ∧ ch a7 s s' := by
  have hl := h.1.2.1
  have loop : ∀ (m i c n : Nat) (s : aS), KS s b t ns → sI s 106 7 = Int32.ofNat i → i ≤ t.length → c + m = mx → m < n → ∃ s', dm121_2 n (Int32.ofNat mx) (Int32.ofNat c) s = some (Int32.ofNat (c + ndM t i m), s') ∧ sI s' 106 7 = Int32.ofNat (i + ndM t i m) ∧ ch a7 s s' := by
    intro m
    induction m with
    | zero =>
      intro i c n s h h7 hi h1 h2
      obtain ⟨n, rfl⟩ : ∃ q, n = q + 1 := ⟨n - 1, by omega⟩
      have e : ndM t i 0 = 0 := by
        unfold ndM
        split <;> omega
      rw [dm121_2, if_pos ((nle_iff (by omega) (by omega)).mpr (by omega)), e]
      exact ⟨s, rfl, h7, ch.refl _ s⟩
    | succ m ih =>
      intro i c n s h h7 hi h1 h2
      obtain ⟨n, rfl⟩ : ∃ q, n = q + 1 := ⟨n - 1, by omega⟩
      rw [dm121_2, if_neg (fun q => by have := (nle_iff (by omega) (by omega)).mp q; omega), h7, x34 h (by omega)]
      simp only [bu_some]
      rw [d47]
      simp only [bu_some]
      by_cases c1 : isD (t.getD i (-1))
      · rw [b01_t c1, if_neg (by decide), ofNat_succ (by omega), ofNat_succ (by omega), nx_eq]
        obtain ⟨q1, q2⟩ := cnt_y (p := isD) (d := -1) isDm c1
        have g : ch a7 s (wI s 106 7 (Int32.ofNat (i + 1))) := (ch.refl _ s).wI ⟨rfl, rfl⟩
        obtain ⟨s', k1, k2, k3⟩ := ih (i + 1) (c + 1) n (wI s 106 7 (Int32.ofNat (i + 1))) (h.of (g.mono fun a k z => a7C z)) (by rw [sI_wI, if_pos ⟨rfl, rfl⟩]) (by omega) (by omega) (by omega)
        have e : ndM t i (m + 1) = ndM t (i + 1) m + 1 := by
          unfold ndM nd1
          rw [q2]
          split <;> split <;> omega
        rw [e, show c + (ndM t (i + 1) m + 1) = c + 1 + ndM t (i + 1) m by omega, show i + (ndM t (i + 1) m + 1) = i + 1 + ndM t (i + 1) m by omega]
        exact ⟨s', k1, k2, g.trans k3⟩
      · rw [b01_f c1, if_pos rfl]
        have e : ndM t i (m + 1) = 0 := by
          have := cnt_n (p := isD) (t := t) (i := i) (d := -1) c1
          unfold ndM nd1
          rw [this]
          split <;> omega
        rw [e]
        exact ⟨s, rfl, h7, ch.refl _ s⟩
  have := loop mx i 0 5000 s h h7 hi (by omega) (by omega)
  rw [Nat.zero_add] at this
  exact this
/-- letters held -/
def aH (a k : Nat) : Prop := (a = 107 ∧ k = 1) ∨ a = 108
set_option maxRecDepth 100000 in
theorem aHC {a k : Nat} (h : aH a k) : AC b a k := by unfold aH at h; unfold AC; omega
set_option maxRecDepth 100000 in
theorem xHadd {hd : List Int32} {x : Int32} (h : KS s b t ns) (hh : HH s hd) (hl : hd.length < 256) (hx : 32 ≤ x.toInt ∧ x.toInt ≤ 126) : ∃ s', dm29 107 x s = some s' ∧ HH s' (hd ++ [x]) ∧ ch aH s s' := by
  obtain ⟨s', e1, e2, e3⟩ := hh.1.add (m := 256) (x := x) h.2.1.2.2.2.2 (by decide) hl ⟨by omega, by omega⟩
  refine ⟨s', e1, ⟨e2, by rw [List.length_append]; show hd.length + 1 ≤ 256; omega, fun y hy => ?_⟩, e3.mono fun a k z => by unfold aH; omega⟩
  rcases List.mem_append.mp hy with q | q
  · exact hh.2.2 y q
  · rw [List.mem_singleton.mp q]
    exact hx
set_option maxRecDepth 100000 in
theorem xHclr (s : aS) : ∃ s', dm26 107 s = some s' ∧ HH s' [] ∧ ch aH s s' := ⟨_, rfl, ⟨⟨by rw [sI_wI, if_pos ⟨rfl, rfl⟩]; rfl, fun j hj => absurd hj (Nat.not_lt_zero j)⟩, Nat.zero_le _, fun y hy => (by cases hy)⟩, (ch.refl _ s).wI (Or.inl ⟨rfl, rfl⟩)⟩
set_option maxRecDepth 100000 in
theorem sl_cons {k e : Nat} (h : k < e) (he : e ≤ t.length) : sl t k e = t.getD k (-1) :: sl t (k + 1) e := by
  unfold sl
  rw [List.drop_eq_getElem_cons (show k < t.length by omega), show e - k = (e - (k + 1)) + 1 by omega, List.take_succ_cons, getD_in (show k < t.length by omega)]
set_option maxRecDepth 100000 in
theorem sl_nil {k : Nat} : sl t k k = [] := by
  unfold sl
  rw [Nat.sub_self, List.take_zero]
set_option maxRecDepth 100000 in
theorem x122 (h : KS s b t ns) {f e : Nat} (hf : f ≤ e) (he : e ≤ t.length) : ∃ s', dm122 (Int32.ofNat f) (Int32.ofNat e) s = some s' ∧ HH s' ((sl t f e).map gr) ∧ ch aH s s' := by
  have hl := h.1.2.1
  have loop : ∀ (m k n : Nat) (s : aS) (w : List Int32), KS s b t ns → HH s w → w.length ≤ k → k + m = e → m < n → ∃ s', dm122_5 n (Int32.ofNat e) (Int32.ofNat k) s = some s' ∧ HH s' (w ++ (sl t k e).map gr) ∧ ch aH s s' := by
    intro m
    induction m with
    | zero =>
      intro k n s w h hh hw h1 h2
      obtain ⟨n, rfl⟩ : ∃ q, n = q + 1 := ⟨n - 1, by omega⟩
      have hk : k = e := by omega
      subst hk
      rw [dm122_5, if_pos ((nle_iff (by omega) (by omega)).mpr (by omega)), sl_nil]
      refine ⟨s, rfl, ?_, ch.refl _ s⟩
      rw [List.map_nil, List.append_nil]
      exact hh
    | succ m ih =>
      intro k n s w h hh hw h1 h2
      obtain ⟨n, rfl⟩ : ∃ q, n = q + 1 := ⟨n - 1, by omega⟩
      have ho := okg (okc (t := t) h.1.2.2.1 (show k < t.length by omega))
      obtain ⟨s2, a1, a2, a3⟩ := xHadd (x := gr (t.getD k (-1))) h hh (by omega) ho
      rw [dm122_5, if_neg (fun q => by have := (nle_iff (by omega) (by omega)).mp q; omega), x34 h (by omega)]
      simp only [bu_some, d35]
      rw [a1]
      simp only [bu_some]
      rw [ofNat_succ (by omega)]
      obtain ⟨s3, k1, k2, k3⟩ := ih (k + 1) n s2 (w ++ [gr (t.getD k (-1))]) (h.of (a3.mono fun a k z => aHC z)) a2 (by rw [List.length_append]; show w.length + 1 ≤ k + 1; omega) (by omega) (by omega)
      refine ⟨s3, k1, ?_, a3.trans k3⟩
      rw [sl_cons (show k < e by omega) he, List.map_cons]
      rw [List.append_assoc] at k2
      exact k2
  obtain ⟨s1, c1, c2, c3⟩ := xHclr s
  unfold dm122
  rw [c1]
  simp only [bu_some]
  obtain ⟨s2, k1, k2, k3⟩ := loop (e - f) f 5000 s1 [] (h.of (c3.mono fun a k z => aHC z)) c2 (Nat.zero_le _) (by omega) (by omega)
  exact ⟨s2, k1, k2, c3.trans k3⟩
/-- what stands in quotes -/
def aQ (a k : Nat) : Prop := (a = 106 ∧ k = 7) ∨ (a = 107 ∧ k = 1) ∨ a = 108
set_option maxRecDepth 100000 in
theorem aQC {a k : Nat} (h : aQ a k) : AC b a k := by unfold aQ at h; unfold AC; omega
set_option maxRecDepth 100000 in
theorem x105l {q : Int32} (hq0 : q ≠ 0) (hqm : q ≠ -1) : ∀ (m j n : Nat) (s : aS) (w : List Int32), KS s b t ns → sI s 106 7 = Int32.ofNat j → HH s w → w.length + 1 ≤ j → j ≤ t.length → t.length < j + m → m + 1 < n → (qtG t q m j = none ∧ ∃ s' e, dm105_11 n q 0 s = some (0, s') ∧ sI s' 106 7 = Int32.ofNat e ∧ e ≤ t.length ∧ ch aQ s s') ∨ ∃ u e s', qtG t q m j = some (u, e) ∧ dm105_11 n q 0 s = some (1, s') ∧ HH s' (w ++ u) ∧ sI s' 106 7 = Int32.ofNat e ∧ e ≤ t.length ∧ j < e ∧ u.length + j + 1 ≤ e ∧ ch aQ s s' := by
  intro m
  induction m with
  | zero =>
    intro j n s w h h7 hh hw hj hm hn
    omega
  | succ m ih =>
    intro j n s w h h7 hh hw hj hm hn
    have hl := h.1.2.1
    obtain ⟨n, rfl⟩ : ∃ k, n = k + 2 := ⟨n - 2, by omega⟩
    rw [dm105_11, x28 h]
    simp only [bu_some]
    rw [h7]
    unfold qtG
    by_cases c0 : t.length ≤ j
    · left
      rw [if_pos c0, if_pos ((nle_iff (by omega) (by omega)).mpr c0), if_pos (Or.inl trivial)]
      exact ⟨rfl, s, j, rfl, h7, hj, ch.refl _ s⟩
    · rw [if_neg c0, if_neg (fun z => c0 ((nle_iff (by omega) (by omega)).mp z)), if_pos trivial, x34 h (by omega)]
      simp only [bu_some]
      have ex : t.getD j 0 = t.getD j (-1) := (gd_in (by omega)).symm
      have ho := okc (t := t) h.1.2.2.1 (show j < t.length by omega)
      -- a letter is kept, and j goes on by d
      have keep : ∀ (d : Nat), 1 ≤ d → d ≤ 2 → j + d ≤ t.length → ∃ s2, dm29 107 (t.getD j (-1)) s = some s2 ∧ KS (wI s2 106 7 (Int32.ofNat (j + d))) b t ns ∧ HH (wI s2 106 7 (Int32.ofNat (j + d))) (w ++ [t.getD j (-1)]) ∧ ch aQ s (wI s2 106 7 (Int32.ofNat (j + d))) ∧ sI s2 106 7 = Int32.ofNat j := by
        intro d h1 h2 h3
        obtain ⟨s2, a1, a2, a3⟩ := xHadd h hh (by omega) ho
        have g : ch aQ s (wI s2 106 7 (Int32.ofNat (j + d))) := (a3.mono fun a k z => by unfold aH at z; unfold aQ; omega).wI (Or.inl ⟨rfl, rfl⟩)
        refine ⟨s2, a1, h.of (g.mono fun a k z => aQC z), ⟨a2.1.of (A := fun a k => a = 106 ∧ k = 7) ((ch.refl _ s2).wI ⟨rfl, rfl⟩) (by omega) (fun k => by omega), a2.2⟩, g, (a3.i (by unfold aH; omega)).trans h7⟩
      by_cases c1 : t.getD j (-1) = q
      · rw [if_pos c1, ex, if_pos c1]
        unfold dm105_29
        rw [if_neg (show ¬ (1 : Int32) = 0 by decide), h7, ofNat_succ (by omega), x34 h (by omega)]
        simp only [bu_some]
        by_cases c2 : t.getD (j + 1) (-1) = q
        · have c3 : t.getD (j + 1) 0 = q := (gd_eq hqm hq0).mp c2
          have hj2 : j + 1 < t.length := by
            refine Classical.byContradiction fun z => hq0 ?_
            have : t.getD (j + 1) 0 = 0 := by simp [List.getD, List.getElem?_eq_none (Nat.le_of_not_lt z)]
            rw [← c3, this]
          rw [if_pos c2, if_pos c3]
          unfold dm105_43 dm105_44
          rw [if_pos rfl, h7, x34 h (by omega)]
          simp only [bu_some]
          obtain ⟨s2, k1, k2, k3, k4, k5⟩ := keep 2 (by omega) (by omega) (by omega)
          rw [k1]
          simp only [bu_some]
          unfold dm105_55 dm105_65
          rw [if_neg (show ¬ (1 : Int32) = 0 by decide), if_pos rfl, k5, nx_eq, show Int32.ofNat j + 2 = Int32.ofNat (j + 2) from iSum (i := j) (j := 2) (by omega) (by omega)]
          rcases ih (j + 2) (n + 1) _ _ k2 (by rw [sI_wI, if_pos ⟨rfl, rfl⟩]) k3 (by rw [List.length_append]; show w.length + 1 + 1 ≤ j + 2; omega) (by omega) (by omega) (by omega) with ⟨e1, s', e, f1, f8, f9, f2⟩ | ⟨u, e, s', e1, f1, f2, f3, f4, f5, f6, f7⟩
          · left
            rw [e1]
            exact ⟨rfl, s', e, f1, f8, f9, k4.trans f2⟩
          · right
            rw [e1]
            refine ⟨q :: u, e, s', rfl, f1, ?_, f3, f4, by omega, by rw [List.length_cons]; omega, k4.trans f7⟩
            rw [List.append_assoc, c1] at f2
            exact f2
        · have c3 : ¬ t.getD (j + 1) 0 = q := fun z => c2 ((gd_eq hqm hq0).mpr z)
          rw [if_neg c2, if_neg c3]
          unfold dm105_44
          rw [if_neg (show ¬ (1 : Int32) = 0 by decide)]
          unfold dm105_55 dm105_64 dm105_65
          rw [if_neg (show ¬ (1 : Int32) = 0 by decide), if_neg (show ¬ (1 : Int32) = 0 by decide), h7, nx_eq, ofNat_succ (by omega)]
          have g : ch aQ s (wI s 106 7 (Int32.ofNat (j + 1))) := (ch.refl _ s).wI (Or.inl ⟨rfl, rfl⟩)
          have K := h.of (b := b) (g.mono fun a k z => aQC z)
          right
          refine ⟨[], j + 1, wI s 106 7 (Int32.ofNat (j + 1)), rfl, ?_, ?_, by rw [sI_wI, if_pos ⟨rfl, rfl⟩], by omega, by omega, by show 0 + j + 1 ≤ j + 1; omega, g⟩
          · rw [dm105_11, x28 K]
            simp only [bu_some]
            rw [if_neg (show ¬ (1 : Int32) = 0 by decide), if_pos (show (1 : Int32) = 0 ∨ True from Or.inr trivial), ite_self]
          · rw [List.append_nil]
            exact ⟨hh.1.of (A := fun a k => a = 106 ∧ k = 7) ((ch.refl _ s).wI ⟨rfl, rfl⟩) (by omega) (fun k => by omega), hh.2⟩
      · rw [if_neg c1, ex, if_neg c1]
        unfold dm105_29 dm105_43 dm105_44
        rw [if_pos rfl, if_pos rfl, h7, x34 h (by omega)]
        simp only [bu_some]
        obtain ⟨s2, k1, k2, k3, k4, k5⟩ := keep 1 (by omega) (by omega) (by omega)
        rw [k1]
        simp only [bu_some]
        unfold dm105_55 dm105_64 dm105_65
        rw [if_pos rfl, k5, nx_eq, ofNat_succ (by omega)]
        rcases ih (j + 1) (n + 1) _ _ k2 (by rw [sI_wI, if_pos ⟨rfl, rfl⟩]) k3 (by rw [List.length_append]; show w.length + 1 + 1 ≤ j + 1; omega) (by omega) (by omega) (by omega) with ⟨e1, s', e, f1, f8, f9, f2⟩ | ⟨u, e, s', e1, f1, f2, f3, f4, f5, f6, f7⟩
        · left
          rw [e1]
          exact ⟨rfl, s', e, f1, f8, f9, k4.trans f2⟩
        · right
          rw [e1]
          refine ⟨t.getD j (-1) :: u, e, s', rfl, f1, ?_, f3, f4, by omega, by rw [List.length_cons]; omega, k4.trans f7⟩
          rw [List.append_assoc] at f2
          exact f2
set_option maxRecDepth 100000 in
theorem x105 {q : Int32} {i : Nat} (hq0 : q ≠ 0) (hqm : q ≠ -1) (h : KS s b t ns) (h7 : sI s 106 7 = Int32.ofNat i) (hi : i < t.length) : (qtA t q i = none ∧ ∃ s' e, dm105 q s = some (0, s') ∧ sI s' 106 7 = Int32.ofNat e ∧ e ≤ t.length ∧ ch aQ s s') ∨ ∃ u e s', qtA t q i = some (u, e) ∧ dm105 q s = some (1, s') ∧ HH s' u ∧ sI s' 106 7 = Int32.ofNat e ∧ e ≤ t.length ∧ u.length + i + 2 ≤ e ∧ ch aQ s s' := by
  have hl := h.1.2.1
  obtain ⟨s1, c1, c2, c3⟩ := xHclr s
  have e7 : sI s1 106 7 = Int32.ofNat i := (c3.i (by unfold aH; omega)).trans h7
  have g : ch aQ s (wI s1 106 7 (Int32.ofNat (i + 1))) := (c3.mono fun a k z => by unfold aH at z; unfold aQ; omega).wI (Or.inl ⟨rfl, rfl⟩)
  unfold dm105 qtA
  rw [c1]
  simp only [bu_some]
  rw [e7, ofNat_succ (by omega), nx_eq]
  have hh : HH (wI s1 106 7 (Int32.ofNat (i + 1))) [] := ⟨c2.1.of (A := fun a k => a = 106 ∧ k = 7) ((ch.refl _ s1).wI ⟨rfl, rfl⟩) (by omega) (fun k => by omega), c2.2⟩
  rcases x105l hq0 hqm 300 (i + 1) 5000 (wI s1 106 7 (Int32.ofNat (i + 1))) [] (h.of (g.mono fun a k z => aQC z)) (by rw [sI_wI, if_pos ⟨rfl, rfl⟩]) hh (by show 0 + 1 ≤ i + 1; omega) (by omega) (by omega) (by omega) with ⟨e1, s', e, f1, f8, f9, f2⟩ | ⟨u, e, s', e1, f1, f2, f3, f4, f5, f6, f7⟩
  · exact Or.inl ⟨e1, s', e, f1, f8, f9, g.trans f2⟩
  · exact Or.inr ⟨u, e, s', e1, f1, f2, f3, f4, by omega, g.trans f7⟩
end XX
