/-! the reader of FormulaTrees comes to its end: whole -/
section KK
variable {s0 s : aS} {b i z9 : Nat} {t : List Int32} {ns : List (List Int32)}
set_option maxRecDepth 100000 in
theorem k63l (h0 : KS s0 b t ns) : ∀ (m q n i : Nat) (s : aS), KW s0 s b i i → i ≤ t.length → q + m = 512 → m < n → ∃ v s' j, dm63_26 n (Int32.ofNat q) s = some (v, s') ∧ KW s0 s' b j j ∧ j ≤ t.length := by
  have hb := h0.2.1.2.2.1
  have hl := h0.1.2.1
  have f80 : ∀ (i : Nat) (s : aS), KW s0 s b i i → i ≤ t.length → ∃ v s' j, dm63_80 s = some (v, s') ∧ KW s0 s' b j j ∧ j ≤ t.length := by
    intro i s h hi
    have f92 : ∃ v s' j, dm63_92 s = some (v, s') ∧ KW s0 s' b j j ∧ j ≤ t.length := by
      unfold dm63_92
      rw [klen h0 h]
      simp only [bu_some, nx_eq]
      exact ⟨_, _, i, rfl, KW.fld h hb (by omega), hi⟩
    unfold dm63_80 dm82
    split
    · split
      · exact f92
      · simp only [bu_some]
        split
        · exact ⟨_, s, i, rfl, h, hi⟩
        · exact f92
    · exact ⟨_, s, i, rfl, h, hi⟩
  intro m
  induction m with
  | zero =>
    intro q n i s h hi h1 h2
    obtain ⟨n, rfl⟩ : ∃ q, n = q + 1 := ⟨n - 1, by omega⟩
    have : q = 512 := by omega
    subst this
    rw [dm63_26, if_pos (by decide)]
    exact f80 i s h hi
  | succ m ih =>
    intro q n i s h hi h1 h2
    obtain ⟨n, rfl⟩ : ∃ q, n = q + 1 := ⟨n - 1, by omega⟩
    have nxt : ∀ (D : Option aS), KO s0 b i t.length D → ∃ v s' j, bu D (fun s11 => dm63_72 (dm63_26 n) (Int32.ofNat q) s11) = some (v, s') ∧ KW s0 s' b j j ∧ j ≤ t.length := by
      rintro D ⟨s1, j, a1, a2, a3, a4⟩
      rw [a1]
      simp only [bu_some]
      unfold dm63_72 dm63_78
      rw [ofNat_succ (by omega)]
      split
      · exact ih (q + 1) n j s1 a2 a4 (by omega) (by omega)
      · obtain ⟨s2, j2, c1, c2, c3, c4⟩ := k67 h0 a2 a4
        rw [c1]
        simp only [bu_some]
        exact ih (q + 1) n j2 s2 c2 c4 (by omega) (by omega)
    rw [dm63_26, if_neg (fun z => by have := (nle_iff (a := 512) (by omega) (by omega)).mp z; omega), klen h0 h, h.2.1]
    simp only [bu_some]
    by_cases c : t.length ≤ i
    · rw [if_pos ((nle_iff (by omega) (by omega)).mpr c)]
      exact f80 i s h hi
    · rw [if_neg (fun z => c ((nle_iff (by omega) (by omega)).mp z)), kch h0 h (by omega)]
      simp only [bu_some]
      split
      · split
        · split
          · exact nxt _ (k88 h0 h hi)
          · split
            · exact nxt _ (k99 h0 h hi)
            · exact nxt _ (k103 h0 h (by omega) _)
        · exact nxt _ (k68 h0 h (by omega) _)
      · exact f80 i s h hi
set_option maxRecDepth 100000 in
theorem sR_at (s : aS) (b : Nat) : sR (wR s 106 6 (.ref b)) 106 6 = .ref b := by rw [sR_wR, if_pos ⟨rfl, rfl⟩]
/-- what is asked of the state before reading, beside text and names -/
def KP (s : aS) (b : Nat) : Prop := aK s b 3 ∧ (b = 102 ∨ 149 ≤ b) ∧ (sT s (b + 3)).2 = 256 ∧ (sT s 108).2 = 256 ∧ ((sT s 80).2 = 256 ∧ RC s ∧ TF s ∧ ES s) ∧ (∃ hd, LT s 107 hd ∧ hd.length ≤ 256 ∧ okT hd) ∧ ∃ m, m ≤ 128 ∧ sI s 110 2 = Int32.ofNat m
set_option maxRecDepth 100000 in
theorem k63 (hT : LT s 79 t) (hl : t.length ≤ 256) (hok : okT t) (hS : SC s ns) (hn : nsOk ns) (hP : KP s b) : ∃ v s' j, dm63 b s = some (v, s') ∧ KW (wR s 106 6 (.ref b)) s' b j j ∧ j ≤ t.length := by
  obtain ⟨p1, p2, p3, p4, ⟨p5, p6, p7, p8⟩, ⟨hd, p9⟩, m, m1, m2⟩ := hP
  let s0 := wR s 106 6 (.ref b)
  have h0 : KS s0 b t ns := ⟨⟨hT, hl, hok, p5⟩, ⟨sR_at s b, p1, p2, p3, p4⟩, hS, hn, p6, p7, p8⟩
  unfold dm63 dm64 dm65 dm66 dm26
  simp only [nx_eq]
  rw [sR_at, vN_ref, if_pos (show aK (wR s 106 6 (.ref b)) b 3 from p1)]
  simp only [bu_some]
  have hA : ∀ s1, ch (AC b) s0 s1 → ch (AC b) s0 s1 := fun _ h => h
  let sa := wI (wI s0 b 2 0) (b + 2) 1 0
  have ca : ch (AC b) s0 sa := ((ch.refl _ s0).wI (by unfold AC; omega)).wI (by unfold AC; omega)
  have ea : sI sa 110 2 = Int32.ofNat m := by
    show sI (wI (wI s0 b 2 0) (b + 2) 1 0) 110 2 = _
    rw [sI_wI, if_neg (by omega), sI_wI, if_neg (by omega)]
    exact m2
  obtain ⟨sb, mb, cb, eb1, eb2, eb3, eb4⟩ : ∃ sb m', ((if (0 : Int32) < 0 then some sa else if sI sa 110 2 ≤ 0 then some sa else some (wI sa 110 2 0)) = some sb) ∧ m' ≤ 128 ∧ sI sb 110 2 = Int32.ofNat m' ∧ ch (fun a k => a = 110 ∧ k = 2) sa sb ∧ True := by
    rw [if_neg (by decide), ea]
    split
    · exact ⟨sa, m, rfl, m1, ea, ch.refl _ sa, trivial⟩
    · exact ⟨_, 0, rfl, by omega, by rw [sI_wI, if_pos ⟨rfl, rfl⟩]; rfl, (ch.refl _ sa).wI ⟨rfl, rfl⟩, trivial⟩
  show ∃ v s' j, bu (if (0 : Int32) < 0 then some sa else if sI sa 110 2 ≤ 0 then some sa else some (wI sa 110 2 0)) _ = some (v, s') ∧ _
  rw [cb]
  simp only [bu_some]
  let sc := wI (wI (wI (wI sb 113 3 0) 106 7 0) 106 8 (-1)) 106 9 1
  have cc : ch (fun a k => (a = 113 ∧ k = 3) ∨ (a = 106 ∧ 7 ≤ k)) sb sc := ((((ch.refl (fun a k => (a = 113 ∧ k = 3) ∨ (a = 106 ∧ 7 ≤ k)) sb).wI (Or.inl ⟨rfl, rfl⟩)).wI (Or.inr ⟨rfl, by omega⟩)).wI (Or.inr ⟨rfl, by omega⟩)).wI (Or.inr ⟨rfl, by omega⟩)
  have cab : ch (fun a k => (a = b ∧ k = 2) ∨ (a = b + 2 ∧ k = 1) ∨ (a = 110 ∧ k = 2) ∨ (a = 113 ∧ k = 3) ∨ (a = 106 ∧ 7 ≤ k)) s0 sc := ((((ch.refl (fun a k => (a = b ∧ k = 2) ∨ (a = b + 2 ∧ k = 1) ∨ (a = 110 ∧ k = 2) ∨ (a = 113 ∧ k = 3) ∨ (a = 106 ∧ 7 ≤ k)) s0).wI (Or.inl ⟨rfl, rfl⟩)).wI (Or.inr (Or.inl ⟨rfl, rfl⟩))).trans (eb3.mono fun a k z => Or.inr (Or.inr (Or.inl z)))).trans (cc.mono fun a k z => by omega)
  have eN : sI sc b 2 = Int32.ofNat 0 := by
    rw [cc.i (by omega), eb3.i (by omega)]
    show sI (wI (wI s0 b 2 0) (b + 2) 1 0) b 2 = _
    rw [sI_wI, if_neg (by omega), sI_wI, if_pos ⟨rfl, rfl⟩]
    rfl
  have eU : sI sc (b + 2) 1 = Int32.ofNat 0 := by
    rw [cc.i (by omega), eb3.i (by omega)]
    show sI (wI (wI s0 b 2 0) (b + 2) 1 0) (b + 2) 1 = _
    rw [sI_wI, if_pos ⟨rfl, rfl⟩]
    rfl
  have hKW : KW s0 sc b 0 0 := by
    refine ⟨cab.mono fun a k z => by unfold AC; omega, ?_, ⟨0, [], by omega, eN, ⟨⟨eU, fun j hj => absurd hj (Nat.not_lt_zero j)⟩, Nat.zero_le _, fun y hy => (by cases hy)⟩, Nat.le_refl _, fun k hk => absurd hk (Nat.not_lt_zero k)⟩, ⟨hd, LT.of (s := s0) p9.1 cab (by omega) (fun k => by omega), p9.2⟩, ⟨mb, eb1, (cc.i (by omega)).trans eb2⟩, 0, by omega, ?_⟩
    · show sI (wI (wI (wI (wI sb 113 3 0) 106 7 0) 106 8 (-1)) 106 9 1) 106 7 = _
      rw [sI_wI, if_neg (by omega), sI_wI, if_neg (by omega), sI_wI, if_pos ⟨rfl, rfl⟩]
      rfl
    · show sI (wI (wI (wI (wI sb 113 3 0) 106 7 0) 106 8 (-1)) 106 9 1) 113 3 = _
      rw [sI_wI, if_neg (by omega), sI_wI, if_neg (by omega), sI_wI, if_neg (by omega), sI_wI, if_pos ⟨rfl, rfl⟩]
      rfl
  obtain ⟨s1, j1, d1, d2, d3, d4⟩ := k67 h0 hKW (Nat.zero_le _)
  show ∃ v s' j, bu (dm67 sc) _ = some (v, s') ∧ _
  rw [d1]
  simp only [bu_some]
  exact k63l h0 512 0 5000 j1 s1 d2 d4 (by omega) (by omega)
end KK
