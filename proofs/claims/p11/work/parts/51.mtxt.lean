/-! the reference's type -/
def MT (s : aS) (t : List Int32) : Prop := sI s 121 1 = Int32.ofNat t.length ∧ ∀ j (h : j < t.length), sI s 122 j = t[j]
set_option maxRecDepth 100000 in
theorem MT.of {A : Nat → Nat → Prop} {s s1 : aS} {t : List Int32} (h : MT s t) (g : ch A s s1) (h1 : ¬ A 121 1) (h2 : ∀ j, ¬ A 122 j) : MT s1 t := ⟨(g.i h1).trans h.1, fun j hj => (g.i (h2 j)).trans (h.2 j hj)⟩
set_option maxRecDepth 100000 in
theorem byM0 (x : Int32) : (x >>> ((24 - (8 * (0 : Int32))) &&& 31)) &&& 255 = by8 x 0 := by
  rw [show ((24 - (8 * (0 : Int32))) &&& 31 : Int32) = 24 by decide]
  rfl
set_option maxRecDepth 100000 in
theorem byM1 (x : Int32) : (x >>> ((24 - (8 * (1 : Int32))) &&& 31)) &&& 255 = by8 x 1 := by
  rw [show ((24 - (8 * (1 : Int32))) &&& 31 : Int32) = 16 by decide]
  rfl
set_option maxRecDepth 100000 in
theorem byM2 (x : Int32) : (x >>> ((24 - (8 * (2 : Int32))) &&& 31)) &&& 255 = by8 x 2 := by
  rw [show ((24 - (8 * (2 : Int32))) &&& 31 : Int32) = 8 by decide]
  rfl
set_option maxRecDepth 100000 in
theorem byM3 (x : Int32) : (x >>> ((24 - (8 * (3 : Int32))) &&& 31)) &&& 255 = by8 x 3 := by
  rw [show ((24 - (8 * (3 : Int32))) &&& 31 : Int32) = 0 by decide]
  rfl
set_option maxRecDepth 100000 in
theorem le0_iff {b : Int32} (h : 0 ≤ b.toInt) : b ≤ 0 ↔ b = 0 := by
  rw [iLe, iEq]
  show b.toInt ≤ 0 ↔ b.toInt = 0
  omega
def nxF (f e : Int32) : Int32 := if f = 0 then e else 1
def bad8 (b : Int32) : Int32 := if badB b then 1 else 0
set_option maxRecDepth 100000 in
theorem d172s {n c : Nat} {x f i b : Int32} {s : aS} (hc : c < 1000) (hi : ¬ 4 ≤ i) (hb : ((x >>> ((24 - (8 * i)) &&& 31)) &&& 255) = b) (h0 : 0 ≤ b.toInt) : dm172_6 (n + 1) x (Int32.ofNat c) f i s = dm172_6 n x (Int32.ofNat (c + one8 b)) (nxF f (bad8 b)) (i + 1) s := by
  rw [dm172_6, if_neg hi, hb]
  unfold nxF bad8 dm172_26 dm172_39 dm172_37 dm172_40 one8
  have hz0 := le0_iff h0
  have hd : (126 < b) = ¬ b ≤ 126 := by rw [iLt, iLe]; exact propext (by omega)
  by_cases hz : b = 0
  · by_cases hf : f = 0
    · rw [if_pos (hz0.mpr hz), if_pos hf, if_pos (hz0.mpr hz), if_pos hz, if_pos hf, if_neg (fun q => q.1 hz)]
      rfl
    · rw [if_pos (hz0.mpr hz), if_neg hf, if_pos hz, if_neg hf]
      rfl
  · rw [if_neg (fun q => hz (hz0.mp q)), ofNat_succ (by omega), if_neg hz]
    by_cases hf : f = 0
    · rw [if_pos hf, if_neg (fun q => hz (hz0.mp q)), if_pos hf]
      by_cases h1 : b < 32
      · rw [if_pos h1, if_pos ⟨hz, Or.inl h1⟩]
      · by_cases h2 : b ≤ 126
        · rw [if_neg h1, if_pos h2, if_neg]
          rintro ⟨-, q | q⟩
          · exact h1 q
          · rw [hd] at q; exact q h2
        · rw [if_neg h1, if_neg h2, if_pos ⟨hz, Or.inr (by rw [hd]; exact h2)⟩]
    · rw [if_neg hf, if_neg hf]
set_option maxRecDepth 100000 in
theorem t172a (x : Int32) (s : aS) : (okF x 4 0 ∧ dm172 x s = dm172_6 4996 x (Int32.ofNat (cnF x 4 0)) 0 4 s) ∨ (¬ okF x 4 0 ∧ dm172 x s = dm172_6 4996 x (Int32.ofNat (cnF x 4 0)) 1 4 s) := by
  have z : (0 : Int32) = Int32.ofNat 0 := rfl
  have o1 : ∀ i, one8 (by8 x i) ≤ 1 := fun i => by unfold one8; split <;> decide
  have a0 := o1 0
  have a1 := o1 1
  have a2 := o1 2
  have hc : 0 + one8 (by8 x 0) + one8 (by8 x 1) + one8 (by8 x 2) + one8 (by8 x 3) = cnF x 4 0 := by
    show _ = one8 (by8 x 0) + (one8 (by8 x 1) + (one8 (by8 x 2) + (one8 (by8 x 3) + 0)))
    omega
  have E : dm172 x s = dm172_6 4996 x (Int32.ofNat (cnF x 4 0)) (nxF (nxF (nxF (nxF 0 (bad8 (by8 x 0))) (bad8 (by8 x 1))) (bad8 (by8 x 2))) (bad8 (by8 x 3))) 4 s := by
    have e1 : dm172_6 5000 x (Int32.ofNat 0) 0 0 s = _ := d172s (n := 4999) (by decide) (by decide) (byM0 x) (by8_r x 0).1
    have e2 := d172s (n := 4998) (c := 0 + one8 (by8 x 0)) (f := nxF 0 (bad8 (by8 x 0))) (s := s) (by omega) (by decide) (byM1 x) (by8_r x 1).1
    have e3 := d172s (n := 4997) (c := 0 + one8 (by8 x 0) + one8 (by8 x 1)) (f := nxF (nxF 0 (bad8 (by8 x 0))) (bad8 (by8 x 1))) (s := s) (by omega) (by decide) (byM2 x) (by8_r x 2).1
    have e4 := d172s (n := 4996) (c := 0 + one8 (by8 x 0) + one8 (by8 x 1) + one8 (by8 x 2)) (f := nxF (nxF (nxF 0 (bad8 (by8 x 0))) (bad8 (by8 x 1))) (bad8 (by8 x 2))) (s := s) (by omega) (by decide) (byM3 x) (by8_r x 3).1
    rw [show (3 : Int32) + 1 = 4 by decide, hc] at e4
    rw [show (2 : Int32) + 1 = 3 by decide] at e3
    rw [show (1 : Int32) + 1 = 2 by decide] at e2
    rw [show (0 : Int32) + 1 = 1 by decide] at e1
    exact e1.trans (e2.trans (e3.trans e4))
  have q : ∀ i, (¬ badB (by8 x i) ∧ bad8 (by8 x i) = 0) ∨ (badB (by8 x i) ∧ bad8 (by8 x i) = 1) := fun i => by
    by_cases hq : badB (by8 x i)
    · exact Or.inr ⟨hq, if_pos hq⟩
    · exact Or.inl ⟨hq, if_neg hq⟩
  rcases q 0 with ⟨b0, e0⟩ | ⟨b0, e0⟩ <;> rcases q 1 with ⟨b1, e1⟩ | ⟨b1, e1⟩ <;> rcases q 2 with ⟨b2, e2⟩ | ⟨b2, e2⟩ <;> rcases q 3 with ⟨b3, e3⟩ | ⟨b3, e3⟩ <;> rw [e0, e1, e2, e3] at E
  · exact Or.inl ⟨⟨b0, b1, b2, b3, trivial⟩, E⟩
  all_goals
    right
    refine ⟨?_, E⟩
    rintro ⟨h0, h1, h2, h3, -⟩
    first
      | exact h0 b0
      | exact h1 b1
      | exact h2 b2
      | exact h3 b3
set_option maxRecDepth 100000 in
/-- the reference's second loop: one round -/
theorem d172c {n m i : Nat} {x y : Int32} {s : aS} {t : List Int32} (h : MT s t) (hy : ¬ 4 ≤ y) (hb : ((x >>> ((24 - (8 * y)) &&& 31)) &&& 255) = by8 x i) (hl : (t ++ nzF x (m + 1) i).length ≤ 256) : ∃ s' t', dm172_65 (n + 1) x y s = dm172_65 n x (y + 1) s' ∧ MT s' t' ∧ ch (fun a k => (a = 121 ∧ k = 1) ∨ a = 122) s s' ∧ t' ++ nzF x m (i + 1) = t ++ nzF x (m + 1) i := by
  rw [dm172_65, if_neg hy, hb]
  have hz0 := le0_iff (by8_r x i).1
  unfold dm172_92
  by_cases h0 : by8 x i = 0
  · refine ⟨s, t, by rw [if_pos (hz0.mpr h0)], h, ch.refl _ s, ?_⟩
    show _ = t ++ ((if by8 x i = 0 then [] else [by8 x i]) ++ nzF x m (i + 1))
    rw [if_pos h0]
    rfl
  · have e : t ++ nzF x (m + 1) i = (t ++ [by8 x i]) ++ nzF x m (i + 1) := by
      show t ++ ((if by8 x i = 0 then [] else [by8 x i]) ++ nzF x m (i + 1)) = _
      rw [if_neg h0, List.append_assoc]
    have hl2 : t.length < 256 := by rw [e] at hl; simp only [List.length_append, List.length_cons, List.length_nil] at hl; omega
    have hn : (sI s 121 1).toInt = t.length := by rw [h.1, iOfNat (by omega)]
    refine ⟨_, t ++ [by8 x i], by rw [if_neg (fun q => h0 (hz0.mp q)), if_pos (aB_iff.mpr ⟨by omega, by omega⟩)]; rfl, ⟨?_, fun j hj => ?_⟩, ((ch.refl _ s).wI (Or.inr rfl)).wI (Or.inl ⟨rfl, rfl⟩), e.symm⟩
    · rw [sI_wI, if_pos ⟨rfl, rfl⟩, sI_wI, if_neg (by omega), h.1, ofNat_succ (by omega), List.length_append]
      rfl
    · rw [sI_wI, if_neg (by omega), sI_wI, jN_eq, hn]
      rw [List.length_append] at hj
      have hj : j < t.length + 1 := hj
      by_cases e : j = t.length
      · rw [if_pos ⟨rfl, by omega⟩]
        subst e
        rw [List.getElem_append_right (Nat.le_refl _)]
        simp
      · rw [if_neg (by omega), h.2 j (by omega), List.getElem_append_left]
set_option maxRecDepth 100000 in
theorem t172 {x : Int32} {s : aS} {t : List Int32} (h : MT s t) (hl : t.length ≤ 256) :
    (¬ okF x 4 0 ∧ dm172 x s = some (0, wI s 121 0 1)) ∨
    (okF x 4 0 ∧ 256 < t.length + cnF x 4 0 ∧ dm172 x s = some (0, wI s 121 0 2)) ∨
    (okF x 4 0 ∧ t.length + cnF x 4 0 ≤ 256 ∧ ∃ s', dm172 x s = some (Int32.ofNat (t ++ nzF x 4 0).length, s') ∧ MT s' (t ++ nzF x 4 0) ∧ sI s' 121 0 = 0 ∧ ch (fun a k => (a = 121 ∧ k < 2) ∨ a = 122) s s') := by
  rcases t172a x s with ⟨ho, e⟩ | ⟨ho, e⟩
  · right
    have hc := cnF_le x 4 0
    have hle : Int32.ofNat t.length + Int32.ofNat (cnF x 4 0) ≤ 256 ↔ t.length + cnF x 4 0 ≤ 256 := by
      have e1 : (Int32.ofNat t.length).toInt = t.length := iOfNat (by omega)
      have e2 : (Int32.ofNat (cnF x 4 0)).toInt = cnF x 4 0 := iOfNat (by omega)
      rw [iLe, iAdd (by omega) (by omega), e1, e2]
      show (t.length : Int) + (cnF x 4 0 : Int) ≤ 256 ↔ _
      omega
    rw [e, dm172_6, if_pos (by decide), if_pos rfl, h.1]
    unfold dm172_57
    by_cases hb : t.length + cnF x 4 0 ≤ 256
    · right
      refine ⟨ho, hb, ?_⟩
      rw [if_pos (hle.mpr hb)]
      have hL : (t ++ nzF x 4 0).length ≤ 256 := by rw [List.length_append, nzF_len]; exact hb
      have h1 : MT (wI s 121 0 0) t := ⟨h.1, h.2⟩
      obtain ⟨s1, t1, a1, a2, a4, a5⟩ := d172c (n := 4999) (i := 0) (m := 3) h1 (y := 0) (by decide) (byM0 x) hL
      obtain ⟨s2, t2, b1, b2, b4, b5⟩ := d172c (n := 4998) (i := 1) (m := 2) a2 (y := 1) (by decide) (byM1 x) (by rw [a5]; exact hL)
      obtain ⟨s3, t3, c1, c2, c4, c5⟩ := d172c (n := 4997) (i := 2) (m := 1) b2 (y := 2) (by decide) (byM2 x) (by rw [b5, a5]; exact hL)
      obtain ⟨s4, t4, d1, d2, d4, d5⟩ := d172c (n := 4996) (i := 3) (m := 0) c2 (y := 3) (by decide) (byM3 x) (by rw [c5, b5, a5]; exact hL)
      have et : t4 = t ++ nzF x 4 0 := by
        rw [← a5, ← b5, ← c5, ← d5]
        exact (List.append_nil t4).symm
      have hch := ((a4.trans b4).trans c4).trans d4
      refine ⟨s4, ?_, et ▸ d2, (hch.i (by omega)).trans rfl, (((ch.refl (fun a k => (a = 121 ∧ k < 2) ∨ a = 122) s).wI (Or.inl ⟨rfl, by omega⟩)).trans (hch.mono fun a k q => by omega))⟩
      rw [nx_eq, if_pos (show sI (wI s 121 0 0) 121 0 ≤ 0 from (by decide : (0 : Int32) ≤ 0))]
      rw [a1, show (0 : Int32) + 1 = 1 by decide, b1, show (1 : Int32) + 1 = 2 by decide, c1, show (2 : Int32) + 1 = 3 by decide, d1, show (3 : Int32) + 1 = 4 by decide, dm172_65, if_pos (by decide), d2.1, et]
    · left
      refine ⟨ho, by omega, ?_⟩
      rw [if_neg (fun q => hb (hle.mp q)), nx_eq]
      exact if_neg (show ¬ (2 : Int32) ≤ 0 by decide)
  · refine Or.inl ⟨ho, ?_⟩
    rw [e, dm172_6, if_pos (by decide), if_neg (by decide)]
    unfold dm172_57
    rw [nx_eq]
    exact if_neg (show ¬ (1 : Int32) ≤ 0 by decide)
