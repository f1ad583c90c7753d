/-! what changes: only the cells that A allows; and type as a whole -/
def ch (A : Nat → Nat → Prop) (s s' : aS) : Prop := sL s' = sL s ∧ (∀ a, sT s' a = sT s a) ∧ ∀ a k, ¬ A a k → sI s' a k = sI s a k ∧ sR s' a k = sR s a k ∧ sJ s' a k = sJ s a k
set_option maxRecDepth 100000 in
theorem ch.refl (A : Nat → Nat → Prop) (s : aS) : ch A s s := ⟨rfl, fun _ => rfl, fun _ _ _ => ⟨rfl, rfl, rfl⟩⟩
set_option maxRecDepth 100000 in
theorem ch.trans {A : Nat → Nat → Prop} {s s1 s2 : aS} (h : ch A s s1) (g : ch A s1 s2) : ch A s s2 := ⟨g.1.trans h.1, fun a => (g.2.1 a).trans (h.2.1 a), fun a k ha => ⟨(g.2.2 a k ha).1.trans (h.2.2 a k ha).1, (g.2.2 a k ha).2.1.trans (h.2.2 a k ha).2.1, (g.2.2 a k ha).2.2.trans (h.2.2 a k ha).2.2⟩⟩
set_option maxRecDepth 100000 in
theorem ch.mono {A B : Nat → Nat → Prop} {s s1 : aS} (h : ch A s s1) (hAB : ∀ a k, A a k → B a k) : ch B s s1 := ⟨h.1, h.2.1, fun a k ha => h.2.2 a k fun q => ha (hAB a k q)⟩
set_option maxRecDepth 100000 in
theorem ch.wI {A : Nat → Nat → Prop} {s s1 : aS} {a k : Nat} {v : Int32} (h : ch A s s1) (ha : A a k) : ch A s (wI s1 a k v) := ⟨h.1, h.2.1, fun b j hb => ⟨(if_neg (fun (e : b = a ∧ j = k) => hb (by rw [e.1, e.2]; exact ha))).trans (h.2.2 b j hb).1, (h.2.2 b j hb).2⟩⟩
set_option maxRecDepth 100000 in
theorem ch.wR {A : Nat → Nat → Prop} {s s1 : aS} {a k : Nat} {v : Value} (h : ch A s s1) (ha : A a k) : ch A s (wR s1 a k v) := ⟨h.1, h.2.1, fun b j hb => ⟨(h.2.2 b j hb).1, (if_neg (fun (e : b = a ∧ j = k) => hb (by rw [e.1, e.2]; exact ha))).trans (h.2.2 b j hb).2.1, (h.2.2 b j hb).2.2⟩⟩
set_option maxRecDepth 100000 in
theorem ch.i {A : Nat → Nat → Prop} {s s1 : aS} (h : ch A s s1) {a k : Nat} (ha : ¬ A a k) : sI s1 a k = sI s a k := (h.2.2 a k ha).1
/-- letters at b, in the room b + 1 -/
def LT (s : aS) (b : Nat) (t : List Int32) : Prop := sI s b 1 = Int32.ofNat t.length ∧ ∀ j (h : j < t.length), sI s (b + 1) j = t[j]
set_option maxRecDepth 100000 in
theorem LT.n {s : aS} {b : Nat} {t : List Int32} (h : LT s b t) : sI s b 1 = Int32.ofNat t.length := h.1
set_option maxRecDepth 100000 in
theorem LT.c {s : aS} {b : Nat} {t : List Int32} (h : LT s b t) : ∀ j (h : j < t.length), sI s (b + 1) j = t[j] := h.2
set_option maxRecDepth 100000 in
theorem LT.of {A : Nat → Nat → Prop} {s s1 : aS} {b : Nat} {t : List Int32} (h : LT s b t) (g : ch A s s1) (h1 : ¬ A b 1) (h2 : ∀ j, ¬ A (b + 1) j) : LT s1 b t := ⟨(g.i h1).trans h.n, fun j hj => (g.i (h2 j)).trans (h.c j hj)⟩
set_option maxRecDepth 100000 in
theorem ofNat_succ {n : Nat} (h : n < 2147483647) : Int32.ofNat n + 1 = Int32.ofNat (n + 1) := by
  apply Int32.toInt_inj.mp
  rw [iAdd (y := 1) (by rw [iOfNat (by omega)]; show _ ≤ (n : Int) + 1; omega) (by rw [iOfNat (by omega)]; show (n : Int) + 1 ≤ _; omega), iOfNat (by omega), iOfNat (by omega)]
  show (n : Int) + 1 = ((n + 1 : Nat) : Int)
  omega
set_option maxRecDepth 100000 in
theorem LT.add {s : aS} {b m : Nat} {t : List Int32} {x : Int32} (h : LT s b t) (hT : (sT s (b + 1)).2 = m) (hm : m < 2147483647) (hl : t.length < m) (hx : 0 ≤ x.toInt ∧ x.toInt ≤ 65535) : ∃ s', dm29 b x s = some s' ∧ LT s' b (t ++ [x]) ∧ ch (fun a k => (a = b ∧ k = 1) ∨ a = b + 1) s s' := by
  have hn : (sI s b 1).toInt = t.length := by rw [h.n, iOfNat (by omega)]
  refine ⟨_, d29 hx hT (by omega) (by omega) (by omega), ⟨?_, fun j hj => ?_⟩, ((ch.refl _ s).wI (Or.inr rfl)).wI (Or.inl ⟨rfl, rfl⟩)⟩
  · rw [sI_wI, if_pos ⟨rfl, rfl⟩, h.n, ofNat_succ (by omega), List.length_append]
    rfl
  · rw [sI_wI, if_neg (by omega), sI_wI, hn]
    rw [List.length_append] at hj
    have hj : j < t.length + 1 := hj
    by_cases e : j = t.length
    · rw [if_pos ⟨rfl, by omega⟩]
      subst e
      rw [List.getElem_append_right (Nat.le_refl _)]
      simp
    · rw [if_neg (by omega), h.c j (by omega), List.getElem_append_left]
/-- the bytes of a word from i on that are not nothing -/
def nzF (x : Int32) : Nat → Nat → List Int32
  | 0, _ => []
  | n + 1, i => (if by8 x i = 0 then [] else [by8 x i]) ++ nzF x n (i + 1)
set_option maxRecDepth 100000 in
theorem nzF_len (x : Int32) : ∀ n i, (nzF x n i).length = cnF x n i
  | 0, _ => rfl
  | n + 1, i => by
    show ((if by8 x i = 0 then [] else [by8 x i]) ++ nzF x n (i + 1)).length = one8 (by8 x i) + cnF x n (i + 1)
    rw [List.length_append, nzF_len x n (i + 1)]
    unfold one8
    split <;> rfl
/-- a text's characters -/
def okT (t : List Int32) : Prop := ∀ x ∈ t, 32 ≤ x.toInt ∧ x.toInt ≤ 126
set_option maxRecDepth 100000 in
theorem nzF_ok (x : Int32) : ∀ n i, okF x n i → okT (nzF x n i)
  | 0, _, _ => fun x hx => by cases hx
  | n + 1, i, h => by
    obtain ⟨h1, h2⟩ := h
    intro y hy
    rcases List.mem_append.mp hy with hy | hy
    · split at hy
      · cases hy
      · rename_i h0
        have e : y = by8 x i := List.mem_singleton.mp hy
        subst e
        have a1 : ¬ by8 x i < 32 := fun q => h1 ⟨h0, Or.inl q⟩
        have a2 : ¬ 126 < by8 x i := fun q => h1 ⟨h0, Or.inr q⟩
        rw [iLt] at a1 a2
        have a1 : ¬ (by8 x i).toInt < 32 := a1
        have a2 : ¬ (126 : Int) < (by8 x i).toInt := a2
        omega
    · exact nzF_ok x n (i + 1) h2 y hy
set_option maxRecDepth 100000 in
/-- FormulaTrees' second loop: one round -/
theorem d27b {n : Nat} {x y b : Int32} {s : aS} (hy : ¬ y < 0) (hb : ((x.toUInt32 >>> (y.toUInt32 &&& Int32.toUInt32 31)).toInt32) &&& 255 = b) : dm27_49 (n + 1) x y s = if b = 0 then dm27_49 n x (y + (-8)) s else bu (dm29 79 b s) fun s8 => dm27_49 n x (y + (-8)) s8 := by
  rw [dm27_49, if_neg hy, hb]
  rfl
set_option maxRecDepth 100000 in
theorem d27c {n : Nat} {x y : Int32} {i m : Nat} {s : aS} {t : List Int32} (h : LT s 79 t) (hT : (sT s 80).2 = 256) (hy : ¬ y < 0) (hb : ((x.toUInt32 >>> (y.toUInt32 &&& Int32.toUInt32 31)).toInt32) &&& 255 = by8 x i) (hl : (t ++ nzF x (m + 1) i).length ≤ 256) : ∃ s' t', dm27_49 (n + 1) x y s = dm27_49 n x (y + (-8)) s' ∧ LT s' 79 t' ∧ (sT s' 80).2 = 256 ∧ ch (fun a k => (a = 79 ∧ k = 1) ∨ a = 79 + 1) s s' ∧ t' ++ nzF x m (i + 1) = t ++ nzF x (m + 1) i := by
  rw [d27b hy hb]
  by_cases h0 : by8 x i = 0
  · refine ⟨s, t, by rw [if_pos h0], h, hT, ch.refl _ s, ?_⟩
    show _ = t ++ ((if by8 x i = 0 then [] else [by8 x i]) ++ nzF x m (i + 1))
    rw [if_pos h0]
    rfl
  · have e : t ++ nzF x (m + 1) i = (t ++ [by8 x i]) ++ nzF x m (i + 1) := by
      show t ++ ((if by8 x i = 0 then [] else [by8 x i]) ++ nzF x m (i + 1)) = _
      rw [if_neg h0, List.append_assoc]
    have hb8 := by8_r x i
    obtain ⟨s', g1, g2, g3⟩ := h.add (m := 256) hT (by decide) (by rw [e] at hl; simp only [List.length_append, List.length_cons, List.length_nil] at hl; omega) (x := by8 x i) ⟨hb8.1, by omega⟩
    refine ⟨s', t ++ [by8 x i], by rw [if_neg h0, g1]; rfl, g2, by rw [g3.2.1]; exact hT, g3, e.symm⟩
set_option maxRecDepth 100000 in
/-- FormulaTrees' first loop, with the count as a number -/
theorem d27s {n k : Nat} {x y : Int32} {s : aS} {b : Int32} (hk : k < 1000) (hy : ¬ y < 0) (hb : ((x.toUInt32 >>> (y.toUInt32 &&& Int32.toUInt32 31)).toInt32) &&& 255 = b) (hn : ¬ badB b) : dm27_4 (n + 1) x (Int32.ofNat k) y s = dm27_4 n x (Int32.ofNat (k + one8 b)) (y + (-8)) s := by
  rw [d27_step hy hb, if_neg hn]
  have e : Int32.ofNat k + (if b = 0 then 0 else 1) = Int32.ofNat (k + one8 b) := by
    unfold one8
    by_cases h0 : b = 0
    · rw [if_pos h0, if_pos h0]
      apply Int32.toInt_inj.mp
      rw [iAdd (y := 0) (by rw [iOfNat (by omega)]; show _ ≤ (k : Int) + 0; omega) (by rw [iOfNat (by omega)]; show (k : Int) + 0 ≤ _; omega), iOfNat (by omega), iOfNat (by omega)]
      show (k : Int) + 0 = ((k + 0 : Nat) : Int)
      omega
    · rw [if_neg h0, if_neg h0]
      exact ofNat_succ (by omega)
  rw [e]
set_option maxRecDepth 100000 in
theorem t27a (x : Int32) (s : aS) : (okF x 4 0 ∧ dm27 x s = dm27_4 4996 x (Int32.ofNat (cnF x 4 0)) (-8) s) ∨ (¬ okF x 4 0 ∧ dm27 x s = some (.inr 0, nw s 80 0)) := by
  unfold dm27
  have z : (0 : Int32) = Int32.ofNat 0 := rfl
  have y1 : (24 : Int32) + (-8) = 16 := by decide
  have y2 : (16 : Int32) + (-8) = 8 := by decide
  have y3 : (8 : Int32) + (-8) = 0 := by decide
  have y4 : (0 : Int32) + (-8) = -8 := by decide
  have o1 : ∀ i, one8 (by8 x i) ≤ 1 := fun i => by unfold one8; split <;> decide
  by_cases b0 : badB (by8 x 0)
  · exact Or.inr ⟨fun h => h.1 b0, by rw [d27_step (n := 4999) (by decide) (byC0 x), if_pos b0]⟩
  · by_cases b1 : badB (by8 x 1)
    · refine Or.inr ⟨fun h => h.2.1 b1, ?_⟩
      rw [z, d27s (n := 4999) (by decide) (by decide) (byC0 x) b0, y1, d27_step (n := 4998) (by decide) (byC1 x), if_pos b1]
    · by_cases b2 : badB (by8 x 2)
      · refine Or.inr ⟨fun h => h.2.2.1 b2, ?_⟩
        rw [z, d27s (n := 4999) (by decide) (by decide) (byC0 x) b0, y1, d27s (n := 4998) (by have := o1 0; omega) (by decide) (byC1 x) b1, y2, d27_step (n := 4997) (by decide) (byC2 x), if_pos b2]
      · by_cases b3 : badB (by8 x 3)
        · refine Or.inr ⟨fun h => h.2.2.2.1 b3, ?_⟩
          rw [z, d27s (n := 4999) (by decide) (by decide) (byC0 x) b0, y1, d27s (n := 4998) (by have := o1 0; omega) (by decide) (byC1 x) b1, y2, d27s (n := 4997) (by have := o1 0; have := o1 1; omega) (by decide) (byC2 x) b2, y3, d27_step (n := 4996) (by decide) (byC3 x), if_pos b3]
        · refine Or.inl ⟨⟨b0, b1, b2, b3, trivial⟩, ?_⟩
          rw [z, d27s (n := 4999) (by decide) (by decide) (byC0 x) b0, y1, d27s (n := 4998) (by have := o1 0; omega) (by decide) (byC1 x) b1, y2, d27s (n := 4997) (by have := o1 0; have := o1 1; omega) (by decide) (byC2 x) b2, y3, d27s (n := 4996) (by have := o1 0; have := o1 1; have := o1 2; omega) (by decide) (byC3 x) b3, y4]
          have : 0 + one8 (by8 x 0) + one8 (by8 x 1) + one8 (by8 x 2) + one8 (by8 x 3) = cnF x 4 0 := by
            show _ = one8 (by8 x 0) + (one8 (by8 x 1) + (one8 (by8 x 2) + (one8 (by8 x 3) + 0)))
            omega
          rw [this]
set_option maxRecDepth 100000 in
/-- a text with what is typed behind it -/
theorem t27 {x : Int32} {s : aS} {t : List Int32} (h : LT s 79 t) (hT : (sT s 80).2 = 256) (hl : t.length ≤ 256) :
    (¬ okF x 4 0 ∧ dm27 x s = some (.inr 0, nw s 80 0)) ∨
    (okF x 4 0 ∧ 256 < t.length + cnF x 4 0 ∧ dm27 x s = some (.inr 1, nw s 81 0)) ∨
    (okF x 4 0 ∧ t.length + cnF x 4 0 ≤ 256 ∧ ∃ s', dm27 x s = some (.inl (some (.int (Int32.ofNat (t ++ nzF x 4 0).length))), s') ∧ LT s' 79 (t ++ nzF x 4 0) ∧ ch (fun a k => (a = 79 ∧ k = 1) ∨ a = 79 + 1) s s') := by
  rcases t27a x s with ⟨ho, e⟩ | ⟨ho, e⟩
  · right
    have hc := cnF_le x 4 0
    have hle : Int32.ofNat t.length + Int32.ofNat (cnF x 4 0) ≤ 256 ↔ t.length + cnF x 4 0 ≤ 256 := by
      have e1 : (Int32.ofNat t.length).toInt = t.length := iOfNat (by omega)
      have e2 : (Int32.ofNat (cnF x 4 0)).toInt = cnF x 4 0 := iOfNat (by omega)
      rw [iLe, iAdd (by omega) (by omega), e1, e2]
      show (t.length : Int) + (cnF x 4 0 : Int) ≤ 256 ↔ _
      omega
    rw [e, dm27_4, if_pos (by decide)]
    unfold dm28
    simp only [bu_some]
    rw [h.n]
    by_cases hb : t.length + cnF x 4 0 ≤ 256
    · right
      refine ⟨ho, hb, ?_⟩
      rw [if_pos (hle.mpr hb)]
      have hL : (t ++ nzF x 4 0).length ≤ 256 := by rw [List.length_append, nzF_len]; exact hb
      obtain ⟨s1, t1, a1, a2, a3, a4, a5⟩ := d27c (n := 4999) (i := 0) (m := 3) h hT (y := 24) (by decide) (byC0 x) hL
      obtain ⟨s2, t2, b1, b2, b3, b4, b5⟩ := d27c (n := 4998) (i := 1) (m := 2) a2 a3 (y := 16) (by decide) (byC1 x) (by rw [a5]; exact hL)
      obtain ⟨s3, t3, c1, c2, c3, c4, c5⟩ := d27c (n := 4997) (i := 2) (m := 1) b2 b3 (y := 8) (by decide) (byC2 x) (by rw [b5, a5]; exact hL)
      obtain ⟨s4, t4, d1, d2, d3, d4, d5⟩ := d27c (n := 4996) (i := 3) (m := 0) c2 c3 (y := 0) (by decide) (byC3 x) (by rw [c5, b5, a5]; exact hL)
      have et : t4 = t ++ nzF x 4 0 := by
        rw [← a5, ← b5, ← c5, ← d5]
        exact (List.append_nil t4).symm
      refine ⟨s4, ?_, et ▸ d2, ((a4.trans b4).trans c4).trans d4⟩
      rw [a1, show (24 : Int32) + (-8) = 16 by decide, b1, show (16 : Int32) + (-8) = 8 by decide, c1, show (8 : Int32) + (-8) = 0 by decide, d1, show (0 : Int32) + (-8) = -8 by decide, dm27_49, if_pos (by decide)]
      unfold dm28
      simp only [bu_some]
      rw [d2.n, et]
    · left
      refine ⟨ho, by omega, ?_⟩
      rw [if_neg (fun q => hb (hle.mp q))]
  · exact Or.inl ⟨ho, e⟩
