/-! what changes: only the cells that A allows; and type as a whole -/
def ch (A : Nat → Prop) (s s' : aS) : Prop := sL s' = sL s ∧ (∀ a, sT s' a = sT s a) ∧ ∀ a, ¬ A a → (∀ k, sI s' a k = sI s a k) ∧ (∀ k, sR s' a k = sR s a k) ∧ ∀ k, sJ s' a k = sJ s a k
theorem ch.refl (A : Nat → Prop) (s : aS) : ch A s s := ⟨rfl, fun _ => rfl, fun _ _ => ⟨fun _ => rfl, fun _ => rfl, fun _ => rfl⟩⟩
theorem ch.trans {A : Nat → Prop} {s s1 s2 : aS} (h : ch A s s1) (g : ch A s1 s2) : ch A s s2 := ⟨g.1.trans h.1, fun a => (g.2.1 a).trans (h.2.1 a), fun a ha => ⟨fun k => ((g.2.2 a ha).1 k).trans ((h.2.2 a ha).1 k), fun k => ((g.2.2 a ha).2.1 k).trans ((h.2.2 a ha).2.1 k), fun k => ((g.2.2 a ha).2.2 k).trans ((h.2.2 a ha).2.2 k)⟩⟩
theorem ch.mono {A B : Nat → Prop} {s s1 : aS} (h : ch A s s1) (hAB : ∀ a, A a → B a) : ch B s s1 := ⟨h.1, h.2.1, fun a ha => h.2.2 a fun q => ha (hAB a q)⟩
theorem ch.wI {A : Nat → Prop} {s s1 : aS} {a k : Nat} {v : Int32} (h : ch A s s1) (ha : A a) : ch A s (wI s1 a k v) := ⟨h.1, h.2.1, fun b hb => ⟨fun j => (if_neg (fun (e : b = a ∧ j = k) => hb (e.1 ▸ ha))).trans ((h.2.2 b hb).1 j), (h.2.2 b hb).2.1, (h.2.2 b hb).2.2⟩⟩
theorem ch.wR {A : Nat → Prop} {s s1 : aS} {a k : Nat} {v : Value} (h : ch A s s1) (ha : A a) : ch A s (wR s1 a k v) := ⟨h.1, h.2.1, fun b hb => ⟨(h.2.2 b hb).1, fun j => (if_neg (fun (e : b = a ∧ j = k) => hb (e.1 ▸ ha))).trans ((h.2.2 b hb).2.1 j), (h.2.2 b hb).2.2⟩⟩
theorem ch.i {A : Nat → Prop} {s s1 : aS} (h : ch A s s1) {a : Nat} (k : Nat) (ha : ¬ A a) : sI s1 a k = sI s a k := (h.2.2 a ha).1 k
/-- letters at b, in the room b + 1 -/
def LT (s : aS) (b : Nat) (t : List Int32) : Prop := sI s b 1 = Int32.ofNat t.length ∧ ∀ j (h : j < t.length), sI s (b + 1) j = t[j]
theorem LT.n {s : aS} {b : Nat} {t : List Int32} (h : LT s b t) : sI s b 1 = Int32.ofNat t.length := h.1
theorem LT.c {s : aS} {b : Nat} {t : List Int32} (h : LT s b t) : ∀ j (h : j < t.length), sI s (b + 1) j = t[j] := h.2
theorem LT.of {A : Nat → Prop} {s s1 : aS} {b : Nat} {t : List Int32} (h : LT s b t) (g : ch A s s1) (h1 : ¬ A b) (h2 : ¬ A (b + 1)) : LT s1 b t := ⟨(g.i _ h1).trans h.n, fun j hj => (g.i _ h2).trans (h.c j hj)⟩
theorem ofNat_succ {n : Nat} (h : n < 2147483647) : Int32.ofNat n + 1 = Int32.ofNat (n + 1) := by
  apply Int32.toInt_inj.mp
  rw [iAdd (y := 1) (by rw [iOfNat (by omega)]; show _ ≤ (n : Int) + 1; omega) (by rw [iOfNat (by omega)]; show (n : Int) + 1 ≤ _; omega), iOfNat (by omega), iOfNat (by omega)]
  show (n : Int) + 1 = ((n + 1 : Nat) : Int)
  omega
theorem LT.add {s : aS} {b m : Nat} {t : List Int32} {x : Int32} (h : LT s b t) (hT : (sT s (b + 1)).2 = m) (hm : m < 2147483647) (hl : t.length < m) (hx : 0 ≤ x.toInt ∧ x.toInt ≤ 65535) : ∃ s', dm29 b x s = some s' ∧ LT s' b (t ++ [x]) ∧ ch (fun a => a = b ∨ a = b + 1) s s' := by
  have hn : (sI s b 1).toInt = t.length := by rw [h.n, iOfNat (by omega)]
  refine ⟨_, d29 hx hT (by omega) (by omega) (by omega), ⟨?_, fun j hj => ?_⟩, ((ch.refl _ s).wI (Or.inr rfl)).wI (Or.inl rfl)⟩
  · rw [sI_wI, if_pos ⟨rfl, rfl⟩, h.n, ofNat_succ (by omega), List.length_append]
    rfl
  · rw [sI_wI, if_neg (by omega), sI_wI, hn]
    rw [List.length_append] at hj
    have hj : j < t.length + 1 := hj
    by_cases e : j = t.length
    · rw [if_pos ⟨rfl, by omega⟩]
      subst e
      rw [List.getElem_append_right (Nat.le_refl _)]
      simp
    · rw [if_neg (by omega), h.c j (by omega), List.getElem_append_left]
/-- the bytes of a word from i on that are not nothing -/
def nzF (x : Int32) : Nat → Nat → List Int32
  | 0, _ => []
  | n + 1, i => (if by8 x i = 0 then [] else [by8 x i]) ++ nzF x n (i + 1)
theorem nzF_len (x : Int32) : ∀ n i, (nzF x n i).length = cnF x n i
  | 0, _ => rfl
  | n + 1, i => by
    show ((if by8 x i = 0 then [] else [by8 x i]) ++ nzF x n (i + 1)).length = one8 (by8 x i) + cnF x n (i + 1)
    rw [List.length_append, nzF_len x n (i + 1)]
    unfold one8
    split <;> rfl
/-- a text's characters -/
def okT (t : List Int32) : Prop := ∀ x ∈ t, 32 ≤ x.toInt ∧ x.toInt ≤ 126
theorem nzF_ok (x : Int32) : ∀ n i, okF x n i → okT (nzF x n i)
  | 0, _, _ => fun x hx => by cases hx
  | n + 1, i, h => by
    obtain ⟨h1, h2⟩ := h
    intro y hy
    rcases List.mem_append.mp hy with hy | hy
    · split at hy
      · cases hy
      · rename_i h0
        have e : y = by8 x i := List.mem_singleton.mp hy
        subst e
        have a1 : ¬ by8 x i < 32 := fun q => h1 ⟨h0, Or.inl q⟩
        have a2 : ¬ 126 < by8 x i := fun q => h1 ⟨h0, Or.inr q⟩
        rw [iLt] at a1 a2
        have a1 : ¬ (by8 x i).toInt < 32 := a1
        have a2 : ¬ (126 : Int) < (by8 x i).toInt := a2
        omega
    · exact nzF_ok x n (i + 1) h2 y hy
/-- FormulaTrees' second loop: one round -/
theorem d27b {n : Nat} {x y b : Int32} {s : aS} (hy : ¬ y < 0) (hb : ((x.toUInt32 >>> (y.toUInt32 &&& Int32.toUInt32 31)).toInt32) &&& 255 = b) : dm27_49 (n + 1) x y s = if b = 0 then dm27_49 n x (y + (-8)) s else bu (dm29 79 b s) fun s8 => dm27_49 n x (y + (-8)) s8 := by
  rw [dm27_49, if_neg hy, hb]
  rfl
theorem d27c {n : Nat} {x y : Int32} {i m : Nat} {s : aS} {t : List Int32} (h : LT s 79 t) (hT : (sT s 80).2 = 256) (hy : ¬ y < 0) (hb : ((x.toUInt32 >>> (y.toUInt32 &&& Int32.toUInt32 31)).toInt32) &&& 255 = by8 x i) (hl : (t ++ nzF x (m + 1) i).length ≤ 256) : ∃ s' t', dm27_49 (n + 1) x y s = dm27_49 n x (y + (-8)) s' ∧ LT s' 79 t' ∧ (sT s' 80).2 = 256 ∧ ch (fun a => a = 79 ∨ a = 80) s s' ∧ t' ++ nzF x m (i + 1) = t ++ nzF x (m + 1) i := by
  rw [d27b hy hb]
  by_cases h0 : by8 x i = 0
  · refine ⟨s, t, by rw [if_pos h0], h, hT, ch.refl _ s, ?_⟩
    show _ = t ++ ((if by8 x i = 0 then [] else [by8 x i]) ++ nzF x m (i + 1))
    rw [if_pos h0]
    rfl
  · have e : t ++ nzF x (m + 1) i = (t ++ [by8 x i]) ++ nzF x m (i + 1) := by
      show t ++ ((if by8 x i = 0 then [] else [by8 x i]) ++ nzF x m (i + 1)) = _
      rw [if_neg h0, List.append_assoc]
    have hb8 := by8_r x i
    obtain ⟨s', g1, g2, g3⟩ := h.add (m := 256) hT (by decide) (by rw [e] at hl; simp only [List.length_append, List.length_cons, List.length_nil] at hl; omega) (x := by8 x i) ⟨hb8.1, by omega⟩
    refine ⟨s', t ++ [by8 x i], by rw [if_neg h0, g1]; rfl, g2, by rw [g3.2.1]; exact hT, g3, e.symm⟩
