/-! what the reference holds while it reads: what waits (the last first), and the operand that was read last -/
abbrev Fw : Type := Int32 × NN × List NN × List Nat
def isB (x : Int32) : Prop := 11 ≤ x.toInt ∧ x.toInt ≤ 22
def FrOk (s : aS) (e : Nat) (f : Fw) : Prop := (f.1 = 100 ∧ f.2.2.1 = [] ∧ f.2.2.2 = []) ∨ (f.1 ≠ 100 ∧ f.2.1.2.1 0 = f.1 ∧ f.2.1.1 < 128 ∧ NR s e f.2.1 ∧ HF s e f.2.2.1 f.2.2.2 ∧ sI s 142 f.2.1.1 = -1 ∧ ((f.1 = 7 ∧ f.2.1.2.1 1 = Int32.ofNat f.2.2.2.length ∧ nch s (sI s 140 f.2.1.1) f.2.2.2 ∧ ∀ ks q, f.2.2.2 = ks ++ [q] → sI s 141 f.2.1.1 = Int32.ofNat q) ∨ (f.1 = 10 ∧ f.2.1.2.1 1 = 0 ∧ sI s 140 f.2.1.1 = -1 ∧ f.2.2.1 = [] ∧ f.2.2.2 = []) ∨ (isB f.1 ∧ f.2.1.2.1 1 = 0 ∧ sI s 140 f.2.1.1 = -1 ∧ ∃ c, f.2.2.2 = [c] ∧ sI s 142 c = -1)))
def frl (f : Fw) : List NN := if f.1 = 100 then [] else f.2.1 :: f.2.2.1
def fl : List Fw → List NN
  | [] => []
  | f :: F => fl F ++ frl f
set_option maxRecDepth 100000 in
noncomputable def nT : List Fw → Nat
  | [] => 0
  | f :: F => nT F + (if b01 (isB f.1) = 0 then 0 else 1)
def nO : List Fw → Nat
  | [] => 0
  | f :: F => nO F + (if f.1 = 100 ∨ f.1 = 7 then 1 else 0)
def WS (s : aS) : List Fw → Prop
  | [] => True
  | f :: F => sI s 145 F.length = f.1 ∧ (f.1 ≠ 100 → sI s 146 F.length = Int32.ofNat f.2.1.1) ∧ WS s F
def TS (s : aS) : List Fw → Prop
  | [] => True
  | f :: F => (isB f.1 → ∀ c, f.2.2.2 = [c] → sI s 144 (nT F) = Int32.ofNat c) ∧ TS s F
def PZ (s s' : aS) (e : Nat) (I : List Nat) : Prop := (∀ q, q < e → sI s' 139 (2048 + q) = sI s 139 (2048 + q)) ∧ ∀ k ∈ I, kep s s' e k ∧ sI s' 141 k = sI s 141 k ∧ sI s' 142 k = sI s 142 k
set_option maxRecDepth 100000 in
theorem PZ.sub {s s' : aS} {e : Nat} {I J : List Nat} (h : PZ s s' e I) (g : ∀ k ∈ J, k ∈ I) : PZ s s' e J := ⟨h.1, fun k hk => h.2 k (g k hk)⟩
set_option maxRecDepth 100000 in
theorem PZ.hf {s s' : aS} {e e' : Nat} {L : List NN} {ids : List Nat} (h : PZ s s' e (idL L)) (he : e ≤ e') (g : HF s e L ids) (hn : (idL L).Nodup) : HF s' e' L ids := HF.of h.1 he L ids g hn (fun k hk => (h.2 k hk).1) (fun k hk _ => (h.2 k hk).2.2)
set_option maxRecDepth 100000 in
theorem FrOk.of {s s' : aS} {e e' : Nat} {f : Fw} (h : FrOk s e f) (hn : (idL (frl f)).Nodup) (hp : PZ s s' e (idL (frl f))) (he : e ≤ e') : FrOk s' e' f := by
  rcases h with h | ⟨h0, h1, h2, h3, h4, h5, h6⟩
  · exact Or.inl h
  · right
    have ef : frl f = f.2.1 :: f.2.2.1 := if_neg h0
    rw [ef] at hn hp
    have hn : (f.2.1.1 :: idL f.2.2.1).Nodup := hn
    rw [List.nodup_cons] at hn
    have hpz : PZ s s' e (f.2.1.1 :: idL f.2.2.1) := hp
    obtain ⟨a1, a2, a3⟩ := hpz.2 _ List.mem_cons_self
    have hc : PZ s s' e (idL f.2.2.1) := hpz.sub fun k q => List.mem_cons_of_mem _ q
    refine ⟨h0, h1, h2, h3.of a1 hpz.1 he, hc.hf he h4 hn.2, a3.trans h5, ?_⟩
    rcases h6 with ⟨b1, b2, b3, b4⟩ | ⟨b1, b2, b3, b4⟩ | ⟨b1, b2, b3, c, b4, b5⟩
    · refine Or.inl ⟨b1, b2, ?_, fun ks q z => a2.trans (b4 ks q z)⟩
      rw [a1.2]
      exact nch.of _ _ b3 (fun k q => (hc.2 k (HF.sub _ _ h4 k q)).2.2)
    · exact Or.inr (Or.inl ⟨b1, b2, a1.2.trans b3, b4⟩)
    · refine Or.inr (Or.inr ⟨b1, b2, a1.2.trans b3, c, b4, ((hc.2 c (HF.sub _ _ h4 c (by rw [b4]; exact List.mem_cons_self))).2.2).trans b5⟩)
set_option maxRecDepth 100000 in
theorem WS.of {s s' : aS} : ∀ (F : List Fw), WS s F → (∀ q, q < F.length → sI s' 145 q = sI s 145 q ∧ sI s' 146 q = sI s 146 q) → WS s' F
  | [], _, _ => trivial
  | f :: F, h, g => by
    have g0 := g F.length (by simp)
    refine ⟨g0.1.trans h.1, fun z => g0.2.trans (h.2.1 z), WS.of F h.2.2 (fun q hq => g q (by simp only [List.length_cons]; omega))⟩
set_option maxRecDepth 100000 in
theorem TS.of {s s' : aS} : ∀ (F : List Fw), TS s F → (∀ q, q < nT F → sI s' 144 q = sI s 144 q) → TS s' F
  | [], _, _ => trivial
  | f :: F, h, g => by
    refine ⟨fun z c hc => ?_, TS.of F h.2 (fun q hq => g q (by show q < nT F + _; omega))⟩
    have e : nT (f :: F) = nT F + 1 := by
      show nT F + (if b01 (isB f.1) = 0 then 0 else 1) = _
      rw [if_neg (fun q => b01_ne.mp q z)]
    rw [g (nT F) (by omega)]
    exact h.1 z c hc
set_option maxRecDepth 100000 in
theorem fl_b : ∀ (F : List Fw), F.length ≤ (fl F).length + nO F ∧ nT F ≤ (fl F).length
  | [] => ⟨Nat.le_refl _, Nat.le_refl _⟩
  | f :: F => by
    have ih := fl_b F
    have e1 : (fl (f :: F)).length = (fl F).length + (frl f).length := List.length_append
    have e2 : nO (f :: F) = nO F + (if f.1 = 100 ∨ f.1 = 7 then 1 else 0) := rfl
    have e3 : nT (f :: F) = nT F + (if b01 (isB f.1) = 0 then 0 else 1) := rfl
    rw [e1, e2, e3, List.length_cons]
    unfold frl
    by_cases c : f.1 = 100
    · rw [if_pos c, if_pos (Or.inl c)]
      have nb : ¬ isB f.1 := by rw [c]; unfold isB; decide
      rw [if_pos (b01_ne.mpr nb)]
      exact ⟨by simp; omega, by simp; omega⟩
    · rw [if_neg c, List.length_cons]
      refine ⟨by omega, ?_⟩
      split <;> omega
/-- all of it -/
def GM (s : aS) (r : Nat → Int32) (e : Nat) (F : List Fw) (cur : List NN) : Prop := (r 21 = Int32.ofNat (fl F ++ cur).length ∧ (fl F ++ cur).length ≤ 128) ∧ r 32 = Int32.ofNat F.length ∧ (r 33 = Int32.ofNat (nO F) ∧ nO F ≤ 32) ∧ WS s F ∧ TS s F ∧ (∀ f ∈ F, FrOk s e f) ∧ ((idL (fl F ++ cur)).Nodup ∧ ∀ k ∈ idL (fl F ++ cur), k < (fl F ++ cur).length) ∧ ((cur = [] ∧ r 29 = Int32.ofNat (nT F)) ∨ ∃ c, HF s e cur [c] ∧ sI s 142 c = -1 ∧ sI s 144 (nT F) = Int32.ofNat c ∧ r 29 = Int32.ofNat (nT F + 1))
set_option maxRecDepth 100000 in
theorem fl_mem : ∀ (F : List Fw) (f : Fw), f ∈ F → ∀ k ∈ idL (frl f), k ∈ idL (fl F)
  | [], f, h, _, _ => by cases h
  | g :: F, f, h, k, hk => by
    have e : idL (fl (g :: F)) = idL (fl F) ++ idL (frl g) := idL_ap _ _
    rw [e]
    rcases List.mem_cons.mp h with q | q
    · exact List.mem_append_right _ (q ▸ hk)
    · exact List.mem_append_left _ (fl_mem F f q k hk)
set_option maxRecDepth 100000 in
theorem fl_nd : ∀ (F : List Fw) (f : Fw), f ∈ F → (idL (fl F)).Nodup → (idL (frl f)).Nodup
  | [], f, h, _ => by cases h
  | g :: F, f, h, hn => by
    have e : idL (fl (g :: F)) = idL (fl F) ++ idL (frl g) := idL_ap _ _
    rw [e, List.nodup_append] at hn
    rcases List.mem_cons.mp h with q | q
    · exact q ▸ hn.2.1
    · exact fl_nd F f q hn.1
set_option maxRecDepth 100000 in
theorem FrAll.of {s s' : aS} {e e' : Nat} {F : List Fw} (h : ∀ f ∈ F, FrOk s e f) (hn : (idL (fl F)).Nodup) (hp : PZ s s' e (idL (fl F))) (he : e ≤ e') : ∀ f ∈ F, FrOk s' e' f := fun f hf => (h f hf).of (fl_nd F f hf hn) (hp.sub fun k hk => fl_mem F f hf k hk) he
set_option maxRecDepth 100000 in
/-- a further place, other numbers that do not matter -/
theorem GM.at {s : aS} {r r' : Nat → Int32} {e e' : Nat} {F : List Fw} {cur : List NN} (h : GM s r e F cur) (he : e ≤ e') (h21 : r' 21 = r 21) (h29 : r' 29 = r 29) (h32 : r' 32 = r 32) (h33 : r' 33 = r 33) : GM s r' e' F cur := by
  obtain ⟨a1, a2, a3, a4, a5, a6, a7, a8⟩ := h
  have hnF : (idL (fl F)).Nodup := by
    have := a7.1
    rw [idL_ap, List.nodup_append] at this
    exact this.1
  have hnc : (idL cur).Nodup := by
    have := a7.1
    rw [idL_ap, List.nodup_append] at this
    exact this.2.1
  have pz : ∀ I, PZ s s e I := fun I => ⟨fun _ _ => rfl, fun _ _ => ⟨⟨fun _ _ => rfl, rfl⟩, rfl, rfl⟩⟩
  refine ⟨⟨h21.trans a1.1, a1.2⟩, h32.trans a2, ⟨h33.trans a3.1, a3.2⟩, a4, a5, FrAll.of a6 hnF (pz _) he, a7, ?_⟩
  rcases a8 with ⟨b1, b2⟩ | ⟨c, b1, b2, b3, b4⟩
  · exact Or.inl ⟨b1, h29.trans b2⟩
  · exact Or.inr ⟨c, (pz _).hf he b1 hnc, b2, b3, h29.trans b4⟩
