/-! runs that keep the lay of the cells; small means to take a printed function apart -/
abbrev aK (s : aS) (a c : Nat) : Prop := a < sL s ∧ (sT s a).1 = c
/-- s1 is s with more cells, and with other contents only where G allows it; more cells only if G allows the next one -/
def ext (G : Nat → Bool) (s s1 : aS) : Prop := sL s ≤ sL s1 ∧ (∀ a, a < sL s → sT s1 a = sT s a) ∧ (∀ a, a < sL s → G a = false → (∀ k, sI s1 a k = sI s a k) ∧ (∀ k, sR s1 a k = sR s a k) ∧ ∀ k, sJ s1 a k = sJ s a k) ∧ (G (sL s) = false → sL s1 = sL s)
theorem ext.refl (G : Nat → Bool) (s : aS) : ext G s s := ⟨Nat.le_refl _, fun _ _ => rfl, fun _ _ _ => ⟨fun _ => rfl, fun _ => rfl, fun _ => rfl⟩, fun _ => rfl⟩
theorem ext.trans {G : Nat → Bool} {s s1 s2 : aS} (h : ext G s s1) (g : ext G s1 s2) : ext G s s2 := by
  obtain ⟨h1, h2, h3, h4⟩ := h
  obtain ⟨g1, g2, g3, g4⟩ := g
  refine ⟨Nat.le_trans h1 g1, fun a ha => (g2 a (Nat.lt_of_lt_of_le ha h1)).trans (h2 a ha), fun a ha hG => ?_, fun hG => ?_⟩
  · obtain ⟨a1, a2, a3⟩ := h3 a ha hG
    obtain ⟨b1, b2, b3⟩ := g3 a (Nat.lt_of_lt_of_le ha h1) hG
    exact ⟨fun k => (b1 k).trans (a1 k), fun k => (b2 k).trans (a2 k), fun k => (b3 k).trans (a3 k)⟩
  · have e := h4 hG
    rw [g4 (by rw [e]; exact hG), e]
theorem ext.k {G : Nat → Bool} {s s1 : aS} {a c : Nat} (h : ext G s s1) (g : aK s a c) : aK s1 a c := ⟨Nat.lt_of_lt_of_le g.1 h.1, by rw [h.2.1 a g.1]; exact g.2⟩
/-- E: cells 78 .. that are laid by the constructors (their kinds and lengths Tt, their references Rt), the lay of letters (1), trees (3) and texts (70); what lies below K is as it was (tt, cc) -/
def Lay (K E : Nat) (Tt : List (Nat × Nat)) (Rt : List (Nat × Nat × Nat)) (tt : Nat → Nat × Nat) (cc : Nat → Nat → Int32) (s : aS) : Prop :=
  E ≤ sL s ∧ K ≤ E ∧ (∀ (j : Nat) (p : Nat × Nat), Tt[j]? = some p → sT s (K + j) = p) ∧ (∀ (j : Nat) (q : Nat × Nat × Nat), Rt[j]? = some q → sR s q.1 q.2.1 = .ref q.2.2) ∧
  (∀ b, aK s b 1 → sT s b = (1, 2) ∧ sR s b 0 = .ref (b + 1) ∧ b + 1 < sL s ∧ (sT s (b + 1)).1 = 102 ∧ K ≤ b) ∧
  (∀ b, aK s b 3 → sT s b = (3, 3) ∧ sR s b 0 = .ref (b + 1) ∧ sR s b 1 = .ref (b + 2) ∧ b + 3 < sL s ∧ sT s (b + 1) = (100, 1408) ∧ sT s (b + 2) = (1, 2) ∧ sT s (b + 3) = (102, 256) ∧ K ≤ b) ∧
  (∀ b, aK s b 70 → sT s b = (70, 2) ∧ sR s b 0 = .ref (b + 1) ∧ b + 1 < sL s ∧ (sT s (b + 1)).1 = 101 ∧ b + 1 < K) ∧
  (∀ a, a < K → sT s a = tt a) ∧ (∀ a k, a < K → sI s a k = cc a k)
section LY
variable {K E : Nat} {Tt : List (Nat × Nat)} {Rt : List (Nat × Nat × Nat)} {tt : Nat → Nat × Nat} {cc : Nat → Nat → Int32} {s : aS}
theorem Lay.lt {a : Nat} (h : Lay K E Tt Rt tt cc s) (ha : a < E) : a < sL s := Nat.lt_of_lt_of_le ha h.1
theorem Lay.T {a : Nat} {p : Nat × Nat} (h : Lay K E Tt Rt tt cc s) (j : Nat) (hj : Tt[j]? = some p) (ha : K + j = a) : sT s a = p := ha ▸ h.2.2.1 j p hj
theorem Lay.R {a k b : Nat} (h : Lay K E Tt Rt tt cc s) (j : Nat) (hj : Rt[j]? = some (a, k, b)) : sR s a k = .ref b := h.2.2.2.1 j _ hj
theorem Lay.Kd {a c n : Nat} (h : Lay K E Tt Rt tt cc s) (j : Nat) (hj : Tt[j]? = some (c, n)) (ha : K + j = a) (hE : a < E) : aK s a c := ⟨h.lt hE, by rw [h.T j hj ha]⟩
theorem Lay.le {b : Nat} (h : Lay K E Tt Rt tt cc s) (hb : aK s b 1) : sT s b = (1, 2) ∧ sR s b 0 = .ref (b + 1) ∧ b + 1 < sL s ∧ (sT s (b + 1)).1 = 102 ∧ K ≤ b := h.2.2.2.2.1 b hb
theorem Lay.tr {b : Nat} (h : Lay K E Tt Rt tt cc s) (hb : aK s b 3) : sT s b = (3, 3) ∧ sR s b 0 = .ref (b + 1) ∧ sR s b 1 = .ref (b + 2) ∧ b + 3 < sL s ∧ sT s (b + 1) = (100, 1408) ∧ sT s (b + 2) = (1, 2) ∧ sT s (b + 3) = (102, 256) ∧ K ≤ b := h.2.2.2.2.2.1 b hb
theorem Lay.tx {b : Nat} (h : Lay K E Tt Rt tt cc s) (hb : aK s b 70) : sT s b = (70, 2) ∧ sR s b 0 = .ref (b + 1) ∧ b + 1 < sL s ∧ (sT s (b + 1)).1 = 101 ∧ b + 1 < K := h.2.2.2.2.2.2.1 b hb
theorem Lay.leK {b : Nat} (h : Lay K E Tt Rt tt cc s) (hb : aK s b 3) : aK s (b + 2) 1 := ⟨by have := (h.tr hb).2.2.2.1; omega, by rw [(h.tr hb).2.2.2.2.2.1]⟩
theorem pr2 {α β : Type} {p : α × β} {a : α} (h : p.1 = a) : p = (a, p.2) := by subst h; rfl
theorem Lay.wId {a k : Nat} {v : Int32} (h : Lay K E Tt Rt tt cc s) (ha : K ≤ a) : Lay K E Tt Rt tt cc (wI s a k v) := by
  obtain ⟨h1, h2, h3, h4, h5, h6, h7, h8, h9⟩ := h
  exact ⟨h1, h2, h3, h4, h5, h6, h7, h8, fun b j hb => (fu_ne (fun q => by omega)).trans (h9 b j hb)⟩
theorem Lay.wJd {a k : Nat} {v : Int64} (h : Lay K E Tt Rt tt cc s) : Lay K E Tt Rt tt cc (wJ s a k v) := by
  obtain ⟨h1, h2, h3, h4, h5, h6, h7, h8, h9⟩ := h
  exact ⟨h1, h2, h3, h4, h5, h6, h7, h8, h9⟩
theorem Lay.wRd {a k c n : Nat} {v : Value} (h : Lay K E Tt Rt tt cc s) (hT : sT s a = (c, n)) (hc : c ≠ 1 ∧ c ≠ 3 ∧ c ≠ 70) (hn : Rt.all (fun q => !(q.1 == a && q.2.1 == k)) = true) : Lay K E Tt Rt tt cc (wR s a k v) := by
  obtain ⟨h1, h2, h3, h4, h5, h6, h7, h8, h9⟩ := h
  have hne : ∀ b c', aK s b c' → c' ≠ c → ∀ j, ¬ (b = a ∧ j = k) := by
    rintro b c' hb hcc j ⟨rfl, -⟩
    rw [aK, hT] at hb
    exact hcc hb.2.symm
  refine ⟨h1, h2, h3, fun j q hq => ?_, fun b hb => ?_, fun b hb => ?_, fun b hb => ?_, h8, h9⟩
  · have h := List.all_eq_true.mp hn q (List.mem_of_getElem? hq)
    refine (fu_ne (fun e => ?_)).trans (h4 j q hq)
    simp [e.1, e.2] at h
  · obtain ⟨g1, g2, g3⟩ := h5 b hb
    exact ⟨g1, (fu_ne (hne b 1 hb (Ne.symm hc.1) 0)).trans g2, g3⟩
  · obtain ⟨g1, g2, g3, g4⟩ := h6 b hb
    exact ⟨g1, (fu_ne (hne b 3 hb (Ne.symm hc.2.1) 0)).trans g2, (fu_ne (hne b 3 hb (Ne.symm hc.2.1) 1)).trans g3, g4⟩
  · obtain ⟨g1, g2, g3⟩ := h7 b hb
    exact ⟨g1, (fu_ne (hne b 70 hb (Ne.symm hc.2.2) 0)).trans g2, g3⟩
theorem Lay.nwd {c n : Nat} (h : Lay K E Tt Rt tt cc s) (hT : ∀ (j : Nat) (p : Nat × Nat), Tt[j]? = some p → K + j < E) (hR : ∀ (j : Nat) (q : Nat × Nat × Nat), Rt[j]? = some q → q.1 < E) (hc : c ≠ 1 ∧ c ≠ 3 ∧ c ≠ 70) : Lay K E Tt Rt tt cc (nw s c n) := by
  obtain ⟨h1, h2, h3, h4, h5, h6, h7, h8, h9⟩ := h
  have hn : ∀ b c', aK (nw s c n) b c' → c' ≠ c → b < sL s ∧ aK s b c' := by
    rintro b c' ⟨hb1, hb2⟩ hcc
    have hb1 : b < sL s + 1 := hb1
    by_cases e : b = sL s
    · subst e
      rw [show sT (nw s c n) (sL s) = (c, n) from if_pos rfl] at hb2
      exact absurd hb2.symm hcc
    · rw [show sT (nw s c n) b = sT s b from if_neg e] at hb2
      exact ⟨by omega, by omega, hb2⟩
  have hs : ∀ b, b < sL s → sT (nw s c n) b = sT s b := fun b hb => if_neg (by omega)
  have hr : ∀ b j, b < sL s → sR (nw s c n) b j = sR s b j := fun b j hb => if_neg (by omega)
  have hi : ∀ b j, b < sL s → sI (nw s c n) b j = sI s b j := fun b j hb => if_neg (by omega)
  have hl : sL (nw s c n) = sL s + 1 := rfl
  refine ⟨by omega, h2, fun j p hp => ?_, fun j q hq => ?_, fun b hb => ?_, fun b hb => ?_, fun b hb => ?_, fun a ha => ?_, fun a k ha => ?_⟩
  · rw [hs _ (by have := hT j p hp; omega)]; exact h3 j p hp
  · rw [hr _ _ (by have := hR j q hq; omega)]; exact h4 j q hq
  · obtain ⟨e, hb⟩ := hn b 1 hb (Ne.symm hc.1)
    obtain ⟨g1, g2, g3, g4, g5⟩ := h5 b hb
    exact ⟨by rw [hs b e]; exact g1, by rw [hr b _ e]; exact g2, by omega, by rw [hs _ g3]; exact g4, g5⟩
  · obtain ⟨e, hb⟩ := hn b 3 hb (Ne.symm hc.2.1)
    obtain ⟨g1, g2, g3, g4, g5, g6, g7, g8⟩ := h6 b hb
    exact ⟨by rw [hs b e]; exact g1, by rw [hr b _ e]; exact g2, by rw [hr b _ e]; exact g3, by omega, by rw [hs _ (by omega)]; exact g5, by rw [hs _ (by omega)]; exact g6, by rw [hs _ (by omega)]; exact g7, g8⟩
  · obtain ⟨e, hb⟩ := hn b 70 hb (Ne.symm hc.2.2)
    obtain ⟨g1, g2, g3, g4, g5⟩ := h7 b hb
    exact ⟨by rw [hs b e]; exact g1, by rw [hr b _ e]; exact g2, by omega, by rw [hs _ g3]; exact g4, g5⟩
  · rw [hs a (by omega)]; exact h8 a ha
  · rw [hi a k (by omega)]; exact h9 a k ha
end LY
theorem ext_wI {G : Nat → Bool} (s : aS) (a k : Nat) (v : Int32) (hg : G a = true) : ext G s (wI s a k v) := ⟨Nat.le_refl _, fun _ _ => rfl, fun b _ hb => ⟨fun j => if_neg (fun e => by rw [e.1, hg] at hb; cases hb), fun _ => rfl, fun _ => rfl⟩, fun _ => rfl⟩
theorem ext_wR {G : Nat → Bool} (s : aS) (a k : Nat) (v : Value) (hg : G a = true) : ext G s (wR s a k v) := ⟨Nat.le_refl _, fun _ _ => rfl, fun b _ hb => ⟨fun _ => rfl, fun j => if_neg (fun e => by rw [e.1, hg] at hb; cases hb), fun _ => rfl⟩, fun _ => rfl⟩
theorem ext_wJ {G : Nat → Bool} (s : aS) (a k : Nat) (v : Int64) (hg : G a = true) : ext G s (wJ s a k v) := ⟨Nat.le_refl _, fun _ _ => rfl, fun b _ hb => ⟨fun _ => rfl, fun _ => rfl, fun j => if_neg (fun e => by rw [e.1, hg] at hb; cases hb)⟩, fun _ => rfl⟩
theorem ext_nw {G : Nat → Bool} (s : aS) (c n : Nat) (hg : G (sL s) = true) : ext G s (nw s c n) := ⟨Nat.le_succ _, fun a ha => if_neg (by omega), fun a ha _ => ⟨fun j => if_neg (by omega), fun j => if_neg (by omega), fun j => if_neg (by omega)⟩, fun h => by rw [hg] at h; cases h⟩
/-- means of the printed functions -/
def bu {α β : Type} (x : Option α) (f : α → Option β) : Option β := match x with
  | none => none
  | some a => f a
def bv {α β γ : Type} (x : Option (α × β)) (f : α → β → Option γ) : Option γ := match x with
  | none => none
  | some (a, b) => f a b
def nx {α β : Type} (v : α) (f : α → Option β) : Option β := f v
def vR {β : Type} (v : Value) (f : Nat → Option β) : Option β := match v with
  | .ref b => f b
  | _ => none
def vN {β : Type} (v : Value) (x : Option β) (f : Nat → Option β) : Option β := match v with
  | .null => x
  | .ref b => f b
  | _ => none
def zN {β : Type} (z : xZ) (f : Option Value → Option β) (g : Nat → Option β) : Option β := match z with
  | .inl v => f v
  | .inr e => g e
theorem bu_so {α β : Type} {x : Option α} {f : α → Option β} {o : β} (h : bu x f = some o) : ∃ a, x = some a ∧ f a = some o := by
  cases x with
  | none => cases h
  | some a => exact ⟨a, rfl, h⟩
theorem bv_so {α β γ : Type} {x : Option (α × β)} {f : α → β → Option γ} {o : γ} (h : bv x f = some o) : ∃ a b, x = some (a, b) ∧ f a b = some o := by
  cases x with
  | none => cases h
  | some a => exact ⟨a.1, a.2, rfl, h⟩
theorem nx_so {α β : Type} {v : α} {f : α → Option β} {o : β} (h : nx v f = some o) : ∃ a, a = v ∧ f a = some o := ⟨v, rfl, h⟩
theorem vR_so {β : Type} {v : Value} {f : Nat → Option β} {o : β} (h : vR v f = some o) : ∃ b, v = .ref b ∧ f b = some o := by
  unfold vR at h
  split at h
  · exact ⟨_, rfl, h⟩
  · cases h
theorem vN_so {β : Type} {v : Value} {x : Option β} {f : Nat → Option β} {o : β} (h : vN v x f = some o) : (v = .null ∧ x = some o) ∨ ∃ b, v = .ref b ∧ f b = some o := by
  unfold vN at h
  split at h
  · exact Or.inl ⟨rfl, h⟩
  · exact Or.inr ⟨_, rfl, h⟩
  · cases h
theorem zN_so {β : Type} {z : xZ} {f : Option Value → Option β} {g : Nat → Option β} {o : β} (h : zN z f g = some o) : (∃ v, z = .inl v ∧ f v = some o) ∨ ∃ e, z = .inr e ∧ g e = some o := by
  cases z with
  | inl v => exact Or.inl ⟨v, rfl, h⟩
  | inr e => exact Or.inr ⟨e, rfl, h⟩
theorem ite_so {β : Type} {c : Prop} [Decidable c] {x : Option β} {o : β} (h : (if c then x else none) = some o) : c ∧ x = some o := by
  by_cases hc : c
  · rw [if_pos hc] at h; exact ⟨hc, h⟩
  · rw [if_neg hc] at h; cases h
theorem fit1 {x : Int32} (h : x = 0 ∨ x = 1) : xfit 1 (.int x) = true := by
  rcases h with rfl | rfl <;> rfl
theorem fit4 {x : Int32} (h : 0 ≤ x ∧ x ≤ 65535) : xfit 4 (.int x) = true := by
  show (decide (0 ≤ x) && decide (x ≤ 65535)) = true
  rw [decide_eq_true h.1, decide_eq_true h.2]
  rfl
theorem fit5 {x : Int32} (h : -128 ≤ x ∧ x ≤ 127) : xfit 5 (.int x) = true := by
  show (decide (-128 ≤ x) && decide (x ≤ 127)) = true
  rw [decide_eq_true h.1, decide_eq_true h.2]
  rfl
/-- a switch by equality with numbers -/
theorem i32_ne {x : Int32} {n : Int} (h : ¬ x = Int32.ofInt n) (hn : -2147483648 ≤ n ∧ n ≤ 2147483647) : x.toInt ≠ n := by
  intro e
  apply h
  apply Int32.toInt_inj.mp
  rw [Int32.toInt_ofInt_of_le (by omega) (by omega)]
  exact e
