/-! RUNS of the pure machine, without counting steps -/
def gI (P : List xQ6) (k i : Nat) : Option (Instr × List Nat) := match P[k]? with
  | none => none
  | some M => match M.2.2.2.2.2[i]? with
    | none => none
    | some (_, _, ins, ax) => some (ins, ax)
def G (P : List xQ6) (Cs : List Value) (K d k i : Nat) (ls : xL) (st : List Value) (hp : xH) (o : xZ × xH) : Prop := ∃ n, ex P Cs K n d k i ls st hp = some o
/-- a step that needs no other method -/
def gS (P : List xQ6) (Cs : List Value) (K k i : Nat) (ls : xL) (st : List Value) (hp : xH) : Option (Nat × xL × List Value × xH) := match gI P k i with
  | none => none
  | some (ins, ax) => match x1 K ins ax i ls st hp with
    | some q => some q
    | none => match xT Cs ins ax st with
      | some st' => some (i + 1, ls, st', hp)
      | none => none
/-- an end -/
def gR (P : List xQ6) (Cs : List Value) (K k i : Nat) (ls : xL) (st : List Value) (hp : xH) : Option (Option Value) := match P[k]? with
  | none => none
  | some M => match M.2.2.2.2.2[i]? with
    | none => none
    | some (_, _, ins, ax) => match x1 K ins ax i ls st hp with
      | some _ => none
      | none => match xT Cs ins ax st with
        | some _ => none
        | none => xret M.2.2.2.1 ins st
/-- a call: the method, its locals, what stays -/
def gC (P : List xQ6) (Cs : List Value) (K k i : Nat) (ls : xL) (st : List Value) (hp : xH) : Option (Nat × xL × List Value) := match P[k]? with
  | none => none
  | some M => match M.2.2.2.2.2[i]? with
    | none => none
    | some (_, _, ins, ax) => match x1 K ins ax i ls st hp, xT Cs ins ax st, xret M.2.2.2.1 ins st, xsp K ins ax st hp with
      | none, none, none, none => match xcall ins ax st hp with
        | none => none
        | some (k1, as, r) => match P[k1]? with
          | none => none
          | some M1 => if (xent as M1.2.2.1).length = M1.2.2.1 then some (k1, xent as M1.2.2.1, r) else none
      | _, _, _, _ => none
/-- Object's constructor, copying -/
def gP (P : List xQ6) (Cs : List Value) (K k i : Nat) (ls : xL) (st : List Value) (hp : xH) : Option (List Value × xH) := match P[k]? with
  | none => none
  | some M => match M.2.2.2.2.2[i]? with
    | none => none
    | some (_, _, ins, ax) => match x1 K ins ax i ls st hp, xT Cs ins ax st, xret M.2.2.2.1 ins st with
      | none, none, none => xsp K ins ax st hp
      | _, _, _ => none
/-- a throw -/
def gT (P : List xQ6) (Cs : List Value) (K k i : Nat) (ls : xL) (st : List Value) (hp : xH) : Option Nat := match P[k]? with
  | none => none
  | some M => match M.2.2.2.2.2[i]? with
    | none => none
    | some (_, _, ins, ax) => match x1 K ins ax i ls st hp, xT Cs ins ax st, xret M.2.2.2.1 ins st, xsp K ins ax st hp, xcall ins ax st hp with
      | none, none, none, none, none => xthr ins ax
      | _, _, _, _, _ => none
def gH (P : List xQ6) (k i z : Nat) : Option Nat := match P[k]? with
  | none => none
  | some M => xhd M.2.2.2.2.1 i z
section GO
variable {P : List xQ6} {Cs : List Value} {K : Nat}
theorem ex_S {n d k i : Nat} {ls ls' : xL} {st st' : List Value} {hp hp' : xH} {i' : Nat} (h : gS P Cs K k i ls st hp = some (i', ls', st', hp')) : ex P Cs K (n + 1) d k i ls st hp = ex P Cs K n d k i' ls' st' hp' := by
  unfold gS gI at h
  rw [ex]
  cases hM : P[k]? with
  | none => simp [hM] at h
  | some M =>
    simp only [hM] at h ⊢
    cases hE : M.2.2.2.2.2[i]? with
    | none => simp [hE] at h
    | some E =>
      obtain ⟨pc, len, ins, ax⟩ := E
      simp only [hE] at h ⊢
      cases h1 : x1 K ins ax i ls st hp with
      | some q =>
        simp only [h1] at h
        cases h
        simp only [h1]
      | none =>
        simp only [h1] at h ⊢
        cases h2 : xT Cs ins ax st with
        | none => simp [h2] at h
        | some q =>
          simp only [h2] at h
          cases h
          simp only [h2]
theorem ex_R {n d k i : Nat} {ls : xL} {st : List Value} {hp : xH} {r : Option Value} (h : gR P Cs K k i ls st hp = some r) : ex P Cs K (n + 1) d k i ls st hp = some (.inl r, hp) := by
  unfold gR at h
  rw [ex]
  cases hM : P[k]? with
  | none => simp [hM] at h
  | some M =>
    simp only [hM] at h ⊢
    cases hE : M.2.2.2.2.2[i]? with
    | none => simp [hE] at h
    | some E =>
      obtain ⟨pc, len, ins, ax⟩ := E
      simp only [hE] at h ⊢
      cases h1 : x1 K ins ax i ls st hp with
      | some q => simp [h1] at h
      | none =>
        simp only [h1] at h ⊢
        cases h2 : xT Cs ins ax st with
        | some q => simp [h2] at h
        | none =>
          simp only [h2] at h ⊢
          simp only [h]
theorem ex_P {n d k i : Nat} {ls : xL} {st st' : List Value} {hp hp' : xH} (h : gP P Cs K k i ls st hp = some (st', hp')) : ex P Cs K (n + 1) (d + 1) k i ls st hp = ex P Cs K n (d + 1) k (i + 1) ls st' hp' := by
  unfold gP at h
  rw [ex]
  cases hM : P[k]? with
  | none => simp [hM] at h
  | some M =>
    simp only [hM] at h ⊢
    cases hE : M.2.2.2.2.2[i]? with
    | none => simp [hE] at h
    | some E =>
      obtain ⟨pc, len, ins, ax⟩ := E
      simp only [hE] at h ⊢
      split at h
      · rename_i h1 h2 h3
        simp only [h1, h2, h3, h]
      · cases h
theorem ex_T {n d k i z : Nat} {ls : xL} {hp : xH} (h : gT P Cs K k i ls [] hp = some z) (hd : 8 ≤ d) : ex P Cs K (n + 1) (d + 1) k i ls [] hp = some (.inr z, hp ++ [(80 + z, [])]) := by
  unfold gT at h
  rw [ex]
  cases hM : P[k]? with
  | none => simp [hM] at h
  | some M =>
    simp only [hM] at h ⊢
    cases hE : M.2.2.2.2.2[i]? with
    | none => simp [hE] at h
    | some E =>
      obtain ⟨pc, len, ins, ax⟩ := E
      simp only [hE] at h ⊢
      split at h
      · rename_i h1 h2 h3 h4 h5
        simp only [h1, h2, h3, h4, h5, h]
        rw [if_pos ⟨hd, rfl⟩]
      · cases h
theorem ex_C {n d k i k1 : Nat} {ls ls1 : xL} {st r : List Value} {hp hp1 : xH} {v : Option Value} (h : gC P Cs K k i ls st hp = some (k1, ls1, r)) (h1 : ex P Cs K n d k1 0 ls1 [] hp = some (.inl v, hp1)) : ex P Cs K (n + 1) (d + 1) k i ls st hp = ex P Cs K n (d + 1) k (i + 1) ls (v.toList ++ r) hp1 := by
  unfold gC at h
  rw [ex]
  cases hM : P[k]? with
  | none => simp [hM] at h
  | some M =>
    simp only [hM] at h ⊢
    cases hE : M.2.2.2.2.2[i]? with
    | none => simp [hE] at h
    | some E =>
      obtain ⟨pc, len, ins, ax⟩ := E
      simp only [hE] at h ⊢
      split at h
      · rename_i g1 g2 g3 g4
        split at h
        · cases h
        · rename_i k2 as r2 g5
          split at h
          · cases h
          · rename_i M1 g6
            split at h
            · rename_i g7
              cases h
              simp only [g1, g2, g3, g4, g5, g6, if_pos g7, h1]
            · cases h
      · cases h
theorem ex_H {n d k i k1 z t : Nat} {ls ls1 : xL} {st r : List Value} {hp hp1 : xH} (h : gC P Cs K k i ls st hp = some (k1, ls1, r)) (h1 : ex P Cs K n d k1 0 ls1 [] hp = some (.inr z, hp1)) (ht : gH P k i z = some t) : ex P Cs K (n + 1) (d + 1) k i ls st hp = ex P Cs K n (d + 1) k t ls [.ref (hp1.length - 1)] hp1 := by
  unfold gC at h
  unfold gH at ht
  rw [ex]
  cases hM : P[k]? with
  | none => simp [hM] at h
  | some M =>
    simp only [hM] at h ht ⊢
    cases hE : M.2.2.2.2.2[i]? with
    | none => simp [hE] at h
    | some E =>
      obtain ⟨pc, len, ins, ax⟩ := E
      simp only [hE] at h ⊢
      split at h
      · rename_i g1 g2 g3 g4
        split at h
        · cases h
        · rename_i k2 as r2 g5
          split at h
          · cases h
          · rename_i M1 g6
            split at h
            · rename_i g7
              cases h
              simp only [g1, g2, g3, g4, g5, g6, if_pos g7, h1, ht]
            · cases h
      · cases h
theorem ex_succ : ∀ (n d k i : Nat) (ls : xL) (st : List Value) (hp : xH) (o : xZ × xH), ex P Cs K n d k i ls st hp = some o → ex P Cs K (n + 1) d k i ls st hp = some o := by
  intro n
  induction n with
  | zero => intro d k i ls st hp o h; simp [ex] at h
  | succ n ih =>
    intro d k i ls st hp o h
    rw [ex] at h ⊢
    cases hM : P[k]? with
    | none => simp [hM] at h
    | some M =>
      simp only [hM] at h ⊢
      cases hE : M.2.2.2.2.2[i]? with
      | none => simp [hE] at h
      | some E =>
        obtain ⟨pc, len, ins, ax⟩ := E
        simp only [hE] at h ⊢
        cases h1 : x1 K ins ax i ls st hp with
        | some q =>
          obtain ⟨i', ls', st', hp'⟩ := q
          simp only [h1] at h ⊢
          exact ih _ _ _ _ _ _ _ h
        | none =>
          simp only [h1] at h ⊢
          cases h2 : xT Cs ins ax st with
          | some q =>
            simp only [h2] at h ⊢
            exact ih _ _ _ _ _ _ _ h
          | none =>
            simp only [h2] at h ⊢
            cases h3 : xret M.2.2.2.1 ins st with
            | some q =>
              simp only [h3] at h ⊢
              exact h
            | none =>
              simp only [h3] at h ⊢
              cases d with
              | zero => simp at h
              | succ d =>
                simp only at h ⊢
                cases h4 : xsp K ins ax st hp with
                | some q =>
                  obtain ⟨st', hp'⟩ := q
                  simp only [h4] at h ⊢
                  exact ih _ _ _ _ _ _ _ h
                | none =>
                  simp only [h4] at h ⊢
                  cases h5 : xcall ins ax st hp with
                  | none =>
                    simp only [h5] at h ⊢
                    exact h
                  | some q =>
                    obtain ⟨k1, as, r⟩ := q
                    simp only [h5] at h ⊢
                    cases h6 : P[k1]? with
                    | none => simp [h6] at h
                    | some M1 =>
                      simp only [h6] at h ⊢
                      split at h
                      · rename_i h7
                        rw [if_pos h7]
                        cases h8 : ex P Cs K n d k1 0 (xent as M1.2.2.1) [] hp with
                        | none => simp [h8] at h
                        | some q =>
                          rw [ih _ _ _ _ _ _ _ h8]
                          obtain ⟨z, hp1⟩ := q
                          simp only [h8] at h
                          cases z with
                          | inl v =>
                            simp only at h ⊢
                            exact ih _ _ _ _ _ _ _ h
                          | inr z =>
                            simp only at h ⊢
                            cases h9 : xhd M.2.2.2.2.1 i z with
                            | none => simp [h9] at h
                            | some t =>
                              simp only [h9] at h ⊢
                              exact ih _ _ _ _ _ _ _ h
                      · cases h
theorem ex_le {n m d k i : Nat} {ls : xL} {st : List Value} {hp : xH} {o : xZ × xH} (h : ex P Cs K n d k i ls st hp = some o) (hm : n ≤ m) : ex P Cs K m d k i ls st hp = some o := by
  obtain ⟨j, rfl⟩ := Nat.exists_eq_add_of_le hm
  induction j with
  | zero => exact h
  | succ j ih => exact ex_succ _ _ _ _ _ _ _ _ (ih (Nat.le_add_right _ _))
theorem G.s {d k i : Nat} {ls ls' : xL} {st st' : List Value} {hp hp' : xH} {i' : Nat} {o : xZ × xH} (h : gS P Cs K k i ls st hp = some (i', ls', st', hp')) (g : G P Cs K d k i' ls' st' hp' o) : G P Cs K d k i ls st hp o := by
  obtain ⟨n, g⟩ := g
  exact ⟨n + 1, (ex_S h).trans g⟩
theorem G.r {d k i : Nat} {ls : xL} {st : List Value} {hp : xH} {r : Option Value} (h : gR P Cs K k i ls st hp = some r) : G P Cs K d k i ls st hp (.inl r, hp) := ⟨1, ex_R h⟩
theorem G.p {d k i : Nat} {ls : xL} {st st' : List Value} {hp hp' : xH} {o : xZ × xH} (h : gP P Cs K k i ls st hp = some (st', hp')) (g : G P Cs K (d + 1) k (i + 1) ls st' hp' o) : G P Cs K (d + 1) k i ls st hp o := by
  obtain ⟨n, g⟩ := g
  exact ⟨n + 1, (ex_P h).trans g⟩
theorem G.t {d k i z : Nat} {ls : xL} {hp : xH} (h : gT P Cs K k i ls [] hp = some z) (hd : 8 ≤ d) : G P Cs K (d + 1) k i ls [] hp (.inr z, hp ++ [(80 + z, [])]) := ⟨1, ex_T h hd⟩
theorem G.c {d k i k1 : Nat} {ls ls1 : xL} {st r : List Value} {hp hp1 : xH} {v : Option Value} {o : xZ × xH} (h : gC P Cs K k i ls st hp = some (k1, ls1, r)) (h1 : G P Cs K d k1 0 ls1 [] hp (.inl v, hp1)) (g : G P Cs K (d + 1) k (i + 1) ls (v.toList ++ r) hp1 o) : G P Cs K (d + 1) k i ls st hp o := by
  obtain ⟨n1, h1⟩ := h1
  obtain ⟨n2, g⟩ := g
  exact ⟨(n1 + n2) + 1, (ex_C h (ex_le h1 (Nat.le_add_right _ _))).trans (ex_le g (Nat.le_add_left _ _))⟩
theorem G.h {d k i k1 z t : Nat} {ls ls1 : xL} {st r : List Value} {hp hp1 : xH} {o : xZ × xH} (h : gC P Cs K k i ls st hp = some (k1, ls1, r)) (h1 : G P Cs K d k1 0 ls1 [] hp (.inr z, hp1)) (ht : gH P k i z = some t) (g : G P Cs K (d + 1) k t ls [.ref (hp1.length - 1)] hp1 o) : G P Cs K (d + 1) k i ls st hp o := by
  obtain ⟨n1, h1⟩ := h1
  obtain ⟨n2, g⟩ := g
  exact ⟨(n1 + n2) + 1, (ex_H h (ex_le h1 (Nat.le_add_right _ _)) ht).trans (ex_le g (Nat.le_add_left _ _))⟩
end GO
