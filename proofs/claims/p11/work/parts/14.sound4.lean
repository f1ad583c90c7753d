/-! sizes grow; lengths of locals stay -/
def xwt (o : xO) : Nat := if 80 ≤ o.1 ∧ o.1 < 100 then 6 else o.2.length
def xsz (hp : xH) : Nat := (hp.map xwt).sum
theorem xsz_set {hp : xH} {a c : Nat} {vs vs' : List Value} (ha : hp[a]? = some (c, vs)) (hl : vs'.length = vs.length) : xsz (hp.set a (c, vs')) = xsz hp := by
  unfold xsz
  congr 1
  refine List.ext_getElem? fun i => ?_
  rw [List.getElem?_map, List.getElem?_map]
  by_cases h : i = a
  · subst h
    rw [List.getElem?_set_self (List.getElem?_eq_some_iff.mp ha).1, ha]
    simp [xwt, hl]
  · rw [List.getElem?_set_ne (fun q => h q.symm)]
theorem xsz_push (hp : xH) (o : xO) : xsz (hp ++ [o]) = xsz hp + xwt o := by
  unfold xsz
  simp
theorem xst1_len {i : Nat} {v : Value} {ls ls' : xL} (h : xst1 i v ls = some ls') : ls'.length = ls.length := by
  unfold xst1 at h
  split at h
  · cases h; simp
  · cases h
theorem xst2_len {i : Nat} {v : Value} {ls ls' : xL} (h : xst2 i v ls = some ls') : ls'.length = ls.length := by
  unfold xst2 at h
  split at h
  · cases h; simp
  · cases h
theorem xV_len {ins : Instr} {ls ls' : xL} {st st' : List Value} (h : xV ins ls st = some (ls', st')) : ls'.length = ls.length := by
  unfold xV at h
  split at h <;> first
    | (obtain ⟨v, h1, h2⟩ := Option.map_eq_some_iff.mp h; cases h2; first | rfl | exact xst1_len h1 | exact xst2_len h1)
    | (split at h <;> first | (obtain ⟨v, h1, h2⟩ := Option.map_eq_some_iff.mp h; cases h2; exact xst1_len h1) | cases h)
    | cases h
theorem xW_sz {K : Nat} {ins : Instr} {ax : List Nat} {st st' : List Value} {hp hp' : xH} (h : xW K ins ax st hp = some (st', hp')) : hp'.length = hp.length ∧ xsz hp' = xsz hp := by
  have up : ∀ {a : Nat} {ok : Nat → Bool} {j : Int32} {v : Nat → Value} {h' : xH}, xup K hp a ok j v = some h' → h'.length = hp.length ∧ xsz h' = xsz hp := by
    intro a ok j v h' h1
    obtain ⟨c1, vs, ha, -, -, -, -, rfl⟩ := xup_ok h1
    exact ⟨by simp, xsz_set ha (by simp)⟩
  unfold xW at h
  split at h
  · split at h
    · rename_i c1 vs ha
      split at h
      · cases h
        exact ⟨by simp, xsz_set ha (by simp)⟩
      · cases h
    · cases h
  · obtain ⟨v, h1, h2⟩ := Option.map_eq_some_iff.mp h; cases h2; exact up h1
  · obtain ⟨v, h1, h2⟩ := Option.map_eq_some_iff.mp h; cases h2; exact up h1
  · obtain ⟨v, h1, h2⟩ := Option.map_eq_some_iff.mp h; cases h2; exact up h1
  · obtain ⟨v, h1, h2⟩ := Option.map_eq_some_iff.mp h; cases h2; exact up h1
  · split at h
    · split at h
      · obtain ⟨v, h1, h2⟩ := Option.map_eq_some_iff.mp h; cases h2; exact up h1
      · cases h
    · cases h
  · cases h
theorem xA_sz {ins : Instr} {ax : List Nat} {st st' : List Value} {hp hp' : xH} (h : xA ins ax st hp = some (st', hp')) : ∃ o : xO, hp' = hp ++ [o] ∧ xwt o = o.2.length := by
  unfold xA at h
  split at h
  · split at h
    · rename_i hq
      cases h; exact ⟨_, rfl, by unfold xwt; rw [if_neg (by simp; omega)]⟩
    · cases h
  · split at h
    · rename_i hq
      cases h; exact ⟨_, rfl, by unfold xwt; rw [if_neg (by simp; omega)]⟩
    · cases h
  · split at h
    · cases h; exact ⟨_, rfl, by unfold xwt; rw [if_neg (by simp; omega)]⟩
    · cases h
  · cases h
theorem xsp_sz {K : Nat} {ins : Instr} {ax : List Nat} {st st' : List Value} {hp hp' : xH} (h : xsp K ins ax st hp = some (st', hp')) : hp'.length = hp.length ∧ xsz hp' = xsz hp := by
  unfold xsp at h
  split at h
  · split at h
    · cases h; exact ⟨rfl, rfl⟩
    · cases h
  · split at h
    · rename_i n dp d sp q r cq vq cd vd h1 h2
      split at h
      · rename_i hc
        cases h
        obtain ⟨-, -, -, -, -, -, -, -, g1, g2, -⟩ := hc
        exact ⟨by simp, xsz_set h2 (by simp; omega)⟩
      · cases h
    · cases h
  · split at h
    · cases h; exact ⟨rfl, rfl⟩
    · cases h
  · split at h
    · cases h; exact ⟨rfl, rfl⟩
    · cases h
  · cases h
theorem x1_sz {K : Nat} {ins : Instr} {ax : List Nat} {i i' : Nat} {ls ls' : xL} {st st' : List Value} {hp hp' : xH} (h : x1 K ins ax i ls st hp = some (i', ls', st', hp')) : hp.length ≤ hp'.length ∧ xsz hp ≤ xsz hp' ∧ ls'.length = ls.length := by
  unfold x1 at h
  split at h
  · cases h; exact ⟨Nat.le_refl _, Nat.le_refl _, rfl⟩
  · split at h
    · rename_i h1
      cases h; exact ⟨Nat.le_refl _, Nat.le_refl _, xV_len h1⟩
    · split at h
      · cases h; exact ⟨Nat.le_refl _, Nat.le_refl _, rfl⟩
      · split at h
        · cases h; exact ⟨Nat.le_refl _, Nat.le_refl _, rfl⟩
        · split at h
          · rename_i h1
            cases h
            obtain ⟨g1, g2⟩ := xW_sz h1
            exact ⟨Nat.le_of_eq g1.symm, Nat.le_of_eq g2.symm, rfl⟩
          · split at h
            · rename_i h1
              cases h
              obtain ⟨o, rfl, -⟩ := xA_sz h1
              exact ⟨by simp, by rw [xsz_push]; exact Nat.le_add_right _ _, rfl⟩
            · cases h
set_option maxHeartbeats 4000000 in
theorem ex_sz {P : List xQ6} {Cs : List Value} {K : Nat} : ∀ (n d k i : Nat) (ls : xL) (st : List Value) (hp : xH) (z : xZ) (hp' : xH), ex P Cs K n d k i ls st hp = some (z, hp') → hp.length ≤ hp'.length ∧ xsz hp ≤ xsz hp' := by
  intro n
  induction n with
  | zero => intro d k i ls st hp z hp' h; simp [ex] at h
  | succ n ih =>
    intro d k i ls st hp z hp' h
    unfold ex at h
    split at h
    · cases h
    · split at h
      · cases h
      · split at h
        · rename_i h1
          obtain ⟨g1, g2, -⟩ := x1_sz h1
          obtain ⟨g3, g4⟩ := ih _ _ _ _ _ _ _ _ h
          exact ⟨Nat.le_trans g1 g3, Nat.le_trans g2 g4⟩
        · split at h
          · exact ih _ _ _ _ _ _ _ _ h
          · split at h
            · cases h; exact ⟨Nat.le_refl _, Nat.le_refl _⟩
            · split at h
              · cases h
              · split at h
                · rename_i h1
                  obtain ⟨g1, g2⟩ := xsp_sz h1
                  obtain ⟨g3, g4⟩ := ih _ _ _ _ _ _ _ _ h
                  exact ⟨by omega, by omega⟩
                · split at h
                  · split at h
                    · cases h
                    · split at h
                      · split at h
                        · cases h
                        · rename_i h1
                          obtain ⟨g1, g2⟩ := ih _ _ _ _ _ _ _ _ h1
                          obtain ⟨g3, g4⟩ := ih _ _ _ _ _ _ _ _ h
                          exact ⟨Nat.le_trans g1 g3, Nat.le_trans g2 g4⟩
                        · rename_i h1
                          split at h
                          · cases h
                          · obtain ⟨g1, g2⟩ := ih _ _ _ _ _ _ _ _ h1
                            obtain ⟨g3, g4⟩ := ih _ _ _ _ _ _ _ _ h
                            exact ⟨Nat.le_trans g1 g3, Nat.le_trans g2 g4⟩
                      · cases h
                  · split at h
                    · split at h
                      · cases h
                        exact ⟨by simp, by rw [xsz_push]; exact Nat.le_add_right _ _⟩
                      · cases h
                    · cases h
set_option maxHeartbeats 4000000 in
/-- what was thrown lies last in the heap -/
theorem ex_thrown {P : List xQ6} {Cs : List Value} {K : Nat} : ∀ (n d k i : Nat) (ls : xL) (st : List Value) (hp : xH) (z : Nat) (hp' : xH), ex P Cs K n d k i ls st hp = some (.inr z, hp') → ∃ hp0 : xH, hp' = hp0 ++ [(80 + z, [])] := by
  intro n
  induction n with
  | zero => intro d k i ls st hp z hp' h; simp [ex] at h
  | succ n ih =>
    intro d k i ls st hp z hp' h
    unfold ex at h
    split at h
    · cases h
    · split at h
      · cases h
      · split at h
        · exact ih _ _ _ _ _ _ _ _ h
        · split at h
          · exact ih _ _ _ _ _ _ _ _ h
          · split at h
            · cases h
            · split at h
              · cases h
              · split at h
                · exact ih _ _ _ _ _ _ _ _ h
                · split at h
                  · split at h
                    · cases h
                    · split at h
                      · split at h
                        · cases h
                        · exact ih _ _ _ _ _ _ _ _ h
                        · split at h
                          · cases h
                          · exact ih _ _ _ _ _ _ _ _ h
                      · cases h
                  · split at h
                    · split at h
                      · cases h
                        exact ⟨hp, rfl⟩
                      · cases h
                    · cases h
