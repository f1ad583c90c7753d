section XR
variable {l : Launch} {cl : List vw_C} {kc : Nat → ClassId} {sl : Nat → Nat → Nat} {s0 : State} {B K : Nat} {pre : Nat → Nat} {Ts Ns : List Cond} {X : State → Prop} {P : List xQ6} {Cs : List Value} {Ss : List (String × Nat × String × Nat)} {Zs : List (String × String × String × Nat)}
/-- what stands at a constant -/
def xcst (Ts : List Cond) (Cs : List Value) (Ss : List (String × Nat × String × Nat)) (Zs : List (String × String × String × Nat)) (K : Nat) (own : String) (ins : Instr) (ax : List Nat) : Prop := match ins, ax with
  | .ldc idx, c :: _ => (∃ v : Int32, Cs[c]? = some (.int v) ∧ Cond.constant own idx v ∈ Ts) ∨ ∃ (tx : String) (j : Nat), Cs[c]? = some (.ref j) ∧ j < K ∧ (own, idx, tx, j) ∈ Ss
  | .ldc_w idx, c :: _ => ∃ v : Int32, Cs[c]? = some (.int v) ∧ Cond.constant own idx v ∈ Ts
  | .ldc2_w idx, c :: _ => ∃ v : Int64, Cs[c]? = some (.long v) ∧ Cond.constantLong own idx v ∈ Ts
  | .getstatic idx, c :: _ => ∃ C n d : String, Cond.fieldLink own idx C n d ∈ Ts ∧ (C, n, d, c) ∈ Zs
  | _, _ => True
set_option maxHeartbeats 4000000 in
theorem x_hT (hall : xall Ts Ns cl P) (hXS : ∀ s : State, X s → ∀ q ∈ Ss, vk_R q.1 q.2.1 q.2.2.1 (pre q.2.2.2) s) (hZ : ∀ q ∈ Zs, ∀ v : Value, Cs[q.2.2.2]? = some v → va_Z q.1 q.2.1 q.2.2.1 (tv (xr B K pre) v) (fun a => B ≤ a) s0 s0.heap)
    (hcs : ∀ (k : Nat) (M : xQ6) (i pc len : Nat) (ins : Instr) (ax : List Nat), P[k]? = some M → M.2.2.2.2.2[i]? = some (pc, len, ins, ax) → xcst Ts Cs Ss Zs K M.1.cls ins ax) : xHT l cl kc sl s0 B K pre Ts X P Cs := by
  intro k M i pc len ins ax st st' hM hE h p e R s m args below meth c H locs cells slots Q lr hp hctx hR kk
  obtain ⟨hexec, hb, hml, hret, hlk, hnm, hown, hts, hal, hXs, hs0, hexc⟩ := hctx
  obtain ⟨hdec, hlen0, -, -, -, -, -⟩ := (hall.1 k M hM).2 i _ hE
  have hlen9 : len = xLen ins := x_len hlen0 (xT_fl h).1
  clear hlen0
  subst hlen9
  have hc := hcs k M i pc _ ins ax hM hE
  unfold xT at h
  split at h
  · rename_i idx cc rs
    obtain ⟨v, h1, h2⟩ := Option.map_eq_some_iff.mp h
    cases h2
    rcases hc with ⟨w, q1, q2⟩ | ⟨tx, j, q1, q2, q3⟩
    · cases h1.symm.trans q1
      exact lv_ldc hexec hb hown (hts _ q2) hdec kk
    · cases h1.symm.trans q1
      have e9 : tv (xr B K pre) (.ref j) = .ref (pre j) := by
        show Value.ref (xr B K pre j) = _
        unfold xr
        rw [if_pos q2]
      have kk' : W p l e R s m args below meth c H locs cells slots Q (F0 m (pc + 2) lr (tv (xr B K pre) (.ref j) :: st.map (tv (xr B K pre)))) := kk
      rw [e9] at kk'
      exact va_ldcS hexec hb hown (hXS s hXs _ q3) hdec kk'
  · rename_i idx cc rs
    obtain ⟨v, h1, h2⟩ := Option.map_eq_some_iff.mp h
    cases h2
    obtain ⟨w, q1, q2⟩ := hc
    cases h1.symm.trans q1
    exact lv_ldcw hexec hb hown (hts _ q2) hdec kk
  · rename_i idx cc rs
    obtain ⟨v, h1, h2⟩ := Option.map_eq_some_iff.mp h
    cases h2
    obtain ⟨w, q1, q2⟩ := hc
    cases h1.symm.trans q1
    exact lv_ldc2 hexec hb hown (hts _ q2) hdec kk
  · rename_i idx cc rs
    obtain ⟨v, h1, h2⟩ := Option.map_eq_some_iff.mp h
    cases h2
    obtain ⟨C, n, d, q1, q2⟩ := hc
    obtain ⟨cf, kf, fi, f, a, cell, z1, z2, z3, z4, z5, z6, z7, z8⟩ := va_Z.moved hal (hZ _ q2 v h1)
    refine W.gets hexec hb hown (hts _ q1) z1 z2 z3 z4 (v := tv (xr B K pre) v) (by rw [hR.2.2.2 a (Nat.not_le.mp z8)]; exact z5) (fun q => by rw [q] at z6; cases z6) z7 rfl hdec kk
  · cases h
end XR
