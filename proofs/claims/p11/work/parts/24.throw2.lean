section XN
variable {l : Launch} {cl : List vw_C} {kc : Nat → ClassId} {sl : Nat → Nat → Nat} {s0 : State} {B K : Nat} {pre : Nat → Nat} {Ts Ns As : List Cond} {X : State → Prop} {P : List xQ6} {Cs : List Value} {Ss : List (String × Nat × String × Nat)}
/-- what stands at a throw -/
def xthk (Ts As : List Cond) (Ss : List (String × Nat × String × Nat)) (M : xQ6) (i z : Nat) : Prop := ∃ (i1 i2 ic j : Nat) (tx cls : String) (names : List String), M.2.2.2.2.1 = [] ∧ decode M.2.1 (xpc M i) = .ok (.new i1, 3) ∧ decode M.2.1 (xpc M i + 3) = .ok (.dup, 1) ∧ decode M.2.1 (xpc M i + 4) = .ok (.ldc i2, 2) ∧ decode M.2.1 (xpc M i + 6) = .ok (.invokespecial ic, 3) ∧ decode M.2.1 (xpc M i + 9) = .ok (.athrow, 1) ∧
  xen z = some cls ∧ names.length ≤ 3 ∧ Cond.classLink M.1.cls i1 cls ∈ Ts ∧ Cond.instantiable cls 6 ∈ Ts ∧ Cond.initialized cls ∈ Ts ∧ (M.1.cls, i2, tx, j) ∈ Ss ∧ (∀ a ∈ Bundle.ownAtoms M.1.cls ic cls names, a ∈ Ts ∨ a ∈ As) ∧ Bundle.fit cls = true ∧ ∀ n ∈ names, Bundle.fit n = true
set_option maxHeartbeats 8000000 in
theorem x_hR (hall : xall Ts Ns cl P) (hXW : ∀ s U : State, s.WarmedH U.vm → X s → X U) (hTr : ∀ e : Env, l.admits e → e.platform.stackTraces = false) (hXS : ∀ s : State, X s → ∀ q ∈ Ss, vk_R q.1 q.2.1 q.2.2.1 (pre q.2.2.2) s) (hXA : ∀ (args : Array Value) (s : State), X s → (∀ q : Nat, q < B → s.heap[q]? = s0.heap[q]?) → ∀ a ∈ As, a.before args s = true) (hEx : xEx kc s0)
    (hthk : ∀ (k : Nat) (M : xQ6) (i pc len : Nat) (ins : Instr) (ax : List Nat) (z : Nat), P[k]? = some M → M.2.2.2.2.2[i]? = some (pc, len, ins, ax) → xthr ins ax = some z → xthk Ts As Ss M i z) : xHR l cl kc sl s0 B K pre Ts X P := by
  intro k M i pc len ins ax ls hp z hM hE hth d hd M' hM' hls p e R s m args below meth c H locs cells slots mc ms lr hctx hR hL hlo hmc hms hRc hRs hfr hloc
  cases Option.some.inj (hM.symm.trans hM')
  obtain ⟨hexec, hb, hml, hret, hlk, hnm, hown, hts, hal, hXs, hs0, hexc⟩ := id hctx
  obtain ⟨i1, i2, ic, j, tx, cls, names, hhd, d0, d3, d4, d6, d9, hcls, hnl, hw1, hw2, hw3, hSs, hat, hf1, hf2⟩ := hthk k M i pc len ins ax z hM hE hth
  have hz3 := xen_lt hcls
  have hlen : (hp ++ [((80 + z, []) : xO)]).length = hp.length + 1 := by simp
  have hsz : xsz (hp ++ [((80 + z, []) : xO)]) = xsz hp + 6 := by rw [xsz_push]; unfold xwt; rw [if_pos ⟨by show 80 ≤ 80 + z; omega, by show 80 + z < 100; omega⟩]
  rw [hlen] at hmc
  rw [hsz] at hms
  have hexc0 : c.exceptionTable.toList = [] := by
    have : c.exceptionTable.toList.map (fun h => (h.startPc, h.endPc, h.handlerPc, h.catchType)) = [] := by rw [hexc]; unfold xrh; rw [hhd]; rfl
    exact List.map_eq_nil_iff.mp this
  intro T hT XS
  obtain ⟨t, a1, a2, a3, a4, a5, ⟨ce, a6, a7, a8⟩, a9, a10⟩ := x_thr (H := H) (B := B) (s0 := s0) (own := M.1.cls) (cls := cls) (tx := tx) (names := names) (i1 := i1) (i2 := i2) (ic := ic) (q9 := pre j) (pc := xpc M i) (lr := lr) hall.2.2 hexec hb ((hL.1.trans hls).trans hml.symm) hlk hown hts hTr d0 d3 d4 d6 d9 hw1 hw2 hw3 (fun U hW => hXS U (hXW s U hW hXs) _ hSs)
    (fun U hW hq a ha => by
      rcases hat a ha with h | h
      · exact pay_in hts hall.2.2 a h args U hW
      · exact hXA args U (hXW s U hW hXs) hq a h) hf1 hf2 hexc0 (by omega) (by omega) (by omega) (by omega) hR.2.2.2 hT XS
  have hcl9 : ce.cls = kc (80 + z) := by
    rw [hal.findClass, (hEx z z cls cls hcls hcls).1] at a7
    exact (Option.some.inj a7).symm
  refine ⟨t, a1, .threw H.size, a2, a3, ⟨xRp_push hR a6 a9 a10 ⟨⟨fun _ => hcl9, fun g => absurd g (by show ¬ 100 ≤ 80 + z; omega), fun g => absurd g (by show ¬ 110 ≤ 80 + z; omega)⟩, vm_nu a8, vm_ns a8, fun _ => a8, fun j v hj => by simp at hj, fun g => absurd g (by show ¬ 100 ≤ 80 + z; omega), fun _ q hq => Nat.zero_le _⟩, ?_⟩, locs, ⟨⟨_, rfl⟩, a4, a5.mono (by omega) (by omega)⟩, hlo⟩
  show Outcome.threw H.size = .threw (xr B K pre ((hp ++ [((80 + z, []) : xO)]).length - 1))
  rw [hlen, Nat.add_sub_cancel, xr_len hR]
end XN
