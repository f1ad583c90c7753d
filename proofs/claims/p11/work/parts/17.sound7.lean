section X7
variable {l : Launch} {cl : List vw_C} {kc : Nat → ClassId} {sl : Nat → Nat → Nat} {s0 : State} {B K : Nat} {pre : Nat → Nat} {Ts Ns : List Cond} {X : State → Prop} {P : List xQ6} {Cs : List Value}
theorem x_len {ins : Instr} {len : Nat} (h : xsw ins = true ∨ len = xLen ins) (h2 : xsw ins = false) : len = xLen ins := by
  rcases h with h | h
  · rw [h2] at h; cases h
  · exact h
set_option maxHeartbeats 16000000 in
/-- THE PURE MACHINE IS THE MACHINE -/
theorem x_main (hall : xall Ts Ns cl P) (hXN : ∀ s : State, X s → ∀ w ∈ Ns, va_Nw w s) (hXW : ∀ s U : State, s.WarmedH U.vm → X s → X U) (hX : ∀ u U : State, u.vm = U.vm → X u → X U) (hG0 : ∀ (ci : Nat) (q : vw_C), cl[ci]? = some q → u_Kn s0 q.1 q.2.1 q.2.2 (kc ci) (sl ci)) (hNm : ∀ (ci : Nat) (q : String), xnm cl ci = some q → s0.vm.findClass q = some (kc ci)) (hStr : ∀ s : State, X s → xStr sl s) (hpre : ∀ i, i + 1 < K → pre i < B)
    (hT : xHT l cl kc sl s0 B K pre Ts X P Cs) (hA : xHA l cl kc sl s0 B K pre Ts X P) (hRt : xHR l cl kc sl s0 B K pre Ts X P) (hC : xHC l cl kc sl s0 B K pre Ts X P) :
    ∀ (n d k i : Nat) (ls : xL) (st : List Value) (hp : xH) (z : xZ) (hp' : xH), ex P Cs K n d k i ls st hp = some (z, hp') → xGo l cl kc sl s0 B K pre Ts X P d k i ls st hp z hp' := by
  intro n
  induction n with
  | zero => intro d k i ls st hp z hp' h; simp [ex] at h
  | succ n ih =>
    intro d k i ls st hp z hp' h
    unfold ex at h
    split at h
    · cases h
    · rename_i M0 hM0
      split at h
      · cases h
      · rename_i pc len ins ax hE
        split at h
        · -- a plain step
          rename_i i' ls' st1 hp1 h1
          intro M hM hls p e R s m args below meth c H locs cells slots mc ms lr hctx hR hL hlo hmc hms hRc hRs hfr hloc
          have hMM : M0 = M := Option.some.inj (hM0.symm.trans hM)
          subst hMM
          obtain ⟨hexec, hb, hml, hret, hlk, hnm, hown, hts, hal, hXs, -, -⟩ := id hctx
          obtain ⟨hmk, hcd⟩ := hall.1 k M0 hM
          obtain ⟨hdec, hlen, hfall, htg, hlnk, hclk, -⟩ := hcd i _ hE
          have hKn : ∀ (ci : Nat) (q : vw_C), cl[ci]? = some q → u_Kn s q.1 q.2.1 q.2.2 (kc ci) (sl ci) := fun ci q hq => u_Kn_moved hal (hG0 ci q hq)
          rw [show xpc M0 i = pc by unfold xpc; rw [hE]]
          obtain ⟨w1, w2⟩ := ex_sz _ _ _ _ _ _ _ _ _ h
          have next := ih d k i' ls' st1 hp1 z hp' h M0 hM
          unfold x1 at h1
          split at h1
          · rename_i st2 hS
            cases h1
            obtain ⟨e1, e2⟩ := xS_fl hS
            have e3 : len = xLen ins := x_len hlen e1
            subst e3
            refine xS_ok hexec hb hS hdec ?_
            rw [← hfall e2]
            exact next hls p e R s m args below meth c H locs cells slots mc ms lr hctx hR hL hlo hmc hms hRc hRs hfr hloc
          · split at h1
            · rename_i ls2 st2 hS
              cases h1
              obtain ⟨e1, e2⟩ := xV_fl hS
              have e3 : len = xLen ins := x_len hlen e1
              subst e3
              refine xV_ok hexec hb hS hL hdec (fun lr' hL' => ?_)
              rw [← hfall e2]
              exact next ((xV_len hS).trans hls) p e R s m args below meth c H locs cells slots mc ms lr' hctx hR hL' hlo hmc hms hRc hRs hfr hloc
            · split at h1
              · rename_i i2 st2 hS
                cases h1
                refine xB_ok (f := xpc M0) hexec hb hS hdec hlen htg (fun e1 => ?_) (next hls p e R s m args below meth c H locs cells slots mc ms lr hctx hR hL hlo hmc hms hRc hRs hfr hloc)
                rcases xB_fl hS with e2 | e2 | e2
                · rw [e1] at e2; cases e2
                · exact Or.inl (hfall e2)
                · exact Or.inr e2
              · split at h1
                · rename_i st2 hS
                  cases h1
                  obtain ⟨e1, e2⟩ := xR_fl hS
                  have e3 : len = xLen ins := x_len hlen e1
                  subst e3
                  refine xR_ok hexec hb (hStr s hXs) hown hts hall.2.1 hKn hal hS hR hlnk hdec ?_
                  rw [← hfall e2]
                  exact next hls p e R s m args below meth c H locs cells slots mc ms lr hctx hR hL hlo hmc hms hRc hRs hfr hloc
                · split at h1
                  · rename_i st2 hp2 hS
                    cases h1
                    obtain ⟨e1, e2⟩ := xW_fl hS
                    obtain ⟨e4, e5⟩ := xW_sz hS
                    have e3 : len = xLen ins := x_len hlen e1
                    subst e3
                    refine xW_ok hexec hb hown hnm hts hall.2.1 hKn hal hpre hlo hS hR hlnk hdec (fun H' locs' hR' hlo' => ?_)
                    rw [← hfall e2]
                    exact next hls p e R s m args below meth c H' locs' cells slots mc ms lr hctx hR' hL hlo' (by rw [e4]; exact hmc) (by rw [e5]; exact hms) hRc hRs hfr hloc
                  · split at h1
                    · rename_i st2 hp2 hS
                      cases h1
                      obtain ⟨e1, e2⟩ := xA_fl hS
                      obtain ⟨o, e4, e5⟩ := xA_sz hS
                      have e6 : hp1.length = hp.length + 1 := by rw [e4]; simp
                      have e7 : xsz hp1 = xsz hp + o.2.length := by rw [e4, xsz_push, e5]
                      have e3 : len = xLen ins := x_len hlen e1
                      subst e3
                      have same : ∀ o' : xO, hp1 = hp ++ [o'] → o' = o := fun o' h9 => by
                        rw [e4] at h9
                        have := List.append_cancel_left h9
                        cases this
                        rfl
                      refine xA_ok hexec hb hown hts hall.2.1 hKn hal (hXN s hXs) hS hR hlnk hdec (fun o' ho' => ?_) (fun H' o' ho' hR' => ?_)
                      · rw [same o' ho']
                        constructor <;> omega
                      · rw [same o' ho', ← hfall e2]
                        exact next hls p e R s m args below meth c H' locs (cells + 1) (slots + o.2.length) mc ms lr hctx hR' hL hlo (by omega) (by omega) hRc hRs hfr hloc
                    · cases h1
        · split at h
          · -- a constant
            rename_i st1 h1
            intro M hM hls p e R s m args below meth c H locs cells slots mc ms lr hctx hR hL hlo hmc hms hRc hRs hfr hloc
            have hMM : M0 = M := Option.some.inj (hM0.symm.trans hM)
            subst hMM
            obtain ⟨hmk, hcd⟩ := hall.1 k M0 hM
            obtain ⟨hdec, hlen, hfall, htg, hlnk, hclk, -⟩ := hcd i _ hE
            rw [show xpc M0 i = pc by unfold xpc; rw [hE]]
            refine hT k M0 i pc len ins ax st st1 hM hE h1 p e R s m args below meth c H locs cells slots _ lr hp hctx hR ?_
            rw [← hfall (xT_fl h1).2]
            exact ih d k (i + 1) ls st1 hp z hp' h M0 hM hls p e R s m args below meth c H locs cells slots mc ms lr hctx hR hL hlo hmc hms hRc hRs hfr hloc
          · split at h
            · -- the end
              rename_i q h1
              cases h
              intro M hM hls p e R s m args below meth c H locs cells slots mc ms lr hctx hR hL hlo hmc hms hRc hRs hfr hloc
              have hMM : M0 = M := Option.some.inj (hM0.symm.trans hM)
              subst hMM
              obtain ⟨hmk, hcd⟩ := hall.1 k M0 hM
              obtain ⟨hdec, hlen, hfall, htg, hlnk, hclk, -⟩ := hcd i _ hE
              rw [show xpc M0 i = pc by unfold xpc; rw [hE]]
              have e3 : len = xLen ins := x_len hlen (xret_fl h1)
              subst e3
              exact x_ret hctx h1 hdec hR hlo (by omega) (by omega)
            · split at h
              · cases h
              · rename_i d'
                split at h
                · -- Object's constructor, copying
                  rename_i st1 hp1 h1
                  intro M hM hls p e R s m args below meth c H locs cells slots mc ms lr hctx hR hL hlo hmc hms hRc hRs hfr hloc
                  have hMM : M0 = M := Option.some.inj (hM0.symm.trans hM)
                  subst hMM
                  obtain ⟨hmk, hcd⟩ := hall.1 k M0 hM
                  obtain ⟨hdec, hlen, hfall, htg, hlnk, hclk, -⟩ := hcd i _ hE
                  obtain ⟨e4, e5⟩ := xsp_sz h1
                  rw [show xpc M0 i = pc by unfold xpc; rw [hE]]
                  refine hA k M0 i pc len ins ax st st1 hp hp1 hM hE h1 p e R s m args below meth c H locs cells slots _ lr ls hctx hR hL hls hlo (by omega) (by omega) (by omega) (by omega) (fun H' locs' hR' hlo' => ?_)
                  rw [← hfall (xsp_fl h1).2]
                  exact ih (d' + 1) k (i + 1) ls st1 hp1 z hp' h M0 hM hls p e R s m args below meth c H' locs' cells slots mc ms lr hctx hR' hL hlo' (by rw [e4]; exact hmc) (by rw [e5]; exact hms) hRc hRs hfr hloc
                · split at h
                  · -- a call
                    rename_i k1 as r h1
                    split at h
                    · cases h
                    · rename_i M1 hM1
                      split at h
                      · rename_i hen
                        split at h
                        · cases h
                        · rename_i v hp1 h2
                          obtain ⟨y1, y2⟩ := ex_sz _ _ _ _ _ _ _ _ _ h2
                          obtain ⟨y3, y4⟩ := ex_sz _ _ _ _ _ _ _ _ _ h
                          have hgo := ih d' k1 0 _ _ hp _ hp1 h2
                          intro M hM hls p e R s m args below meth c H locs cells slots mc ms lr hctx hR hL hlo hmc hms hRc hRs hfr hloc
                          have hMM : M0 = M := Option.some.inj (hM0.symm.trans hM)
                          subst hMM
                          obtain ⟨hmk, hcd⟩ := hall.1 k M0 hM
                          obtain ⟨hdec, hlen, hfall, htg, hlnk, hclk, -⟩ := hcd i _ hE
                          obtain ⟨e1, e2⟩ := xcall_fl h1
                          have e3 : len = xLen ins := x_len hlen e1
                          subst e3
                          rw [show xpc M0 i = pc by unfold xpc; rw [hE]]
                          have hrun := x_run (ls := ls) (lr := lr) (e := e) (below := below) (locs := locs) (cells := cells) (slots := slots) hall hXN hXW hX hNm hM hM1 hE h1 hctx hR hL hls (x_met hall hM1 (x_k0 hall hM0 hE h1) hen hgo) (by omega) (by omega) ⟨by omega, by omega⟩
                          have l3 : xLen ins = 3 := by
                            unfold xcall at h1
                            split at h1 <;> first | rfl | cases h1
                          intro T hT9 X9
                          obtain ⟨v9, st₀, t, T', L, h0, X', hLf, e5, e6, ⟨hR1, hv9⟩, hst⟩ := hrun T hT9 X9
                          cases hv9
                          have next := ih (d' + 1) k (i + 1) ls (v.toList ++ r) hp1 z hp' h M0 hM hls p e R s m args below meth c T'.heap (locs ++ L) (cells + (hp1.length - hp.length)) (slots + (xsz hp1 - xsz hp)) mc ms lr hctx (by rw [e5]; exact hR1) hL (fun q hq => by
                            rcases List.mem_append.mp hq with h9 | h9
                            · exact hlo q h9
                            · exact hLf q h9) (by omega) (by omega) hRc hRs hfr hloc
                          rw [hfall e2, l3, show (v.toList ++ r).map (tv (xr B K pre)) = (v.map (tv (xr B K pre))).toList ++ r.map (tv (xr B K pre)) by cases v <;> simp] at next
                          obtain ⟨t2, a1, b1⟩ := next T' rfl X'
                          exact ⟨t2, hst t2 a1, b1⟩
                        · rename_i z1 hp1 h2
                          split at h
                          · cases h
                          · rename_i t ht
                            obtain ⟨y1, y2⟩ := ex_sz _ _ _ _ _ _ _ _ _ h2
                            obtain ⟨y3, y4⟩ := ex_sz _ _ _ _ _ _ _ _ _ h
                            exact hC k k1 M0 M1 i pc len ins ax ls st as r hp hp1 hp' z1 t d' z hM0 hM1 hE h1 hen y1 y2 y3 y4 (ex_thrown _ _ _ _ _ _ _ _ _ h2) (ih d' k1 0 _ _ hp _ hp1 h2) ht (ih (d' + 1) k t ls _ hp1 z hp' h)
                      · cases h
                  · split at h
                    · rename_i z1 h1
                      split at h
                      · rename_i hq9
                        cases h
                        have hst9 : st = [] := by simpa using hq9.2
                        subst hst9
                        exact hRt k M0 i pc len ins ax ls hp z1 hM0 hE h1 (d' + 1) (by omega)
                      · cases h
                    · cases h
end X7
