/-! from the law's start: all that is said of a state is said of the start and of warmer tables -/
def isSt (w : Cond) : Bool := match w with
  | .methodLinkNest _ _ _ _ => true
  | .arrayOver (.object _) => true
  | .castable _ _ => true
  | .declares _ => true
  | _ => false
theorem nw_warm {w : Cond} {s U : State} (hw : isSt w = true) (hW : s.WarmedH U.vm) (h : va_Nw w s) : va_Nw w U := by
  unfold isSt at hw
  split at hw
  · exact va_Nw.warmM hW h
  · exact va_AO.moved hW.alike h
  · exact va_Nw.warmC hW h
  · exact va_Nw.warmD hW h
  · cases hw
theorem ls_at {C n d : String} {s0 U : State} {A args : Array Value} (hW : s0.WarmedH U.vm) (hq : ∀ q : Nat, q < s0.heap.size → U.heap[q]? = s0.heap[q]?) (h : (Cond.laysStatic C n d).before A s0 = true) : (Cond.laysStatic C n d).before args U = true := by
  obtain ⟨c, k, i, f, a, cell, hc, hi, hst, ha, hcell, hs, hcls, hlt, hty⟩ := Cond.laysStatic_spec h
  obtain ⟨k', hi', hek⟩ := State.fieldFound?_setVm hW.alike hi
  exact Cond.laysStatic_of (s := U) (by rw [hW.alike.findClass]; exact hc) hi' hst (by rw [hek]; exact ha) (by rw [hq a (Array.getElem?_eq_some_iff.mp hcell).1]; exact hcell) hs hcls hlt (by rw [hek]; exact hty)
theorem xStr_warm {sl : Nat → Nat → Nat} {s U : State} (hW : s.WarmedH U.vm) (h : xStr sl s) : xStr sl U := by
  intro k hk
  obtain ⟨cf, kf, fi, f, h1, h2, h3⟩ := h k hk
  obtain ⟨k', hi', -⟩ := State.fieldFound?_setVm hW.alike h1
  exact ⟨cf, k', fi, f, hi', h2, h3⟩
/-- a static's value where the heap's old part is as it was -/
theorem st_at {C n d : String} {v : Value} {s0 U : State} {args : Array Value} {A : Nat → Prop} (hW : s0.WarmedH U.vm) (hA : ∀ q : Nat, ¬ A q → U.heap[q]? = s0.heap[q]?) (h : va_Z C n d v A s0 s0.heap) (o : Option Outcome) : (Term.static C n d).eval args U o [] U = some v := by
  obtain ⟨cf, kf, fi, f, a, cell, z1, z2, z3, z4, z5, z6, z7, z8⟩ := va_Z.moved hW.alike h
  have z5' : U.heap[a]? = some cell := by rw [hA a z8]; exact z5
  simp [Term.eval, State.fieldNamed?, z1, z2, z4, z5', z6, z7]
section XU
variable {l : Launch} {cl : List vw_C} {kc : Nat → ClassId} {sl : Nat → Nat → Nat} {s0 : State} {K : Nat} {pre : Nat → Nat} {Ts : List Cond} {P : List xQ6}
theorem lw_of {p : Program} {e : Env} {R : Room} {s : State} {m : MethodId} {b : Nat} {below : List Frame} {meth : Method} {c : Code} {H : Heap} {mc ms : Nat} {hp' : xH} {g : JFrame}
    (h : W p l e R s m #[Value.ref b] below meth c H [] 0 0 (xMQ (.inl (some (.int 1))) below (xQc cl kc sl s s.heap.size K pre (.inl (some (.int 1))) hp') #[Value.ref b] s mc ms (fun q => s.heap.size ≤ q)) g) :
    W p l e R s m #[Value.ref b] below meth c H [] 0 0 (fun t => ∃ o, t.status = .running ∧ Ended t below o ∧ o = .returned (some (.int 1)) ∧ Framed s o t [] mc ms) g := by
  intro T hT X
  obtain ⟨t, a1, o, a2, a3, ⟨-, a4⟩, L, ⟨b1, b2, b3⟩, a6⟩ := h T hT X
  refine ⟨t, a1, o, a2, a3, a4, b1, b2, b3.weaken (fun x hx hlt => ?_) (Nat.le_refl _) (Nat.le_refl _)⟩
  have h9 : s.heap.size ≤ x.base := a6 x hx
  exact absurd hlt (Nat.not_lt.mpr h9)
end XU
section XV
variable {l : Launch} {cl : List vw_C} {kc : Nat → ClassId} {sl : Nat → Nat → Nat} {s : State} {K : Nat} {pre : Nat → Nat} {Ts Ns As : List Cond} {P : List xQ6} {Cs : List Value} {Ss : List (String × Nat × String × Nat)} {Zs : List (String × String × String × Nat)}
set_option maxHeartbeats 4000000 in
/-- THE LAW'S RUN in the pure machine is the machine's, from its start -/
theorem x_law (hall : xall Ts Ns cl P) (hNs : ∀ w ∈ Ns, isSt w = true ∧ va_Nw w s) (hG0 : ∀ (ci : Nat) (q : vw_C), cl[ci]? = some q → u_Kn s q.1 q.2.1 q.2.2 (kc ci) (sl ci)) (hNm : ∀ (ci : Nat) (q : String), xnm cl ci = some q → s.vm.findClass q = some (kc ci)) (hStr : xStr sl s) (hpre : ∀ i, i + 1 < K → pre i < s.heap.size)
    (hSs : ∀ q ∈ Ss, vk_R q.1 q.2.1 q.2.2.1 (pre q.2.2.2) s) (hZ : ∀ q ∈ Zs, ∀ v : Value, Cs[q.2.2.2]? = some v → va_Z q.1 q.2.1 q.2.2.1 (tv (xr s.heap.size K pre) v) (fun a => s.heap.size ≤ a) s s.heap)
    (hcs : ∀ (k : Nat) (M : xQ6) (i pc len : Nat) (ins : Instr) (ax : List Nat), P[k]? = some M → M.2.2.2.2.2[i]? = some (pc, len, ins, ax) → xcst Ts Cs Ss Zs K M.1.cls ins ax)
    (hthk : ∀ (k : Nat) (M : xQ6) (i pc len : Nat) (ins : Instr) (ax : List Nat) (z : Nat), P[k]? = some M → M.2.2.2.2.2[i]? = some (pc, len, ins, ax) → xthr ins ax = some z → xthk Ts As Ss M i z)
    (hEx : xEx kc s) (hTr : ∀ e : Env, l.admits e → e.platform.stackTraces = false) (hAs : ∀ (args : Array Value) (U : State), s.WarmedH U.vm → (∀ q : Nat, q < s.heap.size → U.heap[q]? = s.heap[q]?) → ∀ a ∈ As, a.before args U = true)
    {p : Program} {e : Env} {R : Room} {m : MethodId} {b : Nat} {below : List Frame} {meth : Method} {c : Code} {M : xQ6} (hM : P[0]? = some M) (hexec : p.tables.exec = Jvm.exec) (hb : c.code = M.2.1) (hml : c.maxLocals = M.2.2.1) (hret : meth.sig.returnType = M.2.2.2.1) (hlk : meth.locks = false) (hnm : meth.name = M.1.name) (hown : s.vm.findClass M.1.cls = some m.cls) (hts : ∀ w ∈ Ts, w.before #[Value.ref b] s = true) (hexc : c.exceptionTable.toList = []) (hMh : M.2.2.2.2.1 = []) (hM0 : xpc M 0 = 0)
    {hp0 hp' : xH} (hR : xRp cl kc sl s s.heap.size K pre hp0 s.heap) (h0 : 0 < K) (hpb : pre 0 = b) {n d mx : Nat} (hmx : M.2.2.1 = mx) (hmx1 : 1 ≤ mx) (hex : ex P Cs K n d 0 0 (some (.ref 0) :: List.replicate (mx - 1) none) [] hp0 = some (.inl (some (.int 1)), hp')) {mc ms : Nat} (hmc : hp'.length - hp0.length ≤ mc) (hms : xsz hp' - xsz hp0 ≤ ms) (hRc : mc ≤ R.cells) (hRs : ms ≤ R.slots) (hfr : d ≤ R.frames) (hlc : 64 * d ≤ R.locals) :
    W p l e R s m #[Value.ref b] below meth c s.heap [] 0 0 (fun t => ∃ o, t.status = .running ∧ Ended t below o ∧ o = .returned (some (.int 1)) ∧ Framed s o t [] mc ms) (entryFrame m ([Value.ref b] : List Value).toArray mx) := by
  have hXN : ∀ U : State, s.WarmedH U.vm → ∀ w ∈ Ns, va_Nw w U := fun U hW w hw => nw_warm (hNs w hw).1 hW (hNs w hw).2
  have hXW : ∀ u U : State, u.WarmedH U.vm → s.WarmedH u.vm → s.WarmedH U.vm := fun u U h1 h2 => State.WarmedH.trans h2 h1
  have hXX : ∀ u U : State, u.vm = U.vm → s.WarmedH u.vm → s.WarmedH U.vm := fun u U h1 h2 => h1 ▸ h2
  have hXS : ∀ U : State, s.WarmedH U.vm → ∀ q ∈ Ss, vk_R q.1 q.2.1 q.2.2.1 (pre q.2.2.2) U := fun U hW q hq => vk_R.warm hW (hSs q hq)
  have hmain := x_main (l := l) (s0 := s) (B := s.heap.size) (pre := pre) (X := fun U => s.WarmedH U.vm) (Cs := Cs) (kc := kc) (sl := sl) hall hXN hXW hXX hG0 hNm (fun U hW => xStr_warm hW hStr) hpre
    (x_hT hall hXS hZ hcs) (x_hA hall hpre) (x_hR (As := As) (Ss := Ss) hall hXW hTr hXS (fun args U hW hq => hAs args U hW hq) hEx hthk) (x_hC hall hXW hXX hNm hEx) n d 0 0 _ [] hp0 _ hp' hex
  rw [lg_entry_eq]
  have hlr : xLH (xr s.heap.size K pre) ((lg_sl ([Value.ref b] : List Value) ++ List.replicate (mx - (lg_sl ([Value.ref b] : List Value)).length) Slot.unset).toArray) (some (.ref 0) :: List.replicate (mx - 1) none) := by
    have h9 := xent_ok (ρ := xr s.heap.size K pre) (as := [.ref 0]) (mx := mx) (by simp [xent, Value.category]; omega)
    have e1 : ([Value.ref 0] : List Value).map (tv (xr s.heap.size K pre)) = [Value.ref b] := by
      show [Value.ref (xr s.heap.size K pre 0)] = _
      unfold xr
      rw [if_pos h0, hpb]
    rw [e1] at h9
    exact h9
  have hW9 := hmain M hM (by rw [hmx]; simp; omega) p e R s m #[Value.ref b] below meth c s.heap [] 0 0 mc ms _ ⟨hexec, hb, hml, hret, hlk, hnm, hown, hts, Vm.Alike.refl _, State.WarmedH.refl s, fun _ _ => rfl, by rw [hexc]; unfold xrh; rw [hMh]; rfl⟩ hR hlr (fun q hq => by cases hq) (by omega) (by omega) hRc hRs hfr hlc
  rw [hM0] at hW9
  exact lw_of hW9
end XV
