section X6
variable {l : Launch} {cl : List vw_C} {kc : Nat → ClassId} {sl : Nat → Nat → Nat} {s0 : State} {B K : Nat} {pre : Nat → Nat} {Ts Ns : List Cond} {X : State → Prop} {P : List xQ6} {Cs : List Value}
/-- what is still to be shown of single instructions: constants -/
def xHT (l : Launch) (cl : List vw_C) (kc : Nat → ClassId) (sl : Nat → Nat → Nat) (s0 : State) (B K : Nat) (pre : Nat → Nat) (Ts : List Cond) (X : State → Prop) (P : List xQ6) (Cs : List Value) : Prop :=
  ∀ (k : Nat) (M : xQ6) (i pc len : Nat) (ins : Instr) (ax : List Nat) (st st' : List Value), P[k]? = some M → M.2.2.2.2.2[i]? = some (pc, len, ins, ax) → xT Cs ins ax st = some st' → ∀ (p : Program) (e : Env) (R : Room) (s : State) (m : MethodId) (args : Array Value) (below : List Frame) (meth : Method) (c : Code) (H : Heap) (locs : List Loc) (cells slots : Nat) (Q : State → Prop) (lr : Array Slot) (hp : xH),
    xCx Ts s0 B X M p s m args meth c → xRp cl kc sl s0 B K pre hp H → W p l e R s m args below meth c H locs cells slots Q (F0 m (pc + len) lr (st'.map (tv (xr B K pre)))) → W p l e R s m args below meth c H locs cells slots Q (F0 m pc lr (st.map (tv (xr B K pre))))
/-- .. Object's constructor and copying -/
def xHA (l : Launch) (cl : List vw_C) (kc : Nat → ClassId) (sl : Nat → Nat → Nat) (s0 : State) (B K : Nat) (pre : Nat → Nat) (Ts : List Cond) (X : State → Prop) (P : List xQ6) : Prop :=
  ∀ (k : Nat) (M : xQ6) (i pc len : Nat) (ins : Instr) (ax : List Nat) (st st' : List Value) (hp hp' : xH), P[k]? = some M → M.2.2.2.2.2[i]? = some (pc, len, ins, ax) → xsp K ins ax st hp = some (st', hp') → ∀ (p : Program) (e : Env) (R : Room) (s : State) (m : MethodId) (args : Array Value) (below : List Frame) (meth : Method) (c : Code) (H : Heap) (locs : List Loc) (cells slots : Nat) (Q : State → Prop) (lr : Array Slot) (ls : xL),
    xCx Ts s0 B X M p s m args meth c → xRp cl kc sl s0 B K pre hp H → xLH (xr B K pre) lr ls → ls.length = M.2.2.1 → (∀ q ∈ locs, B ≤ q.base) → 1 ≤ R.frames → 64 ≤ R.locals → cells ≤ R.cells → slots ≤ R.slots →
    (∀ (H' : Heap) (locs' : List Loc), xRp cl kc sl s0 B K pre hp' H' → (∀ q ∈ locs', B ≤ q.base) → W p l e R s m args below meth c H' locs' cells slots Q (F0 m (pc + len) lr (st'.map (tv (xr B K pre))))) → W p l e R s m args below meth c H locs cells slots Q (F0 m pc lr (st.map (tv (xr B K pre))))
/-- .. a throw -/
def xHR (l : Launch) (cl : List vw_C) (kc : Nat → ClassId) (sl : Nat → Nat → Nat) (s0 : State) (B K : Nat) (pre : Nat → Nat) (Ts : List Cond) (X : State → Prop) (P : List xQ6) : Prop :=
  ∀ (k : Nat) (M : xQ6) (i pc len : Nat) (ins : Instr) (ax : List Nat) (ls : xL) (hp : xH) (z : Nat), P[k]? = some M → M.2.2.2.2.2[i]? = some (pc, len, ins, ax) → xthr ins ax = some z → ∀ d : Nat, 9 ≤ d → xGo l cl kc sl s0 B K pre Ts X P d k i ls [] hp (.inr z) (hp ++ [(80 + z, [])])
/-- .. a call whose method throws -/
def xHC (l : Launch) (cl : List vw_C) (kc : Nat → ClassId) (sl : Nat → Nat → Nat) (s0 : State) (B K : Nat) (pre : Nat → Nat) (Ts : List Cond) (X : State → Prop) (P : List xQ6) : Prop :=
  ∀ (k k1 : Nat) (M M1 : xQ6) (i pc len : Nat) (ins : Instr) (ax : List Nat) (ls : xL) (st as r : List Value) (hp hp1 hp' : xH) (z1 t d : Nat) (z : xZ), P[k]? = some M → P[k1]? = some M1 → M.2.2.2.2.2[i]? = some (pc, len, ins, ax) → xcall ins ax st hp = some (k1, as, r) → (xent as M1.2.2.1).length = M1.2.2.1 → hp.length ≤ hp1.length → xsz hp ≤ xsz hp1 → hp1.length ≤ hp'.length → xsz hp1 ≤ xsz hp' → (∃ hp0 : xH, hp1 = hp0 ++ [(80 + z1, [])]) →
    xGo l cl kc sl s0 B K pre Ts X P d k1 0 (xent as M1.2.2.1) [] hp (.inr z1) hp1 → xhd M.2.2.2.2.1 i z1 = some t → xGo l cl kc sl s0 B K pre Ts X P (d + 1) k t ls [.ref (hp1.length - 1)] hp1 z hp' → xGo l cl kc sl s0 B K pre Ts X P (d + 1) k i ls st hp z hp'
theorem x_ret {p : Program} {e : Env} {R : Room} {s : State} {m : MethodId} {args : Array Value} {below : List Frame} {meth : Method} {c : Code} {H : Heap} {locs : List Loc} {cells slots mc ms : Nat} {lr : Array Slot} {M : xQ6} {pc : Nat} {ins : Instr} {st : List Value} {q : Option Value} {hp : xH} (hctx : xCx Ts s0 B X M p s m args meth c) (h : xret M.2.2.2.1 ins st = some q) (hdg : decode M.2.1 pc = .ok (ins, xLen ins)) (hR : xRp cl kc sl s0 B K pre hp H) (hlo : ∀ q ∈ locs, B ≤ q.base) (h1 : cells ≤ mc) (h2 : slots ≤ ms) :
    W p l e R s m args below meth c H locs cells slots (xMQ (.inl q) below (xQc cl kc sl s0 B K pre (.inl q) hp) args s mc ms (fun q => B ≤ q)) (F0 m pc lr (st.map (tv (xr B K pre)))) := by
  obtain ⟨hexec, hb, hml, hret, hlk, hnm, hown, hts, hal, hXs, -, -⟩ := hctx
  refine W.widen (k := mc) (n := ms) h1 h2 ?_
  show W p l e R s m args below meth c H locs mc ms (MQ below (xQc cl kc sl s0 B K pre (.inl q) hp) args s mc ms (fun q => B ≤ q)) (F0 m pc lr (st.map (tv (xr B K pre))))
  generalize hrt : M.2.2.2.1 = rt at h hret
  unfold xret at h
  split at h
  · cases h
    exact W.vret hexec hb hret (fun t ht hW => ⟨by rw [ht]; exact hR, rfl⟩) hlo hdg hlk
  · split at h
    · rename_i hf
      cases h
      exact W.zret hexec hb hret (xfit_ok (ρ := xr B K pre) hf).1 (fun t ht hW => ⟨by rw [ht]; exact hR, rfl⟩) hlo hdg hlk
    · cases h
  · rename_i ty v
    split at h
    · rename_i hf
      cases h
      have hrt2 : (∃ n, ty = .object n) ∨ ∃ t, ty = .array t := by
        cases ty <;> first | exact Or.inl ⟨_, rfl⟩ | exact Or.inr ⟨_, rfl⟩ | exact absurd hf.1 (by decide)
      have hv : tv (xr B K pre) v = .null ∨ ∃ a, tv (xr B K pre) v = .ref a := by
        rcases xfit2 hf.2 with rfl | ⟨a, rfl⟩
        · exact Or.inl rfl
        · exact Or.inr ⟨_, rfl⟩
      exact W.aret hexec hb hret hrt2 hv (fun t ht hW => ⟨by rw [ht]; exact hR, rfl⟩) hlo hdg hlk
    · cases h
  · cases h
    exact W.lret hexec hb hret (fun t ht hW => ⟨by rw [ht]; exact hR, rfl⟩) hlo hdg hlk
  · cases h
theorem x_split {st : List Value} {n a : Nat} (h : st[n]? = some (.ref a)) : st = st.take n ++ .ref a :: st.drop (n + 1) := by
  have hlt := (List.getElem?_eq_some_iff.mp h).1
  have e := (List.getElem?_eq_some_iff.mp h).2
  rw [← e, ← List.drop_eq_getElem_cons hlt, List.take_append_drop]
/-- a call of a static method that has handlers of its own -/
theorem x_runSW {p : Program} {e : Env} {R : Room} {s : State} {m : MethodId} {args : Array Value} {below : List Frame} {meth : Method} {c : Code} {H : Heap} {locs : List Loc} {cells slots : Nat} {y : MethodName} {bytes cc : ByteArray} {maxL nL mc ms n index : Nat} {ret : Option FieldType} {hh : List (Nat × Nat × Nat × Nat)} {ws : List Cond} {rm : Room} {Pc : Array Value → State → Prop} {Qc : Array Value → State → Outcome → State → Prop} {free : Addr → Prop} {own : String} {As rest : List Value} {g : JFrame}
    (S : CallFix p m c cc nL s args Ts own) (hM : Met l y ws rm Pc Qc mc ms free) (hrc : rm.cells = mc) (hrs : rm.slots = ms) (hfr : rm.frames + 1 ≤ R.frames) (hlo : 8 + (maxL + 11) + rm.locals ≤ R.locals) (hws : ∀ w ∈ ws, ∀ (a' : Array Value) (U : State), s.WarmedH U.vm → w.before a' U = true) (hcw : Cond.codeWith y bytes maxL ret hh ∈ ws)
    (hcode : (Cond.codeWith y bytes maxL ret hh).before args s = true) (hini : (Cond.initialized y.cls).before args s = true) (hy : y.cls ≠ "java/lang/invoke/MethodHandle" ∧ y.cls ≠ "java/lang/invoke/VarHandle") (hlen : ∀ sig, parseMethodDescriptor y.desc = some sig → n = sig.parameters.length) (hl : (Cond.methodLink own index y).before args s = true) (hst : (Cond.static y).before args s = true) (hp : PreS s H Pc As)
    (hg : g.method = m) (hn : As.length = n) (hsize : g.locals.size = nL) (hstack : g.stack = As.reverse ++ rest) (hW : 2 * g.monitorRoom + (rest.map fun v => v.category).sum ≤ 8) (hdg : decode cc g.pc = .ok (.invokestatic index, 3)) (hf : cells + mc ≤ R.cells ∧ slots + ms ≤ R.slots) :
    va_Run p l e R s m args below meth c H locs cells slots mc ms g rest (Qc As.toArray) free := by
  have hK : Back l R p e below s args y 3 8 (PreOf R mc ms Pc) (PostOf Qc mc ms free) := va_backW (hh := hh) (bytes := bytes) (maxL := maxL) (ret := ret) hM hp.1 hrc hrs hfr hlo hws hcw (fun a' U hW => word_at hW (Or.inl (by first | rfl | simp [Cond.onTables, Cond.keeps, Cond.steady])) hini)
  obtain ⟨hx, hb, hml, ho, -⟩ := S
  intro T hT X
  obtain ⟨mk, methM, cM, hnamed, hmethM, -, -, -, -, -, -, hsigM⟩ := Cond.codeWith_spec hcode
  have hstatic := Cond.static_spec hnamed hmethM hst
  obtain ⟨kP, hkP, -⟩ := className_of_methodNamed hnamed
  have hinitP : kP.init = .initialized := Cond.initialized_spec (findClass_of_methodNamed hnamed) hkP hini
  obtain ⟨vm₁, X₁, hstep₁⟩ := X.invokestatic hx ho hl hnamed hmethM hstatic hkP hinitP hy (g := g) hg (argsL := As) (rest := rest) (hn.trans (hlen _ hsigM)) hstack (by rw [hb]; exact hdg)
  obtain ⟨v, ⟨U', l2, c2, s2⟩, X', ⟨g', mk', t, L, e1, e2, hq, h1, hL, h2, h3⟩, hsteps⟩ := hK m meth c ⟨T.setVm vm₁, locs, cells, slots⟩ { g with stack := rest } (.invokestatic index) mk As.toArray X₁ hg (hsize.trans hml.symm) (by rw [hb]; exact hdg) hW (X₁.named hnamed) ⟨hf.1, hf.2, hp.2 (T.setVm vm₁) hT X₁.warmed⟩
  dsimp only [Pt.U, Pt.locs, Pt.cells, Pt.slots] at X' e1 e2 h1 h2 h3 hsteps
  subst h1; subst h2; subst h3
  exact ⟨v, (T.setVm vm₁).calling g' mk' As.toArray, t, U', L, hT, X', hL, e1, e2, hq, fun target h => hstep₁ _ fun acts => by rw [doInvoke_state]; exact hsteps.trans h⟩
set_option maxHeartbeats 8000000 in
theorem x_run (hall : xall Ts Ns cl P) (hXN : ∀ s : State, X s → ∀ w ∈ Ns, va_Nw w s) (hXW : ∀ s U : State, s.WarmedH U.vm → X s → X U) (hX : ∀ u U : State, u.vm = U.vm → X u → X U) (hNm : ∀ (ci : Nat) (q : String), xnm cl ci = some q → s0.vm.findClass q = some (kc ci))
    {k k1 i pc d mc1 ms1 : Nat} {M M1 : xQ6} {ins : Instr} {ax : List Nat} {ls : xL} {st as r : List Value} {hp : xH} {Qc : Array Value → State → Outcome → State → Prop} {free : Addr → Prop} (hM : P[k]? = some M) (hM1 : P[k1]? = some M1) (hE : M.2.2.2.2.2[i]? = some (pc, xLen ins, ins, ax)) (hc : xcall ins ax st hp = some (k1, as, r))
    {p : Program} {e : Env} {R : Room} {s : State} {m : MethodId} {args : Array Value} {below : List Frame} {meth : Method} {c : Code} {H : Heap} {locs : List Loc} {cells slots : Nat} {lr : Array Slot} (hctx : xCx Ts s0 B X M p s m args meth c) (hR : xRp cl kc sl s0 B K pre hp H) (hL : xLH (xr B K pre) lr ls) (hls : ls.length = M.2.2.1)
    (hmet : Met l M1.1 (xcw M1 :: Ts) { frames := d, cells := mc1, slots := ms1, locals := 64 * d } (xPc cl kc sl s0 B K pre X hp as) Qc mc1 ms1 free) (hfr : d + 1 ≤ R.frames) (hlc : 64 * (d + 1) ≤ R.locals) (hf : cells + mc1 ≤ R.cells ∧ slots + ms1 ≤ R.slots) :
    va_Run p l e R s m args below meth c H locs cells slots mc1 ms1 (F0 m pc lr (st.map (tv (xr B K pre)))) (r.map (tv (xr B K pre))) (Qc (as.map (tv (xr B K pre))).toArray) free := by
  obtain ⟨hexec, hb, hml, hret, hlk, hnm, hown, hts, hal, hXs, -, -⟩ := hctx
  obtain ⟨hmk, hcd⟩ := hall.1 k M hM
  have hmk1 := (hall.1 k1 M1 hM1).1
  obtain ⟨hdec, -, -, -, -, hclk, -⟩ := hcd i _ hE
  have hgood : 0 < k1 → GoodIn Ts (xcw M1 :: Ts) := fun h9 w hw => by
    rcases List.mem_cons.mp hw with rfl | hw
    · exact hall.2.2 _ (hmk1 h9).2.1
    · exact hall.2.2 _ hw
  have hblind : FrameBlind (xPc cl kc sl s0 B K pre X hp as) := fun a U g mk q => by
    obtain ⟨q1, q2, q3, q4⟩ := q
    exact ⟨q1, q2, q3, hX U _ rfl q4⟩
  have hpre9 : ∀ U : State, U.heap = H → s.WarmedH U.vm → xPc cl kc sl s0 B K pre X hp as (as.map (tv (xr B K pre))).toArray U := fun U hU hW => ⟨rfl, by rw [hU]; exact hR, hal.trans hW.alike, hXW s U hW hXs⟩
  have hsz : (F0 m pc lr (st.map (tv (xr B K pre)))).locals.size = M.2.2.1 := hL.1.trans hls
  have hcwc : M1.2.2.2.2.1 = [] → xcw M1 = Cond.code M1.1 M1.2.1 M1.2.2.1 M1.2.2.2.1 := fun h9 => by unfold xcw; rw [h9]
  unfold xcall at hc
  split at hc
  · rename_i idx k' n rs
    split at hc
    · rename_i hq
      cases hc
      obtain ⟨hk0, hclk⟩ := hclk
      obtain ⟨hst, hlink, hnp, hnn⟩ := hclk M1 hM1
      obtain ⟨hpl, hcode, hini, hmh, hmx, -⟩ := hmk1 hk0
      have hlo9 : 8 + (M1.2.2.1 + 11) + 64 * d ≤ R.locals := by omega
      have hstab := pay_in hts (hgood hk0)
      have hnp2 : ∀ sig, parseMethodDescriptor M1.1.desc = some sig → n = sig.parameters.length := fun sig h => by rw [h] at hnp; exact (Option.some.inj hnp).symm
      have hlen : (((st.take n).reverse).map (tv (xr B K pre))).length = n := by simp; have := hq.1; omega
      have hstk : (F0 m pc lr (st.map (tv (xr B K pre)))).stack = (((st.take n).reverse).map (tv (xr B K pre))).reverse ++ (st.drop n).map (tv (xr B K pre)) := by
        show st.map (tv (xr B K pre)) = _
        rw [List.map_reverse, List.reverse_reverse, ← List.map_append, List.take_append_drop]
      by_cases hhd : M1.2.2.2.2.1 = []
      rotate_left
      · have hcw9 : xcw M1 = Cond.codeWith M1.1 M1.2.1 M1.2.2.1 M1.2.2.2.1 (xrh M1) := by
          unfold xcw
          split
          · rename_i h9; exact absurd h9 hhd
          · rfl
        have hlink9 := hlink.resolve_right (fun h9 => hnn ⟨hhd, h9⟩)
        rw [hcw9] at hmet hcode hstab
        exact x_runSW (n := n) ⟨hexec, hb, hml, hown, hts⟩ hmet rfl rfl hfr hlo9 hstab List.mem_cons_self (hts _ hcode) (hts _ hini) hmh hnp2 (hts _ hlink9) (hts _ hst) ⟨hblind, hpre9⟩ rfl hlen hsz hstk (lv_room (by rw [tv_sum]; exact hq.2)) hdec hf
      rw [hcwc hhd] at hmet hcode hstab
      rcases hlink with hlink | ⟨host, hlink⟩
      · exact va_runS (n := n) ⟨hexec, hb, hml, hown, hts⟩ hmet ⟨⟨rfl, rfl, hfr, hlo9, hstab, List.mem_cons_self, hts _ hcode, hts _ hini, hmh, hnp2, hts _ hlink⟩, hts _ hst⟩ ⟨hblind, hpre9⟩ rfl hlen hsz hstk (lv_room (by rw [tv_sum]; exact hq.2)) hdec hf
      · exact va_runSN (n := n) ⟨hexec, hb, hml, hown, hts⟩ hmet ⟨⟨⟨rfl, rfl, hfr, hlo9, hstab, List.mem_cons_self⟩, hts _ hcode, hts _ hini, hmh, hnp2, va_Nw.use rfl (hXN s hXs _ hlink)⟩, hts _ hst, trivial⟩ ⟨hblind, hpre9⟩ rfl hlen hsz hstk (lv_room (by rw [tv_sum]; exact hq.2)) hdec hf
    · cases hc
  · rename_i idx k' n rs
    split at hc
    · rename_i a hsta
      split at hc
      · rename_i hq
        cases hc
        obtain ⟨hk0, hclk⟩ := hclk
        obtain ⟨hhd, hinit, hrn, hins, hlink, hnp⟩ := hclk M1 hM1
        obtain ⟨hpl, hcode, hini, hmh, hmx, -⟩ := hmk1 hk0
        have hlo9 : 8 + (M1.2.2.1 + 11) + 64 * d ≤ R.locals := by omega
        have hstab := pay_in hts (hgood hk0)
        rw [hcwc hhd] at hmet hcode hstab
        have hnp2 : ∀ sig, parseMethodDescriptor M1.1.desc = some sig → n = sig.parameters.length := fun sig h => by rw [h] at hnp; exact (Option.some.inj hnp).symm
        have hlt := (List.getElem?_eq_some_iff.mp hsta).1
        have hlen : (((st.take n).reverse).map (tv (xr B K pre))).length = n := by simp; omega
        have hstk : (F0 m pc lr (st.map (tv (xr B K pre)))).stack = (((st.take n).reverse).map (tv (xr B K pre))).reverse ++ .ref (xr B K pre a) :: (st.drop (n + 1)).map (tv (xr B K pre)) := by
          show st.map (tv (xr B K pre)) = _
          rw [List.map_reverse, List.reverse_reverse]
          conv => lhs; rw [x_split hsta]
          rw [List.map_append]
          rfl
        rw [hrn] at hmet hcode hstab
        rcases hlink with hlink | ⟨host, hlink⟩
        · exact va_runI (n := n) (b := xr B K pre a) ⟨hexec, hb, hml, hown, hts⟩ hmet ⟨⟨rfl, rfl, hfr, hlo9, hstab, List.mem_cons_self, hts _ hcode, hts _ hini, hmh, hnp2, hts _ hlink⟩, hinit, hts _ hins⟩ ⟨hblind, hpre9⟩ rfl hlen hsz hstk (lv_room (by rw [tv_sum]; exact hq)) hdec hf
        · exact va_runIN (n := n) (b := xr B K pre a) ⟨hexec, hb, hml, hown, hts⟩ hmet ⟨⟨⟨rfl, rfl, hfr, hlo9, hstab, List.mem_cons_self⟩, hts _ hcode, hts _ hini, hmh, hnp2, va_Nw.use rfl (hXN s hXs _ hlink)⟩, hinit, hts _ hins⟩ ⟨hblind, hpre9⟩ rfl hlen hsz hstk (lv_room (by rw [tv_sum]; exact hq)) hdec hf
      · cases hc
    · cases hc
  · rename_i idx k' n ci rs
    split at hc
    · rename_i a hsta
      split at hc
      · rename_i c1 vs ha
        split at hc
        · rename_i hq
          obtain ⟨hci, hq⟩ := hq
          subst hci
          cases hc
          obtain ⟨hk0, hlt9, q, hqc, hrest⟩ := hclk
          obtain ⟨hhd, hsel, hins, hlink, hnp⟩ := hrest M1 hM1
          obtain ⟨hpl, hcode, hini, hmh, hmx, -⟩ := hmk1 hk0
          have hlo9 : 8 + (M1.2.2.1 + 11) + 64 * d ≤ R.locals := by omega
          have hstab := pay_in hts (hgood hk0)
          rw [hcwc hhd] at hmet hcode hstab
          have hnp2 : ∀ sig, parseMethodDescriptor M1.1.desc = some sig → n = sig.parameters.length := fun sig h => by rw [h] at hnp; exact (Option.some.inj hnp).symm
          have hlt := (List.getElem?_eq_some_iff.mp hsta).1
          have hlen : (((st.take n).reverse).map (tv (xr B K pre))).length = n := by simp; omega
          have hstk : (F0 m pc lr (st.map (tv (xr B K pre)))).stack = (((st.take n).reverse).map (tv (xr B K pre))).reverse ++ .ref (xr B K pre a) :: (st.drop (n + 1)).map (tv (xr B K pre)) := by
            show st.map (tv (xr B K pre)) = _
            rw [List.map_reverse, List.reverse_reverse]
            conv => lhs; rw [x_split hsta]
            rw [List.map_append]
            rfl
          obtain ⟨cell, g1, g2⟩ := xC_get (hR.2.2.1 a _ ha) (by omega)
          have hrecv : ∃ cellB : Cell, H[xr B K pre a]? = some cellB ∧ cellB.vm.isStatics = false ∧ s.vm.findClass q = some cellB.cls := ⟨cell, g1, g2.2.2.1, by rw [show cell.cls = kc c1 from g2.1.1 (by show c1 < 100; omega), hal.findClass]; exact hNm _ _ hqc⟩
          rcases hlink with hlink | ⟨host, hlink⟩
          · exact va_runV (n := n) (C := q) (b := xr B K pre a) ⟨hexec, hb, hml, hown, hts⟩ hmet ⟨⟨rfl, rfl, hfr, hlo9, hstab, List.mem_cons_self, hts _ hcode, hts _ hini, hmh, hnp2, hts _ hlink⟩, hts _ hins, hts _ hsel⟩ ⟨hblind, hrecv, hpre9⟩ rfl hlen hsz hstk (lv_room (by rw [tv_sum]; exact hq)) hdec hf
          · exact va_runVN (n := n) (C := q) (b := xr B K pre a) ⟨hexec, hb, hml, hown, hts⟩ hmet ⟨⟨⟨rfl, rfl, hfr, hlo9, hstab, List.mem_cons_self⟩, hts _ hcode, hts _ hini, hmh, hnp2, va_Nw.use rfl (hXN s hXs _ hlink)⟩, hts _ hins, hts _ hsel⟩ ⟨hblind, hrecv, hpre9⟩ rfl hlen hsz hstk (lv_room (by rw [tv_sum]; exact hq)) hdec hf
        · cases hc
      · cases hc
    · cases hc
  · cases hc
theorem x_k0 (hall : xall Ts Ns cl P) {k k1 i pc len : Nat} {M : xQ6} {ins : Instr} {ax : List Nat} {st as r : List Value} {hp : xH} (hM : P[k]? = some M) (hE : M.2.2.2.2.2[i]? = some (pc, len, ins, ax)) (hc : xcall ins ax st hp = some (k1, as, r)) : 0 < k1 := by
  obtain ⟨-, -, -, -, -, hclk, -⟩ := (hall.1 k M hM).2 i _ hE
  unfold xcall at hc
  split at hc
  · split at hc
    · cases hc; exact hclk.1
    · cases hc
  · split at hc
    · split at hc
      · cases hc; exact hclk.1
      · cases hc
    · cases hc
  · split at hc
    · split at hc
      · split at hc
        · cases hc; exact hclk.1
        · cases hc
      · cases hc
    · cases hc
  · cases hc
end X6
