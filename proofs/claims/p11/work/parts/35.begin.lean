/-! from the law's entry to a run of the pure machine -/
set_option maxRecDepth 100000 in
theorem zSs_ok : ∀ q ∈ zSs, Cond.stringRef q.1 q.2.1 q.2.2.1 ∈ lw_tbl ∧ ∃ j, j < zTx.length ∧ q.2.2.2 = 1 + 2 * j ∧ (zTx.getD j ("", 0, [])).1 = q.1 ∧ (zTx.getD j ("", 0, [])).2.1 = q.2.1 := by
  have h : ∀ q ∈ zSs, Cond.stringRef q.1 q.2.1 q.2.2.1 ∈ lw_tbl ∧ (q.2.2.2 - 1) / 2 < zTx.length ∧ q.2.2.2 = 1 + 2 * ((q.2.2.2 - 1) / 2) ∧ (zTx.getD ((q.2.2.2 - 1) / 2) ("", 0, [])).1 = q.1 ∧ (zTx.getD ((q.2.2.2 - 1) / 2) ("", 0, [])).2.1 = q.2.1 := by decide +kernel
  intro q hq
  obtain ⟨h1, h2, h3, h4, h5⟩ := h q hq
  exact ⟨h1, _, h2, h3, h4, h5⟩
set_option maxRecDepth 100000 in
theorem zNs_ok : ∀ w ∈ zNs, w ∈ lw_tbl ∧ isSt w = true ∧ (w.onTables = true ∨ ∃ C, w = .arrayOver (.object C)) := by
  have h : ∀ w ∈ zNs, w ∈ lw_tbl ∧ isSt w = true ∧ (w.onTables = true ∨ (match w with | .arrayOver (.object _) => true | _ => false) = true) := by decide +kernel
  intro w hw
  obtain ⟨h1, h2, h3⟩ := h w hw
  refine ⟨h1, h2, ?_⟩
  rcases h3 with h3 | h3
  · exact Or.inl h3
  · split at h3
    · exact Or.inr ⟨_, rfl⟩
    · cases h3
set_option maxRecDepth 100000 in
theorem zIn_ok : ∀ q ∈ zCl, Cond.instantiable q.1 q.2.2 ∈ lw_tbl := by decide +kernel
set_option maxRecDepth 100000 in
theorem zMisc_ok : Cond.laysStatic "java/lang/String" "COMPACT_STRINGS" "Z" ∈ lw_tbl ∧ Cond.initialized "java/lang/String" ∈ lw_tbl ∧ Cond.laysStatic "jdk/internal/util/Preconditions" "SIOOBE_FORMATTER" "Ljava/util/function/BiFunction;" ∈ lw_tbl ∧ Cond.initialized "jdk/internal/util/Preconditions" ∈ lw_tbl ∧
    Cond.laysStatic "java/lang/Throwable" "UNASSIGNED_STACK" "[Ljava/lang/StackTraceElement;" ∈ lw_tbl ∧ Cond.laysStatic "java/lang/Throwable" "SUPPRESSED_SENTINEL" "Ljava/util/List;" ∈ lw_tbl ∧ Cond.initialized "java/lang/Throwable" ∈ lw_tbl ∧ Cond.castable "java/lang/IllegalArgumentException" "java/lang/IllegalArgumentException" ∈ lw_tbl ∧ Cond.castable "java/lang/IllegalStateException" "java/lang/IllegalStateException" ∈ lw_tbl ∧ Cond.castable "java/lang/IndexOutOfBoundsException" "java/lang/IndexOutOfBoundsException" ∈ lw_tbl := by decide +kernel
theorem zAll (h0 : kOk lw_tbl zNs zCl zP true zM0) (h1 : ∀ M ∈ zP.tail, kOk lw_tbl zNs zCl zP false M) : xall (lw_tbl.filter goodWord) zNs zCl zP := by
  refine ⟨fun k M hM => ?_, fun ci q hq => zCl_ok q (List.mem_of_getElem? hq), fun w hw => ⟨hw, good_of_word (List.mem_filter.mp hw).2⟩⟩
  cases k with
  | zero =>
    have hM0 : M = zM0 := (Option.some.inj hM).symm
    subst hM0
    exact ⟨fun h => absurd h (by omega), h0.2⟩
  | succ k =>
    have hm : M ∈ zP.tail := List.mem_of_getElem? (i := k) (by rw [List.getElem?_tail]; exact hM)
    exact ⟨fun _ => (h1 M hm).1 rfl, (h1 M hm).2⟩
def zKc (F : Nat → ClassId × (Nat → Nat)) (g e0 e1 e2 : ClassId) (ci : Nat) : ClassId := if ci < 70 then (F ci).1 else if ci = 70 then g else if ci = 80 then e0 else if ci = 81 then e1 else e2
def zSl (F : Nat → ClassId × (Nat → Nat)) (s : State) (ci : Nat) : Nat → Nat := if ci < 70 then (F ci).2 else fSl s
set_option maxRecDepth 100000 in
theorem zAs_ok : ∀ a ∈ zAs, (a ∈ lw_tbl ∧ isSt a = true ∧ a.onTables = true) ∨ a = Cond.laysStatic "java/lang/Throwable" "UNASSIGNED_STACK" "[Ljava/lang/StackTraceElement;" ∨ a = Cond.laysStatic "java/lang/Throwable" "SUPPRESSED_SENTINEL" "Ljava/util/List;" ∨ a = Cond.isRef (.static "java/lang/Throwable" "UNASSIGNED_STACK" "[Ljava/lang/StackTraceElement;") ∨ a = Cond.isRef (.static "java/lang/Throwable" "SUPPRESSED_SENTINEL" "Ljava/util/List;") := by decide +kernel
theorem zRoom : 1300 ≤ room_1.frames ∧ 64 * 1300 ≤ room_1.locals ∧ 601024 ≤ room_1.cells ∧ 7293034 ≤ room_1.slots := by decide +kernel
/-- what is to be shown of the pure machine: the law answers 1, in the room -/
def zPure (N : Nat) : Prop := ∀ (sio : Value), (sio = .null ∨ sio = .ref (zK - 1)) → ∀ xs : List Int32, xs.length ≤ N → ∃ (n d : Nat) (hp' : xH), d ≤ 1300 ∧ ex zP (zCs sio) zK n d 0 0 (some (.ref 0) :: List.replicate 6 none) [] (fHp xs zTx) = some (.inl (some (.int 1)), hp') ∧ hp'.length - (fHp xs zTx).length ≤ 601024 ∧ xsz hp' - xsz (fHp xs zTx) ≤ 7293034
set_option maxHeartbeats 8000000 in
set_option maxRecDepth 100000 in
theorem z_run {l : Launch} {p : Program} {e : Env} {s : State} {m : MethodId} {below : List Frame} {meth : Method} {c : Code} {b N : Nat} {xs : List Int32} (hp : zPure N) (hall : xall (lw_tbl.filter goodWord) zNs zCl zP) (h2 : ∀ M ∈ zP, k2L lw_tbl zCk zSs zZs zOs zK M 0 M.2.2.2.2.2 = true) (hN : xs.length ≤ N) (hN2 : N < 2 ^ 31) (hexec : p.tables.exec = Jvm.exec) (hb : c.code = code) (hr : meth.sig.returnType = some .boolean) (hml : c.maxLocals = 7) (hown : s.vm.findClass "FormulaTreesLaw" = some m.cls) (hts : ∀ w ∈ lw_tbl, w.before #[Value.ref b] s = true) (hX : va_X b xs.length (fun j => xs.getD j 0) s s.heap) (hbl : b < s.heap.size) (hlk : meth.locks = false) (hgv : (Jvm.Cond.and given_1 narrow_1).before #[Value.ref b] s = true) (hnm : meth.name = "law") (hexc : c.exceptionTable.toList = []) (hTr : ∀ e : Env, l.admits e → e.platform.stackTraces = false) :
    W p l e room_1 s m #[Value.ref b] below meth c s.heap [] 0 0 (fun t => ∃ o, t.status = .running ∧ Ended t below o ∧ o = .returned (some (.int 1)) ∧ Framed s o t [] 601024 7293034) (entryFrame m ([Value.ref b] : List Value).toArray 7) := by
  have hs : ∀ w ∈ zF, w.before #[Value.ref b] s = true := flat_of_before _ hgv
  have hA : ∀ a : Nat, a < s.heap.size → ¬ (fun q : Nat => s.heap.size ≤ q) a := fun a h q => absurd h (Nat.not_lt.mpr q)
  have htsF : ∀ w ∈ lw_tbl.filter goodWord, w.before #[Value.ref b] s = true := fun w hw => hts w (List.mem_filter.mp hw).1
  obtain ⟨m1, m2, m3, m4, m5, m6, m7, m8, m9, m10⟩ := zMisc_ok
  -- the texts
  have hlt : ∀ j, j < zTx.length → (zTx.getD j ("", 0, [])).2.2.length < 2 ^ 31 := by
    have : ∀ t ∈ zTx, t.2.2.length < 2 ^ 31 := by decide +kernel
    intro j hj
    rw [List.getD_eq_getElem?_getD, List.getElem?_eq_getElem hj]
    exact this _ (List.getElem_mem hj)
  have hex1 : ∀ j, ∃ q : Nat × Nat, j < zTx.length → (Term.string (zTx.getD j ("", 0, [])).1 (zTx.getD j ("", 0, [])).2.1).eval #[Value.ref b] s none [] s = some (.ref q.1) ∧ va_O "java/lang/String" q.1 (fun q => s.heap.size ≤ q) s s.heap ∧ va_OF "java/lang/String" "coder" "B" (.int 0) q.1 (fun q => s.heap.size ≤ q) s s.heap ∧ va_OF "java/lang/String" "value" "[B" (.ref q.2) q.1 (fun q => s.heap.size ≤ q) s s.heap ∧ va_T .byte q.2 (zTx.getD j ("", 0, [])).2.2.length (fun k => .int ((zTx.getD j ("", 0, [])).2.2.getD k 0)) (fun q => s.heap.size ≤ q) s s.heap := by
    intro j
    by_cases hj : j < zTx.length
    · obtain ⟨q, r, h⟩ := sCo_ok (t := zTx.getD j ("", 0, [])) (fun w hw => hs w (zSc_at j hj w hw)) (hlt j hj) hA
      exact ⟨(q, r), fun _ => h⟩
    · exact ⟨(0, 0), fun h => absurd h hj⟩
  obtain ⟨ad, had⟩ := Classical.axiomOfChoice hex1
  have hz0 : 0 < zTx.length := by decide +kernel
  obtain ⟨-, ⟨cell0, u1, u2, u3, -⟩, ⟨cf, kf, fi, f, -, c1, c2, -⟩, ⟨cf', kf', fi', f', -, d1, d2, -⟩, -⟩ := had 0 hz0
  -- the kinds
  have hex2 : ∀ ci : Nat, ∃ q : ClassId × (Nat → Nat), ∀ q' : vw_C, zCl[ci]? = some q' → u_Kn s q'.1 q'.2.1 q'.2.2 q.1 q.2 := by
    intro ci
    cases hq : zCl[ci]? with
    | none => exact ⟨(0, fun _ => 0), fun q' h => by cases h⟩
    | some q' =>
      have hm := List.mem_of_getElem? hq
      obtain ⟨cC, iS, h⟩ := u_known htsF (zCl_ok q' hm).1 (hts _ (zIn_ok q' hm))
      exact ⟨(cC, iS), fun q'' h' => by cases h'; exact h⟩
  obtain ⟨F, hF⟩ := Classical.axiomOfChoice hex2
  obtain ⟨e0, e0', f0, f0', f0''⟩ := Cond.castable_spec (hts _ m8)
  obtain ⟨e1, e1', f1, f1', f1''⟩ := Cond.castable_spec (hts _ m9)
  obtain ⟨e2, e2', f2, f2', f2''⟩ := Cond.castable_spec (hts _ m10)
  cases f0.symm.trans f0'
  cases f1.symm.trans f1'
  cases f2.symm.trans f2'
  have hlen : zK = 2 + 2 * zTx.length := by decide +kernel
  have hcl : ∀ (ci : Nat) (q : vw_C), zCl[ci]? = some q → ci < 70 := fun ci q h => by
    have h1 := (List.getElem?_eq_some_iff.mp h).1
    have h2 : zCl.length = 10 := by decide +kernel
    omega
  -- the static that may hold an object
  obtain ⟨vs, hvs, hvr⟩ := Cond.isRef_spec (hs _ zFs)
  have hsio : ∃ (sio : Value) (sa : Nat), (sio = .null ∨ sio = .ref (zK - 1)) ∧ (∀ ρ : Nat → Nat, ρ (zK - 1) = sa → tv ρ sio = vs) := by
    cases vs with
    | null => exact ⟨.null, 0, Or.inl rfl, fun ρ _ => rfl⟩
    | ref a => exact ⟨.ref (zK - 1), a, Or.inr rfl, fun ρ h => by show Value.ref (ρ (zK - 1)) = _; rw [h]⟩
    | _ => cases hvr
  obtain ⟨sio, sa, hsio1, hsio2⟩ := hsio
  obtain ⟨hR, hpre⟩ := f_Rp (cl := zCl) (kc := zKc F cell0.cls e0 e1 e2) (sl := zSl F s) (s := s) (b := b) (sa := sa) (xs := xs) (tx := zTx) (ad := ad) (fun k => rfl) u3 (by decide +kernel) hbl hX (by omega) (fun i hi => (had i hi).2)
  rw [← hlen] at hR hpre
  have hNm : ∀ (ci : Nat) (q : String), xnm zCl ci = some q → s.vm.findClass q = some (zKc F cell0.cls e0 e1 e2 ci) := by
    intro ci q hq
    unfold xnm at hq
    split at hq
    · rename_i h70
      subst h70
      cases hq
      exact u3
    · obtain ⟨q', h1, h2⟩ := Option.map_eq_some_iff.mp hq
      subst h2
      have := (hF ci q' h1).2.1
      unfold zKc
      rw [if_pos (hcl ci q' h1)]
      exact this
  have hG0 : ∀ (ci : Nat) (q : vw_C), zCl[ci]? = some q → u_Kn s q.1 q.2.1 q.2.2 (zKc F cell0.cls e0 e1 e2 ci) (zSl F s ci) := by
    intro ci q hq
    unfold zKc zSl
    rw [if_pos (hcl ci q hq), if_pos (hcl ci q hq)]
    exact hF ci q hq
  have hStr : xStr (zSl F s) s := by
    intro k hk
    match k, hk with
    | 0, _ => exact ⟨cf', kf', fi', f', d1, d2, by show f'.slot = fSl s 0; unfold fSl; rw [show s.fieldFound? "java/lang/String" (xsn 0).1 (xsn 0).2 = some (cf', kf', fi', f') from d1]⟩
    | 1, _ => exact ⟨cf, kf, fi, f, c1, c2, by show f.slot = fSl s 1; unfold fSl; rw [show s.fieldFound? "java/lang/String" (xsn 1).1 (xsn 1).2 = some (cf, kf, fi, f) from c1]⟩
  have hSs : ∀ q ∈ zSs, vk_R q.1 q.2.1 q.2.2.1 (fPre b sa zTx.length ad q.2.2.2) s := by
    intro q hq
    obtain ⟨g1, j, g2, g3, g4, g5⟩ := zSs_ok q hq
    have h9 := (had j g2).1
    rw [g4, g5] at h9
    have e9 : fPre b sa zTx.length ad q.2.2.2 = (ad j).1 := by
      rw [g3]
      unfold fPre
      rw [if_neg (by omega), if_neg (by omega), if_pos (by omega), show (1 + 2 * j - 1) / 2 = j by omega]
    rw [e9]
    exact vk_R.of (hts _ g1) h9
  have hpk : fPre b sa zTx.length ad (zK - 1) = sa := by
    unfold fPre
    rw [if_neg (by omega), if_pos (by omega)]
  have hZ : ∀ q ∈ zZs, ∀ v : Value, (zCs sio)[q.2.2.2]? = some v → va_Z q.1 q.2.1 q.2.2.1 (tv (xr s.heap.size zK (fPre b sa zTx.length ad)) v) (fun a => s.heap.size ≤ a) s s.heap := by
    intro q hq v hv
    simp only [zZs, List.mem_cons, List.not_mem_nil, or_false] at hq
    rcases hq with rfl | rfl
    · cases (show some (Value.int 1) = some v from hv)
      exact va_Zof (hts _ m1) (hts _ m2) (va_eqt (hs _ zFc)) hA
    · cases (show some sio = some v from hv)
      rw [hsio2 _ (by unfold xr; rw [if_pos (by omega)]; exact hpk)]
      exact va_Zof (hts _ m3) (hts _ m4) hvs hA
  have hnc : ∀ {A B : String} {a b : ClassId}, Cond.not (Cond.castable A B) ∈ zF → s.vm.findClass A = some a → s.vm.findClass B = some b → s.vm.assignable a b = false := by
    intro A B a b' h ha hb'
    have h9 := hs _ h
    simpa [Cond.before, Cond.holds, Cond.value, ha, hb'] using h9
  have hEx : xEx (zKc F cell0.cls e0 e1 e2) s := by
    intro y z C D hy hz
    match y, hy, z, hz with
    | 0, hy, 0, hz => cases hy; cases hz; exact ⟨f0, ⟨_, (Vm.findClass_spec f0).choose_spec.1⟩, f0''⟩
    | 1, hy, 1, hz => cases hy; cases hz; exact ⟨f1, ⟨_, (Vm.findClass_spec f1).choose_spec.1⟩, f1''⟩
    | 2, hy, 2, hz => cases hy; cases hz; exact ⟨f2, ⟨_, (Vm.findClass_spec f2).choose_spec.1⟩, f2''⟩
    | 0, hy, 1, hz => cases hy; cases hz; exact ⟨f0, ⟨_, (Vm.findClass_spec f0).choose_spec.1⟩, hnc zN10 f1 f0⟩
    | 0, hy, 2, hz => cases hy; cases hz; exact ⟨f0, ⟨_, (Vm.findClass_spec f0).choose_spec.1⟩, hnc zN20 f2 f0⟩
    | 1, hy, 0, hz => cases hy; cases hz; exact ⟨f1, ⟨_, (Vm.findClass_spec f1).choose_spec.1⟩, hnc zN01 f0 f1⟩
    | 1, hy, 2, hz => cases hy; cases hz; exact ⟨f1, ⟨_, (Vm.findClass_spec f1).choose_spec.1⟩, hnc zN21 f2 f1⟩
    | 2, hy, 0, hz => cases hy; cases hz; exact ⟨f2, ⟨_, (Vm.findClass_spec f2).choose_spec.1⟩, hnc zN02 f0 f2⟩
    | 2, hy, 1, hz => cases hy; cases hz; exact ⟨f2, ⟨_, (Vm.findClass_spec f2).choose_spec.1⟩, hnc zN12 f1 f2⟩
  have hNs : ∀ w ∈ zNs, isSt w = true ∧ va_Nw w s := by
    intro w hw
    obtain ⟨g1, g2, g3⟩ := zNs_ok w hw
    refine ⟨g2, ?_⟩
    rcases g3 with g3 | ⟨C, rfl⟩
    · exact va_Nw.of g3 (hts w g1)
    · exact va_AO.of (hts _ g1)
  have hisr : ∀ {args : Array Value} {U : State} {t : Term} {v : Value}, t.eval args U none [] U = some v → v.isRef = true → (Cond.isRef t).before args U = true := by
    intro args U t v h1 h2
    cases v with
    | null => simp [Cond.before, Cond.holds, Cond.value, h1]
    | ref a => simp [Cond.before, Cond.holds, Cond.value, h1]
    | _ => cases h2
  have hAs : ∀ (args : Array Value) (U : State), s.WarmedH U.vm → (∀ q : Nat, q < s.heap.size → U.heap[q]? = s.heap[q]?) → ∀ a ∈ zAs, a.before args U = true := by
    intro args U hW hq a ha
    have hst : ∀ {C n d : String}, Cond.laysStatic C n d ∈ lw_tbl → Cond.initialized C ∈ lw_tbl → Cond.isRef (.static C n d) ∈ zF → (Cond.isRef (.static C n d)).before args U = true := by
      intro C n d g1 g2 g3
      obtain ⟨v, hv, hr9⟩ := Cond.isRef_spec (hs _ g3)
      exact hisr (st_at (A := fun q => s.heap.size ≤ q) hW (fun q h => hq q (Nat.not_le.mp h)) (va_Zof (hts _ g1) (hts _ g2) hv hA) none) hr9
    rcases zAs_ok a ha with ⟨g1, g2, g3⟩ | rfl | rfl | rfl | rfl
    · exact va_Nw.use g3 (nw_warm g2 hW (va_Nw.of g3 (hts a g1)))
    · exact ls_at hW hq (hts _ m5)
    · exact ls_at hW hq (hts _ m6)
    · exact hst m5 m7 zFu
    · exact hst m6 m7 zFp
  have hk2 : ∀ (k : Nat) (M : xQ6) (i pc len : Nat) (ins : Instr) (ax : List Nat), zP[k]? = some M → M.2.2.2.2.2[i]? = some (pc, len, ins, ax) → kcst lw_tbl zCk zSs zZs zK M.1.cls ins ax = true ∧ kthk lw_tbl zSs zOs M i ins ax = true := by
    intro k M i pc len ins ax hM hE
    have h9 := k2L_ok _ 0 (h2 M (List.mem_of_getElem? hM)) i pc len ins ax hE
    rw [Nat.zero_add] at h9
    exact h9
  obtain ⟨n, d, hp', hd, hex, hmc, hms⟩ := hp sio hsio1 xs hN
  obtain ⟨r1, r2, r3, r4⟩ := zRoom
  exact x_law (Cs := zCs sio) (Ss := zSs) (Zs := zZs) (As := zAs) (K := zK) (pre := fPre b sa zTx.length ad) (M := zM0) (n := n) (d := d) (mx := 7) hall hNs hG0 hNm hStr hpre hSs hZ
    (fun k M i pc len ins ax hM hE => kcst_ok (hk2 k M i pc len ins ax hM hE).1)
    (fun k M i pc len ins ax z hM hE hz => kthk_ok zO_ok (hk2 k M i pc len ins ax hM hE).2 hz)
    hEx hTr hAs rfl hexec hb hml hr hlk hnm hown htsF hexc rfl (by decide +kernel) hR (by decide +kernel) rfl rfl (by decide) hex hmc hms r3 r4 (by omega) (by omega)
