/-! from the law's entry to a run of the pure machine -/
set_option maxRecDepth 100000 in
theorem zSs_ok : ∀ q ∈ zSs, Cond.stringRef q.1 q.2.1 q.2.2.1 ∈ lw_tbl ∧ ∃ j, j < zTx.length ∧ q.2.2.2 = 1 + 2 * j ∧ (zTx.getD j ("", 0, [])).1 = q.1 ∧ (zTx.getD j ("", 0, [])).2.1 = q.2.1 := by
  have h : ∀ q ∈ zSs, Cond.stringRef q.1 q.2.1 q.2.2.1 ∈ lw_tbl ∧ (q.2.2.2 - 1) / 2 < zTx.length ∧ q.2.2.2 = 1 + 2 * ((q.2.2.2 - 1) / 2) ∧ (zTx.getD ((q.2.2.2 - 1) / 2) ("", 0, [])).1 = q.1 ∧ (zTx.getD ((q.2.2.2 - 1) / 2) ("", 0, [])).2.1 = q.2.1 := by decide +kernel
  intro q hq
  obtain ⟨h1, h2, h3, h4, h5⟩ := h q hq
  exact ⟨h1, _, h2, h3, h4, h5⟩
set_option maxRecDepth 100000 in
theorem zNs_ok : ∀ w ∈ zNs, w ∈ lw_tbl ∧ isSt w = true ∧ (w.onTables = true ∨ ∃ C, w = .arrayOver (.object C)) := by
  have h : ∀ w ∈ zNs, w ∈ lw_tbl ∧ isSt w = true ∧ (w.onTables = true ∨ (match w with | .arrayOver (.object _) => true | _ => false) = true) := by decide +kernel
  intro w hw
  obtain ⟨h1, h2, h3⟩ := h w hw
  refine ⟨h1, h2, ?_⟩
  rcases h3 with h3 | h3
  · exact Or.inl h3
  · split at h3
    · exact Or.inr ⟨_, rfl⟩
    · cases h3
set_option maxRecDepth 100000 in
theorem zIn_ok : ∀ q ∈ zCl, Cond.instantiable q.1 q.2.2 ∈ lw_tbl := by decide +kernel
set_option maxRecDepth 100000 in
theorem zMisc_ok : Cond.laysStatic "java/lang/String" "COMPACT_STRINGS" "Z" ∈ lw_tbl ∧ Cond.initialized "java/lang/String" ∈ lw_tbl ∧ Cond.laysStatic "jdk/internal/util/Preconditions" "SIOOBE_FORMATTER" "Ljava/util/function/BiFunction;" ∈ lw_tbl ∧ Cond.initialized "jdk/internal/util/Preconditions" ∈ lw_tbl ∧
    Cond.laysStatic "java/lang/Throwable" "UNASSIGNED_STACK" "[Ljava/lang/StackTraceElement;" ∈ lw_tbl ∧ Cond.laysStatic "java/lang/Throwable" "SUPPRESSED_SENTINEL" "Ljava/util/List;" ∈ lw_tbl ∧ Cond.initialized "java/lang/Throwable" ∈ lw_tbl ∧ Cond.castable "java/lang/IllegalArgumentException" "java/lang/IllegalArgumentException" ∈ lw_tbl ∧ Cond.castable "java/lang/IllegalStateException" "java/lang/IllegalStateException" ∈ lw_tbl ∧ Cond.castable "java/lang/IndexOutOfBoundsException" "java/lang/IndexOutOfBoundsException" ∈ lw_tbl := by decide +kernel
theorem zAll (h0 : kOk lw_tbl zNs zCl zP true zM0) (h1 : ∀ M ∈ zP.tail, kOk lw_tbl zNs zCl zP false M) : xall (lw_tbl.filter goodWord) zNs zCl zP := by
  refine ⟨fun k M hM => ?_, fun ci q hq => zCl_ok q (List.mem_of_getElem? hq), fun w hw => ⟨hw, good_of_word (List.mem_filter.mp hw).2⟩⟩
  cases k with
  | zero =>
    have hM0 : M = zM0 := (Option.some.inj hM).symm
    subst hM0
    exact ⟨fun h => absurd h (by omega), h0.2⟩
  | succ k =>
    have hm : M ∈ zP.tail := List.mem_of_getElem? (i := k) (by rw [List.getElem?_tail]; exact hM)
    exact ⟨fun _ => (h1 M hm).1 rfl, (h1 M hm).2⟩
/-- what is to be shown of the pure machine: the law answers 1, in the room -/
def zPure (N : Nat) : Prop := ∀ (sio : Value), (sio = .null ∨ sio = .ref (zK - 1)) → ∀ xs : List Int32, xs.length ≤ N → ∃ (n d : Nat) (hp' : xH), d ≤ 1300 ∧ ex zP (zCs sio) zK n d 0 0 (some (.ref 0) :: List.replicate 6 none) [] (fHp xs zTx) = some (.inl (some (.int 1)), hp') ∧ hp'.length - (fHp xs zTx).length ≤ 601024 ∧ xsz hp' - xsz (fHp xs zTx) ≤ 7293034
set_option maxHeartbeats 8000000 in
set_option maxRecDepth 100000 in
theorem z_run {l : Launch} {p : Program} {e : Env} {s : State} {m : MethodId} {below : List Frame} {meth : Method} {c : Code} {b N : Nat} {xs : List Int32} (hp : zPure N) (hall : xall (lw_tbl.filter goodWord) zNs zCl zP) (h2 : ∀ M ∈ zP, k2L lw_tbl zCk zSs zZs zOs zK M 0 M.2.2.2.2.2 = true) (hN : xs.length ≤ N) (hN2 : N < 2 ^ 31) (hexec : p.tables.exec = Jvm.exec) (hb : c.code = code) (hr : meth.sig.returnType = some .boolean) (hml : c.maxLocals = 7) (hown : s.vm.findClass "FormulaTreesLaw" = some m.cls) (hts : ∀ w ∈ lw_tbl, w.before #[Value.ref b] s = true) (hX : va_X b xs.length (fun j => xs.getD j 0) s s.heap) (hbl : b < s.heap.size) (hlk : meth.locks = false) (hgv : (Jvm.Cond.and given_1 narrow_1).before #[Value.ref b] s = true) (hnm : meth.name = "law") (hexc : c.exceptionTable.toList = []) (hTr : ∀ e : Env, l.admits e → e.platform.stackTraces = false) :
    W p l e room_1 s m #[Value.ref b] below meth c s.heap [] 0 0 (fun t => ∃ o, t.status = .running ∧ Ended t below o ∧ o = .returned (some (.int 1)) ∧ Framed s o t [] 601024 7293034) (entryFrame m ([Value.ref b] : List Value).toArray 7) := by
  have hs : ∀ w ∈ zF, w.before #[Value.ref b] s = true := flat_of_before _ hgv
  have hA : ∀ a : Nat, a < s.heap.size → ¬ (fun q : Nat => s.heap.size ≤ q) a := fun a h q => absurd h (Nat.not_lt.mpr q)
  have htsF : ∀ w ∈ lw_tbl.filter goodWord, w.before #[Value.ref b] s = true := fun w hw => hts w (List.mem_filter.mp hw).1
  obtain ⟨m1, m2, m3, m4, m5, m6, m7, m8, m9, m10⟩ := zMisc_ok
  -- the texts
  have hlt : ∀ j, j < zTx.length → (zTx.getD j ("", 0, [])).2.2.length < 2 ^ 31 := by
    have : ∀ t ∈ zTx, t.2.2.length < 2 ^ 31 := by decide +kernel
    intro j hj
    rw [List.getD_eq_getElem?_getD, List.getElem?_eq_getElem hj]
    exact this _ (List.getElem_mem hj)
  have hex1 : ∀ j, ∃ q : Nat × Nat, j < zTx.length → (Term.string (zTx.getD j ("", 0, [])).1 (zTx.getD j ("", 0, [])).2.1).eval #[Value.ref b] s none [] s = some (.ref q.1) ∧ va_O "java/lang/String" q.1 (fun q => s.heap.size ≤ q) s s.heap ∧ va_OF "java/lang/String" "coder" "B" (.int 0) q.1 (fun q => s.heap.size ≤ q) s s.heap ∧ va_OF "java/lang/String" "value" "[B" (.ref q.2) q.1 (fun q => s.heap.size ≤ q) s s.heap ∧ va_T .byte q.2 (zTx.getD j ("", 0, [])).2.2.length (fun k => .int ((zTx.getD j ("", 0, [])).2.2.getD k 0)) (fun q => s.heap.size ≤ q) s s.heap := by
    intro j
    by_cases hj : j < zTx.length
    · obtain ⟨q, r, h⟩ := sCo_ok (t := zTx.getD j ("", 0, [])) (fun w hw => hs w (zSc_at j hj w hw)) (hlt j hj) hA
      exact ⟨(q, r), fun _ => h⟩
    · exact ⟨(0, 0), fun h => absurd h hj⟩
  obtain ⟨ad, had⟩ := Classical.axiomOfChoice hex1
  have hz0 : 0 < zTx.length := by decide +kernel
  obtain ⟨-, ⟨cell0, u1, u2, u3, -⟩, ⟨cf, kf, fi, f, -, c1, c2, -⟩, ⟨cf', kf', fi', f', -, d1, d2, -⟩, -⟩ := had 0 hz0
  -- the kinds
  have hex2 : ∀ ci, ∃ q : ClassId × (Nat → Nat), ∀ q' : vw_C, zCl[ci]? = some q' → u_Kn s q'.1 q'.2.1 q'.2.2 q.1 q.2 := by
    intro ci
    cases hq : zCl[ci]? with
    | none => exact ⟨(0, fun _ => 0), fun q' h => by cases h⟩
    | some q' =>
      have hm := List.mem_of_getElem? hq
      obtain ⟨cC, iS, h⟩ := u_known htsF (zCl_ok q' hm).1 (hts _ (zIn_ok q' hm))
      exact ⟨(cC, iS), fun q'' h' => by cases h'; exact h⟩
  obtain ⟨F, hF⟩ := Classical.axiomOfChoice hex2
  obtain ⟨e0, e0', f0, f0', f0''⟩ := Cond.castable_spec (hts _ m8)
  obtain ⟨e1, e1', f1, f1', f1''⟩ := Cond.castable_spec (hts _ m9)
  obtain ⟨e2, e2', f2, f2', f2''⟩ := Cond.castable_spec (hts _ m10)
  cases f0.symm.trans f0'
  cases f1.symm.trans f1'
  cases f2.symm.trans f2'
  sorry
