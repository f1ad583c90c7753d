section X9
variable {p : Program} {l : Launch} {e : Env} {R : Room} {s : State} {m : MethodId} {args : Array Value} {below : List Frame} {meth : Method} {c : Code} {T : State} {locs : List Loc} {cells slots : Nat}
/-- a walk may be taken as begun where it stands -/
theorem x_rebase (X : Stand p l e R s m args below meth c T locs cells slots) (hc : cells ≤ R.cells) (hs : slots ≤ R.slots) : ∃ s' : State, s'.vm = T.vm ∧ s'.heap = T.heap ∧ T = s'.setFrames T.frames ∧ Stand p l e { frames := R.frames, cells := R.cells - cells, slots := R.slots - slots, locals := R.locals } s' m args below meth c T [] 0 0 := by
  obtain ⟨e1, -, q3, q4, q5, -⟩ := id X.same
  have hfr : (({ s with heap := T.heap, slotsUsed := T.slotsUsed } : State).setVm T.vm).frames = .invoking m args :: below := X.frames
  obtain ⟨th, hth, -⟩ := State.frames_cons hfr
  have hcur := State.cur_lt_of_frames hfr
  have hT : T = (({ s with heap := T.heap, slotsUsed := T.slotsUsed } : State).setVm T.vm).setFrames T.frames := by
    have h9 : T = (T.setVm s.vm).setVm T.vm := rfl
    rw [e1] at h9
    exact h9
  have hli : (({ s with heap := T.heap, slotsUsed := T.slotsUsed } : State).setVm T.vm).localsInUse = s.localsInUse := by
    unfold State.localsInUse
    rw [hfr, X.frames]
    show _ + ((((T.vm.method? m).bind (·.code)).map (·.maxLocals)).getD 0 + 11) = _ + ((((s.vm.method? m).bind (·.code)).map (·.maxLocals)).getD 0 + 11)
    rw [X.method, X.method']
  have hcode : ∀ q, (({ s with heap := T.heap, slotsUsed := T.slotsUsed } : State).setVm T.vm).code? q = s.code? q := fun q => by
    rw [State.code?_eq, State.code?_eq]
    show Option.bind (T.vm.method? q) _ = _
    rw [X.warmed.alike.method?]
  have hroom := X.room
  have hused := X.used
  have hbook := X.book
  refine ⟨({ s with heap := T.heap, slotsUsed := T.slotsUsed } : State).setVm T.vm, rfl, rfl, hT, X.admits, X.cas, X.clock, hfr, ?_, ?_, X.method', X.code, X.here, X.tail, State.WarmedH.refl _, X.limits, X.bytes, ?_⟩
  · simp only [State.hasRoom, Bool.and_eq_true, decide_eq_true_eq] at hroom ⊢
    rw [hli]
    obtain ⟨⟨⟨⟨h1, h2⟩, h3⟩, h4⟩, h5⟩ := hroom
    refine ⟨⟨⟨⟨h1, h2⟩, ?_⟩, ?_⟩, hbook⟩
    · have q3' : T.heap.size ≤ s.heap.size + cells := q3
      show T.heap.size + (R.cells - cells) ≤ _
      omega
    · show T.slotsUsed + (R.slots - slots) ≤ _
      omega
  · have h := X.hears
    cases below with
    | nil =>
      unfold State.hears at h ⊢
      show Option.any _ (T.vm.method? m) = true
      rw [X.method']
      rw [X.method] at h
      exact h
    | cons f fs =>
      cases f <;> unfold State.hears at h ⊢ <;> first
        | exact h
        | (simp only [hcode]; exact h)
        | (show Option.any _ (T.vm.method? m) = true
           rw [X.method']
           rw [X.method] at h
           exact h)
  · have h9 := (State.sameButNew.refl (({ s with heap := T.heap, slotsUsed := T.slotsUsed } : State).setVm T.vm) hth).setFrames T.frames hcur
    rw [← hT] at h9
    exact h9
theorem x_same {s' U : State} {k n : Nat} (hT : T = s'.setFrames T.frames) (h : s'.sameButNew ({ U with vm := s'.vm } : State) [] k n) (hW : s'.WarmedH U.vm) : T.sameButNew ({ U with vm := T.vm } : State) [] k n ∧ T.WarmedH U.vm := by
  generalize T.frames = F at hT
  subst hT
  obtain ⟨g1, g2, g3, g4, g5, g6⟩ := h
  refine ⟨⟨?_, g2, g3, g4, g5, g6⟩, hW⟩
  rw [State.setFrames_setFrames]
  exact g1
set_option maxHeartbeats 4000000 in
/-- 'throw new X("..")' -/
theorem x_thr {Ts : List Cond} {H : Heap} {B : Nat} {s0 : State} {cc : ByteArray} {own cls tx : String} {names : List String} {i1 i2 ic q9 pc : Nat} {lr : Array Slot} (hgood : GoodIn Ts Ts) (hexec : p.tables.exec = Jvm.exec) (hb : c.code = cc) (hml : lr.size = c.maxLocals) (hlk : meth.locks = false) (hown : s.vm.findClass own = some m.cls) (hts : ∀ w ∈ Ts, w.before args s = true)
    (hTr : ∀ e : Env, l.admits e → e.platform.stackTraces = false) (d0 : decode cc pc = .ok (.new i1, 3)) (d3 : decode cc (pc + 3) = .ok (.dup, 1)) (d4 : decode cc (pc + 4) = .ok (.ldc i2, 2)) (d6 : decode cc (pc + 6) = .ok (.invokespecial ic, 3)) (d9 : decode cc (pc + 9) = .ok (.athrow, 1))
    (hw1 : Cond.classLink own i1 cls ∈ Ts) (hw2 : Cond.instantiable cls 6 ∈ Ts) (hw3 : Cond.initialized cls ∈ Ts) (hZ : ∀ U : State, s.WarmedH U.vm → vk_R own i2 tx q9 U)
    (hat : ∀ U : State, s.WarmedH U.vm → (∀ q : Nat, q < B → U.heap[q]? = s0.heap[q]?) → ∀ a ∈ Bundle.ownAtoms own ic cls names, a.before args U = true) (hfit : Bundle.fit cls = true) (hfits : ∀ n ∈ names, Bundle.fit n = true) (hexc : c.exceptionTable.toList = [])
    (hfr : names.length + 3 < R.frames) (hlc : 1 + (13 * (names.length + 1) + 42) ≤ R.locals) (hcells : cells + 1 ≤ R.cells) (hslots : slots + 6 ≤ R.slots) (hH : ∀ q : Nat, q < B → H[q]? = s0.heap[q]?) (hT : T.heap = H) (X : Stand p l e R s m args below meth c T locs cells slots) :
    ∃ t : State, Steps p.tables e below (T.setTop (F0 m pc lr [])) t ∧ t.status = .running ∧ Ended t below (.threw H.size) ∧ s.WarmedH t.vm ∧ s.sameButNew ({ t with vm := s.vm } : State) locs (cells + 1) (slots + 6) ∧ (∃ ce : Cell, t.heap[H.size]? = some ce ∧ s.vm.findClass cls = some ce.cls ∧ ce.vm = .none) ∧ t.heap.size = H.size + 1 ∧ ∀ q : Nat, q < H.size → t.heap[q]? = H[q]? := by
  obtain ⟨s', hvm', hhp', hTf, X'⟩ := x_rebase X (by omega) (by omega)
  have hW : s.WarmedH s'.vm := by rw [hvm']; exact X.warmed
  have hts' : ∀ w ∈ Ts, w.before args s' = true := fun w hw => pay_in hts hgood w hw args s' hW
  have hown' : s'.vm.findClass own = some m.cls := by rw [hW.alike.findClass]; exact hown
  have hsH : s'.heap = H := hhp'.trans hT
  obtain ⟨vm1, cC, kC, f1, f2, f3, f4, X1, st1⟩ := X'.newCold hexec hown' (hts' _ hw1) (hts' _ hw2) (hts' _ hw3) (g := F0 m pc lr []) rfl (by rw [hb]; exact d0) (by show 0 + 1 ≤ R.cells - cells; omega) (by show 0 + 6 ≤ R.slots - slots; omega)
  have key : W p l e { frames := R.frames, cells := R.cells - cells, slots := R.slots - slots, locals := R.locals } s' m args below meth c (H.push { cls := cC, slots := kC.instanceTypes.map defaultValue, vm := .none }) [] (0 + 1) (0 + 6) (fun U => U.status = .running ∧ Ended U below (.threw H.size) ∧ s'.WarmedH U.vm ∧ s'.sameButNew ({ U with vm := s'.vm } : State) [] (0 + 1) (0 + 6) ∧ ∃ ce : Cell, U.heap[H.size]? = some ce ∧ s'.vm.findClass cls = some ce.cls ∧ ce.vm = .none) (F0 m (pc + 3) lr [.ref H.size]) := by
    refine lv_dup hexec hb d3 rfl ?_
    refine va_ldcS hexec hb hown' (hZ s' hW) d4 ?_
    intro T2 hT2 X2
    obtain ⟨U, a1, a2, a3, a4, a5, ce, a6, a7⟩ := X2.ctorThrowS hexec (hTr e X2.admits) (own := own) (cls := cls) (names := names) (ic := ic) hown' hfit hfits (hat s' hW (by rw [hsH]; exact hH)) (fun x hx => by cases hx) (a := H.size) (cX := cC) (kX := kC) f1 f2 (by rw [hT2, Array.getElem?_push_size]) (by rw [hsH]; exact Nat.le_refl _) (msg := .ref q9) rfl (g := F0 m (pc + 4 + 2) lr [.ref q9, .ref H.size, .ref H.size]) rfl hml rfl rfl (rest := []) rfl (by rw [hb]; exact d6) (by rw [hb]; exact d9) (by rw [hexc]; exact fun x hx => by cases hx) hfr (by show 2 * 0 + _ + _ ≤ _; simpa [Value.category] using hlc) hlk
    exact ⟨U, a1, a2, a3, a4, a5, ce, a6, a7.cls, a7.vm⟩
  have hX1 : T.heap.size = H.size := by rw [hT]
  obtain ⟨U, b1, b2, b3, b4, b5, ce, b6, b7, b8⟩ := key _ (by show T.heap.push _ = _; rw [hT]) X1
  obtain ⟨c1, c2⟩ := x_same hTf b5 b4
  have c3 := X.same.trans (c1.setVm s.vm)
  rw [List.append_nil] at c3
  have hlt := (Array.getElem?_eq_some_iff.mp b6).1
  have hle : U.heap.size ≤ s'.heap.size + (0 + 1) := b5.2.2.1
  refine ⟨U, st1 U (by rw [hT]; exact b1), b2, b3, State.WarmedH.trans X.warmed c2, c3, ⟨ce, b6, by rw [← hW.alike.findClass]; exact b7, b8⟩, by rw [hsH] at hle; omega, fun q hq => ?_⟩
  have hq' : s'.heap[q]? = some (H[q]'hq) := by rw [hsH]; exact Array.getElem?_eq_getElem hq
  have h9 : U.heap[q]? = some (H[q]'hq) := State.sameButNew.old_cell b5 hq'
  rw [h9, Array.getElem?_eq_getElem hq]
end X9
