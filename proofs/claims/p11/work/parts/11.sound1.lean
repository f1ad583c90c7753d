/-! the pure machine is the machine: values, locals, the heap -/
def tv (ρ : Nat → Nat) (v : Value) : Value := match v with
  | .ref a => .ref (ρ a)
  | v => v
theorem tv_cat (ρ : Nat → Nat) (v : Value) : (tv ρ v).category = v.category := by cases v <;> rfl
theorem tv_sum (ρ : Nat → Nat) (l : List Value) : ((l.map (tv ρ)).map fun v => v.category).sum = (l.map fun v => v.category).sum := by
  induction l with
  | nil => rfl
  | cons a l ih => simp only [List.map_cons, List.sum_cons, tv_cat, ih]
def xLH (ρ : Nat → Nat) (lr : Array Slot) (ls : xL) : Prop := lr.size = ls.length ∧ lv_wf lr ∧ ∀ (i : Nat) (v : Value), ls[i]? = some (some v) → lr[i]? = some (.val (tv ρ v))
theorem xnl_ok {i j : Nat} {ls : xL} {w : Value} (h : xnl i ls = true) (hj : j + 1 = i) (hw : ls[j]? = some (some w)) : w.category = 1 := by
  subst hj
  simpa [xnl, hw] using h
theorem xst1_ok {ρ : Nat → Nat} {lr : Array Slot} {ls ls' : xL} {i : Nat} {v : Value} (h : xLH ρ lr ls) (hs : xst1 i v ls = some ls') (hc : v.category = 1) : ∃ lr', storeLocals lr i (tv ρ v) = some lr' ∧ xLH ρ lr' ls' := by
  unfold xst1 at hs
  split at hs
  case isFalse => cases hs
  case isTrue hcond =>
    obtain ⟨hlt, hn⟩ := hcond
    cases hs
    obtain ⟨lr', e1, h1⟩ := lv_store1 (ls := lr) (nL := ls.length) (l := []) (i := i) (v := tv ρ v) ⟨h.1, h.2.1, fun q hq => by cases hq⟩ hlt (by rw [tv_cat]; exact hc)
    refine ⟨lr', e1, by rw [List.length_set]; exact h1.1, h1.2.1, fun j w hj => ?_⟩
    by_cases hji : j = i
    · subst hji
      rw [List.getElem?_set_self hlt] at hj
      cases hj
      exact h1.2.2 (j, tv ρ v) List.mem_cons_self
    · rw [List.getElem?_set_ne (fun q => hji q.symm)] at hj
      obtain ⟨lr2, e2, h2⟩ := lv_store1 (ls := lr) (nL := ls.length) (l := [(j, tv ρ w)]) (i := i) (v := tv ρ v) ⟨h.1, h.2.1, fun q hq => by
        rw [List.mem_singleton] at hq
        subst hq
        exact h.2.2 j w hj⟩ hlt (by rw [tv_cat]; exact hc)
      have e3 : lr2 = lr' := Option.some.inj (e2.symm.trans e1)
      subst e3
      refine h2.2.2 (j, tv ρ w) (List.mem_cons_of_mem _ (List.mem_filter.mpr ⟨List.mem_singleton_self _, ?_⟩))
      by_cases hq : j + 1 = i
      · simp [hji, tv_cat, xnl_ok hn hq hj]
      · simp [hji, hq]
theorem xst2_ok {ρ : Nat → Nat} {lr : Array Slot} {ls ls' : xL} {i : Nat} {v : Value} (h : xLH ρ lr ls) (hs : xst2 i v ls = some ls') (hc : v.category = 2) : ∃ lr', storeLocals lr i (tv ρ v) = some lr' ∧ xLH ρ lr' ls' := by
  unfold xst2 at hs
  split at hs
  case isFalse => cases hs
  case isTrue hcond =>
    obtain ⟨hlt, hn⟩ := hcond
    cases hs
    obtain ⟨lr', e1, h1⟩ := lv_store2 (ls := lr) (nL := ls.length) (l := []) (i := i) (v := tv ρ v) ⟨h.1, h.2.1, fun q hq => by cases hq⟩ hlt (by rw [tv_cat]; exact hc)
    refine ⟨lr', e1, by rw [List.length_set, List.length_set]; exact h1.1, h1.2.1, fun j w hj => ?_⟩
    by_cases hj1 : j = i + 1
    · subst hj1
      rw [List.getElem?_set_self (by rw [List.length_set]; exact hlt)] at hj
      cases hj
    · rw [List.getElem?_set_ne (fun q => hj1 q.symm)] at hj
      by_cases hji : j = i
      · subst hji
        rw [List.getElem?_set_self (by omega)] at hj
        cases hj
        exact h1.2.2 (j, tv ρ v) List.mem_cons_self
      · rw [List.getElem?_set_ne (fun q => hji q.symm)] at hj
        obtain ⟨lr2, e2, h2⟩ := lv_store2 (ls := lr) (nL := ls.length) (l := [(j, tv ρ w)]) (i := i) (v := tv ρ v) ⟨h.1, h.2.1, fun q hq => by
          rw [List.mem_singleton] at hq
          subst hq
          exact h.2.2 j w hj⟩ hlt (by rw [tv_cat]; exact hc)
        have e3 : lr2 = lr' := Option.some.inj (e2.symm.trans e1)
        subst e3
        refine h2.2.2 (j, tv ρ w) (List.mem_cons_of_mem _ (List.mem_filter.mpr ⟨List.mem_singleton_self _, ?_⟩))
        by_cases hq : j + 1 = i
        · simp [hji, hj1, tv_cat, xnl_ok hn hq hj]
        · simp [hji, hj1, hq]
def xLen (ins : Instr) : Nat := match ins with
  | .bipush _ => 2
  | .sipush _ => 3
  | .iload _ => 2
  | .aload _ => 2
  | .lload _ => 2
  | .istore _ => 2
  | .astore _ => 2
  | .lstore _ => 2
  | .iinc _ _ => 3
  | .goto _ => 3
  | .ifCond _ _ => 3
  | .if_icmp _ _ => 3
  | .ifnull _ => 3
  | .ifnonnull _ => 3
  | .getfield _ => 3
  | .putfield _ => 3
  | .getstatic _ => 3
  | .invokestatic _ => 3
  | .invokespecial _ => 3
  | .invokevirtual _ => 3
  | .new _ => 3
  | .anewarray _ => 3
  | .newarray _ => 2
  | .ldc _ => 2
  | .ldc_w _ => 3
  | .ldc2_w _ => 3
  | _ => 1
section X1
variable {p : Program} {l : Launch} {e : Env} {R : Room} {s : State} {m : MethodId} {args : Array Value} {below : List Frame} {meth : Method} {c : Code} {H : Heap} {locs : List Loc} {cells slots : Nat} {Q : State → Prop} {cc : ByteArray} {pc : Nat} {lr : Array Slot} {ρ : Nat → Nat}
set_option maxHeartbeats 4000000 in
theorem xS_ok (hexec : p.tables.exec = Jvm.exec) (hb : c.code = cc) {ins : Instr} {st st' : List Value} (h : xS ins st = some st') (hdg : decode cc pc = .ok (ins, xLen ins))
    (k : W p l e R s m args below meth c H locs cells slots Q (F0 m (pc + xLen ins) lr (st'.map (tv ρ)))) : W p l e R s m args below meth c H locs cells slots Q (F0 m pc lr (st.map (tv ρ))) := by
  unfold xS at h
  split at h
  · cases h; exact lv_iconst hexec hb hdg rfl k
  · cases h; exact lv_bipush hexec hb hdg rfl k
  · cases h; exact lv_sipush hexec hb hdg rfl k
  · cases h; exact lv_lconst hexec hb hdg rfl k
  · cases h; exact lv_null hexec hb hdg k
  · cases h; exact lv_iadd hexec hb hdg k
  · cases h; exact lv_isub hexec hb hdg k
  · cases h; exact lv_imul hexec hb hdg k
  · cases h; exact lv_iand hexec hb hdg k
  · cases h; exact lv_ior hexec hb hdg k
  · cases h; exact lv_ixor hexec hb hdg k
  · cases h; exact lv_ishl hexec hb hdg k
  · cases h; exact lv_ishr hexec hb hdg k
  · cases h; exact lv_iushr hexec hb hdg rfl k
  · cases h; exact lv_ineg hexec hb hdg k
  · split at h
    · cases h
    · rename_i hne
      cases h; exact lv_idiv hexec hb hdg hne k
  · split at h
    · cases h
    · rename_i hne
      cases h; exact lv_irem hexec hb hdg hne k
  · cases h; exact lv_i2c hexec hb hdg rfl k
  · cases h; exact lv_i2b hexec hb hdg rfl k
  · cases h; exact lv_i2l hexec hb hdg rfl k
  · cases h; exact lv_l2i hexec hb hdg rfl k
  · cases h; exact lv_land hexec hb hdg k
  · cases h; exact lv_lshr hexec hb hdg rfl k
  · cases h; exact W.lcmp hexec hb hdg k
  · split at h
    · rename_i hc
      cases h; exact lv_dup hexec hb hdg (by rw [tv_cat]; exact hc) k
    · cases h
  · split at h
    · rename_i hc
      cases h; exact lv_dup2_11 hexec hb hdg (by rw [tv_cat]; exact hc.1) (by rw [tv_cat]; exact hc.2) k
    · cases h
  · split at h
    · rename_i hc
      cases h; exact lv_pop hexec hb hdg (by rw [tv_cat]; exact hc) k
    · cases h
  · cases h
theorem xs_istore (hexec : p.tables.exec = Jvm.exec) (hb : c.code = cc) {x : Int32} {i : Nat} {lr' : Array Slot} {r : List Value} (hdg : decode cc pc = .ok (.istore i, 2)) (e' : storeLocals lr i (.int x) = some lr')
    (k : W p l e R s m args below meth c H locs cells slots Q (F0 m (pc + 2) lr' r)) : W p l e R s m args below meth c H locs cells slots Q (F0 m pc lr (.int x :: r)) := by
  intro T hT X
  obtain ⟨t, a, b⟩ := k T hT X
  refine ⟨t, ?_, b⟩
  jvm_step X.here [X.here.top, ↓top_set X.here.top, hexec, hb, hdg, e']
  exact a
theorem xs_istore_n (hexec : p.tables.exec = Jvm.exec) (hb : c.code = cc) {x : Int32} {k : Fin 4} {lr' : Array Slot} {r : List Value} (hdg : decode cc pc = .ok (.istore_n k, 1)) (e' : storeLocals lr k.val (.int x) = some lr')
    (k : W p l e R s m args below meth c H locs cells slots Q (F0 m (pc + 1) lr' r)) : W p l e R s m args below meth c H locs cells slots Q (F0 m pc lr (.int x :: r)) := by
  intro T hT X
  obtain ⟨t, a, b⟩ := k T hT X
  refine ⟨t, ?_, b⟩
  jvm_step X.here [X.here.top, ↓top_set X.here.top, hexec, hb, hdg, e']
  exact a
theorem xs_astore (hexec : p.tables.exec = Jvm.exec) (hb : c.code = cc) {x : Nat} {i : Nat} {lr' : Array Slot} {r : List Value} (hdg : decode cc pc = .ok (.astore i, 2)) (e' : storeLocals lr i (.ref x) = some lr')
    (k : W p l e R s m args below meth c H locs cells slots Q (F0 m (pc + 2) lr' r)) : W p l e R s m args below meth c H locs cells slots Q (F0 m pc lr (.ref x :: r)) := by
  intro T hT X
  obtain ⟨t, a, b⟩ := k T hT X
  refine ⟨t, ?_, b⟩
  jvm_step X.here [X.here.top, ↓top_set X.here.top, hexec, hb, hdg, e', Value.isRef]
  exact a
theorem xs_astore_n (hexec : p.tables.exec = Jvm.exec) (hb : c.code = cc) {x : Nat} {k : Fin 4} {lr' : Array Slot} {r : List Value} (hdg : decode cc pc = .ok (.astore_n k, 1)) (e' : storeLocals lr k.val (.ref x) = some lr')
    (k : W p l e R s m args below meth c H locs cells slots Q (F0 m (pc + 1) lr' r)) : W p l e R s m args below meth c H locs cells slots Q (F0 m pc lr (.ref x :: r)) := by
  intro T hT X
  obtain ⟨t, a, b⟩ := k T hT X
  refine ⟨t, ?_, b⟩
  jvm_step X.here [X.here.top, ↓top_set X.here.top, hexec, hb, hdg, e', Value.isRef]
  exact a
theorem xs_astoreN (hexec : p.tables.exec = Jvm.exec) (hb : c.code = cc) {i : Nat} {lr' : Array Slot} {r : List Value} (hdg : decode cc pc = .ok (.astore i, 2)) (e' : storeLocals lr i (.null) = some lr')
    (k : W p l e R s m args below meth c H locs cells slots Q (F0 m (pc + 2) lr' r)) : W p l e R s m args below meth c H locs cells slots Q (F0 m pc lr (.null :: r)) := by
  intro T hT X
  obtain ⟨t, a, b⟩ := k T hT X
  refine ⟨t, ?_, b⟩
  jvm_step X.here [X.here.top, ↓top_set X.here.top, hexec, hb, hdg, e', Value.isRef]
  exact a
theorem xs_astore_nN (hexec : p.tables.exec = Jvm.exec) (hb : c.code = cc) {k : Fin 4} {lr' : Array Slot} {r : List Value} (hdg : decode cc pc = .ok (.astore_n k, 1)) (e' : storeLocals lr k.val (.null) = some lr')
    (k : W p l e R s m args below meth c H locs cells slots Q (F0 m (pc + 1) lr' r)) : W p l e R s m args below meth c H locs cells slots Q (F0 m pc lr (.null :: r)) := by
  intro T hT X
  obtain ⟨t, a, b⟩ := k T hT X
  refine ⟨t, ?_, b⟩
  jvm_step X.here [X.here.top, ↓top_set X.here.top, hexec, hb, hdg, e', Value.isRef]
  exact a
theorem xs_lstore (hexec : p.tables.exec = Jvm.exec) (hb : c.code = cc) {x : Int64} {i : Nat} {lr' : Array Slot} {r : List Value} (hdg : decode cc pc = .ok (.lstore i, 2)) (e' : storeLocals lr i (.long x) = some lr')
    (k : W p l e R s m args below meth c H locs cells slots Q (F0 m (pc + 2) lr' r)) : W p l e R s m args below meth c H locs cells slots Q (F0 m pc lr (.long x :: r)) := by
  intro T hT X
  obtain ⟨t, a, b⟩ := k T hT X
  refine ⟨t, ?_, b⟩
  jvm_step X.here [X.here.top, ↓top_set X.here.top, hexec, hb, hdg, e']
  exact a
theorem xs_lstore_n (hexec : p.tables.exec = Jvm.exec) (hb : c.code = cc) {x : Int64} {k : Fin 4} {lr' : Array Slot} {r : List Value} (hdg : decode cc pc = .ok (.lstore_n k, 1)) (e' : storeLocals lr k.val (.long x) = some lr')
    (k : W p l e R s m args below meth c H locs cells slots Q (F0 m (pc + 1) lr' r)) : W p l e R s m args below meth c H locs cells slots Q (F0 m pc lr (.long x :: r)) := by
  intro T hT X
  obtain ⟨t, a, b⟩ := k T hT X
  refine ⟨t, ?_, b⟩
  jvm_step X.here [X.here.top, ↓top_set X.here.top, hexec, hb, hdg, e']
  exact a
theorem xs_iinc (hexec : p.tables.exec = Jvm.exec) (hb : c.code = cc) {x : Int32} {i : Nat} {n : Int} {lr' : Array Slot} {r : List Value} (hdg : decode cc pc = .ok (.iinc i n, 3)) (hg : lr[i]? = some (.val (.int x))) (e' : storeLocals lr i (.int (x + Int32.ofInt n)) = some lr')
    (k : W p l e R s m args below meth c H locs cells slots Q (F0 m (pc + 3) lr' r)) : W p l e R s m args below meth c H locs cells slots Q (F0 m pc lr r) := by
  intro T hT X
  obtain ⟨t, a, b⟩ := k T hT X
  refine ⟨t, ?_, b⟩
  jvm_step X.here [X.here.top, ↓top_set X.here.top, hexec, hb, hdg, hg, e']
  exact a
theorem xld_ok {t i : Nat} {ls : xL} {v : Value} (h : xld t i ls = some v) : ls[i]? = some (some v) ∧ xfit t v = true := by
  unfold xld at h
  split at h
  · rename_i w hw
    split at h
    · rename_i hf
      cases h
      exact ⟨hw, hf⟩
    · cases h
  · cases h
theorem xfit0 {v : Value} (h : xfit 0 v = true) : ∃ x : Int32, v = .int x := by
  cases v with
  | int x => exact ⟨x, rfl⟩
  | _ => simp [xfit] at h
theorem xfit2 {v : Value} (h : xfit 2 v = true) : v = .null ∨ ∃ a : Nat, v = .ref a := by
  cases v with
  | null => exact Or.inl rfl
  | ref a => exact Or.inr ⟨a, rfl⟩
  | _ => simp [xfit] at h
theorem xfit3 {v : Value} (h : xfit 3 v = true) : ∃ x : Int64, v = .long x := by
  cases v with
  | long x => exact ⟨x, rfl⟩
  | _ => simp [xfit] at h
set_option maxHeartbeats 4000000 in
theorem xV_ok (hexec : p.tables.exec = Jvm.exec) (hb : c.code = cc) {ins : Instr} {ls ls' : xL} {st st' : List Value} (h : xV ins ls st = some (ls', st')) (hl : xLH ρ lr ls) (hdg : decode cc pc = .ok (ins, xLen ins))
    (k : ∀ lr' : Array Slot, xLH ρ lr' ls' → W p l e R s m args below meth c H locs cells slots Q (F0 m (pc + xLen ins) lr' (st'.map (tv ρ)))) : W p l e R s m args below meth c H locs cells slots Q (F0 m pc lr (st.map (tv ρ))) := by
  unfold xV at h
  split at h
  · obtain ⟨v, h1, h2⟩ := Option.map_eq_some_iff.mp h
    cases h2
    obtain ⟨g1, g2⟩ := xld_ok h1
    have g3 := hl.2.2 _ _ g1
    obtain ⟨x, rfl⟩ := xfit0 g2
    exact lv_iload hexec hb hdg g3 (k lr hl)
  · obtain ⟨v, h1, h2⟩ := Option.map_eq_some_iff.mp h
    cases h2
    obtain ⟨g1, g2⟩ := xld_ok h1
    have g3 := hl.2.2 _ _ g1
    obtain ⟨x, rfl⟩ := xfit0 g2
    exact lv_iload_n hexec hb hdg rfl g3 (k lr hl)
  · obtain ⟨v, h1, h2⟩ := Option.map_eq_some_iff.mp h
    cases h2
    obtain ⟨g1, g2⟩ := xld_ok h1
    have g3 := hl.2.2 _ _ g1
    rcases xfit2 g2 with rfl | ⟨a, rfl⟩
    · exact lv_aloadN hexec hb hdg g3 (k lr hl)
    · exact lv_aload hexec hb hdg g3 (k lr hl)
  · obtain ⟨v, h1, h2⟩ := Option.map_eq_some_iff.mp h
    cases h2
    obtain ⟨g1, g2⟩ := xld_ok h1
    have g3 := hl.2.2 _ _ g1
    rcases xfit2 g2 with rfl | ⟨a, rfl⟩
    · exact lv_aload_nN hexec hb hdg rfl g3 (k lr hl)
    · exact lv_aload_n hexec hb hdg rfl g3 (k lr hl)
  · obtain ⟨v, h1, h2⟩ := Option.map_eq_some_iff.mp h
    cases h2
    obtain ⟨g1, g2⟩ := xld_ok h1
    have g3 := hl.2.2 _ _ g1
    obtain ⟨x, rfl⟩ := xfit3 g2
    exact lv_lload hexec hb hdg g3 (k lr hl)
  · obtain ⟨v, h1, h2⟩ := Option.map_eq_some_iff.mp h
    cases h2
    obtain ⟨g1, g2⟩ := xld_ok h1
    have g3 := hl.2.2 _ _ g1
    obtain ⟨x, rfl⟩ := xfit3 g2
    exact lv_lload_n hexec hb hdg rfl g3 (k lr hl)
  · obtain ⟨l', h1, h2⟩ := Option.map_eq_some_iff.mp h
    cases h2
    obtain ⟨lr', e', h'⟩ := xst1_ok hl h1 rfl
    exact xs_istore hexec hb hdg e' (k lr' h')
  · obtain ⟨l', h1, h2⟩ := Option.map_eq_some_iff.mp h
    cases h2
    obtain ⟨lr', e', h'⟩ := xst1_ok hl h1 rfl
    exact xs_istore_n hexec hb hdg e' (k lr' h')
  · obtain ⟨l', h1, h2⟩ := Option.map_eq_some_iff.mp h
    cases h2
    obtain ⟨lr', e', h'⟩ := xst1_ok hl h1 rfl
    exact xs_astore hexec hb hdg e' (k lr' h')
  · obtain ⟨l', h1, h2⟩ := Option.map_eq_some_iff.mp h
    cases h2
    obtain ⟨lr', e', h'⟩ := xst1_ok hl h1 rfl
    exact xs_astore_n hexec hb hdg e' (k lr' h')
  · obtain ⟨l', h1, h2⟩ := Option.map_eq_some_iff.mp h
    cases h2
    obtain ⟨lr', e', h'⟩ := xst1_ok hl h1 rfl
    exact xs_astoreN hexec hb hdg e' (k lr' h')
  · obtain ⟨l', h1, h2⟩ := Option.map_eq_some_iff.mp h
    cases h2
    obtain ⟨lr', e', h'⟩ := xst1_ok hl h1 rfl
    exact xs_astore_nN hexec hb hdg e' (k lr' h')
  · obtain ⟨l', h1, h2⟩ := Option.map_eq_some_iff.mp h
    cases h2
    obtain ⟨lr', e', h'⟩ := xst2_ok hl h1 rfl
    exact xs_lstore hexec hb hdg e' (k lr' h')
  · obtain ⟨l', h1, h2⟩ := Option.map_eq_some_iff.mp h
    cases h2
    obtain ⟨lr', e', h'⟩ := xst2_ok hl h1 rfl
    exact xs_lstore_n hexec hb hdg e' (k lr' h')
  · split at h
    · rename_i x hx
      obtain ⟨l', h1, h2⟩ := Option.map_eq_some_iff.mp h
      cases h2
      obtain ⟨lr', e', h'⟩ := xst1_ok hl h1 rfl
      exact xs_iinc hexec hb hdg (hl.2.2 _ _ hx) e' (k lr' h')
    · cases h
  · cases h
theorem xcn_eq {x y : Int32} : (xcn .eq x y = true) = (x = y) := by simp [xcn]
theorem xlk_ok {ps : List (Int × Int)} {x d : Int} : ∀ {ts : List Nat} {t0 : Nat} {f : Nat → Int}, ps.length = ts.length → (∀ (j : Nat) (q : Int × Int) (t : Nat), ps[j]? = some q → ts[j]? = some t → q.2 = f t) → d = f t0 → Op.lookupswitch.offset ps d x = f (xlk ps ts t0 x) := by
  induction ps with
  | nil =>
    intro ts t0 f hlen hj hd
    rw [show xlk [] ts t0 x = t0 by cases ts <;> rfl, ← hd]
    rfl
  | cons q ps ih =>
    intro ts t0 f hlen hj hd
    cases ts with
    | nil => simp at hlen
    | cons t ts =>
      obtain ⟨a, o⟩ := q
      rw [Op.lookupswitch.offset_cons]
      by_cases hx : x = a
      · rw [if_pos hx.symm, show xlk ((a, o) :: ps) (t :: ts) t0 x = t by simp [xlk, hx]]
        exact hj 0 (a, o) t rfl rfl
      · rw [if_neg (fun q => hx q.symm), show xlk ((a, o) :: ps) (t :: ts) t0 x = xlk ps ts t0 x by simp [xlk, hx]]
        exact ih (by simpa using hlen) (fun j q t h1 h2 => hj (j + 1) q t h1 h2) hd
/-- the targets of a branch, as places in the bytes -/
def xtg (f : Nat → Nat) (pc : Nat) (ins : Instr) (ax : List Nat) : Prop := match ins, ax with
  | .goto o, [t] => (pc : Int) + o = (f t : Int)
  | .ifCond _ o, [t] => (pc : Int) + o = (f t : Int)
  | .if_icmp _ o, [t] => (pc : Int) + o = (f t : Int)
  | .ifnull o, [t] => (pc : Int) + o = (f t : Int)
  | .ifnonnull o, [t] => (pc : Int) + o = (f t : Int)
  | .tableswitch d _ _ os, t0 :: ts => (pc : Int) + d = (f t0 : Int) ∧ os.size = ts.length ∧ ∀ (j : Nat) (o : Int) (t : Nat), os[j]? = some o → ts[j]? = some t → (pc : Int) + o = (f t : Int)
  | .lookupswitch d ps, t0 :: ts => (ps.toList.zip (ps.toList.drop 1)).all (fun (a, next) => a.1 < next.1) = true ∧ (pc : Int) + d = (f t0 : Int) ∧ ps.toList.length = ts.length ∧ ∀ (j : Nat) (q : Int × Int) (t : Nat), ps.toList[j]? = some q → ts[j]? = some t → (pc : Int) + q.2 = (f t : Int)
  | _, _ => True
def xsw (ins : Instr) : Bool := match ins with
  | .tableswitch _ _ _ _ => true
  | .lookupswitch _ _ => true
  | _ => false
set_option maxHeartbeats 4000000 in
theorem xB_ok (hexec : p.tables.exec = Jvm.exec) (hb : c.code = cc) {ins : Instr} {ax : List Nat} {i i' len : Nat} {f : Nat → Nat} {st st' : List Value} (h : xB ins ax i st = some (i', st')) (hdg : decode cc pc = .ok (ins, len)) (hlen : xsw ins = true ∨ len = xLen ins) (ht : xtg f pc ins ax) (hf : xsw ins = false → f (i + 1) = pc + len ∨ ∃ o, ins = .goto o)
    (k : W p l e R s m args below meth c H locs cells slots Q (F0 m (f i') lr (st'.map (tv ρ)))) : W p l e R s m args below meth c H locs cells slots Q (F0 m pc lr (st.map (tv ρ))) := by
  unfold xB at h
  split at h
  · cases h
    rcases hlen with hlen | rfl
    · cases hlen
    exact lv_goto hexec hb hdg ht k
  · rename_i cnd o t x r
    rcases hlen with hlen | rfl
    · cases hlen
    have hf := (hf rfl).resolve_right (by rintro ⟨o, ho⟩; cases ho)
    cases h
    cases cnd
    · exact lv_if_eq hexec hb hdg ht (fun q => by simpa [xcn, q] using k) (fun q => by rw [← show f (i + 1) = pc + 3 from hf]; simpa [xcn, q] using k)
    · exact lv_if_ne hexec hb hdg ht (fun q => by simpa [xcn, q] using k) (fun q => by rw [← show f (i + 1) = pc + 3 from hf]; simpa [xcn, q] using k)
    · exact lv_if_lt hexec hb hdg ht (fun q => by simpa [xcn, q] using k) (fun q => by rw [← show f (i + 1) = pc + 3 from hf]; simpa [xcn, q] using k)
    · exact lv_if_ge hexec hb hdg ht (fun q => by simpa [xcn, q] using k) (fun q => by rw [← show f (i + 1) = pc + 3 from hf]; simpa [xcn, q] using k)
    · exact lv_if_gt hexec hb hdg ht (fun q => by simpa [xcn, q] using k) (fun q => by rw [← show f (i + 1) = pc + 3 from hf]; simpa [xcn, q] using k)
    · exact lv_if_le hexec hb hdg ht (fun q => by simpa [xcn, q] using k) (fun q => by rw [← show f (i + 1) = pc + 3 from hf]; simpa [xcn, q] using k)
  · rename_i cnd o t y x r
    rcases hlen with hlen | rfl
    · cases hlen
    have hf := (hf rfl).resolve_right (by rintro ⟨o, ho⟩; cases ho)
    cases h
    cases cnd
    · exact lv_icmp_eq hexec hb hdg ht (fun q => by simpa [xcn, q] using k) (fun q => by rw [← show f (i + 1) = pc + 3 from hf]; simpa [xcn, q] using k)
    · exact lv_icmp_ne hexec hb hdg ht (fun q => by simpa [xcn, q] using k) (fun q => by rw [← show f (i + 1) = pc + 3 from hf]; simpa [xcn, q] using k)
    · exact lv_icmp_lt hexec hb hdg ht (fun q => by simpa [xcn, q] using k) (fun q => by rw [← show f (i + 1) = pc + 3 from hf]; simpa [xcn, q] using k)
    · exact lv_icmp_ge hexec hb hdg ht (fun q => by simpa [xcn, q] using k) (fun q => by rw [← show f (i + 1) = pc + 3 from hf]; simpa [xcn, q] using k)
    · exact lv_icmp_gt hexec hb hdg ht (fun q => by simpa [xcn, q] using k) (fun q => by rw [← show f (i + 1) = pc + 3 from hf]; simpa [xcn, q] using k)
    · exact lv_icmp_le hexec hb hdg ht (fun q => by simpa [xcn, q] using k) (fun q => by rw [← show f (i + 1) = pc + 3 from hf]; simpa [xcn, q] using k)
  · rcases hlen with hlen | rfl
    · cases hlen
    cases h
    exact lv_ifnullN hexec hb hdg ht k
  · rcases hlen with hlen | rfl
    · cases hlen
    have hf := (hf rfl).resolve_right (by rintro ⟨o, ho⟩; cases ho)
    cases h
    exact lv_ifnull hexec hb hdg (by rw [← show f (i + 1) = pc + 3 from hf]; exact k)
  · rcases hlen with hlen | rfl
    · cases hlen
    have hf := (hf rfl).resolve_right (by rintro ⟨o, ho⟩; cases ho)
    cases h
    exact lv_ifnonnullN hexec hb hdg (by rw [← show f (i + 1) = pc + 3 from hf]; exact k)
  · rcases hlen with hlen | rfl
    · cases hlen
    cases h
    exact lv_ifnonnull hexec hb hdg ht k
  · rename_i d lo hi os t0 ts x r
    obtain ⟨g1, g2, g3⟩ := ht
    split at h
    · rename_i hq
      cases h
      exact lv_tableOut hexec hb hdg hq g1 k
    · rename_i hq
      obtain ⟨t, h1, h2⟩ := Option.map_eq_some_iff.mp h
      cases h2
      have hlt := (List.getElem?_eq_some_iff.mp h1).1
      have ho : os[(x.toInt - lo).toNat]? = some (os[(x.toInt - lo).toNat]'(by omega)) := Array.getElem?_eq_getElem (by omega)
      exact lv_tableIn hexec hb hdg (fun q => hq (Or.inl q)) (fun q => hq (Or.inr q)) ho (g3 _ _ _ ho h1) k
  · rename_i d ps t0 ts x r
    obtain ⟨g0, g1, g2, g3⟩ := ht
    cases h
    have hoff := xlk_ok (ps := ps.toList) (x := x.toInt) (d := d) (ts := ts) (t0 := t0) (f := fun t => (f t : Int) - (pc : Int)) g2 (fun j q t h1 h2 => by have := g3 j q t h1 h2; omega) (by omega)
    exact lv_lookup hexec hb hdg g0 hoff (by omega) k
  · cases h
end X1
