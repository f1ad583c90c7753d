/-! what is read are right nodes -/
def gdN (ns : List (List Int32)) (n : NN) : Prop := ndOk n.2.1 ∧ arOk n.2.1 ∧ (n.2.1 2).toInt < ns.length ∧ (n.2.1 0 = 4 → (n.2.1 7).toInt ≤ 3) ∧ n.2.2.length ≤ 256 ∧ okT n.2.2
def gdF (ns : List (List Int32)) (f : Fw) : Prop := f.1 = 100 ∨ ((f.1 = 7 ∨ f.1 = 10 ∨ isB f.1) ∧ (∀ w, w ≠ 1 → f.2.1.2.1 w = plF f.1 0 w) ∧ (f.1 = 7 → f.2.1.2.1 1 = Int32.ofNat f.2.2.2.length) ∧ f.2.1.2.2.length ≤ 256 ∧ okT f.2.1.2.2 ∧ (f.1 = 10 → f.2.2.2.length = 0) ∧ (isB f.1 → f.2.2.2.length = 1) ∧ f.2.2.2.length ≤ 29 ∧ ∀ n ∈ f.2.2.1, gdN ns n)
def MI (ns : List (List Int32)) (F : List Fw) (cur : List NN) : Prop := (∀ f ∈ F, gdF ns f) ∧ ∀ n ∈ cur, gdN ns n
set_option maxRecDepth 100000 in
theorem isB_iff {x : Int32} : isB x ↔ 11 ≤ x.toInt ∧ x.toInt ≤ 22 := Iff.rfl
set_option maxRecDepth 100000 in
/-- a node that is neither cell nor range -/
theorem gd_pl {ns : List (List Int32)} {m : Nat} {d : Nd} {l : List Int32} {kd : Int32} (h0 : d 0 = kd) (h2 : d 2 = -1) (h7 : d 7 = 0) (hk : ¬ (kd = 4 ∨ kd = 5)) (ha : arOk d) (hl : l.length ≤ 256) (ho : okT l) : gdN ns (m, d, l) := by
  have nr : ¬ isRf d := by
    unfold isRf
    rw [h0]
    exact hk
  have e2 : (d 2).toInt = -1 := by rw [h2]; rfl
  have e7 : (d 7).toInt = 0 := by rw [h7]; rfl
  have hnd : ndOk d := ⟨⟨by omega, by omega⟩, ⟨by omega, by omega⟩, fun _ => h2, fun q => absurd q nr, fun q => absurd (Or.inl (by rw [← h0]; exact q)) hk⟩
  refine ⟨hnd, ha, ?_, fun q => ?_, hl, ho⟩
  · show (d 2).toInt < _
    omega
  · show (d 7).toInt ≤ 3
    omega
set_option maxRecDepth 100000 in
theorem ar_0 {d : Nd} {kd : Int32} (h0 : d 0 = kd) (h1 : d 1 = 0) (hk : 0 ≤ kd.toInt ∧ kd.toInt ≤ 10) (hn : ¬ (kd = 9 ∨ kd = 10)) : arOk d := by
  refine ⟨by rw [h0]; omega, fun q => absurd (by rw [← h0]; exact q) hn, fun q => ?_, fun _ => h1, by rw [h1]; decide, by rw [h1]; decide⟩
  rw [h0] at q
  omega
set_option maxRecDepth 100000 in
theorem gd_up {ns : List (List Int32)} {f : Fw} (h : gdF ns f) (h100 : f.1 ≠ 100) : gdN ns (upN f) := by
  obtain ⟨a1, a2, a3, a4, a5, a6, a7, a8, a9⟩ := h.resolve_left h100
  have e0 : setN f.2.1.2.1 1 (Int32.ofNat (f.2.2.2.length + 1)) 0 = f.1 := a2 0 (by decide)
  have hr : 0 ≤ f.1.toInt ∧ f.1.toInt ≤ 22 ∧ ¬ (f.1 = 4 ∨ f.1 = 5) := by
    rcases a1 with q | q | q
    · rw [q]; decide
    · rw [q]; decide
    · refine ⟨by have := q.1; omega, q.2, ?_⟩
      rintro (z | z) <;> rw [z] at q <;> unfold isB at q <;> exact absurd q (by decide)
  refine gd_pl e0 (a2 2 (by decide)) (a2 7 (by decide)) hr.2.2 ?_ a4 a5
  have e1 : setN f.2.1.2.1 1 (Int32.ofNat (f.2.2.2.length + 1)) 1 = Int32.ofNat (f.2.2.2.length + 1) := if_pos rfl
  refine ⟨by rw [e0]; exact ⟨hr.1, hr.2.1⟩, fun q => ?_, fun q => ?_, fun q => ?_, by rw [e1, iOfNat (by omega)]; omega, by rw [e1, iOfNat (by omega)]; omega⟩
  · rw [e0] at q
    rw [e1]
    rcases q with q | q
    · exfalso
      rcases a1 with z | z | z
      · rw [q] at z; exact absurd z (by decide)
      · rw [q] at z; exact absurd z (by decide)
      · rw [q] at z; unfold isB at z; exact absurd z (by decide)
    · rw [a6 q]
      rfl
  · rw [e0] at q
    rw [e1, a7 ⟨q, hr.2.1⟩]
    rfl
  · exfalso
    rw [e0] at q
    apply q
    rcases a1 with z | z | z
    · exact Or.inl z
    · exact Or.inr (Or.inr (Or.inl z))
    · exact Or.inr (Or.inr (Or.inr z.1))
set_option maxRecDepth 100000 in
theorem gd_rd {ns : List (List Int32)} {x : Int32} : ∀ (F : List Fw) (cur : List NN), MI ns F cur → MI ns (rdF x F cur).1 (rdF x F cur).2
  | [], cur, h => h
  | f :: F, cur, h => by
    by_cases g : f.1 = 100 ∨ f.1 = 7 ∨ rkM f.1 < x
    · have : rdF x (f :: F) cur = (f :: F, cur) := if_pos g
      rw [this]
      exact h
    · have : rdF x (f :: F) cur = rdF x F (upN f :: (f.2.2.1 ++ cur)) := if_neg g
      rw [this]
      have hf := h.1 f List.mem_cons_self
      have h100 : f.1 ≠ 100 := fun q => g (Or.inl q)
      refine gd_rd F _ ⟨fun q hq => h.1 q (List.mem_cons_of_mem _ hq), fun n hn => ?_⟩
      rcases List.mem_cons.mp hn with q | q
      · rw [q]
        exact gd_up hf h100
      · rcases List.mem_append.mp q with q | q
        · exact (hf.resolve_left h100).2.2.2.2.2.2.2.2 n q
        · exact h.2 n q
set_option maxRecDepth 100000 in
theorem okT_sl {t : List Int32} {a b : Nat} (h : okT t) : okT (sl t a b) := fun x hx => h x (List.mem_of_mem_drop (List.mem_of_mem_take hx))
set_option maxRecDepth 100000 in
theorem okT_gr {l : List Int32} (h : okT l) : okT (l.map gr) := by
  intro x hx
  obtain ⟨y, hy, rfl⟩ := List.mem_map.mp hx
  have := h y hy
  have l1 : y < 97 ↔ y.toInt < 97 := iLt
  have l2 : 122 < y ↔ 122 < y.toInt := iLt
  unfold gr
  split
  · exact this
  · split
    · exact this
    · rename_i a b
      have a : ¬ y.toInt < 97 := fun z => a (l1.mpr z)
      have e : (y - 32).toInt = y.toInt - 32 := iSub (y := 32) (by show _ ≤ y.toInt - 32; omega) (by show y.toInt - 32 ≤ _; omega)
      rw [e]
      omega
set_option maxRecDepth 100000 in
theorem okT_qt {t : List Int32} (ho : okT t) {q : Int32} : ∀ (m i : Nat) (u : List Int32) (e : Nat), qtG t q m i = some (u, e) → okT u ∧ u.length + i ≤ e
  | 0, i, u, e, h => by cases h
  | m + 1, i, u, e, h => by
    rw [qtG] at h
    by_cases c1 : t.length ≤ i
    · rw [if_pos c1] at h; cases h
    · rw [if_neg c1] at h
      have hc : 32 ≤ (t.getD i 0).toInt ∧ (t.getD i 0).toInt ≤ 126 := by
        rw [getD_in (show i < t.length by omega)]
        exact ho _ (List.getElem_mem _)
      by_cases c2 : t.getD i 0 = q
      · rw [if_pos c2] at h
        by_cases c3 : t.getD (i + 1) 0 = q
        · rw [if_pos c3] at h
          cases z : qtG t q m (i + 2) with
          | none => rw [z] at h; cases h
          | some p =>
            rw [z] at h
            have h : some (q :: p.1, p.2) = some (u, e) := h
            cases h
            have := okT_qt ho m (i + 2) p.1 p.2 z
            refine ⟨fun x hx => ?_, by simp only [List.length_cons]; omega⟩
            rcases List.mem_cons.mp hx with y | y
            · rw [y, ← c2]; exact hc
            · exact this.1 x y
        · rw [if_neg c3] at h
          cases h
          exact ⟨fun x hx => (by cases hx), by simp⟩
      · rw [if_neg c2] at h
        cases z : qtG t q m (i + 1) with
        | none => rw [z] at h; cases h
        | some p =>
          rw [z] at h
          have h : some (t.getD i 0 :: p.1, p.2) = some (u, e) := h
          cases h
          have := okT_qt ho m (i + 1) p.1 p.2 z
          refine ⟨fun x hx => ?_, by simp only [List.length_cons]; omega⟩
          rcases List.mem_cons.mp hx with y | y
          · rw [y]; exact hc
          · exact this.1 x y
set_option maxRecDepth 100000 in
/-- a cell -/
theorem gd_cl {ns : List (List Int32)} {m w c f : Nat} {x : Int32} (hx : -1 ≤ x.toInt ∧ x.toInt ≤ 7 ∧ x.toInt < ns.length) (hw : 1 ≤ w ∧ w ≤ 1048576) (hc : 1 ≤ c ∧ c ≤ 16384) (hf : f ≤ 3) : gdN ns (m, clD x (Int32.ofNat w) (Int32.ofNat c) (Int32.ofNat f), []) := by
  have d0 : clD x (Int32.ofNat w) (Int32.ofNat c) (Int32.ofNat f) 0 = 4 := rfl
  have d1 : clD x (Int32.ofNat w) (Int32.ofNat c) (Int32.ofNat f) 1 = 0 := rfl
  have d2 : clD x (Int32.ofNat w) (Int32.ofNat c) (Int32.ofNat f) 2 = x := rfl
  have d7 : clD x (Int32.ofNat w) (Int32.ofNat c) (Int32.ofNat f) 7 = Int32.ofNat f := rfl
  have ef : (Int32.ofNat f).toInt = f := iOfNat (by omega)
  have rw1 : rgP (Int32.ofNat w) 1048576 := by
    unfold rgP
    rw [iOfNat (by omega), show (1048576 : Int32).toInt = 1048576 by decide]
    omega
  have rc1 : rgP (Int32.ofNat c) 16384 := by
    unfold rgP
    rw [iOfNat (by omega), show (16384 : Int32).toInt = 16384 by decide]
    omega
  have hnd : ndOk (clD x (Int32.ofNat w) (Int32.ofNat c) (Int32.ofNat f)) := ⟨by rw [d2]; exact ⟨hx.1, hx.2.1⟩, by rw [d7, ef]; omega, fun q => absurd (Or.inl d0) q, fun _ => ⟨d1, rw1, rw1, Int.le_refl _, rc1, rc1, Int.le_refl _⟩, fun _ => ⟨rfl, rfl⟩⟩
  refine ⟨hnd, ar_0 d0 d1 (by decide) (by decide), by show (clD x (Int32.ofNat w) (Int32.ofNat c) (Int32.ofNat f) 2).toInt < _; rw [d2]; exact hx.2.2, fun _ => by show (clD x (Int32.ofNat w) (Int32.ofNat c) (Int32.ofNat f) 7).toInt ≤ 3; rw [d7, ef]; omega, Nat.zero_le _, fun y hy => (by cases hy)⟩
set_option maxRecDepth 100000 in
theorem or4 : ∀ a b : Nat, a < 4 → b < 4 → 0 ≤ (Int32.ofNat a ||| (Int32.ofNat b <<< ((2 : Int32) &&& 31))).toInt ∧ (Int32.ofNat a ||| (Int32.ofNat b <<< ((2 : Int32) &&& 31))).toInt ≤ 15 := by
  intro a b ha hb
  have h : ∀ a ∈ List.range 4, ∀ b ∈ List.range 4, 0 ≤ (Int32.ofNat a ||| (Int32.ofNat b <<< ((2 : Int32) &&& 31))).toInt ∧ (Int32.ofNat a ||| (Int32.ofNat b <<< ((2 : Int32) &&& 31))).toInt ≤ 15 := by decide +kernel
  exact h a (List.mem_range.mpr ha) b (List.mem_range.mpr hb)
set_option maxRecDepth 100000 in
theorem gd_rg {ns : List (List Int32)} {n : NN} {w c f : Nat} (h : gdN ns n) (h4 : n.2.1 0 = 4) (hw : 1 ≤ w ∧ w ≤ 1048576) (hc : 1 ≤ c ∧ c ≤ 16384) (hf : f ≤ 3) : gdN ns (rgN n (Int32.ofNat w) (Int32.ofNat c) (Int32.ofNat f)) := by
  obtain ⟨a1, a2, a3, a4, a5, a6⟩ := h
  obtain ⟨b1, b2, b3, b4, b5⟩ := a1
  obtain ⟨q1, q2, q3, q4, q5, q6, q7⟩ := b4 (Or.inl h4)
  have rw1 : rgP (Int32.ofNat w) 1048576 := by
    unfold rgP
    rw [iOfNat (by omega), show (1048576 : Int32).toInt = 1048576 by decide]
    omega
  have rc1 : rgP (Int32.ofNat c) 16384 := by
    unfold rgP
    rw [iOfNat (by omega), show (16384 : Int32).toInt = 16384 by decide]
    omega
  have a4' := a4 h4
  obtain ⟨a, ha⟩ : ∃ a, a = (n.2.1 7).toInt.toNat := ⟨_, rfl⟩
  have e7 : n.2.1 7 = Int32.ofNat a := by rw [ha]; exact ofNat_of b2.1
  have o7 := or4 a f (by omega) (by omega)
  let e := setN (setN (setN (setN n.2.1 0 5) 5 (Int32.ofNat w)) 6 (Int32.ofNat c)) 7 (n.2.1 7 ||| (Int32.ofNat f <<< ((2 : Int32) &&& 31)))
  have z3 : rgP (e 3) 1048576 := q2
  have z5 : rgP (e 5) 1048576 := rw1
  have z4 : rgP (e 4) 16384 := q5
  have z6 : rgP (e 6) 16384 := rc1
  have z7 : 0 ≤ (e 7).toInt ∧ (e 7).toInt ≤ 15 := by
    show 0 ≤ (n.2.1 7 ||| (Int32.ofNat f <<< ((2 : Int32) &&& 31))).toInt ∧ (n.2.1 7 ||| (Int32.ofNat f <<< ((2 : Int32) &&& 31))).toInt ≤ 15
    rw [e7]
    exact o7
  obtain ⟨r1, r2, r3, r4⟩ := srR_r z3 z5 z7
  have k4 : srR e 4 = e 4 := srR_k (by decide)
  have k6 : srR e 6 = e 6 := srR_k (by decide)
  obtain ⟨s1, s2, s3, s4⟩ := srC_r (e := srR e) (m := 16384) (by rw [k4]; exact z4) (by rw [k6]; exact z6) r4
  have k3 : srC (srR e) 3 = srR e 3 := srC_k (by decide)
  have k5 : srC (srR e) 5 = srR e 5 := srC_k (by decide)
  have d0 : srC (srR e) 0 = 5 := (srC_k (by decide)).trans (srR_k (by decide))
  have d1 : srC (srR e) 1 = n.2.1 1 := (srC_k (by decide)).trans (srR_k (by decide))
  have d2 : srC (srR e) 2 = n.2.1 2 := (srC_k (by decide)).trans (srR_k (by decide))
  refine ⟨⟨?_, s4, fun q => absurd (Or.inr d0) q, fun _ => ⟨d1.trans q1, ?_, ?_, ?_, s1, s2, s3⟩, fun q => ?_⟩, ar_0 d0 (d1.trans q1) (by decide) (by decide), ?_, fun q => ?_, Nat.zero_le _, fun y hy => (by cases hy)⟩
  · show -1 ≤ (srC (srR e) 2).toInt ∧ (srC (srR e) 2).toInt ≤ 7
    rw [d2]; exact b1
  · show rgP (srC (srR e) 3) 1048576
    rw [k3]; exact r1
  · show rgP (srC (srR e) 5) 1048576
    rw [k5]; exact r2
  · show (srC (srR e) 3).toInt ≤ (srC (srR e) 5).toInt
    rw [k3, k5]; exact r3
  · have q : srC (srR e) 0 = 4 := q
    rw [d0] at q
    exact absurd q (by decide)
  · show (srC (srR e) 2).toInt < _
    rw [d2]; exact a3
  · have q : srC (srR e) 0 = 4 := q
    rw [d0] at q
    exact absurd q (by decide)
