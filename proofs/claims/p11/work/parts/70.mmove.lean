/-! a node moved, in the reference -/
def RI (s : aS) (p : Nat) (d : Nd) : Prop := ∀ w, w < 9 → sI s (128 + w) p = d w
def setN (d : Nd) (w : Nat) (v : Int32) : Nd := fun k => if k = w then v else d k
set_option maxRecDepth 100000 in
theorem RI.set {s : aS} {p w : Nat} {d : Nd} {v : Int32} (h : RI s p d) : RI (wI s (128 + w) p v) p (setN d w v) := by
  intro k hk
  rw [sI_wI]
  unfold setN
  by_cases e : k = w
  · rw [if_pos ⟨by omega, rfl⟩, if_pos e]
  · rw [if_neg (by omega), if_neg e]
    exact h k hk
def bey (x m : Int32) : Prop := ¬ (1 ≤ x.toInt ∧ x.toInt ≤ m.toInt)
set_option maxRecDepth 100000 in
theorem d227 (x m : Int32) : dm227 x m = some (b01 (bey x m)) := by
  unfold dm227 dm227_6 bey
  have l1 : x < 1 ↔ x.toInt < 1 := iLt
  have l2 : x ≤ m ↔ x.toInt ≤ m.toInt := iLe
  by_cases h1 : x < 1
  · rw [if_pos h1, b01_t]
    have := l1.mp h1
    omega
  · rw [if_neg h1]
    have h1 : ¬ x.toInt < 1 := fun q => h1 (l1.mpr q)
    by_cases h2 : x ≤ m
    · rw [if_pos h2, b01_f]
      have := l2.mp h2
      omega
    · rw [if_neg h2, b01_t]
      have h2 : ¬ x.toInt ≤ m.toInt := fun q => h2 (l2.mpr q)
      omega
/-- rows in order, columns in order -/
def srR (d : Nd) : Nd := if d 3 ≤ d 5 then d else setN (setN (setN d 3 (d 5)) 5 (d 3)) 7 ((((d 7) &&& 10) ||| (((d 7) &&& 1) <<< ((2 : Int32) &&& 31))) ||| (((d 7) >>> ((2 : Int32) &&& 31)) &&& 1))
def srC (d : Nd) : Nd := if d 4 ≤ d 6 then d else setN (setN (setN d 4 (d 6)) 6 (d 4)) 7 ((((d 7) &&& 5) ||| (((d 7) &&& 2) <<< ((2 : Int32) &&& 31))) ||| (((d 7) >>> ((2 : Int32) &&& 31)) &&& 2))
set_option maxRecDepth 100000 in
theorem d219c {s : aS} {p : Nat} {d : Nd} (hp : p < 1152) (h : RI s p d) : ∃ s', dm219_55 (Int32.ofNat p) s = some s' ∧ RI s' p (srC d) ∧ ch (fun a q => (128 ≤ a ∧ a ≤ 136) ∧ q = p) s s' := by
  have hb : aB (Int32.ofNat p) 1152 := by rw [aB_iff, iOfNat (by omega)]; omega
  have ej : jN (Int32.ofNat p) = p := jN_of (by omega)
  have e4 : sI s 132 p = d 4 := h 4 (by omega)
  have e6 : sI s 134 p = d 6 := h 6 (by omega)
  unfold dm219_55 srC
  simp only [if_pos hb, nx_eq, ej, e4, e6]
  by_cases c : d 4 ≤ d 6
  · rw [if_pos c, if_pos c]
    exact ⟨s, rfl, h, ch.refl _ s⟩
  · rw [if_neg c, if_neg c]
    have h2 : RI (wI (wI s 132 p (d 6)) 134 p (d 4)) p (setN (setN d 4 (d 6)) 6 (d 4)) := (h.set (w := 4)).set (w := 6)
    have e7 : sI (wI (wI s 132 p (d 6)) 134 p (d 4)) 135 p = d 7 := h2 7 (by omega)
    rw [e7]
    exact ⟨_, rfl, h2.set (w := 7), (((ch.refl _ s).wI (by omega)).wI (by omega)).wI (by omega)⟩
set_option maxRecDepth 100000 in
theorem d219 {s : aS} {p : Nat} {d : Nd} (hp : p < 1152) (h : RI s p d) : ∃ s', dm219 (Int32.ofNat p) s = some s' ∧ RI s' p (srC (srR d)) ∧ ch (fun a q => (128 ≤ a ∧ a ≤ 136) ∧ q = p) s s' := by
  have hb : aB (Int32.ofNat p) 1152 := by rw [aB_iff, iOfNat (by omega)]; omega
  have ej : jN (Int32.ofNat p) = p := jN_of (by omega)
  have e3 : sI s 131 p = d 3 := h 3 (by omega)
  have e5 : sI s 133 p = d 5 := h 5 (by omega)
  unfold dm219 srR
  simp only [if_pos hb, nx_eq, ej, e3, e5]
  by_cases c : d 3 ≤ d 5
  · rw [if_pos c, if_pos c]
    exact d219c hp h
  · rw [if_neg c, if_neg c]
    have h2 : RI (wI (wI s 131 p (d 5)) 133 p (d 3)) p (setN (setN d 3 (d 5)) 5 (d 3)) := (h.set (w := 3)).set (w := 5)
    have e7 : sI (wI (wI s 131 p (d 5)) 133 p (d 3)) 135 p = d 7 := h2 7 (by omega)
    rw [e7]
    obtain ⟨s', g1, g2, g3⟩ := d219c hp (h2.set (w := 7) (v := ((((d 7) &&& 10) ||| (((d 7) &&& 1) <<< ((2 : Int32) &&& 31))) ||| (((d 7) >>> ((2 : Int32) &&& 31)) &&& 1))))
    exact ⟨s', g1, g2, ((((ch.refl _ s).wI (by omega)).wI (by omega)).wI (by omega)).trans g3⟩
/-- moved by r and c: the four numbers, one after the other -/
def mv1 (r : Int32) (d : Nd) : Nd := setN d 3 (if (d 7 &&& 1) ≤ 0 then d 3 + r else d 3)
def mv2 (c : Int32) (d : Nd) : Nd := setN d 4 (if (d 7 &&& 2) ≤ 0 then d 4 + c else d 4)
def mv3 (r : Int32) (d : Nd) : Nd := setN d 5 (if d 0 = 4 then d 3 else if (d 7 &&& 4) ≤ 0 then d 5 + r else d 5)
def mv4 (c : Int32) (d : Nd) : Nd := setN d 6 (if d 0 = 4 then d 4 else if (d 7 &&& 8) ≤ 0 then d 6 + c else d 6)
def mvB (d : Nd) : Prop := bey (d 3) 1048576 ∨ bey (d 5) 1048576 ∨ bey (d 4) 16384 ∨ bey (d 6) 16384
set_option maxRecDepth 100000 in
noncomputable def mvE (d : Nd) : Nd := if b01 (mvB d) = 1 then loM d else if d 0 = 4 then d else srC (srR d)
set_option maxRecDepth 100000 in
noncomputable def mvM (r c : Int32) (d : Nd) : Nd := mvE (mv4 c (mv3 r (mv2 c (mv1 r d))))
set_option maxRecDepth 100000 in
theorem d226e {s : aS} {p : Nat} {d : Nd} {x4 : Int32} (hp : p < 1152) (h : RI s p d) (hx : x4 = if d 0 = 4 then 1 else 0) (v : Int32) : ∃ s', dm226_111 (Int32.ofNat p) x4 (Int32.ofNat p) v s = some s' ∧ RI s' p (mvE (setN d 6 v)) ∧ ch (fun a q => (128 ≤ a ∧ a ≤ 136) ∧ q = p) s s' := by
  have hb : aB (Int32.ofNat p) 1152 := by rw [aB_iff, iOfNat (by omega)]; omega
  have ej : jN (Int32.ofNat p) = p := jN_of (by omega)
  have h1 : RI (wI s 134 p v) p (setN d 6 v) := h.set (w := 6)
  have e3 : sI (wI s 134 p v) 131 p = (setN d 6 v) 3 := h1 3 (by omega)
  have e4 : sI (wI s 134 p v) 132 p = (setN d 6 v) 4 := h1 4 (by omega)
  have e5 : sI (wI s 134 p v) 133 p = (setN d 6 v) 5 := h1 5 (by omega)
  have e6 : sI (wI s 134 p v) 134 p = (setN d 6 v) 6 := h1 6 (by omega)
  have hc : ch (fun a q => (128 ≤ a ∧ a ≤ 136) ∧ q = p) s (wI s 134 p v) := (ch.refl _ s).wI (by omega)
  have hk : (setN d 6 v) 0 = d 0 := rfl
  generalize setN d 6 v = e at h1 e3 e4 e5 e6 hk ⊢
  have lost : mvB e → ∃ s', dm226_140 (Int32.ofNat p) (wI s 134 p v) = some s' ∧ RI s' p (mvE e) ∧ ch (fun a q => (128 ≤ a ∧ a ≤ 136) ∧ q = p) s s' := by
    intro hB
    obtain ⟨s', g1, g2, g3⟩ := d183 (s := wI s 134 p v) hp
    unfold dm226_140
    rw [g1]
    refine ⟨s', rfl, fun w hw => ?_, hc.trans g3⟩
    rw [g2 w hw]
    unfold mvE
    rw [b01_t hB, if_pos rfl]
    unfold loM
    by_cases q : w = 1
    · rw [if_pos q, if_pos q]
      exact h1 1 (by omega)
    · rw [if_neg q, if_neg q]
  unfold dm226_111
  simp only [if_pos hb, nx_eq, ej, e3, e4, e5, e6, d227, bu_some]
  by_cases c1 : bey (e 3) 1048576
  · rw [b01_t c1, if_neg (by decide)]
    exact lost (Or.inl c1)
  · rw [b01_f c1, if_pos rfl]
    by_cases c2 : bey (e 5) 1048576
    · rw [b01_t c2, if_neg (by decide)]
      exact lost (Or.inr (Or.inl c2))
    · rw [b01_f c2, if_pos rfl]
      by_cases c3 : bey (e 4) 16384
      · rw [b01_t c3, if_neg (by decide)]
        exact lost (Or.inr (Or.inr (Or.inl c3)))
      · rw [b01_f c3, if_pos rfl]
        by_cases c4 : bey (e 6) 16384
        · rw [b01_t c4, if_neg (by decide)]
          exact lost (Or.inr (Or.inr (Or.inr c4)))
        · rw [b01_f c4, if_pos rfl]
          have hB : ¬ mvB e := by
            rintro (q | q | q | q)
            · exact c1 q
            · exact c2 q
            · exact c3 q
            · exact c4 q
          have me : mvE e = if d 0 = 4 then e else srC (srR e) := by
            unfold mvE
            rw [b01_f hB, if_neg (by decide), hk]
          rw [me]
          by_cases k4 : d 0 = 4
          · have hx1 : x4 = 1 := hx.trans (if_pos k4)
            rw [if_neg (show ¬ x4 = 0 by rw [hx1]; decide), if_pos k4]
            exact ⟨_, rfl, h1, hc⟩
          · have hx1 : x4 = 0 := hx.trans (if_neg k4)
            rw [if_pos hx1, if_neg k4]
            obtain ⟨s', g1, g2, g3⟩ := d219 hp h1
            rw [g1]
            exact ⟨s', rfl, g2, hc.trans g3⟩
set_option maxRecDepth 100000 in
theorem d226 {s : aS} {p : Nat} {d : Nd} (hp : p < 1152) (h : RI s p d) (r c : Int32) : ∃ s', dm226 (Int32.ofNat p) r c s = some s' ∧ RI s' p (mvM r c d) ∧ ch (fun a q => (128 ≤ a ∧ a ≤ 136) ∧ q = p) s s' := by
  have hb : aB (Int32.ofNat p) 1152 := by rw [aB_iff, iOfNat (by omega)]; omega
  have ej : jN (Int32.ofNat p) = p := jN_of (by omega)
  have z82 : ∀ (s : aS) (d : Nd) (x4 v : Int32), RI s p d → (x4 = if d 0 = 4 then 1 else 0) → v = (if d 0 = 4 then d 3 else if (d 7 &&& 4) ≤ 0 then d 5 + r else d 5) → ∃ s', dm226_82 (Int32.ofNat p) c x4 (Int32.ofNat p) v s = some s' ∧ RI s' p (mvE (mv4 c (mv3 r d))) ∧ ch (fun a q => (128 ≤ a ∧ a ≤ 136) ∧ q = p) s s' := by
    intro s d x4 v h hx hv
    have h1 : RI (wI s 133 p v) p (mv3 r d) := by rw [mv3, ← hv]; exact h.set (w := 5)
    have e7 : sI (wI s 133 p v) 135 p = mv3 r d 7 := h1 7 (by omega)
    have e6 : sI (wI s 133 p v) 134 p = mv3 r d 6 := h1 6 (by omega)
    have e4 : sI (wI s 133 p v) 132 p = mv3 r d 4 := h1 4 (by omega)
    have hk : mv3 r d 0 = d 0 := rfl
    have hc : ch (fun a q => (128 ≤ a ∧ a ≤ 136) ∧ q = p) s (wI s 133 p v) := (ch.refl _ s).wI (by omega)
    unfold dm226_82
    simp only [if_pos hb, nx_eq, ej, e7, e6, e4]
    generalize mv3 r d = e at h1 hk ⊢
    have fin : ∀ v9, v9 = (if e 0 = 4 then e 4 else if (e 7 &&& 8) ≤ 0 then e 6 + c else e 6) → ∃ s', dm226_111 (Int32.ofNat p) x4 (Int32.ofNat p) v9 (wI s 133 p v) = some s' ∧ RI s' p (mvE (mv4 c e)) ∧ ch (fun a q => (128 ≤ a ∧ a ≤ 136) ∧ q = p) s s' := by
      intro v9 h9
      obtain ⟨s', g1, g2, g3⟩ := d226e (x4 := x4) hp h1 (by rw [hk]; exact hx) v9
      refine ⟨s', g1, ?_, hc.trans g3⟩
      rw [mv4, ← h9]
      exact g2
    by_cases k4 : d 0 = 4
    · have hx1 : x4 = 1 := hx.trans (if_pos k4)
      rw [if_neg (show ¬ x4 = 0 by rw [hx1]; decide)]
      exact fin _ (by rw [if_pos (hk.trans k4)])
    · have hx1 : x4 = 0 := hx.trans (if_neg k4)
      rw [if_pos hx1]
      by_cases q : (e 7 &&& 8) ≤ 0
      · rw [if_pos q]
        exact fin _ (by rw [if_neg (by rw [hk]; exact k4), if_pos q])
      · rw [if_neg q]
        exact fin _ (by rw [if_neg (by rw [hk]; exact k4), if_neg q])
  have z53 : ∀ (s : aS) (d : Nd) (x4 v : Int32), RI s p d → (x4 = if d 0 = 4 then 1 else 0) → v = (if (d 7 &&& 2) ≤ 0 then d 4 + c else d 4) → ∃ s', dm226_53 (Int32.ofNat p) r c x4 (Int32.ofNat p) v s = some s' ∧ RI s' p (mvE (mv4 c (mv3 r (mv2 c d)))) ∧ ch (fun a q => (128 ≤ a ∧ a ≤ 136) ∧ q = p) s s' := by
    intro s d x4 v h hx hv
    have h1 : RI (wI s 132 p v) p (mv2 c d) := by rw [mv2, ← hv]; exact h.set (w := 4)
    have e7 : sI (wI s 132 p v) 135 p = mv2 c d 7 := h1 7 (by omega)
    have e5 : sI (wI s 132 p v) 133 p = mv2 c d 5 := h1 5 (by omega)
    have e3 : sI (wI s 132 p v) 131 p = mv2 c d 3 := h1 3 (by omega)
    have hk : mv2 c d 0 = d 0 := rfl
    have hc : ch (fun a q => (128 ≤ a ∧ a ≤ 136) ∧ q = p) s (wI s 132 p v) := (ch.refl _ s).wI (by omega)
    unfold dm226_53
    simp only [if_pos hb, nx_eq, ej, e7, e5, e3]
    generalize mv2 c d = e at h1 hk ⊢
    have fin : ∀ v9, v9 = (if e 0 = 4 then e 3 else if (e 7 &&& 4) ≤ 0 then e 5 + r else e 5) → ∃ s', dm226_82 (Int32.ofNat p) c x4 (Int32.ofNat p) v9 (wI s 132 p v) = some s' ∧ RI s' p (mvE (mv4 c (mv3 r e))) ∧ ch (fun a q => (128 ≤ a ∧ a ≤ 136) ∧ q = p) s s' := by
      intro v9 h9
      obtain ⟨s', g1, g2, g3⟩ := z82 _ e x4 v9 h1 (by rw [hk]; exact hx) h9
      exact ⟨s', g1, g2, hc.trans g3⟩
    by_cases k4 : d 0 = 4
    · have hx1 : x4 = 1 := hx.trans (if_pos k4)
      rw [if_neg (show ¬ x4 = 0 by rw [hx1]; decide)]
      exact fin _ (by rw [if_pos (hk.trans k4)])
    · have hx1 : x4 = 0 := hx.trans (if_neg k4)
      rw [if_pos hx1]
      by_cases q : (e 7 &&& 4) ≤ 0
      · rw [if_pos q]
        exact fin _ (by rw [if_neg (by rw [hk]; exact k4), if_pos q])
      · rw [if_neg q]
        exact fin _ (by rw [if_neg (by rw [hk]; exact k4), if_neg q])
  have z31 : ∀ (s : aS) (d : Nd) (x4 v : Int32), RI s p d → (x4 = if d 0 = 4 then 1 else 0) → v = (if (d 7 &&& 1) ≤ 0 then d 3 + r else d 3) → ∃ s', dm226_31 (Int32.ofNat p) r c x4 (Int32.ofNat p) v s = some s' ∧ RI s' p (mvM r c d) ∧ ch (fun a q => (128 ≤ a ∧ a ≤ 136) ∧ q = p) s s' := by
    intro s d x4 v h hx hv
    have h1 : RI (wI s 131 p v) p (mv1 r d) := by rw [mv1, ← hv]; exact h.set (w := 3)
    have e7 : sI (wI s 131 p v) 135 p = mv1 r d 7 := h1 7 (by omega)
    have e4 : sI (wI s 131 p v) 132 p = mv1 r d 4 := h1 4 (by omega)
    have hk : mv1 r d 0 = d 0 := rfl
    have hc : ch (fun a q => (128 ≤ a ∧ a ≤ 136) ∧ q = p) s (wI s 131 p v) := (ch.refl _ s).wI (by omega)
    unfold dm226_31 mvM
    simp only [if_pos hb, nx_eq, ej, e7, e4]
    generalize mv1 r d = e at h1 hk ⊢
    have fin : ∀ v9, v9 = (if (e 7 &&& 2) ≤ 0 then e 4 + c else e 4) → ∃ s', dm226_53 (Int32.ofNat p) r c x4 (Int32.ofNat p) v9 (wI s 131 p v) = some s' ∧ RI s' p (mvE (mv4 c (mv3 r (mv2 c e)))) ∧ ch (fun a q => (128 ≤ a ∧ a ≤ 136) ∧ q = p) s s' := by
      intro v9 h9
      obtain ⟨s', g1, g2, g3⟩ := z53 _ e x4 v9 h1 (by rw [hk]; exact hx) h9
      exact ⟨s', g1, g2, hc.trans g3⟩
    by_cases q : (e 7 &&& 2) ≤ 0
    · rw [if_pos q]
      exact fin _ (by rw [if_pos q])
    · rw [if_neg q]
      exact fin _ (by rw [if_neg q])
  have e0 : sI s 128 p = d 0 := h 0 (by omega)
  have e7 : sI s 135 p = d 7 := h 7 (by omega)
  have e3 : sI s 131 p = d 3 := h 3 (by omega)
  have z9 : ∀ x4 : Int32, (x4 = if d 0 = 4 then 1 else 0) → ∃ s', dm226_9 (Int32.ofNat p) r c x4 s = some s' ∧ RI s' p (mvM r c d) ∧ ch (fun a q => (128 ≤ a ∧ a ≤ 136) ∧ q = p) s s' := by
    intro x4 hx
    unfold dm226_9
    simp only [if_pos hb, ej, e7, e3]
    by_cases q : (d 7 &&& 1) ≤ 0
    · rw [if_pos q]
      exact z31 s d x4 _ h hx (by rw [if_pos q])
    · rw [if_neg q]
      exact z31 s d x4 _ h hx (by rw [if_neg q])
  unfold dm226
  rw [if_pos hb, ej, e0]
  by_cases k4 : d 0 = 4
  · rw [if_pos k4]
    exact z9 1 (by rw [if_pos k4])
  · rw [if_neg k4]
    exact z9 0 (by rw [if_neg k4])
