/-! all nodes of a formula moved -/
def isRf (d : Nd) : Prop := d 0 = 4 ∨ d 0 = 5
set_option maxRecDepth 100000 in
theorem d129 {s : aS} {b n i : Nat} {d : Nd} (hn : sI s b 2 = Int32.ofNat n) (h8 : n ≤ 128) (hi : i < n) (h : CR s b i d) : dm129 b (Int32.ofNat i) s = some (b01 (isRf d)) := by
  have f0 : dm57 b (Int32.ofNat i) 0 s = some (d 0) := (d57 (w := 0) hn h8 hi (by omega)).trans (by rw [h 0 (by omega)])
  unfold dm129 dm129_12
  rw [f0]
  simp only [bu_some]
  by_cases c4 : d 0 = 4
  · rw [if_pos c4, b01_t (show isRf d from Or.inl c4)]
  · rw [if_neg c4]
    by_cases c5 : d 0 = 5
    · rw [if_pos c5, b01_t (show isRf d from Or.inr c5)]
    · rw [if_neg c5, b01_f (p := isRf d)]
      rintro (q | q)
      · exact c4 q
      · exact c5 q
set_option maxRecDepth 100000 in
/-- a change of the nodes that are cells or ranges -/
noncomputable def onRf (g : Nd → Nd) (d : Nd) : Nd := if b01 (isRf d) = 0 then d else g d
set_option maxRecDepth 100000 in
theorem onRf_t {g : Nd → Nd} {d : Nd} (h : isRf d) : onRf g d = g d := by
  unfold onRf
  rw [b01_t h, if_neg (by decide)]
set_option maxRecDepth 100000 in
theorem onRf_f {g : Nd → Nd} {d : Nd} (h : ¬ isRf d) : onRf g d = d := by
  unfold onRf
  rw [b01_f h, if_pos rfl]
set_option maxRecDepth 100000 in
theorem TF9.row {s : aS} {b n i : Nat} {F : Nat → Nd} (h : TF9 s b n F) (hi : i < n) : CR s b i (F i) := fun w hw => h.2.2 i hi w hw
set_option maxRecDepth 100000 in
theorem d128l {b n : Nat} {r c : Int32} {F : Nat → Nd} : ∀ (m j k : Nat) (s : aS), j + m = n → m < k → TF9 s b n (fun i => if i < j then onRf (mvC r c) (F i) else F i) → ∃ s', dm128_2 k b r c (Int32.ofNat j) s = some s' ∧ TF9 s' b n (fun i => onRf (mvC r c) (F i)) ∧ ch (fun a _ => a = b + 1) s s' := by
  intro m
  induction m with
  | zero =>
    intro j k s hj hk h
    obtain ⟨k, rfl⟩ : ∃ q, k = q + 1 := ⟨k - 1, by omega⟩
    have h8 := h.2.1
    rw [dm128_2, h.1, if_pos (by rw [iLe, iOfNat (by omega), iOfNat (by omega)]; omega)]
    exact ⟨s, rfl, h.cg fun i hi w hw => by show (if i < j then onRf (mvC r c) (F i) else F i) w = _; rw [if_pos (by omega)], ch.refl _ s⟩
  | succ m ih =>
    intro j k s hj hk h
    obtain ⟨k, rfl⟩ : ∃ q, k = q + 1 := ⟨k - 1, by omega⟩
    have h8 := h.2.1
    have hr : CR s b j (F j) := by
      have := h.row (i := j) (by omega)
      have : CR s b j (if j < j then onRf (mvC r c) (F j) else F j) := this
      rw [if_neg (by omega)] at this
      exact this
    rw [dm128_2, h.1, if_neg (by rw [iLe, iOfNat (by omega), iOfNat (by omega)]; omega), d129 h.1 h8 (by omega) hr]
    simp only [bu_some]
    unfold dm128_15
    rw [ofNat_succ (by omega)]
    have next : ∀ s1, TF9 s1 b n (fun i => if i = j then onRf (mvC r c) (F j) else if i < j then onRf (mvC r c) (F i) else F i) → ch (fun a _ => a = b + 1) s s1 → ∃ s', dm128_2 k b r c (Int32.ofNat (j + 1)) s1 = some s' ∧ TF9 s' b n (fun i => onRf (mvC r c) (F i)) ∧ ch (fun a _ => a = b + 1) s s' := by
      intro s1 t1 c1
      obtain ⟨s', a1, a2, a3⟩ := ih (j + 1) k s1 (by omega) (by omega) (t1.cg fun i hi w hw => by
        show (if i = j then onRf (mvC r c) (F j) else if i < j then onRf (mvC r c) (F i) else F i) w = (if i < j + 1 then onRf (mvC r c) (F i) else F i) w
        by_cases e : i = j
        · subst e
          rw [if_pos rfl, if_pos (by omega)]
        · rw [if_neg e]
          by_cases e2 : i < j
          · rw [if_pos e2, if_pos (by omega)]
          · rw [if_neg e2, if_neg (by omega)])
      exact ⟨s', a1, a2, c1.trans a3⟩
    by_cases q : isRf (F j)
    · rw [b01_t q, if_neg (by decide)]
      obtain ⟨s1, g1, g2, g3⟩ := d130 (r := r) (c := c) h.1 h8 (by omega : j < n) hr
      rw [g1]
      simp only [bu_some]
      refine next s1 (h.up (g := onRf (mvC r c) (F j)) (by omega) (fun w hw => ?_) g3) (g3.mono fun a q z => z.1)
      rw [onRf_t q]
      exact g2 w hw
    · rw [b01_f q, if_pos rfl]
      refine next s (h.cg fun i hi w hw => ?_) (ch.refl _ s)
      show (if i < j then onRf (mvC r c) (F i) else F i) w = (if i = j then onRf (mvC r c) (F j) else if i < j then onRf (mvC r c) (F i) else F i) w
      by_cases e : i = j
      · subst e
        rw [if_neg (by omega), if_pos rfl, onRf_f q]
      · rw [if_neg e]
set_option maxRecDepth 100000 in
theorem d128 {s : aS} {b : Nat} {L : List Nd} {r c : Int32} (h : TC s b L) : ∃ s', dm128 b r c s = some s' ∧ TC s' b (L.map (onRf (mvC r c))) ∧ ch (fun a _ => a = b + 1) s s' := by
  have h8 := h.2.1
  obtain ⟨s', g1, g2, g3⟩ := d128l (b := b) (r := r) (c := c) (F := fun i => L.getD i (fun _ => 0)) L.length 0 5000 s (by omega) (by omega) (h.f.cg fun i hi w hw => by
    show L.getD i (fun _ => 0) w = (if i < 0 then _ else L.getD i (fun _ => 0)) w
    rw [if_neg (by omega)])
  refine ⟨s', g1, g2.c (by rw [List.length_map]) fun i hi w hw => ?_, g3⟩
  rw [List.length_map] at hi
  show onRf (mvC r c) (L.getD i (fun _ => 0)) w = _
  rw [List.getElem_map, List.getD, List.getElem?_eq_getElem hi]
  rfl
/-- letters of a tree -/
def TL (s : aS) (b : Nat) (u : List Int32) : Prop := LT s (b + 2) u ∧ u.length ≤ 256 ∧ okT u
set_option maxRecDepth 100000 in
theorem sI_cp (s : aS) (q sp d dp n a k : Nat) : sI (cpI s q sp d dp n) a k = if a = d ∧ dp ≤ k ∧ k < dp + n then sI s q (sp + (k - dp)) else sI s a k := rfl
set_option maxRecDepth 100000 in
theorem ch_cp {A : Nat → Nat → Prop} {s0 s : aS} {q sp d dp n : Nat} (h : ch A s0 s) (hd : ∀ k, A d k) : ch A s0 (cpI s q sp d dp n) := ⟨h.1, h.2.1, fun a k ha => ⟨(if_neg (fun (z : a = d ∧ dp ≤ k ∧ k < dp + n) => ha (by rw [z.1]; exact hd k))).trans (h.2.2 a k ha).1, (h.2.2 a k ha).2⟩⟩
set_option maxRecDepth 100000 in
/-- a tree becomes another -/
theorem d127 {tt : Nat} {cc : Nat → Nat → Int32} {s : aS} {b c : Nat} {L : List Nd} {u : List Int32} (hl : Ly tt cc s) (hb : aK s b 3) (hc : aK s c 3) (hbc : b ≠ c) (h : TC s c L) (hu : TL s c u) : ∃ s', dm127 b c s = some s' ∧ TC s' b L ∧ TL s' b u ∧ ch (fun a _ => a = b ∨ a = b + 1 ∨ a = b + 2 ∨ a = b + 3) s s' := by
  have ap := tr_ne hl hb hc hbc
  have b3 := (hl.tr hb).2.2.2.2.2.2.1
  have c3 := (hl.tr hc).2.2.2.2.2.2.1
  have b0 := (hl.tr hb).1
  have j0 : jN 0 = 0 := rfl
  have j1 : jN 1408 = 1408 := rfl
  have n1 : b ≠ c + 1 := by
    rintro e
    have := (hl.tr hc).2.2.2.2.1
    rw [← e, b0] at this
    cases this
  have n2 : b ≠ c + 2 := by
    rintro e
    have := (hl.tr hc).2.2.2.2.2.1
    rw [← e, b0] at this
    cases this
  have n3 : b ≠ c + 3 := by
    rintro e
    rw [← e, b0] at c3
    cases c3
  have hc1 : ch (fun a _ => a = b ∨ a = b + 1 ∨ a = b + 2 ∨ a = b + 3) s (cpI (wI s b 2 (sI s c 2)) (c + 1) 0 (b + 1) 0 1408) := ch_cp ((ch.refl _ s).wI (Or.inl rfl)) (fun _ => Or.inr (Or.inl rfl))
  have hu1 : LT (cpI (wI s b 2 (sI s c 2)) (c + 1) 0 (b + 1) 0 1408) (c + 2) u := hu.1.of hc1 (by omega) (fun _ => by omega)
  obtain ⟨s', g1, g2, g3⟩ := d41 (b0 := b + 2) (m := 256) hu1 (by omega) (by rw [hc1.2.1, show b + 2 + 1 = b + 3 from rfl, b3]) (by rw [hc1.2.1, show c + 2 + 1 = c + 3 from rfl, c3]; exact hu.2.1) (by decide) hu.2.1 hu.2.2
  refine ⟨s', ?_, ⟨?_, h.2.1, fun i hi w hw => ?_⟩, ⟨g2, hu.2⟩, hc1.trans (g3.mono fun a k q => by omega)⟩
  · unfold dm127
    rw [nx_eq, if_pos ⟨by omega, by decide, by decide, by decide, by decide, by decide⟩, nx_eq, j0, j1, g1]
    rfl
  · rw [g3.i (by omega), sI_cp, if_neg (by omega), sI_wI, if_pos ⟨rfl, rfl⟩]
    exact h.1
  · have h8 := h.2.1
    rw [g3.i (by omega), sI_cp, if_pos ⟨rfl, by omega, by omega⟩, Nat.zero_add, Nat.sub_zero, sI_wI, if_neg (by omega)]
    exact h.2.2 i hi w hw
