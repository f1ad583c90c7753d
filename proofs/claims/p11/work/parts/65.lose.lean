/-! a node lost, in FormulaTrees -/
set_option maxRecDepth 100000 in
theorem d60 {s : aS} {b n i w : Nat} {v : Int32} (hn : sI s b 2 = Int32.ofNat n) (h8 : n ≤ 128) (hi : i < n) (hw : w < 11) : dm60 b (Int32.ofNat i) (Int32.ofNat w) v s = some (wI s (b + 1) (11 * i + w) v) := by
  unfold dm60
  rw [hn, if_neg (by rw [iLt, iOfNat (by omega)]; show ¬ (i : Int) < 0; omega), if_neg (by rw [iLe, iOfNat (by omega), iOfNat (by omega)]; omega), if_neg (by rw [iLt, iOfNat (by omega)]; show ¬ (w : Int) < 0; omega), if_neg (by rw [iLe, iOfNat (by omega)]; show ¬ (11 : Int) ≤ w; omega), iM11 (by omega) (by omega), if_pos (by rw [aB_iff, iOfNat (by omega)]; omega), jN_of (by omega)]
  rfl
/-- what a plain node's facts are -/
def plF (k c : Int32) (w : Nat) : Int32 := if w = 0 then k else if w = 1 then c else if w = 2 then -1 else 0
set_option maxRecDepth 100000 in
theorem d59l {b i : Nat} {k c : Int32} (hi : i < 128) : ∀ (m j n : Nat) (s : aS), j + m = 11 → m < n → ∃ s', dm59_13 n b k c (Int32.ofNat (11 * i)) (Int32.ofNat j) s = some s' ∧ (∀ w, w < 11 → (j ≤ w ∨ w < 3) → sI s' (b + 1) (11 * i + w) = plF k c w) ∧ (∀ w, 3 ≤ w → w < j → sI s' (b + 1) (11 * i + w) = sI s (b + 1) (11 * i + w)) ∧ ch (fun a q => a = b + 1 ∧ 11 * i ≤ q ∧ q < 11 * i + 11) s s' := by
  intro m
  induction m with
  | zero =>
    intro j n s hj hn
    obtain ⟨n, rfl⟩ : ∃ k, n = k + 1 := ⟨n - 1, by omega⟩
    have e0 : Int32.ofNat (11 * i) + 0 = Int32.ofNat (11 * i + 0) := iSum (j := 0) (by omega) (by omega)
    have e1 : Int32.ofNat (11 * i) + 1 = Int32.ofNat (11 * i + 1) := iSum (j := 1) (by omega) (by omega)
    have e2 : Int32.ofNat (11 * i) + 2 = Int32.ofNat (11 * i + 2) := iSum (j := 2) (by omega) (by omega)
    rw [dm59_13, if_pos (by rw [iLe, iOfNat (by omega)]; show (11 : Int) ≤ j; omega), e0, e1, e2, if_pos (by rw [aB_iff, iOfNat (by omega)]; omega), nx_eq, if_pos (by rw [aB_iff, iOfNat (by omega)]; omega), nx_eq, if_pos (by rw [aB_iff, iOfNat (by omega)]; omega), nx_eq, jN_of (by omega), jN_of (by omega), jN_of (by omega)]
    refine ⟨_, rfl, fun w hw hq => ?_, fun w h3 hw => ?_, (((ch.refl _ s).wI (by omega)).wI (by omega)).wI (by omega)⟩
    · rw [sI_wI, sI_wI, sI_wI]
      unfold plF
      by_cases w2 : w = 2
      · rw [if_pos ⟨rfl, by omega⟩, if_neg (by omega), if_neg (by omega), if_pos w2]
      · rw [if_neg (by omega)]
        by_cases w1 : w = 1
        · rw [if_pos ⟨rfl, by omega⟩, if_neg (by omega), if_pos w1]
        · rw [if_neg (by omega), if_pos ⟨rfl, by omega⟩, if_pos (by omega)]
    · rw [sI_wI, if_neg (by omega), sI_wI, if_neg (by omega), sI_wI, if_neg (by omega)]
  | succ m ih =>
    intro j n s hj hn
    obtain ⟨n, rfl⟩ : ∃ k, n = k + 1 := ⟨n - 1, by omega⟩
    rw [dm59_13, if_neg (by rw [iLe, iOfNat (by omega)]; show ¬ (11 : Int) ≤ j; omega), iSum (by omega) (by omega), if_pos (by rw [aB_iff, iOfNat (by omega)]; omega), nx_eq, jN_of (by omega), ofNat_succ (by omega)]
    have hc1 : ch (fun a q => a = b + 1 ∧ q = 11 * i + j) s (wI s (b + 1) (11 * i + j) 0) := (ch.refl _ s).wI ⟨rfl, rfl⟩
    obtain ⟨s', g1, g2, g3, g4⟩ := ih (j + 1) n _ (by omega) (by omega)
    refine ⟨s', g1, fun w hw hq => ?_, fun w h3 hw => ?_, (hc1.mono fun a q z => by omega).trans g4⟩
    · by_cases e : w = j ∧ 3 ≤ w
      · rw [g3 w e.2 (by omega), sI_wI, if_pos ⟨rfl, by omega⟩]
        unfold plF
        rw [if_neg (by omega), if_neg (by omega), if_neg (by omega)]
      · exact g2 w hw (by omega)
    · rw [g3 w h3 (by omega), hc1.i (by omega)]
set_option maxRecDepth 100000 in
theorem d59 {s : aS} {b n i : Nat} {k c : Int32} (hn : sI s b 2 = Int32.ofNat n) (h8 : n ≤ 128) (hi : i < n) : ∃ s', dm59 b (Int32.ofNat i) k c s = some s' ∧ (∀ w, w < 11 → sI s' (b + 1) (11 * i + w) = plF k c w) ∧ ch (fun a q => a = b + 1 ∧ 11 * i ≤ q ∧ q < 11 * i + 11) s s' := by
  obtain ⟨s', g1, g2, -, g4⟩ := d59l (b := b) (i := i) (k := k) (c := c) (by omega) 11 0 5000 s (by omega) (by omega)
  have em : Int32.ofNat i * 11 = Int32.ofNat (11 * i) := by
    have := iM11 (i := i) (w := 0) (by omega) (by omega)
    have z : Int32.ofNat i * 11 + Int32.ofNat 0 = Int32.ofNat i * 11 := by
      show Int32.ofNat i * 11 + 0 = _
      exact Int32.add_zero _
    rw [z] at this
    exact this
  refine ⟨s', ?_, fun w hw => g2 w hw (by omega), g4⟩
  unfold dm59
  rw [hn, if_neg (by rw [iLt, iOfNat (by omega)]; show ¬ (i : Int) < 0; omega), if_pos (by rw [iLt, iOfNat (by omega), iOfNat (by omega)]; omega), em]
  exact g1
/-- what a lost node's facts are -/
def loF (w : Nat) : Int32 := if w = 8 then 4 else plF 2 0 w
set_option maxRecDepth 100000 in
theorem d58 {s : aS} {b n i : Nat} (hn : sI s b 2 = Int32.ofNat n) (h8 : n ≤ 128) (hi : i < n) : ∃ s', dm58 b (Int32.ofNat i) s = some s' ∧ (∀ w, w < 11 → sI s' (b + 1) (11 * i + w) = loF w) ∧ ch (fun a q => a = b + 1 ∧ 11 * i ≤ q ∧ q < 11 * i + 11) s s' := by
  obtain ⟨s1, g1, g2, g3⟩ := d59 (k := 2) (c := 0) hn h8 hi
  have hn1 : sI s1 b 2 = Int32.ofNat n := (g3.i (by omega)).trans hn
  have q := d60 (s := s1) (b := b) (i := i) (w := 8) (v := 4) hn1 h8 hi (by omega)
  have q : dm60 b (Int32.ofNat i) 8 4 s1 = some (wI s1 (b + 1) (11 * i + 8) 4) := q
  refine ⟨wI s1 (b + 1) (11 * i + 8) 4, ?_, fun w hw => ?_, g3.wI (by omega)⟩
  · unfold dm58
    rw [g1]
    simp only [bu_some]
    rw [q]
    rfl
  · rw [sI_wI]
    unfold loF
    by_cases e : w = 8
    · rw [if_pos ⟨rfl, by omega⟩, if_pos e]
    · rw [if_neg (by omega), if_neg e, g2 w hw]
/-- nodes by their numbers -/
def TF9 (s : aS) (b n : Nat) (F : Nat → Nd) : Prop := sI s b 2 = Int32.ofNat n ∧ n ≤ 128 ∧ ∀ i, i < n → ∀ w, w < 9 → sI s (b + 1) (11 * i + w) = F i w
set_option maxRecDepth 100000 in
theorem TC.f {s : aS} {b : Nat} {L : List Nd} (h : TC s b L) : TF9 s b L.length (fun i => L.getD i (fun _ => 0)) := ⟨h.1, h.2.1, fun i hi w hw => by
  show _ = L.getD i (fun _ => 0) w
  rw [List.getD, List.getElem?_eq_getElem hi]
  exact h.2.2 i hi w hw⟩
set_option maxRecDepth 100000 in
theorem TF9.c {s : aS} {b n : Nat} {F : Nat → Nd} {L : List Nd} (h : TF9 s b n F) (hl : L.length = n) (hF : ∀ i (g : i < L.length) w, w < 9 → F i w = L[i] w) : TC s b L := ⟨by rw [hl]; exact h.1, by rw [hl]; exact h.2.1, fun i hi w hw => (h.2.2 i (by omega) w hw).trans (hF i hi w hw)⟩
set_option maxRecDepth 100000 in
theorem TF9.up {s s' : aS} {b n i : Nat} {F : Nat → Nd} {g : Nd} (h : TF9 s b n F) (hi : i < n) (hg : ∀ w, w < 9 → sI s' (b + 1) (11 * i + w) = g w) (hc : ch (fun a q => a = b + 1 ∧ 11 * i ≤ q ∧ q < 11 * i + 11) s s') : TF9 s' b n (fun j => if j = i then g else F j) := ⟨(hc.i (by omega)).trans h.1, h.2.1, fun j hj w hw => by
  show _ = (if j = i then g else F j) w
  by_cases e : j = i
  · subst e
    rw [if_pos rfl]
    exact hg w hw
  · rw [if_neg e, hc.i (by omega)]
    exact h.2.2 j hj w hw⟩
set_option maxRecDepth 100000 in
theorem TF9.cg {s : aS} {b n : Nat} {F G : Nat → Nd} (h : TF9 s b n F) (e : ∀ i, i < n → ∀ w, w < 9 → F i w = G i w) : TF9 s b n G := ⟨h.1, h.2.1, fun i hi w hw => (h.2.2 i hi w hw).trans (e i hi w hw)⟩
/-- a sheet x is taken away, as a node sees it -/
def lsN (x : Int32) (d : Nd) : Nd := if d 2 = x then loF else if d 2 ≤ x then d else fun w => if w = 2 then d 2 - 1 else d w
set_option maxRecDepth 100000 in
theorem d56l {b n : Nat} {x : Int32} {F : Nat → Nd} : ∀ (m j k : Nat) (s : aS), j + m = n → m < k → TF9 s b n (fun i => if i < j then lsN x (F i) else F i) → ∃ s', dm56_2 k b x (Int32.ofNat j) s = some s' ∧ TF9 s' b n (fun i => lsN x (F i)) ∧ ch (fun a _ => a = b + 1) s s' := by
  intro m
  induction m with
  | zero =>
    intro j k s hj hk h
    obtain ⟨k, rfl⟩ : ∃ q, k = q + 1 := ⟨k - 1, by omega⟩
    have h8 := h.2.1
    rw [dm56_2, h.1, if_pos (by rw [iLe, iOfNat (by omega), iOfNat (by omega)]; omega)]
    exact ⟨s, rfl, h.cg fun i hi w hw => by show (if i < j then lsN x (F i) else F i) w = _; rw [if_pos (by omega)], ch.refl _ s⟩
  | succ m ih =>
    intro j k s hj hk h
    obtain ⟨k, rfl⟩ : ∃ q, k = q + 1 := ⟨k - 1, by omega⟩
    have h8 := h.2.1
    have ef : sI s (b + 1) (11 * j + 2) = F j 2 := by
      have := h.2.2 j (by omega) 2 (by omega)
      have : sI s (b + 1) (11 * j + 2) = (if j < j then lsN x (F j) else F j) 2 := this
      rw [if_neg (by omega)] at this
      exact this
    have q2 : dm57 b (Int32.ofNat j) 2 s = some (F j 2) := by
      have := d57 (s := s) (b := b) (i := j) (w := 2) h.1 h8 (by omega) (by omega)
      rw [ef] at this
      exact this
    rw [dm56_2, h.1, if_neg (by rw [iLe, iOfNat (by omega), iOfNat (by omega)]; omega), q2]
    simp only [bu_some]
    unfold dm56_28
    rw [ofNat_succ (by omega)]
    have next : ∀ s1, TF9 s1 b n (fun i => if i = j then lsN x (F j) else if i < j then lsN x (F i) else F i) → ch (fun a _ => a = b + 1) s s1 → ∃ s', dm56_2 k b x (Int32.ofNat (j + 1)) s1 = some s' ∧ TF9 s' b n (fun i => lsN x (F i)) ∧ ch (fun a _ => a = b + 1) s s' := by
      intro s1 t1 c1
      obtain ⟨s', a1, a2, a3⟩ := ih (j + 1) k s1 (by omega) (by omega) (t1.cg fun i hi w hw => by
        show (if i = j then lsN x (F j) else if i < j then lsN x (F i) else F i) w = (if i < j + 1 then lsN x (F i) else F i) w
        by_cases e : i = j
        · subst e
          rw [if_pos rfl, if_pos (by omega)]
        · rw [if_neg e]
          by_cases e2 : i < j
          · rw [if_pos e2, if_pos (by omega)]
          · rw [if_neg e2, if_neg (by omega)])
      exact ⟨s', a1, a2, c1.trans a3⟩
    by_cases c1 : F j 2 = x
    · rw [if_pos c1]
      obtain ⟨s1, g1, g2, g3⟩ := d58 h.1 h8 (by omega : j < n)
      rw [g1]
      simp only [bu_some]
      refine next s1 (h.up (g := lsN x (F j)) (by omega) (fun w hw => ?_) g3) (g3.mono fun a q z => z.1)
      unfold lsN
      rw [if_pos c1]
      exact g2 w (by omega)
    · rw [if_neg c1]
      by_cases c2 : F j 2 ≤ x
      · rw [if_pos c2]
        refine next s (h.cg fun i hi w hw => ?_) (ch.refl _ s)
        show (if i < j then lsN x (F i) else F i) w = (if i = j then lsN x (F j) else if i < j then lsN x (F i) else F i) w
        by_cases e : i = j
        · subst e
          rw [if_neg (by omega), if_pos rfl]
          unfold lsN
          rw [if_neg c1, if_pos c2]
        · rw [if_neg e]
      · rw [if_neg c2]
        have q3 : dm60 b (Int32.ofNat j) 2 (F j 2 - 1) s = some (wI s (b + 1) (11 * j + 2) (F j 2 - 1)) := d60 (w := 2) h.1 h8 (by omega) (by omega)
        rw [q3]
        simp only [bu_some]
        have hc : ch (fun a q => a = b + 1 ∧ 11 * j ≤ q ∧ q < 11 * j + 11) s (wI s (b + 1) (11 * j + 2) (F j 2 - 1)) := (ch.refl _ s).wI (by omega)
        refine next _ (h.up (g := lsN x (F j)) (by omega) (fun w hw => ?_) hc) (hc.mono fun a q z => z.1)
        unfold lsN
        rw [if_neg c1, if_neg c2, sI_wI]
        by_cases e : w = 2
        · rw [if_pos ⟨rfl, by omega⟩, if_pos e]
        · rw [if_neg (by omega), if_neg e]
          have := h.2.2 j (by omega) w hw
          have : sI s (b + 1) (11 * j + w) = (if j < j then lsN x (F j) else F j) w := this
          rw [if_neg (by omega)] at this
          exact this
set_option maxRecDepth 100000 in
theorem d56 {s : aS} {b : Nat} {L : List Nd} {x : Int32} (h : TC s b L) : ∃ s', dm56 b x s = some s' ∧ TC s' b (L.map (lsN x)) ∧ ch (fun a _ => a = b + 1) s s' := by
  have h8 := h.2.1
  obtain ⟨s', g1, g2, g3⟩ := d56l (b := b) (x := x) (F := fun i => L.getD i (fun _ => 0)) L.length 0 5000 s (by omega) (by omega) (h.f.cg fun i hi w hw => by
    show L.getD i (fun _ => 0) w = (if i < 0 then _ else L.getD i (fun _ => 0)) w
    rw [if_neg (by omega)])
  refine ⟨s', g1, g2.c (by rw [List.length_map]) fun i hi w hw => ?_, g3⟩
  rw [List.length_map] at hi
  show lsN x (L.getD i (fun _ => 0)) w = _
  rw [List.getElem_map, List.getD, List.getElem?_eq_getElem hi]
  rfl
