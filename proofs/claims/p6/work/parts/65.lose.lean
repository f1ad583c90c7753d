section
/-! a node lost, in FormulaTrees -/
set_option maxRecDepth 100000 in
theorem d60 {s : aS} {b n i w : Nat} {v : Int32} (hn : sI s b 2 = Int32.ofNat n) (h8 : n ≤ 128) (hi : i < n) (hw : w < 11) : dm60 b (Int32.ofNat i) (Int32.ofNat w) v s = some (wI s (b + 1) (11 * i + w) v) := by
  unfold dm60
  rw [hn, if_neg (by rw [iLt, iOfNat (by omega)]; show ¬ (i : Int) < 0; omega), if_neg (by rw [iLe, iOfNat (by omega), iOfNat (by omega)]; omega), if_neg (by rw [iLt, iOfNat (by omega)]; show ¬ (w : Int) < 0; omega), if_neg (by rw [iLe, iOfNat (by omega)]; show ¬ (11 : Int) ≤ w; omega), iM11 (by omega) (by omega), if_pos (by rw [aB_iff, iOfNat (by omega)]; omega), jN_of (by omega)]
  rfl
/-- what a plain node's facts are -/
def plF (k c : Int32) (w : Nat) : Int32 := if w = 0 then k else if w = 1 then c else if w = 2 then -1 else 0
set_option maxRecDepth 100000 in
theorem d59l {b i : Nat} {k c : Int32} (hi : i < 128) : ∀ (m j n : Nat) (s : aS), j + m = 11 → m < n → ∃ s', dm59_13 n b k c (Int32.ofNat (11 * i)) (Int32.ofNat j) s = some s' ∧ (∀ w, w < 11 → (j ≤ w ∨ w < 3) → sI s' (b + 1) (11 * i + w) = plF k c w) ∧ (∀ w, 3 ≤ w → w < j → sI s' (b + 1) (11 * i + w) = sI s (b + 1) (11 * i + w)) ∧ ch (fun a q => a = b + 1 ∧ 11 * i ≤ q ∧ q < 11 * i + 11) s s' := by
  intro m
  induction m with
  | zero =>
    intro j n s hj hn
    obtain ⟨n, rfl⟩ : ∃ k, n = k + 1 := ⟨n - 1, by omega⟩
    have e0 : Int32.ofNat (11 * i) + 0 = Int32.ofNat (11 * i + 0) := iSum (j := 0) (by omega) (by omega)
    have e1 : Int32.ofNat (11 * i) + 1 = Int32.ofNat (11 * i + 1) := iSum (j := 1) (by omega) (by omega)
    have e2 : Int32.ofNat (11 * i) + 2 = Int32.ofNat (11 * i + 2) := iSum (j := 2) (by omega) (by omega)
    rw [dm59_13, if_pos (by rw [iLe, iOfNat (by omega)]; show (11 : Int) ≤ j; omega), e0, e1, e2, if_pos (by rw [aB_iff, iOfNat (by omega)]; omega), nx_eq, if_pos (by rw [aB_iff, iOfNat (by omega)]; omega), nx_eq, if_pos (by rw [aB_iff, iOfNat (by omega)]; omega), nx_eq, jN_of (by omega), jN_of (by omega), jN_of (by omega)]
    refine ⟨_, rfl, fun w hw hq => ?_, fun w h3 hw => ?_, (((ch.refl _ s).wI (by omega)).wI (by omega)).wI (by omega)⟩
    · rw [sI_wI, sI_wI, sI_wI]
      unfold plF
      by_cases w2 : w = 2
      · rw [if_pos ⟨rfl, by omega⟩, if_neg (by omega), if_neg (by omega), if_pos w2]
      · rw [if_neg (by omega)]
        by_cases w1 : w = 1
        · rw [if_pos ⟨rfl, by omega⟩, if_neg (by omega), if_pos w1]
        · rw [if_neg (by omega), if_pos ⟨rfl, by omega⟩, if_pos (by omega)]
    · rw [sI_wI, if_neg (by omega), sI_wI, if_neg (by omega), sI_wI, if_neg (by omega)]
  | succ m ih =>
    intro j n s hj hn
    obtain ⟨n, rfl⟩ : ∃ k, n = k + 1 := ⟨n - 1, by omega⟩
    rw [dm59_13, if_neg (by rw [iLe, iOfNat (by omega)]; show ¬ (11 : Int) ≤ j; omega), iSum (by omega) (by omega), if_pos (by rw [aB_iff, iOfNat (by omega)]; omega), nx_eq, jN_of (by omega), ofNat_succ (by omega)]
    have hc1 : ch (fun a q => a = b + 1 ∧ q = 11 * i + j) s (wI s (b + 1) (11 * i + j) 0) := (ch.refl _ s).wI ⟨rfl, rfl⟩
    obtain ⟨s', g1, g2, g3, g4⟩ := ih (j + 1) n _ (by omega) (by omega)
    refine ⟨s', g1, fun w hw hq => ?_, fun w h3 hw => ?_, (hc1.mono fun a q z => by omega).trans g4⟩
    · by_cases e : w = j ∧ 3 ≤ w
      · rw [g3 w e.2 (by omega), sI_wI, if_pos ⟨rfl, by omega⟩]
        unfold plF
        rw [if_neg (by omega), if_neg (by omega), if_neg (by omega)]
      · exact g2 w hw (by omega)
    · rw [g3 w h3 (by omega), hc1.i (by omega)]
set_option maxRecDepth 100000 in
theorem d59 {s : aS} {b n i : Nat} {k c : Int32} (hn : sI s b 2 = Int32.ofNat n) (h8 : n ≤ 128) (hi : i < n) : ∃ s', dm59 b (Int32.ofNat i) k c s = some s' ∧ (∀ w, w < 11 → sI s' (b + 1) (11 * i + w) = plF k c w) ∧ ch (fun a q => a = b + 1 ∧ 11 * i ≤ q ∧ q < 11 * i + 11) s s' := by
  obtain ⟨s', g1, g2, -, g4⟩ := d59l (b := b) (i := i) (k := k) (c := c) (by omega) 11 0 5000 s (by omega) (by omega)
  have em : Int32.ofNat i * 11 = Int32.ofNat (11 * i) := by
    have := iM11 (i := i) (w := 0) (by omega) (by omega)
    have z : Int32.ofNat i * 11 + Int32.ofNat 0 = Int32.ofNat i * 11 := by
      show Int32.ofNat i * 11 + 0 = _
      exact Int32.add_zero _
    rw [z] at this
    exact this
  refine ⟨s', ?_, fun w hw => g2 w hw (by omega), g4⟩
  unfold dm59
  rw [hn, if_neg (by rw [iLt, iOfNat (by omega)]; show ¬ (i : Int) < 0; omega), if_pos (by rw [iLt, iOfNat (by omega), iOfNat (by omega)]; omega), em]
  exact g1
/-- what a lost node's facts are -/
def loF (w : Nat) : Int32 := if w = 8 then 4 else plF 2 0 w
set_option maxRecDepth 100000 in
theorem d58 {s : aS} {b n i : Nat} (hn : sI s b 2 = Int32.ofNat n) (h8 : n ≤ 128) (hi : i < n) : ∃ s', dm58 b (Int32.ofNat i) s = some s' ∧ (∀ w, w < 11 → sI s' (b + 1) (11 * i + w) = loF w) ∧ ch (fun a q => a = b + 1 ∧ 11 * i ≤ q ∧ q < 11 * i + 11) s s' := by
  obtain ⟨s1, g1, g2, g3⟩ := d59 (k := 2) (c := 0) hn h8 hi
  have hn1 : sI s1 b 2 = Int32.ofNat n := (g3.i (by omega)).trans hn
  have q := d60 (s := s1) (b := b) (i := i) (w := 8) (v := 4) hn1 h8 hi (by omega)
  have q : dm60 b (Int32.ofNat i) 8 4 s1 = some (wI s1 (b + 1) (11 * i + 8) 4) := q
  refine ⟨wI s1 (b + 1) (11 * i + 8) 4, ?_, fun w hw => ?_, g3.wI (by omega)⟩
  · unfold dm58
    rw [g1]
    simp only [bu_some]
    rw [q]
    rfl
  · rw [sI_wI]
    unfold loF
    by_cases e : w = 8
    · rw [if_pos ⟨rfl, by omega⟩, if_pos e]
    · rw [if_neg (by omega), if_neg e, g2 w hw]
/-- nodes by their numbers -/
def TF9 (s : aS) (b n : Nat) (F : Nat → Nd) : Prop := sI s b 2 = Int32.ofNat n ∧ n ≤ 128 ∧ ∀ i, i < n → ∀ w, w < 9 → sI s (b + 1) (11 * i + w) = F i w
set_option maxRecDepth 100000 in
theorem TC.f {s : aS} {b : Nat} {L : List Nd} (h : TC s b L) : TF9 s b L.length (fun i => L.getD i (fun _ => 0)) := ⟨h.1, h.2.1, fun i hi w hw => by
  show _ = L.getD i (fun _ => 0) w
  rw [List.getD, List.getElem?_eq_getElem hi]
  exact h.2.2 i hi w hw⟩
set_option maxRecDepth 100000 in
theorem TF9.c {s : aS} {b n : Nat} {F : Nat → Nd} {L : List Nd} (h : TF9 s b n F) (hl : L.length = n) (hF : ∀ i (g : i < L.length) w, w < 9 → F i w = L[i] w) : TC s b L := ⟨by rw [hl]; exact h.1, by rw [hl]; exact h.2.1, fun i hi w hw => (h.2.2 i (by omega) w hw).trans (hF i hi w hw)⟩
set_option maxRecDepth 100000 in
theorem TF9.up {s s' : aS} {b n i : Nat} {F : Nat → Nd} {g : Nd} (h : TF9 s b n F) (hi : i < n) (hg : ∀ w, w < 9 → sI s' (b + 1) (11 * i + w) = g w) (hc : ch (fun a q => a = b + 1 ∧ 11 * i ≤ q ∧ q < 11 * i + 11) s s') : TF9 s' b n (fun j => if j = i then g else F j) := ⟨(hc.i (by omega)).trans h.1, h.2.1, fun j hj w hw => by
  show _ = (if j = i then g else F j) w
  by_cases e : j = i
  · subst e
    rw [if_pos rfl]
    exact hg w hw
  · rw [if_neg e, hc.i (by omega)]
    exact h.2.2 j hj w hw⟩
set_option maxRecDepth 100000 in
theorem TF9.cg {s : aS} {b n : Nat} {F G : Nat → Nd} (h : TF9 s b n F) (e : ∀ i, i < n → ∀ w, w < 9 → F i w = G i w) : TF9 s b n G := ⟨h.1, h.2.1, fun i hi w hw => (h.2.2 i hi w hw).trans (e i hi w hw)⟩
/-- a sheet x is taken away, as a node sees it -/
def lsN (x : Int32) (d : Nd) : Nd := if d 2 = x then loF else if d 2 ≤ x then d else fun w => if w = 2 then d 2 - 1 else d w
set_option maxRecDepth 100000 in
theorem d56l {b n : Nat} {x : Int32} {F : Nat → Nd} : ∀ (m j k : Nat) (s : aS), j + m = n → m < k → TF9 s b n (fun i => if i < j then lsN x (F i) else F i) → ∃ s', dm56_2 k b x (Int32.ofNat j) s = some s' ∧ TF9 s' b n (fun i => lsN x (F i)) ∧ ch (fun a _ => a = b + 1) s s' := by
  intro m
  induction m with
  | zero =>
    intro j k s hj hk h
    obtain ⟨k, rfl⟩ : ∃ q, k = q + 1 := ⟨k - 1, by omega⟩
    have h8 := h.2.1
    rw [dm56_2, h.1, if_pos (by rw [iLe, iOfNat (by omega), iOfNat (by omega)]; omega)]
    exact ⟨s, rfl, h.cg fun i hi w hw => by show (if i < j then lsN x (F i) else F i) w = _; rw [if_pos (by omega)], ch.refl _ s⟩
  | succ m ih =>
    intro j k s hj hk h
    obtain ⟨k, rfl⟩ : ∃ q, k = q + 1 := ⟨k - 1, by omega⟩
    have h8 := h.2.1
    have ef : sI s (b + 1) (11 * j + 2) = F j 2 := by
      have := h.2.2 j (by omega) 2 (by omega)
      have : sI s (b + 1) (11 * j + 2) = (if j < j then lsN x (F j) else F j) 2 := this
      rw [if_neg (by omega)] at this
      exact this
    have q2 : dm57 b (Int32.ofNat j) 2 s = some (F j 2) := by
      have := d57 (s := s) (b := b) (i := j) (w := 2) h.1 h8 (by omega) (by omega)
      rw [ef] at this
      exact this
    rw [dm56_2, h.1, if_neg (by rw [iLe, iOfNat (by omega), iOfNat (by omega)]; omega), q2]
    simp only [bu_some]
    unfold dm56_28
    rw [ofNat_succ (by omega)]
    have next : ∀ s1, TF9 s1 b n (fun i => if i = j then lsN x (F j) else if i < j then lsN x (F i) else F i) → ch (fun a _ => a = b + 1) s s1 → ∃ s', dm56_2 k b x (Int32.ofNat (j + 1)) s1 = some s' ∧ TF9 s' b n (fun i => lsN x (F i)) ∧ ch (fun a _ => a = b + 1) s s' := by
      intro s1 t1 c1
      obtain ⟨s', a1, a2, a3⟩ := ih (j + 1) k s1 (by omega) (by omega) (t1.cg fun i hi w hw => by
        show (if i = j then lsN x (F j) else if i < j then lsN x (F i) else F i) w = (if i < j + 1 then lsN x (F i) else F i) w
        by_cases e : i = j
        · subst e
          rw [if_pos rfl, if_pos (by omega)]
        · rw [if_neg e]
          by_cases e2 : i < j
          · rw [if_pos e2, if_pos (by omega)]
          · rw [if_neg e2, if_neg (by omega)])
      exact ⟨s', a1, a2, c1.trans a3⟩
    by_cases c1 : F j 2 = x
    · rw [if_pos c1]
      obtain ⟨s1, g1, g2, g3⟩ := d58 h.1 h8 (by omega : j < n)
      rw [g1]
      simp only [bu_some]
      refine next s1 (h.up (g := lsN x (F j)) (by omega) (fun w hw => ?_) g3) (g3.mono fun a q z => z.1)
      unfold lsN
      rw [if_pos c1]
      exact g2 w (by omega)
    · rw [if_neg c1]
      by_cases c2 : F j 2 ≤ x
      · rw [if_pos c2]
        refine next s (h.cg fun i hi w hw => ?_) (ch.refl _ s)
        show (if i < j then lsN x (F i) else F i) w = (if i = j then lsN x (F j) else if i < j then lsN x (F i) else F i) w
        by_cases e : i = j
        · subst e
          rw [if_neg (by omega), if_pos rfl]
          unfold lsN
          rw [if_neg c1, if_pos c2]
        · rw [if_neg e]
      · rw [if_neg c2]
        have q3 : dm60 b (Int32.ofNat j) 2 (F j 2 - 1) s = some (wI s (b + 1) (11 * j + 2) (F j 2 - 1)) := d60 (w := 2) h.1 h8 (by omega) (by omega)
        rw [q3]
        simp only [bu_some]
        have hc : ch (fun a q => a = b + 1 ∧ 11 * j ≤ q ∧ q < 11 * j + 11) s (wI s (b + 1) (11 * j + 2) (F j 2 - 1)) := (ch.refl _ s).wI (by omega)
        refine next _ (h.up (g := lsN x (F j)) (by omega) (fun w hw => ?_) hc) (hc.mono fun a q z => z.1)
        unfold lsN
        rw [if_neg c1, if_neg c2, sI_wI]
        by_cases e : w = 2
        · rw [if_pos ⟨rfl, by omega⟩, if_pos e]
        · rw [if_neg (by omega), if_neg e]
          have := h.2.2 j (by omega) w hw
          have : sI s (b + 1) (11 * j + w) = (if j < j then lsN x (F j) else F j) w := this
          rw [if_neg (by omega)] at this
          exact this
set_option maxRecDepth 100000 in
theorem d56 {s : aS} {b : Nat} {L : List Nd} {x : Int32} (h : TC s b L) : ∃ s', dm56 b x s = some s' ∧ TC s' b (L.map (lsN x)) ∧ ch (fun a _ => a = b + 1) s s' := by
  have h8 := h.2.1
  obtain ⟨s', g1, g2, g3⟩ := d56l (b := b) (x := x) (F := fun i => L.getD i (fun _ => 0)) L.length 0 5000 s (by omega) (by omega) (h.f.cg fun i hi w hw => by
    show L.getD i (fun _ => 0) w = (if i < 0 then _ else L.getD i (fun _ => 0)) w
    rw [if_neg (by omega)])
  refine ⟨s', g1, g2.c (by rw [List.length_map]) fun i hi w hw => ?_, g3⟩
  rw [List.length_map] at hi
  show lsN x (L.getD i (fun _ => 0)) w = _
  rw [List.getElem_map, List.getD, List.getElem?_eq_getElem hi]
  rfl
end
section
/-! a sheet taken away, in FormulaTrees -/
def TD (s : aS) : Prop := (∀ f, f < 8 → sR s 100 f = .null ∨ ∃ b, sR s 100 f = .ref b ∧ aK s b 3) ∧ (∀ f g b, f < 8 → g < 8 → sR s 100 f = .ref b → sR s 100 g = .ref b → f = g) ∧ ∃ b, sR s 78 6 = .ref b ∧ aK s b 3 ∧ ∀ f, f < 8 → sR s 100 f ≠ .ref b
set_option maxRecDepth 100000 in
theorem ch.r {A : Nat → Nat → Prop} {s s1 : aS} (h : ch A s s1) {a k : Nat} (ha : ¬ A a k) : sR s1 a k = sR s a k := (h.2.2 a k ha).2.1
set_option maxRecDepth 100000 in
theorem ch.k {A : Nat → Nat → Prop} {s s1 : aS} (h : ch A s s1) {b c : Nat} : aK s1 b c ↔ aK s b c := by
  unfold aK
  rw [h.1, h.2.1]
set_option maxRecDepth 100000 in
theorem TD.of {A : Nat → Nat → Prop} {s s1 : aS} (h : TD s) (g : ch A s s1) (h1 : ∀ k, ¬ A 100 k) (h2 : ¬ A 78 6) : TD s1 := by
  obtain ⟨a1, a2, b, b1, b2, b3⟩ := h
  have e : ∀ f, sR s1 100 f = sR s 100 f := fun f => g.r (h1 f)
  refine ⟨fun f hf => ?_, fun f g9 b9 hf hg q1 q2 => a2 f g9 b9 hf hg (by rw [← e]; exact q1) (by rw [← e]; exact q2), b, (g.r h2).trans b1, g.k.mpr b2, fun f hf => by rw [e]; exact b3 f hf⟩
  rw [e]
  rcases a1 f hf with q | ⟨c, q1, q2⟩
  · exact Or.inl q
  · exact Or.inr ⟨c, q1, g.k.mpr q2⟩
set_option maxRecDepth 100000 in
/-- trees of two numbers lie apart -/
theorem tr_ne {tt : Nat} {cc : Nat → Nat → Int32} {s : aS} {b c : Nat} (h : Ly tt cc s) (hb : aK s b 3) (hc : aK s c 3) (hbc : b ≠ c) : b + 1 ≠ c ∧ b + 1 ≠ c + 1 ∧ b + 1 ≠ c + 2 ∧ b + 1 ≠ c + 3 ∧ b + 2 ≠ c ∧ b + 2 ≠ c + 1 ∧ b + 2 ≠ c + 3 ∧ b + 3 ≠ c ∧ b + 3 ≠ c + 1 ∧ b + 3 ≠ c + 2 := by
  obtain ⟨b0, -, -, -, b1, b2, b3, -⟩ := h.tr hb
  obtain ⟨c0, -, -, -, c1, c2, c3, -⟩ := h.tr hc
  refine ⟨fun e => ?_, by omega, fun e => ?_, fun e => ?_, fun e => ?_, fun e => ?_, fun e => ?_, fun e => ?_, fun e => ?_, fun e => ?_⟩
  · rw [e, c0] at b1; cases b1
  · rw [e, c2] at b1; cases b1
  · rw [e, c3] at b1; cases b1
  · rw [e, c0] at b2; cases b2
  · rw [e, c1] at b2; cases b2
  · rw [e, c3] at b2; cases b2
  · rw [e, c0] at b3; cases b3
  · rw [e, c1] at b3; cases b3
  · rw [e, c2] at b3; cases b3
set_option maxRecDepth 100000 in
/-- cells of a tree are none of those that were laid first, but for the first tree's own -/
theorem tr_lo {tt : Nat} {cc : Nat → Nat → Int32} {s : aS} {b : Nat} (h : Ly tt cc s) (hb : aK s b 3) : b + 1 ≠ 78 ∧ b + 1 ≠ 79 ∧ b + 1 ≠ 80 ∧ b + 1 ≠ 100 ∧ b + 1 ≠ 101 ∧ 78 ≤ b := by
  obtain ⟨b0, -, -, -, b1, b2, b3, b4⟩ := h.tr hb
  refine ⟨fun e => ?_, fun e => ?_, fun e => ?_, fun e => ?_, fun e => ?_, b4⟩
  · rw [e, h.T (a := 78) (p := (0, 7)) 0 rfl rfl] at b1; cases b1
  · rw [e, h.T (a := 79) (p := (1, 2)) 1 rfl rfl] at b1; cases b1
  · rw [e, h.T (a := 80) (p := (102, 256)) 2 rfl rfl] at b1; cases b1
  · rw [e, h.T (a := 100) (p := (113, 8)) 22 rfl rfl] at b1; cases b1
  · rw [e, h.T (a := 101) (p := (100, 8)) 23 rfl rfl] at b1; cases b1
set_option maxRecDepth 100000 in
theorem TC.of {A : Nat → Nat → Prop} {s s1 : aS} {b : Nat} {L : List Nd} (h : TC s b L) (g : ch A s s1) (h1 : ¬ A b 2) (h2 : ∀ k, ¬ A (b + 1) k) : TC s1 b L := ⟨(g.i h1).trans h.1, h.2.1, fun i hi w hw => (g.i (h2 _)).trans (h.2.2 i hi w hw)⟩
def fsDrop (x : Int32) (fs : Nat → Option Fm) : Nat → Option Fm := fun f => match fs f with
  | none => none
  | some (h, L) => if h = x then none else some (if h ≤ x then h else h - 1, L.map (lsN x))
set_option maxRecDepth 100000 in
theorem fAt_n {fs : Nat → Option Fm} {f : Nat} (h : f < 8) : fAt fs (Int32.ofNat f) = fs f := by
  unfold fAt
  rw [iOfNat (by omega), if_pos (by omega)]
  congr 1
set_option maxRecDepth 100000 in
theorem ly_of {tt : Nat} {cc : Nat → Nat → Int32} {s s1 : aS} {b : Nat} (h : Ly tt cc s) (hb : aK s b 3) (hc : ch (fun a _ => a = 101 ∨ a = b + 1) s s1) : ∀ c, aK s1 c 3 → aK s c 3 := fun c q => hc.k.mp q
set_option maxRecDepth 100000 in
theorem d52l {tt : Nat} {cc : Nat → Nat → Int32} {s0 : aS} {x : Int32} {fs : Nat → Option Fm} (hl : Ly tt cc s0) (hx : 0 ≤ x.toInt) : ∀ (m f n : Nat) (s : aS), f + m = 8 → m < n → CF s (fun g => if g < f then fsDrop x fs g else fs g) → TD s → ch (fun a k => a = 101 ∨ ∃ b, aK s0 b 3 ∧ a = b + 1) s0 s → ∃ s', dm52_16 n x (Int32.ofNat f) s = some (.inl none, s') ∧ CF s' (fsDrop x fs) ∧ TD s' ∧ ch (fun a k => a = 101 ∨ ∃ b, aK s0 b 3 ∧ a = b + 1) s0 s' := by
  intro m
  induction m with
  | zero =>
    intro f n s hf hn h ht hc
    obtain ⟨n, rfl⟩ : ∃ k, n = k + 1 := ⟨n - 1, by omega⟩
    rw [dm52_16, if_pos (by rw [iLe, iOfNat (by omega)]; show (8 : Int) ≤ f; omega)]
    refine ⟨s, rfl, fun g hg => ?_, ht, hc⟩
    have := h g hg
    simp only [if_pos (show g < f by omega)] at this
    exact this
  | succ m ih =>
    intro f n s hf hn h ht hc
    obtain ⟨n, rfl⟩ : ∃ k, n = k + 1 := ⟨n - 1, by omega⟩
    have hff := h f (by omega)
    simp only [if_neg (Nat.lt_irrefl f)] at hff
    have step : ∀ s1, CF s1 (fun g => if g < f + 1 then fsDrop x fs g else fs g) → TD s1 → ch (fun a k => a = 101 ∨ ∃ b, aK s0 b 3 ∧ a = b + 1) s0 s1 → ∃ s', dm52_16 n x (Int32.ofNat (f + 1)) s1 = some (.inl none, s') ∧ CF s' (fsDrop x fs) ∧ TD s' ∧ ch (fun a k => a = 101 ∨ ∃ b, aK s0 b 3 ∧ a = b + 1) s0 s' := fun s1 q1 q2 q3 => ih (f + 1) n s1 (by omega) (by omega) q1 q2 q3
    have ej : jN (Int32.ofNat f) = f := jN_of (by omega)
    have hbf : aB (Int32.ofNat f) 8 := by rw [aB_iff, iOfNat (by omega)]; omega
    rw [dm52_16, if_neg (by rw [iLe, iOfNat (by omega)]; show ¬ (8 : Int) ≤ f; omega)]
    rcases d54 h (Int32.ofNat f) with ⟨e1, e2⟩ | ⟨ho, L, b, e1, -, e2, e3, e4, e5, e6⟩
    · rw [fAt_n (by omega)] at e1
      simp only [if_neg (Nat.lt_irrefl f)] at e1
      rw [e2]
      simp only [bu_some, vN_null]
      unfold dm52_38
      rw [ofNat_succ (by omega)]
      refine step s (fun g hg => ?_) ht hc
      by_cases e : g = f
      · subst e
        simp only [if_pos (Nat.lt_succ_self g)]
        have : fsDrop x fs g = none := by unfold fsDrop; rw [e1]
        refine ⟨fun _ => hff.1 e1, fun h9 L9 q => ?_⟩
        rw [this] at q
        cases q
      · have := h g hg
        by_cases e7 : g < f
        · simp only [if_pos e7] at this
          simp only [if_pos (show g < f + 1 by omega)]
          exact this
        · simp only [if_neg e7] at this
          simp only [if_neg (show ¬ g < f + 1 by omega)]
          exact this
    · rw [fAt_n (by omega)] at e1
      simp only [if_neg (Nat.lt_irrefl f)] at e1
      rw [iOfNat (by omega)] at e5 e6
      have e5 : sR s 100 f = .ref b := e5
      have e6 : sI s 101 f = ho := e6
      have e30 : aK s0 b 3 := hc.k.mp e3
      have hlo := tr_lo hl e30
      rw [e2]
      simp only [bu_some, vN_ref]
      rw [if_pos e3]
      obtain ⟨s1, g1, g2, g3⟩ := d56 (x := x) e4
      rw [g1]
      simp only [bu_some]
      rw [if_pos hbf]
      have e61 : sI s1 101 (jN (Int32.ofNat f)) = ho := by rw [ej]; exact (g3.i (by omega)).trans e6
      rw [e61]
      have q61 : ∃ v, dm61 ho x = some v ∧ ((ho = x ∧ v = -1) ∨ (ho ≠ x ∧ v = (if ho ≤ x then ho else ho - 1))) := by
        unfold dm61
        by_cases c1 : ho = x
        · rw [if_pos c1]; exact ⟨_, rfl, Or.inl ⟨c1, rfl⟩⟩
        · rw [if_neg c1]
          by_cases c2 : ho ≤ x
          · rw [if_pos c2]; exact ⟨_, rfl, Or.inr ⟨c1, by rw [if_pos c2]⟩⟩
          · rw [if_neg c2]; exact ⟨_, rfl, Or.inr ⟨c1, by rw [if_neg c2]⟩⟩
      obtain ⟨v, v1, v2⟩ := q61
      rw [v1]
      simp only [bu_some]
      rw [if_pos hbf, nx_eq, ej]
      unfold dm52_38
      rw [ofNat_succ (by omega)]
      have hc2 : ch (fun a k => (a = 101 ∧ k = f) ∨ a = b + 1) s (wI s1 101 f v) := (g3.mono fun a k q => Or.inr q).wI (Or.inl ⟨rfl, rfl⟩)
      refine step _ (fun g hg => ?_) (ht.of hc2 (by omega) (by omega)) (hc.trans (hc2.mono fun a k q => by
        rcases q with q | q
        · exact Or.inl q.1
        · exact Or.inr ⟨b, e30, q⟩))
      by_cases e : g = f
      · subst e
        simp only [if_pos (Nat.lt_succ_self g)]
        have hv : sI (wI s1 101 g v) 101 g = v := by rw [sI_wI, if_pos ⟨rfl, rfl⟩]
        rcases v2 with ⟨c1, c2⟩ | ⟨c1, c2⟩
        · have : fsDrop x fs g = none := by unfold fsDrop; rw [e1]; simp only [if_pos c1]
          refine ⟨fun _ => hv.trans c2, fun h9 L9 q => ?_⟩
          rw [this] at q
          cases q
        · have : fsDrop x fs g = some (v, L.map (lsN x)) := by unfold fsDrop; rw [e1]; simp only [if_neg c1]; rw [c2]
          refine ⟨fun q => (by rw [this] at q; cases q), fun h9 L9 q => ?_⟩
          rw [this] at q
          cases q
          refine ⟨hv, ?_, b, (hc2.r (by omega)).trans e5, hc2.k.mpr e3, g2.of ((ch.refl (fun a k => a = 101) s1).wI rfl) (by have := (hl.tr e30).1; intro q; rw [q, hl.T (a := 101) (p := (100, 8)) 23 rfl rfl] at this; cases this) (fun _ => by omega)⟩
          have hne := (hff.2 ho L e1).2.1
          rw [c2]
          by_cases c3 : ho ≤ x
          · rw [if_pos c3]; exact hne
          · rw [if_neg c3]
            intro q
            have r1 := iRange ho
            rw [iLe] at c3
            have : (ho - 1).toInt = ho.toInt - 1 := iSub (y := 1) (by show _ ≤ ho.toInt - 1; omega) (by show ho.toInt - 1 ≤ _; omega)
            rw [iEq, this] at q
            have q : ho.toInt - 1 = -1 := q
            omega
      · have hgg := h g hg
        have key : ∀ F : Option Fm, ((F = none → sI s 101 g = -1) ∧ ∀ h9 L9, F = some (h9, L9) → sI s 101 g = h9 ∧ h9 ≠ -1 ∧ ∃ b, sR s 100 g = .ref b ∧ aK s b 3 ∧ TC s b L9) → ((F = none → sI (wI s1 101 f v) 101 g = -1) ∧ ∀ h9 L9, F = some (h9, L9) → sI (wI s1 101 f v) 101 g = h9 ∧ h9 ≠ -1 ∧ ∃ b, sR (wI s1 101 f v) 100 g = .ref b ∧ aK (wI s1 101 f v) b 3 ∧ TC (wI s1 101 f v) b L9) := by
          intro F q
          refine ⟨fun z => (hc2.i (by omega)).trans (q.1 z), fun h9 L9 z => ?_⟩
          obtain ⟨z1, z2, c, z3, z4, z5⟩ := q.2 h9 L9 z
          have hbc : b ≠ c := by
            rintro rfl
            exact e (ht.2.1 g f b hg (by omega) z3 e5)
          have z40 : aK s0 c 3 := hc.k.mp z4
          have ap := tr_ne hl e30 z40 hbc
          have lo := tr_lo hl z40
          have l3 := (hl.tr z40).1
          refine ⟨(hc2.i (by omega)).trans z1, z2, c, (hc2.r (by omega)).trans z3, hc2.k.mpr z4, z5.of hc2 ?_ (fun k => by omega)⟩
          rintro (q9 | q9)
          · rw [q9.1, hl.T (a := 101) (p := (100, 8)) 23 rfl rfl] at l3; cases l3
          · exact ap.1 q9.symm
        by_cases e7 : g < f
        · simp only [if_pos e7] at hgg
          simp only [if_pos (show g < f + 1 by omega)]
          exact key _ hgg
        · simp only [if_neg e7] at hgg
          simp only [if_neg (show ¬ g < f + 1 by omega)]
          exact key _ hgg
end
section
/-! where trees lie; drop as a whole in FormulaTrees -/
set_option maxRecDepth 100000 in
theorem tr_at {tt : Nat} {cc : Nat → Nat → Int32} {s : aS} {b : Nat} (h : Ly tt cc s) (hb : aK s b 3) : b = 102 ∨ 149 ≤ b := by
  have h3 := (h.tr hb).1
  have h78 := (h.tr hb).2.2.2.2.2.2.2
  have hz : zK = 78 := rfl
  by_cases hq : 149 ≤ b
  · exact Or.inr hq
  · left
    have key : ∀ j : Fin 71, zTt.getD j.val (0, 0) = (3, 3) → j.val = 24 := by decide +kernel
    have hj : b - 78 < 71 := by omega
    have hlen : b - 78 < zTt.length := hj
    have hg : zTt[b - 78]? = some (zTt.getD (b - 78) (0, 0)) := by
      rw [List.getD, List.getElem?_eq_getElem hlen]
      rfl
    have hT := h.T (a := b) (b - 78) hg (by rw [hz]; omega)
    have := key ⟨b - 78, hj⟩ (by rw [← hT, h3])
    have : b - 78 = 24 := this
    omega
set_option maxRecDepth 100000 in
theorem d52 {tt : Nat} {xs : List Int32} {s : aS} {ns : List (List Int32)} {fs : Nat → Option Fm} (hl : Ly tt (cCc xs) s) (hs : SQ s ns) (hn : nsOk ns) (h : CF s fs) (ht : TD s) (x : Int32) :
    (¬ (0 ≤ x.toInt ∧ x.toInt < ns.length) ∧ dm52 x s = some (.inr 2, nw s 82 0)) ∨
    ((0 ≤ x.toInt ∧ x.toInt < ns.length) ∧ ∃ s', dm52 x s = some (.inl none, s') ∧ SQ s' (ns.eraseIdx x.toInt.toNat) ∧ CF s' (fsDrop x fs) ∧ TD s' ∧ ch (fun a _ => (81 ≤ a ∧ a ≤ 101) ∨ a = 103 ∨ 149 ≤ a) s s') := by
  have h8 := hn.1
  unfold dm52
  rw [d40 hs.1 h8]
  simp only [bu_some]
  by_cases hx : 0 ≤ x.toInt ∧ x.toInt < ns.length
  · right
    refine ⟨hx, ?_⟩
    rw [b01_t hx, if_neg (by decide)]
    obtain ⟨s1, g1, g2, g3⟩ := d53 (i := x.toInt.toNat) hs (RC.ly hl) hn (TF.ly hl) (by omega)
    rw [← ofNat_of (x := x) hx.1] at g1
    have hl1 : Ly tt (cCc xs) s1 := (dt53 (sio := true) (d := 2000) (by decide) hl g1).1
    rw [g1]
    simp only [bu_some]
    have h1 : CF s1 fs := fun f hf => ⟨fun q => (g3.i (by omega)).trans ((h f hf).1 q), fun ho L q => by
      obtain ⟨a1, a2, b, a3, a4, a5⟩ := (h f hf).2 ho L q
      have hb := tr_at hl a4
      exact ⟨(g3.i (by omega)).trans a1, a2, b, (g3.r (by omega)).trans a3, g3.k.mpr a4, a5.of g3 (by omega) (fun _ => by omega)⟩⟩
    obtain ⟨s2, k1, k2, k3, k4⟩ := d52l (fs := fs) (x := x) hl1 hx.1 8 0 5000 s1 (by omega) (by omega) (fun f hf => by
      simp only [if_neg (Nat.not_lt_zero f)]
      exact h1 f hf) (ht.of g3 (by omega) (by omega)) (ch.refl _ s1)
    have k4 : ch (fun a _ => a = 101 ∨ a = 103 ∨ 149 ≤ a) s1 s2 := k4.mono fun a k q => by
      rcases q with q | ⟨b, q1, q2⟩
      · exact Or.inl q
      · have := tr_at hl1 q1
        omega
    refine ⟨s2, k1, ⟨⟨(k4.i (by omega)).trans g2.1.1, fun i hi => ?_⟩, fun i hi => (k4.i (by omega)).trans (g2.2 i hi)⟩, k2, k3, (g3.mono fun a k q => by omega).trans (k4.mono fun a k q => by omega)⟩
    have hi8 : i < 8 := by
      rw [List.length_eraseIdx_of_lt (by omega)] at hi
      omega
    exact (g2.1.2 i hi).of k4 (by omega) (fun _ => by omega)
  · left
    rw [b01_f hx, if_pos rfl]
    exact ⟨hx, rfl⟩
end
section
/-! a node lost, a sheet taken away from a formula, in the reference -/
def loM (d : Nd) (w : Nat) : Int32 := if w = 1 then d 1 else loF w
set_option maxRecDepth 100000 in
theorem d183 {s : aS} {p : Nat} (hp : p < 1152) : ∃ s', dm183 (Int32.ofNat p) s = some s' ∧ (∀ w, w < 9 → sI s' (128 + w) p = loM (fun w => sI s (128 + w) p) w) ∧ ch (fun a q => (128 ≤ a ∧ a ≤ 136) ∧ q = p) s s' := by
  have hb : aB (Int32.ofNat p) 1152 := by rw [aB_iff, iOfNat (by omega)]; omega
  have ej : jN (Int32.ofNat p) = p := jN_of (by omega)
  unfold dm183
  simp only [if_pos hb, nx_eq, ej]
  refine ⟨_, rfl, fun w hw => ?_, ((((((((ch.refl _ s).wI (by omega)).wI (by omega)).wI (by omega)).wI (by omega)).wI (by omega)).wI (by omega)).wI (by omega)).wI (by omega)⟩
  simp only [sI_wI]
  unfold loM loF plF
  match w, hw with
  | 0, _ => simp
  | 1, _ => simp
  | 2, _ => simp
  | 3, _ => simp
  | 4, _ => simp
  | 5, _ => simp
  | 6, _ => simp
  | 7, _ => simp
  | 8, _ => simp
def lsM (x : Int32) (d : Nd) : Nd := if d 2 = x then loM d else if d 2 ≤ x then d else fun w => if w = 2 then d 2 - 1 else d w
/-- nodes by their numbers -/
def TG (s : aS) (f n : Nat) (F : Nat → Nd) : Prop := sI s 127 f = Int32.ofNat n ∧ n ≤ 128 ∧ ∀ i, i < n → ∀ w, w < 9 → sI s (128 + w) (128 * f + i) = F i w
set_option maxRecDepth 100000 in
theorem TG.cg {s : aS} {f n : Nat} {F G : Nat → Nd} (h : TG s f n F) (e : ∀ i, i < n → ∀ w, w < 9 → F i w = G i w) : TG s f n G := ⟨h.1, h.2.1, fun i hi w hw => (h.2.2 i hi w hw).trans (e i hi w hw)⟩
set_option maxRecDepth 100000 in
theorem TG.up {s s' : aS} {f n i : Nat} {F : Nat → Nd} {g : Nd} (h : TG s f n F) (hi : i < n) (hg : ∀ w, w < 9 → sI s' (128 + w) (128 * f + i) = g w) (hc : ch (fun a q => (128 ≤ a ∧ a ≤ 136) ∧ q = 128 * f + i) s s') : TG s' f n (fun j => if j = i then g else F j) := ⟨(hc.i (by omega)).trans h.1, h.2.1, fun j hj w hw => by
  show _ = (if j = i then g else F j) w
  by_cases e : j = i
  · subst e
    rw [if_pos rfl]
    exact hg w hw
  · rw [if_neg e, hc.i (by omega)]
    exact h.2.2 j hj w hw⟩
set_option maxRecDepth 100000 in
theorem TM.f {s : aS} {f : Nat} {L : List Nd} (h : TM s f L) : TG s f L.length (fun i => L.getD i (fun _ => 0)) := ⟨h.1, h.2.1, fun i hi w hw => by
  show _ = L.getD i (fun _ => 0) w
  rw [List.getD, List.getElem?_eq_getElem hi]
  exact h.2.2 i hi w hw⟩
set_option maxRecDepth 100000 in
theorem TG.c {s : aS} {f n : Nat} {F : Nat → Nd} {L : List Nd} (h : TG s f n F) (hl : L.length = n) (hF : ∀ i (g : i < L.length) w, w < 9 → F i w = L[i] w) : TM s f L := ⟨by rw [hl]; exact h.1, by rw [hl]; exact h.2.1, fun i hi w hw => (h.2.2 i (by omega) w hw).trans (hF i hi w hw)⟩
set_option maxRecDepth 100000 in
theorem d182v {f n : Nat} {x : Int32} {F : Nat → Nd} {k15 : Int32 → Int32 → aS → Option aS} (hf : f < 8) (hx : 0 ≤ x.toInt) : ∀ (m j k : Nat) (s : aS), j + m = n → m < k → TG s f n (fun i => if i < j then lsM x (F i) else F i) → ∃ s', dm182_66 k15 k x (Int32.ofNat f) (Int32.ofNat (128 * f + j)) s = k15 x (Int32.ofNat (f + 1)) s' ∧ TG s' f n (fun i => lsM x (F i)) ∧ ch (fun a q => (128 ≤ a ∧ a ≤ 136) ∧ 128 * f ≤ q ∧ q < 128 * f + n) s s' := by
  intro m
  induction m with
  | zero =>
    intro j k s hj hk h
    obtain ⟨k, rfl⟩ : ∃ q, k = q + 1 := ⟨k - 1, by omega⟩
    have h8 := h.2.1
    rw [dm182_66, if_pos (by rw [aB_iff, iOfNat (by omega)]; omega), jN_of (by omega), h.1, i128 (by omega) (by omega), if_pos (by rw [iLe, iOfNat (by omega), iOfNat (by omega)]; omega)]
    unfold dm182_108
    rw [ofNat_succ (by omega)]
    exact ⟨s, rfl, h.cg fun i hi w hw => by show (if i < j then lsM x (F i) else F i) w = _; rw [if_pos (by omega)], ch.refl _ s⟩
  | succ m ih =>
    intro j k s hj hk h
    obtain ⟨k, rfl⟩ : ∃ q, k = q + 1 := ⟨k - 1, by omega⟩
    have h8 := h.2.1
    have hp : aB (Int32.ofNat (128 * f + j)) 1152 := by rw [aB_iff, iOfNat (by omega)]; omega
    have ep : jN (Int32.ofNat (128 * f + j)) = 128 * f + j := jN_of (by omega)
    have row : ∀ w, w < 9 → sI s (128 + w) (128 * f + j) = F j w := by
      intro w hw
      have := h.2.2 j (by omega) w hw
      have : sI s (128 + w) (128 * f + j) = (if j < j then lsM x (F j) else F j) w := this
      rw [if_neg (by omega)] at this
      exact this
    have ef : sI s 130 (128 * f + j) = F j 2 := row 2 (by omega)
    rw [dm182_66, if_pos (by rw [aB_iff, iOfNat (by omega)]; omega), jN_of (i := f) (by omega), h.1, i128 (by omega) (by omega), if_neg (by rw [iLe, iOfNat (by omega), iOfNat (by omega)]; omega), if_pos hp, ep, ef]
    have fin : ∀ (s1 : aS) (g : Nd), TG s1 f n (fun i => if i = j then g else if i < j then lsM x (F i) else F i) → ch (fun a q => (128 ≤ a ∧ a ≤ 136) ∧ q = 128 * f + j) s s1 → (∀ w, w < 9 → (fun w => if w = 2 then (if g 2 ≤ x then g 2 else g 2 - 1) else g w) w = lsM x (F j) w) → ∃ s', dm182_85 k15 (dm182_66 k15 k) x (Int32.ofNat f) (Int32.ofNat (128 * f + j)) s1 = k15 x (Int32.ofNat (f + 1)) s' ∧ TG s' f n (fun i => lsM x (F i)) ∧ ch (fun a q => (128 ≤ a ∧ a ≤ 136) ∧ 128 * f ≤ q ∧ q < 128 * f + n) s s' := by
      intro s1 g t1 c1 hg
      have e2 : sI s1 130 (128 * f + j) = g 2 := by
        have := t1.2.2 j (by omega) 2 (by omega)
        have : sI s1 130 (128 * f + j) = (if j = j then g else if j < j then lsM x (F j) else F j) 2 := this
        rw [if_pos rfl] at this
        exact this
      have e85 : dm182_85 k15 (dm182_66 k15 k) x (Int32.ofNat f) (Int32.ofNat (128 * f + j)) s1 = dm182_66 k15 k x (Int32.ofNat f) (Int32.ofNat (128 * f + (j + 1))) (wI s1 130 (128 * f + j) (if g 2 ≤ x then g 2 else g 2 - 1)) := by
        unfold dm182_85 dm182_105
        simp only [if_pos hp, nx_eq, ep, e2]
        rw [ofNat_succ (by omega)]
        by_cases q : g 2 ≤ x
        · rw [if_pos q, if_pos q]; rfl
        · rw [if_neg q, if_neg q]; rfl
      have c2 : ch (fun a q => (128 ≤ a ∧ a ≤ 136) ∧ q = 128 * f + j) s1 (wI s1 130 (128 * f + j) (if g 2 ≤ x then g 2 else g 2 - 1)) := (ch.refl _ s1).wI (by omega)
      have t2 := t1.up (g := lsM x (F j)) (by omega : j < n) (fun w hw => by
        rw [← hg w hw, sI_wI]
        by_cases e : w = 2
        · subst e
          rw [if_pos ⟨rfl, rfl⟩]
          exact (if_pos rfl).symm
        · rw [if_neg (by omega)]
          have := t1.2.2 j (by omega) w hw
          have : sI s1 (128 + w) (128 * f + j) = (if j = j then g else if j < j then lsM x (F j) else F j) w := this
          rw [if_pos rfl] at this
          rw [this]
          exact (if_neg e).symm) c2
      obtain ⟨s', a1, a2, a3⟩ := ih (j + 1) k _ (by omega) (by omega) (t2.cg fun i hi w hw => by
        show (if i = j then lsM x (F j) else if i = j then g else if i < j then lsM x (F i) else F i) w = (if i < j + 1 then lsM x (F i) else F i) w
        by_cases e : i = j
        · subst e
          rw [if_pos rfl, if_pos (by omega)]
        · rw [if_neg e, if_neg e]
          by_cases e2 : i < j
          · rw [if_pos e2, if_pos (by omega)]
          · rw [if_neg e2, if_neg (by omega)])
      refine ⟨s', by rw [e85]; exact a1, a2, ((c1.trans c2).mono fun a q z => by omega).trans a3⟩
    by_cases c1 : F j 2 = x
    · rw [if_pos c1]
      obtain ⟨s1, g1, g2, g3⟩ := d183 (s := s) (p := 128 * f + j) (by omega)
      rw [g1]
      simp only [bu_some]
      refine fin s1 (loM (F j)) (h.up (by omega) (fun w hw => ?_) g3) g3 (fun w hw => ?_)
      · rw [g2 w hw]
        unfold loM
        by_cases e : w = 1
        · rw [if_pos e, if_pos e]
          exact row 1 (by omega)
        · rw [if_neg e, if_neg e]
      · unfold lsM
        rw [if_pos c1]
        have hm : loM (F j) 2 = -1 := by
          unfold loM loF plF
          rfl
        have hle : (-1 : Int32) ≤ x := by rw [iLe]; show (-1 : Int) ≤ x.toInt; omega
        show (if w = 2 then (if loM (F j) 2 ≤ x then loM (F j) 2 else loM (F j) 2 - 1) else loM (F j) w) = loM (F j) w
        by_cases e : w = 2
        · subst e
          rw [if_pos rfl, hm, if_pos hle]
        · rw [if_neg e]
    · rw [if_neg c1]
      refine fin s (F j) (h.cg fun i hi w hw => ?_) (ch.refl _ s) (fun w hw => ?_)
      · show (if i < j then lsM x (F i) else F i) w = (if i = j then F j else if i < j then lsM x (F i) else F i) w
        by_cases e : i = j
        · subst e
          rw [if_neg (by omega), if_pos rfl]
        · rw [if_neg e]
      · unfold lsM
        rw [if_neg c1]
        by_cases c2 : F j 2 ≤ x
        · rw [if_pos c2, if_pos c2]
          show (if w = 2 then F j 2 else F j w) = F j w
          by_cases e : w = 2
          · subst e
            rw [if_pos rfl]
          · rw [if_neg e]
        · rw [if_neg c2, if_neg c2]
set_option maxRecDepth 100000 in
theorem d182w {s : aS} {f : Nat} {x : Int32} {L : List Nd} {k15 : Int32 → Int32 → aS → Option aS} (h : TM s f L) (hf : f < 8) (hx : 0 ≤ x.toInt) : ∃ s', dm182_66 k15 5000 x (Int32.ofNat f) (128 * Int32.ofNat f) s = k15 x (Int32.ofNat (f + 1)) s' ∧ TM s' f (L.map (lsM x)) ∧ ch (fun a q => (128 ≤ a ∧ a ≤ 136) ∧ 128 * f ≤ q ∧ q < 128 * f + 128) s s' := by
  have h8 := h.2.1
  obtain ⟨s', g1, g2, g3⟩ := d182v (f := f) (x := x) (k15 := k15) (F := fun i => L.getD i (fun _ => 0)) hf hx L.length 0 5000 s (by omega) (by omega) (h.f.cg fun i hi w hw => by
    show L.getD i (fun _ => 0) w = (if i < 0 then _ else L.getD i (fun _ => 0)) w
    rw [if_neg (by omega)])
  have em : 128 * Int32.ofNat f = Int32.ofNat (128 * f + 0) := by
    have := i128 (f := f) (i := 0) (by omega) (by omega)
    have z : 128 * Int32.ofNat f + Int32.ofNat 0 = 128 * Int32.ofNat f := Int32.add_zero _
    rw [z] at this
    exact this
  refine ⟨s', by rw [em]; exact g1, g2.c (by rw [List.length_map]) fun i hi w hw => ?_, g3.mono fun a q z => by omega⟩
  rw [List.length_map] at hi
  show lsM x (L.getD i (fun _ => 0)) w = _
  rw [List.getElem_map, List.getD, List.getElem?_eq_getElem hi]
  rfl
end
section
/-! drop as a whole in the reference -/
def fsDropM (x : Int32) (fs : Nat → Option Fm) : Nat → Option Fm := fun f => match fs f with
  | none => none
  | some (h, L) => if h = x then none else some (if h ≤ x then h else h - 1, L.map (lsM x))
set_option maxRecDepth 100000 in
theorem mm_key {s s1 : aS} {f g : Nat} {F : Option Fm} (hfg : g ≠ f) (hg : g < 8) (hc : ch (fun a q => (a = 125 ∧ q = f) ∨ (a = 126 ∧ q = f) ∨ ((128 ≤ a ∧ a ≤ 136) ∧ 128 * f ≤ q ∧ q < 128 * f + 128)) s s1) (h : (F = none → sI s 125 g = 0) ∧ ∀ ho L, F = some (ho, L) → sI s 125 g = 1 ∧ sI s 126 g = ho ∧ TM s g L) : (F = none → sI s1 125 g = 0) ∧ ∀ ho L, F = some (ho, L) → sI s1 125 g = 1 ∧ sI s1 126 g = ho ∧ TM s1 g L := by
  refine ⟨fun q => (hc.i (by omega)).trans (h.1 q), fun ho L q => ?_⟩
  obtain ⟨a1, a2, a3⟩ := h.2 ho L q
  have h8 := a3.2.1
  exact ⟨(hc.i (by omega)).trans a1, (hc.i (by omega)).trans a2, (hc.i (by omega)).trans a3.1, h8, fun i hi w hw => (hc.i (by omega)).trans (a3.2.2 i hi w hw)⟩
set_option maxRecDepth 100000 in
theorem d182f {x : Int32} {fs : Nat → Option Fm} (hx : 0 ≤ x.toInt) : ∀ (m f n : Nat) (s : aS), f + m = 8 → m < n → MM s (fun g => if g < f then fsDropM x fs g else fs g) → ∃ s', dm182_15 n x (Int32.ofNat f) s = dm182_112 5000 x s' ∧ MM s' (fsDropM x fs) ∧ ch (fun a _ => 125 ≤ a ∧ a ≤ 136) s s' := by
  intro m
  induction m with
  | zero =>
    intro f n s hf hn h
    obtain ⟨n, rfl⟩ : ∃ k, n = k + 1 := ⟨n - 1, by omega⟩
    rw [dm182_15, if_pos (by rw [iLe, iOfNat (by omega)]; show (8 : Int) ≤ f; omega)]
    refine ⟨s, rfl, fun g hg => ?_, ch.refl _ s⟩
    have := h g hg
    simp only [if_pos (show g < f by omega)] at this
    exact this
  | succ m ih =>
    intro f n s hf hn h
    obtain ⟨n, rfl⟩ : ∃ k, n = k + 1 := ⟨n - 1, by omega⟩
    have ej : jN (Int32.ofNat f) = f := jN_of (by omega)
    have hbf : aB (Int32.ofNat f) 8 := by rw [aB_iff, iOfNat (by omega)]; omega
    have hff := h f (by omega)
    simp only [if_neg (Nat.lt_irrefl f)] at hff
    -- the next one, once this one's new state is known
    have step : ∀ s1, (fsDropM x fs f = none → sI s1 125 f = 0) → (∀ ho L, fsDropM x fs f = some (ho, L) → sI s1 125 f = 1 ∧ sI s1 126 f = ho ∧ TM s1 f L) → ch (fun a q => (a = 125 ∧ q = f) ∨ (a = 126 ∧ q = f) ∨ ((128 ≤ a ∧ a ≤ 136) ∧ 128 * f ≤ q ∧ q < 128 * f + 128)) s s1 → ∃ s', dm182_15 n x (Int32.ofNat (f + 1)) s1 = dm182_112 5000 x s' ∧ MM s' (fsDropM x fs) ∧ ch (fun a _ => 125 ≤ a ∧ a ≤ 136) s s' := by
      intro s1 q1 q2 q3
      obtain ⟨s', a1, a2, a3⟩ := ih (f + 1) n s1 (by omega) (by omega) (fun g hg => by
        by_cases e : g = f
        · subst e
          simp only [if_pos (Nat.lt_succ_self g)]
          exact ⟨q1, q2⟩
        · have hgg := h g hg
          by_cases e7 : g < f
          · simp only [if_pos e7] at hgg
            simp only [if_pos (show g < f + 1 by omega)]
            exact mm_key e hg q3 hgg
          · simp only [if_neg e7] at hgg
            simp only [if_neg (show ¬ g < f + 1 by omega)]
            exact mm_key e hg q3 hgg)
      exact ⟨s', a1, a2, (q3.mono fun a q z => by omega).trans a3⟩
    have gone : fsDropM x fs f = none → ∃ s', dm182_34 (dm182_15 n) x (Int32.ofNat f) (Int32.ofNat f) s = dm182_112 5000 x s' ∧ MM s' (fsDropM x fs) ∧ ch (fun a _ => 125 ≤ a ∧ a ≤ 136) s s' := by
      intro hq
      have e : dm182_34 (dm182_15 n) x (Int32.ofNat f) (Int32.ofNat f) s = dm182_15 n x (Int32.ofNat (f + 1)) (wI s 125 f 0) := by
        unfold dm182_34 dm182_35 dm182_108
        simp only [if_pos hbf, nx_eq, ej]
        rw [show ((0 : Int32) &&& 1) = 0 by decide, if_pos (show sI (wI s 125 f 0) 125 f = 0 by rw [sI_wI, if_pos ⟨rfl, rfl⟩]), ofNat_succ (by omega)]
      rw [e]
      exact step _ (fun _ => by rw [sI_wI, if_pos ⟨rfl, rfl⟩]) (fun ho L q => by rw [hq] at q; cases q) ((ch.refl _ s).wI (Or.inl ⟨rfl, rfl⟩))
    rw [dm182_15, if_neg (by rw [iLe, iOfNat (by omega)]; show ¬ (8 : Int) ≤ f; omega), if_pos hbf]
    cases hq : fs f with
    | none =>
      have e : sI s 125 (jN (Int32.ofNat f)) = 0 := by rw [ej]; exact hff.1 hq
      rw [if_pos e]
      exact gone (by unfold fsDropM; rw [hq])
    | some v =>
      obtain ⟨ho, L⟩ := v
      obtain ⟨b1, b2, b3⟩ := hff.2 ho L hq
      have e1 : ¬ sI s 125 (jN (Int32.ofNat f)) = 0 := by rw [ej, b1]; decide
      have e2 : sI s 126 (jN (Int32.ofNat f)) = ho := by rw [ej]; exact b2
      rw [if_neg e1, if_pos hbf, e2]
      by_cases c1 : ho = x
      · rw [if_pos c1]
        exact gone (by unfold fsDropM; rw [hq]; simp only [if_pos c1])
      · rw [if_neg c1]
        have hd : fsDropM x fs f = some (if ho ≤ x then ho else ho - 1, L.map (lsM x)) := by
          unfold fsDropM
          rw [hq]
          simp only [if_neg c1]
        have hc1 : ch (fun a q => (a = 125 ∧ q = f) ∨ (a = 126 ∧ q = f) ∨ ((128 ≤ a ∧ a ≤ 136) ∧ 128 * f ≤ q ∧ q < 128 * f + 128)) s (wI (wI s 125 f 1) 126 f (if ho ≤ x then ho else ho - 1)) := ((ch.refl _ s).wI (Or.inl ⟨rfl, rfl⟩)).wI (Or.inr (Or.inl ⟨rfl, rfl⟩))
        have t1 : TM (wI (wI s 125 f 1) 126 f (if ho ≤ x then ho else ho - 1)) f L := ⟨(hc1.i (by omega)).trans b3.1, b3.2.1, fun i hi w hw => by rw [sI_wI, if_neg (by omega), sI_wI, if_neg (by omega)]; exact b3.2.2 i hi w hw⟩
        obtain ⟨s2, g1, g2, g3⟩ := d182w (x := x) (k15 := dm182_15 n) t1 (by omega) hx
        have e35 : dm182_35 (dm182_15 n) x (Int32.ofNat f) (Int32.ofNat f) 1 s = dm182_66 (dm182_15 n) 5000 x (Int32.ofNat f) (128 * Int32.ofNat f) (wI (wI s 125 f 1) 126 f (if ho ≤ x then ho else ho - 1)) := by
          unfold dm182_35 dm182_61
          simp only [if_pos hbf, nx_eq, ej]
          rw [show ((1 : Int32) &&& 1) = 1 by decide, if_neg (show ¬ sI (wI s 125 f 1) 125 f = 0 by rw [sI_wI, if_pos ⟨rfl, rfl⟩]; decide), show sI (wI s 125 f 1) 126 f = ho by rw [sI_wI, if_neg (by omega)]; exact b2]
          by_cases c2 : ho ≤ x
          · rw [if_pos c2, if_pos c2]
          · rw [if_neg c2, if_neg c2]
        rw [e35, g1]
        refine step s2 (fun q => by rw [hd] at q; cases q) (fun h9 L9 q => ?_) (hc1.trans (g3.mono fun a q z => Or.inr (Or.inr z)))
        rw [hd] at q
        cases q
        exact ⟨(g3.i (by omega)).trans (by rw [sI_wI, if_neg (by omega), sI_wI, if_pos ⟨rfl, rfl⟩]), (g3.i (by omega)).trans (by rw [sI_wI, if_pos ⟨rfl, rfl⟩]), g2⟩
set_option maxRecDepth 100000 in
theorem d182 {s : aS} {ns : List (List Int32)} {fs : Nat → Option Fm} (hs : SM s ns) (hn : nsOk ns) (h : MM s fs) (x : Int32) :
    (¬ (0 ≤ x.toInt ∧ x.toInt < ns.length) ∧ dm182 x s = some (wI s 121 0 1)) ∨
    ((0 ≤ x.toInt ∧ x.toInt < ns.length) ∧ ∃ s', dm182 x s = some s' ∧ SM s' (ns.eraseIdx x.toInt.toNat) ∧ MM s' (fsDropM x fs) ∧ sI s' 121 0 = 0 ∧ ch (fun a k => (a = 121 ∧ (k = 0 ∨ k = 3)) ∨ (123 ≤ a ∧ a ≤ 136)) s s') := by
  have h8 := hn.1
  unfold dm182
  rw [d181 hs h8]
  simp only [bu_some]
  unfold dm182_8
  by_cases hx : 0 ≤ x.toInt ∧ x.toInt < ns.length
  · right
    refine ⟨hx, ?_⟩
    rw [b01_f (fun q => q hx), if_pos rfl, nx_eq, if_pos (show sI (wI s 121 0 0) 121 0 ≤ 0 from (by decide : (0 : Int32) ≤ 0))]
    obtain ⟨s1, g1, g2, g3⟩ := d182f (x := x) (fs := fs) hx.1 8 0 5000 (wI s 121 0 0) (by omega) (by omega) (fun f hf => by
      simp only [if_neg (Nat.not_lt_zero f)]
      exact (h.of (ch0 s 0) (by omega)) f hf)
    have g1 : dm182_15 5000 x 0 (wI s 121 0 0) = dm182_112 5000 x s1 := g1
    have hs1 : SM s1 ns := ⟨(g3.i (by omega)).trans (((ch0 s 0).i (by omega)).trans hs.1), fun i hi => ⟨(g3.i (by omega)).trans (((ch0 s 0).i (by omega)).trans (hs.2 i hi).1), fun j hj => (g3.i (by omega)).trans (((ch0 s 0).i (by omega)).trans ((hs.2 i hi).2 j hj))⟩⟩
    obtain ⟨s2, k1, k2, k3⟩ := d182m (i := x.toInt.toNat) hs1 hn (by omega)
    rw [← ofNat_of (x := x) hx.1] at k1
    rw [g1]
    refine ⟨s2, k1, k2, g2.of k3 (by omega), (k3.i (by omega)).trans ((g3.i (by omega)).trans (by rw [sI_wI, if_pos ⟨rfl, rfl⟩])), (((ch0 s 0).mono fun a k q => by omega).trans (g3.mono fun a k q => by omega)).trans (k3.mono fun a k q => by omega)⟩
  · left
    refine ⟨hx, ?_⟩
    rw [b01_t hx, if_neg (by decide), nx_eq]
    exact if_neg (show ¬ (1 : Int32) ≤ 0 by decide)
end
section
/-! a node moved, in the reference -/
def RI (s : aS) (p : Nat) (d : Nd) : Prop := ∀ w, w < 9 → sI s (128 + w) p = d w
def setN (d : Nd) (w : Nat) (v : Int32) : Nd := fun k => if k = w then v else d k
set_option maxRecDepth 100000 in
theorem RI.set {s : aS} {p w : Nat} {d : Nd} {v : Int32} (h : RI s p d) : RI (wI s (128 + w) p v) p (setN d w v) := by
  intro k hk
  rw [sI_wI]
  unfold setN
  by_cases e : k = w
  · rw [if_pos ⟨by omega, rfl⟩, if_pos e]
  · rw [if_neg (by omega), if_neg e]
    exact h k hk
def bey (x m : Int32) : Prop := ¬ (1 ≤ x.toInt ∧ x.toInt ≤ m.toInt)
set_option maxRecDepth 100000 in
theorem d227 (x m : Int32) : dm227 x m = some (b01 (bey x m)) := by
  unfold dm227 dm227_6 bey
  have l1 : x < 1 ↔ x.toInt < 1 := iLt
  have l2 : x ≤ m ↔ x.toInt ≤ m.toInt := iLe
  by_cases h1 : x < 1
  · rw [if_pos h1, b01_t]
    have := l1.mp h1
    omega
  · rw [if_neg h1]
    have h1 : ¬ x.toInt < 1 := fun q => h1 (l1.mpr q)
    by_cases h2 : x ≤ m
    · rw [if_pos h2, b01_f]
      have := l2.mp h2
      omega
    · rw [if_neg h2, b01_t]
      have h2 : ¬ x.toInt ≤ m.toInt := fun q => h2 (l2.mpr q)
      omega
/-- rows in order, columns in order -/
def srR (d : Nd) : Nd := if d 3 ≤ d 5 then d else setN (setN (setN d 3 (d 5)) 5 (d 3)) 7 ((((d 7) &&& 10) ||| (((d 7) &&& 1) <<< ((2 : Int32) &&& 31))) ||| (((d 7) >>> ((2 : Int32) &&& 31)) &&& 1))
def srC (d : Nd) : Nd := if d 4 ≤ d 6 then d else setN (setN (setN d 4 (d 6)) 6 (d 4)) 7 ((((d 7) &&& 5) ||| (((d 7) &&& 2) <<< ((2 : Int32) &&& 31))) ||| (((d 7) >>> ((2 : Int32) &&& 31)) &&& 2))
set_option maxRecDepth 100000 in
theorem d219c {s : aS} {p : Nat} {d : Nd} (hp : p < 1152) (h : RI s p d) : ∃ s', dm219_55 (Int32.ofNat p) s = some s' ∧ RI s' p (srC d) ∧ ch (fun a q => (128 ≤ a ∧ a ≤ 136) ∧ q = p) s s' := by
  have hb : aB (Int32.ofNat p) 1152 := by rw [aB_iff, iOfNat (by omega)]; omega
  have ej : jN (Int32.ofNat p) = p := jN_of (by omega)
  have e4 : sI s 132 p = d 4 := h 4 (by omega)
  have e6 : sI s 134 p = d 6 := h 6 (by omega)
  unfold dm219_55 srC
  simp only [if_pos hb, nx_eq, ej, e4, e6]
  by_cases c : d 4 ≤ d 6
  · rw [if_pos c, if_pos c]
    exact ⟨s, rfl, h, ch.refl _ s⟩
  · rw [if_neg c, if_neg c]
    have h2 : RI (wI (wI s 132 p (d 6)) 134 p (d 4)) p (setN (setN d 4 (d 6)) 6 (d 4)) := (h.set (w := 4)).set (w := 6)
    have e7 : sI (wI (wI s 132 p (d 6)) 134 p (d 4)) 135 p = d 7 := h2 7 (by omega)
    rw [e7]
    exact ⟨_, rfl, h2.set (w := 7), (((ch.refl _ s).wI (by omega)).wI (by omega)).wI (by omega)⟩
set_option maxRecDepth 100000 in
theorem d219 {s : aS} {p : Nat} {d : Nd} (hp : p < 1152) (h : RI s p d) : ∃ s', dm219 (Int32.ofNat p) s = some s' ∧ RI s' p (srC (srR d)) ∧ ch (fun a q => (128 ≤ a ∧ a ≤ 136) ∧ q = p) s s' := by
  have hb : aB (Int32.ofNat p) 1152 := by rw [aB_iff, iOfNat (by omega)]; omega
  have ej : jN (Int32.ofNat p) = p := jN_of (by omega)
  have e3 : sI s 131 p = d 3 := h 3 (by omega)
  have e5 : sI s 133 p = d 5 := h 5 (by omega)
  unfold dm219 srR
  simp only [if_pos hb, nx_eq, ej, e3, e5]
  by_cases c : d 3 ≤ d 5
  · rw [if_pos c, if_pos c]
    exact d219c hp h
  · rw [if_neg c, if_neg c]
    have h2 : RI (wI (wI s 131 p (d 5)) 133 p (d 3)) p (setN (setN d 3 (d 5)) 5 (d 3)) := (h.set (w := 3)).set (w := 5)
    have e7 : sI (wI (wI s 131 p (d 5)) 133 p (d 3)) 135 p = d 7 := h2 7 (by omega)
    rw [e7]
    obtain ⟨s', g1, g2, g3⟩ := d219c hp (h2.set (w := 7) (v := ((((d 7) &&& 10) ||| (((d 7) &&& 1) <<< ((2 : Int32) &&& 31))) ||| (((d 7) >>> ((2 : Int32) &&& 31)) &&& 1))))
    exact ⟨s', g1, g2, ((((ch.refl _ s).wI (by omega)).wI (by omega)).wI (by omega)).trans g3⟩
/-- moved by r and c: the four numbers, one after the other -/
def mv1 (r : Int32) (d : Nd) : Nd := setN d 3 (if (d 7 &&& 1) ≤ 0 then d 3 + r else d 3)
def mv2 (c : Int32) (d : Nd) : Nd := setN d 4 (if (d 7 &&& 2) ≤ 0 then d 4 + c else d 4)
def mv3 (r : Int32) (d : Nd) : Nd := setN d 5 (if d 0 = 4 then d 3 else if (d 7 &&& 4) ≤ 0 then d 5 + r else d 5)
def mv4 (c : Int32) (d : Nd) : Nd := setN d 6 (if d 0 = 4 then d 4 else if (d 7 &&& 8) ≤ 0 then d 6 + c else d 6)
def mvB (d : Nd) : Prop := bey (d 3) 1048576 ∨ bey (d 5) 1048576 ∨ bey (d 4) 16384 ∨ bey (d 6) 16384
set_option maxRecDepth 100000 in
noncomputable def mvE (d : Nd) : Nd := if b01 (mvB d) = 1 then loM d else if d 0 = 4 then d else srC (srR d)
set_option maxRecDepth 100000 in
noncomputable def mvM (r c : Int32) (d : Nd) : Nd := mvE (mv4 c (mv3 r (mv2 c (mv1 r d))))
set_option maxRecDepth 100000 in
theorem d226e {s : aS} {p : Nat} {d : Nd} {x4 : Int32} (hp : p < 1152) (h : RI s p d) (hx : x4 = if d 0 = 4 then 1 else 0) (v : Int32) : ∃ s', dm226_111 (Int32.ofNat p) x4 (Int32.ofNat p) v s = some s' ∧ RI s' p (mvE (setN d 6 v)) ∧ ch (fun a q => (128 ≤ a ∧ a ≤ 136) ∧ q = p) s s' := by
  have hb : aB (Int32.ofNat p) 1152 := by rw [aB_iff, iOfNat (by omega)]; omega
  have ej : jN (Int32.ofNat p) = p := jN_of (by omega)
  have h1 : RI (wI s 134 p v) p (setN d 6 v) := h.set (w := 6)
  have e3 : sI (wI s 134 p v) 131 p = (setN d 6 v) 3 := h1 3 (by omega)
  have e4 : sI (wI s 134 p v) 132 p = (setN d 6 v) 4 := h1 4 (by omega)
  have e5 : sI (wI s 134 p v) 133 p = (setN d 6 v) 5 := h1 5 (by omega)
  have e6 : sI (wI s 134 p v) 134 p = (setN d 6 v) 6 := h1 6 (by omega)
  have hc : ch (fun a q => (128 ≤ a ∧ a ≤ 136) ∧ q = p) s (wI s 134 p v) := (ch.refl _ s).wI (by omega)
  have hk : (setN d 6 v) 0 = d 0 := rfl
  generalize setN d 6 v = e at h1 e3 e4 e5 e6 hk ⊢
  have lost : mvB e → ∃ s', dm226_140 (Int32.ofNat p) (wI s 134 p v) = some s' ∧ RI s' p (mvE e) ∧ ch (fun a q => (128 ≤ a ∧ a ≤ 136) ∧ q = p) s s' := by
    intro hB
    obtain ⟨s', g1, g2, g3⟩ := d183 (s := wI s 134 p v) hp
    unfold dm226_140
    rw [g1]
    refine ⟨s', rfl, fun w hw => ?_, hc.trans g3⟩
    rw [g2 w hw]
    unfold mvE
    rw [b01_t hB, if_pos rfl]
    unfold loM
    by_cases q : w = 1
    · rw [if_pos q, if_pos q]
      exact h1 1 (by omega)
    · rw [if_neg q, if_neg q]
  unfold dm226_111
  simp only [if_pos hb, nx_eq, ej, e3, e4, e5, e6, d227, bu_some]
  by_cases c1 : bey (e 3) 1048576
  · rw [b01_t c1, if_neg (by decide)]
    exact lost (Or.inl c1)
  · rw [b01_f c1, if_pos rfl]
    by_cases c2 : bey (e 5) 1048576
    · rw [b01_t c2, if_neg (by decide)]
      exact lost (Or.inr (Or.inl c2))
    · rw [b01_f c2, if_pos rfl]
      by_cases c3 : bey (e 4) 16384
      · rw [b01_t c3, if_neg (by decide)]
        exact lost (Or.inr (Or.inr (Or.inl c3)))
      · rw [b01_f c3, if_pos rfl]
        by_cases c4 : bey (e 6) 16384
        · rw [b01_t c4, if_neg (by decide)]
          exact lost (Or.inr (Or.inr (Or.inr c4)))
        · rw [b01_f c4, if_pos rfl]
          have hB : ¬ mvB e := by
            rintro (q | q | q | q)
            · exact c1 q
            · exact c2 q
            · exact c3 q
            · exact c4 q
          have me : mvE e = if d 0 = 4 then e else srC (srR e) := by
            unfold mvE
            rw [b01_f hB, if_neg (by decide), hk]
          rw [me]
          by_cases k4 : d 0 = 4
          · have hx1 : x4 = 1 := hx.trans (if_pos k4)
            rw [if_neg (show ¬ x4 = 0 by rw [hx1]; decide), if_pos k4]
            exact ⟨_, rfl, h1, hc⟩
          · have hx1 : x4 = 0 := hx.trans (if_neg k4)
            rw [if_pos hx1, if_neg k4]
            obtain ⟨s', g1, g2, g3⟩ := d219 hp h1
            rw [g1]
            exact ⟨s', rfl, g2, hc.trans g3⟩
set_option maxRecDepth 100000 in
theorem d226 {s : aS} {p : Nat} {d : Nd} (hp : p < 1152) (h : RI s p d) (r c : Int32) : ∃ s', dm226 (Int32.ofNat p) r c s = some s' ∧ RI s' p (mvM r c d) ∧ ch (fun a q => (128 ≤ a ∧ a ≤ 136) ∧ q = p) s s' := by
  have hb : aB (Int32.ofNat p) 1152 := by rw [aB_iff, iOfNat (by omega)]; omega
  have ej : jN (Int32.ofNat p) = p := jN_of (by omega)
  have z82 : ∀ (s : aS) (d : Nd) (x4 v : Int32), RI s p d → (x4 = if d 0 = 4 then 1 else 0) → v = (if d 0 = 4 then d 3 else if (d 7 &&& 4) ≤ 0 then d 5 + r else d 5) → ∃ s', dm226_82 (Int32.ofNat p) c x4 (Int32.ofNat p) v s = some s' ∧ RI s' p (mvE (mv4 c (mv3 r d))) ∧ ch (fun a q => (128 ≤ a ∧ a ≤ 136) ∧ q = p) s s' := by
    intro s d x4 v h hx hv
    have h1 : RI (wI s 133 p v) p (mv3 r d) := by rw [mv3, ← hv]; exact h.set (w := 5)
    have e7 : sI (wI s 133 p v) 135 p = mv3 r d 7 := h1 7 (by omega)
    have e6 : sI (wI s 133 p v) 134 p = mv3 r d 6 := h1 6 (by omega)
    have e4 : sI (wI s 133 p v) 132 p = mv3 r d 4 := h1 4 (by omega)
    have hk : mv3 r d 0 = d 0 := rfl
    have hc : ch (fun a q => (128 ≤ a ∧ a ≤ 136) ∧ q = p) s (wI s 133 p v) := (ch.refl _ s).wI (by omega)
    unfold dm226_82
    simp only [if_pos hb, nx_eq, ej, e7, e6, e4]
    generalize mv3 r d = e at h1 hk ⊢
    have fin : ∀ v9, v9 = (if e 0 = 4 then e 4 else if (e 7 &&& 8) ≤ 0 then e 6 + c else e 6) → ∃ s', dm226_111 (Int32.ofNat p) x4 (Int32.ofNat p) v9 (wI s 133 p v) = some s' ∧ RI s' p (mvE (mv4 c e)) ∧ ch (fun a q => (128 ≤ a ∧ a ≤ 136) ∧ q = p) s s' := by
      intro v9 h9
      obtain ⟨s', g1, g2, g3⟩ := d226e (x4 := x4) hp h1 (by rw [hk]; exact hx) v9
      refine ⟨s', g1, ?_, hc.trans g3⟩
      rw [mv4, ← h9]
      exact g2
    by_cases k4 : d 0 = 4
    · have hx1 : x4 = 1 := hx.trans (if_pos k4)
      rw [if_neg (show ¬ x4 = 0 by rw [hx1]; decide)]
      exact fin _ (by rw [if_pos (hk.trans k4)])
    · have hx1 : x4 = 0 := hx.trans (if_neg k4)
      rw [if_pos hx1]
      by_cases q : (e 7 &&& 8) ≤ 0
      · rw [if_pos q]
        exact fin _ (by rw [if_neg (by rw [hk]; exact k4), if_pos q])
      · rw [if_neg q]
        exact fin _ (by rw [if_neg (by rw [hk]; exact k4), if_neg q])
  have z53 : ∀ (s : aS) (d : Nd) (x4 v : Int32), RI s p d → (x4 = if d 0 = 4 then 1 else 0) → v = (if (d 7 &&& 2) ≤ 0 then d 4 + c else d 4) → ∃ s', dm226_53 (Int32.ofNat p) r c x4 (Int32.ofNat p) v s = some s' ∧ RI s' p (mvE (mv4 c (mv3 r (mv2 c d)))) ∧ ch (fun a q => (128 ≤ a ∧ a ≤ 136) ∧ q = p) s s' := by
    intro s d x4 v h hx hv
    have h1 : RI (wI s 132 p v) p (mv2 c d) := by rw [mv2, ← hv]; exact h.set (w := 4)
    have e7 : sI (wI s 132 p v) 135 p = mv2 c d 7 := h1 7 (by omega)
    have e5 : sI (wI s 132 p v) 133 p = mv2 c d 5 := h1 5 (by omega)
    have e3 : sI (wI s 132 p v) 131 p = mv2 c d 3 := h1 3 (by omega)
    have hk : mv2 c d 0 = d 0 := rfl
    have hc : ch (fun a q => (128 ≤ a ∧ a ≤ 136) ∧ q = p) s (wI s 132 p v) := (ch.refl _ s).wI (by omega)
    unfold dm226_53
    simp only [if_pos hb, nx_eq, ej, e7, e5, e3]
    generalize mv2 c d = e at h1 hk ⊢
    have fin : ∀ v9, v9 = (if e 0 = 4 then e 3 else if (e 7 &&& 4) ≤ 0 then e 5 + r else e 5) → ∃ s', dm226_82 (Int32.ofNat p) c x4 (Int32.ofNat p) v9 (wI s 132 p v) = some s' ∧ RI s' p (mvE (mv4 c (mv3 r e))) ∧ ch (fun a q => (128 ≤ a ∧ a ≤ 136) ∧ q = p) s s' := by
      intro v9 h9
      obtain ⟨s', g1, g2, g3⟩ := z82 _ e x4 v9 h1 (by rw [hk]; exact hx) h9
      exact ⟨s', g1, g2, hc.trans g3⟩
    by_cases k4 : d 0 = 4
    · have hx1 : x4 = 1 := hx.trans (if_pos k4)
      rw [if_neg (show ¬ x4 = 0 by rw [hx1]; decide)]
      exact fin _ (by rw [if_pos (hk.trans k4)])
    · have hx1 : x4 = 0 := hx.trans (if_neg k4)
      rw [if_pos hx1]
      by_cases q : (e 7 &&& 4) ≤ 0
      · rw [if_pos q]
        exact fin _ (by rw [if_neg (by rw [hk]; exact k4), if_pos q])
      · rw [if_neg q]
        exact fin _ (by rw [if_neg (by rw [hk]; exact k4), if_neg q])
  have z31 : ∀ (s : aS) (d : Nd) (x4 v : Int32), RI s p d → (x4 = if d 0 = 4 then 1 else 0) → v = (if (d 7 &&& 1) ≤ 0 then d 3 + r else d 3) → ∃ s', dm226_31 (Int32.ofNat p) r c x4 (Int32.ofNat p) v s = some s' ∧ RI s' p (mvM r c d) ∧ ch (fun a q => (128 ≤ a ∧ a ≤ 136) ∧ q = p) s s' := by
    intro s d x4 v h hx hv
    have h1 : RI (wI s 131 p v) p (mv1 r d) := by rw [mv1, ← hv]; exact h.set (w := 3)
    have e7 : sI (wI s 131 p v) 135 p = mv1 r d 7 := h1 7 (by omega)
    have e4 : sI (wI s 131 p v) 132 p = mv1 r d 4 := h1 4 (by omega)
    have hk : mv1 r d 0 = d 0 := rfl
    have hc : ch (fun a q => (128 ≤ a ∧ a ≤ 136) ∧ q = p) s (wI s 131 p v) := (ch.refl _ s).wI (by omega)
    unfold dm226_31 mvM
    simp only [if_pos hb, nx_eq, ej, e7, e4]
    generalize mv1 r d = e at h1 hk ⊢
    have fin : ∀ v9, v9 = (if (e 7 &&& 2) ≤ 0 then e 4 + c else e 4) → ∃ s', dm226_53 (Int32.ofNat p) r c x4 (Int32.ofNat p) v9 (wI s 131 p v) = some s' ∧ RI s' p (mvE (mv4 c (mv3 r (mv2 c e)))) ∧ ch (fun a q => (128 ≤ a ∧ a ≤ 136) ∧ q = p) s s' := by
      intro v9 h9
      obtain ⟨s', g1, g2, g3⟩ := z53 _ e x4 v9 h1 (by rw [hk]; exact hx) h9
      exact ⟨s', g1, g2, hc.trans g3⟩
    by_cases q : (e 7 &&& 2) ≤ 0
    · rw [if_pos q]
      exact fin _ (by rw [if_pos q])
    · rw [if_neg q]
      exact fin _ (by rw [if_neg q])
  have e0 : sI s 128 p = d 0 := h 0 (by omega)
  have e7 : sI s 135 p = d 7 := h 7 (by omega)
  have e3 : sI s 131 p = d 3 := h 3 (by omega)
  have z9 : ∀ x4 : Int32, (x4 = if d 0 = 4 then 1 else 0) → ∃ s', dm226_9 (Int32.ofNat p) r c x4 s = some s' ∧ RI s' p (mvM r c d) ∧ ch (fun a q => (128 ≤ a ∧ a ≤ 136) ∧ q = p) s s' := by
    intro x4 hx
    unfold dm226_9
    simp only [if_pos hb, ej, e7, e3]
    by_cases q : (d 7 &&& 1) ≤ 0
    · rw [if_pos q]
      exact z31 s d x4 _ h hx (by rw [if_pos q])
    · rw [if_neg q]
      exact z31 s d x4 _ h hx (by rw [if_neg q])
  unfold dm226
  rw [if_pos hb, ej, e0]
  by_cases k4 : d 0 = 4
  · rw [if_pos k4]
    exact z9 1 (by rw [if_pos k4])
  · rw [if_neg k4]
    exact z9 0 (by rw [if_neg k4])
end
section
/-! a node moved, in FormulaTrees -/
def CR (s : aS) (b i : Nat) (d : Nd) : Prop := ∀ w, w < 9 → sI s (b + 1) (11 * i + w) = d w
set_option maxRecDepth 100000 in
theorem CR.set {s : aS} {b i w : Nat} {d : Nd} {v : Int32} (h : CR s b i d) (hw : w < 11) : CR (wI s (b + 1) (11 * i + w) v) b i (setN d w v) := by
  intro k hk
  rw [sI_wI]
  unfold setN
  by_cases e : k = w
  · rw [if_pos ⟨rfl, by omega⟩, if_pos e]
  · rw [if_neg (by omega), if_neg e]
    exact h k hk
/-- which bit of the $s belongs to a number -/
def bitC (d : Nd) (w : Nat) : Int32 := if w = 3 then 1 else if w = 4 then 2 else if w = 5 then (if d 0 = 4 then 1 else 4) else (if d 0 = 4 then 2 else 8)
set_option maxRecDepth 100000 in
theorem d131 {s : aS} {b n i w : Nat} {d : Nd} (hn : sI s b 2 = Int32.ofNat n) (h8 : n ≤ 128) (hi : i < n) (h : CR s b i d) (hw : 3 ≤ w ∧ w ≤ 6) : dm131 b (Int32.ofNat i) (Int32.ofNat w) s = some (if (d 7 &&& bitC d w) = 0 then 0 else 1) := by
  have f0 : dm57 b (Int32.ofNat i) 0 s = some (d 0) := (d57 (w := 0) hn h8 hi (by omega)).trans (by rw [h 0 (by omega)])
  have f7 : dm57 b (Int32.ofNat i) 7 s = some (d 7) := (d57 (w := 7) hn h8 hi (by omega)).trans (by rw [h 7 (by omega)])
  have z : ∀ y0 y1 : Int32, dm131_33 b (Int32.ofNat i) y0 y1 s = some (if (d 7 &&& (y0 * y1)) = 0 then 0 else 1) := by
    intro y0 y1
    unfold dm131_33
    rw [f7]
    simp only [bu_some]
    split <;> rfl
  have b3 : bitC d 3 = 1 := rfl
  have b4 : bitC d 4 = 2 := rfl
  have b5 : bitC d 5 = if d 0 = 4 then 1 else 4 := rfl
  have b6 : bitC d 6 = if d 0 = 4 then 2 else 8 := rfl
  have c12 : ∀ (x2 y0 : Int32), dm131_12 b (Int32.ofNat i) x2 y0 s = some (if (d 7 &&& ((if x2 = 3 ∨ x2 = 5 then 1 else 2) * (if y0 = 0 then 4 else 1))) = 0 then 0 else 1) := by
    intro x2 y0
    unfold dm131_12 dm131_19 dm131_22 dm131_28
    rw [if_neg (show ¬ (1 : Int32) = 0 by decide), if_pos (show (0 : Int32) = 0 from rfl), z, z, z, z]
    by_cases h0 : y0 = 0
    · rw [if_pos h0, if_pos h0, if_pos h0]
      by_cases h3 : x2 = 3
      · rw [if_pos h3, if_pos (Or.inl h3)]
      · rw [if_neg h3]
        by_cases h5 : x2 = 5
        · rw [if_pos h5, if_pos (Or.inr h5)]
        · rw [if_neg h5, if_neg (show ¬ (x2 = 3 ∨ x2 = 5) from fun q => q.elim h3 h5)]
    · rw [if_neg h0, if_neg h0, if_neg h0]
      by_cases h3 : x2 = 3
      · rw [if_pos h3, if_pos (Or.inl h3)]
      · rw [if_neg h3]
        by_cases h5 : x2 = 5
        · rw [if_pos h5, if_pos (Or.inr h5)]
        · rw [if_neg h5, if_neg (show ¬ (x2 = 3 ∨ x2 = 5) from fun q => q.elim h3 h5)]
  unfold dm131 dm131_9
  rw [f0]
  simp only [bu_some, c12]
  have hw' : w = 3 ∨ w = 4 ∨ w = 5 ∨ w = 6 := by omega
  rcases hw' with rfl | rfl | rfl | rfl
  · rw [b3, if_pos (show Int32.ofNat 3 ≤ 4 by decide)]
    rfl
  · rw [b4, if_pos (show Int32.ofNat 4 ≤ 4 by decide)]
    rfl
  · rw [b5, if_neg (show ¬ Int32.ofNat 5 ≤ 4 by decide)]
    by_cases k4 : d 0 = 4
    · rw [if_pos k4, if_pos k4]
      rfl
    · rw [if_neg k4, if_neg k4]
      rfl
  · rw [b6, if_neg (show ¬ Int32.ofNat 6 ≤ 4 by decide)]
    by_cases k4 : d 0 = 4
    · rw [if_pos k4, if_pos k4]
      rfl
    · rw [if_neg k4, if_neg k4]
      rfl
/-- a number moved -/
def cvW (r c : Int32) (d : Nd) (w : Nat) : Int32 := if (d 7 &&& bitC d w) = 0 then d w + (if w = 3 ∨ w = 5 then r else c) else d w
def lastW (w : Nat) : Int32 := if w = 3 ∨ w = 5 then 1048576 else 16384
set_option maxRecDepth 100000 in
noncomputable def okW (v : Int32) (w : Nat) : Int32 := b01 (¬ bey v (lastW w))
set_option maxRecDepth 100000 in
theorem d130s {s : aS} {b n i w k : Nat} {d : Nd} {r c : Int32} (hn : sI s b 2 = Int32.ofNat n) (h8 : n ≤ 128) (hi : i < n) (h : CR s b i d) (hw : 3 ≤ w ∧ w ≤ 6) : dm130_4 (k + 1) b (Int32.ofNat i) r c 1 (Int32.ofNat w) s = dm130_4 k b (Int32.ofNat i) r c (okW (cvW r c d w) w) (Int32.ofNat (w + 1)) (wI s (b + 1) (11 * i + w) (cvW r c d w)) := by
  have fw : dm57 b (Int32.ofNat i) (Int32.ofNat w) s = some (d w) := (d57 (w := w) hn h8 hi (by omega)).trans (by rw [h w (by omega)])
  have fd := d131 hn h8 hi h hw
  have l1 : ∀ v : Int32, v < 1 ↔ v.toInt < 1 := fun v => iLt
  have p47 : ∀ (v y0 : Int32), dm130_47 (dm130_4 k) b (Int32.ofNat i) r c (Int32.ofNat w) v y0 s = dm130_4 k b (Int32.ofNat i) r c y0 (Int32.ofNat (w + 1)) (wI s (b + 1) (11 * i + w) v) := by
    intro v y0
    unfold dm130_47
    rw [d60 hn h8 hi (by omega)]
    simp only [bu_some]
    rw [ofNat_succ (by omega)]
  have p37 : ∀ (v x6 : Int32), dm132 x6 = some (lastW w) → dm130_37 (dm130_4 k) b (Int32.ofNat i) r c (Int32.ofNat w) x6 v s = dm130_4 k b (Int32.ofNat i) r c (okW v w) (Int32.ofNat (w + 1)) (wI s (b + 1) (11 * i + w) v) := by
    intro v x6 hl
    unfold dm130_37 dm130_46 okW bey
    rw [hl, p47, p47]
    simp only [bu_some]
    by_cases c1 : v < 1
    · rw [if_pos c1, b01_f]
      have := (l1 v).mp c1
      omega
    · rw [if_neg c1]
      have c1 : ¬ v.toInt < 1 := fun q => c1 ((l1 v).mpr q)
      by_cases c2 : lastW w < v
      · rw [if_pos c2, b01_f]
        rw [iLt] at c2
        omega
      · rw [if_neg c2, b01_t]
        rw [iLt] at c2
        omega
  have p18 : ∀ x6 : Int32, dm132 x6 = some (lastW w) → (if x6 = 0 then c else r) = (if w = 3 ∨ w = 5 then r else c) → dm130_18 (dm130_4 k) b (Int32.ofNat i) r c (Int32.ofNat w) x6 s = dm130_4 k b (Int32.ofNat i) r c (okW (cvW r c d w) w) (Int32.ofNat (w + 1)) (wI s (b + 1) (11 * i + w) (cvW r c d w)) := by
    intro x6 hl hs
    unfold dm130_18 dm130_35
    rw [fw, fd]
    simp only [bu_some]
    unfold cvW
    by_cases q : (d 7 &&& bitC d w) = 0
    · rw [if_pos q, if_pos rfl, if_pos q, ← hs]
      by_cases q6 : x6 = 0
      · rw [if_pos q6, if_pos q6, p37 _ _ hl]
      · rw [if_neg q6, if_neg q6, p37 _ _ hl]
    · rw [if_neg q, if_neg (by decide), if_neg q, p37 _ _ hl]
  have hw' : w = 3 ∨ w = 4 ∨ w = 5 ∨ w = 6 := by omega
  rw [dm130_4]
  rcases hw' with rfl | rfl | rfl | rfl
  · rw [if_neg (by decide), if_neg (by decide), if_pos (by decide)]
    exact p18 1 rfl rfl
  · rw [if_neg (by decide), if_neg (by decide), if_neg (by decide), if_neg (by decide)]
    exact p18 0 rfl rfl
  · rw [if_neg (by decide), if_neg (by decide), if_neg (by decide), if_pos (by decide)]
    exact p18 1 rfl rfl
  · rw [if_neg (by decide), if_neg (by decide), if_neg (by decide), if_neg (by decide)]
    exact p18 0 rfl rfl
/-- rows in order, columns in order -/
def orR (d : Nd) : Nd := if d 3 ≤ d 5 then d else setN (setN (setN d 3 (d 5)) 5 (d 3)) 7 (((d 7 &&& ((1 * 5) ^^^ (-1))) + ((d 7 &&& 1) * 4)) + ((d 7 &&& (1 * 4)) / 4))
def orC (d : Nd) : Nd := if d 4 ≤ d 6 then d else setN (setN (setN d 4 (d 6)) 6 (d 4)) 7 (((d 7 &&& ((2 * 5) ^^^ (-1))) + ((d 7 &&& 2) * 4)) + ((d 7 &&& (2 * 4)) / 4))
set_option maxRecDepth 100000 in
theorem d102 {s : aS} {b n i w : Nat} {d : Nd} {y : Int32} (hn : sI s b 2 = Int32.ofNat n) (h8 : n ≤ 128) (hi : i < n) (h : CR s b i d) (hw : (w = 3 ∧ y = 1) ∨ (w = 4 ∧ y = 2)) : ∃ s', dm102 b (Int32.ofNat i) (Int32.ofNat w) s = some s' ∧ CR s' b i (setN (setN (setN d w (d (w + 2))) (w + 2) (d w)) 7 (((d 7 &&& ((y * 5) ^^^ (-1))) + ((d 7 &&& y) * 4)) + ((d 7 &&& (y * 4)) / 4))) ∧ ch (fun a q => a = b + 1 ∧ 11 * i ≤ q ∧ q < 11 * i + 11) s s' := by
  have hw2 : w = 3 ∨ w = 4 := by omega
  have e2 : Int32.ofNat w + 2 = Int32.ofNat (w + 2) := iSum (j := 2) (by omega) (by omega)
  have f1 : dm57 b (Int32.ofNat i) (Int32.ofNat w) s = some (d w) := (d57 hn h8 hi (by omega)).trans (by rw [h w (by omega)])
  have f2 : dm57 b (Int32.ofNat i) (Int32.ofNat (w + 2)) s = some (d (w + 2)) := (d57 hn h8 hi (by omega)).trans (by rw [h (w + 2) (by omega)])
  have hn1 : sI (wI s (b + 1) (11 * i + w) (d (w + 2))) b 2 = Int32.ofNat n := (sI_wI _ _ _ _ _ _).trans ((if_neg (by omega)).trans hn)
  have hn2 : sI (wI (wI s (b + 1) (11 * i + w) (d (w + 2))) (b + 1) (11 * i + (w + 2)) (d w)) b 2 = Int32.ofNat n := (sI_wI _ _ _ _ _ _).trans ((if_neg (by omega)).trans hn1)
  have h2 : CR (wI (wI s (b + 1) (11 * i + w) (d (w + 2))) (b + 1) (11 * i + (w + 2)) (d w)) b i (setN (setN d w (d (w + 2))) (w + 2) (d w)) := (h.set (by omega)).set (by omega)
  have e7 : setN (setN d w (d (w + 2))) (w + 2) (d w) 7 = d 7 := by
    unfold setN
    rw [if_neg (by omega), if_neg (by omega)]
  have f7 : dm57 b (Int32.ofNat i) 7 (wI (wI s (b + 1) (11 * i + w) (d (w + 2))) (b + 1) (11 * i + (w + 2)) (d w)) = some (d 7) := (d57 (w := 7) hn2 h8 hi (by omega)).trans (by rw [h2 7 (by omega), e7])
  have p28 : dm102_28 b (Int32.ofNat i) y (wI (wI s (b + 1) (11 * i + w) (d (w + 2))) (b + 1) (11 * i + (w + 2)) (d w)) = some (wI (wI (wI s (b + 1) (11 * i + w) (d (w + 2))) (b + 1) (11 * i + (w + 2)) (d w)) (b + 1) (11 * i + 7) (((d 7 &&& ((y * 5) ^^^ (-1))) + ((d 7 &&& y) * 4)) + ((d 7 &&& (y * 4)) / 4))) := by
    unfold dm102_28
    rw [f7]
    simp only [bu_some]
    rw [show (7 : Int32) = Int32.ofNat 7 from rfl, d60 hn2 h8 hi (by omega)]
    rfl
  refine ⟨_, ?_, h2.set (by omega), (((ch.refl _ s).wI (by omega)).wI (by omega)).wI (by omega)⟩
  unfold dm102
  rw [e2, f1, f2]
  simp only [bu_some]
  rw [d60 hn h8 hi (by omega)]
  simp only [bu_some]
  rw [d60 hn1 h8 hi (by omega)]
  simp only [bu_some]
  rcases hw with ⟨rfl, rfl⟩ | ⟨rfl, rfl⟩
  · rw [if_pos (by decide)]
    exact p28
  · rw [if_neg (by decide)]
    exact p28
set_option maxRecDepth 100000 in
theorem d101 {s : aS} {b n i : Nat} {d : Nd} (hn : sI s b 2 = Int32.ofNat n) (h8 : n ≤ 128) (hi : i < n) (h : CR s b i d) : ∃ s', dm101 b (Int32.ofNat i) s = some s' ∧ CR s' b i (orC (orR d)) ∧ ch (fun a q => a = b + 1 ∧ 11 * i ≤ q ∧ q < 11 * i + 11) s s' := by
  have col : ∀ (s : aS) (d : Nd), sI s b 2 = Int32.ofNat n → CR s b i d → ∃ s', dm101_13 b (Int32.ofNat i) s = some s' ∧ CR s' b i (orC d) ∧ ch (fun a q => a = b + 1 ∧ 11 * i ≤ q ∧ q < 11 * i + 11) s s' := by
    intro s d hn h
    have f4 : dm57 b (Int32.ofNat i) 4 s = some (d 4) := (d57 (w := 4) hn h8 hi (by omega)).trans (by rw [h 4 (by omega)])
    have f6 : dm57 b (Int32.ofNat i) 6 s = some (d 6) := (d57 (w := 6) hn h8 hi (by omega)).trans (by rw [h 6 (by omega)])
    unfold dm101_13 orC
    rw [f4, f6]
    simp only [bu_some]
    by_cases q : d 4 ≤ d 6
    · rw [if_pos q, if_pos q]
      exact ⟨s, rfl, h, ch.refl _ s⟩
    · rw [if_neg q, if_neg q]
      obtain ⟨s', g1, g2, g3⟩ := d102 (w := 4) (y := 2) hn h8 hi h (Or.inr ⟨rfl, rfl⟩)
      have g1 : dm102 b (Int32.ofNat i) 4 s = some s' := g1
      rw [g1]
      exact ⟨s', rfl, g2, g3⟩
  have f3 : dm57 b (Int32.ofNat i) 3 s = some (d 3) := (d57 (w := 3) hn h8 hi (by omega)).trans (by rw [h 3 (by omega)])
  have f5 : dm57 b (Int32.ofNat i) 5 s = some (d 5) := (d57 (w := 5) hn h8 hi (by omega)).trans (by rw [h 5 (by omega)])
  unfold dm101 orR
  rw [f3, f5]
  simp only [bu_some]
  by_cases q : d 3 ≤ d 5
  · rw [if_pos q, if_pos q]
    exact col s d hn h
  · rw [if_neg q, if_neg q]
    obtain ⟨s', g1, g2, g3⟩ := d102 (w := 3) (y := 1) hn h8 hi h (Or.inl ⟨rfl, rfl⟩)
    have g1 : dm102 b (Int32.ofNat i) 3 s = some s' := g1
    rw [g1]
    simp only [bu_some]
    obtain ⟨s2, k1, k2, k3⟩ := col s' _ ((g3.i (by omega)).trans hn) g2
    exact ⟨s2, k1, k2, g3.trans k3⟩
end
section
/-! a node moved: both the same -/
set_option maxRecDepth 100000 in
noncomputable def mvC (r c : Int32) (d : Nd) : Nd :=
  if okW (cvW r c d 3) 3 = 0 then loF else
  if okW (cvW r c (setN d 3 (cvW r c d 3)) 4) 4 = 0 then loF else
  if okW (cvW r c (setN (setN d 3 (cvW r c d 3)) 4 (cvW r c (setN d 3 (cvW r c d 3)) 4)) 5) 5 = 0 then loF else
  if okW (cvW r c (setN (setN (setN d 3 (cvW r c d 3)) 4 (cvW r c (setN d 3 (cvW r c d 3)) 4)) 5 (cvW r c (setN (setN d 3 (cvW r c d 3)) 4 (cvW r c (setN d 3 (cvW r c d 3)) 4)) 5)) 6) 6 = 0 then loF else
  orC (orR (setN (setN (setN (setN d 3 (cvW r c d 3)) 4 (cvW r c (setN d 3 (cvW r c d 3)) 4)) 5 (cvW r c (setN (setN d 3 (cvW r c d 3)) 4 (cvW r c (setN d 3 (cvW r c d 3)) 4)) 5)) 6 (cvW r c (setN (setN (setN d 3 (cvW r c d 3)) 4 (cvW r c (setN d 3 (cvW r c d 3)) 4)) 5 (cvW r c (setN (setN d 3 (cvW r c d 3)) 4 (cvW r c (setN d 3 (cvW r c d 3)) 4)) 5)) 6)))
set_option maxRecDepth 100000 in
theorem okW_1 {v : Int32} {w : Nat} (h : ¬ okW v w = 0) : okW v w = 1 := (b01_01 _).resolve_left h
set_option maxRecDepth 100000 in
theorem d130 {s : aS} {b n i : Nat} {d : Nd} {r c : Int32} (hn : sI s b 2 = Int32.ofNat n) (h8 : n ≤ 128) (hi : i < n) (h : CR s b i d) : ∃ s', dm130 b (Int32.ofNat i) r c s = some s' ∧ CR s' b i (mvC r c d) ∧ ch (fun a q => a = b + 1 ∧ 11 * i ≤ q ∧ q < 11 * i + 11) s s' := by
  have lost : ∀ (k w : Nat) (s1 : aS), w < 100 → sI s1 b 2 = Int32.ofNat n → ch (fun a q => a = b + 1 ∧ 11 * i ≤ q ∧ q < 11 * i + 11) s s1 → ∃ s', dm130_4 (k + 1) b (Int32.ofNat i) r c 0 (Int32.ofNat w) s1 = some s' ∧ CR s' b i loF ∧ ch (fun a q => a = b + 1 ∧ 11 * i ≤ q ∧ q < 11 * i + 11) s s' := by
    intro k w s1 hw h1 hc
    obtain ⟨s', g1, g2, g3⟩ := d58 h1 h8 hi
    have e55 : dm130_55 b (Int32.ofNat i) 0 s1 = some s' := by
      unfold dm130_55
      rw [if_pos rfl, g1]
      rfl
    refine ⟨s', ?_, fun w hw => g2 w (by omega), hc.trans g3⟩
    rw [dm130_4, if_pos rfl, e55]
    split <;> rfl
  have st : ∀ (s1 : aS) (w : Nat) (v : Int32), w < 11 → sI s1 b 2 = Int32.ofNat n → ch (fun a q => a = b + 1 ∧ 11 * i ≤ q ∧ q < 11 * i + 11) s s1 → sI (wI s1 (b + 1) (11 * i + w) v) b 2 = Int32.ofNat n ∧ ch (fun a q => a = b + 1 ∧ 11 * i ≤ q ∧ q < 11 * i + 11) s (wI s1 (b + 1) (11 * i + w) v) := by
    intro s1 w v hw h1 hc
    exact ⟨(sI_wI _ _ _ _ _ _).trans ((if_neg (by omega)).trans h1), hc.wI (by omega)⟩
  unfold dm130 mvC
  rw [show dm130_4 5000 b (Int32.ofNat i) r c 1 3 s = dm130_4 (4999 + 1) b (Int32.ofNat i) r c 1 (Int32.ofNat 3) s from rfl, d130s hn h8 hi h (by omega)]
  obtain ⟨n1, c1⟩ := st s 3 (cvW r c d 3) (by omega) hn (ch.refl _ s)
  have h1 := h.set (w := 3) (v := cvW r c d 3) (by omega)
  by_cases q1 : okW (cvW r c d 3) 3 = 0
  · rw [if_pos q1, q1]
    exact lost 4998 4 _ (by omega) n1 c1
  · rw [if_neg q1, okW_1 q1]
    generalize setN d 3 (cvW r c d 3) = e1 at h1 ⊢
    generalize wI s (b + 1) (11 * i + 3) (cvW r c d 3) = s1 at h1 n1 c1 ⊢
    rw [show dm130_4 4999 b (Int32.ofNat i) r c 1 (Int32.ofNat (3 + 1)) s1 = dm130_4 (4998 + 1) b (Int32.ofNat i) r c 1 (Int32.ofNat 4) s1 from rfl, d130s n1 h8 hi h1 (by omega)]
    obtain ⟨n2, c2⟩ := st s1 4 (cvW r c e1 4) (by omega) n1 c1
    have h2 := h1.set (w := 4) (v := cvW r c e1 4) (by omega)
    by_cases q2 : okW (cvW r c e1 4) 4 = 0
    · rw [if_pos q2, q2]
      exact lost 4997 5 _ (by omega) n2 c2
    · rw [if_neg q2, okW_1 q2]
      generalize setN e1 4 (cvW r c e1 4) = e2 at h2 ⊢
      generalize wI s1 (b + 1) (11 * i + 4) (cvW r c e1 4) = s2 at h2 n2 c2 ⊢
      rw [show dm130_4 4998 b (Int32.ofNat i) r c 1 (Int32.ofNat (4 + 1)) s2 = dm130_4 (4997 + 1) b (Int32.ofNat i) r c 1 (Int32.ofNat 5) s2 from rfl, d130s n2 h8 hi h2 (by omega)]
      obtain ⟨n3, c3⟩ := st s2 5 (cvW r c e2 5) (by omega) n2 c2
      have h3 := h2.set (w := 5) (v := cvW r c e2 5) (by omega)
      by_cases q3 : okW (cvW r c e2 5) 5 = 0
      · rw [if_pos q3, q3]
        exact lost 4996 6 _ (by omega) n3 c3
      · rw [if_neg q3, okW_1 q3]
        generalize setN e2 5 (cvW r c e2 5) = e3 at h3 ⊢
        generalize wI s2 (b + 1) (11 * i + 5) (cvW r c e2 5) = s3 at h3 n3 c3 ⊢
        rw [show dm130_4 4997 b (Int32.ofNat i) r c 1 (Int32.ofNat (5 + 1)) s3 = dm130_4 (4996 + 1) b (Int32.ofNat i) r c 1 (Int32.ofNat 6) s3 from rfl, d130s n3 h8 hi h3 (by omega)]
        obtain ⟨n4, c4⟩ := st s3 6 (cvW r c e3 6) (by omega) n3 c3
        have h4 := h3.set (w := 6) (v := cvW r c e3 6) (by omega)
        by_cases q4 : okW (cvW r c e3 6) 6 = 0
        · rw [if_pos q4, q4]
          exact lost 4995 7 _ (by omega) n4 c4
        · rw [if_neg q4, okW_1 q4]
          generalize setN e3 6 (cvW r c e3 6) = e4 at h4 ⊢
          generalize wI s3 (b + 1) (11 * i + 6) (cvW r c e3 6) = s4 at h4 n4 c4 ⊢
          obtain ⟨s', g1, g2, g3⟩ := d101 n4 h8 hi h4
          refine ⟨s', ?_, g2, c4.trans g3⟩
          rw [show dm130_4 4996 b (Int32.ofNat i) r c 1 (Int32.ofNat (6 + 1)) s4 = dm130_4 (4995 + 1) b (Int32.ofNat i) r c 1 (Int32.ofNat 7) s4 from rfl, dm130_4, if_pos (by decide)]
          unfold dm130_55
          rw [if_neg (by decide), g1]
          rfl
/-- what holds of a cell or a range -/
def ndR (d : Nd) : Prop := (d 0 = 4 ∨ d 0 = 5) ∧ (0 ≤ (d 7).toInt ∧ (d 7).toInt ≤ 15) ∧ d 1 = 0 ∧ (d 0 = 4 → d 5 = d 3 ∧ d 6 = d 4)
set_option maxRecDepth 100000 in
theorem and_le0 {x y : Int32} (hx : 0 ≤ x.toInt ∧ x.toInt ≤ 15) (hy : y = 1 ∨ y = 2 ∨ y = 4 ∨ y = 8) : (x &&& y) ≤ 0 ↔ (x &&& y) = 0 := by
  have key : ∀ q : Fin 16, ∀ y ∈ [(1 : Int32), 2, 4, 8], (Int32.ofNat q.val &&& y) ≤ 0 ↔ (Int32.ofNat q.val &&& y) = 0 := by decide
  have := key ⟨x.toInt.toNat, by omega⟩ y (by rcases hy with rfl | rfl | rfl | rfl <;> decide)
  rw [← ofNat_of (x := x) hx.1] at this
  exact this
set_option maxRecDepth 100000 in
theorem exR {x : Int32} (hx : 0 ≤ x.toInt ∧ x.toInt ≤ 15) : ((x &&& ((1 * 5) ^^^ (-1))) + ((x &&& 1) * 4)) + ((x &&& (1 * 4)) / 4) = ((x &&& 10) ||| ((x &&& 1) <<< ((2 : Int32) &&& 31))) ||| ((x >>> ((2 : Int32) &&& 31)) &&& 1) ∧ 0 ≤ (((x &&& 10) ||| ((x &&& 1) <<< ((2 : Int32) &&& 31))) ||| ((x >>> ((2 : Int32) &&& 31)) &&& 1)).toInt ∧ (((x &&& 10) ||| ((x &&& 1) <<< ((2 : Int32) &&& 31))) ||| ((x >>> ((2 : Int32) &&& 31)) &&& 1)).toInt ≤ 15 := by
  have key : ∀ q : Fin 16, (((Int32.ofNat q.val &&& ((1 * 5) ^^^ (-1))) + ((Int32.ofNat q.val &&& 1) * 4)) + ((Int32.ofNat q.val &&& (1 * 4)) / 4) = ((Int32.ofNat q.val &&& 10) ||| ((Int32.ofNat q.val &&& 1) <<< ((2 : Int32) &&& 31))) ||| ((Int32.ofNat q.val >>> ((2 : Int32) &&& 31)) &&& 1)) ∧ 0 ≤ (((Int32.ofNat q.val &&& 10) ||| ((Int32.ofNat q.val &&& 1) <<< ((2 : Int32) &&& 31))) ||| ((Int32.ofNat q.val >>> ((2 : Int32) &&& 31)) &&& 1)).toInt ∧ (((Int32.ofNat q.val &&& 10) ||| ((Int32.ofNat q.val &&& 1) <<< ((2 : Int32) &&& 31))) ||| ((Int32.ofNat q.val >>> ((2 : Int32) &&& 31)) &&& 1)).toInt ≤ 15 := by decide +kernel
  have := key ⟨x.toInt.toNat, by omega⟩
  rw [← ofNat_of (x := x) hx.1] at this
  exact this
set_option maxRecDepth 100000 in
theorem exC {x : Int32} (hx : 0 ≤ x.toInt ∧ x.toInt ≤ 15) : ((x &&& ((2 * 5) ^^^ (-1))) + ((x &&& 2) * 4)) + ((x &&& (2 * 4)) / 4) = ((x &&& 5) ||| ((x &&& 2) <<< ((2 : Int32) &&& 31))) ||| ((x >>> ((2 : Int32) &&& 31)) &&& 2) := by
  have key : ∀ q : Fin 16, (((Int32.ofNat q.val &&& ((2 * 5) ^^^ (-1))) + ((Int32.ofNat q.val &&& 2) * 4)) + ((Int32.ofNat q.val &&& (2 * 4)) / 4) = ((Int32.ofNat q.val &&& 5) ||| ((Int32.ofNat q.val &&& 2) <<< ((2 : Int32) &&& 31))) ||| ((Int32.ofNat q.val >>> ((2 : Int32) &&& 31)) &&& 2)) := by decide +kernel
  have := key ⟨x.toInt.toNat, by omega⟩
  rw [← ofNat_of (x := x) hx.1] at this
  exact this
set_option maxRecDepth 100000 in
theorem or_eq {d : Nd} (h : 0 ≤ (d 7).toInt ∧ (d 7).toInt ≤ 15) : orC (orR d) = srC (srR d) := by
  have e1 : orR d = srR d := by
    unfold orR srR
    rw [(exR h).1]
  have h7 : 0 ≤ (srR d 7).toInt ∧ (srR d 7).toInt ≤ 15 := by
    unfold srR
    by_cases q : d 3 ≤ d 5
    · rw [if_pos q]; exact h
    · rw [if_neg q]
      exact (exR h).2
  rw [e1]
  unfold orC srC
  rw [exC h7]
end
section
/-! moved nodes are the same -/
set_option maxRecDepth 100000 in
theorem okW_0 {v : Int32} {w : Nat} : okW v w = 0 ↔ bey v (lastW w) := by
  unfold okW
  rw [b01_ne]
  exact ⟨fun q => Classical.byContradiction q, fun q z => z q⟩
set_option maxRecDepth 100000 in
theorem mv_1 {r c : Int32} {d : Nd} (h : 0 ≤ (d 7).toInt ∧ (d 7).toInt ≤ 15) : setN d 3 (cvW r c d 3) = mv1 r d := by
  unfold mv1 cvW
  have q := and_le0 (y := 1) h (Or.inl rfl)
  have b : bitC d 3 = 1 := rfl
  rw [b]
  by_cases z : (d 7 &&& 1) = 0
  · rw [if_pos z, if_pos (q.mpr z)]
    rfl
  · rw [if_neg z, if_neg (fun y => z (q.mp y))]
set_option maxRecDepth 100000 in
theorem mv_2 {r c : Int32} {d : Nd} (h : 0 ≤ (d 7).toInt ∧ (d 7).toInt ≤ 15) : setN d 4 (cvW r c d 4) = mv2 c d := by
  unfold mv2 cvW
  have q := and_le0 (y := 2) h (Or.inr (Or.inl rfl))
  have b : bitC d 4 = 2 := rfl
  rw [b]
  by_cases z : (d 7 &&& 2) = 0
  · rw [if_pos z, if_pos (q.mpr z)]
    rfl
  · rw [if_neg z, if_neg (fun y => z (q.mp y))]
set_option maxRecDepth 100000 in
theorem mv_3 {r c : Int32} {d : Nd} (h : 0 ≤ (d 7).toInt ∧ (d 7).toInt ≤ 15) (h4 : d 0 = 4 → d 3 = cvW r c d 5) : setN d 5 (cvW r c d 5) = mv3 r d := by
  unfold mv3
  by_cases k : d 0 = 4
  · rw [if_pos k, h4 k]
  · rw [if_neg k]
    unfold cvW
    have q := and_le0 (y := 4) h (Or.inr (Or.inr (Or.inl rfl)))
    have b : bitC d 5 = 4 := by
      show (if d 0 = 4 then (1 : Int32) else 4) = 4
      rw [if_neg k]
    rw [b]
    by_cases z : (d 7 &&& 4) = 0
    · rw [if_pos z, if_pos (q.mpr z)]
      rfl
    · rw [if_neg z, if_neg (fun y => z (q.mp y))]
set_option maxRecDepth 100000 in
theorem mv_4 {r c : Int32} {d : Nd} (h : 0 ≤ (d 7).toInt ∧ (d 7).toInt ≤ 15) (h4 : d 0 = 4 → d 4 = cvW r c d 6) : setN d 6 (cvW r c d 6) = mv4 c d := by
  unfold mv4
  by_cases k : d 0 = 4
  · rw [if_pos k, h4 k]
  · rw [if_neg k]
    unfold cvW
    have q := and_le0 (y := 8) h (Or.inr (Or.inr (Or.inr rfl)))
    have b : bitC d 6 = 8 := by
      show (if d 0 = 4 then (2 : Int32) else 8) = 8
      rw [if_neg k]
    rw [b]
    by_cases z : (d 7 &&& 8) = 0
    · rw [if_pos z, if_pos (q.mpr z)]
      rfl
    · rw [if_neg z, if_neg (fun y => z (q.mp y))]
set_option maxRecDepth 100000 in
theorem lo_eq {d : Nd} (h : d 1 = 0) : loM d = loF := by
  funext w
  unfold loM
  by_cases q : w = 1
  · rw [if_pos q, h, q]
    rfl
  · rw [if_neg q]
set_option maxRecDepth 100000 in
theorem setN_s {d : Nd} {w : Nat} {v : Int32} : setN d w v w = v := if_pos rfl
set_option maxRecDepth 100000 in
theorem setN_n {d : Nd} {w k : Nat} {v : Int32} (h : k ≠ w) : setN d w v k = d k := if_neg h
set_option maxRecDepth 100000 in
theorem mv1_n {r : Int32} {d : Nd} {k : Nat} (h : k ≠ 3) : mv1 r d k = d k := setN_n h
set_option maxRecDepth 100000 in
theorem mv2_n {c : Int32} {d : Nd} {k : Nat} (h : k ≠ 4) : mv2 c d k = d k := setN_n h
set_option maxRecDepth 100000 in
theorem mv3_n {r : Int32} {d : Nd} {k : Nat} (h : k ≠ 5) : mv3 r d k = d k := setN_n h
set_option maxRecDepth 100000 in
theorem mv4_n {c : Int32} {d : Nd} {k : Nat} (h : k ≠ 6) : mv4 c d k = d k := setN_n h
set_option maxRecDepth 100000 in
theorem last3 : lastW 3 = 1048576 := if_pos (Or.inl rfl)
set_option maxRecDepth 100000 in
theorem last4 : lastW 4 = 16384 := if_neg (by omega)
set_option maxRecDepth 100000 in
theorem last5 : lastW 5 = 1048576 := if_pos (Or.inr rfl)
set_option maxRecDepth 100000 in
theorem last6 : lastW 6 = 16384 := if_neg (by omega)
set_option maxRecDepth 100000 in
theorem mv_end {d e : Nd} (o1 : e 1 = 0) (o7 : 0 ≤ (e 7).toInt ∧ (e 7).toInt ≤ 15) (o0 : e 0 = d 0) (c53 : d 0 = 4 → e 5 = e 3) (c64 : d 0 = 4 → e 6 = e 4) : (if okW (e 3) 3 = 0 then loF else if okW (e 4) 4 = 0 then loF else if okW (e 5) 5 = 0 then loF else if okW (e 6) 6 = 0 then loF else orC (orR e)) = mvE e := by
  have z3 := okW_0 (v := e 3) (w := 3)
  have z4 := okW_0 (v := e 4) (w := 4)
  have z5 := okW_0 (v := e 5) (w := 5)
  have z6 := okW_0 (v := e 6) (w := 6)
  rw [last3] at z3
  rw [last4] at z4
  rw [last5] at z5
  rw [last6] at z6
  have hB : mvB e ↔ bey (e 3) 1048576 ∨ bey (e 5) 1048576 ∨ bey (e 4) 16384 ∨ bey (e 6) 16384 := Iff.rfl
  unfold mvE
  generalize mvB e = B at hB ⊢
  generalize bey (e 3) 1048576 = p3 at z3 hB
  generalize bey (e 4) 16384 = p4 at z4 hB
  generalize bey (e 5) 1048576 = p5 at z5 hB
  generalize bey (e 6) 16384 = p6 at z6 hB
  by_cases q3 : p3
  · rw [if_pos (z3.mpr q3), b01_t (hB.mpr (Or.inl q3)), if_pos rfl, lo_eq o1]
  · rw [if_neg (fun z => q3 (z3.mp z))]
    by_cases q4 : p4
    · rw [if_pos (z4.mpr q4), b01_t (hB.mpr (Or.inr (Or.inr (Or.inl q4)))), if_pos rfl, lo_eq o1]
    · rw [if_neg (fun z => q4 (z4.mp z))]
      by_cases q5 : p5
      · rw [if_pos (z5.mpr q5), b01_t (hB.mpr (Or.inr (Or.inl q5))), if_pos rfl, lo_eq o1]
      · rw [if_neg (fun z => q5 (z5.mp z))]
        by_cases q6 : p6
        · rw [if_pos (z6.mpr q6), b01_t (hB.mpr (Or.inr (Or.inr (Or.inr q6)))), if_pos rfl, lo_eq o1]
        · rw [if_neg (fun z => q6 (z6.mp z))]
          have hN : ¬ B := fun z => by
            rcases hB.mp z with q | q | q | q
            · exact q3 q
            · exact q5 q
            · exact q4 q
            · exact q6 q
          rw [b01_f hN, if_neg (by decide)]
          by_cases k : d 0 = 4
          · rw [if_pos (o0.trans k)]
            unfold orC orR
            rw [if_pos (show e 3 ≤ e 5 by rw [c53 k, iLe]; exact Int.le_refl _), if_pos (show e 4 ≤ e 6 by rw [c64 k, iLe]; exact Int.le_refl _)]
          · rw [if_neg (fun z => k (o0.symm.trans z)), or_eq o7]
set_option maxRecDepth 100000 in
theorem mv_k5 {r c : Int32} {d : Nd} (h7 : 0 ≤ (d 7).toInt ∧ (d 7).toInt ≤ 15) (k : d 0 = 4) (h : d 5 = d 3) : mv2 c (mv1 r d) 3 = cvW r c (mv2 c (mv1 r d)) 5 := by
  have b : bitC (mv2 c (mv1 r d)) 5 = 1 := by
    unfold bitC
    rw [if_neg (by omega), if_neg (by omega), if_pos rfl, mv2_n (by omega), mv1_n (by omega), if_pos k]
  have q := and_le0 (y := 1) h7 (Or.inl rfl)
  unfold cvW
  rw [b, mv2_n (by omega), mv2_n (by omega), mv2_n (by omega), mv1_n (k := 7) (by omega), mv1_n (k := 5) (by omega), h, if_pos (show 5 = 3 ∨ 5 = 5 from Or.inr rfl)]
  unfold mv1
  rw [setN_s]
  by_cases z : (d 7 &&& 1) = 0
  · rw [if_pos z, if_pos (q.mpr z)]
  · rw [if_neg z, if_neg (fun y => z (q.mp y))]
set_option maxRecDepth 100000 in
theorem mv_k6 {r c : Int32} {d : Nd} (h7 : 0 ≤ (d 7).toInt ∧ (d 7).toInt ≤ 15) (k : d 0 = 4) (h : d 6 = d 4) : mv3 r (mv2 c (mv1 r d)) 4 = cvW r c (mv3 r (mv2 c (mv1 r d))) 6 := by
  have b : bitC (mv3 r (mv2 c (mv1 r d))) 6 = 2 := by
    unfold bitC
    rw [if_neg (by omega), if_neg (by omega), if_neg (by omega), mv3_n (by omega), mv2_n (by omega), mv1_n (by omega), if_pos k]
  have q := and_le0 (y := 2) h7 (Or.inr (Or.inl rfl))
  unfold cvW
  rw [b, mv3_n (by omega), mv3_n (by omega), mv3_n (by omega), mv2_n (k := 7) (by omega), mv2_n (k := 6) (by omega), mv1_n (k := 7) (by omega), mv1_n (k := 6) (by omega), h, if_neg (show ¬ (6 = 3 ∨ 6 = 5) by omega)]
  unfold mv2
  rw [setN_s, mv1_n (k := 7) (by omega), mv1_n (k := 4) (by omega)]
  by_cases z : (d 7 &&& 2) = 0
  · rw [if_pos z, if_pos (q.mpr z)]
  · rw [if_neg z, if_neg (fun y => z (q.mp y))]
set_option maxRecDepth 100000 in
theorem mv_c53 {r c : Int32} {d : Nd} (k : d 0 = 4) : mv4 c (mv3 r (mv2 c (mv1 r d))) 5 = mv4 c (mv3 r (mv2 c (mv1 r d))) 3 := by
  rw [mv4_n (by omega), mv4_n (by omega), mv3_n (k := 3) (by omega)]
  unfold mv3
  rw [setN_s, if_pos]
  rw [mv2_n (by omega), mv1_n (by omega)]
  exact k
set_option maxRecDepth 100000 in
theorem mv_c64 {r c : Int32} {d : Nd} (k : d 0 = 4) : mv4 c (mv3 r (mv2 c (mv1 r d))) 6 = mv4 c (mv3 r (mv2 c (mv1 r d))) 4 := by
  rw [mv4_n (k := 4) (by omega)]
  unfold mv4
  rw [setN_s, if_pos]
  rw [mv3_n (by omega), mv2_n (by omega), mv1_n (by omega)]
  exact k
set_option maxRecDepth 100000 in
theorem mv_eq {r c : Int32} {d : Nd} (h : ndR d) : mvC r c d = mvM r c d := by
  obtain ⟨hk, h7, h1, h4⟩ := h
  have e71 : (mv1 r d) 7 = d 7 := mv1_n (by omega)
  have e72 : (mv2 c (mv1 r d)) 7 = d 7 := (mv2_n (by omega)).trans e71
  have e73 : (mv3 r (mv2 c (mv1 r d))) 7 = d 7 := (mv3_n (by omega)).trans e72
  have e74 : (mv4 c (mv3 r (mv2 c (mv1 r d)))) 7 = d 7 := (mv4_n (by omega)).trans e73
  have e01 : (mv1 r d) 0 = d 0 := mv1_n (by omega)
  have e02 : (mv2 c (mv1 r d)) 0 = d 0 := (mv2_n (by omega)).trans e01
  have e03 : (mv3 r (mv2 c (mv1 r d))) 0 = d 0 := (mv3_n (by omega)).trans e02
  have e04 : (mv4 c (mv3 r (mv2 c (mv1 r d)))) 0 = d 0 := (mv4_n (by omega)).trans e03
  have a1 := mv_1 (r := r) (c := c) h7
  have v3 : cvW r c d 3 = mv1 r d 3 := by rw [← a1, setN_s]
  have a2 := mv_2 (r := r) (c := c) (d := mv1 r d) (by rw [e71]; exact h7)
  have v4 : cvW r c (mv1 r d) 4 = mv2 c (mv1 r d) 4 := by rw [← a2, setN_s]
  have a3 := mv_3 (r := r) (c := c) (d := mv2 c (mv1 r d)) (by rw [e72]; exact h7) (fun k => mv_k5 h7 (e02.symm.trans k) (h4 (e02.symm.trans k)).1)
  have v5 : cvW r c (mv2 c (mv1 r d)) 5 = mv3 r (mv2 c (mv1 r d)) 5 := by rw [← a3, setN_s]
  have a4 := mv_4 (r := r) (c := c) (d := mv3 r (mv2 c (mv1 r d))) (by rw [e73]; exact h7) (fun k => mv_k6 h7 (e03.symm.trans k) (h4 (e03.symm.trans k)).2)
  have v6 : cvW r c (mv3 r (mv2 c (mv1 r d))) 6 = mv4 c (mv3 r (mv2 c (mv1 r d))) 6 := by rw [← a4, setN_s]
  have o5 : mv4 c (mv3 r (mv2 c (mv1 r d))) 5 = mv3 r (mv2 c (mv1 r d)) 5 := mv4_n (by omega)
  have o4 : mv4 c (mv3 r (mv2 c (mv1 r d))) 4 = mv2 c (mv1 r d) 4 := (mv4_n (by omega)).trans (mv3_n (by omega))
  have o3 : mv4 c (mv3 r (mv2 c (mv1 r d))) 3 = mv1 r d 3 := (mv4_n (by omega)).trans ((mv3_n (by omega)).trans (mv2_n (by omega)))
  have o1 : mv4 c (mv3 r (mv2 c (mv1 r d))) 1 = 0 := (mv4_n (by omega)).trans ((mv3_n (by omega)).trans ((mv2_n (by omega)).trans ((mv1_n (by omega)).trans h1)))
  unfold mvC mvM
  rw [a1, a2, a3, a4, v3, v4, v5, v6, ← o5, ← o4, ← o3]
  exact mv_end o1 (by rw [e74]; exact h7) e04 mv_c53 mv_c64
end
section
/-! all nodes of a formula moved -/
def isRf (d : Nd) : Prop := d 0 = 4 ∨ d 0 = 5
set_option maxRecDepth 100000 in
theorem d129 {s : aS} {b n i : Nat} {d : Nd} (hn : sI s b 2 = Int32.ofNat n) (h8 : n ≤ 128) (hi : i < n) (h : CR s b i d) : dm129 b (Int32.ofNat i) s = some (b01 (isRf d)) := by
  have f0 : dm57 b (Int32.ofNat i) 0 s = some (d 0) := (d57 (w := 0) hn h8 hi (by omega)).trans (by rw [h 0 (by omega)])
  unfold dm129 dm129_12
  rw [f0]
  simp only [bu_some]
  by_cases c4 : d 0 = 4
  · rw [if_pos c4, b01_t (show isRf d from Or.inl c4)]
  · rw [if_neg c4]
    by_cases c5 : d 0 = 5
    · rw [if_pos c5, b01_t (show isRf d from Or.inr c5)]
    · rw [if_neg c5, b01_f (p := isRf d)]
      rintro (q | q)
      · exact c4 q
      · exact c5 q
set_option maxRecDepth 100000 in
/-- a change of the nodes that are cells or ranges -/
noncomputable def onRf (g : Nd → Nd) (d : Nd) : Nd := if b01 (isRf d) = 0 then d else g d
set_option maxRecDepth 100000 in
theorem onRf_t {g : Nd → Nd} {d : Nd} (h : isRf d) : onRf g d = g d := by
  unfold onRf
  rw [b01_t h, if_neg (by decide)]
set_option maxRecDepth 100000 in
theorem onRf_f {g : Nd → Nd} {d : Nd} (h : ¬ isRf d) : onRf g d = d := by
  unfold onRf
  rw [b01_f h, if_pos rfl]
set_option maxRecDepth 100000 in
theorem TF9.row {s : aS} {b n i : Nat} {F : Nat → Nd} (h : TF9 s b n F) (hi : i < n) : CR s b i (F i) := fun w hw => h.2.2 i hi w hw
set_option maxRecDepth 100000 in
theorem d128l {b n : Nat} {r c : Int32} {F : Nat → Nd} : ∀ (m j k : Nat) (s : aS), j + m = n → m < k → TF9 s b n (fun i => if i < j then onRf (mvC r c) (F i) else F i) → ∃ s', dm128_2 k b r c (Int32.ofNat j) s = some s' ∧ TF9 s' b n (fun i => onRf (mvC r c) (F i)) ∧ ch (fun a _ => a = b + 1) s s' := by
  intro m
  induction m with
  | zero =>
    intro j k s hj hk h
    obtain ⟨k, rfl⟩ : ∃ q, k = q + 1 := ⟨k - 1, by omega⟩
    have h8 := h.2.1
    rw [dm128_2, h.1, if_pos (by rw [iLe, iOfNat (by omega), iOfNat (by omega)]; omega)]
    exact ⟨s, rfl, h.cg fun i hi w hw => by show (if i < j then onRf (mvC r c) (F i) else F i) w = _; rw [if_pos (by omega)], ch.refl _ s⟩
  | succ m ih =>
    intro j k s hj hk h
    obtain ⟨k, rfl⟩ : ∃ q, k = q + 1 := ⟨k - 1, by omega⟩
    have h8 := h.2.1
    have hr : CR s b j (F j) := by
      have := h.row (i := j) (by omega)
      have : CR s b j (if j < j then onRf (mvC r c) (F j) else F j) := this
      rw [if_neg (by omega)] at this
      exact this
    rw [dm128_2, h.1, if_neg (by rw [iLe, iOfNat (by omega), iOfNat (by omega)]; omega), d129 h.1 h8 (by omega) hr]
    simp only [bu_some]
    unfold dm128_15
    rw [ofNat_succ (by omega)]
    have next : ∀ s1, TF9 s1 b n (fun i => if i = j then onRf (mvC r c) (F j) else if i < j then onRf (mvC r c) (F i) else F i) → ch (fun a _ => a = b + 1) s s1 → ∃ s', dm128_2 k b r c (Int32.ofNat (j + 1)) s1 = some s' ∧ TF9 s' b n (fun i => onRf (mvC r c) (F i)) ∧ ch (fun a _ => a = b + 1) s s' := by
      intro s1 t1 c1
      obtain ⟨s', a1, a2, a3⟩ := ih (j + 1) k s1 (by omega) (by omega) (t1.cg fun i hi w hw => by
        show (if i = j then onRf (mvC r c) (F j) else if i < j then onRf (mvC r c) (F i) else F i) w = (if i < j + 1 then onRf (mvC r c) (F i) else F i) w
        by_cases e : i = j
        · subst e
          rw [if_pos rfl, if_pos (by omega)]
        · rw [if_neg e]
          by_cases e2 : i < j
          · rw [if_pos e2, if_pos (by omega)]
          · rw [if_neg e2, if_neg (by omega)])
      exact ⟨s', a1, a2, c1.trans a3⟩
    by_cases q : isRf (F j)
    · rw [b01_t q, if_neg (by decide)]
      obtain ⟨s1, g1, g2, g3⟩ := d130 (r := r) (c := c) h.1 h8 (by omega : j < n) hr
      rw [g1]
      simp only [bu_some]
      refine next s1 (h.up (g := onRf (mvC r c) (F j)) (by omega) (fun w hw => ?_) g3) (g3.mono fun a q z => z.1)
      rw [onRf_t q]
      exact g2 w hw
    · rw [b01_f q, if_pos rfl]
      refine next s (h.cg fun i hi w hw => ?_) (ch.refl _ s)
      show (if i < j then onRf (mvC r c) (F i) else F i) w = (if i = j then onRf (mvC r c) (F j) else if i < j then onRf (mvC r c) (F i) else F i) w
      by_cases e : i = j
      · subst e
        rw [if_neg (by omega), if_pos rfl, onRf_f q]
      · rw [if_neg e]
set_option maxRecDepth 100000 in
theorem d128 {s : aS} {b : Nat} {L : List Nd} {r c : Int32} (h : TC s b L) : ∃ s', dm128 b r c s = some s' ∧ TC s' b (L.map (onRf (mvC r c))) ∧ ch (fun a _ => a = b + 1) s s' := by
  have h8 := h.2.1
  obtain ⟨s', g1, g2, g3⟩ := d128l (b := b) (r := r) (c := c) (F := fun i => L.getD i (fun _ => 0)) L.length 0 5000 s (by omega) (by omega) (h.f.cg fun i hi w hw => by
    show L.getD i (fun _ => 0) w = (if i < 0 then _ else L.getD i (fun _ => 0)) w
    rw [if_neg (by omega)])
  refine ⟨s', g1, g2.c (by rw [List.length_map]) fun i hi w hw => ?_, g3⟩
  rw [List.length_map] at hi
  show onRf (mvC r c) (L.getD i (fun _ => 0)) w = _
  rw [List.getElem_map, List.getD, List.getElem?_eq_getElem hi]
  rfl
/-- letters of a tree -/
def TL (s : aS) (b : Nat) (u : List Int32) : Prop := LT s (b + 2) u ∧ u.length ≤ 256 ∧ okT u
set_option maxRecDepth 100000 in
theorem sI_cp (s : aS) (q sp d dp n a k : Nat) : sI (cpI s q sp d dp n) a k = if a = d ∧ dp ≤ k ∧ k < dp + n then sI s q (sp + (k - dp)) else sI s a k := rfl
set_option maxRecDepth 100000 in
theorem ch_cp {A : Nat → Nat → Prop} {s0 s : aS} {q sp d dp n : Nat} (h : ch A s0 s) (hd : ∀ k, A d k) : ch A s0 (cpI s q sp d dp n) := ⟨h.1, h.2.1, fun a k ha => ⟨(if_neg (fun (z : a = d ∧ dp ≤ k ∧ k < dp + n) => ha (by rw [z.1]; exact hd k))).trans (h.2.2 a k ha).1, (h.2.2 a k ha).2⟩⟩
set_option maxRecDepth 100000 in
/-- a tree becomes another -/
theorem d127 {tt : Nat} {cc : Nat → Nat → Int32} {s : aS} {b c : Nat} {L : List Nd} {u : List Int32} (hl : Ly tt cc s) (hb : aK s b 3) (hc : aK s c 3) (hbc : b ≠ c) (h : TC s c L) (hu : TL s c u) : ∃ s', dm127 b c s = some s' ∧ TC s' b L ∧ TL s' b u ∧ ch (fun a _ => a = b ∨ a = b + 1 ∨ a = b + 2 ∨ a = b + 3) s s' := by
  have ap := tr_ne hl hb hc hbc
  have b3 := (hl.tr hb).2.2.2.2.2.2.1
  have c3 := (hl.tr hc).2.2.2.2.2.2.1
  have b0 := (hl.tr hb).1
  have j0 : jN 0 = 0 := rfl
  have j1 : jN 1408 = 1408 := rfl
  have n1 : b ≠ c + 1 := by
    rintro e
    have := (hl.tr hc).2.2.2.2.1
    rw [← e, b0] at this
    cases this
  have n2 : b ≠ c + 2 := by
    rintro e
    have := (hl.tr hc).2.2.2.2.2.1
    rw [← e, b0] at this
    cases this
  have n3 : b ≠ c + 3 := by
    rintro e
    rw [← e, b0] at c3
    cases c3
  have hc1 : ch (fun a _ => a = b ∨ a = b + 1 ∨ a = b + 2 ∨ a = b + 3) s (cpI (wI s b 2 (sI s c 2)) (c + 1) 0 (b + 1) 0 1408) := ch_cp ((ch.refl _ s).wI (Or.inl rfl)) (fun _ => Or.inr (Or.inl rfl))
  have hu1 : LT (cpI (wI s b 2 (sI s c 2)) (c + 1) 0 (b + 1) 0 1408) (c + 2) u := hu.1.of hc1 (by omega) (fun _ => by omega)
  obtain ⟨s', g1, g2, g3⟩ := d41 (b0 := b + 2) (m := 256) hu1 (by omega) (by rw [hc1.2.1, show b + 2 + 1 = b + 3 from rfl, b3]) (by rw [hc1.2.1, show c + 2 + 1 = c + 3 from rfl, c3]; exact hu.2.1) (by decide) hu.2.1 hu.2.2
  refine ⟨s', ?_, ⟨?_, h.2.1, fun i hi w hw => ?_⟩, ⟨g2, hu.2⟩, hc1.trans (g3.mono fun a k q => by omega)⟩
  · unfold dm127
    rw [nx_eq, if_pos ⟨by omega, by decide, by decide, by decide, by decide, by decide⟩, nx_eq, j0, j1, g1]
    rfl
  · rw [g3.i (by omega), sI_cp, if_neg (by omega), sI_wI, if_pos ⟨rfl, rfl⟩]
    exact h.1
  · have h8 := h.2.1
    rw [g3.i (by omega), sI_cp, if_pos ⟨rfl, by omega, by omega⟩, Nat.zero_add, Nat.sub_zero, sI_wI, if_neg (by omega)]
    exact h.2.2 i hi w hw
end
section
/-! the reference: nodes copied and moved -/
set_option maxRecDepth 100000 in
theorem d223 {s : aS} {p q : Nat} {d : Nd} (hp : p < 1152) (hq : q < 1152) (h : RI s p d) : ∃ s', dm223 (Int32.ofNat p) (Int32.ofNat q) s = some s' ∧ RI s' q d ∧ ch (fun a k => (128 ≤ a ∧ a ≤ 138) ∧ k = q) s s' := by
  have hbp : aB (Int32.ofNat p) 1152 := by rw [aB_iff, iOfNat (by omega)]; omega
  have hbq : aB (Int32.ofNat q) 1152 := by rw [aB_iff, iOfNat (by omega)]; omega
  have ejp : jN (Int32.ofNat p) = p := jN_of (by omega)
  have ejq : jN (Int32.ofNat q) = q := jN_of (by omega)
  have r0 : sI s 128 p = d 0 := h 0 (by omega)
  have r1 : sI s 129 p = d 1 := h 1 (by omega)
  have r2 : sI s 130 p = d 2 := h 2 (by omega)
  have r3 : sI s 131 p = d 3 := h 3 (by omega)
  have r4 : sI s 132 p = d 4 := h 4 (by omega)
  have r5 : sI s 133 p = d 5 := h 5 (by omega)
  have r6 : sI s 134 p = d 6 := h 6 (by omega)
  have r7 : sI s 135 p = d 7 := h 7 (by omega)
  have r8 : sI s 136 p = d 8 := h 8 (by omega)
  unfold dm223
  simp only [if_pos hbp, if_pos hbq, nx_eq, ejp, ejq]
  refine ⟨_, rfl, fun w hw => ?_, (((((((((((ch.refl _ s).wI (by omega)).wI (by omega)).wI (by omega)).wI (by omega)).wI (by omega)).wI (by omega)).wI (by omega)).wI (by omega)).wI (by omega)).wI (by omega)).wI (by omega)⟩
  match w, hw with
  | 0, _ => simp [sI_wI, r0]
  | 1, _ => simp [sI_wI, r1]
  | 2, _ => simp [sI_wI, r2]
  | 3, _ => simp [sI_wI, r3]
  | 4, _ => simp [sI_wI, r4]
  | 5, _ => simp [sI_wI, r5]
  | 6, _ => simp [sI_wI, r6]
  | 7, _ => simp [sI_wI, r7]
  | 8, _ => simp [sI_wI, r8]
set_option maxRecDepth 100000 in
theorem RI.of {A : Nat → Nat → Prop} {s s1 : aS} {p : Nat} {d : Nd} (h : RI s p d) (g : ch A s s1) (hA : ∀ a, ¬ A a p) : RI s1 p d := fun w hw => (g.i (hA _)).trans (h w hw)
set_option maxRecDepth 100000 in
theorem d224l {f g n : Nat} {r c ho : Int32} {F : Nat → Nd} (hf : f < 8) (hg : g < 8) (h8 : n ≤ 128) : ∀ (m j k : Nat) (s : aS), j + m = n → m < k → sI s 127 f = Int32.ofNat n → (∀ i, j ≤ i → i < n → RI s (128 * f + i) (F i)) → (∀ i, i < j → RI s (128 * g + i) (onRf (mvM r c) (F i))) → ∃ s', dm224_44 k (Int32.ofNat f) r c ho (Int32.ofNat g) (Int32.ofNat j) s = dm224_85 5000 (Int32.ofNat f) ho (Int32.ofNat g) 0 s' ∧ (∀ i, i < n → RI s' (128 * g + i) (onRf (mvM r c) (F i))) ∧ ch (fun a q => (128 ≤ a ∧ a ≤ 138) ∧ 128 * g ≤ q ∧ q < 128 * g + n) s s' := by
  intro m
  induction m with
  | zero =>
    intro j k s hj hk h1 h2 h3
    obtain ⟨k, rfl⟩ : ∃ q, k = q + 1 := ⟨k - 1, by omega⟩
    rw [dm224_44, if_pos (by rw [aB_iff, iOfNat (by omega)]; omega), jN_of (i := f) (by omega), h1, if_pos (by rw [iLe, iOfNat (by omega), iOfNat (by omega)]; omega)]
    exact ⟨s, rfl, fun i hi => h3 i (by omega), ch.refl _ s⟩
  | succ m ih =>
    intro j k s hj hk h1 h2 h3
    obtain ⟨k, rfl⟩ : ∃ q, k = q + 1 := ⟨k - 1, by omega⟩
    obtain ⟨s1, g1, g2, g3⟩ := d223 (p := 128 * f + j) (q := 128 * g + j) (by omega) (by omega) (h2 j (by omega) (by omega))
    have hq : aB (Int32.ofNat (128 * g + j)) 1152 := by rw [aB_iff, iOfNat (by omega)]; omega
    have eq9 : jN (Int32.ofNat (128 * g + j)) = 128 * g + j := jN_of (by omega)
    have e0 : sI s1 128 (128 * g + j) = F j 0 := g2 0 (by omega)
    rw [dm224_44, if_pos (by rw [aB_iff, iOfNat (by omega)]; omega), jN_of (i := f) (by omega), h1, if_neg (by rw [iLe, iOfNat (by omega), iOfNat (by omega)]; omega), i128 (by omega) (by omega), i128 (by omega) (by omega), g1]
    simp only [bu_some, if_pos hq, eq9, e0]
    unfold dm224_76 dm224_81
    rw [ofNat_succ (by omega)]
    have next : ∀ s2, RI s2 (128 * g + j) (onRf (mvM r c) (F j)) → ch (fun a q => (128 ≤ a ∧ a ≤ 138) ∧ q = 128 * g + j) s s2 → ∃ s', dm224_44 k (Int32.ofNat f) r c ho (Int32.ofNat g) (Int32.ofNat (j + 1)) s2 = dm224_85 5000 (Int32.ofNat f) ho (Int32.ofNat g) 0 s' ∧ (∀ i, i < n → RI s' (128 * g + i) (onRf (mvM r c) (F i))) ∧ ch (fun a q => (128 ≤ a ∧ a ≤ 138) ∧ 128 * g ≤ q ∧ q < 128 * g + n) s s' := by
      intro s2 t1 t2
      obtain ⟨s', a1, a2, a3⟩ := ih (j + 1) k s2 (by omega) (by omega) ((t2.i (by omega)).trans h1) (fun i hi hin => (h2 i (by omega) hin).of t2 (fun a => by omega)) (fun i hi => by
        by_cases e : i = j
        · subst e
          exact t1
        · exact (h3 i (by omega)).of t2 (fun a => by omega))
      exact ⟨s', a1, a2, (t2.mono fun a q z => by omega).trans a3⟩
    have moved : isRf (F j) → ∃ s', (bu (dm226 (Int32.ofNat (128 * g + j)) r c s1) fun s3 => dm224_44 k (Int32.ofNat f) r c ho (Int32.ofNat g) (Int32.ofNat (j + 1)) s3) = dm224_85 5000 (Int32.ofNat f) ho (Int32.ofNat g) 0 s' ∧ (∀ i, i < n → RI s' (128 * g + i) (onRf (mvM r c) (F i))) ∧ ch (fun a q => (128 ≤ a ∧ a ≤ 138) ∧ 128 * g ≤ q ∧ q < 128 * g + n) s s' := by
      intro hr
      obtain ⟨s2, k1, k2, k3⟩ := d226 (p := 128 * g + j) (by omega) g2 r c
      rw [k1]
      exact next s2 (by rw [onRf_t hr]; exact k2) (g3.trans (k3.mono fun a q z => by omega))
    by_cases c4 : F j 0 = 4
    · rw [if_pos c4]
      exact moved (Or.inl c4)
    · rw [if_neg c4]
      by_cases c5 : F j 0 = 5
      · rw [if_pos c5]
        exact moved (Or.inr c5)
      · rw [if_neg c5]
        exact next s1 (by
          rw [onRf_f]
          · exact g2
          · rintro (q | q)
            · exact c4 q
            · exact c5 q) g3
set_option maxRecDepth 100000 in
theorem i256 {f i : Nat} (hf : f < 10000) (hi : i < 100000) : (256 * Int32.ofNat f) + Int32.ofNat i = Int32.ofNat (256 * f + i) := by
  have e1 : (Int32.ofNat f).toInt = f := iOfNat (by omega)
  have e2 : (Int32.ofNat i).toInt = i := iOfNat (by omega)
  have e3 : (256 * Int32.ofNat f).toInt = 256 * f := by
    rw [iMul (x := 256) (by rw [e1]; show _ ≤ (256 : Int) * f; omega) (by rw [e1]; show (256 : Int) * f ≤ _; omega), e1]
    rfl
  apply Int32.toInt_inj.mp
  rw [iAdd (by rw [e3, e2]; omega) (by rw [e3, e2]; omega), e3, e2, iOfNat (by omega)]
  omega
set_option maxRecDepth 100000 in
theorem d224t {f g : Nat} {ho : Int32} (hf : f < 8) (hg : g < 8) : ∀ (m j k : Nat) (s : aS), j + m = 256 → m < k → ∃ s', dm224_85 k (Int32.ofNat f) ho (Int32.ofNat g) (Int32.ofNat j) s = some s' ∧ sI s' 127 g = sI s 127 f ∧ sI s' 125 g = 1 ∧ sI s' 126 g = ho ∧ (∀ q, q < 256 → j ≤ q → sI s' 139 (256 * g + q) = sI s 139 (256 * f + q)) ∧ ch (fun a q => ((a = 125 ∨ a = 126 ∨ a = 127) ∧ q = g) ∨ (a = 139 ∧ 256 * g + j ≤ q ∧ q < 256 * g + 256)) s s' := by
  intro m
  induction m with
  | zero =>
    intro j k s hj hk
    obtain ⟨k, rfl⟩ : ∃ q, k = q + 1 := ⟨k - 1, by omega⟩
    have ef : jN (Int32.ofNat f) = f := jN_of (by omega)
    have eg : jN (Int32.ofNat g) = g := jN_of (by omega)
    have bf : aB (Int32.ofNat f) 9 := by rw [aB_iff, iOfNat (by omega)]; omega
    have bg9 : aB (Int32.ofNat g) 9 := by rw [aB_iff, iOfNat (by omega)]; omega
    have bg8 : aB (Int32.ofNat g) 8 := by rw [aB_iff, iOfNat (by omega)]; omega
    rw [dm224_85, if_pos (by rw [iLe, iOfNat (by omega)]; show (256 : Int) ≤ j; omega)]
    simp only [if_pos bf, if_pos bg9, if_pos bg8, nx_eq, ef, eg]
    refine ⟨_, rfl, ?_, ?_, ?_, fun q h1 h2 => by omega, (((ch.refl _ s).wI (by omega)).wI (by omega)).wI (by omega)⟩
    · simp [sI_wI]
    · simp [sI_wI]
    · simp [sI_wI]
  | succ m ih =>
    intro j k s hj hk
    obtain ⟨k, rfl⟩ : ∃ q, k = q + 1 := ⟨k - 1, by omega⟩
    rw [dm224_85, if_neg (by rw [iLe, iOfNat (by omega)]; show ¬ (256 : Int) ≤ j; omega), i256 (by omega) (by omega), i256 (by omega) (by omega), if_pos (by rw [aB_iff, iOfNat (by omega)]; omega), if_pos (by rw [aB_iff, iOfNat (by omega)]; omega), nx_eq, jN_of (by omega), jN_of (by omega), ofNat_succ (by omega)]
    have hc1 : ch (fun a q => a = 139 ∧ q = 256 * g + j) s (wI s 139 (256 * g + j) (sI s 139 (256 * f + j))) := (ch.refl _ s).wI ⟨rfl, rfl⟩
    obtain ⟨s', a1, a2, a3, a4, a5, a6⟩ := ih (j + 1) k (wI s 139 (256 * g + j) (sI s 139 (256 * f + j))) (by omega) (by omega)
    refine ⟨s', a1, a2.trans (hc1.i (by omega)), a3, a4, fun q h1 h2 => ?_, (hc1.mono fun a q z => by omega).trans (a6.mono fun a q z => by omega)⟩
    by_cases e : q = j
    · subst e
      rw [a6.i (by omega), sI_wI, if_pos ⟨rfl, rfl⟩]
    · rw [a5 q h1 (by omega), hc1.i (by omega)]
/-- a formula becomes another one, moved -/
def fsMove (x y : Nat) (r c ho : Int32) (mv : Int32 → Int32 → Nd → Nd) (L : List Nd) (fs : Nat → Option Fm) : Nat → Option Fm := fun f => if f = y then some (ho, L.map (mv r c)) else fs f
set_option maxRecDepth 100000 in
theorem d224m {s : aS} {f g : Nat} {r c ho h0 : Int32} {fs : Nat → Option Fm} {L : List Nd} (h : MM s fs) (hf : f < 8) (hg : g < 8) (hL : fs f = some (h0, L)) : ∃ s', dm224_44 5000 (Int32.ofNat f) r c ho (Int32.ofNat g) 0 s = some s' ∧ MM s' (fsMove f g r c ho (fun r c => onRf (mvM r c)) L fs) ∧ ch (fun a _ => 125 ≤ a ∧ a ≤ 139) s s' := by
  obtain ⟨b1, b2, b3⟩ := (h f hf).2 h0 L hL
  have h8 := b3.2.1
  have hF : ∀ i (hi : i < L.length), L.getD i (fun _ => 0) = L[i] := fun i hi => by
    rw [List.getD, List.getElem?_eq_getElem hi]
    rfl
  obtain ⟨s1, k1, k2, k3⟩ := d224l (r := r) (c := c) (ho := ho) (F := fun i => L.getD i (fun _ => 0)) hf hg h8 L.length 0 5000 s (by omega) (by omega) b3.1 (fun i _ hi => by
    show RI s (128 * f + i) (L.getD i (fun _ => 0))
    rw [hF i hi]
    exact fun w hw => b3.2.2 i hi w hw) (fun i hi => by omega)
  obtain ⟨s2, m1, m2, m3, m4, -, m6⟩ := d224t (ho := ho) hf hg 256 0 5000 s1 (by omega) (by omega)
  have k1 : dm224_44 5000 (Int32.ofNat f) r c ho (Int32.ofNat g) 0 s = dm224_85 5000 (Int32.ofNat f) ho (Int32.ofNat g) 0 s1 := k1
  have m1 : dm224_85 5000 (Int32.ofNat f) ho (Int32.ofNat g) 0 s1 = some s2 := m1
  refine ⟨s2, k1.trans m1, fun x hx => ?_, (k3.mono fun a q z => by omega).trans (m6.mono fun a q z => by omega)⟩
  unfold fsMove
  by_cases e : x = g
  · subst e
    rw [if_pos rfl]
    refine ⟨fun q => (by cases q), fun h9 L9 q => ?_⟩
    cases q
    refine ⟨m3, m4, by rw [m2, k3.i (by omega), b3.1, List.length_map], by rw [List.length_map]; exact h8, fun i hi w hw => ?_⟩
    rw [List.length_map] at hi
    rw [m6.i (by omega), List.getElem_map]
    have := k2 i hi w hw
    have : sI s1 (128 + w) (128 * x + i) = onRf (mvM r c) (L.getD i (fun _ => 0)) w := this
    rw [hF i hi] at this
    exact this
  · rw [if_neg e]
    obtain ⟨a1, a2⟩ := h x hx
    refine ⟨fun q => (m6.i (by omega)).trans ((k3.i (by omega)).trans (a1 q)), fun h9 L9 q => ?_⟩
    obtain ⟨c1, c2, c3⟩ := a2 h9 L9 q
    have c8 := c3.2.1
    exact ⟨(m6.i (by omega)).trans ((k3.i (by omega)).trans c1), (m6.i (by omega)).trans ((k3.i (by omega)).trans c2), (m6.i (by omega)).trans ((k3.i (by omega)).trans c3.1), c8, fun i hi w hw => (m6.i (by omega)).trans ((k3.i (by omega)).trans (c3.2.2 i hi w hw))⟩
end
section
/-! move as a whole in the reference -/
def wayP (x : Int32) : Prop := -1048576 ≤ x.toInt ∧ x.toInt ≤ 1048576
def mvV (ns : List (List Int32)) (fs : Nat → Option Fm) (x1 x4 x5 : Int32) : Prop := (0 ≤ x5.toInt ∧ x5.toInt < 8) ∧ fAt fs x1 ≠ none ∧ (0 ≤ x4.toInt ∧ x4.toInt < ns.length)
set_option maxRecDepth 100000 in
theorem d224 {s : aS} {ns : List (List Int32)} {fs : Nat → Option Fm} (hs : SM s ns) (hn : nsOk ns) (h : MM s fs) (x1 x2 x3 x4 x5 : Int32) :
    (¬ mvV ns fs x1 x4 x5 ∧ dm224 x1 x2 x3 x4 x5 s = some (wI s 121 0 1)) ∨
    (mvV ns fs x1 x4 x5 ∧ ¬ (wayP x2 ∧ wayP x3) ∧ dm224 x1 x2 x3 x4 x5 s = some (wI s 121 0 2)) ∨
    (mvV ns fs x1 x4 x5 ∧ (wayP x2 ∧ wayP x3) ∧ ∃ h0 L s', fAt fs x1 = some (h0, L) ∧ dm224 x1 x2 x3 x4 x5 s = some s' ∧ MM s' (fsMove x1.toInt.toNat x5.toInt.toNat x2 x3 x4 (fun r c => onRf (mvM r c)) L fs) ∧ sI s' 121 0 = 0 ∧ ch (fun a k => (a = 121 ∧ k = 0) ∨ (125 ≤ a ∧ a ≤ 139)) s s') := by
  have h8 := hn.1
  have z1 : dm224_30 x1 x2 x3 x4 x5 s = some (wI s 121 0 1) := by
    unfold dm224_30 dm224_37
    rw [nx_eq]
    exact if_neg (show ¬ (1 : Int32) ≤ 0 by decide)
  have z2 : dm224_37 x1 x2 x3 x4 x5 2 s = some (wI s 121 0 2) := by
    unfold dm224_37
    rw [nx_eq]
    exact if_neg (show ¬ (2 : Int32) ≤ 0 by decide)
  have z0 : dm224_37 x1 x2 x3 x4 x5 0 s = dm224_44 5000 x1 x2 x3 x4 x5 0 (wI s 121 0 0) := by
    unfold dm224_37
    rw [nx_eq]
    exact if_pos (show (0 : Int32) ≤ 0 by decide)
  -- what the flag of the ways is
  have eW : dm224 x1 x2 x3 x4 x5 s = dm224_15 x1 x2 x3 x4 x5 (b01 (¬ (wayP x2 ∧ wayP x3))) s := by
    have a1 : x2 < -1048576 ↔ x2.toInt < -1048576 := iLt
    have a2 : 1048576 < x2 ↔ 1048576 < x2.toInt := iLt
    have a3 : x3 < -1048576 ↔ x3.toInt < -1048576 := iLt
    have a4 : x3 ≤ 1048576 ↔ x3.toInt ≤ 1048576 := iLe
    unfold dm224 dm224_12 wayP
    by_cases c1 : x2 < -1048576
    · rw [if_pos c1, b01_t]
      have := a1.mp c1
      omega
    · rw [if_neg c1]
      have c1 : ¬ x2.toInt < -1048576 := fun q => c1 (a1.mpr q)
      by_cases c2 : 1048576 < x2
      · rw [if_pos c2, b01_t]
        have := a2.mp c2
        omega
      · rw [if_neg c2]
        have c2 : ¬ 1048576 < x2.toInt := fun q => c2 (a2.mpr q)
        by_cases c3 : x3 < -1048576
        · rw [if_pos c3, b01_t]
          have := a3.mp c3
          omega
        · rw [if_neg c3]
          have c3 : ¬ x3.toInt < -1048576 := fun q => c3 (a3.mpr q)
          by_cases c4 : x3 ≤ 1048576
          · rw [if_pos c4, b01_f]
            have := a4.mp c4
            omega
          · rw [if_neg c4, b01_t]
            have c4 : ¬ x3.toInt ≤ 1048576 := fun q => c4 (a4.mpr q)
            omega
  rw [eW]
  have l1 : x5 < 0 ↔ x5.toInt < 0 := iLt
  have l2 : 7 < x5 ↔ 7 < x5.toInt := iLt
  unfold dm224_15
  by_cases c1 : x5 < 0
  · left
    rw [if_pos c1, z1]
    have := l1.mp c1
    exact ⟨fun q => by have := q.1; omega, rfl⟩
  · rw [if_neg c1]
    have c1 : ¬ x5.toInt < 0 := fun q => c1 (l1.mpr q)
    by_cases c2 : 7 < x5
    · left
      rw [if_pos c2, z1]
      have := l2.mp c2
      exact ⟨fun q => by have := q.1; omega, rfl⟩
    · rw [if_neg c2]
      have c2 : ¬ 7 < x5.toInt := fun q => c2 (l2.mpr q)
      rcases d225 h x1 with ⟨e1, e2⟩ | ⟨h0, L, e1, hx, e2, -⟩
      · left
        rw [e2]
        simp only [bu_some]
        rw [if_neg (by decide), z1]
        exact ⟨fun q => q.2.1 e1, rfl⟩
      · rw [e2, d181 hs h8]
        simp only [bu_some]
        rw [if_pos trivial]
        by_cases c3 : 0 ≤ x4.toInt ∧ x4.toInt < ns.length
        · right
          rw [b01_f (fun q => q c3), if_pos rfl]
          have hV : mvV ns fs x1 x4 x5 := ⟨by omega, (by rw [e1]; exact Option.some_ne_none _), c3⟩
          by_cases c4 : wayP x2 ∧ wayP x3
          · right
            rw [b01_f (fun q => q c4), if_pos rfl, z0]
            have hL : fs x1.toInt.toNat = some (h0, L) := by
              unfold fAt at e1
              rw [if_pos hx] at e1
              exact e1
            obtain ⟨s', k1, k2, k3⟩ := d224m (r := x2) (c := x3) (ho := x4) (f := x1.toInt.toNat) (g := x5.toInt.toNat) (h.of (ch0 s 0) (by omega)) (by omega) (by omega) hL
            rw [← ofNat_of (x := x1) (by omega), ← ofNat_of (x := x5) (by omega)] at k1
            exact ⟨hV, c4, h0, L, s', e1, k1, k2, (k3.i (by omega)).trans (by rw [sI_wI, if_pos ⟨rfl, rfl⟩]), ((ch0 s 0).mono fun a k q => by omega).trans (k3.mono fun a k q => by omega)⟩
          · left
            rw [b01_t c4, if_neg (by decide), z2]
            exact ⟨hV, c4, rfl⟩
        · left
          rw [b01_t c3, if_neg (by decide), z1]
          exact ⟨fun q => c3 q.2.2, rfl⟩
end
section
/-! rows put in or taken out, a node, in the reference -/
def fB (x k n : Int32) : Int32 := if k ≤ x then (if n < 0 then (if (k - n) ≤ x then x + n else k) else x + n) else x
def lB (x k n m : Int32) : Int32 := if k ≤ x then (if 0 ≤ n then (if (x + n) ≤ m then x + n else m) else (if (k - n) ≤ x then x + n else k - 1)) else x
set_option maxRecDepth 100000 in
theorem d229 (x k n : Int32) : dm229 x k n = some (fB x k n) := by
  unfold dm229 fB
  split
  · split
    · split <;> rfl
    · rfl
  · rfl
set_option maxRecDepth 100000 in
theorem d230 (x k n m : Int32) : dm230 x k n m = some (lB x k n m) := by
  unfold dm230 lB
  split
  · split
    · split <;> rfl
    · split <;> rfl
  · rfl
def wA (t : Int32) : Nat := if t = 0 then 4 else 3
def wB (t : Int32) : Nat := if t = 0 then 6 else 5
/-- is a node on the sheet -/
def onS (x ho : Int32) (d : Nd) : Prop := (0 ≤ d 2 ∧ d 2 = x) ∨ (¬ 0 ≤ d 2 ∧ ho = x)
def loS (t k n m : Int32) (d : Nd) : Prop := lB (d (wB t)) k n m < fB (d (wA t)) k n ∨ ¬ fB (d (wA t)) k n ≤ m
set_option maxRecDepth 100000 in
noncomputable def shM (x t k n m ho : Int32) (d : Nd) : Nd := if b01 (isRf d ∧ onS x ho d) = 0 then d else if b01 (loS t k n m d) = 0 then setN (setN d (wA t) (fB (d (wA t)) k n)) (wB t) (lB (d (wB t)) k n m) else loM d
set_option maxRecDepth 100000 in
noncomputable def shC (x t k n m ho : Int32) (d : Nd) (c : Int32) : Int32 := if b01 (isRf d ∧ onS x ho d) = 0 then c else if b01 (loS t k n m d) = 0 then c else c + 1
set_option maxRecDepth 100000 in
theorem RI.setw {s : aS} {p w : Nat} {d : Nd} {v : Int32} (h : RI s p d) : RI (wI s (128 + w) p v) p (setN d w v) := h.set
set_option maxRecDepth 100000 in
theorem d228e {s : aS} {p : Nat} {d : Nd} {x t k n m c f : Int32} {k36 : Int32 → Int32 → Int32 → Int32 → Int32 → Int32 → Int32 → aS → Option (Int32 × aS)} {k43 : Int32 → Int32 → Int32 → Int32 → Int32 → Int32 → Int32 → Int32 → aS → Option (Int32 × aS)} (hp : p < 1152) (h : RI s p d) : ∃ s', dm228_89 k36 k43 x t k n m c f (Int32.ofNat p) 1 s = k43 x t k n m (if b01 (loS t k n m d) = 0 then c else c + 1) f (Int32.ofNat (p + 1)) s' ∧ RI s' p (if b01 (loS t k n m d) = 0 then setN (setN d (wA t) (fB (d (wA t)) k n)) (wB t) (lB (d (wB t)) k n m) else loM d) ∧ ch (fun a q => (128 ≤ a ∧ a ≤ 136) ∧ q = p) s s' := by
  have hb : aB (Int32.ofNat p) 1152 := by rw [aB_iff, iOfNat (by omega)]; omega
  have ej : jN (Int32.ofNat p) = p := jN_of (by omega)
  have r3 : sI s 131 p = d 3 := h 3 (by omega)
  have r4 : sI s 132 p = d 4 := h 4 (by omega)
  have r5 : sI s 133 p = d 5 := h 5 (by omega)
  have r6 : sI s 134 p = d 6 := h 6 (by omega)
  have lost : ∀ a9 b9 : Int32, ∃ s', dm228_129 k36 k43 x t k n m c f (Int32.ofNat p) a9 b9 s = k43 x t k n m (c + 1) f (Int32.ofNat (p + 1)) s' ∧ RI s' p (loM d) ∧ ch (fun a q => (128 ≤ a ∧ a ≤ 136) ∧ q = p) s s' := by
    intro a9 b9
    obtain ⟨s', g1, g2, g3⟩ := d183 (s := s) hp
    unfold dm228_129 dm228_132 dm228_163
    rw [if_neg (by decide), g1]
    simp only [bu_some]
    rw [ofNat_succ (by omega)]
    refine ⟨s', rfl, fun w hw => ?_, g3⟩
    rw [g2 w hw]
    unfold loM
    by_cases q : w = 1
    · rw [if_pos q, if_pos q]
      exact h 1 (by omega)
    · rw [if_neg q, if_neg q]
  unfold dm228_89 dm228_103 dm228_118
  rw [if_neg (show ¬ (1 : Int32) = 0 by decide)]
  simp only [if_pos hb, ej, r3, r4, r5, r6, d229, d230, bu_some]
  by_cases ht : t = 0
  · have eA : wA t = 4 := if_pos ht
    have eB : wB t = 6 := if_pos ht
    rw [if_pos ht, if_pos ht]
    unfold loS
    rw [eA, eB]
    by_cases c1 : lB (d 6) k n m < fB (d 4) k n
    · rw [if_pos c1, b01_t (Or.inl c1), if_neg (by decide), if_neg (by decide)]
      exact lost _ _
    · rw [if_neg c1]
      by_cases c2 : fB (d 4) k n ≤ m
      · rw [if_pos c2, b01_f (fun q => q.elim c1 (fun z => z c2)), if_pos rfl, if_pos rfl]
        unfold dm228_132 dm228_163
        rw [if_pos rfl, if_pos ht]
        simp only [if_pos hb, nx_eq, ej]
        rw [ofNat_succ (by omega)]
        exact ⟨_, rfl, (h.setw (w := 4)).setw (w := 6), ((ch.refl _ s).wI (by omega)).wI (by omega)⟩
      · rw [if_neg c2, b01_t (Or.inr c2), if_neg (by decide), if_neg (by decide)]
        exact lost _ _
  · have eA : wA t = 3 := if_neg ht
    have eB : wB t = 5 := if_neg ht
    rw [if_neg ht, if_neg ht]
    unfold loS
    rw [eA, eB]
    by_cases c1 : lB (d 5) k n m < fB (d 3) k n
    · rw [if_pos c1, b01_t (Or.inl c1), if_neg (by decide), if_neg (by decide)]
      exact lost _ _
    · rw [if_neg c1]
      by_cases c2 : fB (d 3) k n ≤ m
      · rw [if_pos c2, b01_f (fun q => q.elim c1 (fun z => z c2)), if_pos rfl, if_pos rfl]
        unfold dm228_132 dm228_163
        rw [if_pos rfl, if_neg ht]
        simp only [if_pos hb, nx_eq, ej]
        rw [ofNat_succ (by omega)]
        exact ⟨_, rfl, (h.setw (w := 3)).setw (w := 5), ((ch.refl _ s).wI (by omega)).wI (by omega)⟩
      · rw [if_neg c2, b01_t (Or.inr c2), if_neg (by decide), if_neg (by decide)]
        exact lost _ _
set_option maxRecDepth 100000 in
theorem d228n {s : aS} {f p N : Nat} {d : Nd} {x t k n m c ho : Int32} {k36 : Int32 → Int32 → Int32 → Int32 → Int32 → Int32 → Int32 → aS → Option (Int32 × aS)} (hf : f < 8) (hp : p < 1152) (h : RI s p d) (hh : sI s 126 f = ho) : ∃ s', (if (sI s 128 p) = 4 then dm228_70 k36 (dm228_43 k36 N) x t k n m c (Int32.ofNat f) (Int32.ofNat p) s else if (sI s 128 p) = 5 then dm228_70 k36 (dm228_43 k36 N) x t k n m c (Int32.ofNat f) (Int32.ofNat p) s else dm228_88 k36 (dm228_43 k36 N) x t k n m c (Int32.ofNat f) (Int32.ofNat p) s) = dm228_43 k36 N x t k n m (shC x t k n m ho d c) (Int32.ofNat f) (Int32.ofNat (p + 1)) s' ∧ RI s' p (shM x t k n m ho d) ∧ ch (fun a q => (128 ≤ a ∧ a ≤ 136) ∧ q = p) s s' := by
  have hb : aB (Int32.ofNat p) 1152 := by rw [aB_iff, iOfNat (by omega)]; omega
  have ej : jN (Int32.ofNat p) = p := jN_of (by omega)
  have hbf : aB (Int32.ofNat f) 8 := by rw [aB_iff, iOfNat (by omega)]; omega
  have ejf : jN (Int32.ofNat f) = f := jN_of (by omega)
  have r0 : sI s 128 p = d 0 := h 0 (by omega)
  have r2 : sI s 130 p = d 2 := h 2 (by omega)
  have no : ¬ (isRf d ∧ onS x ho d) → ∃ s', dm228_88 k36 (dm228_43 k36 N) x t k n m c (Int32.ofNat f) (Int32.ofNat p) s = dm228_43 k36 N x t k n m (shC x t k n m ho d c) (Int32.ofNat f) (Int32.ofNat (p + 1)) s' ∧ RI s' p (shM x t k n m ho d) ∧ ch (fun a q => (128 ≤ a ∧ a ≤ 136) ∧ q = p) s s' := by
    intro q
    unfold dm228_88 dm228_89 dm228_163 shC shM
    rw [if_pos rfl, b01_f q, if_pos rfl, if_pos rfl, ofNat_succ (by omega)]
    exact ⟨s, rfl, h, ch.refl _ s⟩
  have yes : isRf d → ∃ s', dm228_70 k36 (dm228_43 k36 N) x t k n m c (Int32.ofNat f) (Int32.ofNat p) s = dm228_43 k36 N x t k n m (shC x t k n m ho d c) (Int32.ofNat f) (Int32.ofNat (p + 1)) s' ∧ RI s' p (shM x t k n m ho d) ∧ ch (fun a q => (128 ≤ a ∧ a ≤ 136) ∧ q = p) s s' := by
    intro hr
    have at84 : ∀ y : Int32, (y = x ↔ onS x ho d) → ∃ s', dm228_84 k36 (dm228_43 k36 N) x t k n m c (Int32.ofNat f) (Int32.ofNat p) y s = dm228_43 k36 N x t k n m (shC x t k n m ho d c) (Int32.ofNat f) (Int32.ofNat (p + 1)) s' ∧ RI s' p (shM x t k n m ho d) ∧ ch (fun a q => (128 ≤ a ∧ a ≤ 136) ∧ q = p) s s' := by
      intro y hy
      unfold dm228_84
      by_cases q : y = x
      · rw [if_pos q]
        obtain ⟨s', g1, g2, g3⟩ := d228e (x := x) (t := t) (k := k) (n := n) (m := m) (c := c) (f := Int32.ofNat f) (k36 := k36) (k43 := dm228_43 k36 N) hp h
        refine ⟨s', ?_, ?_, g3⟩
        · rw [g1]
          unfold shC
          rw [b01_t (p := isRf d ∧ onS x ho d) ⟨hr, hy.mp q⟩, if_neg (show ¬ (1 : Int32) = 0 by decide)]
        · unfold shM
          rw [b01_t (p := isRf d ∧ onS x ho d) ⟨hr, hy.mp q⟩, if_neg (show ¬ (1 : Int32) = 0 by decide)]
          exact g2
      · rw [if_neg q]
        exact no fun z => q (hy.mpr z.2)
    unfold dm228_70
    simp only [if_pos hb, if_pos hbf, ej, ejf, r2, hh]
    by_cases q : 0 ≤ d 2
    · rw [if_pos q]
      exact at84 (d 2) ⟨fun z => Or.inl ⟨q, z⟩, fun z => by
        rcases z with z | z
        · exact z.2
        · exact absurd q z.1⟩
    · rw [if_neg q]
      exact at84 ho ⟨fun z => Or.inr ⟨q, z⟩, fun z => by
        rcases z with z | z
        · exact absurd z.1 q
        · exact z.2⟩
  rw [r0]
  by_cases c4 : d 0 = 4
  · rw [if_pos c4]
    exact yes (Or.inl c4)
  · rw [if_neg c4]
    by_cases c5 : d 0 = 5
    · rw [if_pos c5]
      exact yes (Or.inr c5)
    · rw [if_neg c5]
      refine no fun z => ?_
      rcases z.1 with q | q
      · exact c4 q
      · exact c5 q
set_option maxRecDepth 100000 in
/-- how many nodes are lost -/
noncomputable def scM (x t k n m ho : Int32) (F : Nat → Nd) : Nat → Nat → Int32 → Int32
  | 0, _, c => c
  | q + 1, j, c => scM x t k n m ho F q (j + 1) (shC x t k n m ho (F j) c)
set_option maxRecDepth 100000 in
theorem d228l {f N : Nat} {x t k n m ho : Int32} {F : Nat → Nd} {k36 : Int32 → Int32 → Int32 → Int32 → Int32 → Int32 → Int32 → aS → Option (Int32 × aS)} (hf : f < 8) : ∀ (q j z : Nat) (c : Int32) (s : aS), j + q = N → q < z → sI s 125 f = 1 → sI s 126 f = ho → TG s f N (fun i => if i < j then shM x t k n m ho (F i) else F i) → ∃ s', dm228_43 k36 z x t k n m c (Int32.ofNat f) (Int32.ofNat (128 * f + j)) s = k36 x t k n m (scM x t k n m ho F q j c) (Int32.ofNat (f + 1)) s' ∧ TG s' f N (fun i => shM x t k n m ho (F i)) ∧ ch (fun a q => (128 ≤ a ∧ a ≤ 136) ∧ 128 * f ≤ q ∧ q < 128 * f + N) s s' := by
  intro q
  induction q with
  | zero =>
    intro j z c s hj hz h1 h2 h
    obtain ⟨z, rfl⟩ : ∃ a, z = a + 1 := ⟨z - 1, by omega⟩
    have h8 := h.2.1
    have ejf : jN (Int32.ofNat f) = f := jN_of (by omega)
    have b8 : aB (Int32.ofNat f) 8 := by rw [aB_iff, iOfNat (by omega)]; omega
    have b9 : aB (Int32.ofNat f) 9 := by rw [aB_iff, iOfNat (by omega)]; omega
    rw [dm228_43]
    simp only [if_pos b8, if_pos b9, ejf, h1, h.1]
    rw [if_neg (by decide), i128 (by omega) (by omega), if_pos (by rw [iLe, iOfNat (by omega), iOfNat (by omega)]; omega)]
    unfold dm228_165
    rw [ofNat_succ (by omega)]
    exact ⟨s, rfl, h.cg fun i hi w hw => by show (if i < j then shM x t k n m ho (F i) else F i) w = _; rw [if_pos (by omega)], ch.refl _ s⟩
  | succ q ih =>
    intro j z c s hj hz h1 h2 h
    obtain ⟨z, rfl⟩ : ∃ a, z = a + 1 := ⟨z - 1, by omega⟩
    have h8 := h.2.1
    have ejf : jN (Int32.ofNat f) = f := jN_of (by omega)
    have b8 : aB (Int32.ofNat f) 8 := by rw [aB_iff, iOfNat (by omega)]; omega
    have b9 : aB (Int32.ofNat f) 9 := by rw [aB_iff, iOfNat (by omega)]; omega
    have hp : aB (Int32.ofNat (128 * f + j)) 1152 := by rw [aB_iff, iOfNat (by omega)]; omega
    have ep : jN (Int32.ofNat (128 * f + j)) = 128 * f + j := jN_of (by omega)
    have hr : RI s (128 * f + j) (F j) := fun w hw => by
      have := h.2.2 j (by omega) w hw
      have : sI s (128 + w) (128 * f + j) = (if j < j then shM x t k n m ho (F j) else F j) w := this
      rw [if_neg (by omega)] at this
      exact this
    obtain ⟨s1, g1, g2, g3⟩ := d228n (N := z) (x := x) (t := t) (k := k) (n := n) (m := m) (c := c) (k36 := k36) hf (by omega) hr h2
    rw [dm228_43]
    simp only [if_pos b8, if_pos b9, if_pos hp, ejf, ep, h1, h.1]
    rw [if_neg (by decide), i128 (by omega) (by omega), if_neg (by rw [iLe, iOfNat (by omega), iOfNat (by omega)]; omega), g1]
    have t1 := h.up (g := shM x t k n m ho (F j)) (by omega : j < N) g2 g3
    obtain ⟨s', a1, a2, a3⟩ := ih (j + 1) z (shC x t k n m ho (F j) c) s1 (by omega) (by omega) ((g3.i (by omega)).trans h1) ((g3.i (by omega)).trans h2) (t1.cg fun i hi w hw => by
      show (if i = j then shM x t k n m ho (F j) else if i < j then shM x t k n m ho (F i) else F i) w = (if i < j + 1 then shM x t k n m ho (F i) else F i) w
      by_cases e : i = j
      · subst e
        rw [if_pos rfl, if_pos (by omega)]
      · rw [if_neg e]
        by_cases e2 : i < j
        · rw [if_pos e2, if_pos (by omega)]
        · rw [if_neg e2, if_neg (by omega)])
    exact ⟨s', a1, a2, (g3.mono fun a q z => by omega).trans a3⟩
end
section
/-! shift as a whole in the reference -/
set_option maxRecDepth 100000 in
noncomputable def fsShM (x t k n m : Int32) (fs : Nat → Option Fm) : Nat → Option Fm := fun f => match fs f with
  | none => none
  | some (h, L) => some (h, L.map (shM x t k n m h))
set_option maxRecDepth 100000 in
noncomputable def caM (x t k n m : Int32) (fs : Nat → Option Fm) : Nat → Nat → Int32 → Int32
  | 0, _, c => c
  | q + 1, f, c => caM x t k n m fs q (f + 1) (match fs f with
    | none => c
    | some (h, L) => scM x t k n m h (fun i => L.getD i (fun _ => 0)) L.length 0 c)
set_option maxRecDepth 100000 in
theorem d228f {x t k n m : Int32} {fs : Nat → Option Fm} : ∀ (q f z : Nat) (c : Int32) (s : aS), f + q = 8 → q < z → MM s (fun g => if g < f then fsShM x t k n m fs g else fs g) → ∃ s', dm228_36 z x t k n m c (Int32.ofNat f) s = some (caM x t k n m fs q f c, s') ∧ MM s' (fsShM x t k n m fs) ∧ ch (fun a _ => 128 ≤ a ∧ a ≤ 136) s s' := by
  intro q
  induction q with
  | zero =>
    intro f z c s hf hz h
    obtain ⟨z, rfl⟩ : ∃ a, z = a + 1 := ⟨z - 1, by omega⟩
    rw [dm228_36, if_pos (by rw [iLe, iOfNat (by omega)]; show (8 : Int) ≤ f; omega)]
    refine ⟨s, rfl, fun g hg => ?_, ch.refl _ s⟩
    have := h g hg
    simp only [if_pos (show g < f by omega)] at this
    exact this
  | succ q ih =>
    intro f z c s hf hz h
    obtain ⟨z, rfl⟩ : ∃ a, z = a + 1 := ⟨z - 1, by omega⟩
    have hff := h f (by omega)
    simp only [if_neg (Nat.lt_irrefl f)] at hff
    have ejf : jN (Int32.ofNat f) = f := jN_of (by omega)
    have b8 : aB (Int32.ofNat f) 8 := by rw [aB_iff, iOfNat (by omega)]; omega
    have em : 128 * Int32.ofNat f = Int32.ofNat (128 * f + 0) := by
      have := i128 (f := f) (i := 0) (by omega) (by omega)
      have z : 128 * Int32.ofNat f + Int32.ofNat 0 = 128 * Int32.ofNat f := Int32.add_zero _
      rw [z] at this
      exact this
    rw [dm228_36, if_neg (by rw [iLe, iOfNat (by omega)]; show ¬ (8 : Int) ≤ f; omega), em]
    show ∃ s', _ = some (caM x t k n m fs q (f + 1) (match fs f with | none => c | some (h, L) => scM x t k n m h (fun i => L.getD i (fun _ => 0)) L.length 0 c), s') ∧ _
    cases hq : fs f with
    | none =>
      have e0 : sI s 125 f = 0 := hff.1 hq
      rw [dm228_43]
      simp only [if_pos b8, ejf, e0]
      rw [if_pos trivial]
      unfold dm228_165
      rw [ofNat_succ (by omega)]
      refine ih (f + 1) z c s (by omega) (by omega) fun g hg => ?_
      by_cases e : g = f
      · subst e
        simp only [if_pos (Nat.lt_succ_self g)]
        have : fsShM x t k n m fs g = none := by unfold fsShM; rw [hq]
        rw [this]
        exact ⟨fun _ => e0, fun h9 L9 z => by cases z⟩
      · have hgg := h g hg
        by_cases e7 : g < f
        · simp only [if_pos e7] at hgg
          simp only [if_pos (show g < f + 1 by omega)]
          exact hgg
        · simp only [if_neg e7] at hgg
          simp only [if_neg (show ¬ g < f + 1 by omega)]
          exact hgg
    | some v =>
      obtain ⟨ho, L⟩ := v
      obtain ⟨c1, c2, c3⟩ := hff.2 ho L hq
      have h8 := c3.2.1
      obtain ⟨s1, g1, g2, g3⟩ := d228l (x := x) (t := t) (k := k) (n := n) (m := m) (ho := ho) (F := fun i => L.getD i (fun _ => 0)) (k36 := dm228_36 z) (by omega : f < 8) L.length 0 5000 c s (by omega) (by omega) c1 c2 (c3.f.cg fun i hi w hw => by
        show L.getD i (fun _ => 0) w = (if i < 0 then _ else L.getD i (fun _ => 0)) w
        rw [if_neg (by omega)])
      rw [g1]
      have t1 : TM s1 f (L.map (shM x t k n m ho)) := g2.c (by rw [List.length_map]) fun i hi w hw => by
        rw [List.length_map] at hi
        show shM x t k n m ho (L.getD i (fun _ => 0)) w = _
        rw [List.getElem_map, List.getD, List.getElem?_eq_getElem hi]
        rfl
      have g4 : ch (fun a q => (a = 125 ∧ q = f) ∨ (a = 126 ∧ q = f) ∨ ((128 ≤ a ∧ a ≤ 136) ∧ 128 * f ≤ q ∧ q < 128 * f + 128)) s s1 := g3.mono fun a q z => by omega
      obtain ⟨s', a1, a2, a3⟩ := ih (f + 1) z (scM x t k n m ho (fun i => L.getD i (fun _ => 0)) L.length 0 c) s1 (by omega) (by omega) (fun g hg => by
        by_cases e : g = f
        · subst e
          simp only [if_pos (Nat.lt_succ_self g)]
          have : fsShM x t k n m fs g = some (ho, L.map (shM x t k n m ho)) := by unfold fsShM; rw [hq]
          rw [this]
          refine ⟨fun z => (by cases z), fun h9 L9 z => ?_⟩
          cases z
          exact ⟨(g3.i (by omega)).trans c1, (g3.i (by omega)).trans c2, t1⟩
        · have hgg := h g hg
          by_cases e7 : g < f
          · simp only [if_pos e7] at hgg
            simp only [if_pos (show g < f + 1 by omega)]
            exact mm_key e hg g4 hgg
          · simp only [if_neg e7] at hgg
            simp only [if_neg (show ¬ g < f + 1 by omega)]
            exact mm_key e hg g4 hgg)
      exact ⟨s', a1, a2, (g3.mono fun a q z => z.1).trans a3⟩
/-- the last row, or column -/
def lastT (t : Int32) : Int32 := if t = 0 then 16384 else 1048576
set_option maxRecDepth 100000 in
theorem d228 {s : aS} {ns : List (List Int32)} {fs : Nat → Option Fm} (hs : SM s ns) (hn : nsOk ns) (h : MM s fs) (x t k n : Int32) :
    (¬ (0 ≤ x.toInt ∧ x.toInt < ns.length) ∧ dm228 x t k n s = some (0, wI s 121 0 1)) ∨
    ((0 ≤ x.toInt ∧ x.toInt < ns.length) ∧ ¬ (¬ bey k (lastT t) ∧ wayP n) ∧ dm228 x t k n s = some (0, wI s 121 0 2)) ∨
    ((0 ≤ x.toInt ∧ x.toInt < ns.length) ∧ (¬ bey k (lastT t) ∧ wayP n) ∧ ∃ s', dm228 x t k n s = some (caM x t k n (lastT t) fs 8 0 0, s') ∧ MM s' (fsShM x t k n (lastT t) fs) ∧ sI s' 121 0 = 0 ∧ ch (fun a k => (a = 121 ∧ k = 0) ∨ (128 ≤ a ∧ a ≤ 136)) s s') := by
  have h8 := hn.1
  have e : dm228 x t k n s = dm228_5 x t k n (lastT t) s := by
    unfold dm228 lastT
    split <;> rfl
  rw [e]
  generalize lastT t = m
  have z2 : dm228_23 x t k n m s = some (0, wI s 121 0 2) := by
    unfold dm228_23 dm228_26
    rw [nx_eq]
    exact if_neg (show ¬ (2 : Int32) ≤ 0 by decide)
  have z1 : dm228_26 x t k n m 1 s = some (0, wI s 121 0 1) := by
    unfold dm228_26
    rw [nx_eq]
    exact if_neg (show ¬ (1 : Int32) ≤ 0 by decide)
  have z0 : dm228_26 x t k n m 0 s = dm228_36 5000 x t k n m 0 0 (wI s 121 0 0) := by
    unfold dm228_26
    rw [nx_eq]
    exact if_pos (show (0 : Int32) ≤ 0 by decide)
  unfold dm228_5
  rw [d181 hs h8, d227]
  simp only [bu_some]
  by_cases hx : 0 ≤ x.toInt ∧ x.toInt < ns.length
  · right
    rw [b01_f (fun q => q hx), if_pos rfl]
    by_cases c1 : bey k m
    · left
      rw [b01_t c1, if_neg (by decide), z2]
      exact ⟨hx, fun q => q.1 c1, rfl⟩
    · rw [b01_f c1, if_pos rfl]
      have a1 : n < -1048576 ↔ n.toInt < -1048576 := iLt
      have a2 : n ≤ 1048576 ↔ n.toInt ≤ 1048576 := iLe
      by_cases c2 : n < -1048576
      · left
        rw [if_pos c2, z2]
        refine ⟨hx, fun q => ?_, rfl⟩
        have := a1.mp c2
        have := q.2.1
        omega
      · rw [if_neg c2]
        have c2 : ¬ n.toInt < -1048576 := fun q => c2 (a1.mpr q)
        by_cases c3 : n ≤ 1048576
        · right
          rw [if_pos c3, z0]
          have c3 := a2.mp c3
          obtain ⟨s', k1, k2, k3⟩ := d228f (x := x) (t := t) (k := k) (n := n) (m := m) (fs := fs) 8 0 5000 0 (wI s 121 0 0) (by omega) (by omega) (fun f hf => by
            simp only [if_neg (Nat.not_lt_zero f)]
            exact (h.of (ch0 s 0) (by omega)) f hf)
          exact ⟨hx, ⟨c1, by omega, c3⟩, s', k1, k2, (k3.i (by omega)).trans (by rw [sI_wI, if_pos ⟨rfl, rfl⟩]), ((ch0 s 0).mono fun a k q => by omega).trans (k3.mono fun a k q => by omega)⟩
        · left
          rw [if_neg c3, z2]
          exact ⟨hx, fun q => c3 (a2.mpr q.2.2), rfl⟩
  · left
    rw [b01_t hx, if_neg (by decide), z1]
    exact ⟨hx, rfl⟩
end
section
/-! rows put in or taken out, a node, in FormulaTrees -/
def pA (x k n : Int32) : Int32 := if x < k then x + 0 else x + n
def pB (x k n m : Int32) : Int32 := if m < pA x k n then m else pA x k n
def tA (x k n : Int32) : Int32 := if x < k then x else if (x - n) < k then k else x - n
def tB (x k n : Int32) : Int32 := if x < k then x else if (x - n) < (k - 1) then k - 1 else x - n
set_option maxRecDepth 100000 in
theorem d132 (t : Int32) : dm132 t = some (lastT t) := by
  unfold dm132 lastT
  split <;> rfl
set_option maxRecDepth 100000 in
theorem CR.f {s : aS} {b N i w : Nat} {d : Nd} (hn : sI s b 2 = Int32.ofNat N) (h8 : N ≤ 128) (hi : i < N) (h : CR s b i d) (hw : w < 9) : dm57 b (Int32.ofNat i) (Int32.ofNat w) s = some (d w) := (d57 hn h8 hi (by omega)).trans (by rw [h w hw])
set_option maxRecDepth 100000 in
theorem d136 {s : aS} {b N i : Nat} {d : Nd} {t k n : Int32} (hn : sI s b 2 = Int32.ofNat N) (h8 : N ≤ 128) (hi : i < N) (h : CR s b i d) : ∃ s', dm136 b (Int32.ofNat i) t k n s = some (b01 (¬ lastT t < pA (d (wA t)) k n), s') ∧ CR s' b i (setN (setN d (wA t) (pA (d (wA t)) k n)) (wB t) (pB (d (wB t)) k n (lastT t))) ∧ ch (fun a q => a = b + 1 ∧ 11 * i ≤ q ∧ q < 11 * i + 11) s s' := by
  -- the chain with both places named
  have chain : ∀ u v : Nat, u < 9 → v < 9 → (∀ r, (if t = 0 then dm136_16 b (Int32.ofNat i) t k n r b (Int32.ofNat i) 6 s else dm136_16 b (Int32.ofNat i) t k n r b (Int32.ofNat i) 5 s) = dm136_16 b (Int32.ofNat i) t k n r b (Int32.ofNat i) (Int32.ofNat v) s) → (∀ x5 x6, (if t = 0 then dm136_43 b (Int32.ofNat i) t x5 x6 b (Int32.ofNat i) 4 s else dm136_43 b (Int32.ofNat i) t x5 x6 b (Int32.ofNat i) 3 s) = dm136_43 b (Int32.ofNat i) t x5 x6 b (Int32.ofNat i) (Int32.ofNat u) s) → (∀ x5 x6 s1, (if t = 0 then dm136_52 t x5 x6 b (Int32.ofNat i) 6 s1 else dm136_52 t x5 x6 b (Int32.ofNat i) 5 s1) = dm136_52 t x5 x6 b (Int32.ofNat i) (Int32.ofNat v) s1) → u ≠ v → ∃ s', dm136_7 b (Int32.ofNat i) t k n b (Int32.ofNat i) (Int32.ofNat u) s = some (b01 (¬ lastT t < pA (d u) k n), s') ∧ CR s' b i (setN (setN d u (pA (d u) k n)) v (pB (d v) k n (lastT t))) ∧ ch (fun a q => a = b + 1 ∧ 11 * i ≤ q ∧ q < 11 * i + 11) s s' := by
    intro u v hu hv e1 e2 e3 huv
    have n1 : sI (wI s (b + 1) (11 * i + u) (pA (d u) k n)) b 2 = Int32.ofNat N := (sI_wI _ _ _ _ _ _).trans ((if_neg (by omega)).trans hn)
    have h1 : CR (wI s (b + 1) (11 * i + u) (pA (d u) k n)) b i (setN d u (pA (d u) k n)) := h.set (by omega)
    have p52 : dm136_52 t (pA (d u) k n) (pA (d v) k n) b (Int32.ofNat i) (Int32.ofNat v) (wI s (b + 1) (11 * i + u) (pA (d u) k n)) = some (b01 (¬ lastT t < pA (d u) k n), wI (wI s (b + 1) (11 * i + u) (pA (d u) k n)) (b + 1) (11 * i + v) (pB (d v) k n (lastT t))) := by
      unfold dm136_52
      rw [d132]
      simp only [bu_some]
      rw [d60 n1 h8 hi (by omega)]
      simp only [bu_some]
      by_cases q : lastT t < pA (d u) k n
      · rw [if_pos q, b01_f (fun z => z q)]
        rfl
      · rw [if_neg q, b01_t q]
        rfl
    refine ⟨_, ?_, h1.set (by omega), ((ch.refl _ s).wI (by omega)).wI (by omega)⟩
    unfold dm136_7
    rw [CR.f hn h8 hi h hu]
    simp only [bu_some]
    rw [e1]
    unfold dm136_16
    rw [CR.f hn h8 hi h hv]
    simp only [bu_some]
    have p34 : dm136_34 b (Int32.ofNat i) t (pA (d u) k n) (d v) (if d v < k then 0 else n) s = some (b01 (¬ lastT t < pA (d u) k n), wI (wI s (b + 1) (11 * i + u) (pA (d u) k n)) (b + 1) (11 * i + v) (pB (d v) k n (lastT t))) := by
      unfold dm136_34
      have ev : d v + (if d v < k then 0 else n) = pA (d v) k n := by
        unfold pA
        split <;> rfl
      rw [ev, e2]
      unfold dm136_43
      rw [d60 hn h8 hi (by omega)]
      simp only [bu_some]
      rw [e3, p52]
    have p25 : dm136_25 b (Int32.ofNat i) t k n (d v) (d u) (if d u < k then 0 else n) s = some (b01 (¬ lastT t < pA (d u) k n), wI (wI s (b + 1) (11 * i + u) (pA (d u) k n)) (b + 1) (11 * i + v) (pB (d v) k n (lastT t))) := by
      unfold dm136_25
      have eu : d u + (if d u < k then 0 else n) = pA (d u) k n := by
        unfold pA
        split <;> rfl
      rw [eu, ← p34]
      split <;> rfl
    rw [← p25]
    split <;> rfl
  unfold dm136
  by_cases ht : t = 0
  · have eA : wA t = 4 := if_pos ht
    have eB : wB t = 6 := if_pos ht
    rw [if_pos ht, eA, eB]
    exact chain 4 6 (by omega) (by omega) (fun r => by rw [if_pos ht]; rfl) (fun _ _ => by rw [if_pos ht]; rfl) (fun _ _ _ => by rw [if_pos ht]; rfl) (by omega)
  · have eA : wA t = 3 := if_neg ht
    have eB : wB t = 5 := if_neg ht
    rw [if_neg ht, eA, eB]
    exact chain 3 5 (by omega) (by omega) (fun r => by rw [if_neg ht]; rfl) (fun _ _ => by rw [if_neg ht]; rfl) (fun _ _ _ => by rw [if_neg ht]; rfl) (by omega)
set_option maxRecDepth 100000 in
theorem d135 {s : aS} {b N i : Nat} {d : Nd} {t k n : Int32} (hn : sI s b 2 = Int32.ofNat N) (h8 : N ≤ 128) (hi : i < N) (h : CR s b i d) : ∃ s', dm135 b (Int32.ofNat i) t k n s = some (b01 (¬ (¬ d (wA t) < k ∧ d (wB t) < k + n)), s') ∧ CR s' b i (setN (setN d (wA t) (tA (d (wA t)) k n)) (wB t) (tB (d (wB t)) k n)) ∧ ch (fun a q => a = b + 1 ∧ 11 * i ≤ q ∧ q < 11 * i + 11) s s' := by
  have chain : ∀ u v : Nat, u < 9 → v < 9 → (∀ r, (if t = 0 then dm135_16 b (Int32.ofNat i) t k n r b (Int32.ofNat i) 6 s else dm135_16 b (Int32.ofNat i) t k n r b (Int32.ofNat i) 5 s) = dm135_16 b (Int32.ofNat i) t k n r b (Int32.ofNat i) (Int32.ofNat v) s) → (∀ x5 x6 x8, (if t = 0 then dm135_59 b (Int32.ofNat i) t x5 x6 x8 b (Int32.ofNat i) 4 s else dm135_59 b (Int32.ofNat i) t x5 x6 x8 b (Int32.ofNat i) 3 s) = dm135_59 b (Int32.ofNat i) t x5 x6 x8 b (Int32.ofNat i) (Int32.ofNat u) s) → (∀ x6 x8 s1, (if t = 0 then dm135_68 x6 x8 b (Int32.ofNat i) 6 s1 else dm135_68 x6 x8 b (Int32.ofNat i) 5 s1) = dm135_68 x6 x8 b (Int32.ofNat i) (Int32.ofNat v) s1) → ∃ s', dm135_7 b (Int32.ofNat i) t k n b (Int32.ofNat i) (Int32.ofNat u) s = some (b01 (¬ (¬ d u < k ∧ d v < k + n)), s') ∧ CR s' b i (setN (setN d u (tA (d u) k n)) v (tB (d v) k n)) ∧ ch (fun a q => a = b + 1 ∧ 11 * i ≤ q ∧ q < 11 * i + 11) s s' := by
    intro u v hu hv e1 e2 e3
    have n1 : ∀ y, sI (wI s (b + 1) (11 * i + u) y) b 2 = Int32.ofNat N := fun y => (sI_wI _ _ _ _ _ _).trans ((if_neg (by omega)).trans hn)
    have p52 : ∀ x5 x6 x8 : Int32, (x8 = 0 ∨ x8 = 1) → dm135_52 b (Int32.ofNat i) t x5 x6 x8 s = some (x8, wI (wI s (b + 1) (11 * i + u) x5) (b + 1) (11 * i + v) x6) := by
      intro x5 x6 x8 h01
      unfold dm135_52
      rw [e2]
      unfold dm135_59
      rw [d60 hn h8 hi (by omega)]
      simp only [bu_some]
      rw [e3]
      unfold dm135_68
      rw [d60 (n1 _) h8 hi (by omega)]
      simp only [bu_some]
      rw [if_pos h01]
    have p41 : ∀ x5 x8 : Int32, (x8 = 0 ∨ x8 = 1) → dm135_41 b (Int32.ofNat i) t k n x5 (d v) x8 s = some (x8, wI (wI s (b + 1) (11 * i + u) x5) (b + 1) (11 * i + v) (tB (d v) k n)) := by
      intro x5 x8 h01
      unfold dm135_41 tB
      by_cases q : d v < k
      · rw [if_pos q, if_pos q, p52 _ _ _ h01]
      · rw [if_neg q, if_neg q, p52 _ _ _ h01]
    have p31 : ∀ x8 : Int32, (x8 = 0 ∨ x8 = 1) → dm135_31 b (Int32.ofNat i) t k n (d u) (d v) x8 s = some (x8, wI (wI s (b + 1) (11 * i + u) (tA (d u) k n)) (b + 1) (11 * i + v) (tB (d v) k n)) := by
      intro x8 h01
      unfold dm135_31 tA
      by_cases q : d u < k
      · rw [if_pos q, if_pos q, p41 _ _ h01]
      · rw [if_neg q, if_neg q, p41 _ _ h01]
    refine ⟨wI (wI s (b + 1) (11 * i + u) (tA (d u) k n)) (b + 1) (11 * i + v) (tB (d v) k n), ?_, (h.set (by omega)).set (by omega), ((ch.refl _ s).wI (by omega)).wI (by omega)⟩
    unfold dm135_7
    rw [CR.f hn h8 hi h hu]
    simp only [bu_some]
    rw [e1]
    unfold dm135_16 dm135_28
    rw [CR.f hn h8 hi h hv]
    simp only [bu_some]
    rw [p31 1 (Or.inr rfl), p31 0 (Or.inl rfl)]
    by_cases q1 : d u < k
    · rw [if_pos q1, b01_t]
      exact fun z => z.1 q1
    · rw [if_neg q1]
      by_cases q2 : d v < k + n
      · rw [if_pos q2, b01_f]
        exact fun z => z ⟨q1, q2⟩
      · rw [if_neg q2, b01_t]
        exact fun z => q2 z.2
  unfold dm135
  by_cases ht : t = 0
  · have eA : wA t = 4 := if_pos ht
    have eB : wB t = 6 := if_pos ht
    rw [if_pos ht, eA, eB]
    exact chain 4 6 (by omega) (by omega) (fun r => by rw [if_pos ht]; rfl) (fun _ _ _ => by rw [if_pos ht]; rfl) (fun _ _ _ => by rw [if_pos ht]; rfl)
  · have eA : wA t = 3 := if_neg ht
    have eB : wB t = 5 := if_neg ht
    rw [if_neg ht, eA, eB]
    exact chain 3 5 (by omega) (by omega) (fun r => by rw [if_neg ht]; rfl) (fun _ _ _ => by rw [if_neg ht]; rfl) (fun _ _ _ => by rw [if_neg ht]; rfl)
set_option maxRecDepth 100000 in
/-- one node: what is on the sheet is shifted -/
noncomputable def shN (t k n : Int32) (d : Nd) : Nd :=
  if 0 ≤ n then (if b01 (¬ lastT t < pA (d (wA t)) k n) = 0 then loF else setN (setN d (wA t) (pA (d (wA t)) k n)) (wB t) (pB (d (wB t)) k n (lastT t)))
  else (if b01 (¬ (¬ d (wA t) < k ∧ d (wB t) < k + -n)) = 0 then loF else setN (setN d (wA t) (tA (d (wA t)) k (-n))) (wB t) (tB (d (wB t)) k (-n)))
set_option maxRecDepth 100000 in
noncomputable def shK (t k n : Int32) (d : Nd) (c : Int32) : Int32 :=
  if 0 ≤ n then (if b01 (¬ lastT t < pA (d (wA t)) k n) = 0 then c + 1 else c)
  else (if b01 (¬ (¬ d (wA t) < k ∧ d (wB t) < k + -n)) = 0 then c + 1 else c)
set_option maxRecDepth 100000 in
theorem d134n {s : aS} {b N i : Nat} {d : Nd} {x y t k n c : Int32} {k4 : Nat → Int32 → Int32 → Int32 → Int32 → Int32 → Int32 → Int32 → aS → Option (Int32 × aS)} (hn : sI s b 2 = Int32.ofNat N) (h8 : N ≤ 128) (hi : i < N) (h : CR s b i d) : ∃ s', dm134_25 k4 b x y t k n c (Int32.ofNat i) s = k4 b x y t k n (shK t k n d c) (Int32.ofNat (i + 1)) s' ∧ CR s' b i (shN t k n d) ∧ ch (fun a q => a = b + 1 ∧ 11 * i ≤ q ∧ q < 11 * i + 11) s s' := by
  have fin : ∀ (s1 : aS) (e : Nd) (p : Prop), CR s1 b i e → ch (fun a q => a = b + 1 ∧ 11 * i ≤ q ∧ q < 11 * i + 11) s s1 → ∃ s', dm134_41 k4 b x y t k n c (Int32.ofNat i) (b01 p) s1 = k4 b x y t k n (if b01 p = 0 then c + 1 else c) (Int32.ofNat (i + 1)) s' ∧ CR s' b i (if b01 p = 0 then loF else e) ∧ ch (fun a q => a = b + 1 ∧ 11 * i ≤ q ∧ q < 11 * i + 11) s s' := by
    intro s1 e p h1 hc
    unfold dm134_41 dm134_48
    rw [ofNat_succ (by omega)]
    by_cases q : b01 p = 0
    · rw [if_pos q, if_pos q, if_pos q]
      obtain ⟨s', g1, g2, g3⟩ := d58 ((hc.i (by omega)).trans hn) h8 hi
      rw [g1]
      exact ⟨s', rfl, fun w hw => g2 w (by omega), hc.trans g3⟩
    · rw [if_neg q, if_neg q, if_neg q]
      exact ⟨s1, rfl, h1, hc⟩
  unfold dm134_25 shK shN
  by_cases q : 0 ≤ n
  · rw [if_pos q, if_pos q, if_pos q]
    obtain ⟨s1, g1, g2, g3⟩ := d136 (t := t) (k := k) (n := n) hn h8 hi h
    rw [g1]
    simp only [bv_some]
    exact fin s1 _ _ g2 g3
  · rw [if_neg q, if_neg q, if_neg q]
    obtain ⟨s1, g1, g2, g3⟩ := d135 (t := t) (k := k) (n := -n) hn h8 hi h
    rw [g1]
    simp only [bv_some]
    exact fin s1 _ _ g2 g3
end
section
/-! shiftOn: all nodes of a tree -/
def onC (x y : Int32) (d : Nd) : Prop := isRf d ∧ (d 2 = x ∨ (d 2 = -1 ∧ y ≠ 0))
set_option maxRecDepth 100000 in
noncomputable def shF (x y t k n : Int32) (d : Nd) : Nd := if b01 (onC x y d) = 0 then d else shN t k n d
set_option maxRecDepth 100000 in
noncomputable def shG (x y t k n : Int32) (d : Nd) (c : Int32) : Int32 := if b01 (onC x y d) = 0 then c else shK t k n d c
set_option maxRecDepth 100000 in
noncomputable def scC (x y t k n : Int32) (F : Nat → Nd) : Nat → Nat → Int32 → Int32
  | 0, _, c => c
  | q + 1, j, c => scC x y t k n F q (j + 1) (shG x y t k n (F j) c)
set_option maxRecDepth 100000 in
theorem d134l {b N : Nat} {x y t k n : Int32} {F : Nat → Nd} : ∀ (q j z : Nat) (c : Int32) (s : aS), j + q = N → q < z → TF9 s b N (fun i => if i < j then shF x y t k n (F i) else F i) → ∃ s', dm134_4 z b x y t k n c (Int32.ofNat j) s = some (scC x y t k n F q j c, s') ∧ TF9 s' b N (fun i => shF x y t k n (F i)) ∧ ch (fun a _ => a = b + 1) s s' := by
  intro q
  induction q with
  | zero =>
    intro j z c s hj hz h
    obtain ⟨z, rfl⟩ : ∃ a, z = a + 1 := ⟨z - 1, by omega⟩
    have h8 := h.2.1
    rw [dm134_4, h.1, if_pos (by rw [iLe, iOfNat (by omega), iOfNat (by omega)]; omega)]
    exact ⟨s, rfl, h.cg fun i hi w hw => by show (if i < j then shF x y t k n (F i) else F i) w = _; rw [if_pos (by omega)], ch.refl _ s⟩
  | succ q ih =>
    intro j z c s hj hz h
    obtain ⟨z, rfl⟩ : ∃ a, z = a + 1 := ⟨z - 1, by omega⟩
    have h8 := h.2.1
    have hr : CR s b j (F j) := by
      have := h.row (i := j) (by omega)
      have : CR s b j (if j < j then shF x y t k n (F j) else F j) := this
      rw [if_neg (by omega)] at this
      exact this
    have f2 : dm57 b (Int32.ofNat j) 2 s = some (F j 2) := CR.f (w := 2) h.1 h8 (by omega) hr (by omega)
    have next : ∀ (s1 : aS) (c1 : Int32), c1 = shG x y t k n (F j) c → TF9 s1 b N (fun i => if i = j then shF x y t k n (F j) else if i < j then shF x y t k n (F i) else F i) → ch (fun a _ => a = b + 1) s s1 → ∃ s', dm134_4 z b x y t k n c1 (Int32.ofNat (j + 1)) s1 = some (scC x y t k n F q (j + 1) (shG x y t k n (F j) c), s') ∧ TF9 s' b N (fun i => shF x y t k n (F i)) ∧ ch (fun a _ => a = b + 1) s s' := by
      intro s1 c1 hc1 t1 cc1
      subst hc1
      obtain ⟨s', a1, a2, a3⟩ := ih (j + 1) z (shG x y t k n (F j) c) s1 (by omega) (by omega) (t1.cg fun i hi w hw => by
        show (if i = j then shF x y t k n (F j) else if i < j then shF x y t k n (F i) else F i) w = (if i < j + 1 then shF x y t k n (F i) else F i) w
        by_cases e : i = j
        · subst e
          rw [if_pos rfl, if_pos (by omega)]
        · rw [if_neg e]
          by_cases e2 : i < j
          · rw [if_pos e2, if_pos (by omega)]
          · rw [if_neg e2, if_neg (by omega)])
      exact ⟨s', a1, a2, cc1.trans a3⟩
    have no : ¬ onC x y (F j) → ∃ s', dm134_48 (dm134_4 z) b x y t k n c (Int32.ofNat j) s = some (scC x y t k n F q (j + 1) (shG x y t k n (F j) c), s') ∧ TF9 s' b N (fun i => shF x y t k n (F i)) ∧ ch (fun a _ => a = b + 1) s s' := by
      intro hq
      unfold dm134_48
      rw [ofNat_succ (by omega)]
      refine next s c (by unfold shG; rw [b01_f hq, if_pos rfl]) (h.cg fun i hi w hw => ?_) (ch.refl _ s)
      show (if i < j then shF x y t k n (F i) else F i) w = (if i = j then shF x y t k n (F j) else if i < j then shF x y t k n (F i) else F i) w
      by_cases e : i = j
      · subst e
        rw [if_neg (by omega), if_pos rfl]
        unfold shF
        rw [b01_f hq, if_pos rfl]
      · rw [if_neg e]
    have yes : onC x y (F j) → ∃ s', dm134_25 (dm134_4 z) b x y t k n c (Int32.ofNat j) s = some (scC x y t k n F q (j + 1) (shG x y t k n (F j) c), s') ∧ TF9 s' b N (fun i => shF x y t k n (F i)) ∧ ch (fun a _ => a = b + 1) s s' := by
      intro hq
      obtain ⟨s1, g1, g2, g3⟩ := d134n (x := x) (y := y) (t := t) (k := k) (n := n) (c := c) (k4 := dm134_4 z) h.1 h8 (by omega : j < N) hr
      rw [g1]
      refine next s1 _ (by unfold shG; rw [b01_t hq, if_neg (by decide)]) (h.up (g := shF x y t k n (F j)) (by omega) (fun w hw => ?_) g3) (g3.mono fun a q z => z.1)
      unfold shF
      rw [b01_t hq, if_neg (by decide)]
      exact g2 w hw
    rw [dm134_4, h.1, if_neg (by rw [iLe, iOfNat (by omega), iOfNat (by omega)]; omega), f2, d129 h.1 h8 (by omega) hr]
    simp only [bu_some]
    show ∃ s', _ = some (scC x y t k n F q (j + 1) (shG x y t k n (F j) c), s') ∧ _
    by_cases hf : isRf (F j)
    · rw [b01_t hf, if_neg (by decide)]
      by_cases c1 : F j 2 = x
      · rw [if_pos c1]
        exact yes ⟨hf, Or.inl c1⟩
      · rw [if_neg c1]
        by_cases c2 : F j 2 = -1
        · rw [if_pos c2]
          by_cases c3 : y = 0
          · rw [if_pos c3]
            refine no fun z => ?_
            rcases z.2 with q | q
            · exact c1 q
            · exact q.2 c3
          · rw [if_neg c3]
            exact yes ⟨hf, Or.inr ⟨c2, c3⟩⟩
        · rw [if_neg c2]
          refine no fun z => ?_
          rcases z.2 with q | q
          · exact c1 q
          · exact c2 q.1
    · rw [b01_f hf, if_pos rfl]
      exact no fun z => hf z.1
set_option maxRecDepth 100000 in
theorem d134 {s : aS} {b : Nat} {L : List Nd} {x y t k n : Int32} (h : TC s b L) : ∃ s', dm134 b x y t k n s = some (scC x y t k n (fun i => L.getD i (fun _ => 0)) L.length 0 0, s') ∧ TC s' b (L.map (shF x y t k n)) ∧ ch (fun a _ => a = b + 1) s s' := by
  have h8 := h.2.1
  obtain ⟨s', g1, g2, g3⟩ := d134l (b := b) (x := x) (y := y) (t := t) (k := k) (n := n) (F := fun i => L.getD i (fun _ => 0)) L.length 0 5000 0 s (by omega) (by omega) (h.f.cg fun i hi w hw => by
    show L.getD i (fun _ => 0) w = (if i < 0 then _ else L.getD i (fun _ => 0)) w
    rw [if_neg (by omega)])
  refine ⟨s', g1, g2.c (by rw [List.length_map]) fun i hi w hw => ?_, g3⟩
  rw [List.length_map] at hi
  show shF x y t k n (L.getD i (fun _ => 0)) w = _
  rw [List.getElem_map, List.getD, List.getElem?_eq_getElem hi]
  rfl
end
section
/-! shifted nodes are the same -/
set_option maxRecDepth 100000 in
theorem i_sub_neg (x n : Int32) : x - -n = x + n := by rw [Int32.sub_eq_add_neg, Int32.neg_neg]
set_option maxRecDepth 100000 in
theorem i_add_neg (k n : Int32) : k + -n = k - n := (Int32.sub_eq_add_neg k n).symm
set_option maxRecDepth 100000 in
theorem lt_not_le {x y : Int32} : x < y ↔ ¬ y ≤ x := by
  rw [iLt, iLe]
  omega
/-- numbers that stand in the rows, or columns, that there are -/
def rgP (x m : Int32) : Prop := 1 ≤ x.toInt ∧ x.toInt ≤ m.toInt
set_option maxRecDepth 100000 in
theorem sh_put {x y k n m : Int32} (hm : m.toInt ≤ 1048576) (hx : rgP x m) (hy : rgP y m) (hxy : x.toInt ≤ y.toInt) (hk : rgP k m) (hn : 0 ≤ n.toInt ∧ n.toInt ≤ 1048576) : pA x k n = fB x k n ∧ pB y k n m = lB y k n m ∧ (m < pA x k n ↔ (lB y k n m < fB x k n ∨ ¬ fB x k n ≤ m)) := by
  unfold rgP at hx hy hk
  have n0 : 0 ≤ n := by rw [iLe]; exact hn.1
  have n1 : ¬ n < 0 := by rw [iLt]; show ¬ n.toInt < 0; omega
  have ex : (x + n).toInt = x.toInt + n.toInt := iAdd (by omega) (by omega)
  have ey : (y + n).toInt = y.toInt + n.toInt := iAdd (by omega) (by omega)
  have fx : pA x k n = fB x k n := by
    unfold pA fB
    by_cases q : x < k
    · rw [if_pos q, if_neg (lt_not_le.mp q), Int32.add_zero]
    · rw [if_neg q, if_pos (Classical.byContradiction fun z => q (lt_not_le.mpr z)), if_neg n1]
  have fy : pA y k n = fB y k n := by
    unfold pA fB
    by_cases q : y < k
    · rw [if_pos q, if_neg (lt_not_le.mp q), Int32.add_zero]
    · rw [if_neg q, if_pos (Classical.byContradiction fun z => q (lt_not_le.mpr z)), if_neg n1]
  have vx : (fB x k n).toInt = if k.toInt ≤ x.toInt then x.toInt + n.toInt else x.toInt := by
    unfold fB
    by_cases q : k ≤ x
    · rw [if_pos q, if_neg n1, if_pos (iLe.mp q), ex]
    · rw [if_neg q, if_neg (fun z => q (iLe.mpr z))]
  have vy : (lB y k n m).toInt = if k.toInt ≤ y.toInt then (if y.toInt + n.toInt ≤ m.toInt then y.toInt + n.toInt else m.toInt) else y.toInt := by
    unfold lB
    by_cases q : k ≤ y
    · rw [if_pos q, if_pos n0, if_pos (iLe.mp q)]
      by_cases q2 : y + n ≤ m
      · rw [if_pos q2, if_pos (by rw [← ey]; exact iLe.mp q2), ey]
      · rw [if_neg q2, if_neg (fun z => q2 (iLe.mpr (by rw [ey]; exact z)))]
    · rw [if_neg q, if_neg (fun z => q (iLe.mpr z))]
  refine ⟨fx, ?_, ?_⟩
  · unfold pB
    rw [fy]
    unfold fB lB
    by_cases q : k ≤ y
    · rw [if_pos q, if_neg n1, if_pos q, if_pos n0]
      by_cases q2 : y + n ≤ m
      · rw [if_pos q2, if_neg (fun z => lt_not_le.mp z q2)]
      · rw [if_neg q2, if_pos (lt_not_le.mpr q2)]
    · rw [if_neg q, if_neg q, if_neg]
      rw [iLt]
      omega
  · rw [fx, iLt, iLt, iLe, vx, vy]
    split <;> split <;> (try split) <;> omega
set_option maxRecDepth 100000 in
theorem sh_take {x y k n m : Int32} (hm : m.toInt ≤ 1048576) (hx : rgP x m) (hy : rgP y m) (hxy : x.toInt ≤ y.toInt) (hk : rgP k m) (hn : -1048576 ≤ n.toInt ∧ n.toInt < 0) : tA x k (-n) = fB x k n ∧ tB y k (-n) = lB y k n m ∧ ((¬ x < k ∧ y < k + -n) ↔ (lB y k n m < fB x k n ∨ ¬ fB x k n ≤ m)) := by
  unfold rgP at hx hy hk
  have n0 : ¬ 0 ≤ n := by rw [iLe]; show ¬ (0 : Int) ≤ n.toInt; omega
  have n1 : n < 0 := by rw [iLt]; exact hn.2
  have ex : (x + n).toInt = x.toInt + n.toInt := iAdd (by omega) (by omega)
  have ey : (y + n).toInt = y.toInt + n.toInt := iAdd (by omega) (by omega)
  have ek : (k - n).toInt = k.toInt - n.toInt := iSub (by omega) (by omega)
  have e1 : (k - 1).toInt = k.toInt - 1 := iSub (y := 1) (by show _ ≤ k.toInt - 1; omega) (by show k.toInt - 1 ≤ _; omega)
  have vx : (fB x k n).toInt = if k.toInt ≤ x.toInt then (if k.toInt - n.toInt ≤ x.toInt then x.toInt + n.toInt else k.toInt) else x.toInt := by
    unfold fB
    by_cases q : k ≤ x
    · rw [if_pos q, if_pos n1, if_pos (iLe.mp q)]
      by_cases q2 : k - n ≤ x
      · rw [if_pos q2, if_pos (by rw [← ek]; exact iLe.mp q2), ex]
      · rw [if_neg q2, if_neg (fun z => q2 (iLe.mpr (by rw [ek]; exact z)))]
    · rw [if_neg q, if_neg (fun z => q (iLe.mpr z))]
  have vy : (lB y k n m).toInt = if k.toInt ≤ y.toInt then (if k.toInt - n.toInt ≤ y.toInt then y.toInt + n.toInt else k.toInt - 1) else y.toInt := by
    unfold lB
    by_cases q : k ≤ y
    · rw [if_pos q, if_neg n0, if_pos (iLe.mp q)]
      by_cases q2 : k - n ≤ y
      · rw [if_pos q2, if_pos (by rw [← ek]; exact iLe.mp q2), ey]
      · rw [if_neg q2, if_neg (fun z => q2 (iLe.mpr (by rw [ek]; exact z))), e1]
    · rw [if_neg q, if_neg (fun z => q (iLe.mpr z))]
  refine ⟨?_, ?_, ?_⟩
  · unfold tA fB
    rw [i_sub_neg]
    by_cases q : x < k
    · rw [if_pos q, if_neg (lt_not_le.mp q)]
    · rw [if_neg q, if_pos (Classical.byContradiction fun z => q (lt_not_le.mpr z)), if_pos n1]
      by_cases q2 : k - n ≤ x
      · rw [if_pos q2, if_neg]
        rw [iLe, ek] at q2
        rw [iLt, ex]
        omega
      · rw [if_neg q2, if_pos]
        rw [iLe, ek] at q2
        rw [iLt, ex]
        omega
  · unfold tB lB
    rw [i_sub_neg]
    by_cases q : y < k
    · rw [if_pos q, if_neg (lt_not_le.mp q)]
    · rw [if_neg q, if_pos (Classical.byContradiction fun z => q (lt_not_le.mpr z)), if_neg n0]
      by_cases q2 : k - n ≤ y
      · rw [if_pos q2, if_neg]
        rw [iLe, ek] at q2
        rw [iLt, ey, e1]
        omega
      · rw [if_neg q2]
        rw [iLe, ek] at q2
        by_cases q3 : y + n < k - 1
        · rw [if_pos q3]
        · rw [if_neg q3]
          apply Int32.toInt_inj.mp
          rw [iLt, ey, e1] at q3
          rw [ey, e1]
          omega
  · rw [i_add_neg, iLt, iLt, iLt, iLe, ek, vx, vy]
    split <;> split <;> (try split) <;> (try split) <;> omega
end
section
/-! shifted nodes are the same, and as many are lost -/
def ndS (d : Nd) : Prop := -1 ≤ (d 2).toInt ∧ (isRf d → d 1 = 0 ∧ rgP (d 3) 1048576 ∧ rgP (d 5) 1048576 ∧ (d 3).toInt ≤ (d 5).toInt ∧ rgP (d 4) 16384 ∧ rgP (d 6) 16384 ∧ (d 4).toInt ≤ (d 6).toInt)
set_option maxRecDepth 100000 in
theorem on_eq {x y ho : Int32} {d : Nd} (hx : 0 ≤ x.toInt) (h : -1 ≤ (d 2).toInt) (hy : y = if ho = x then 1 else 0) : onC x y d ↔ (isRf d ∧ onS x ho d) := by
  have m1 : d 2 = -1 ↔ (d 2).toInt = -1 := iEq
  have g0 : 0 ≤ d 2 ↔ 0 ≤ (d 2).toInt := iLe
  have ex : d 2 = x ↔ (d 2).toInt = x.toInt := iEq
  have y0 : y ≠ 0 ↔ ho = x := by
    rw [hy]
    by_cases q : ho = x
    · rw [if_pos q]
      exact ⟨fun _ => q, fun _ => by decide⟩
    · rw [if_neg q]
      exact ⟨fun z => absurd rfl z, fun z => absurd z q⟩
  unfold onC onS
  refine ⟨fun z => ⟨z.1, ?_⟩, fun z => ⟨z.1, ?_⟩⟩
  · rcases z.2 with q | ⟨q1, q2⟩
    · exact Or.inl ⟨g0.mpr (by have := ex.mp q; omega), q⟩
    · exact Or.inr ⟨fun w => by have := g0.mp w; have := m1.mp q1; omega, y0.mp q2⟩
  · rcases z.2 with ⟨q1, q2⟩ | ⟨q1, q2⟩
    · exact Or.inl q2
    · refine Or.inr ⟨m1.mpr ?_, y0.mpr q2⟩
      have : ¬ 0 ≤ (d 2).toInt := fun w => q1 (g0.mpr w)
      omega
set_option maxRecDepth 100000 in
theorem last_le (t : Int32) : (lastT t).toInt ≤ 1048576 := by
  unfold lastT
  split <;> decide
set_option maxRecDepth 100000 in
theorem sh_core {t k n : Int32} {d : Nd} (h : isRf d → d 1 = 0 ∧ rgP (d 3) 1048576 ∧ rgP (d 5) 1048576 ∧ (d 3).toInt ≤ (d 5).toInt ∧ rgP (d 4) 16384 ∧ rgP (d 6) 16384 ∧ (d 4).toInt ≤ (d 6).toInt) (hf : isRf d) (hk : rgP k (lastT t)) (hn : wayP n) : shN t k n d = (if b01 (loS t k n (lastT t) d) = 0 then setN (setN d (wA t) (fB (d (wA t)) k n)) (wB t) (lB (d (wB t)) k n (lastT t)) else loM d) ∧ ∀ c, shK t k n d c = if b01 (loS t k n (lastT t) d) = 0 then c else c + 1 := by
  obtain ⟨d1, r3, r5, r35, r4, r6, r46⟩ := h hf
  have hr : rgP (d (wA t)) (lastT t) ∧ rgP (d (wB t)) (lastT t) ∧ (d (wA t)).toInt ≤ (d (wB t)).toInt := by
    by_cases ht : t = 0
    · rw [show wA t = 4 from if_pos ht, show wB t = 6 from if_pos ht, show lastT t = 16384 from if_pos ht]
      exact ⟨r4, r6, r46⟩
    · rw [show wA t = 3 from if_neg ht, show wB t = 5 from if_neg ht, show lastT t = 1048576 from if_neg ht]
      exact ⟨r3, r5, r35⟩
  obtain ⟨ra, rb, rab⟩ := hr
  have hm := last_le t
  unfold wayP at hn
  unfold shN shK loS
  rw [lo_eq d1]
  by_cases q0 : 0 ≤ n
  · have q1 : 0 ≤ n.toInt := iLe.mp q0
    obtain ⟨e1, e2, e3⟩ := sh_put hm ra rb rab hk ⟨q1, hn.2⟩
    simp only [if_pos q0]
    rw [e1] at e3 ⊢
    rw [e2]
    by_cases L : lastT t < fB (d (wA t)) k n
    · rw [b01_t (e3.mp L), b01_f (fun z => z L)]
      exact ⟨rfl, fun c => rfl⟩
    · rw [b01_f (fun z => L (e3.mpr z)), b01_t L]
      exact ⟨rfl, fun c => rfl⟩
  · have q1 : ¬ 0 ≤ n.toInt := fun z => q0 (iLe.mpr z)
    obtain ⟨e1, e2, e3⟩ := sh_take hm ra rb rab hk ⟨hn.1, by omega⟩
    simp only [if_neg q0]
    rw [e1, e2]
    by_cases L : ¬ d (wA t) < k ∧ d (wB t) < k + -n
    · rw [b01_t (e3.mp L), b01_f (fun z => z L)]
      exact ⟨rfl, fun c => rfl⟩
    · rw [b01_f (fun z => L (e3.mpr z)), b01_t L]
      exact ⟨rfl, fun c => rfl⟩
set_option maxRecDepth 100000 in
theorem sh_eq {x y t k n ho : Int32} {d : Nd} (hx : 0 ≤ x.toInt) (h : ndS d) (hy : y = if ho = x then 1 else 0) (hk : rgP k (lastT t)) (hn : wayP n) : shF x y t k n d = shM x t k n (lastT t) ho d ∧ ∀ c, shG x y t k n d c = shC x t k n (lastT t) ho d c := by
  have hq := on_eq hx h.1 hy
  unfold shF shM shG shC
  rw [b01_c hq]
  by_cases q : isRf d ∧ onS x ho d
  · obtain ⟨c1, c2⟩ := sh_core h.2 q.1 hk hn
    rw [b01_t q, if_neg (show ¬ (1 : Int32) = 0 by decide), if_neg (show ¬ (1 : Int32) = 0 by decide)]
    refine ⟨c1, fun c => ?_⟩
    rw [if_neg (show ¬ (1 : Int32) = 0 by decide), if_neg (show ¬ (1 : Int32) = 0 by decide)]
    exact c2 c
  · rw [b01_f q, if_pos rfl, if_pos rfl]
    refine ⟨rfl, fun c => ?_⟩
    rw [if_pos rfl, if_pos rfl]
set_option maxRecDepth 100000 in
theorem scn_eq {x y t k n ho : Int32} {F : Nat → Nd} (hx : 0 ≤ x.toInt) (hy : y = if ho = x then 1 else 0) (hk : rgP k (lastT t)) (hn : wayP n) : ∀ (q j : Nat) (c : Int32), (∀ i, j ≤ i → i < j + q → ndS (F i)) → scC x y t k n F q j c = scM x t k n (lastT t) ho F q j c := by
  intro q
  induction q with
  | zero => intro j c _; rfl
  | succ q ih =>
    intro j c h
    show scC x y t k n F q (j + 1) (shG x y t k n (F j) c) = scM x t k n (lastT t) ho F q (j + 1) (shC x t k n (lastT t) ho (F j) c)
    rw [(sh_eq hx (h j (by omega) (by omega)) hy hk hn).2 c]
    exact ih (j + 1) _ fun i h1 h2 => h i (by omega) (by omega)
end
section
/-! shift as a whole in FormulaTrees -/
def hmY (h x : Int32) : Int32 := if h = x then 1 else 0
set_option maxRecDepth 100000 in
noncomputable def fsShC (x t k n : Int32) (fs : Nat → Option Fm) : Nat → Option Fm := fun f => match fs f with
  | none => none
  | some (h, L) => some (h, L.map (shF x (hmY h x) t k n))
set_option maxRecDepth 100000 in
noncomputable def caC (x t k n : Int32) (fs : Nat → Option Fm) : Nat → Nat → Int32 → Int32
  | 0, _, c => c
  | q + 1, f, c => caC x t k n fs q (f + 1) (match fs f with
    | none => c
    | some (h, L) => c + scC x (hmY h x) t k n (fun i => L.getD i (fun _ => 0)) L.length 0 0)
set_option maxRecDepth 100000 in
theorem cf_key {tt : Nat} {cc : Nat → Nat → Int32} {s0 s s1 : aS} {b f g : Nat} {F : Option Fm} (hl : Ly tt cc s0) (h0 : ∀ c, aK s c 3 → aK s0 c 3) (hb : aK s0 b 3) (hf : sR s 100 f = .ref b) (hff : f < 8) (hg : g < 8) (hfg : g ≠ f) (ht : TD s) (hc : ch (fun a _ => a = b + 1) s s1) (h : (F = none → sI s 101 g = -1) ∧ ∀ h9 L9, F = some (h9, L9) → sI s 101 g = h9 ∧ h9 ≠ -1 ∧ ∃ b, sR s 100 g = .ref b ∧ aK s b 3 ∧ TC s b L9) : (F = none → sI s1 101 g = -1) ∧ ∀ h9 L9, F = some (h9, L9) → sI s1 101 g = h9 ∧ h9 ≠ -1 ∧ ∃ b, sR s1 100 g = .ref b ∧ aK s1 b 3 ∧ TC s1 b L9 := by
  have hat := tr_at hl hb
  refine ⟨fun z => (hc.i (by omega)).trans (h.1 z), fun h9 L9 z => ?_⟩
  obtain ⟨z1, z2, c, z3, z4, z5⟩ := h.2 h9 L9 z
  have hbc : b ≠ c := by
    rintro rfl
    exact hfg (ht.2.1 g f b hg hff z3 hf)
  have z40 := h0 c z4
  have ap := tr_ne hl hb z40 hbc
  exact ⟨(hc.i (by omega)).trans z1, z2, c, (hc.r (by omega)).trans z3, hc.k.mpr z4, z5.of hc (by omega) (fun k => by omega)⟩
set_option maxRecDepth 100000 in
theorem d133l {tt : Nat} {cc : Nat → Nat → Int32} {s0 : aS} {x t k n : Int32} {fs : Nat → Option Fm} (hl : Ly tt cc s0) : ∀ (m f z : Nat) (c : Int32) (s : aS), f + m = 8 → m < z → CF s (fun g => if g < f then fsShC x t k n fs g else fs g) → TD s → ch (fun a _ => a = 103 ∨ 149 ≤ a) s0 s → ∃ s', dm133_29 z x t k n c (Int32.ofNat f) s = some (.inl (some (.int (caC x t k n fs m f c))), s') ∧ CF s' (fsShC x t k n fs) ∧ TD s' ∧ ch (fun a _ => a = 103 ∨ 149 ≤ a) s0 s' := by
  intro m
  induction m with
  | zero =>
    intro f z c s hf hz h ht hc
    obtain ⟨z, rfl⟩ : ∃ q, z = q + 1 := ⟨z - 1, by omega⟩
    rw [dm133_29, if_pos (by rw [iLe, iOfNat (by omega)]; show (8 : Int) ≤ f; omega)]
    refine ⟨s, rfl, fun g hg => ?_, ht, hc⟩
    have := h g hg
    simp only [if_pos (show g < f by omega)] at this
    exact this
  | succ m ih =>
    intro f z c s hf hz h ht hc
    obtain ⟨z, rfl⟩ : ∃ q, z = q + 1 := ⟨z - 1, by omega⟩
    have hff := h f (by omega)
    simp only [if_neg (Nat.lt_irrefl f)] at hff
    have ej : jN (Int32.ofNat f) = f := jN_of (by omega)
    have hbf : aB (Int32.ofNat f) 8 := by rw [aB_iff, iOfNat (by omega)]; omega
    rw [dm133_29, if_neg (by rw [iLe, iOfNat (by omega)]; show ¬ (8 : Int) ≤ f; omega)]
    have ec : caC x t k n fs (m + 1) f c = caC x t k n fs m (f + 1) (match fs f with | none => c | some (h, L) => c + scC x (hmY h x) t k n (fun i => L.getD i (fun _ => 0)) L.length 0 0) := rfl
    rw [ec]
    rcases d54 h (Int32.ofNat f) with ⟨e1, e2⟩ | ⟨ho, L, b, e1, -, e2, e3, e4, e5, e6⟩
    · rw [fAt_n (by omega)] at e1
      simp only [if_neg (Nat.lt_irrefl f)] at e1
      rw [e2, e1]
      simp only [bu_some, vN_null]
      unfold dm133_56
      rw [ofNat_succ (by omega)]
      refine ih (f + 1) z c s (by omega) (by omega) (fun g hg => ?_) ht hc
      by_cases e : g = f
      · subst e
        simp only [if_pos (Nat.lt_succ_self g)]
        have : fsShC x t k n fs g = none := by unfold fsShC; rw [e1]
        rw [this]
        exact ⟨fun _ => hff.1 e1, fun h9 L9 q => by cases q⟩
      · have := h g hg
        by_cases e7 : g < f
        · simp only [if_pos e7] at this
          simp only [if_pos (show g < f + 1 by omega)]
          exact this
        · simp only [if_neg e7] at this
          simp only [if_neg (show ¬ g < f + 1 by omega)]
          exact this
    · rw [fAt_n (by omega)] at e1
      simp only [if_neg (Nat.lt_irrefl f)] at e1
      rw [iOfNat (by omega)] at e5 e6
      have e5 : sR s 100 f = .ref b := e5
      have e6 : sI s 101 f = ho := e6
      have e30 : aK s0 b 3 := hc.k.mp e3
      have hat := tr_at hl e30
      rw [e2, e1]
      simp only [bu_some, vN_ref]
      rw [if_pos e3, if_pos hbf, ej, e6]
      obtain ⟨s1, g1, g2, g3⟩ := d134 (x := x) (y := hmY ho x) (t := t) (k := k) (n := n) e4
      have e50 : dm133_50 (dm133_29 z) x t k n (Int32.ofNat f) c b x (hmY ho x) s = dm133_29 z x t k n (c + scC x (hmY ho x) t k n (fun i => L.getD i (fun _ => 0)) L.length 0 0) (Int32.ofNat (f + 1)) s1 := by
        unfold dm133_50 dm133_56
        rw [g1]
        simp only [bv_some]
        rw [ofNat_succ (by omega)]
      have ey : (if ho = x then dm133_50 (dm133_29 z) x t k n (Int32.ofNat f) c b x 1 s else dm133_50 (dm133_29 z) x t k n (Int32.ofNat f) c b x 0 s) = dm133_50 (dm133_29 z) x t k n (Int32.ofNat f) c b x (hmY ho x) s := by
        unfold hmY
        split <;> rfl
      rw [ey, e50]
      refine ih (f + 1) z _ s1 (by omega) (by omega) (fun g hg => ?_) (ht.of g3 (fun _ => by omega) (by omega)) (hc.trans (g3.mono fun a k q => by omega))
      by_cases e : g = f
      · subst e
        simp only [if_pos (Nat.lt_succ_self g)]
        have : fsShC x t k n fs g = some (ho, L.map (shF x (hmY ho x) t k n)) := by unfold fsShC; rw [e1]
        rw [this]
        refine ⟨fun q => (by cases q), fun h9 L9 q => ?_⟩
        cases q
        exact ⟨(g3.i (by omega)).trans e6, (hff.2 ho L e1).2.1, b, (g3.r (by omega)).trans e5, g3.k.mpr e3, g2⟩
      · have hgg := h g hg
        by_cases e7 : g < f
        · simp only [if_pos e7] at hgg
          simp only [if_pos (show g < f + 1 by omega)]
          exact cf_key hl (fun _ q => hc.k.mp q) e30 e5 (by omega) hg e ht g3 hgg
        · simp only [if_neg e7] at hgg
          simp only [if_neg (show ¬ g < f + 1 by omega)]
          exact cf_key hl (fun _ q => hc.k.mp q) e30 e5 (by omega) hg e ht g3 hgg
set_option maxRecDepth 100000 in
theorem d126 (x : Int32) : dm126 x = some (b01 (wayP x)) := by
  unfold dm126 wayP
  have a1 : x < -1048576 ↔ x.toInt < -1048576 := iLt
  have a2 : 1048576 < x ↔ 1048576 < x.toInt := iLt
  by_cases c1 : x < -1048576
  · rw [if_pos c1, b01_f]
    have := a1.mp c1
    omega
  · rw [if_neg c1]
    have c1 : ¬ x.toInt < -1048576 := fun q => c1 (a1.mpr q)
    by_cases c2 : 1048576 < x
    · rw [if_pos c2, b01_f]
      have := a2.mp c2
      omega
    · rw [if_neg c2, b01_t]
      have c2 : ¬ 1048576 < x.toInt := fun q => c2 (a2.mpr q)
      omega
set_option maxRecDepth 100000 in
theorem d133 {tt : Nat} {cc : Nat → Nat → Int32} {s : aS} {ns : List (List Int32)} {fs : Nat → Option Fm} (hl : Ly tt cc s) (hs : SC s ns) (hn : nsOk ns) (h : CF s fs) (ht : TD s) (x t k n : Int32) :
    (¬ (0 ≤ x.toInt ∧ x.toInt < ns.length) ∧ dm133 x t k n s = some (.inr 2, nw s 82 0)) ∨
    ((0 ≤ x.toInt ∧ x.toInt < ns.length) ∧ ¬ (¬ bey k (lastT t) ∧ wayP n) ∧ dm133 x t k n s = some (.inr 0, nw s 80 0)) ∨
    ((0 ≤ x.toInt ∧ x.toInt < ns.length) ∧ (¬ bey k (lastT t) ∧ wayP n) ∧ ∃ s', dm133 x t k n s = some (.inl (some (.int (caC x t k n fs 8 0 0))), s') ∧ CF s' (fsShC x t k n fs) ∧ TD s' ∧ ch (fun a _ => a = 103 ∨ 149 ≤ a) s s') := by
  have h8 := hn.1
  unfold dm133 dm133_20
  rw [d40 hs h8, d132, d126]
  simp only [bu_some]
  by_cases hx : 0 ≤ x.toInt ∧ x.toInt < ns.length
  · right
    rw [b01_t hx, if_neg (by decide)]
    have a1 : k < 1 ↔ k.toInt < 1 := iLt
    by_cases c1 : k < 1
    · left
      rw [if_pos c1]
      refine ⟨hx, fun q => q.1 ?_, rfl⟩
      have := a1.mp c1
      unfold bey
      omega
    · rw [if_neg c1]
      have c1 : ¬ k.toInt < 1 := fun q => c1 (a1.mpr q)
      by_cases c2 : lastT t < k
      · left
        rw [if_pos c2]
        refine ⟨hx, fun q => q.1 ?_, rfl⟩
        rw [iLt] at c2
        unfold bey
        omega
      · rw [if_neg c2]
        rw [iLt] at c2
        have hb : ¬ bey k (lastT t) := by
          unfold bey
          omega
        by_cases c3 : wayP n
        · right
          rw [b01_t c3, if_neg (by decide)]
          obtain ⟨s', k1, k2, k3, k4⟩ := d133l (x := x) (t := t) (k := k) (n := n) (fs := fs) hl 8 0 5000 0 s (by omega) (by omega) (fun f hf => by
            simp only [if_neg (Nat.not_lt_zero f)]
            exact h f hf) ht (ch.refl _ s)
          exact ⟨hx, ⟨hb, c3⟩, s', k1, k2, k3, k4⟩
        · left
          rw [b01_f c3, if_pos rfl]
          exact ⟨hx, fun q => c3 q.2, rfl⟩
  · left
    rw [b01_f hx, if_pos rfl]
    exact ⟨hx, rfl⟩
end
section
/-! a formula becomes another, moved, in FormulaTrees: the trees stand -/
def CL (s : aS) (fs : Nat → Option Fm) : Prop := ∀ f, f < 8 → fs f ≠ none → ∀ b, sR s 100 f = .ref b → ∃ u, TL s b u
set_option maxRecDepth 100000 in
theorem TL.of {A : Nat → Nat → Prop} {s s1 : aS} {b : Nat} {u : List Int32} (h : TL s b u) (g : ch A s s1) (h1 : ¬ A (b + 2) 1) (h2 : ∀ k, ¬ A (b + 3) k) : TL s1 b u := ⟨h.1.of g h1 h2, h.2⟩
set_option maxRecDepth 100000 in
theorem nt5 {a c y k : Nat} (h1 : a ≠ 101) (h2 : a ≠ c) (h3 : a ≠ c + 1) (h4 : a ≠ c + 2) (h5 : a ≠ c + 3) : ¬ ((a = 101 ∧ k = y) ∨ a = c ∨ a = c + 1 ∨ a = c + 2 ∨ a = c + 3) := by
  rintro (z | z | z | z | z)
  · exact h1 z.1
  · exact h2 z
  · exact h3 z
  · exact h4 z
  · exact h5 z
set_option maxRecDepth 100000 in
theorem d125m {tt : Nat} {cc : Nat → Nat → Int32} {s : aS} {fs : Nat → Option Fm} {x y b c : Nat} {h0 r q ho : Int32} {L : List Nd} (hl : Ly tt cc s) (h : CF s fs) (ht : TD s) (hu : CL s fs) (hx : x < 8) (hy : y < 8) (hL : fs x = some (h0, L)) (hb : sR s 100 x = .ref b) (hc : sR s 100 y = .ref c) (hbk : aK s b 3) (hck : aK s c 3) (hT : TC s b L) (hho : ho ≠ -1) : ∃ s', dm125_46 (Int32.ofNat x) r q ho (Int32.ofNat y) b c s = some (.inl none, s') ∧ CF s' (fsMove x y r q ho (fun r q => onRf (mvC r q)) L fs) ∧ TD s' ∧ CL s' (fsMove x y r q ho (fun r q => onRf (mvC r q)) L fs) ∧ ch (fun a k => (a = 101 ∧ k = y) ∨ a = c ∨ a = c + 1 ∨ a = c + 2 ∨ a = c + 3) s s' := by
  have hac := tr_at hl hck
  obtain ⟨u, hub⟩ := hu x hx (by rw [hL]; exact Option.some_ne_none _) b hb
  have exy : Int32.ofNat y = Int32.ofNat x ↔ y = x := by
    rw [iEq, iOfNat (by omega), iOfNat (by omega)]
    omega
  -- the tree holds what is to be moved
  have pre : ∃ s1, dm125_46 (Int32.ofNat x) r q ho (Int32.ofNat y) b c s = dm125_52 r q ho (Int32.ofNat y) c s1 ∧ TC s1 c L ∧ (∃ u, TL s1 c u) ∧ ch (fun a _ => a = c ∨ a = c + 1 ∨ a = c + 2 ∨ a = c + 3) s s1 := by
    unfold dm125_46
    by_cases e : y = x
    · subst e
      rw [hb] at hc
      cases hc
      rw [if_pos rfl]
      exact ⟨s, rfl, hT, ⟨u, hub⟩, ch.refl _ s⟩
    · have hbc : c ≠ b := by
        rintro rfl
        exact e (ht.2.1 y x c hy hx hc hb)
      obtain ⟨s1, g1, g2, g3, g4⟩ := d127 hl hck hbk hbc hT hub
      rw [if_neg (fun z => e (exy.mp z)), g1]
      exact ⟨s1, rfl, g2, ⟨u, g3⟩, g4⟩
  obtain ⟨s1, e1, t1, ⟨u1, l1⟩, c1⟩ := pre
  obtain ⟨s2, g1, g2, g3⟩ := d128 (r := r) (c := q) t1
  have ejy : jN (Int32.ofNat y) = y := jN_of (by omega)
  have hby : aB (Int32.ofNat y) 8 := by rw [aB_iff, iOfNat (by omega)]; omega
  have e2 : dm125_52 r q ho (Int32.ofNat y) c s1 = some (.inl none, wI s2 101 y ho) := by
    unfold dm125_52
    rw [g1]
    simp only [bu_some]
    rw [if_pos hby, nx_eq, ejy]
  have hA : ch (fun a k => (a = 101 ∧ k = y) ∨ a = c ∨ a = c + 1 ∨ a = c + 2 ∨ a = c + 3) s (wI s2 101 y ho) := ((c1.mono fun a k z => Or.inr z).trans (g3.mono fun a k z => Or.inr (Or.inr (Or.inl z)))).wI (Or.inl ⟨rfl, rfl⟩)
  have oth : ∀ f b9, f < 8 → f ≠ y → sR s 100 f = .ref b9 → aK s b9 3 → (∀ k, ¬ ((b9 = 101 ∧ k = y) ∨ b9 = c ∨ b9 = c + 1 ∨ b9 = c + 2 ∨ b9 = c + 3)) ∧ (∀ k, ¬ ((b9 + 1 = 101 ∧ k = y) ∨ b9 + 1 = c ∨ b9 + 1 = c + 1 ∨ b9 + 1 = c + 2 ∨ b9 + 1 = c + 3)) ∧ (∀ k, ¬ ((b9 + 2 = 101 ∧ k = y) ∨ b9 + 2 = c ∨ b9 + 2 = c + 1 ∨ b9 + 2 = c + 2 ∨ b9 + 2 = c + 3)) ∧ (∀ k, ¬ ((b9 + 3 = 101 ∧ k = y) ∨ b9 + 3 = c ∨ b9 + 3 = c + 1 ∨ b9 + 3 = c + 2 ∨ b9 + 3 = c + 3)) := by
    intro f b9 hf hfy hr9 hk9
    have hne : b9 ≠ c := by
      rintro rfl
      exact hfy (ht.2.1 f y b9 hf hy hr9 hc)
    obtain ⟨p1, p2, p3, p4, p5, p6, p7, p8, p9, p10⟩ := tr_ne hl hk9 hck hne
    obtain ⟨q1, -, -, -, q5, -, -, q8, -, -⟩ := tr_ne hl hck hk9 (fun z => hne z.symm)
    have a3 := tr_at hl hk9
    refine ⟨fun k => nt5 (by omega) hne (fun z => q1 z.symm) (fun z => q5 z.symm) (fun z => q8 z.symm), fun k => nt5 (by omega) p1 p2 p3 p4, fun k => nt5 (by omega) p5 p6 (by omega) p7, fun k => nt5 (by omega) p8 p9 p10 (by omega)⟩
  refine ⟨wI s2 101 y ho, e1.trans e2, fun f hf => ?_, ht.of hA (fun _ => by omega) (by omega), fun f hf hs9 b9 hr9 => ?_, hA⟩
  · unfold fsMove
    by_cases e : f = y
    · subst e
      rw [if_pos rfl]
      refine ⟨fun z => (by cases z), fun h9 L9 z => ?_⟩
      cases z
      refine ⟨by rw [sI_wI, if_pos ⟨rfl, rfl⟩], hho, c, (hA.r (by omega)).trans hc, hA.k.mpr hck, ⟨?_, g2.2.1, fun i hi w hw => ?_⟩⟩
      · rw [sI_wI, if_neg (by omega)]
        exact g2.1
      · rw [sI_wI, if_neg (by omega)]
        exact g2.2.2 i hi w hw
    · rw [if_neg e]
      obtain ⟨a1, a2⟩ := h f hf
      refine ⟨fun z => (hA.i (by omega)).trans (a1 z), fun h9 L9 z => ?_⟩
      obtain ⟨z1, z2, b9, z3, z4, z5⟩ := a2 h9 L9 z
      have o := oth f b9 hf e z3 z4
      exact ⟨(hA.i (by omega)).trans z1, z2, b9, (hA.r (by omega)).trans z3, hA.k.mpr z4, z5.of hA (o.1 2) o.2.1⟩
  · have hr0 : sR s 100 f = .ref b9 := by rw [← hA.r (a := 100) (k := f) (by omega)]; exact hr9
    by_cases e : f = y
    · subst e
      rw [hc] at hr0
      cases hr0
      exact ⟨u1, (l1.of g3 (by omega) (fun _ => by omega)).of ((ch.refl (fun a k => a = 101) s2).wI rfl) (by omega) (fun _ => by omega)⟩
    · have hs0 : fs f ≠ none := by
        unfold fsMove at hs9
        rw [if_neg e] at hs9
        exact hs9
      obtain ⟨u9, l9⟩ := hu f hf hs0 b9 hr0
      rcases ht.1 f hf with z | ⟨b8, z1, z2⟩
      · rw [z] at hr0
        cases hr0
      · rw [hr0] at z1
        cases z1
        have o := oth f b9 hf e hr0 z2
        exact ⟨u9, l9.of hA (o.2.2.1 1) o.2.2.2⟩
end
section
/-! move as a whole in FormulaTrees -/
set_option maxRecDepth 100000 in
theorem nT_I {s : aS} {a k : Nat} (h : a < sL s) : sI (nTree s) a k = sI s a k := by
  rw [nTree_I, if_neg (by omega), if_neg (by omega), if_neg (by omega), if_neg (by omega)]
set_option maxRecDepth 100000 in
theorem nT_R {s : aS} {a k : Nat} (h : a < sL s) : sR (nTree s) a k = sR s a k := by
  rw [nTree_R, if_neg (by omega), if_neg (by omega), if_neg (by omega), if_neg (by omega), if_neg (by omega), if_neg (by omega), if_neg (by omega)]
set_option maxRecDepth 100000 in
theorem nT_T {s : aS} {a : Nat} (h : a < sL s) : sT (nTree s) a = sT s a := by
  rw [nTree_T, if_neg (by omega), if_neg (by omega), if_neg (by omega), if_neg (by omega)]
set_option maxRecDepth 100000 in
theorem nT_K {s : aS} {a c : Nat} (h : aK s a c) : aK (nTree s) a c := ⟨by have := h.1; rw [nTree_L]; omega, by rw [nT_T h.1]; exact h.2⟩
set_option maxRecDepth 100000 in
/-- a new tree where there was none -/
theorem nT_all {tt : Nat} {cc : Nat → Nat → Int32} {s : aS} {fs : Nat → Option Fm} {y : Nat} (hl : Ly tt cc s) (h : CF s fs) (ht : TD s) (hu : CL s fs) (hy : y < 8) (hn : sR s 100 y = .null) : Ly tt cc (wR (nTree s) 100 y (.ref (sL s))) ∧ CF (wR (nTree s) 100 y (.ref (sL s))) fs ∧ TD (wR (nTree s) 100 y (.ref (sL s))) ∧ CL (wR (nTree s) 100 y (.ref (sL s))) fs ∧ aK (wR (nTree s) 100 y (.ref (sL s))) (sL s) 3 := by
  obtain ⟨l1, -, l3⟩ := lay_tree hl.gL hl
  have hL : 149 ≤ sL s := hl.1
  have hT : sT (nTree s) 100 = (113, 8) := l1.T (a := 100) (p := (113, 8)) 22 rfl rfl
  have eR : ∀ f, f ≠ y → sR (wR (nTree s) 100 y (.ref (sL s))) 100 f = sR s 100 f := fun f hf => by
    rw [sR_wR, if_neg (by omega), nT_R (by omega)]
  have eY : sR (wR (nTree s) 100 y (.ref (sL s))) 100 y = .ref (sL s) := by rw [sR_wR, if_pos ⟨rfl, rfl⟩]
  have eK : ∀ b, aK s b 3 → aK (wR (nTree s) 100 y (.ref (sL s))) b 3 := fun b hb => nT_K hb
  have eI : ∀ a k, a < sL s → sI (wR (nTree s) 100 y (.ref (sL s))) a k = sI s a k := fun a k ha => nT_I ha
  have nY : fs y = none := by
    cases hq : fs y with
    | none => rfl
    | some v =>
      obtain ⟨h0, L⟩ := v
      obtain ⟨-, -, b, b1, -⟩ := (h y hy).2 h0 L hq
      rw [hn] at b1
      cases b1
  refine ⟨l1.wRd hT (by decide) (lay_noR _), fun f hf => ?_, ⟨fun f hf => ?_, fun f g b hf hg q1 q2 => ?_, ?_⟩, fun f hf hs b hb => ?_, l3⟩
  · obtain ⟨a1, a2⟩ := h f hf
    refine ⟨fun q => (eI 101 f (by omega)).trans (a1 q), fun h9 L9 q => ?_⟩
    obtain ⟨z1, z2, b, z3, z4, z5⟩ := a2 h9 L9 q
    have hfy : f ≠ y := by
      rintro rfl
      rw [nY] at q
      cases q
    have hb := (hl.tr z4).2.2.2.1
    exact ⟨(eI 101 f (by omega)).trans z1, z2, b, (eR f hfy).trans z3, eK b z4, (eI _ _ (by omega)).trans z5.1, z5.2.1, fun i hi w hw => (eI _ _ (by omega)).trans (z5.2.2 i hi w hw)⟩
  · by_cases e : f = y
    · subst e
      exact Or.inr ⟨_, eY, l3⟩
    · rw [eR f e]
      rcases ht.1 f hf with z | ⟨b, z1, z2⟩
      · exact Or.inl z
      · exact Or.inr ⟨b, z1, eK b z2⟩
  · have old : ∀ f, f < 8 → f ≠ y → sR s 100 f ≠ .ref (sL s) := fun f hf hfy q => by
      rcases ht.1 f hf with z | ⟨b, z1, z2⟩
      · rw [z] at q
        cases q
      · rw [z1] at q
        cases q
        exact absurd z2.1 (Nat.lt_irrefl _)
    by_cases e1 : f = y
    · by_cases e2 : g = y
      · rw [e1, e2]
      · subst e1
        rw [eY] at q1
        cases q1
        rw [eR g e2] at q2
        exact absurd q2 (old g hg e2)
    · rw [eR f e1] at q1
      by_cases e2 : g = y
      · subst e2
        rw [eY] at q2
        cases q2
        exact absurd q1 (old f hf e1)
      · rw [eR g e2] at q2
        exact ht.2.1 f g b hf hg q1 q2
  · obtain ⟨b, b1, b2, b3⟩ := ht.2.2
    refine ⟨b, ?_, eK b b2, fun f hf q => ?_⟩
    · rw [sR_wR, if_neg (by omega), nT_R (by omega)]
      exact b1
    · by_cases e : f = y
      · subst e
        rw [eY] at q
        cases q
        exact absurd b2.1 (Nat.lt_irrefl _)
      · rw [eR f e] at q
        exact b3 f hf q
  · have hfy : f ≠ y := by
      rintro rfl
      exact hs nY
    rw [eR f hfy] at hb
    obtain ⟨u, u1⟩ := hu f hf hs b hb
    rcases ht.1 f hf with z | ⟨b8, z1, z2⟩
    · rw [z] at hb
      cases hb
    · rw [hb] at z1
      cases z1
      have h3 := (hl.tr z2).2.2.2.1
      exact ⟨u, ⟨(eI _ _ (by omega)).trans u1.1.1, fun j hj => (eI _ _ (by omega)).trans (u1.1.2 j hj)⟩, u1.2⟩
set_option maxRecDepth 100000 in
theorem d125 {tt : Nat} {cc : Nat → Nat → Int32} {s : aS} {ns : List (List Int32)} {fs : Nat → Option Fm} (hl : Ly tt cc s) (hs : SC s ns) (hn : nsOk ns) (h : CF s fs) (ht : TD s) (hu : CL s fs) (x1 x2 x3 x4 x5 : Int32) :
    (¬ mvV ns fs x1 x4 x5 ∧ dm125 x1 x2 x3 x4 x5 s = some (.inr 2, nw s 82 0)) ∨
    (mvV ns fs x1 x4 x5 ∧ ¬ (wayP x2 ∧ wayP x3) ∧ dm125 x1 x2 x3 x4 x5 s = some (.inr 0, nw s 80 0)) ∨
    (mvV ns fs x1 x4 x5 ∧ (wayP x2 ∧ wayP x3) ∧ ∃ h0 L s', fAt fs x1 = some (h0, L) ∧ dm125 x1 x2 x3 x4 x5 s = some (.inl none, s') ∧ CF s' (fsMove x1.toInt.toNat x5.toInt.toNat x2 x3 x4 (fun r c => onRf (mvC r c)) L fs) ∧ TD s' ∧ CL s' (fsMove x1.toInt.toNat x5.toInt.toNat x2 x3 x4 (fun r c => onRf (mvC r c)) L fs)) := by
  have h8 := hn.1
  have e55 : dm55 x5 = some (b01 (0 ≤ x5.toInt ∧ x5.toInt < 8)) := by
    unfold dm55
    have l1 : x5 < 0 ↔ x5.toInt < 0 := iLt
    have l2 : 8 ≤ x5 ↔ 8 ≤ x5.toInt := iLe
    by_cases c1 : x5 < 0
    · rw [if_pos c1, b01_f]
      have := l1.mp c1
      omega
    · rw [if_neg c1]
      have c1 : ¬ x5.toInt < 0 := fun q => c1 (l1.mpr q)
      by_cases c2 : 8 ≤ x5
      · rw [if_pos c2, b01_f]
        have := l2.mp c2
        omega
      · rw [if_neg c2, b01_t]
        have c2 : ¬ 8 ≤ x5.toInt := fun q => c2 (l2.mpr q)
        omega
  unfold dm125 dm125_14 dm125_25
  rcases d54 h x1 with ⟨e1, e2⟩ | ⟨h0, L, b, e1, hx, e2, e3, e4, e5, e6⟩
  · left
    rw [e2, e55]
    simp only [bu_some, vN_null, ite_self]
    exact ⟨fun q => q.2.1 e1, trivial⟩
  · rw [e2, e55, d40 hs h8, d126, d126]
    simp only [bu_some, vN_ref]
    rw [if_pos e3]
    by_cases c1 : 0 ≤ x5.toInt ∧ x5.toInt < 8
    · rw [b01_t c1, if_neg (by decide)]
      by_cases c2 : 0 ≤ x4.toInt ∧ x4.toInt < ns.length
      · rw [b01_t c2, if_neg (by decide)]
        have hV : mvV ns fs x1 x4 x5 := ⟨c1, (by rw [e1]; exact Option.some_ne_none _), c2⟩
        right
        by_cases c3 : wayP x2
        · rw [b01_t c3, if_neg (by decide)]
          by_cases c4 : wayP x3
          · right
            rw [b01_t c4, if_neg (by decide)]
            have hb5 : aB x5 8 := by rw [aB_iff]; omega
            have hL : fs x1.toInt.toNat = some (h0, L) := by
              unfold fAt at e1
              rw [if_pos hx] at e1
              exact e1
            have hho : x4 ≠ -1 := by
              intro q
              rw [iEq] at q
              have q : x4.toInt = -1 := q
              omega
            have ex1 := ofNat_of (x := x1) hx.1
            have ex5 := ofNat_of (x := x5) c1.1
            refine ⟨hV, ⟨c3, c4⟩, h0, L, ?_⟩
            simp only [if_pos hb5]
            rcases ht.1 x5.toInt.toNat (by omega) with z | ⟨c, z1, z2⟩
            · have z : sR s 100 (jN x5) = .null := z
              rw [z]
              simp only [vN_null, nx_eq]
              obtain ⟨n1, n2, n3, n4, n5⟩ := nT_all (y := x5.toInt.toNat) hl h ht hu (by omega) z
              have hbl := (hl.tr e3).2.2.2.1
              have hne : x1.toInt.toNat ≠ x5.toInt.toNat := by
                intro q
                rw [q] at e5
                have z : sR s 100 x5.toInt.toNat = .null := z
                rw [z] at e5
                cases e5
              obtain ⟨s', k1, k2, k3, k4, -⟩ := d125m (x := x1.toInt.toNat) (y := x5.toInt.toNat) (b := b) (c := sL s) (r := x2) (q := x3) (ho := x4) n1 n2 n3 n4 (by omega) (by omega) hL (by rw [sR_wR, if_neg (by omega), nT_R (by have := hl.1; have : zE = 149 := rfl; omega)]; exact e5) (by rw [sR_wR, if_pos ⟨rfl, rfl⟩]) (nT_K e3) n5 ⟨(nT_I (by omega)).trans e4.1, e4.2.1, fun i hi w hw => (nT_I (by omega)).trans (e4.2.2 i hi w hw)⟩ hho
              rw [← ex1, ← ex5] at k1
              exact ⟨s', e1, k1, k2, k3, k4⟩
            · have z0 : sR s 100 (jN x5) = .ref c := z1
              rw [z0]
              simp only [vN_ref]
              rw [if_pos z2]
              obtain ⟨s', k1, k2, k3, k4, -⟩ := d125m (x := x1.toInt.toNat) (y := x5.toInt.toNat) (b := b) (c := c) (r := x2) (q := x3) (ho := x4) hl h ht hu (by omega) (by omega) hL e5 z1 e3 z2 e4 hho
              rw [← ex1, ← ex5] at k1
              exact ⟨s', e1, k1, k2, k3, k4⟩
          · left
            rw [b01_f c4, if_pos rfl]
            exact ⟨hV, fun q => c4 q.2, rfl⟩
        · left
          rw [b01_f c3, if_pos rfl]
          exact ⟨hV, fun q => c3 q.1, rfl⟩
      · left
        rw [b01_f c2, if_pos rfl]
        exact ⟨fun q => c2 q.2.2, rfl⟩
    · left
      rw [b01_f c1, if_pos rfl]
      exact ⟨fun q => c1 q.1, rfl⟩
end
section
/-! letters of a node -/
def NL (s : aS) (b i : Nat) (u l : List Int32) : Prop := ∃ st, sI s (b + 1) (11 * i + 9) = Int32.ofNat st ∧ sI s (b + 1) (11 * i + 10) = Int32.ofNat l.length ∧ st + l.length ≤ u.length ∧ ∀ j (h : j < l.length), u.getD (st + j) (-1) = l[j]
set_option maxRecDepth 100000 in
theorem d144 {s : aS} {b N i : Nat} {u l : List Int32} (hn : sI s b 2 = Int32.ofNat N) (h8 : N ≤ 128) (hi : i < N) (hu : TL s b u) (hT : (sT s (b + 3)).2 = 256) (h : NL s b i u l) (k : Int32) : dm144 b (Int32.ofNat i) k s = some (if k.toInt < 0 then -1 else l.getD k.toInt.toNat (-1)) := by
  obtain ⟨st, a1, a2, a3, a4⟩ := h
  have hul := hu.2.1
  have f9 : dm57 b (Int32.ofNat i) 9 s = some (Int32.ofNat st) := (d57 (w := 9) hn h8 hi (by omega)).trans (by rw [a1])
  have f10 : dm57 b (Int32.ofNat i) 10 s = some (Int32.ofNat l.length) := (d57 (w := 10) hn h8 hi (by omega)).trans (by rw [a2])
  unfold dm144 dm144_10 dm144_11
  rw [f10, f9]
  simp only [bu_some]
  by_cases c1 : k.toInt < 0
  · rw [if_pos (show k < 0 by rw [iLt]; exact c1), if_pos trivial, if_pos c1]
  · rw [if_neg (show ¬ k < 0 by rw [iLt]; exact c1), if_neg c1]
    have hr := iRange k
    have ek := ofNat_of (x := k) (by omega)
    by_cases c2 : l.length ≤ k.toInt.toNat
    · rw [if_pos (show Int32.ofNat l.length ≤ k by rw [iLe, iOfNat (by omega)]; omega), if_pos trivial, getD_out c2]
    · rw [if_neg (show ¬ Int32.ofNat l.length ≤ k by rw [iLe, iOfNat (by omega)]; omega), if_neg (by decide)]
      have e : Int32.ofNat st + k = Int32.ofNat (st + k.toInt.toNat) := by
        have := iSum (i := st) (j := k.toInt.toNat) (by omega) (by omega)
        rw [← ek] at this
        exact this
      rw [e, d34 hu.1 (by rw [show b + 2 + 1 = b + 3 from rfl, hT]; exact hul) (by omega) (by omega)]
      simp only [bu_some]
      rw [a4 _ (by omega), getD_in (by omega)]
/-- in the reference: what lies there of a node -/
def RL (s : aS) (f p : Nat) (w : List Int32) : Prop := ∃ st, sI s 137 p = Int32.ofNat st ∧ sI s 138 p = Int32.ofNat w.length ∧ st + w.length ≤ 256 ∧ ∀ j (h : j < w.length), sI s 139 (256 * f + st + j) = w[j]
/-- quotes doubled -/
def dbl : List Int32 → List Int32
  | [] => []
  | x :: r => if x = 34 then 34 :: 34 :: dbl r else x :: dbl r
set_option maxRecDepth 100000 in
theorem d247p {s : aS} {f p : Nat} {w : List Int32} {kd : Int32} (hf : f < 9) (hp : p < 1152) (h : RL s f p w) (hk : ¬ kd = 1) (k : Int32) (hk0 : 0 ≤ k.toInt) : dm247_20 (Int32.ofNat f) (Int32.ofNat p) k kd s = some (w.getD k.toInt.toNat (-1)) := by
  obtain ⟨st, a1, a2, a3, a4⟩ := h
  have hb : aB (Int32.ofNat p) 1152 := by rw [aB_iff, iOfNat (by omega)]; omega
  have ej : jN (Int32.ofNat p) = p := jN_of (by omega)
  have ek := ofNat_of (x := k) hk0
  have hr := iRange k
  unfold dm247_20
  simp only [if_pos hb, ej, a1, a2]
  rw [if_neg hk]
  by_cases c : w.length ≤ k.toInt.toNat
  · rw [if_pos (show Int32.ofNat w.length ≤ k by rw [iLe, iOfNat (by omega)]; omega), getD_out c]
  · rw [if_neg (show ¬ Int32.ofNat w.length ≤ k by rw [iLe, iOfNat (by omega)]; omega)]
    have e : ((256 * Int32.ofNat f) + Int32.ofNat st) + k = Int32.ofNat (256 * f + st + k.toInt.toNat) := by
      rw [i256 (by omega) (by omega)]
      have := iSum (i := 256 * f + st) (j := k.toInt.toNat) (by omega) (by omega)
      rw [← ek] at this
      exact this
    rw [e, if_pos (by rw [aB_iff, iOfNat (by omega)]; omega), jN_of (by omega), a4 _ (by omega), getD_in (by omega)]
set_option maxRecDepth 100000 in
/-- a text between its quotes, from letter j on -/
theorem d247q {s : aS} {f p st : Nat} {k : Int32} (hf : f < 9) (hp : p < 1152) (hk0 : 0 ≤ k.toInt) : ∀ (r : List Int32) (j q n W : Nat), sI s 138 p = Int32.ofNat W → W = q + (dbl r).length + 1 → st + W ≤ 256 → (∀ i (h : i < (dbl r).length), sI s 139 (256 * f + st + (q + i)) = (dbl r)[i]) → j ≤ k.toInt.toNat → r.length < n → dm247_51 n (Int32.ofNat p) k (Int32.ofNat (256 * f + st)) (Int32.ofNat j) (Int32.ofNat q) s = some (r.getD (k.toInt.toNat - j) (-1)) := by
  have hb : aB (Int32.ofNat p) 1152 := by rw [aB_iff, iOfNat (by omega)]; omega
  have ej : jN (Int32.ofNat p) = p := jN_of (by omega)
  have hr := iRange k
  intro r
  induction r with
  | nil =>
    intro j q n W h1 h2 h3 h4 h5 h6
    obtain ⟨n, rfl⟩ : ∃ a, n = a + 1 := ⟨n - 1, by omega⟩
    have h2 : W = q + 0 + 1 := h2
    rw [dm247_51, if_pos hb, ej, h1, ofNat_sub1 (by omega) (by omega), if_pos (by rw [iLe, iOfNat (by omega), iOfNat (by omega)]; omega)]
    rfl
  | cons x r ih =>
    intro j q n W h1 h2 h3 h4 h5 h6
    obtain ⟨n, rfl⟩ : ∃ a, n = a + 1 := ⟨n - 1, by omega⟩
    have hpos : 1 ≤ (dbl (x :: r)).length := by
      show 1 ≤ (if x = 34 then 34 :: 34 :: dbl r else x :: dbl r).length
      split <;> simp only [List.length_cons] <;> omega
    have h0 : sI s 139 (256 * f + st + q) = x := by
      have := h4 0 (by omega)
      rw [Nat.add_zero] at this
      rw [this]
      by_cases c : x = 34
      · have e : dbl (x :: r) = 34 :: 34 :: dbl r := if_pos c
        simp only [e, List.getElem_cons_zero]
        exact c.symm
      · have e : dbl (x :: r) = x :: dbl r := if_neg c
        simp only [e, List.getElem_cons_zero]
    rw [dm247_51, if_pos hb, ej, h1, ofNat_sub1 (by omega) (by omega), if_neg (by rw [iLe, iOfNat (by omega), iOfNat (by omega)]; omega), iSum (by omega) (by omega)]
    have hq9 : aB (Int32.ofNat (256 * f + st + q)) 2304 := by rw [aB_iff, iOfNat (by omega)]; omega
    have eq9 : jN (Int32.ofNat (256 * f + st + q)) = 256 * f + st + q := jN_of (by omega)
    simp only [if_pos hq9, eq9, h0]
    by_cases cj : j = k.toInt.toNat
    · rw [if_pos (by rw [iEq, iOfNat (by omega)]; omega), cj, Nat.sub_self]
      rfl
    · rw [if_neg (by rw [iEq, iOfNat (by omega)]; omega)]
      unfold dm247_83
      have eg : (x :: r).getD (k.toInt.toNat - j) (-1) = r.getD (k.toInt.toNat - (j + 1)) (-1) := by
        rw [show k.toInt.toNat - j = (k.toInt.toNat - (j + 1)) + 1 by omega]
        rfl
      have hl6 : r.length < n := by
        have : (x :: r).length = r.length + 1 := rfl
        omega
      rw [eg]
      by_cases c : x = 34
      · have e : dbl (x :: r) = 34 :: 34 :: dbl r := if_pos c
        rw [if_pos c, ofNat_succ (by omega), ofNat_succ (by omega), ofNat_succ (by omega)]
        rw [e] at h2
        simp only [List.length_cons] at h2
        refine ih (j + 1) (q + 1 + 1) n W h1 (by omega) h3 (fun i hi => ?_) (by omega) hl6
        have := h4 (i + 2) (by rw [e]; simp only [List.length_cons]; omega)
        rw [show q + (i + 2) = q + 1 + 1 + i by omega] at this
        rw [this]
        simp only [e, List.getElem_cons_succ]
      · have e : dbl (x :: r) = x :: dbl r := if_neg c
        rw [if_neg c, ofNat_succ (by omega), ofNat_succ (by omega)]
        rw [e] at h2
        simp only [List.length_cons] at h2
        refine ih (j + 1) (q + 1) n W h1 (by omega) h3 (fun i hi => ?_) (by omega) hl6
        have := h4 (i + 1) (by rw [e]; simp only [List.length_cons]; omega)
        rw [show q + (i + 1) = q + 1 + i by omega] at this
        rw [this]
        simp only [e, List.getElem_cons_succ]
end
section
/-! letterOf in the reference, for every kind of node -/
def NM (s : aS) (f p : Nat) (kd : Int32) (l : List Int32) : Prop := ((kd = 0 ∨ kd = 6 ∨ kd = 7) → RL s f p l) ∧ (kd = 1 → RL s f p (34 :: (dbl l ++ [34]))) ∧ (¬ (kd = 0 ∨ kd = 1 ∨ kd = 6 ∨ kd = 7) → l = [])
set_option maxRecDepth 100000 in
theorem dbl_len (l : List Int32) : l.length ≤ (dbl l).length := by
  induction l with
  | nil => exact Nat.le_refl _
  | cons x r ih =>
    show r.length + 1 ≤ (if x = 34 then 34 :: 34 :: dbl r else x :: dbl r).length
    split <;> simp only [List.length_cons] <;> omega
set_option maxRecDepth 100000 in
theorem d247 {s : aS} {f p : Nat} {kd : Int32} {l : List Int32} (hf : f < 9) (hp : p < 1152) (hk : sI s 128 p = kd) (h : NM s f p kd l) (k : Int32) : dm247 (Int32.ofNat f) (Int32.ofNat p) k s = some (if k.toInt < 0 then -1 else l.getD k.toInt.toNat (-1)) := by
  have hb : aB (Int32.ofNat p) 1152 := by rw [aB_iff, iOfNat (by omega)]; omega
  have ej : jN (Int32.ofNat p) = p := jN_of (by omega)
  unfold dm247
  rw [if_pos hb, ej, hk]
  by_cases c0 : k.toInt < 0
  · rw [if_pos (show k < 0 by rw [iLt]; exact c0), if_pos c0]
  · rw [if_neg (show ¬ k < 0 by rw [iLt]; exact c0), if_neg c0]
    have hk0 : 0 ≤ k.toInt := by omega
    by_cases q0 : kd = 0
    · rw [if_pos q0]
      exact d247p hf hp (h.1 (Or.inl q0)) (by rw [q0]; decide) k hk0
    · rw [if_neg q0]
      by_cases q1 : kd = 1
      · rw [if_pos q1]
        obtain ⟨st, a1, a2, a3, a4⟩ := h.2.1 q1
        have hlen : (34 :: (dbl l ++ [34])).length = (dbl l).length + 2 := by simp
        have hdl := dbl_len l
        unfold dm247_20
        simp only [if_pos hb, ej, a1]
        rw [if_pos q1, i256 (by omega) (by omega)]
        have := d247q (s := s) (f := f) (p := p) (st := st) (k := k) hf hp hk0 l 0 1 5000 ((dbl l).length + 2) (by rw [a2, hlen]) (by omega) (by rw [← hlen]; exact a3) (fun i hi => by
          have e := a4 (i + 1) (by rw [hlen]; omega)
          rw [show 256 * f + st + (1 + i) = 256 * f + st + (i + 1) by omega, e]
          rw [List.getElem_cons_succ, List.getElem_append_left]) (Nat.zero_le _) (by rw [hlen] at a3; omega)
        rw [Nat.sub_zero] at this
        exact this
      · rw [if_neg q1]
        by_cases q6 : kd = 6
        · rw [if_pos q6]
          exact d247p hf hp (h.1 (Or.inr (Or.inl q6))) q1 k hk0
        · rw [if_neg q6]
          by_cases q7 : kd = 7
          · rw [if_pos q7]
            exact d247p hf hp (h.1 (Or.inr (Or.inr q7))) q1 k hk0
          · rw [if_neg q7]
            have e : l = [] := h.2.2 (by
              rintro (z | z | z | z)
              · exact q0 z
              · exact q1 z
              · exact q6 z
              · exact q7 z)
            rw [e]
            rfl
end
section
/-! letter as a whole in both: lt f i are the letters of node i of formula f -/
def CLt (s : aS) (fs : Nat → Option Fm) (lt : Nat → Nat → List Int32) : Prop := ∀ f, f < 8 → ∀ h L, fs f = some (h, L) → ∀ b, sR s 100 f = .ref b → ∃ u, TL s b u ∧ ∀ i, i < L.length → NL s b i u (lt f i)
def MLt (s : aS) (fs : Nat → Option Fm) (lt : Nat → Nat → List Int32) : Prop := ∀ f, f < 8 → ∀ h L, fs f = some (h, L) → ∀ i (g : i < L.length), NM s f (128 * f + i) (L[i] 0) (lt f i)
set_option maxRecDepth 100000 in
theorem fAt_s {fs : Nat → Option Fm} {x : Int32} {v : Fm} (h : fAt fs x = some v) : (0 ≤ x.toInt ∧ x.toInt < 8) ∧ fs x.toInt.toNat = some v := by
  unfold fAt at h
  by_cases q : 0 ≤ x.toInt ∧ x.toInt < 8
  · rw [if_pos q] at h
    exact ⟨q, h⟩
  · rw [if_neg q] at h
    cases h
set_option maxRecDepth 100000 in
theorem d162 {tt : Nat} {cc : Nat → Nat → Int32} {s : aS} {fs : Nat → Option Fm} {lt : Nat → Nat → List Int32} (hl : Ly tt cc s) (h : CF s fs) (hc : CLt s fs lt) (x y z : Int32) :
    (((fAt fs x = none) ∨ ∃ ho L, fAt fs x = some (ho, L) ∧ ¬ (0 ≤ y.toInt ∧ y.toInt < L.length)) ∧ dm162 x y z s = some (.inr 2, nw s 82 0)) ∨
    ∃ ho L, fAt fs x = some (ho, L) ∧ (0 ≤ y.toInt ∧ y.toInt < L.length) ∧ dm162 x y z s = some (.inl (some (.int (if z.toInt < 0 then -1 else (lt x.toInt.toNat y.toInt.toNat).getD z.toInt.toNat (-1)))), s) := by
  unfold dm162 dm162_10
  rcases d54 h x with ⟨e1, e2⟩ | ⟨ho, L, b, e1, hx, e2, e3, e4, e5, -⟩
  · left
    rw [e2]
    exact ⟨Or.inl e1, rfl⟩
  · rw [e2]
    simp only [bu_some, vN_ref]
    rw [if_pos e3]
    unfold dm161
    have h128 := e4.2.1
    have l1 : y < 0 ↔ y.toInt < 0 := iLt
    have l2 : Int32.ofNat L.length ≤ y ↔ (L.length : Int) ≤ y.toInt := by rw [iLe, iOfNat (by omega)]
    rw [e4.1]
    by_cases h1 : y < 0
    · left
      rw [if_pos h1]
      have := l1.mp h1
      exact ⟨Or.inr ⟨ho, L, e1, by omega⟩, rfl⟩
    · rw [if_neg h1]
      have h1 : ¬ y.toInt < 0 := fun q => h1 (l1.mpr q)
      by_cases h2 : Int32.ofNat L.length ≤ y
      · left
        rw [if_pos h2]
        have := l2.mp h2
        exact ⟨Or.inr ⟨ho, L, e1, by omega⟩, rfl⟩
      · right
        rw [if_neg h2]
        have h2 : ¬ (L.length : Int) ≤ y.toInt := fun q => h2 (l2.mpr q)
        refine ⟨ho, L, e1, by omega, ?_⟩
        simp only [bu_some]
        rw [if_neg (by decide)]
        obtain ⟨u, u1, u2⟩ := hc x.toInt.toNat (by omega) ho L (fAt_s e1).2 b e5
        have q := d144 (i := y.toInt.toNat) e4.1 h128 (by omega) u1 (by rw [(hl.tr e3).2.2.2.2.2.2.1]) (u2 _ (by omega)) z
        rw [← ofNat_of (x := y) (by omega)] at q
        rw [q]
        rfl
set_option maxRecDepth 100000 in
theorem d246 {s : aS} {fs : Nat → Option Fm} {lt : Nat → Nat → List Int32} (h : MM s fs) (hc : MLt s fs lt) (x y z : Int32) :
    (((fAt fs x = none) ∨ ∃ ho L, fAt fs x = some (ho, L) ∧ ¬ (0 ≤ y.toInt ∧ y.toInt < L.length)) ∧ dm246 x y z s = some (0, wI s 121 0 1)) ∨
    ∃ ho L, fAt fs x = some (ho, L) ∧ (0 ≤ y.toInt ∧ y.toInt < L.length) ∧ dm246 x y z s = some (if z.toInt < 0 then -1 else (lt x.toInt.toNat y.toInt.toNat).getD z.toInt.toNat (-1), wI s 121 0 0) := by
  have z1 : dm246_13 x y z s = some (0, wI s 121 0 1) := by
    unfold dm246_13 dm246_16
    rw [nx_eq]
    exact if_neg (show ¬ (1 : Int32) ≤ 0 by decide)
  unfold dm246
  rcases d225 h x with ⟨e1, e2⟩ | ⟨ho, L, e1, hx, e2, e3, -⟩
  · left
    rw [e2]
    simp only [bu_some]
    rw [if_neg (by decide), z1]
    exact ⟨Or.inl e1, rfl⟩
  · rw [e2]
    simp only [bu_some]
    rw [if_pos trivial]
    have h128 := e3.2.1
    have l1 : y < 0 ↔ y.toInt < 0 := iLt
    have eL : sI s 127 (jN x) = Int32.ofNat L.length := e3.1
    have l2 : y < Int32.ofNat L.length ↔ y.toInt < (L.length : Int) := by rw [iLt, iOfNat (by omega)]
    by_cases h1 : y < 0
    · left
      rw [if_pos h1, z1]
      have := l1.mp h1
      exact ⟨Or.inr ⟨ho, L, e1, by omega⟩, rfl⟩
    · rw [if_neg h1, if_pos (by rw [aB_iff]; omega), eL]
      have h1 : ¬ y.toInt < 0 := fun q => h1 (l1.mpr q)
      by_cases h2 : y < Int32.ofNat L.length
      · right
        rw [if_pos h2]
        have h2 := l2.mp h2
        refine ⟨ho, L, e1, by omega, ?_⟩
        have hi : y.toInt.toNat < L.length := by omega
        unfold dm246_16
        rw [nx_eq, if_pos (show sI (wI s 121 0 0) 121 0 ≤ 0 from (by decide : (0 : Int32) ≤ 0))]
        have el : (128 * x) + y = Int32.ofNat (128 * x.toInt.toNat + y.toInt.toNat) := by
          have := i128 (f := x.toInt.toNat) (i := y.toInt.toNat) (by omega) (by omega)
          rw [← ofNat_of (x := x) (by omega), ← ofNat_of (x := y) (by omega)] at this
          exact this
        have hN := hc x.toInt.toNat (by omega) ho L (fAt_s e1).2 _ hi
        have hR : ∀ w, RL s x.toInt.toNat (128 * x.toInt.toNat + y.toInt.toNat) w → RL (wI s 121 0 0) x.toInt.toNat (128 * x.toInt.toNat + y.toInt.toNat) w := fun w ⟨st, a1, a2, a3, a4⟩ => ⟨st, ((ch0 s 0).i (by omega)).trans a1, ((ch0 s 0).i (by omega)).trans a2, a3, fun j hj => ((ch0 s 0).i (by omega)).trans (a4 j hj)⟩
        have q := d247 (s := wI s 121 0 0) (f := x.toInt.toNat) (p := 128 * x.toInt.toNat + y.toInt.toNat) (kd := L[y.toInt.toNat] 0) (by omega) (by omega) (((ch0 s 0).i (by omega)).trans (e3.2.2 _ hi 0 (by omega))) ⟨fun z => hR _ (hN.1 z), fun z => hR _ (hN.2.1 z), hN.2.2⟩ z
        rw [← ofNat_of (x := x) (by omega)] at q
        rw [el, q]
        rfl
      · left
        rw [if_neg h2, z1]
        have h2 : ¬ y.toInt < (L.length : Int) := fun q => h2 (l2.mpr q)
        exact ⟨Or.inr ⟨ho, L, e1, by omega⟩, rfl⟩
end
section
/-! same in the reference: letters -/
set_option maxRecDepth 100000 in
theorem getD_neg {l : List Int32} (h : ∀ x ∈ l, 0 ≤ x.toInt) (j : Nat) : (0 ≤ l.getD j (-1)) ↔ j < l.length := by
  by_cases q : j < l.length
  · rw [getD_in q]
    exact ⟨fun _ => q, fun _ => iLe.mpr (h _ (List.getElem_mem q))⟩
  · rw [getD_out (by omega)]
    exact ⟨fun z => absurd z (by decide), fun z => absurd z q⟩
set_option maxRecDepth 100000 in
theorem d248c {s : aS} {x1 x2 x4 x5 x6 : Int32} {a b : List Int32} {k31 : Int32 → Int32 → Int32 → Int32 → aS → Option (Int32 × aS)} (ha : ∀ k : Int32, 0 ≤ k.toInt → dm247 x1 x5 k s = some (a.getD k.toInt.toNat (-1))) (hb : ∀ k : Int32, 0 ≤ k.toInt → dm247 x2 x6 k s = some (b.getD k.toInt.toNat (-1))) (pa : ∀ x ∈ a, 0 ≤ x.toInt) (pb : ∀ x ∈ b, 0 ≤ x.toInt) (la : a.length ≤ 256) (lb : b.length ≤ 256) : ∀ (m j n : Nat), (a.length ≤ j + m ∧ b.length ≤ j + m) → j + m ≤ 300 → m + 1 < n → dm248_73 k31 n x1 x2 1 x4 x5 x6 (Int32.ofNat j) s = dm248_104 k31 x1 x2 (b01 (a.drop j = b.drop j)) x4 s := by
  intro m
  have zero : ∀ (n j : Nat), dm248_73 k31 (n + 1) x1 x2 0 x4 x5 x6 (Int32.ofNat j) s = dm248_104 k31 x1 x2 0 x4 s := fun n j => by
    rw [dm248_73, if_pos rfl]
  induction m with
  | zero =>
    intro j n h1 h2 hn
    obtain ⟨n, rfl⟩ : ∃ q, n = q + 1 := ⟨n - 1, by omega⟩
    have ej : (Int32.ofNat j).toInt = j := iOfNat (by omega)
    rw [dm248_73, if_neg (by decide), ha _ (by omega), hb _ (by omega), ej]
    simp only [bu_some]
    rw [if_neg (fun z => by have := (getD_neg pa _).mp z; omega), if_pos (lt_not_le.mpr fun z => by have := (getD_neg pb _).mp z; omega), b01_t]
    rw [List.drop_eq_nil_of_le (by omega), List.drop_eq_nil_of_le (by omega)]
  | succ m ih =>
    intro j n h1 h2 hn
    obtain ⟨n, rfl⟩ : ∃ q, n = q + 1 := ⟨n - 1, by omega⟩
    have ej : (Int32.ofNat j).toInt = j := iOfNat (by omega)
    have en : ((j : Int)).toNat = j := by omega
    have e87 : (j < a.length ∨ j < b.length) → dm248_87 k31 (dm248_73 k31 n) x1 x2 x4 x5 x6 (Int32.ofNat j) s = dm248_104 k31 x1 x2 (b01 (a.drop j = b.drop j)) x4 s := by
      intro hor
      unfold dm248_87 dm248_101
      rw [ha _ (by omega), hb _ (by omega), ej, en, ofNat_succ (by omega)]
      simp only [bu_some]
      by_cases q : a.getD j (-1) = b.getD j (-1)
      · rw [if_pos q, ih (j + 1) n (by omega) (by omega) (by omega)]
        have both : j < a.length ∧ j < b.length := by
          have g1 := getD_neg pa j
          have g2 := getD_neg pb j
          rw [q] at g1
          rcases hor with z | z
          · exact ⟨z, g2.mp (g1.mpr z)⟩
          · exact ⟨g1.mp (g2.mpr z), z⟩
        rw [getD_in both.1, getD_in both.2] at q
        rw [List.drop_eq_getElem_cons both.1, List.drop_eq_getElem_cons both.2]
        congr 1
        exact b01_c ⟨fun z => by rw [q, z], fun z => (List.cons.inj z).2⟩
      · rw [if_neg q]
        obtain ⟨n, rfl⟩ : ∃ q, n = q + 1 := ⟨n - 1, by omega⟩
        rw [zero, b01_f]
        intro z
        have z2 := congrArg (fun l => List.getD l 0 (-1)) z
        simp only [List.getD, List.getElem?_drop, Nat.add_zero] at z2
        exact q z2
    rw [dm248_73, if_neg (by decide), ha _ (by omega), hb _ (by omega), ej, en]
    simp only [bu_some]
    by_cases q1 : j < a.length
    · rw [if_pos ((getD_neg pa j).mpr q1)]
      exact e87 (Or.inl q1)
    · rw [if_neg (fun z => q1 ((getD_neg pa j).mp z))]
      by_cases q2 : j < b.length
      · rw [if_neg (fun z => lt_not_le.mp z ((getD_neg pb j).mpr q2))]
        exact e87 (Or.inr q2)
      · rw [if_pos (lt_not_le.mpr fun z => q2 ((getD_neg pb j).mp z)), b01_t]
        rw [List.drop_eq_nil_of_le (by omega), List.drop_eq_nil_of_le (by omega)]
end
section
/-! same in the reference -/
def smP (d e : Nd) (a b : List Int32) : Prop := (∀ v, v < 9 → d v = e v) ∧ a = b
set_option maxRecDepth 100000 in
theorem d248a {s : aS} {x1 x2 x4 x5 x6 : Int32} {d e : Nd} {k31 : Int32 → Int32 → Int32 → Int32 → aS → Option (Int32 × aS)} (ha : ∀ w, w < 9 → dm245 x5 (Int32.ofNat w) s = some (d w)) (hb : ∀ w, w < 9 → dm245 x6 (Int32.ofNat w) s = some (e w)) : ∀ (m w n : Nat) (p : Prop), w + m = 9 → m < n → dm248_51 k31 n x1 x2 (b01 p) x4 x5 x6 (Int32.ofNat w) s = dm248_73 k31 5000 x1 x2 (b01 (p ∧ ∀ v, w ≤ v → v < 9 → d v = e v)) x4 x5 x6 0 s := by
  intro m
  induction m with
  | zero =>
    intro w n p hw hn
    obtain ⟨n, rfl⟩ : ∃ q, n = q + 1 := ⟨n - 1, by omega⟩
    rw [dm248_51, if_pos (by rw [iLe, iOfNat (by omega)]; show (9 : Int) ≤ w; omega)]
    rw [b01_c (show p ↔ (p ∧ ∀ v, w ≤ v → v < 9 → d v = e v) from ⟨fun q => ⟨q, fun v h1 h2 => by omega⟩, fun q => q.1⟩)]
  | succ m ih =>
    intro w n p hw hn
    obtain ⟨n, rfl⟩ : ∃ q, n = q + 1 := ⟨n - 1, by omega⟩
    have hT := ih (w + 1) n True (by omega) (by omega)
    have hF := ih (w + 1) n False (by omega) (by omega)
    rw [b01_t trivial] at hT
    rw [b01_f id] at hF
    rw [dm248_51, if_neg (by rw [iLe, iOfNat (by omega)]; show ¬ (9 : Int) ≤ w; omega), ha w (by omega), hb w (by omega)]
    simp only [bu_some]
    unfold dm248_67 dm248_68
    rw [ofNat_succ (by omega), hT, hF]
    by_cases hp : p
    · rw [b01_t hp, if_neg (by decide)]
      by_cases q : d w = e w
      · rw [if_pos q, b01_c (show (True ∧ ∀ v, w + 1 ≤ v → v < 9 → d v = e v) ↔ (p ∧ ∀ v, w ≤ v → v < 9 → d v = e v) from ⟨fun z => ⟨hp, fun v h1 h2 => by
          by_cases hv : v = w
          · rw [hv]; exact q
          · exact z.2 v (by omega) h2⟩, fun z => ⟨trivial, fun v h1 h2 => z.2 v (by omega) h2⟩⟩)]
      · rw [if_neg q, b01_c (show (False ∧ ∀ v, w + 1 ≤ v → v < 9 → d v = e v) ↔ (p ∧ ∀ v, w ≤ v → v < 9 → d v = e v) from ⟨fun z => absurd z.1 id, fun z => absurd (z.2 w (Nat.le_refl _) (by omega)) q⟩)]
    · rw [b01_f hp, if_pos rfl, b01_c (show (False ∧ ∀ v, w + 1 ≤ v → v < 9 → d v = e v) ↔ (p ∧ ∀ v, w ≤ v → v < 9 → d v = e v) from ⟨fun z => absurd z.1 id, fun z => absurd z.1 hp⟩)]
set_option maxRecDepth 100000 in
theorem d248n {s : aS} {x1 x2 x4 x5 x6 : Int32} {d e : Nd} {a b : List Int32} {k31 : Int32 → Int32 → Int32 → Int32 → aS → Option (Int32 × aS)} (ha : ∀ w, w < 9 → dm245 x5 (Int32.ofNat w) s = some (d w)) (hb : ∀ w, w < 9 → dm245 x6 (Int32.ofNat w) s = some (e w)) (ga : ∀ k : Int32, 0 ≤ k.toInt → dm247 x1 x5 k s = some (a.getD k.toInt.toNat (-1))) (gb : ∀ k : Int32, 0 ≤ k.toInt → dm247 x2 x6 k s = some (b.getD k.toInt.toNat (-1))) (pa : ∀ x ∈ a, 0 ≤ x.toInt) (pb : ∀ x ∈ b, 0 ≤ x.toInt) (la : a.length ≤ 256) (lb : b.length ≤ 256) (p : Prop) : dm248_51 k31 5000 x1 x2 (b01 p) x4 x5 x6 0 s = k31 x1 x2 (b01 (p ∧ smP d e a b)) (x4 + 1) s := by
  have h1 := d248a (k31 := k31) (x1 := x1) (x2 := x2) (x4 := x4) ha hb 9 0 5000 p (by omega) (by omega)
  have h1 : dm248_51 k31 5000 x1 x2 (b01 p) x4 x5 x6 0 s = _ := h1
  rw [h1]
  by_cases q : p ∧ ∀ v, 0 ≤ v → v < 9 → d v = e v
  · rw [b01_t q]
    have h2 := d248c (k31 := k31) (x4 := x4) ga gb pa pb la lb 256 0 5000 ⟨by omega, by omega⟩ (by omega) (by omega)
    have h2 : dm248_73 k31 5000 x1 x2 1 x4 x5 x6 0 s = _ := h2
    rw [h2]
    unfold dm248_104
    rw [List.drop_zero, List.drop_zero]
    congr 1
    exact b01_c ⟨fun z => ⟨q.1, fun v hv => q.2 v (Nat.zero_le _) hv, z⟩, fun z => z.2.2⟩
  · rw [b01_f q, dm248_73, if_pos rfl, b01_f (p := p ∧ smP d e a b) (fun z => q ⟨z.1, fun v _ hv => z.2.1 v hv⟩)]
    rfl
set_option maxRecDepth 100000 in
theorem d248l {s : aS} {f g N : Nat} {F G : Nat → Nd} {la lb : Nat → List Int32} (hf : f < 8) (hg : g < 8) (h8 : N ≤ 128) (hN : sI s 127 f = Int32.ofNat N) (tf : ∀ i, i < N → RI s (128 * f + i) (F i)) (tg : ∀ i, i < N → RI s (128 * g + i) (G i)) (nf : ∀ i, i < N → NM s f (128 * f + i) (F i 0) (la i)) (ng : ∀ i, i < N → NM s g (128 * g + i) (G i 0) (lb i)) (pa : ∀ i, i < N → (la i).length ≤ 256 ∧ ∀ x ∈ la i, 0 ≤ x.toInt) (pb : ∀ i, i < N → (lb i).length ≤ 256 ∧ ∀ x ∈ lb i, 0 ≤ x.toInt) : ∀ (m j n : Nat) (p : Prop), j + m = N → m < n → dm248_31 n (Int32.ofNat f) (Int32.ofNat g) (b01 p) (Int32.ofNat j) s = some (b01 (p ∧ ∀ i, j ≤ i → i < N → smP (F i) (G i) (la i) (lb i)), s) := by
  intro m
  induction m with
  | zero =>
    intro j n p hj hn
    obtain ⟨n, rfl⟩ : ∃ q, n = q + 1 := ⟨n - 1, by omega⟩
    rw [dm248_31, if_pos (by rw [aB_iff, iOfNat (by omega)]; omega), jN_of (by omega), hN, if_pos (by rw [iLe, iOfNat (by omega), iOfNat (by omega)]; omega), if_pos (b01_01 p), b01_c (show p ↔ (p ∧ ∀ i, j ≤ i → i < N → smP (F i) (G i) (la i) (lb i)) from ⟨fun q => ⟨q, fun v h1 h2 => by omega⟩, fun q => q.1⟩)]
  | succ m ih =>
    intro j n p hj hn
    obtain ⟨n, rfl⟩ : ∃ q, n = q + 1 := ⟨n - 1, by omega⟩
    have rowM : ∀ (f : Nat) (d : Nd), f < 8 → RI s (128 * f + j) d → ∀ w, w < 9 → dm245 (Int32.ofNat (128 * f + j)) (Int32.ofNat w) s = some (d w) := by
      intro f d hf h w hw
      have hb : aB (Int32.ofNat (128 * f + j)) 1152 := by rw [aB_iff, iOfNat (by omega)]; omega
      have ej : jN (Int32.ofNat (128 * f + j)) = 128 * f + j := jN_of (by omega)
      have e := h w hw
      unfold dm245
      match w, hw with
      | 0, _ => rw [if_pos (by decide), if_pos hb, ej, e]
      | 1, _ => rw [if_neg (by decide), if_pos (by decide), if_pos hb, ej, e]
      | 2, _ => rw [if_neg (by decide), if_neg (by decide), if_pos (by decide), if_pos hb, ej, e]
      | 3, _ => rw [if_neg (by decide), if_neg (by decide), if_neg (by decide), if_pos (by decide), if_pos hb, ej, e]
      | 4, _ => rw [if_neg (by decide), if_neg (by decide), if_neg (by decide), if_neg (by decide), if_pos (by decide), if_pos hb, ej, e]
      | 5, _ => rw [if_neg (by decide), if_neg (by decide), if_neg (by decide), if_neg (by decide), if_neg (by decide), if_pos (by decide), if_pos hb, ej, e]
      | 6, _ => rw [if_neg (by decide), if_neg (by decide), if_neg (by decide), if_neg (by decide), if_neg (by decide), if_neg (by decide), if_pos (by decide), if_pos hb, ej, e]
      | 7, _ => rw [if_neg (by decide), if_neg (by decide), if_neg (by decide), if_neg (by decide), if_neg (by decide), if_neg (by decide), if_neg (by decide), if_pos (by decide), if_pos hb, ej, e]
      | 8, _ => rw [if_neg (by decide), if_neg (by decide), if_neg (by decide), if_neg (by decide), if_neg (by decide), if_neg (by decide), if_neg (by decide), if_neg (by decide), if_pos hb, ej, e]
    have letM : ∀ (f : Nat) (d : Nd) (l : List Int32), f < 8 → RI s (128 * f + j) d → NM s f (128 * f + j) (d 0) l → ∀ k : Int32, 0 ≤ k.toInt → dm247 (Int32.ofNat f) (Int32.ofNat (128 * f + j)) k s = some (l.getD k.toInt.toNat (-1)) := by
      intro f d l hf h hm k hk
      rw [d247 (by omega) (by omega) (h 0 (by omega)) hm k, if_neg (by omega)]
    rw [dm248_31, if_pos (by rw [aB_iff, iOfNat (by omega)]; omega), jN_of (by omega), hN, if_neg (by rw [iLe, iOfNat (by omega), iOfNat (by omega)]; omega), i128 (by omega) (by omega), i128 (by omega) (by omega), d248n (rowM f (F j) hf (tf j (by omega))) (rowM g (G j) hg (tg j (by omega))) (letM f (F j) (la j) hf (tf j (by omega)) (nf j (by omega))) (letM g (G j) (lb j) hg (tg j (by omega)) (ng j (by omega))) (pa j (by omega)).2 (pb j (by omega)).2 (pa j (by omega)).1 (pb j (by omega)).1 p, ofNat_succ (by omega), ih (j + 1) n (p ∧ smP (F j) (G j) (la j) (lb j)) (by omega) (by omega)]
    rw [b01_c (show ((p ∧ smP (F j) (G j) (la j) (lb j)) ∧ ∀ i, j + 1 ≤ i → i < N → smP (F i) (G i) (la i) (lb i)) ↔ (p ∧ ∀ i, j ≤ i → i < N → smP (F i) (G i) (la i) (lb i)) from ⟨fun z => ⟨z.1.1, fun i h1 h2 => by
      by_cases hi : i = j
      · rw [hi]; exact z.1.2
      · exact z.2 i (by omega) h2⟩, fun z => ⟨⟨z.1, z.2 j (Nat.le_refl _) (by omega)⟩, fun i h1 h2 => z.2 i (by omega) h2⟩⟩)]
end
section
/-! same as a whole in the reference; nodes compared in FormulaTrees -/
def ltOk (fs : Nat → Option Fm) (lt : Nat → Nat → List Int32) : Prop := ∀ f, f < 8 → ∀ h L, fs f = some (h, L) → ∀ i, i < L.length → (lt f i).length ≤ 256 ∧ ∀ x ∈ lt f i, 0 ≤ x.toInt
def samF (L M : List Nd) (la lb : Nat → List Int32) : Prop := L.length = M.length ∧ ∀ i, i < L.length → smP (L.getD i (fun _ => 0)) (M.getD i (fun _ => 0)) (la i) (lb i)
set_option maxRecDepth 100000 in
theorem getD_nd {L : List Nd} {i : Nat} (h : i < L.length) : L.getD i (fun _ => 0) = L[i] := by
  rw [List.getD, List.getElem?_eq_getElem h]
  rfl
set_option maxRecDepth 100000 in
theorem d248 {s : aS} {fs : Nat → Option Fm} {lt : Nat → Nat → List Int32} (h : MM s fs) (hc : MLt s fs lt) (ho : ltOk fs lt) (x y : Int32) :
    ((fAt fs x = none ∨ fAt fs y = none) ∧ dm248 x y s = some (0, wI s 121 0 1)) ∨
    ∃ h1 L h2 M, fAt fs x = some (h1, L) ∧ fAt fs y = some (h2, M) ∧ dm248 x y s = some (b01 (samF L M (lt x.toInt.toNat) (lt y.toInt.toNat)), wI s 121 0 0) := by
  have z1 : dm248_9 x y s = some (0, wI s 121 0 1) := by
    unfold dm248_9 dm248_12
    rw [nx_eq]
    exact if_pos (show (0 : Int32) < 1 by decide)
  unfold dm248
  rcases d225 h x with ⟨e1, e2⟩ | ⟨h1, L, e1, hx, e2, e3, -⟩
  · left
    rw [e2]
    simp only [bu_some]
    rw [if_neg (by decide), z1]
    exact ⟨Or.inl e1, rfl⟩
  · rw [e2]
    simp only [bu_some]
    rw [if_pos trivial]
    rcases d225 h y with ⟨f1, f2⟩ | ⟨h2, M, f1, hy, f2, f3, -⟩
    · left
      rw [f2]
      simp only [bu_some]
      rw [if_neg (by decide), z1]
      exact ⟨Or.inr f1, rfl⟩
    · right
      refine ⟨h1, L, h2, M, e1, f1, ?_⟩
      rw [f2]
      simp only [bu_some]
      rw [if_pos trivial]
      have l8 := e3.2.1
      have m8 := f3.2.1
      have c0 := ch0 s 0
      have t1 := e3.of c0 (by omega)
      have t2 := f3.of c0 (by omega)
      have q1 : sI (wI s 121 0 0) 127 (jN x) = Int32.ofNat L.length := t1.1
      have q2 : sI (wI s 121 0 0) 127 (jN y) = Int32.ofNat M.length := t2.1
      unfold dm248_12
      rw [nx_eq, if_neg (show ¬ 0 < sI (wI s 121 0 0) 121 0 from (by decide : ¬ (0 : Int32) < 0)), if_pos (by rw [aB_iff]; omega), if_pos (by rw [aB_iff]; omega), q1, q2]
      by_cases hlen : L.length = M.length
      · rw [if_pos (by rw [hlen])]
        have hRL : ∀ f p w, RL s f p w → RL (wI s 121 0 0) f p w := fun f p w ⟨st, a1, a2, a3, a4⟩ => ⟨st, (c0.i (by omega)).trans a1, (c0.i (by omega)).trans a2, a3, fun j hj => (c0.i (by omega)).trans (a4 j hj)⟩
        have hNM : ∀ f p kd w, NM s f p kd w → NM (wI s 121 0 0) f p kd w := fun f p kd w hh => ⟨fun z => hRL _ _ _ (hh.1 z), fun z => hRL _ _ _ (hh.2.1 z), hh.2.2⟩
        have k := d248l (s := wI s 121 0 0) (f := x.toInt.toNat) (g := y.toInt.toNat) (N := L.length) (F := fun i => L.getD i (fun _ => 0)) (G := fun i => M.getD i (fun _ => 0)) (la := lt x.toInt.toNat) (lb := lt y.toInt.toNat) (by omega) (by omega) l8 t1.1 (fun i hi w hw => by
            show _ = L.getD i (fun _ => 0) w
            rw [getD_nd hi]
            exact t1.2.2 i hi w hw) (fun i hi w hw => by
            show _ = M.getD i (fun _ => 0) w
            rw [getD_nd (by omega)]
            exact t2.2.2 i (by omega) w hw) (fun i hi => by
            show NM _ _ _ (L.getD i (fun _ => 0) 0) _
            rw [getD_nd hi]
            exact hNM _ _ _ _ (hc _ (by omega) h1 L (fAt_s e1).2 i hi)) (fun i hi => by
            show NM _ _ _ (M.getD i (fun _ => 0) 0) _
            rw [getD_nd (by omega)]
            exact hNM _ _ _ _ (hc _ (by omega) h2 M (fAt_s f1).2 i (by omega))) (fun i hi => ho _ (by omega) h1 L (fAt_s e1).2 i hi) (fun i hi => ho _ (by omega) h2 M (fAt_s f1).2 i (by omega)) L.length 0 5000 True (by omega) (by omega)
        rw [b01_t trivial, ← ofNat_of (x := x) (by omega), ← ofNat_of (x := y) (by omega)] at k
        have k : dm248_31 5000 x y 1 0 (wI s 121 0 0) = _ := k
        rw [k]
        congr 2
        exact b01_c ⟨fun z => ⟨hlen, fun i hi => z.2 i (Nat.zero_le _) hi⟩, fun z => ⟨trivial, fun i _ hi => z.2 i hi⟩⟩
      · rw [if_neg (by rw [iEq, iOfNat (by omega), iOfNat (by omega)]; omega), b01_f (fun z => hlen z.1)]
end
section
/-! same in FormulaTrees -/
set_option maxRecDepth 100000 in
theorem d165l {s : aS} {b0 b1 : Nat} {x2 : Int32} {a b : List Int32} (h10 : dm57 b0 x2 10 s = some (Int32.ofNat a.length)) (ha : ∀ k : Int32, 0 ≤ k.toInt → dm144 b0 x2 k s = some (a.getD k.toInt.toNat (-1))) (hb : ∀ k : Int32, 0 ≤ k.toInt → dm144 b1 x2 k s = some (b.getD k.toInt.toNat (-1))) (hl : a.length = b.length) (la : a.length ≤ 256) : ∀ (m j n : Nat), j + m = a.length → m + 1 < n → dm165_37 n b0 b1 x2 1 (Int32.ofNat j) s = some (b01 (a.drop j = b.drop j)) := by
  intro m
  induction m with
  | zero =>
    intro j n hj hn
    obtain ⟨n, rfl⟩ : ∃ q, n = q + 1 := ⟨n - 1, by omega⟩
    rw [dm165_37, h10]
    simp only [bu_some]
    rw [if_pos (by rw [iLe, iOfNat (by omega), iOfNat (by omega)]; omega), if_pos (Or.inr trivial), b01_t]
    rw [List.drop_eq_nil_of_le (by omega), List.drop_eq_nil_of_le (by omega)]
  | succ m ih =>
    intro j n hj hn
    obtain ⟨n, rfl⟩ : ∃ q, n = q + 1 := ⟨n - 1, by omega⟩
    have ej : (Int32.ofNat j).toInt = j := iOfNat (by omega)
    have en : ((j : Int)).toNat = j := by omega
    have q1 : j < a.length := by omega
    have q2 : j < b.length := by omega
    rw [dm165_37, h10]
    simp only [bu_some]
    rw [if_neg (by rw [iLe, iOfNat (by omega), iOfNat (by omega)]; omega), if_neg (by decide), ha _ (by omega), hb _ (by omega), ej, en, getD_in q1, getD_in q2]
    simp only [bu_some]
    unfold dm165_57
    rw [ofNat_succ (by omega), List.drop_eq_getElem_cons q1, List.drop_eq_getElem_cons q2]
    by_cases q : a[j] = b[j]
    · rw [if_pos q, ih (j + 1) n (by omega) (by omega)]
      congr 1
      exact b01_c ⟨fun z => by rw [q, z], fun z => (List.cons.inj z).2⟩
    · rw [if_neg q, b01_f (fun z => q (List.cons.inj z).1)]
      obtain ⟨n, rfl⟩ : ∃ q, n = q + 1 := ⟨n - 1, by omega⟩
      rw [dm165_37, h10]
      simp only [bu_some]
      split
      · rw [if_pos (Or.inl trivial)]
      · rw [if_pos trivial, if_pos (Or.inl trivial)]
set_option maxRecDepth 100000 in
theorem d165f {s : aS} {b0 b1 : Nat} {x2 : Int32} {d e : Nd} (ha : ∀ w, w < 9 → dm57 b0 x2 (Int32.ofNat w) s = some (d w)) (hb : ∀ w, w < 9 → dm57 b1 x2 (Int32.ofNat w) s = some (e w)) : ∀ (m w n : Nat) (p : Prop), w + m = 9 → m < n → dm165_15 n b0 b1 x2 (b01 p) (Int32.ofNat w) s = dm165_35 b0 b1 x2 (b01 (p ∧ ∀ v, w ≤ v → v < 9 → d v = e v)) s := by
  intro m
  induction m with
  | zero =>
    intro w n p hw hn
    obtain ⟨n, rfl⟩ : ∃ q, n = q + 1 := ⟨n - 1, by omega⟩
    rw [dm165_15, if_pos (by rw [iLe, iOfNat (by omega)]; show (9 : Int) ≤ w; omega), b01_c (show p ↔ (p ∧ ∀ v, w ≤ v → v < 9 → d v = e v) from ⟨fun q => ⟨q, fun v h1 h2 => by omega⟩, fun q => q.1⟩)]
  | succ m ih =>
    intro w n p hw hn
    obtain ⟨n, rfl⟩ : ∃ q, n = q + 1 := ⟨n - 1, by omega⟩
    have hT := ih (w + 1) n True (by omega) (by omega)
    have hF := ih (w + 1) n False (by omega) (by omega)
    rw [b01_t trivial] at hT
    rw [b01_f id] at hF
    rw [dm165_15, if_neg (by rw [iLe, iOfNat (by omega)]; show ¬ (9 : Int) ≤ w; omega), ha w (by omega), hb w (by omega)]
    simp only [bu_some]
    unfold dm165_32
    rw [ofNat_succ (by omega), hT, hF]
    by_cases hp : p
    · rw [b01_t hp, if_neg (by decide)]
      by_cases q : d w = e w
      · rw [if_pos q, b01_c (show (True ∧ ∀ v, w + 1 ≤ v → v < 9 → d v = e v) ↔ (p ∧ ∀ v, w ≤ v → v < 9 → d v = e v) from ⟨fun z => ⟨hp, fun v h1 h2 => by
          by_cases hv : v = w
          · rw [hv]; exact q
          · exact z.2 v (by omega) h2⟩, fun z => ⟨trivial, fun v h1 h2 => z.2 v (by omega) h2⟩⟩)]
      · rw [if_neg q, b01_c (show (False ∧ ∀ v, w + 1 ≤ v → v < 9 → d v = e v) ↔ (p ∧ ∀ v, w ≤ v → v < 9 → d v = e v) from ⟨fun z => absurd z.1 id, fun z => absurd (z.2 w (Nat.le_refl _) (by omega)) q⟩)]
    · rw [b01_f hp, if_pos rfl, b01_f (p := p ∧ ∀ v, w ≤ v → v < 9 → d v = e v) (fun z => hp z.1)]
set_option maxRecDepth 100000 in
theorem d165 {s : aS} {b0 b1 : Nat} {x2 : Int32} {d e : Nd} {a b : List Int32} (ha : ∀ w, w < 9 → dm57 b0 x2 (Int32.ofNat w) s = some (d w)) (hb : ∀ w, w < 9 → dm57 b1 x2 (Int32.ofNat w) s = some (e w)) (h0 : dm57 b0 x2 10 s = some (Int32.ofNat a.length)) (h1 : dm57 b1 x2 10 s = some (Int32.ofNat b.length)) (ga : ∀ k : Int32, 0 ≤ k.toInt → dm144 b0 x2 k s = some (a.getD k.toInt.toNat (-1))) (gb : ∀ k : Int32, 0 ≤ k.toInt → dm144 b1 x2 k s = some (b.getD k.toInt.toNat (-1))) (la : a.length ≤ 256) (lb : b.length ≤ 256) : dm165 b0 b1 x2 s = some (b01 (smP d e a b)) := by
  have zero : dm165_35 b0 b1 x2 0 s = some 0 := by
    unfold dm165_35
    rw [dm165_37, h0]
    simp only [bu_some]
    split
    · rw [if_pos (Or.inl trivial)]
    · rw [if_pos trivial, if_pos (Or.inl trivial)]
  unfold dm165 dm165_12
  rw [h0, h1]
  simp only [bu_some]
  by_cases hl : a.length = b.length
  · rw [if_pos (by rw [hl])]
    have k := d165f ha hb 9 0 5000 True (by omega) (by omega)
    rw [b01_t trivial] at k
    have k : dm165_15 5000 b0 b1 x2 1 0 s = _ := k
    rw [k]
    by_cases q : True ∧ ∀ v, 0 ≤ v → v < 9 → d v = e v
    · rw [b01_t q]
      unfold dm165_35
      have k2 := d165l h0 ga gb hl la a.length 0 5000 (by omega) (by omega)
      have k2 : dm165_37 5000 b0 b1 x2 1 0 s = _ := k2
      rw [k2, List.drop_zero, List.drop_zero]
      congr 1
      exact b01_c ⟨fun z => ⟨fun v hv => q.2 v (Nat.zero_le _) hv, z⟩, fun z => z.2⟩
    · rw [b01_f q, zero, b01_f (p := smP d e a b) (fun z => q ⟨trivial, fun v _ hv => z.1 v hv⟩)]
  · rw [if_neg (by rw [iEq, iOfNat (by omega), iOfNat (by omega)]; omega)]
    have k := d165f ha hb 9 0 5000 False (by omega) (by omega)
    rw [b01_f id] at k
    have k : dm165_15 5000 b0 b1 x2 0 0 s = _ := k
    rw [k, b01_f (fun z => z.1), zero, b01_f (p := smP d e a b) (fun z => hl (by rw [z.2]))]
end
section
/-! same as a whole in FormulaTrees -/
set_option maxRecDepth 100000 in
theorem d164l {s : aS} {b0 b1 N : Nat} {P : Nat → Prop} (hN : sI s b0 2 = Int32.ofNat N) (h8 : N ≤ 128) (h : ∀ i, i < N → dm165 b0 b1 (Int32.ofNat i) s = some (b01 (P i))) : ∀ (m j n : Nat) (p : Prop), j + m = N → m < n → dm164_11 n b0 b1 (b01 p) (Int32.ofNat j) s = some (b01 (p ∧ ∀ i, j ≤ i → i < N → P i)) := by
  intro m
  induction m with
  | zero =>
    intro j n p hj hn
    obtain ⟨n, rfl⟩ : ∃ q, n = q + 1 := ⟨n - 1, by omega⟩
    rw [dm164_11, hN, if_pos (by rw [iLe, iOfNat (by omega), iOfNat (by omega)]; omega), if_pos (b01_01 p), b01_c (show p ↔ (p ∧ ∀ i, j ≤ i → i < N → P i) from ⟨fun q => ⟨q, fun v h1 h2 => by omega⟩, fun q => q.1⟩)]
  | succ m ih =>
    intro j n p hj hn
    obtain ⟨n, rfl⟩ : ∃ q, n = q + 1 := ⟨n - 1, by omega⟩
    rw [dm164_11, hN, if_neg (by rw [iLe, iOfNat (by omega), iOfNat (by omega)]; omega), h j (by omega)]
    simp only [bu_some]
    rw [ofNat_succ (by omega), ih (j + 1) n (P j) (by omega) (by omega)]
    by_cases hp : p
    · rw [b01_t hp, if_neg (by decide)]
      congr 1
      exact b01_c ⟨fun z => ⟨hp, fun i h1 h2 => by
        by_cases hi : i = j
        · rw [hi]; exact z.1
        · exact z.2 i (by omega) h2⟩, fun z => ⟨z.2 j (Nat.le_refl _) (by omega), fun i h1 h2 => z.2 i (by omega) h2⟩⟩
    · rw [b01_f hp, if_pos rfl, if_pos (Or.inl rfl), b01_f (p := p ∧ ∀ i, j ≤ i → i < N → P i) (fun z => hp z.1)]
set_option maxRecDepth 100000 in
theorem d163 {tt : Nat} {cc : Nat → Nat → Int32} {s : aS} {fs : Nat → Option Fm} {lt : Nat → Nat → List Int32} (hl : Ly tt cc s) (h : CF s fs) (hc : CLt s fs lt) (ho : ltOk fs lt) (x y : Int32) :
    ((fAt fs x = none ∨ fAt fs y = none) ∧ dm163 x y s = some (.inr 2, nw s 82 0)) ∨
    ∃ h1 L h2 M, fAt fs x = some (h1, L) ∧ fAt fs y = some (h2, M) ∧ dm163 x y s = some (.inl (some (.int (b01 (samF L M (lt x.toInt.toNat) (lt y.toInt.toNat))))), s) := by
  unfold dm163 dm163_12
  rcases d54 h x with ⟨e1, e2⟩ | ⟨h1, L, b, e1, hx, e2, e3, e4, e5, -⟩
  · left
    refine ⟨Or.inl e1, ?_⟩
    rw [e2]
    simp only [bu_some, vN_null]
    rcases d54 h y with ⟨f1, f2⟩ | ⟨h2, M, c, f1, hy, f2, f3, -⟩
    · rw [f2]
      rfl
    · rw [f2]
      simp only [bu_some, vN_ref]
      rw [if_pos f3]
  · rw [e2]
    simp only [bu_some, vN_ref]
    rw [if_pos e3]
    rcases d54 h y with ⟨f1, f2⟩ | ⟨h2, M, c, f1, hy, f2, f3, f4, f5, -⟩
    · left
      rw [f2]
      exact ⟨Or.inr f1, rfl⟩
    · right
      refine ⟨h1, L, h2, M, e1, f1, ?_⟩
      rw [f2]
      simp only [bu_some, vN_ref]
      rw [if_pos f3]
      have l8 := e4.2.1
      have m8 := f4.2.1
      obtain ⟨u, u1, u2⟩ := hc _ (by omega) h1 L (fAt_s e1).2 b e5
      obtain ⟨v, v1, v2⟩ := hc _ (by omega) h2 M (fAt_s f1).2 c f5
      have key : dm164 b c s = some (b01 (samF L M (lt x.toInt.toNat) (lt y.toInt.toNat))) := by
        unfold dm164 dm164_8
        rw [e4.1, f4.1]
        by_cases hlen : L.length = M.length
        · rw [if_pos (by rw [hlen])]
          have k := d164l (s := s) (b0 := b) (b1 := c) (N := L.length) (P := fun i => smP (L.getD i (fun _ => 0)) (M.getD i (fun _ => 0)) (lt x.toInt.toNat i) (lt y.toInt.toNat i)) e4.1 l8 (fun i hi => by
            have r1 : CR s b i (L.getD i (fun _ => 0)) := by rw [getD_nd hi]; exact fun w hw => e4.2.2 i hi w hw
            have r2 : CR s c i (M.getD i (fun _ => 0)) := by rw [getD_nd (by omega)]; exact fun w hw => f4.2.2 i (by omega) w hw
            obtain ⟨st1, -, a2, -⟩ := u2 i hi
            obtain ⟨st2, -, b2, -⟩ := v2 i (by omega)
            exact d165 (fun w hw => CR.f e4.1 l8 hi r1 hw) (fun w hw => CR.f f4.1 m8 (by omega) r2 hw) ((d57 (w := 10) e4.1 l8 hi (by omega)).trans (by rw [a2])) ((d57 (w := 10) f4.1 m8 (by omega) (by omega)).trans (by rw [b2])) (fun k hk => by rw [d144 e4.1 l8 hi u1 (by rw [(hl.tr e3).2.2.2.2.2.2.1]) (u2 i hi) k, if_neg (by omega)]) (fun k hk => by rw [d144 f4.1 m8 (by omega) v1 (by rw [(hl.tr f3).2.2.2.2.2.2.1]) (v2 i (by omega)) k, if_neg (by omega)]) (ho _ (by omega) h1 L (fAt_s e1).2 i hi).1 (ho _ (by omega) h2 M (fAt_s f1).2 i (by omega)).1) L.length 0 5000 True (by omega) (by omega)
          rw [b01_t trivial] at k
          have k : dm164_11 5000 b c 1 0 s = _ := k
          rw [k]
          congr 1
          exact b01_c ⟨fun z => ⟨hlen, fun i hi => z.2 i (Nat.zero_le _) hi⟩, fun z => ⟨trivial, fun i _ hi => z.2 i hi⟩⟩
        · rw [if_neg (by rw [iEq, iOfNat (by omega), iOfNat (by omega)]; omega), dm164_11, b01_f (fun z => hlen z.1)]
          split
          · rw [if_pos (Or.inl rfl)]
          · rw [if_pos rfl, if_pos (Or.inl rfl)]
      rw [key]
      simp only [bu_some]
      rw [if_pos (b01_01 _)]
end
section
/-! what both do to formulas is the same -/
def fsAll (p : Nd → Prop) (fs : Nat → Option Fm) : Prop := ∀ f h L, fs f = some (h, L) → ∀ d ∈ L, p d
set_option maxRecDepth 100000 in
theorem shG_add (x y t k n : Int32) (d : Nd) (c e : Int32) : shG x y t k n d (c + e) = c + shG x y t k n d e := by
  have a : c + e + 1 = c + (e + 1) := Int32.add_assoc c e 1
  unfold shG shK
  split
  · rfl
  · split
    · split
      · exact a
      · rfl
    · split
      · exact a
      · rfl
set_option maxRecDepth 100000 in
theorem scC_add (x y t k n : Int32) (F : Nat → Nd) : ∀ (q j : Nat) (c e : Int32), scC x y t k n F q j (c + e) = c + scC x y t k n F q j e
  | 0, _, _, _ => rfl
  | q + 1, j, c, e => by
    show scC x y t k n F q (j + 1) (shG x y t k n (F j) (c + e)) = c + scC x y t k n F q (j + 1) (shG x y t k n (F j) e)
    rw [shG_add, scC_add x y t k n F q (j + 1)]
set_option maxRecDepth 100000 in
theorem ca_eq {x t k n : Int32} {fs : Nat → Option Fm} (hx : 0 ≤ x.toInt) (hk : rgP k (lastT t)) (hn : wayP n) (h : fsAll ndS fs) : ∀ (q f : Nat) (c : Int32), caC x t k n fs q f c = caM x t k n (lastT t) fs q f c
  | 0, _, _ => rfl
  | q + 1, f, c => by
    unfold caC caM
    cases hq : fs f with
    | none => exact ca_eq hx hk hn h q (f + 1) c
    | some v =>
      obtain ⟨ho, L⟩ := v
      have e : c + scC x (hmY ho x) t k n (fun i => L.getD i (fun _ => 0)) L.length 0 0 = scM x t k n (lastT t) ho (fun i => L.getD i (fun _ => 0)) L.length 0 c := by
        rw [← scC_add, Int32.add_zero]
        exact scn_eq hx rfl hk hn L.length 0 c fun i _ hi => by
          show ndS (L.getD i (fun _ => 0))
          rw [getD_nd (by omega)]
          exact h f ho L hq _ (List.getElem_mem _)
      show caC x t k n fs q (f + 1) (c + scC x (hmY ho x) t k n (fun i => L.getD i (fun _ => 0)) L.length 0 0) = caM x t k n (lastT t) fs q (f + 1) (scM x t k n (lastT t) ho (fun i => L.getD i (fun _ => 0)) L.length 0 c)
      rw [e]
      exact ca_eq hx hk hn h q (f + 1) _
set_option maxRecDepth 100000 in
theorem fsSh_eq {x t k n : Int32} {fs : Nat → Option Fm} (hx : 0 ≤ x.toInt) (hk : rgP k (lastT t)) (hn : wayP n) (h : fsAll ndS fs) : fsShC x t k n fs = fsShM x t k n (lastT t) fs := by
  funext f
  unfold fsShC fsShM
  cases hq : fs f with
  | none => rfl
  | some v =>
    obtain ⟨ho, L⟩ := v
    show some (ho, L.map (shF x (hmY ho x) t k n)) = some (ho, L.map (shM x t k n (lastT t) ho))
    congr 2
    exact List.map_congr_left fun d hd => (sh_eq hx (h f ho L hq d hd) rfl hk hn).1
set_option maxRecDepth 100000 in
theorem fsDrop_eq {x : Int32} {fs : Nat → Option Fm} (h : fsAll (fun d => d 2 = x → d 1 = 0) fs) : fsDrop x fs = fsDropM x fs := by
  funext f
  unfold fsDrop fsDropM
  cases hq : fs f with
  | none => rfl
  | some v =>
    obtain ⟨ho, L⟩ := v
    show (if ho = x then none else some (if ho ≤ x then ho else ho - 1, L.map (lsN x))) = (if ho = x then none else some (if ho ≤ x then ho else ho - 1, L.map (lsM x)))
    have e : L.map (lsN x) = L.map (lsM x) := List.map_congr_left fun d hd => by
      unfold lsN lsM
      by_cases q : d 2 = x
      · rw [if_pos q, if_pos q, lo_eq (h f ho L hq d hd q)]
      · rw [if_neg q, if_neg q]
    rw [e]
set_option maxRecDepth 100000 in
theorem fsMove_eq {x y : Nat} {r c ho : Int32} {L : List Nd} {fs : Nat → Option Fm} (h : ∀ d ∈ L, isRf d → ndR d) : fsMove x y r c ho (fun r c => onRf (mvC r c)) L fs = fsMove x y r c ho (fun r c => onRf (mvM r c)) L fs := by
  funext f
  unfold fsMove
  have e : L.map (onRf (mvC r c)) = L.map (onRf (mvM r c)) := List.map_congr_left fun d hd => by
    by_cases q : isRf d
    · rw [onRf_t q, onRf_t q, mv_eq (h d hd q)]
    · rw [onRf_f q, onRf_f q]
  show (if f = y then some (ho, L.map (onRf (mvC r c))) else fs f) = (if f = y then some (ho, L.map (onRf (mvM r c))) else fs f)
  rw [e]
end
section
/-! what holds of every node, kept by drop, move and shift -/
def ndOk (d : Nd) : Prop := (-1 ≤ (d 2).toInt ∧ (d 2).toInt ≤ 7) ∧ (0 ≤ (d 7).toInt ∧ (d 7).toInt ≤ 15) ∧ (¬ isRf d → d 2 = -1) ∧ (isRf d → d 1 = 0 ∧ rgP (d 3) 1048576 ∧ rgP (d 5) 1048576 ∧ (d 3).toInt ≤ (d 5).toInt ∧ rgP (d 4) 16384 ∧ rgP (d 6) 16384 ∧ (d 4).toInt ≤ (d 6).toInt) ∧ (d 0 = 4 → d 5 = d 3 ∧ d 6 = d 4)
set_option maxRecDepth 100000 in
theorem ndOk.s {d : Nd} (h : ndOk d) : ndS d := ⟨h.1.1, h.2.2.2.1⟩
set_option maxRecDepth 100000 in
theorem ndOk.r {d : Nd} (h : ndOk d) (q : isRf d) : ndR d := ⟨q, h.2.1, (h.2.2.2.1 q).1, h.2.2.2.2⟩
set_option maxRecDepth 100000 in
theorem ndOk.c {d : Nd} {x : Int32} (h : ndOk d) (hx : 0 ≤ x.toInt) (q : d 2 = x) : d 1 = 0 := by
  by_cases z : isRf d
  · exact (h.2.2.2.1 z).1
  · have := h.2.2.1 z
    rw [q, iEq] at this
    have : x.toInt = -1 := this
    omega
set_option maxRecDepth 100000 in
theorem lo_ok : ndOk loF := by
  refine ⟨by decide, by decide, fun _ => rfl, ?_, ?_⟩
  · rintro (q | q)
    · exact absurd q (by decide)
    · exact absurd q (by decide)
  · intro q
    exact absurd q (by decide)
set_option maxRecDepth 100000 in
theorem ls_ok {x : Int32} {d : Nd} (hx : 0 ≤ x.toInt) (h : ndOk d) : ndOk (lsN x d) := by
  unfold lsN
  by_cases q1 : d 2 = x
  · rw [if_pos q1]
    exact lo_ok
  · rw [if_neg q1]
    by_cases q2 : d 2 ≤ x
    · rw [if_pos q2]
      exact h
    · rw [if_neg q2]
      obtain ⟨h1, h2, h3, h4, h5⟩ := h
      rw [iLe] at q2
      have e : (d 2 - 1).toInt = (d 2).toInt - 1 := iSub (y := 1) (by show _ ≤ (d 2).toInt - 1; omega) (by show (d 2).toInt - 1 ≤ _; omega)
      refine ⟨?_, h2, fun z => ?_, h4, h5⟩
      · show -1 ≤ (d 2 - 1).toInt ∧ (d 2 - 1).toInt ≤ 7
        rw [e]
        omega
      · exfalso
        have := h3 z
        rw [iEq] at this
        have : (d 2).toInt = -1 := this
        omega
set_option maxRecDepth 100000 in
/-- the two numbers of a shifted node -/
theorem sh_rg {x y k n m : Int32} (hm : m.toInt ≤ 1048576) (hx : rgP x m) (hy : rgP y m) (hxy : x.toInt ≤ y.toInt) (hk : rgP k m) (hn : wayP n) (hl : ¬ (lB y k n m < fB x k n ∨ ¬ fB x k n ≤ m)) : rgP (fB x k n) m ∧ rgP (lB y k n m) m ∧ (fB x k n).toInt ≤ (lB y k n m).toInt ∧ (x = y → lB y k n m = fB x k n) := by
  unfold rgP wayP at *
  have ex : (x + n).toInt = x.toInt + n.toInt := iAdd (by omega) (by omega)
  have ey : (y + n).toInt = y.toInt + n.toInt := iAdd (by omega) (by omega)
  have ek : (k - n).toInt = k.toInt - n.toInt := iSub (by omega) (by omega)
  have e1 : (k - 1).toInt = k.toInt - 1 := iSub (y := 1) (by show _ ≤ k.toInt - 1; omega) (by show k.toInt - 1 ≤ _; omega)
  have n0 : 0 ≤ n ↔ 0 ≤ n.toInt := iLe
  have n1 : n < 0 ↔ n.toInt < 0 := iLt
  have vx : (fB x k n).toInt = if k.toInt ≤ x.toInt then (if n.toInt < 0 then (if k.toInt - n.toInt ≤ x.toInt then x.toInt + n.toInt else k.toInt) else x.toInt + n.toInt) else x.toInt := by
    unfold fB
    by_cases q : k ≤ x
    · rw [if_pos q, if_pos (iLe.mp q)]
      by_cases q1 : n < 0
      · rw [if_pos q1, if_pos (n1.mp q1)]
        by_cases q2 : k - n ≤ x
        · rw [if_pos q2, if_pos (by rw [← ek]; exact iLe.mp q2), ex]
        · rw [if_neg q2, if_neg (fun z => q2 (iLe.mpr (by rw [ek]; exact z)))]
      · rw [if_neg q1, if_neg (fun z => q1 (n1.mpr z)), ex]
    · rw [if_neg q, if_neg (fun z => q (iLe.mpr z))]
  have vy : (lB y k n m).toInt = if k.toInt ≤ y.toInt then (if 0 ≤ n.toInt then (if y.toInt + n.toInt ≤ m.toInt then y.toInt + n.toInt else m.toInt) else (if k.toInt - n.toInt ≤ y.toInt then y.toInt + n.toInt else k.toInt - 1)) else y.toInt := by
    unfold lB
    by_cases q : k ≤ y
    · rw [if_pos q, if_pos (iLe.mp q)]
      by_cases q1 : 0 ≤ n
      · rw [if_pos q1, if_pos (n0.mp q1)]
        by_cases q2 : y + n ≤ m
        · rw [if_pos q2, if_pos (by rw [← ey]; exact iLe.mp q2), ey]
        · rw [if_neg q2, if_neg (fun z => q2 (iLe.mpr (by rw [ey]; exact z)))]
      · rw [if_neg q1, if_neg (fun z => q1 (n0.mpr z))]
        by_cases q2 : k - n ≤ y
        · rw [if_pos q2, if_pos (by rw [← ek]; exact iLe.mp q2), ey]
        · rw [if_neg q2, if_neg (fun z => q2 (iLe.mpr (by rw [ek]; exact z))), e1]
    · rw [if_neg q, if_neg (fun z => q (iLe.mpr z))]
  rw [iLt, iLe] at hl
  have core : ∀ A B : Int, A = (if k.toInt ≤ x.toInt then (if n.toInt < 0 then (if k.toInt - n.toInt ≤ x.toInt then x.toInt + n.toInt else k.toInt) else x.toInt + n.toInt) else x.toInt) → B = (if k.toInt ≤ y.toInt then (if 0 ≤ n.toInt then (if y.toInt + n.toInt ≤ m.toInt then y.toInt + n.toInt else m.toInt) else (if k.toInt - n.toInt ≤ y.toInt then y.toInt + n.toInt else k.toInt - 1)) else y.toInt) → ¬ (B < A ∨ ¬ A ≤ m.toInt) → (1 ≤ A ∧ A ≤ m.toInt) ∧ (1 ≤ B ∧ B ≤ m.toInt) ∧ A ≤ B ∧ (x.toInt = y.toInt → B = A) := by
    intro A B hA hB h
    split at hA <;> (try split at hA) <;> (try split at hA) <;> split at hB <;> (try split at hB) <;> (try split at hB) <;> omega
  obtain ⟨c1, c2, c3, c4⟩ := core _ _ vx vy hl
  exact ⟨c1, c2, c3, fun e => Int32.toInt_inj.mp (c4 (by rw [e]))⟩
set_option maxRecDepth 100000 in
theorem ok_of {d e : Nd} (e0 : e 0 = d 0) (e1 : e 1 = d 1) (e2 : e 2 = d 2) (h7 : 0 ≤ (e 7).toInt ∧ (e 7).toInt ≤ 15) (h : ndOk d) (hf : isRf d) (r : rgP (e 3) 1048576 ∧ rgP (e 5) 1048576 ∧ (e 3).toInt ≤ (e 5).toInt ∧ rgP (e 4) 16384 ∧ rgP (e 6) 16384 ∧ (e 4).toInt ≤ (e 6).toInt) (c : d 0 = 4 → e 5 = e 3 ∧ e 6 = e 4) : ndOk e := by
  have hfe : isRf e := by
    unfold isRf at hf ⊢
    rw [e0]
    exact hf
  refine ⟨by rw [e2]; exact h.1, h7, fun z => absurd hfe z, fun _ => ⟨e1.trans (h.2.2.2.1 hf).1, r⟩, fun z => c (e0.symm.trans z)⟩
set_option maxRecDepth 100000 in
theorem sh_ok {x t k n ho : Int32} {d : Nd} (h : ndOk d) (hk : rgP k (lastT t)) (hn : wayP n) : ndOk (shM x t k n (lastT t) ho d) := by
  unfold shM
  by_cases q : isRf d ∧ onS x ho d
  · rw [b01_t q, if_neg (by decide)]
    obtain ⟨d1, r3, r5, r35, r4, r6, r46⟩ := h.2.2.2.1 q.1
    by_cases L : loS t k n (lastT t) d
    · rw [b01_t L, if_neg (by decide), lo_eq d1]
      exact lo_ok
    · rw [b01_f L, if_pos rfl]
      have hm := last_le t
      unfold loS at L
      by_cases ht : t = 0
      · have eA : wA t = 4 := if_pos ht
        have eB : wB t = 6 := if_pos ht
        have eL : lastT t = 16384 := if_pos ht
        rw [eA, eB, eL] at L
        rw [eA, eB, eL]
        rw [eL] at hm hk
        obtain ⟨c1, c2, c3, c4⟩ := sh_rg hm r4 r6 r46 hk hn L
        generalize fB (d 4) k n = a at c1 c3 c4 ⊢
        generalize lB (d 6) k n 16384 = b at c2 c3 c4 ⊢
        have s0 : setN (setN d 4 a) 6 b 0 = d 0 := (setN_n (by omega)).trans (setN_n (by omega))
        have s1 : setN (setN d 4 a) 6 b 1 = d 1 := (setN_n (by omega)).trans (setN_n (by omega))
        have s2 : setN (setN d 4 a) 6 b 2 = d 2 := (setN_n (by omega)).trans (setN_n (by omega))
        have s3 : setN (setN d 4 a) 6 b 3 = d 3 := (setN_n (by omega)).trans (setN_n (by omega))
        have s4 : setN (setN d 4 a) 6 b 4 = a := (setN_n (by omega)).trans setN_s
        have s5 : setN (setN d 4 a) 6 b 5 = d 5 := (setN_n (by omega)).trans (setN_n (by omega))
        have s6 : setN (setN d 4 a) 6 b 6 = b := setN_s
        have s7 : setN (setN d 4 a) 6 b 7 = d 7 := (setN_n (by omega)).trans (setN_n (by omega))
        refine ok_of s0 s1 s2 (by rw [s7]; exact h.2.1) h q.1 ?_ ?_
        · rw [s3, s4, s5, s6]
          exact ⟨r3, r5, r35, c1, c2, c3⟩
        · rw [s3, s4, s5, s6]
          exact fun z => ⟨(h.2.2.2.2 z).1, c4 (h.2.2.2.2 z).2.symm⟩
      · have eA : wA t = 3 := if_neg ht
        have eB : wB t = 5 := if_neg ht
        have eL : lastT t = 1048576 := if_neg ht
        rw [eA, eB, eL] at L
        rw [eA, eB, eL]
        rw [eL] at hm hk
        obtain ⟨c1, c2, c3, c4⟩ := sh_rg hm r3 r5 r35 hk hn L
        generalize fB (d 3) k n = a at c1 c3 c4 ⊢
        generalize lB (d 5) k n 1048576 = b at c2 c3 c4 ⊢
        have s0 : setN (setN d 3 a) 5 b 0 = d 0 := (setN_n (by omega)).trans (setN_n (by omega))
        have s1 : setN (setN d 3 a) 5 b 1 = d 1 := (setN_n (by omega)).trans (setN_n (by omega))
        have s2 : setN (setN d 3 a) 5 b 2 = d 2 := (setN_n (by omega)).trans (setN_n (by omega))
        have s3 : setN (setN d 3 a) 5 b 3 = a := (setN_n (by omega)).trans setN_s
        have s4 : setN (setN d 3 a) 5 b 4 = d 4 := (setN_n (by omega)).trans (setN_n (by omega))
        have s5 : setN (setN d 3 a) 5 b 5 = b := setN_s
        have s6 : setN (setN d 3 a) 5 b 6 = d 6 := (setN_n (by omega)).trans (setN_n (by omega))
        have s7 : setN (setN d 3 a) 5 b 7 = d 7 := (setN_n (by omega)).trans (setN_n (by omega))
        refine ok_of s0 s1 s2 (by rw [s7]; exact h.2.1) h q.1 ?_ ?_
        · rw [s3, s4, s5, s6]
          exact ⟨c1, c2, c3, r4, r6, r46⟩
        · rw [s3, s4, s5, s6]
          exact fun z => ⟨c4 (h.2.2.2.2 z).1.symm, (h.2.2.2.2 z).2⟩
  · rw [b01_f q, if_pos rfl]
    exact h
end
section
/-! nodes stay right over move -/
set_option maxRecDepth 100000 in
theorem exC2 {x : Int32} (hx : 0 ≤ x.toInt ∧ x.toInt ≤ 15) : 0 ≤ (((x &&& 5) ||| ((x &&& 2) <<< ((2 : Int32) &&& 31))) ||| ((x >>> ((2 : Int32) &&& 31)) &&& 2)).toInt ∧ (((x &&& 5) ||| ((x &&& 2) <<< ((2 : Int32) &&& 31))) ||| ((x >>> ((2 : Int32) &&& 31)) &&& 2)).toInt ≤ 15 := by
  have key : ∀ q : Fin 16, 0 ≤ (((Int32.ofNat q.val &&& 5) ||| ((Int32.ofNat q.val &&& 2) <<< ((2 : Int32) &&& 31))) ||| ((Int32.ofNat q.val >>> ((2 : Int32) &&& 31)) &&& 2)).toInt ∧ (((Int32.ofNat q.val &&& 5) ||| ((Int32.ofNat q.val &&& 2) <<< ((2 : Int32) &&& 31))) ||| ((Int32.ofNat q.val >>> ((2 : Int32) &&& 31)) &&& 2)).toInt ≤ 15 := by decide +kernel
  have := key ⟨x.toInt.toNat, by omega⟩
  rw [← ofNat_of (x := x) hx.1] at this
  exact this
set_option maxRecDepth 100000 in
theorem srR_k {e : Nd} {k : Nat} (h : k ≠ 3 ∧ k ≠ 5 ∧ k ≠ 7) : srR e k = e k := by
  unfold srR
  split
  · rfl
  · rw [setN_n h.2.2, setN_n h.2.1, setN_n h.1]
set_option maxRecDepth 100000 in
theorem srC_k {e : Nd} {k : Nat} (h : k ≠ 4 ∧ k ≠ 6 ∧ k ≠ 7) : srC e k = e k := by
  unfold srC
  split
  · rfl
  · rw [setN_n h.2.2, setN_n h.2.1, setN_n h.1]
set_option maxRecDepth 100000 in
theorem srR_r {e : Nd} {m : Int32} (h3 : rgP (e 3) m) (h5 : rgP (e 5) m) (h7 : 0 ≤ (e 7).toInt ∧ (e 7).toInt ≤ 15) : rgP (srR e 3) m ∧ rgP (srR e 5) m ∧ (srR e 3).toInt ≤ (srR e 5).toInt ∧ 0 ≤ (srR e 7).toInt ∧ (srR e 7).toInt ≤ 15 := by
  unfold srR
  by_cases q : e 3 ≤ e 5
  · rw [if_pos q]
    exact ⟨h3, h5, iLe.mp q, h7⟩
  · rw [if_neg q]
    rw [setN_n (k := 3) (by omega), setN_n (k := 3) (by omega), setN_s, setN_n (k := 5) (by omega), setN_s, setN_s]
    rw [iLe] at q
    exact ⟨h5, h3, by omega, (exR h7).2⟩
set_option maxRecDepth 100000 in
theorem srC_r {e : Nd} {m : Int32} (h3 : rgP (e 4) m) (h5 : rgP (e 6) m) (h7 : 0 ≤ (e 7).toInt ∧ (e 7).toInt ≤ 15) : rgP (srC e 4) m ∧ rgP (srC e 6) m ∧ (srC e 4).toInt ≤ (srC e 6).toInt ∧ 0 ≤ (srC e 7).toInt ∧ (srC e 7).toInt ≤ 15 := by
  unfold srC
  by_cases q : e 4 ≤ e 6
  · rw [if_pos q]
    exact ⟨h3, h5, iLe.mp q, h7⟩
  · rw [if_neg q]
    rw [setN_n (k := 4) (by omega), setN_n (k := 4) (by omega), setN_s, setN_n (k := 6) (by omega), setN_s, setN_s]
    rw [iLe] at q
    exact ⟨h5, h3, by omega, exC2 h7⟩
set_option maxRecDepth 100000 in
theorem bey_rg {x m : Int32} (h : ¬ bey x m) : rgP x m := Classical.byContradiction fun z => h z
set_option maxRecDepth 100000 in
theorem mv_ok {r c : Int32} {d : Nd} (h : ndOk d) (hf : isRf d) : ndOk (mvM r c d) := by
  have d1 := (h.2.2.2.1 hf).1
  have e0 : mv4 c (mv3 r (mv2 c (mv1 r d))) 0 = d 0 := (mv4_n (by omega)).trans ((mv3_n (by omega)).trans ((mv2_n (by omega)).trans (mv1_n (by omega))))
  have e1 : mv4 c (mv3 r (mv2 c (mv1 r d))) 1 = d 1 := (mv4_n (by omega)).trans ((mv3_n (by omega)).trans ((mv2_n (by omega)).trans (mv1_n (by omega))))
  have e2 : mv4 c (mv3 r (mv2 c (mv1 r d))) 2 = d 2 := (mv4_n (by omega)).trans ((mv3_n (by omega)).trans ((mv2_n (by omega)).trans (mv1_n (by omega))))
  have e7 : mv4 c (mv3 r (mv2 c (mv1 r d))) 7 = d 7 := (mv4_n (by omega)).trans ((mv3_n (by omega)).trans ((mv2_n (by omega)).trans (mv1_n (by omega))))
  have c53 := mv_c53 (r := r) (c := c) (d := d)
  have c64 := mv_c64 (r := r) (c := c) (d := d)
  unfold mvM
  generalize mv4 c (mv3 r (mv2 c (mv1 r d))) = e at e0 e1 e2 e7 c53 c64 ⊢
  have h7 : 0 ≤ (e 7).toInt ∧ (e 7).toInt ≤ 15 := by rw [e7]; exact h.2.1
  unfold mvE
  by_cases B : mvB e
  · rw [b01_t B, if_pos rfl, lo_eq (e1.trans d1)]
    exact lo_ok
  · rw [b01_f B, if_neg (by decide)]
    have g3 : rgP (e 3) 1048576 := bey_rg fun z => B (Or.inl z)
    have g5 : rgP (e 5) 1048576 := bey_rg fun z => B (Or.inr (Or.inl z))
    have g4 : rgP (e 4) 16384 := bey_rg fun z => B (Or.inr (Or.inr (Or.inl z)))
    have g6 : rgP (e 6) 16384 := bey_rg fun z => B (Or.inr (Or.inr (Or.inr z)))
    by_cases k4 : e 0 = 4
    · rw [if_pos k4]
      have k := e0.symm.trans k4
      exact ok_of e0 e1 e2 h7 h hf ⟨g3, g5, by rw [c53 k]; exact Int.le_refl _, g4, g6, by rw [c64 k]; exact Int.le_refl _⟩ (fun z => ⟨c53 z, c64 z⟩)
    · rw [if_neg k4]
      obtain ⟨r3, r5, r35, r7⟩ := srR_r g3 g5 h7
      have q4 : srR e 4 = e 4 := srR_k (by omega)
      have q6 : srR e 6 = e 6 := srR_k (by omega)
      obtain ⟨s4, s6, s46, s7⟩ := srC_r (e := srR e) (by rw [q4]; exact g4) (by rw [q6]; exact g6) r7
      have w3 : srC (srR e) 3 = srR e 3 := srC_k (by omega)
      have w5 : srC (srR e) 5 = srR e 5 := srC_k (by omega)
      refine ok_of ((srC_k (by omega)).trans ((srR_k (by omega)).trans e0)) ((srC_k (by omega)).trans ((srR_k (by omega)).trans e1)) ((srC_k (by omega)).trans ((srR_k (by omega)).trans e2)) s7 h hf ?_ (fun z => absurd (e0.trans z) k4)
      rw [w3, w5]
      exact ⟨r3, r5, r35, s4, s6, s46⟩
end
section
/-! the reference's writer: what was written so far, and the one that is wanted -/
def WM (s : aS) (l : List Int32) (k : Int32) : Prop := l.length < 1000000 ∧ sI s 121 42 = Int32.ofNat l.length ∧ sI s 121 43 = k ∧ sI s 121 44 = if 0 ≤ k.toInt then l.getD k.toInt.toNat (-1) else -1
set_option maxRecDepth 100000 in
theorem d235 {s : aS} {l : List Int32} {k : Int32} (h : WM s l k) (hl : l.length < 900000) (c : Int32) : ∃ s', dm235 c s = some s' ∧ WM s' (l ++ [c]) k ∧ ch (fun a q => a = 121 ∧ (q = 42 ∨ q = 44)) s s' := by
  obtain ⟨-, h1, h2, h3⟩ := h
  have hr := iRange k
  have ap : (l ++ [c]).length = l.length + 1 := by simp
  have fin : ∀ y : Int32, y = (if 0 ≤ k.toInt then (l ++ [c]).getD k.toInt.toNat (-1) else -1) → ∃ s', dm235_10 y s = some s' ∧ WM s' (l ++ [c]) k ∧ ch (fun a q => a = 121 ∧ (q = 42 ∨ q = 44)) s s' := by
    intro y hy
    unfold dm235_10
    simp only [nx_eq]
    refine ⟨_, rfl, ⟨by omega, ?_, ?_, ?_⟩, ((ch.refl _ s).wI (by omega)).wI (by omega)⟩
    · rw [sI_wI, if_pos ⟨rfl, rfl⟩, sI_wI, if_neg (by omega), h1, ofNat_succ (by omega), ap]
    · rw [sI_wI, if_neg (by omega), sI_wI, if_neg (by omega)]
      exact h2
    · rw [sI_wI, if_neg (by omega), sI_wI, if_pos ⟨rfl, rfl⟩]
      exact hy
  unfold dm235
  rw [h1, h2]
  by_cases q : Int32.ofNat l.length = k
  · rw [if_pos q]
    have e : k.toInt = l.length := by rw [← q, iOfNat (by omega)]
    refine fin c ?_
    rw [if_pos (by omega), e, show ((l.length : Int)).toNat = l.length by omega, getD_in (by omega), List.getElem_append_right (Nat.le_refl _)]
    simp
  · rw [if_neg q]
    refine fin _ ?_
    rw [h3]
    by_cases z : 0 ≤ k.toInt
    · rw [if_pos z, if_pos z]
      have ne : k.toInt.toNat ≠ l.length := by
        intro w
        apply q
        rw [iEq, iOfNat (by omega)]
        omega
      by_cases w : k.toInt.toNat < l.length
      · rw [getD_in w, getD_in (by omega), List.getElem_append_left]
      · rw [getD_out (by omega), getD_out (by omega)]
    · rw [if_neg z, if_neg z]
end
section
/-! the reference writes a node's letters as they were read -/
set_option maxRecDepth 100000 in
theorem d234 {s : aS} {f p : Nat} {w l : List Int32} {k : Int32} (hf : f < 9) (hp : p < 1152) (h : RL s f p w) (hW : WM s l k) (hl : l.length < 800000) : ∃ s', dm234 (Int32.ofNat f) (Int32.ofNat p) s = some s' ∧ WM s' (l ++ w) k ∧ ch (fun a q => a = 121 ∧ (q = 42 ∨ q = 44)) s s' := by
  obtain ⟨st, a1, a2, a3, a4⟩ := h
  have hb : aB (Int32.ofNat p) 1152 := by rw [aB_iff, iOfNat (by omega)]; omega
  have ej : jN (Int32.ofNat p) = p := jN_of (by omega)
  have loop : ∀ (m j n : Nat) (s1 : aS), j + m = w.length → m < n → WM s1 (l ++ w.take j) k → ch (fun a q => a = 121 ∧ (q = 42 ∨ q = 44)) s s1 → ∃ s', dm234_2 n (Int32.ofNat f) (Int32.ofNat p) (Int32.ofNat j) s1 = some s' ∧ WM s' (l ++ w) k ∧ ch (fun a q => a = 121 ∧ (q = 42 ∨ q = 44)) s s' := by
    intro m
    induction m with
    | zero =>
      intro j n s1 hj hn h1 hc
      obtain ⟨n, rfl⟩ : ∃ q, n = q + 1 := ⟨n - 1, by omega⟩
      have e2 : sI s1 138 p = Int32.ofNat w.length := (hc.i (by omega)).trans a2
      rw [dm234_2]
      simp only [if_pos hb, ej, e2]
      rw [if_pos (by rw [iLe, iOfNat (by omega), iOfNat (by omega)]; omega)]
      rw [List.take_of_length_le (by omega)] at h1
      exact ⟨s1, rfl, h1, hc⟩
    | succ m ih =>
      intro j n s1 hj hn h1 hc
      obtain ⟨n, rfl⟩ : ∃ q, n = q + 1 := ⟨n - 1, by omega⟩
      have hjl : j < w.length := by omega
      have e1 : sI s1 137 p = Int32.ofNat st := (hc.i (by omega)).trans a1
      have e2 : sI s1 138 p = Int32.ofNat w.length := (hc.i (by omega)).trans a2
      have e4 : sI s1 139 (256 * f + st + j) = w[j] := (hc.i (by omega)).trans (a4 j hjl)
      obtain ⟨s2, g1, g2, g3⟩ := d235 h1 (by rw [List.length_append, List.length_take]; omega) w[j]
      have hq : aB (Int32.ofNat (256 * f + st + j)) 2304 := by rw [aB_iff, iOfNat (by omega)]; omega
      have eq9 : jN (Int32.ofNat (256 * f + st + j)) = 256 * f + st + j := jN_of (by omega)
      rw [dm234_2]
      simp only [if_pos hb, ej, e1, e2]
      rw [if_neg (by rw [iLe, iOfNat (by omega), iOfNat (by omega)]; omega), i256 (by omega) (by omega), iSum (by omega) (by omega)]
      simp only [if_pos hq, eq9, e4]
      rw [g1]
      simp only [bu_some]
      rw [ofNat_succ (by omega)]
      refine ih (j + 1) n s2 (by omega) (by omega) ?_ (hc.trans g3)
      rw [List.take_succ_eq_append_getElem hjl, ← List.append_assoc]
      exact g2
  exact loop w.length 0 5000 s (by omega) (by omega) (by rw [List.take_zero, List.append_nil]; exact hW) (ch.refl _ s)
end
section
/-! the reference's object with other numbers in it; the place where it reads -/
def wF (s : aS) (r : Nat → Int32) : aS := (s.1, s.2.1, fun a k => if a = 121 then r k else s.2.2.1 a k, s.2.2.2)
set_option maxRecDepth 100000 in
theorem wF_t (s : aS) (r : Nat → Int32) (k : Nat) : sI (wF s r) 121 k = r k := by
  show (if (121 : Nat) = 121 then r k else s.2.2.1 121 k) = r k
  exact if_pos rfl
set_option maxRecDepth 100000 in
theorem wF_n {s : aS} {r : Nat → Int32} {a k : Nat} (h : a ≠ 121) : sI (wF s r) a k = sI s a k := if_neg h
set_option maxRecDepth 100000 in
theorem wF_T (s : aS) (r : Nat → Int32) (a : Nat) : sT (wF s r) a = sT s a := rfl
set_option maxRecDepth 100000 in
theorem wI_wF (s : aS) (r : Nat → Int32) (k : Nat) (v : Int32) : wI (wF s r) 121 k v = wF s (setN r k v) := by
  have e : fu (fun a k => if a = 121 then r k else s.2.2.1 a k) 121 k v = fun a j => if a = 121 then setN r k v j else s.2.2.1 a j := by
    funext a j
    show (if a = 121 ∧ j = k then v else if a = 121 then r j else s.2.2.1 a j) = if a = 121 then (if j = k then v else r j) else s.2.2.1 a j
    by_cases h : a = 121
    · rw [if_pos h, if_pos h]
      by_cases g : j = k
      · rw [if_pos ⟨h, g⟩, if_pos g]
      · rw [if_neg (fun q => g q.2), if_neg g]
    · rw [if_neg (fun q => h q.1), if_neg h, if_neg h]
  show ((s.1, s.2.1, fu (fun a k => if a = 121 then r k else s.2.2.1 a k) 121 k v, s.2.2.2) : aS) = (s.1, s.2.1, fun a j => if a = 121 then setN r k v j else s.2.2.1 a j, s.2.2.2)
  rw [e]
set_option maxRecDepth 100000 in
theorem wF_wI {s : aS} {r : Nat → Int32} {a k : Nat} {v : Int32} (h : a ≠ 121) : wI (wF s r) a k v = wF (wI s a k v) r := by
  have e : fu (fun a k => if a = 121 then r k else s.2.2.1 a k) a k v = fun b j => if b = 121 then r j else fu s.2.2.1 a k v b j := by
    funext b j
    show (if b = a ∧ j = k then v else if b = 121 then r j else s.2.2.1 b j) = if b = 121 then r j else if b = a ∧ j = k then v else s.2.2.1 b j
    by_cases g : b = 121
    · rw [if_neg (fun q => h (by rw [← q.1]; exact g)), if_pos g, if_pos g]
    · rw [if_neg g, if_neg g]
  show ((s.1, s.2.1, fu (fun a k => if a = 121 then r k else s.2.2.1 a k) a k v, s.2.2.2) : aS) = (s.1, s.2.1, fun b j => if b = 121 then r j else fu s.2.2.1 a k v b j, s.2.2.2)
  rw [e]
set_option maxRecDepth 100000 in
theorem wF_id (s : aS) : wF s (fun k => sI s 121 k) = s := by
  have e : (fun a k => if a = 121 then sI s 121 k else s.2.2.1 a k) = s.2.2.1 := by
    funext a k
    by_cases h : a = 121
    · rw [if_pos h, h]; rfl
    · rw [if_neg h]
  show ((s.1, s.2.1, (fun a k => if a = 121 then sI s 121 k else s.2.2.1 a k), s.2.2.2) : aS) = s
  rw [e]
set_option maxRecDepth 100000 in
theorem setN_id {r : Nat → Int32} {k : Nat} {v : Int32} (h : r k = v) : setN r k v = r := by
  funext j
  unfold setN
  by_cases g : j = k
  · rw [if_pos g, g, h]
  · rw [if_neg g]
set_option maxRecDepth 100000 in
theorem setN_2 (r : Nat → Int32) (k : Nat) (u v : Int32) : setN (setN r k u) k v = setN r k v := by
  funext j
  unfold setN
  by_cases g : j = k
  · rw [if_pos g, if_pos g]
  · rw [if_neg g, if_neg g, if_neg g]
set_option maxRecDepth 100000 in
theorem setN_c {r : Nat → Int32} {k l : Nat} {u v : Int32} (h : k ≠ l) : setN (setN r k u) l v = setN (setN r l v) k u := by
  funext j
  unfold setN
  by_cases g : j = k
  · by_cases e : j = l
    · omega
    · rw [if_neg e, if_pos g, if_pos g]
  · by_cases e : j = l
    · rw [if_pos e, if_neg g, if_pos e]
    · rw [if_neg e, if_neg g, if_neg g, if_neg e]
/-- reading at place i -/
def wP (s : aS) (r : Nat → Int32) (i : Nat) : aS := wF s (setN r 26 (Int32.ofNat i))
set_option maxRecDepth 100000 in
theorem wP_at (s : aS) (r : Nat → Int32) (i : Nat) : sI (wP s r i) 121 26 = Int32.ofNat i := by
  unfold wP
  rw [wF_t]
  exact if_pos rfl
set_option maxRecDepth 100000 in
theorem wP_f {s : aS} {r : Nat → Int32} {i k : Nat} (h : k ≠ 26) : sI (wP s r i) 121 k = r k := by
  unfold wP
  rw [wF_t]
  exact if_neg h
set_option maxRecDepth 100000 in
theorem wP_n {s : aS} {r : Nat → Int32} {i a k : Nat} (h : a ≠ 121) : sI (wP s r i) a k = sI s a k := wF_n h
set_option maxRecDepth 100000 in
theorem wP_go (s : aS) (r : Nat → Int32) (i j : Nat) : wI (wP s r i) 121 26 (Int32.ofNat j) = wP s r j := by
  unfold wP
  rw [wI_wF, setN_2]
set_option maxRecDepth 100000 in
theorem wP_set {s : aS} {r : Nat → Int32} {i k : Nat} {v : Int32} (h : k ≠ 26) : wI (wP s r i) 121 k v = wP s (setN r k v) i := by
  unfold wP
  rw [wI_wF, setN_c (Ne.symm h)]
set_option maxRecDepth 100000 in
theorem wP_wI {s : aS} {r : Nat → Int32} {i a k : Nat} {v : Int32} (h : a ≠ 121) : wI (wP s r i) a k v = wP (wI s a k v) r i := wF_wI h
set_option maxRecDepth 100000 in
theorem wP_id {s : aS} {i : Nat} (h : sI s 121 26 = Int32.ofNat i) : wP s (fun k => sI s 121 k) i = s := by
  unfold wP
  rw [setN_id h, wF_id]
/-- the text -/
def TX (s : aS) (r : Nat → Int32) (t : List Int32) : Prop := t.length ≤ 256 ∧ r 1 = Int32.ofNat t.length ∧ ∀ j (h : j < t.length), sI s 122 j = t[j]
set_option maxRecDepth 100000 in
theorem TX.set {s : aS} {r : Nat → Int32} {t : List Int32} (h : TX s r t) (k : Nat) (v : Int32) (hk : k ≠ 1) : TX s (setN r k v) t := ⟨h.1, (if_neg (Ne.symm hk)).trans h.2.1, h.2.2⟩
set_option maxRecDepth 100000 in
theorem TX.wr {s : aS} {r : Nat → Int32} {t : List Int32} (h : TX s r t) {a k : Nat} {v : Int32} (ha : a ≠ 122) : TX (wI s a k v) r t := ⟨h.1, h.2.1, fun j hj => (if_neg (fun q => ha q.1.symm)).trans (h.2.2 j hj)⟩
set_option maxRecDepth 100000 in
theorem TX.mt {s : aS} {r : Nat → Int32} {t : List Int32} (h : TX s r t) (i : Nat) : MT (wP s r i) t := ⟨(wP_f (by decide)).trans h.2.1, fun j hj => (wP_n (by decide)).trans (h.2.2 j hj)⟩
set_option maxRecDepth 100000 in
theorem TX.len {s : aS} {r : Nat → Int32} {t : List Int32} (h : TX s r t) (i : Nat) : sI (wP s r i) 121 1 = Int32.ofNat t.length := (h.mt i).1
set_option maxRecDepth 100000 in
theorem rch {s : aS} {r : Nat → Int32} {t : List Int32} (h : TX s r t) {i j : Nat} (hj : j < 100000) : dm176 (Int32.ofNat j) (wP s r i) = some (t.getD j 0) := d176 (h.mt i) h.1 hj
set_option maxRecDepth 100000 in
theorem d196 (x : Int32) : dm196 x = some (b01 (isD x)) := by
  unfold dm196
  have l1 : x < 48 ↔ x.toInt < 48 := iLt
  have l2 : 57 < x ↔ 57 < x.toInt := iLt
  by_cases h1 : x < 48
  · rw [if_pos h1, b01_f]
    intro q
    have := q.1
    have := l1.mp h1
    omega
  · rw [if_neg h1]
    have h1 : ¬ x.toInt < 48 := fun q => h1 (l1.mpr q)
    by_cases h2 : 57 < x
    · rw [if_pos h2, b01_f]
      intro q
      have := q.2
      have := l2.mp h2
      omega
    · rw [if_neg h2, b01_t]
      have h2 : ¬ 57 < x.toInt := fun q => h2 (l2.mpr q)
      exact ⟨by omega, by omega⟩
set_option maxRecDepth 100000 in
theorem d198 (x : Int32) : dm198 x = some (b01 (isL x)) := by
  unfold dm198 dm198_6 dm198_12
  have l1 : x < 97 ↔ x.toInt < 97 := iLt
  have l2 : x ≤ 122 ↔ x.toInt ≤ 122 := iLe
  have l3 : x < 65 ↔ x.toInt < 65 := iLt
  have l4 : 90 < x ↔ 90 < x.toInt := iLt
  by_cases q : isL x
  · rw [b01_t q]
    rcases q with q | q
    · rw [if_pos (l1.mpr (by omega)), if_neg (fun z => by have := l3.mp z; omega), if_neg (fun z => by have := l4.mp z; omega)]
    · rw [if_neg (fun z => by have := l1.mp z; omega), if_pos (l2.mpr (by omega))]
  · rw [b01_f q]
    have q1 : ¬ (65 ≤ x.toInt ∧ x.toInt ≤ 90) := fun z => q (Or.inl z)
    have q2 : ¬ (97 ≤ x.toInt ∧ x.toInt ≤ 122) := fun z => q (Or.inr z)
    have tail : (if x < 65 then some (0 : Int32) else if 90 < x then some 0 else some 1) = some 0 := by
      by_cases h3 : x < 65
      · rw [if_pos h3]
      · rw [if_neg h3, if_pos (l4.mpr (by
          have : ¬ x.toInt < 65 := fun z => h3 (l3.mpr z)
          omega))]
    by_cases h1 : x < 97
    · rw [if_pos h1, tail]
    · rw [if_neg h1, if_neg (fun z => by
        have := l2.mp z
        have : ¬ x.toInt < 97 := fun z => h1 (l1.mpr z)
        omega), tail]
set_option maxRecDepth 100000 in
theorem d197 (x : Int32) : dm197 x = some (b01 (bW x)) := by
  unfold dm197 dm197_6
  rw [d198]
  simp only [bu_some]
  by_cases h1 : isL x
  · rw [b01_t h1, if_neg (by decide), b01_t (show bW x from Or.inl h1)]
  · rw [b01_f h1, if_pos rfl]
    by_cases h2 : x = 95
    · rw [if_pos h2, b01_t (show bW x from Or.inr h2)]
    · rw [if_neg h2, b01_f]
      rintro (q | q)
      · exact h1 q
      · exact h2 q
set_option maxRecDepth 100000 in
theorem d211 (x : Int32) : dm211 x = some (b01 (gW x)) := by
  unfold dm211 dm211_9
  rw [d197, d196]
  simp only [bu_some]
  by_cases h1 : bW x
  · rw [b01_t h1, if_neg (by decide), b01_t]
    rcases h1 with q | q
    · exact Or.inl q
    · exact Or.inr (Or.inr (Or.inl q))
  · rw [b01_f h1, if_pos rfl]
    by_cases h2 : isD x
    · rw [b01_t h2, if_neg (by decide), b01_t (show gW x from Or.inr (Or.inl h2))]
    · rw [b01_f h2, if_pos rfl]
      by_cases h3 : x = 46
      · rw [if_pos h3, b01_t (show gW x from Or.inr (Or.inr (Or.inr h3)))]
      · rw [if_neg h3, b01_f]
        rintro (q | q | q | q)
        · exact h1 (Or.inl q)
        · exact h2 q
        · exact h1 (Or.inr q)
        · exact h3 q
end
section
/-! spaces and numbers, as the reference reads them -/
set_option maxRecDepth 100000 in
theorem cnt_y {p : Int32 → Prop} {t : List Int32} {i : Nat} {d : Int32} (h0 : ¬ p d) (h : p (t.getD i d)) : i < t.length ∧ cntF p (t.drop i) = cntF p (t.drop (i + 1)) + 1 := by
  by_cases hi : i < t.length
  · refine ⟨hi, ?_⟩
    rw [getD_in hi] at h
    rw [List.drop_eq_getElem_cons hi]
    show (if b01 (p t[i]) = 0 then 0 else cntF p (t.drop (i + 1)) + 1) = _
    rw [if_neg (fun q => b01_ne.mp q h)]
  · rw [getD_out (by omega)] at h
    exact absurd h h0
set_option maxRecDepth 100000 in
theorem cnt_n {p : Int32 → Prop} {t : List Int32} {i : Nat} {d : Int32} (h : ¬ p (t.getD i d)) : cntF p (t.drop i) = 0 := by
  by_cases hi : i < t.length
  · rw [getD_in hi] at h
    rw [List.drop_eq_getElem_cons hi]
    show (if b01 (p t[i]) = 0 then 0 else cntF p (t.drop (i + 1)) + 1) = _
    rw [if_pos (b01_ne.mpr h)]
  · rw [List.drop_eq_nil_of_le (by omega)]
    rfl
set_option maxRecDepth 100000 in
theorem cnt_b {p : Int32 → Prop} {t : List Int32} {i : Nat} : cntF p (t.drop i) ≤ t.length - i := by
  have := cntF_le p (t.drop i)
  rw [List.length_drop] at this
  exact this
set_option maxRecDepth 100000 in
theorem nle_iff {a b : Nat} (ha : a < 1000000) (hb : b < 1000000) : Int32.ofNat a ≤ Int32.ofNat b ↔ a ≤ b := by
  rw [iLe, iOfNat (by omega), iOfNat (by omega)]
  omega
set_option maxRecDepth 100000 in
theorem nlt_iff {a b : Nat} (ha : a < 1000000) (hb : b < 1000000) : Int32.ofNat a < Int32.ofNat b ↔ a < b := by
  rw [iLt, iOfNat (by omega), iOfNat (by omega)]
  omega
set_option maxRecDepth 100000 in
theorem neq_iff {a b : Nat} (ha : a < 1000000) (hb : b < 1000000) : Int32.ofNat a = Int32.ofNat b ↔ a = b := by
  rw [iEq, iOfNat (by omega), iOfNat (by omega)]
  omega
def spP (x : Int32) : Prop := x = 32
set_option maxRecDepth 100000 in
/-- behind the spaces -/
noncomputable def skS (t : List Int32) (i : Nat) : Nat := i + cntF spP (t.drop i)
set_option maxRecDepth 100000 in
theorem d184s {s : aS} {r : Nat → Int32} {t : List Int32} {k48 : Int32 → Int32 → Int32 → aS → Option (Int32 × aS)} {x1 x2 : Int32} {i n : Nat} (h : TX s r t) (hi : i < 1000) : dm184_53 k48 (n + 1) x1 x2 (wP s r i) = if t.getD i 0 = 32 then dm184_53 k48 n x1 x2 (wP s r (i + 1)) else if t.length ≤ i then dm184_74 k48 x1 x2 0 (wP s r i) else dm184_74 k48 x1 x2 1 (wP s r i) := by
  have := h.1
  rw [dm184_53, wP_at, rch h (by omega), h.len, ofNat_succ (by omega), wP_go]
  simp only [bu_some, nx_eq, nle_iff (show t.length < 1000000 by omega) (show i < 1000000 by omega)]
set_option maxRecDepth 100000 in
theorem d184p {s : aS} {r : Nat → Int32} {t : List Int32} {k48 : Int32 → Int32 → Int32 → aS → Option (Int32 × aS)} {x1 x2 : Int32} (h : TX s r t) : ∀ (m i n : Nat), t.length ≤ i + m → i ≤ 300 → m < n → dm184_53 k48 n x1 x2 (wP s r i) = if t.length ≤ skS t i then dm184_74 k48 x1 x2 0 (wP s r (skS t i)) else dm184_74 k48 x1 x2 1 (wP s r (skS t i)) := by
  have hl := h.1
  intro m
  induction m with
  | zero =>
    intro i n h1 h2 h3
    obtain ⟨n, rfl⟩ : ∃ q, n = q + 1 := ⟨n - 1, by omega⟩
    have c : ¬ t.getD i 0 = 32 := by rw [getD_out (by omega)]; decide
    rw [d184s h (by omega), if_neg c]
    unfold skS
    rw [cnt_n (p := spP) c]
    rfl
  | succ m ih =>
    intro i n h1 h2 h3
    obtain ⟨n, rfl⟩ : ∃ q, n = q + 1 := ⟨n - 1, by omega⟩
    rw [d184s h (by omega)]
    by_cases c : t.getD i 0 = 32
    · obtain ⟨g1, g2⟩ := cnt_y (p := spP) (d := 0) (by unfold spP; decide) c
      rw [if_pos c, ih (i + 1) n (by omega) (by omega) (by omega)]
      have e : skS t (i + 1) = skS t i := by unfold skS; omega
      rw [e]
    · rw [if_neg c]
      unfold skS
      rw [cnt_n (p := spP) c]
      rfl
set_option maxRecDepth 100000 in
/-- how many digits are there from i on -/
noncomputable def nd1 (t : List Int32) (i : Nat) : Nat := cntF isD (t.drop i)
set_option maxRecDepth 100000 in
theorem isD0 : ¬ isD 0 := by unfold isD; decide
set_option maxRecDepth 100000 in
theorem isDm : ¬ isD (-1) := by unfold isD; decide
set_option maxRecDepth 100000 in
theorem isD46 : ¬ isD 46 := by unfold isD; decide
set_option maxRecDepth 100000 in
theorem d199s {s : aS} {r : Nat → Int32} {t : List Int32} {x1 x3 : Int32} {i n c : Nat} (h : TX s r t) (hi : i < 1000) (hc : c < 1000) (hx : x3 = 0 ∨ x3 = 1) : dm199_7 (n + 1) x1 (Int32.ofNat c) x3 (wP s r i) = if b01 (isD (t.getD i 0)) = 0 then (if t.getD i 0 = 46 ∧ x3 = 0 then dm199_7 n x1 (Int32.ofNat c) 1 (wP s r (i + 1)) else dm199_52 x1 (Int32.ofNat c) (wP s r i)) else dm199_7 n x1 (Int32.ofNat (c + 1)) x3 (wP s r (i + 1)) := by
  have e1 := rch h (i := i) (j := i) (by omega)
  rw [dm199_7]
  unfold dm199_21 dm199_29 dm199_32 dm199_44
  simp only [wP_at, e1, bu_some, d196, nx_eq]
  rw [ofNat_succ (by omega), ofNat_succ (by omega), wP_go]
  by_cases d : isD (t.getD i 0)
  · have d0 : ¬ b01 (isD (t.getD i 0)) = 0 := fun q => b01_ne.mp q d
    have d46 : ¬ t.getD i 0 = 46 := fun q => isD46 (q ▸ d)
    rw [if_neg d0, if_neg d0, if_neg d46, if_neg d0, if_neg d0]
    rcases hx with rfl | rfl
    · rw [if_pos rfl]
    · rw [if_neg (by decide)]
  · have d0 : b01 (isD (t.getD i 0)) = 0 := b01_ne.mpr d
    rw [if_pos d0, if_pos d0]
    by_cases q : t.getD i 0 = 46
    · rw [if_pos q]
      rcases hx with rfl | rfl
      · rw [if_pos rfl, if_pos rfl, if_pos q, if_pos d0, if_pos ⟨q, rfl⟩]
      · rw [if_neg (by decide), if_pos d0, if_neg (fun z => absurd z.2 (by decide))]
    · rw [if_neg q, if_pos d0, if_neg (fun z => q z.1)]
set_option maxRecDepth 100000 in
theorem d199a {s : aS} {r : Nat → Int32} {t : List Int32} {x1 : Int32} (h : TX s r t) : ∀ (m i n c : Nat), t.length ≤ i + m → i ≤ 300 → c ≤ 300 + i → m < n → dm199_7 n x1 (Int32.ofNat c) 1 (wP s r i) = dm199_52 x1 (Int32.ofNat (c + nd1 t i)) (wP s r (i + nd1 t i)) := by
  have hl := h.1
  intro m
  induction m with
  | zero =>
    intro i n c h1 h2 h3 h4
    obtain ⟨n, rfl⟩ : ∃ q, n = q + 1 := ⟨n - 1, by omega⟩
    have g : ¬ isD (t.getD i 0) := by rw [getD_out (by omega)]; exact isD0
    rw [d199s h (by omega) (by omega) (Or.inr rfl), if_pos (b01_ne.mpr g), if_neg (fun z => absurd z.2 (by decide))]
    unfold nd1
    rw [cnt_n g]
    rfl
  | succ m ih =>
    intro i n c h1 h2 h3 h4
    obtain ⟨n, rfl⟩ : ∃ q, n = q + 1 := ⟨n - 1, by omega⟩
    rw [d199s h (by omega) (by omega) (Or.inr rfl)]
    by_cases g : isD (t.getD i 0)
    · obtain ⟨g1, g2⟩ := cnt_y isD0 g
      rw [if_neg (fun q => b01_ne.mp q g), ih (i + 1) n (c + 1) (by omega) (by omega) (by omega) (by omega)]
      have e : nd1 t i = nd1 t (i + 1) + 1 := g2
      rw [e, show c + 1 + nd1 t (i + 1) = c + (nd1 t (i + 1) + 1) by omega, show i + 1 + nd1 t (i + 1) = i + (nd1 t (i + 1) + 1) by omega]
    · rw [if_pos (b01_ne.mpr g), if_neg (fun z => absurd z.2 (by decide))]
      unfold nd1
      rw [cnt_n g]
      rfl
set_option maxRecDepth 100000 in
/-- digits with perhaps a dot: where they end, how many they are -/
noncomputable def nmE (t : List Int32) (i : Nat) : Nat := if t.getD (i + nd1 t i) 0 = 46 then i + nd1 t i + 1 + nd1 t (i + nd1 t i + 1) else i + nd1 t i
set_option maxRecDepth 100000 in
noncomputable def nmC (t : List Int32) (i : Nat) : Nat := if t.getD (i + nd1 t i) 0 = 46 then nd1 t i + nd1 t (i + nd1 t i + 1) else nd1 t i
set_option maxRecDepth 100000 in
theorem nd1_b (t : List Int32) (i : Nat) : nd1 t i ≤ t.length - i := cnt_b
set_option maxRecDepth 100000 in
theorem d199b {s : aS} {r : Nat → Int32} {t : List Int32} {x1 : Int32} (h : TX s r t) : ∀ (m i n c : Nat), t.length ≤ i + m → i ≤ 300 → c ≤ i → m + 1 < n → dm199_7 n x1 (Int32.ofNat c) 0 (wP s r i) = dm199_52 x1 (Int32.ofNat (c + nmC t i)) (wP s r (nmE t i)) := by
  have hl := h.1
  intro m
  induction m with
  | zero =>
    intro i n c h1 h2 h3 h4
    obtain ⟨n, rfl⟩ : ∃ q, n = q + 1 := ⟨n - 1, by omega⟩
    have g : ¬ isD (t.getD i 0) := by rw [getD_out (by omega)]; exact isD0
    have g2 : ¬ t.getD i 0 = 46 := by rw [getD_out (by omega)]; decide
    have e : nd1 t i = 0 := cnt_n g
    rw [d199s h (by omega) (by omega) (Or.inl rfl), if_pos (b01_ne.mpr g), if_neg (fun z => g2 z.1)]
    unfold nmC nmE
    rw [e, Nat.add_zero, if_neg g2, if_neg g2]
    rfl
  | succ m ih =>
    intro i n c h1 h2 h3 h4
    obtain ⟨n, rfl⟩ : ∃ q, n = q + 1 := ⟨n - 1, by omega⟩
    rw [d199s h (by omega) (by omega) (Or.inl rfl)]
    by_cases g : isD (t.getD i 0)
    · obtain ⟨g1, g2⟩ := cnt_y isD0 g
      have e : nd1 t i = nd1 t (i + 1) + 1 := g2
      rw [if_neg (fun q => b01_ne.mp q g), ih (i + 1) n (c + 1) (by omega) (by omega) (by omega) (by omega)]
      have e1 : nmE t (i + 1) = nmE t i := by
        unfold nmE
        rw [e, show i + (nd1 t (i + 1) + 1) = i + 1 + nd1 t (i + 1) by omega]
      have e2 : c + 1 + nmC t (i + 1) = c + nmC t i := by
        unfold nmC
        rw [e, show i + (nd1 t (i + 1) + 1) = i + 1 + nd1 t (i + 1) by omega]
        split <;> omega
      rw [e1, e2]
    · rw [if_pos (b01_ne.mpr g)]
      have e : nd1 t i = 0 := cnt_n g
      by_cases g2 : t.getD i 0 = 46
      · have gi := (cnt_y (p := fun x => x = 46) (d := 0) (by decide) g2).1
        rw [if_pos ⟨g2, rfl⟩, d199a h m (i + 1) n c (by omega) (by omega) (by omega) (by omega)]
        unfold nmC nmE
        simp only [e, Nat.add_zero, Nat.zero_add, if_pos g2]
      · rw [if_neg (fun z => g2 z.1)]
        unfold nmC nmE
        rw [e, Nat.add_zero, if_neg g2, if_neg g2]
        rfl
end
section
/-! numbers to their ends, what stands in quotes, errors, as the reference reads them -/
set_option maxRecDepth 100000 in
theorem d186 {s : aS} {r : Nat → Int32} {i p : Nat} : dm186 (Int32.ofNat p) (wP s r i) = some (wP s (setN r 27 1) p) := by
  unfold dm186
  simp only [nx_eq]
  rw [wP_set (by decide), wP_go]
set_option maxRecDepth 100000 in
/-- exponent digits from i on: three at most -/
noncomputable def nd3 (t : List Int32) (i c : Nat) : Nat := if nd1 t i ≤ 3 - c then nd1 t i else 3 - c
set_option maxRecDepth 100000 in
theorem d199c {s : aS} {r : Nat → Int32} {t : List Int32} {x1 : Int32} (h : TX s r t) : ∀ (m i n c : Nat), c + m = 3 → i + m ≤ 900 → m < n → dm199_92 n x1 (Int32.ofNat c) (wP s r i) = dm199_109 x1 (Int32.ofNat (c + nd3 t i c)) (wP s r (i + nd3 t i c)) := by
  intro m
  induction m with
  | zero =>
    intro i n c h1 h2 h3
    obtain ⟨n, rfl⟩ : ∃ q, n = q + 1 := ⟨n - 1, by omega⟩
    have h1 : c = 3 := by omega
    subst h1
    have e : nd3 t i 3 = 0 := by unfold nd3; split <;> omega
    rw [dm199_92]
    simp only [wP_at, rch h (show i < 100000 by omega), bu_some, d196]
    rw [e, if_pos (show (3 : Int32) ≤ Int32.ofNat 3 by decide), ite_self]
    rfl
  | succ m ih =>
    intro i n c h1 h2 h3
    obtain ⟨n, rfl⟩ : ∃ q, n = q + 1 := ⟨n - 1, by omega⟩
    have hc : ¬ (3 : Int32) ≤ Int32.ofNat c := by
      rw [iLe, iOfNat (by omega)]
      show ¬ (3 : Int) ≤ c
      omega
    rw [dm199_92]
    simp only [wP_at, rch h (show i < 100000 by omega), bu_some, d196]
    rw [if_neg hc, nx_eq, ofNat_succ (by omega), ofNat_succ (by omega), wP_go]
    by_cases g : isD (t.getD i 0)
    · obtain ⟨g1, g2⟩ := cnt_y isD0 g
      have e : nd1 t i = nd1 t (i + 1) + 1 := g2
      rw [if_neg (fun q => b01_ne.mp q g), ih (i + 1) n (c + 1) (by omega) (by omega) (by omega)]
      have e3 : nd3 t i c = nd3 t (i + 1) (c + 1) + 1 := by
        unfold nd3
        rw [e]
        split <;> split <;> omega
      rw [e3, show c + 1 + nd3 t (i + 1) (c + 1) = c + (nd3 t (i + 1) (c + 1) + 1) by omega, show i + 1 + nd3 t (i + 1) (c + 1) = i + (nd3 t (i + 1) (c + 1) + 1) by omega]
    · rw [if_pos (b01_ne.mpr g)]
      have e : nd1 t i = 0 := cnt_n g
      have e3 : nd3 t i c = 0 := by
        unfold nd3
        rw [e, if_pos (by omega)]
      rw [e3]
      rfl
def sgP (x : Int32) : Prop := x = 43 ∨ x = 45
set_option maxRecDepth 100000 in
/-- where the digits of an exponent begin, whose E is at e -/
noncomputable def nmS (t : List Int32) (e : Nat) : Nat := if b01 (sgP (t.getD (e + 1) 0)) = 0 then e + 1 else e + 2
set_option maxRecDepth 100000 in
/-- a number that begins at i: whether it is one, and where it ends or is wrong -/
noncomputable def lexN (t : List Int32) (i : Nat) : Nat × Nat := if nmC t i = 0 then (0, nmE t i) else if gr (t.getD (nmE t i) 0) = 69 then (nd3 t (nmS t (nmE t i)) 0, nmS t (nmE t i) + nd3 t (nmS t (nmE t i)) 0) else (1, nmE t i)
set_option maxRecDepth 100000 in
theorem nmE_b {t : List Int32} {i : Nat} (hi : i ≤ t.length) : i ≤ nmE t i ∧ nmE t i ≤ t.length := by
  have h1 := nd1_b t i
  have h2 := nd1_b t (i + nd1 t i + 1)
  unfold nmE
  by_cases c : t.getD (i + nd1 t i) 0 = 46
  · rw [if_pos c]
    have : i + nd1 t i < t.length := by
      by_cases q : i + nd1 t i < t.length
      · exact q
      · rw [getD_out (by omega)] at c
        exact absurd c (by decide)
    omega
  · rw [if_neg c]
    omega
set_option maxRecDepth 100000 in
theorem d199 {s : aS} {r : Nat → Int32} {t : List Int32} {i : Nat} (h : TX s r t) (hi : i ≤ t.length) : dm199 (wP s r i) = if (lexN t i).1 = 0 then some (wP s (setN r 27 1) (lexN t i).2) else dm199_116 (Int32.ofNat i) (wP s r (lexN t i).2) := by
  have hl := h.1
  have hb := nmE_b hi
  have hc : nmC t i ≤ 600 := by
    have h1 := nd1_b t i
    have h2 := nd1_b t (i + nd1 t i + 1)
    unfold nmC
    split <;> omega
  unfold dm199
  have e0 : dm199_7 5000 (Int32.ofNat i) 0 0 (wP s r i) = _ := d199b (x1 := Int32.ofNat i) h t.length i 5000 0 (by omega) (by omega) (by omega) (by omega)
  rw [wP_at, e0, Nat.zero_add]
  unfold dm199_52 lexN
  simp only [wP_at, d186]
  by_cases c0 : nmC t i = 0
  · rw [if_pos (show Int32.ofNat (nmC t i) = 0 by rw [c0]; rfl), if_pos c0, if_pos rfl]
    rfl
  · rw [if_neg (show ¬ Int32.ofNat (nmC t i) = 0 from fun q => c0 ((neq_iff (b := 0) (by omega) (by omega)).mp q)), if_neg c0, rch h (by omega)]
    simp only [bu_some, d178]
    by_cases c1 : gr (t.getD (nmE t i) 0) = 69
    · rw [if_pos c1, if_pos c1, nx_eq, ofNat_succ (by omega), wP_go]
      simp only [wP_at, rch h (show nmE t i + 1 < 100000 by omega), bu_some]
      have key : (if t.getD (nmE t i + 1) 0 = 43 then dm199_84 (Int32.ofNat i) (wP s r (nmE t i + 1)) else if t.getD (nmE t i + 1) 0 = 45 then dm199_84 (Int32.ofNat i) (wP s r (nmE t i + 1)) else dm199_90 (Int32.ofNat i) (wP s r (nmE t i + 1))) = dm199_90 (Int32.ofNat i) (wP s r (nmS t (nmE t i))) := by
        unfold dm199_84 nmS
        rw [wP_at, ofNat_succ (by omega), wP_go, nx_eq]
        by_cases a : t.getD (nmE t i + 1) 0 = 43
        · rw [if_pos a, if_neg (fun q => b01_ne.mp q (show sgP _ from Or.inl a))]
        · rw [if_neg a]
          by_cases b : t.getD (nmE t i + 1) 0 = 45
          · rw [if_pos b, if_neg (fun q => b01_ne.mp q (show sgP _ from Or.inr b))]
          · rw [if_neg b, if_pos (b01_ne.mpr (by rintro (q | q); exact a q; exact b q))]
      rw [key]
      have hs : nmS t (nmE t i) ≤ 300 := by unfold nmS; split <;> omega
      unfold dm199_90
      have e3 : dm199_92 5000 (Int32.ofNat i) 0 (wP s r (nmS t (nmE t i))) = _ := d199c (x1 := Int32.ofNat i) h 3 (nmS t (nmE t i)) 5000 0 (by omega) (by omega) (by omega)
      rw [e3, Nat.zero_add]
      unfold dm199_109
      simp only [wP_at, d186]
      have h3 : nd3 t (nmS t (nmE t i)) 0 ≤ 3 := by unfold nd3; split <;> omega
      by_cases c2 : nd3 t (nmS t (nmE t i)) 0 = 0
      · rw [c2, if_pos (show Int32.ofNat 0 = 0 from rfl)]
        rfl
      · rw [if_neg (show ¬ Int32.ofNat (nd3 t (nmS t (nmE t i)) 0) = 0 from fun q => c2 ((neq_iff (b := 0) (by omega) (by omega)).mp q)), if_neg c2]
    · rw [if_neg c1, if_neg c1, if_neg (show ¬ (1 : Nat) = 0 by decide)]
end
section
/-! what stands in quotes, as the reference reads it -/
/-- from place i on, inside of quotes q: what they hold, and the place behind them -/
def qtG (t : List Int32) (q : Int32) : Nat → Nat → Option (List Int32 × Nat)
  | 0, _ => none
  | m + 1, i => if t.length ≤ i then none else if t.getD i 0 = q then (if t.getD (i + 1) 0 = q then (qtG t q m (i + 2)).map (fun p => (q :: p.1, p.2)) else some ([], i + 1)) else (qtG t q m (i + 1)).map (fun p => (t.getD i 0 :: p.1, p.2))
set_option maxRecDepth 100000 in
theorem d202o {s : aS} {r : Nat → Int32} {q : Int32} {i n : Nat} (hi : i < 1000) : dm202_11 (n + 1) q 0 (wP s r i) = some (wP s r (i + 1)) := by
  rw [dm202_11, if_pos rfl]
  unfold dm202_71
  rw [if_pos rfl, wP_at, ofNat_succ (by omega), wP_go]
  rfl
set_option maxRecDepth 100000 in
theorem d202w {s : aS} {r : Nat → Int32} {t : List Int32} {q : Int32} {k : Int32 → Int32 → aS → Option aS} {i c : Nat} (h : TX s r t) (hi : i < 1000) (hc : r 38 = Int32.ofNat c) (h8 : c < 256) : dm202_35 k q 1 (wP s r i) = if t.getD i 0 = q then k q 1 (wP (wI s 147 c (t.getD i 0)) (setN r 38 (Int32.ofNat (c + 1))) (i + 2)) else k q 1 (wP (wI s 147 c (t.getD i 0)) (setN r 38 (Int32.ofNat (c + 1))) (i + 1)) := by
  have h2 : TX (wI s 147 c (t.getD i 0)) (setN r 38 (Int32.ofNat (c + 1))) t := (h.wr (by decide)).set 38 _ (by decide)
  unfold dm202_35 dm202_69
  rw [if_neg (by decide), wP_at, rch h (by omega)]
  simp only [bu_some]
  rw [wP_f (by decide), hc, if_pos (by rw [aB_iff, iOfNat (by omega)]; omega), jN_of (by omega), wP_wI (by decide)]
  simp only [nx_eq]
  rw [wP_f (by decide), hc, ofNat_succ (by omega), wP_set (by decide)]
  simp only [wP_at]
  rw [rch h2 (by omega)]
  simp only [bu_some]
  rw [show Int32.ofNat i + 2 = Int32.ofNat (i + 2) from iSum (i := i) (j := 2) (by omega) (by omega), ofNat_succ (by omega), wP_go, wP_go]
set_option maxRecDepth 100000 in
theorem d202s {s : aS} {r : Nat → Int32} {t : List Int32} {q : Int32} {i n c : Nat} (h : TX s r t) (hi : i < 1000) (hc : r 38 = Int32.ofNat c) (h8 : c < 256) : dm202_11 (n + 2) q 1 (wP s r i) = if t.length ≤ i then some (wP s (setN r 27 1) t.length) else if t.getD i 0 = q then (if t.getD (i + 1) 0 = q then dm202_11 (n + 1) q 1 (wP (wI s 147 c (t.getD i 0)) (setN r 38 (Int32.ofNat (c + 1))) (i + 2)) else some (wP s r (i + 1))) else dm202_11 (n + 1) q 1 (wP (wI s 147 c (t.getD i 0)) (setN r 38 (Int32.ofNat (c + 1))) (i + 1)) := by
  have hl := h.1
  rw [dm202_11, if_neg (by decide), h.len, wP_at]
  unfold dm202_71 dm202_32
  rw [if_neg (show ¬ (1 : Int32) = 0 by decide), h.len, d186, d202w h hi hc h8]
  simp only [nle_iff (show t.length < 1000000 by omega) (show i < 1000000 by omega), bu_some, rch h (show i < 100000 by omega)]
  rw [ofNat_succ (by omega), rch h (by omega)]
  simp only [bu_some]
  by_cases c1 : t.length ≤ i
  · rw [if_pos c1, if_pos c1]
  · rw [if_neg c1, if_neg c1]
    by_cases c2 : t.getD i 0 = q
    · rw [if_pos c2, if_pos c2]
      by_cases c3 : t.getD (i + 1) 0 = q
      · rw [if_pos c3, if_pos c3, if_pos c2]
      · rw [if_neg c3, if_neg c3]
        unfold dm202_35
        rw [if_pos rfl, d202o hi, if_pos c2]
    · rw [if_neg c2, if_neg c2, if_neg c2]
set_option maxRecDepth 100000 in
theorem rw_add {s : aS} {c : Nat} {w : List Int32} {x : Int32} (hw : RW s 147 0 w) (hc : w.length = c) (h8 : c < 256) (hT : (sT s 147).2 = 256) : RW (wI s 147 c x) 147 0 (w ++ [x]) := by
  refine ⟨?_, fun j hj => ?_⟩
  · rw [sT_wI, hT, List.length_append]
    show 0 + (w.length + 1) ≤ 256
    omega
  · rw [List.length_append] at hj
    have hj : j < w.length + 1 := hj
    rw [sI_wI]
    by_cases e : j = c
    · rw [if_pos ⟨rfl, by omega⟩, List.getElem_append_right (by omega)]
      simp
    · rw [if_neg (fun z => e (by omega)), hw.2 j (by omega), List.getElem_append_left]
set_option maxRecDepth 100000 in
theorem d202l {t : List Int32} {q : Int32} (hq0 : ¬ q = 0) : ∀ (m i n c : Nat) (s : aS) (r : Nat → Int32) (w : List Int32), TX s r t → (sT s 147).2 = 256 → RW s 147 0 w → w.length = c → r 38 = Int32.ofNat c → c + 1 ≤ i → i ≤ t.length → t.length < i + m → m + 1 < n →
    (qtG t q m i = none ∧ ∃ s' v, dm202_11 n q 1 (wP s r i) = some (wP s' (setN (setN r 38 v) 27 1) t.length) ∧ ch (fun a _ => a = 147) s s') ∨
    ∃ u e s', qtG t q m i = some (u, e) ∧ i < e ∧ e ≤ t.length ∧ dm202_11 n q 1 (wP s r i) = some (wP s' (setN r 38 (Int32.ofNat (w ++ u).length)) e) ∧ RW s' 147 0 (w ++ u) ∧ ch (fun a _ => a = 147) s s' := by
  intro m
  induction m with
  | zero =>
    intro i n c s r w h1 h2 h3 h4 h5 h6 h7 h8 h9
    omega
  | succ m ih =>
    intro i n c s r w h1 h2 h3 h4 h5 h6 h7 h8 h9
    have hl := h1.1
    obtain ⟨n, rfl⟩ : ∃ k, n = k + 2 := ⟨n - 2, by omega⟩
    by_cases c1 : t.length ≤ i
    · left
      refine ⟨if_pos c1, s, r 38, ?_, ch.refl _ s⟩
      rw [d202s h1 (by omega) h5 (by omega), if_pos c1, setN_id (k := 38) rfl]
    · have step : ∀ (x : Int32) (j : Nat), i < j → j ≤ t.length → dm202_11 (n + 2) q 1 (wP s r i) = dm202_11 (n + 1) q 1 (wP (wI s 147 c x) (setN r 38 (Int32.ofNat (c + 1))) j) → qtG t q (m + 1) i = (qtG t q m j).map (fun p => (x :: p.1, p.2)) →
          (qtG t q (m + 1) i = none ∧ ∃ s' v, dm202_11 (n + 2) q 1 (wP s r i) = some (wP s' (setN (setN r 38 v) 27 1) t.length) ∧ ch (fun a _ => a = 147) s s') ∨ ∃ u e s', qtG t q (m + 1) i = some (u, e) ∧ i < e ∧ e ≤ t.length ∧ dm202_11 (n + 2) q 1 (wP s r i) = some (wP s' (setN r 38 (Int32.ofNat (w ++ u).length)) e) ∧ RW s' 147 0 (w ++ u) ∧ ch (fun a _ => a = 147) s s' := by
        intro x j hj1 hj2 hd hq
        have hs : ch (fun a _ => a = 147) s (wI s 147 c x) := (ch.refl _ s).wI rfl
        rcases ih j (n + 1) (c + 1) (wI s 147 c x) (setN r 38 (Int32.ofNat (c + 1))) (w ++ [x]) ((h1.wr (by decide)).set 38 _ (by decide)) h2 (rw_add h3 h4 (by omega) h2) (by simp [h4]) (if_pos rfl) (by omega) hj2 (by omega) (by omega) with ⟨a1, s', v, a2, a3⟩ | ⟨u, e, s', a1, a2, a3, a4, a5, a6⟩
        · left
          refine ⟨by rw [hq, a1]; rfl, s', v, ?_, hs.trans a3⟩
          rw [hd, a2, setN_2]
        · right
          refine ⟨x :: u, e, s', by rw [hq, a1]; rfl, by omega, a3, ?_, ?_, hs.trans a6⟩
          · rw [hd, a4, setN_2, List.append_assoc]
            rfl
          · rw [List.append_assoc] at a5
            exact a5
      by_cases c2 : t.getD i 0 = q
      · by_cases c3 : t.getD (i + 1) 0 = q
        · have z : i + 2 ≤ t.length := by
            by_cases z : i + 1 < t.length
            · omega
            · rw [getD_out (by omega)] at c3
              exact absurd c3.symm hq0
          refine step (t.getD i 0) (i + 2) (by omega) z ?_ ?_
          · rw [d202s h1 (by omega) h5 (by omega), if_neg c1, if_pos c2, if_pos c3]
          · rw [qtG, if_neg c1, if_pos c2, if_pos c3, c2]
        · right
          refine ⟨[], i + 1, s, ?_, by omega, by omega, ?_, ?_, ch.refl _ s⟩
          · rw [qtG, if_neg c1, if_pos c2, if_neg c3]
          · rw [d202s h1 (by omega) h5 (by omega), if_neg c1, if_pos c2, if_neg c3, List.append_nil, h4, setN_id h5]
          · rw [List.append_nil]
            exact h3
      · refine step (t.getD i 0) (i + 1) (by omega) (by omega) ?_ ?_
        · rw [d202s h1 (by omega) h5 (by omega), if_neg c1, if_neg c2]
        · rw [qtG, if_neg c1, if_neg c2]
/-- what quotes hold that begin at i, and the place behind them -/
def qtA (t : List Int32) (q : Int32) (i : Nat) : Option (List Int32 × Nat) := qtG t q 300 (i + 1)
set_option maxRecDepth 100000 in
theorem d202 {s : aS} {r : Nat → Int32} {t : List Int32} {q : Int32} {i : Nat} (hq0 : ¬ q = 0) (h : TX s r t) (hT : (sT s 147).2 = 256) (hi : i < t.length) :
    (qtA t q i = none ∧ ∃ s' v, dm202 q (wP s r i) = some (wP s' (setN (setN r 38 v) 27 1) t.length) ∧ ch (fun a _ => a = 147) s s') ∨
    ∃ u e s', qtA t q i = some (u, e) ∧ i + 1 < e ∧ e ≤ t.length ∧ dm202 q (wP s r i) = some (wP s' (setN r 38 (Int32.ofNat u.length)) e) ∧ RW s' 147 0 u ∧ ch (fun a _ => a = 147) s s' := by
  have hl := h.1
  have e0 : dm202 q (wP s r i) = dm202_11 5000 q 1 (wP s (setN r 38 (Int32.ofNat 0)) (i + 1)) := by
    unfold dm202
    simp only [nx_eq]
    rw [wP_set (by decide), wP_at, ofNat_succ (by omega), wP_go]
    rfl
  rcases d202l hq0 300 (i + 1) 5000 0 s (setN r 38 (Int32.ofNat 0)) [] (h.set 38 _ (by decide)) hT ⟨by rw [hT]; exact Nat.zero_le _, fun j hj => absurd hj (Nat.not_lt_zero j)⟩ rfl (if_pos rfl) (by omega) (by omega) (by omega) (by omega) with ⟨a1, s', v, a2, a3⟩ | ⟨u, e, s', a1, a2, a3, a4, a5, a6⟩
  · exact Or.inl ⟨a1, s', v, by rw [e0, a2, setN_2], a3⟩
  · exact Or.inr ⟨u, e, s', a1, a2, a3, by rw [e0, a4, setN_2]; rfl, a5, a6⟩
end
section
/-! cells, as the reference reads them -/
def cR (r : Nat → Int32) (w c f : Int32) : Nat → Int32 := setN (setN (setN r 41 f) 40 c) 39 w
set_option maxRecDepth 100000 in
theorem cR_w (r : Nat → Int32) (w c f : Int32) : cR r w c f 39 = w := rfl
set_option maxRecDepth 100000 in
theorem cR_c (r : Nat → Int32) (w c f : Int32) : cR r w c f 40 = c := rfl
set_option maxRecDepth 100000 in
theorem cR_f (r : Nat → Int32) (w c f : Int32) : cR r w c f 41 = f := rfl
set_option maxRecDepth 100000 in
theorem cR_n {r : Nat → Int32} {w c f : Int32} {k : Nat} (h : k ≠ 39 ∧ k ≠ 40 ∧ k ≠ 41) : cR r w c f k = r k := by
  unfold cR setN
  rw [if_neg h.1, if_neg h.2.1, if_neg h.2.2]
set_option maxRecDepth 100000 in
theorem cR_39 (r : Nat → Int32) (w c f v : Int32) : setN (cR r w c f) 39 v = cR r v c f := setN_2 _ _ _ _
set_option maxRecDepth 100000 in
theorem cR_40 (r : Nat → Int32) (w c f v : Int32) : setN (cR r w c f) 40 v = cR r w v f := by
  unfold cR
  rw [setN_c (by decide), setN_2]
set_option maxRecDepth 100000 in
theorem cR_41 (r : Nat → Int32) (w c f v : Int32) : setN (cR r w c f) 41 v = cR r w c v := by
  unfold cR
  rw [setN_c (by decide), setN_c (r := setN r 41 f) (by decide), setN_2]
set_option maxRecDepth 100000 in
theorem TX.cr {s : aS} {r : Nat → Int32} {t : List Int32} (h : TX s r t) (w c f : Int32) : TX s (cR r w c f) t := ((h.set 41 _ (by decide)).set 40 _ (by decide)).set 39 _ (by decide)
set_option maxRecDepth 100000 in
theorem gr_L {x : Int32} (h : isL x) : 65 ≤ (gr x).toInt ∧ (gr x).toInt ≤ 90 := by
  have l1 : x < 97 ↔ x.toInt < 97 := iLt
  have l2 : 122 < x ↔ 122 < x.toInt := iLt
  unfold gr
  rcases h with h | h
  · rw [if_pos (l1.mpr (by omega))]
    exact h
  · rw [if_neg (fun q => by have := l1.mp q; omega), if_neg (fun q => by have := l2.mp q; omega)]
    have e : (x - 32).toInt = x.toInt - 32 := iSub (y := 32) (by show _ ≤ x.toInt - 32; omega) (by show x.toInt - 32 ≤ _; omega)
    rw [e]
    omega
def lv (x : Int32) : Nat := (gr x).toInt.toNat - 64
def dv (x : Int32) : Nat := x.toInt.toNat - 48
set_option maxRecDepth 100000 in
theorem lv_b {x : Int32} (h : isL x) : 1 ≤ lv x ∧ lv x ≤ 26 := by
  have := gr_L h
  unfold lv
  omega
set_option maxRecDepth 100000 in
theorem lv_s {x : Int32} {c : Nat} (h : isL x) (hc : c ≤ 100000) : ((26 * Int32.ofNat c) + gr x) - 64 = Int32.ofNat (26 * c + lv x) := by
  have hg := gr_L h
  have ec : (Int32.ofNat c).toInt = c := iOfNat (by omega)
  have e1 : (26 * Int32.ofNat c).toInt = 26 * c := by
    rw [iMul (x := 26) (by rw [ec]; show _ ≤ (26 : Int) * c; omega) (by rw [ec]; show (26 : Int) * c ≤ _; omega), ec]
    rfl
  have e2 : ((26 * Int32.ofNat c) + gr x).toInt = 26 * c + (gr x).toInt := by
    rw [iAdd (by omega) (by omega), e1]
  rw [iEq, iSub (y := 64) (by rw [e2]; show _ ≤ _ - (64 : Int); omega) (by rw [e2]; show _ - (64 : Int) ≤ _; omega), e2, iOfNat (by unfold lv; omega)]
  show _ - (64 : Int) = _
  unfold lv
  omega
set_option maxRecDepth 100000 in
theorem dv_s {x : Int32} {w : Nat} (h : isD x) (hw : w ≤ 2000000) : ((10 * Int32.ofNat w) + x) - 48 = Int32.ofNat (10 * w + dv x) := by
  have hg : 48 ≤ x.toInt ∧ x.toInt ≤ 57 := h
  have ec : (Int32.ofNat w).toInt = w := iOfNat (by omega)
  have e1 : (10 * Int32.ofNat w).toInt = 10 * w := by
    rw [iMul (x := 10) (by rw [ec]; show _ ≤ (10 : Int) * w; omega) (by rw [ec]; show (10 : Int) * w ≤ _; omega), ec]
    rfl
  have e2 : ((10 * Int32.ofNat w) + x).toInt = 10 * w + x.toInt := by
    rw [iAdd (by omega) (by omega), e1]
  rw [iEq, iSub (y := 48) (by rw [e2]; show _ ≤ _ - (48 : Int); omega) (by rw [e2]; show _ - (48 : Int) ≤ _; omega), e2, iOfNat (by unfold dv; omega)]
  show _ - (48 : Int) = _
  unfold dv
  omega
set_option maxRecDepth 100000 in
theorem dv_b {x : Int32} (h : isD x) : dv x ≤ 9 := by
  have hg : 48 ≤ x.toInt ∧ x.toInt ≤ 57 := h
  unfold dv
  omega
set_option maxRecDepth 100000 in
/-- letters of a column: how many, which, and where they end -/
noncomputable def clG (t : List Int32) : Nat → Nat → Nat → Nat → Nat × Nat × Nat
  | 0, i, n, c => (n, c, i)
  | m + 1, i, n, c => if b01 (isL (t.getD i 0)) = 0 then (n, c, i) else if 16384 < 26 * c + lv (t.getD i 0) then (n, c, i) else clG t m (i + 1) (n + 1) (26 * c + lv (t.getD i 0))
set_option maxRecDepth 100000 in
noncomputable def rwG (t : List Int32) : Nat → Nat → Nat → Nat × Nat
  | 0, i, w => (w, i)
  | m + 1, i, w => if b01 (isD (t.getD i 0)) = 0 then (w, i) else if 1048576 < 10 * w + dv (t.getD i 0) then (w, i) else rwG t m (i + 1) (10 * w + dv (t.getD i 0))
set_option maxRecDepth 100000 in
theorem isL0 : ¬ isL 0 := by unfold isL; decide
set_option maxRecDepth 100000 in
theorem isLm : ¬ isL (-1) := by unfold isL; decide
set_option maxRecDepth 100000 in
theorem in_of {p : Int32 → Prop} {t : List Int32} {i : Nat} {d : Int32} (h0 : ¬ p d) (h : p (t.getD i d)) : i < t.length := (cnt_y h0 h).1
set_option maxRecDepth 100000 in
theorem clG_b {t : List Int32} : ∀ (m i n c : Nat), i ≤ t.length → c ≤ 16384 → n ≤ (clG t m i n c).1 ∧ (clG t m i n c).1 ≤ n + m ∧ (clG t m i n c).2.1 ≤ 16384 ∧ i ≤ (clG t m i n c).2.2 ∧ (clG t m i n c).2.2 ≤ t.length ∧ (clG t m i n c).2.2 = i + ((clG t m i n c).1 - n) ∧ (n < (clG t m i n c).1 → 1 ≤ (clG t m i n c).2.1) ∧ c ≤ (clG t m i n c).2.1
  | 0, i, n, c, hi, hc => ⟨Nat.le_refl _, Nat.le_refl _, hc, Nat.le_refl _, hi, by show i = i + (n - n); omega, fun q => absurd q (Nat.lt_irrefl _), Nat.le_refl _⟩
  | m + 1, i, n, c, hi, hc => by
    rw [clG]
    have z : n ≤ n ∧ n ≤ n + (m + 1) ∧ c ≤ 16384 ∧ i ≤ i ∧ i ≤ t.length ∧ i = i + (n - n) ∧ (n < n → 1 ≤ c) ∧ c ≤ c := ⟨Nat.le_refl _, by omega, hc, Nat.le_refl _, hi, by omega, fun q => absurd q (Nat.lt_irrefl _), Nat.le_refl _⟩
    by_cases h1 : isL (t.getD i 0)
    · rw [if_neg (fun q => b01_ne.mp q h1)]
      by_cases h2 : 16384 < 26 * c + lv (t.getD i 0)
      · rw [if_pos h2]
        exact z
      · rw [if_neg h2]
        have hi2 := in_of isL0 h1
        have hb := lv_b h1
        obtain ⟨a1, a2, a3, a4, a5, a6, a7, a8⟩ := clG_b (t := t) m (i + 1) (n + 1) (26 * c + lv (t.getD i 0)) (by omega) (by omega)
        exact ⟨by omega, by omega, a3, by omega, a5, by omega, fun _ => by omega, by omega⟩
    · rw [if_pos (b01_ne.mpr h1)]
      exact z
set_option maxRecDepth 100000 in
theorem rwG_b {t : List Int32} : ∀ (m i w : Nat), i ≤ t.length → w ≤ 1048576 → w ≤ (rwG t m i w).1 ∧ (rwG t m i w).1 ≤ 1048576 ∧ i ≤ (rwG t m i w).2 ∧ (rwG t m i w).2 ≤ t.length
  | 0, i, w, hi, hw => ⟨Nat.le_refl _, hw, Nat.le_refl _, hi⟩
  | m + 1, i, w, hi, hw => by
    rw [rwG]
    by_cases h1 : isD (t.getD i 0)
    · rw [if_neg (fun q => b01_ne.mp q h1)]
      by_cases h2 : 1048576 < 10 * w + dv (t.getD i 0)
      · rw [if_pos h2]
        exact ⟨Nat.le_refl _, hw, Nat.le_refl _, hi⟩
      · rw [if_neg h2]
        have hi2 := in_of isD0 h1
        obtain ⟨a1, a2, a3, a4⟩ := rwG_b (t := t) m (i + 1) (10 * w + dv (t.getD i 0)) (by omega) (by omega)
        exact ⟨by omega, a2, by omega, a4⟩
    · rw [if_pos (b01_ne.mpr h1)]
      exact ⟨Nat.le_refl _, hw, Nat.le_refl _, hi⟩
set_option maxRecDepth 100000 in
theorem d207l {s : aS} {r : Nat → Int32} {t : List Int32} {f : Int32} (h : TX s r t) : ∀ (m i n c k : Nat), n + m = 3 → i ≤ t.length → c ≤ 16384 → m < k → dm207_26 k (Int32.ofNat n) (wP s (cR r 0 (Int32.ofNat c) f) i) = dm207_71 (Int32.ofNat (clG t m i n c).1) (wP s (cR r 0 (Int32.ofNat (clG t m i n c).2.1) f) (clG t m i n c).2.2) := by
  have hl := h.1
  intro m
  induction m with
  | zero =>
    intro i n c k h1 h2 h3 h4
    obtain ⟨k, rfl⟩ : ∃ q, k = q + 1 := ⟨k - 1, by omega⟩
    have h1 : n = 3 := by omega
    subst h1
    rw [dm207_26]
    simp only [wP_at, rch (h.cr 0 (Int32.ofNat c) f) (show i < 100000 by omega), bu_some, d198]
    rw [if_pos (show (3 : Int32) ≤ Int32.ofNat 3 by decide), ite_self]
    rfl
  | succ m ih =>
    intro i n c k h1 h2 h3 h4
    obtain ⟨k, rfl⟩ : ∃ q, k = q + 1 := ⟨k - 1, by omega⟩
    have hn : ¬ (3 : Int32) ≤ Int32.ofNat n := by
      rw [iLe, iOfNat (by omega)]
      show ¬ (3 : Int) ≤ n
      omega
    rw [dm207_26]
    simp only [wP_at, rch (h.cr 0 (Int32.ofNat c) f) (show i < 100000 by omega), bu_some, d198, d178]
    rw [if_neg hn, clG]
    by_cases g : isL (t.getD i 0)
    · rw [if_neg (fun q => b01_ne.mp q g), if_neg (fun q => b01_ne.mp q g)]
      simp only [wP_f (show (40 : Nat) ≠ 26 by decide), cR_c]
      rw [lv_s g (by omega)]
      have hb := lv_b g
      have hc : (16384 : Int32) < Int32.ofNat (26 * c + lv (t.getD i 0)) ↔ 16384 < 26 * c + lv (t.getD i 0) := nlt_iff (a := 16384) (by omega) (by omega)
      by_cases g2 : 16384 < 26 * c + lv (t.getD i 0)
      · rw [if_pos (hc.mpr g2), if_pos g2]
      · rw [if_neg (fun q => g2 (hc.mp q)), if_neg g2]
        simp only [nx_eq]
        rw [wP_set (by decide), cR_40, wP_at, ofNat_succ (n := i) (by omega), wP_go, ofNat_succ (by omega)]
        exact ih (i + 1) (n + 1) (26 * c + lv (t.getD i 0)) k (by omega) (in_of isL0 g) (by omega) (by omega)
    · rw [if_pos (b01_ne.mpr g), if_pos (b01_ne.mpr g)]
set_option maxRecDepth 100000 in
theorem d208l {s : aS} {r : Nat → Int32} {t : List Int32} {c f : Int32} (h : TX s r t) : ∀ (m i w k : Nat), t.length < i + m → i ≤ t.length → w ≤ 1048576 → m < k → dm208_35 k (wP s (cR r (Int32.ofNat w) c f) i) = some (wP s (cR r (Int32.ofNat (rwG t m i w).1) c f) (rwG t m i w).2) := by
  have hl := h.1
  intro m
  induction m with
  | zero =>
    intro i w k h1 h2 h3 h4
    omega
  | succ m ih =>
    intro i w k h1 h2 h3 h4
    obtain ⟨k, rfl⟩ : ∃ q, k = q + 1 := ⟨k - 1, by omega⟩
    rw [dm208_35]
    simp only [wP_at, rch (h.cr (Int32.ofNat w) c f) (show i < 100000 by omega), bu_some, d196]
    rw [rwG]
    by_cases g : isD (t.getD i 0)
    · rw [if_neg (fun q => b01_ne.mp q g), if_neg (fun q => b01_ne.mp q g)]
      simp only [wP_f (show (39 : Nat) ≠ 26 by decide), cR_w]
      rw [dv_s g (by omega)]
      have hb := dv_b g
      have hc : (1048576 : Int32) < Int32.ofNat (10 * w + dv (t.getD i 0)) ↔ 1048576 < 10 * w + dv (t.getD i 0) := by
        rw [iLt, iOfNat (by omega)]
        show (1048576 : Int) < _ ↔ _
        omega
      by_cases g2 : 1048576 < 10 * w + dv (t.getD i 0)
      · rw [if_pos (hc.mpr g2), if_pos g2]
      · rw [if_neg (fun q => g2 (hc.mp q)), if_neg g2]
        simp only [nx_eq]
        rw [wP_set (by decide), cR_39, wP_at, ofNat_succ (by omega), wP_go]
        exact ih (i + 1) (10 * w + dv (t.getD i 0)) k (by omega) (in_of isD0 g) (by omega) (by omega)
    · rw [if_pos (b01_ne.mpr g), if_pos (b01_ne.mpr g)]
end
section
/-! whole cells, as the reference reads them -/
def dlR (t : List Int32) (i : Nat) : Nat := if t.getD i 0 = 36 then 1 else 0
def rowB (t : List Int32) (j : Nat) : Prop := isD (t.getD j 0) ∧ ¬ t.getD j 0 = 48
set_option maxRecDepth 100000 in
theorem dlR_b {t : List Int32} {i : Nat} (hi : i ≤ t.length) : i + dlR t i ≤ t.length ∧ dlR t i ≤ 1 := by
  unfold dlR
  by_cases c : t.getD i 0 = 36
  · rw [if_pos c]
    have : i < t.length := in_of (p := fun x => x = 36) (d := 0) (by decide) c
    omega
  · rw [if_neg c]
    omega
set_option maxRecDepth 100000 in
theorem d208b {s : aS} {r : Nat → Int32} {t : List Int32} {c f : Int32} {j : Nat} (h : TX s r t) (hj : j ≤ t.length) : dm208_18 (wP s (cR r 0 c f) j) = some (if b01 (rowB t j) = 0 then wP s (setN (cR r 0 c f) 27 1) j else wP s (cR r (Int32.ofNat (rwG t 300 j 0).1) c f) (rwG t 300 j 0).2) := by
  have hl := h.1
  unfold dm208_18 dm208_30
  simp only [wP_at, rch (h.cr 0 c f) (show j < 100000 by omega), bu_some, d196, d186]
  by_cases g : isD (t.getD j 0)
  · rw [if_neg (fun q => b01_ne.mp q g)]
    by_cases g2 : t.getD j 0 = 48
    · rw [if_pos g2, if_pos (b01_ne.mpr (fun q => q.2 g2))]
    · rw [if_neg g2, if_neg (fun q => b01_ne.mp q ⟨g, g2⟩)]
      exact d208l h 300 j 0 5000 (by omega) hj (by omega) (by omega)
  · rw [if_pos (b01_ne.mpr g), if_pos (b01_ne.mpr (fun q => g q.1))]
set_option maxRecDepth 100000 in
theorem d208 {s : aS} {r : Nat → Int32} {t : List Int32} {c : Int32} {i fl : Nat} (h : TX s r t) (hi : i ≤ t.length) (hf : fl ≤ 100) : dm208 (wP s (cR r 0 c (Int32.ofNat fl)) i) = some (if b01 (rowB t (i + dlR t i)) = 0 then wP s (setN (cR r 0 c (Int32.ofNat (fl + dlR t i))) 27 1) (i + dlR t i) else wP s (cR r (Int32.ofNat (rwG t 300 (i + dlR t i) 0).1) c (Int32.ofNat (fl + dlR t i))) (rwG t 300 (i + dlR t i) 0).2) := by
  have hl := h.1
  have hb := dlR_b hi
  rw [← d208b h hb.1]
  unfold dm208
  simp only [wP_at, rch (h.cr 0 c (Int32.ofNat fl)) (show i < 100000 by omega), bu_some]
  unfold dlR
  by_cases g : t.getD i 0 = 36
  · rw [if_pos g, if_pos g, nx_eq, wP_f (by decide), cR_f, ofNat_succ (by omega), wP_set (by decide), cR_41, nx_eq, wP_at, ofNat_succ (by omega), wP_go]
  · rw [if_neg g, if_neg g]
    rfl
set_option maxRecDepth 100000 in
/-- where a cell's letters begin, what they are, where its digits begin, whether it is one -/
noncomputable def cK (t : List Int32) (i : Nat) : Nat × Nat × Nat := clG t 3 (i + dlR t i) 0 0
set_option maxRecDepth 100000 in
noncomputable def cJ (t : List Int32) (i : Nat) : Nat := (cK t i).2.2 + dlR t (cK t i).2.2
def cOk (t : List Int32) (i : Nat) : Prop := ¬ (cK t i).1 = 0 ∧ rowB t (cJ t i)
set_option maxRecDepth 100000 in
noncomputable def cFl (t : List Int32) (i : Nat) : Nat := 2 * dlR t i + dlR t (cK t i).2.2
set_option maxRecDepth 100000 in
noncomputable def cW (t : List Int32) (i : Nat) : Nat := (rwG t 300 (cJ t i) 0).1
set_option maxRecDepth 100000 in
noncomputable def cE (t : List Int32) (i : Nat) : Nat := (rwG t 300 (cJ t i) 0).2
set_option maxRecDepth 100000 in
noncomputable def cB (t : List Int32) (i : Nat) : Nat := if (cK t i).1 = 0 then (cK t i).2.2 else cJ t i
set_option maxRecDepth 100000 in
theorem cK_b {t : List Int32} {i : Nat} (hi : i ≤ t.length) : (cK t i).1 ≤ 3 ∧ (cK t i).2.1 ≤ 16384 ∧ i ≤ (cK t i).2.2 ∧ (cK t i).2.2 ≤ t.length ∧ (0 < (cK t i).1 → 1 ≤ (cK t i).2.1) := by
  have hb := dlR_b hi
  obtain ⟨a1, a2, a3, a4, a5, a6, a7, -⟩ := clG_b (t := t) 3 (i + dlR t i) 0 0 hb.1 (by omega)
  unfold cK
  exact ⟨by omega, a3, by omega, a5, a7⟩
set_option maxRecDepth 100000 in
theorem cB_b {t : List Int32} {i : Nat} (hi : i ≤ t.length) : cB t i ≤ t.length := by
  obtain ⟨a1, a2, a3, a4, a5⟩ := cK_b hi
  have := dlR_b a4
  unfold cB cJ
  split <;> omega
set_option maxRecDepth 100000 in
theorem rw_pos {t : List Int32} {j : Nat} (h : rowB t j) : j < t.length ∧ 1 ≤ (rwG t 300 j 0).1 ∧ j < (rwG t 300 j 0).2 := by
  obtain ⟨h1, h2⟩ := h
  have hj := in_of isD0 h1
  have hd : 48 ≤ (t.getD j 0).toInt ∧ (t.getD j 0).toInt ≤ 57 := h1
  have h3 : ¬ (t.getD j 0).toInt = 48 := fun q => h2 (iEq.mpr q)
  have hv : 1 ≤ dv (t.getD j 0) ∧ dv (t.getD j 0) ≤ 9 := by unfold dv; omega
  obtain ⟨a1, a2, a3, a4⟩ := rwG_b (t := t) 299 (j + 1) (10 * 0 + dv (t.getD j 0)) (by omega) (by omega)
  have e : rwG t 300 j 0 = rwG t 299 (j + 1) (10 * 0 + dv (t.getD j 0)) := by
    rw [show (300 : Nat) = 299 + 1 from rfl, rwG, if_neg (fun q => b01_ne.mp q h1), if_neg (by omega)]
  rw [e]
  exact ⟨hj, by omega, by omega⟩
set_option maxRecDepth 100000 in
theorem cOk_b {t : List Int32} {i : Nat} (hi : i ≤ t.length) (h : cOk t i) : (1 ≤ cW t i ∧ cW t i ≤ 1048576) ∧ (1 ≤ (cK t i).2.1 ∧ (cK t i).2.1 ≤ 16384) ∧ cFl t i ≤ 3 ∧ i < cE t i ∧ cE t i ≤ t.length := by
  obtain ⟨a1, a2, a3, a4, a5⟩ := cK_b hi
  have hd := dlR_b a4
  have hd0 := dlR_b hi
  obtain ⟨b1, b2, b3⟩ := rw_pos h.2
  have hJ : cJ t i = (cK t i).2.2 + dlR t (cK t i).2.2 := rfl
  obtain ⟨c1, c2, c3, c4⟩ := rwG_b (t := t) 300 (cJ t i) 0 (by omega) (by omega)
  have h0 := h.1
  unfold cW cE cFl
  exact ⟨⟨b2, c2⟩, ⟨a5 (by omega), a2⟩, by omega, by omega, c4⟩
set_option maxRecDepth 100000 in
theorem d207 {s : aS} {r : Nat → Int32} {t : List Int32} {i : Nat} (h : TX s r t) (hi : i ≤ t.length) : (¬ cOk t i ∧ ∃ c f, dm207 (wP s r i) = some (wP s (setN (cR r 0 c f) 27 1) (cB t i))) ∨ (cOk t i ∧ dm207 (wP s r i) = some (wP s (cR r (Int32.ofNat (cW t i)) (Int32.ofNat (cK t i).2.1) (Int32.ofNat (cFl t i))) (cE t i))) := by
  have hl := h.1
  have hb := dlR_b hi
  obtain ⟨a1, a2, a3, a4, a5⟩ := cK_b hi
  have e0 : dm207 (wP s r i) = dm207_26 5000 (Int32.ofNat 0) (wP s (cR r 0 (Int32.ofNat 0) (Int32.ofNat (2 * dlR t i))) (i + dlR t i)) := by
    unfold dm207 dm207_24
    simp only [nx_eq]
    rw [wP_set (by decide), wP_set (by decide), wP_set (by decide)]
    have e1 : setN (setN (setN r 41 0) 40 0) 39 0 = cR r 0 0 0 := rfl
    rw [e1]
    simp only [wP_at, rch (h.cr 0 0 0) (show i < 100000 by omega), bu_some]
    unfold dlR
    by_cases g : t.getD i 0 = 36
    · rw [if_pos g, if_pos g, wP_set (by decide), cR_41, wP_at, ofNat_succ (by omega), wP_go]
      rfl
    · rw [if_neg g, if_neg g]
      rfl
  rw [e0, d207l h 3 (i + dlR t i) 0 0 5000 rfl hb.1 (by omega) (by omega)]
  show (¬ cOk t i ∧ ∃ c f, dm207_71 (Int32.ofNat (cK t i).1) (wP s (cR r 0 (Int32.ofNat (cK t i).2.1) (Int32.ofNat (2 * dlR t i))) (cK t i).2.2) = some (wP s (setN (cR r 0 c f) 27 1) (cB t i))) ∨ (cOk t i ∧ dm207_71 (Int32.ofNat (cK t i).1) (wP s (cR r 0 (Int32.ofNat (cK t i).2.1) (Int32.ofNat (2 * dlR t i))) (cK t i).2.2) = some (wP s (cR r (Int32.ofNat (cW t i)) (Int32.ofNat (cK t i).2.1) (Int32.ofNat (cFl t i))) (cE t i)))
  unfold dm207_71
  by_cases g : (cK t i).1 = 0
  · left
    refine ⟨fun q => q.1 g, Int32.ofNat (cK t i).2.1, Int32.ofNat (2 * dlR t i), ?_⟩
    rw [if_pos (show Int32.ofNat (cK t i).1 = 0 by rw [g]; rfl), wP_at, d186]
    unfold cB
    rw [if_pos g]
    rfl
  · rw [if_neg (show ¬ Int32.ofNat (cK t i).1 = 0 from fun q => g ((neq_iff (b := 0) (by omega) (by omega)).mp q)), d208 h a4 (by omega)]
    simp only [bu_some]
    by_cases g2 : rowB t ((cK t i).2.2 + dlR t (cK t i).2.2)
    · right
      refine ⟨⟨g, g2⟩, ?_⟩
      rw [if_neg (fun q => b01_ne.mp q g2)]
      rfl
    · left
      refine ⟨fun q => g2 q.2, Int32.ofNat (cK t i).2.1, Int32.ofNat (2 * dlR t i + dlR t (cK t i).2.2), ?_⟩
      rw [if_pos (b01_ne.mpr g2)]
      unfold cB
      rw [if_neg g]
      rfl
end
section
/-! words that could be cells or truths, as the reference reads them -/
set_option maxRecDepth 100000 in
theorem tx_at {s : aS} {r : Nat → Int32} {t : List Int32} {k j : Nat} (h : TX s r t) (hj : j < t.length) : sI (wP s r k) 122 j = t.getD j 0 := by
  rw [wP_n (by decide), h.2.2 j hj, getD_in hj]
set_option maxRecDepth 100000 in
noncomputable def lo (t : List Int32) (i e : Nat) : Nat := if cntF isL (t.drop i) ≤ e - i then cntF isL (t.drop i) else e - i
set_option maxRecDepth 100000 in
theorem d212l {s : aS} {r : Nat → Int32} {t : List Int32} {i e k : Nat} (h : TX s r t) (he : e ≤ t.length) : ∀ (m j n : Nat), i + j + m = e → m < n → dm212_2 n (Int32.ofNat i) (Int32.ofNat e) (Int32.ofNat j) (wP s r k) = some (Int32.ofNat (j + lo t (i + j) e)) := by
  have hl := h.1
  intro m
  induction m with
  | zero =>
    intro j n h1 h2
    obtain ⟨n, rfl⟩ : ∃ q, n = q + 1 := ⟨n - 1, by omega⟩
    have e0 : lo t (i + j) e = 0 := by unfold lo; split <;> omega
    rw [dm212_2, iSum (by omega) (by omega), if_pos ((nle_iff (by omega) (by omega)).mpr (by omega)), e0]
    rfl
  | succ m ih =>
    intro j n h1 h2
    obtain ⟨n, rfl⟩ : ∃ q, n = q + 1 := ⟨n - 1, by omega⟩
    rw [dm212_2, iSum (by omega) (by omega), if_neg (fun q => by have := (nle_iff (by omega) (by omega)).mp q; omega), if_pos (by rw [aB_iff, iOfNat (by omega)]; omega), jN_of (by omega), tx_at h (by omega), d198]
    simp only [bu_some]
    by_cases g : isL (t.getD (i + j) 0)
    · obtain ⟨g1, g2⟩ := cnt_y isL0 g
      rw [if_neg (fun q => b01_ne.mp q g), ofNat_succ (by omega), ih (j + 1) n (by omega) (by omega)]
      have e1 : lo t (i + j) e = lo t (i + (j + 1)) e + 1 := by
        unfold lo
        rw [g2, show i + (j + 1) = i + j + 1 by omega]
        split <;> split <;> omega
      rw [e1, show j + 1 + lo t (i + (j + 1)) e = j + (lo t (i + (j + 1)) e + 1) by omega]
    · have e1 : lo t (i + j) e = 0 := by
        unfold lo
        rw [cnt_n g, if_pos (by omega)]
      rw [if_pos (b01_ne.mpr g), e1]
      rfl
set_option maxRecDepth 100000 in
theorem d212 {s : aS} {r : Nat → Int32} {t : List Int32} {i e k : Nat} (h : TX s r t) (hi : i ≤ e) (he : e ≤ t.length) : dm212 (Int32.ofNat i) (Int32.ofNat e) (wP s r k) = some (Int32.ofNat (lo t i e)) := by
  have hl := h.1
  have := d212l (k := k) (i := i) h he (e - i) 0 5000 (by omega) (by omega)
  unfold dm212
  rw [show (0 : Int32) = Int32.ofNat 0 from rfl, this, Nat.zero_add]
  rfl
set_option maxRecDepth 100000 in
theorem lo_b (t : List Int32) (i e : Nat) : lo t i e ≤ e - i := by
  unfold lo
  split <;> omega
set_option maxRecDepth 100000 in
theorem cnt_is {p : Int32 → Prop} {t : List Int32} (d : Int32) : ∀ (m i q : Nat), t.length ≤ i + m → q < cntF p (t.drop i) → p (t.getD (i + q) d) := by
  intro m
  induction m with
  | zero =>
    intro i q h1 h2
    have := cnt_b (p := p) (t := t) (i := i)
    omega
  | succ m ih =>
    intro i q h1 h2
    have hb := cnt_b (p := p) (t := t) (i := i)
    have hi : i < t.length := by omega
    by_cases g : p (t.getD i d)
    · cases q with
      | zero => exact g
      | succ q =>
        have e : cntF p (t.drop i) = cntF p (t.drop (i + 1)) + 1 := by
          rw [getD_in hi] at g
          rw [List.drop_eq_getElem_cons hi]
          show (if b01 (p t[i]) = 0 then 0 else cntF p (t.drop (i + 1)) + 1) = _
          rw [if_neg (fun q => b01_ne.mp q g)]
        have := ih (i + 1) q (by omega) (by omega)
        rw [show i + 1 + q = i + (q + 1) by omega] at this
        exact this
    · rw [cnt_n g] at h2
      omega
set_option maxRecDepth 100000 in
theorem lo_is {t : List Int32} {i e q : Nat} (h : q < lo t i e) : isL (t.getD (i + q) 0) := by
  refine cnt_is 0 t.length i q (by omega) ?_
  unfold lo at h
  split at h <;> omega
/-- the column that n letters mean -/
def cvG (t : List Int32) : Nat → Nat → Nat → Nat
  | 0, _, c => c
  | m + 1, i, c => cvG t m (i + 1) (26 * c + lv (t.getD i 0))
set_option maxRecDepth 100000 in
theorem d213l {s : aS} {r : Nat → Int32} {t : List Int32} {i n k : Nat} (h : TX s r t) (hn : ∀ q, q < n → isL (t.getD (i + q) 0)) (hi : i + n ≤ t.length) : ∀ (m j c N : Nat), (j + m = n ∨ (j + m = 4 ∧ 4 ≤ n)) → j + m ≤ 4 → c + 1 ≤ 27 ^ j → m < N → dm213_4 N (Int32.ofNat i) (Int32.ofNat n) (Int32.ofNat c) (Int32.ofNat j) (wP s r k) = some (Int32.ofNat (cvG t m (i + j) c)) := by
  have hl := h.1
  intro m
  induction m with
  | zero =>
    intro j c N h1 h2 h3 h4
    obtain ⟨N, rfl⟩ : ∃ q, N = q + 1 := ⟨N - 1, by omega⟩
    rw [dm213_4]
    by_cases g : n ≤ j
    · rw [if_pos ((nle_iff (by omega) (by omega)).mpr g)]
      rfl
    · rw [if_neg (fun q => g ((nle_iff (by omega) (by omega)).mp q)), if_pos (show (4 : Int32) ≤ Int32.ofNat j from (nle_iff (a := 4) (by omega) (by omega)).mpr (by omega))]
      rfl
  | succ m ih =>
    intro j c N h1 h2 h3 h4
    obtain ⟨N, rfl⟩ : ∃ q, N = q + 1 := ⟨N - 1, by omega⟩
    have hp : 27 ^ j ≤ 27 ^ 3 := Nat.pow_le_pow_right (by decide) (by omega)
    have hp3 : 27 ^ 3 = 19683 := by decide
    have hL := hn j (by omega)
    have hb := lv_b hL
    rw [dm213_4, if_neg (fun q => by have := (nle_iff (by omega) (by omega)).mp q; omega), if_neg (fun q => by have := (nle_iff (a := 4) (by omega) (by omega)).mp q; omega), iSum (by omega) (by omega), if_pos (by rw [aB_iff, iOfNat (by omega)]; omega), jN_of (by omega), tx_at h (by omega), d178]
    simp only [bu_some]
    rw [lv_s hL (by omega), ofNat_succ (by omega), ih (j + 1) (26 * c + lv (t.getD (i + j) 0)) N (by omega) (by omega) (by rw [Nat.pow_succ]; omega) (by omega)]
    rfl
set_option maxRecDepth 100000 in
theorem cvG_b {t : List Int32} {i : Nat} : ∀ (m j c : Nat), (∀ q, q < j + m → isL (t.getD (i + q) 0)) → c + 1 ≤ 27 ^ j → cvG t m (i + j) c + 1 ≤ 27 ^ (j + m) ∧ (0 < m → 1 ≤ cvG t m (i + j) c) ∧ c ≤ cvG t m (i + j) c
  | 0, j, c, _, h => ⟨h, fun q => absurd q (Nat.lt_irrefl _), Nat.le_refl _⟩
  | m + 1, j, c, hn, h => by
    have hb := lv_b (hn j (by omega))
    obtain ⟨a1, a2, a3⟩ := cvG_b (t := t) (i := i) m (j + 1) (26 * c + lv (t.getD (i + j) 0)) (fun q hq => hn q (by omega)) (by rw [Nat.pow_succ]; omega)
    rw [show j + 1 + m = j + (m + 1) by omega] at a1
    exact ⟨a1, fun _ => Nat.le_trans (by omega) a3, Nat.le_trans (by omega) a3⟩
/-- the column of the first n letters, four at most -/
def cv4 (t : List Int32) (n i : Nat) : Nat := cvG t (if n ≤ 4 then n else 4) i 0
set_option maxRecDepth 100000 in
theorem d213 {s : aS} {r : Nat → Int32} {t : List Int32} {i n k : Nat} (h : TX s r t) (hn : ∀ q, q < n → isL (t.getD (i + q) 0)) (hi : i + n ≤ t.length) : dm213 (Int32.ofNat i) (Int32.ofNat n) (wP s r k) = some (Int32.ofNat (cv4 t n i)) := by
  unfold dm213 cv4
  by_cases g : n ≤ 4
  · rw [if_pos g]
    exact d213l h hn hi n 0 0 5000 (by omega) (by omega) (by decide) (by omega)
  · rw [if_neg g]
    exact d213l h hn hi 4 0 0 5000 (by omega) (by omega) (by decide) (by omega)
set_option maxRecDepth 100000 in
theorem cv4_b {t : List Int32} {n i : Nat} (hn : ∀ q, q < n → isL (t.getD (i + q) 0)) : cv4 t n i < 531441 ∧ (0 < n → 1 ≤ cv4 t n i) := by
  unfold cv4
  by_cases g : n ≤ 4
  · rw [if_pos g]
    obtain ⟨a1, a2, a3⟩ := cvG_b (t := t) (i := i) n 0 0 (fun q hq => hn q (by omega)) (by decide)
    have hp : 27 ^ (0 + n) ≤ 27 ^ 4 := Nat.pow_le_pow_right (by decide) (by omega)
    have hp3 : 27 ^ 4 = 531441 := by decide
    simp only [Nat.add_zero, Nat.zero_add] at a1 a2 hp
    exact ⟨by omega, a2⟩
  · rw [if_neg g]
    obtain ⟨a1, a2, a3⟩ := cvG_b (t := t) (i := i) 4 0 0 (fun q hq => hn q (by omega)) (by decide)
    have hp3 : 27 ^ (0 + 4) = 531441 := by decide
    simp only [Nat.add_zero, Nat.zero_add] at a1 a2 hp3
    exact ⟨by omega, fun _ => a2 (by decide)⟩
end
section
/-! is a word a cell, is it TRUE or FALSE, in the reference -/
set_option maxRecDepth 100000 in
noncomputable def dgG (t : List Int32) : Nat → Nat → Nat → Option Nat
  | 0, _, w => some w
  | m + 1, p, w => if b01 (isD (t.getD p 0)) = 0 then none else dgG t m (p + 1) (10 * w + dv (t.getD p 0))
set_option maxRecDepth 100000 in
theorem cR_id (r : Nat → Int32) : cR r (r 39) (r 40) (r 41) = r := by
  unfold cR
  rw [setN_id (k := 41) rfl, setN_id (k := 40) rfl, setN_id (k := 39) rfl]
set_option maxRecDepth 100000 in
/-- the row and the column of a word from i to e that is a cell -/
noncomputable def icR (t : List Int32) (i e : Nat) : Option (Nat × Nat) := if lo t i e < 1 ∨ 3 < lo t i e ∨ e - i - lo t i e < 1 ∨ 7 < e - i - lo t i e ∨ t.getD (i + lo t i e) 0 = 48 then none else match dgG t (e - i - lo t i e) (i + lo t i e) 0 with
  | none => none
  | some w => if 1048576 < w ∨ 16384 < cv4 t (lo t i e) i then none else some (w, cv4 t (lo t i e) i)
set_option maxRecDepth 100000 in
theorem d214l {s : aS} {r : Nat → Int32} {t : List Int32} {i e k n : Nat} (h : TX s r t) (hn : n = lo t i e) (hi : i ≤ e) (he : e ≤ t.length) : ∀ (m j p w N : Nat), p + m = e → j + m ≤ 7 → w + 1 ≤ 10 ^ j → m < N → (dgG t m p w = none ∧ dm214_41 N (Int32.ofNat i) (Int32.ofNat e) (Int32.ofNat n) (Int32.ofNat w) (Int32.ofNat p) (wP s r k) = some (0, wP s r k)) ∨ ∃ v, dgG t m p w = some v ∧ v < 10000000 ∧ dm214_41 N (Int32.ofNat i) (Int32.ofNat e) (Int32.ofNat n) (Int32.ofNat w) (Int32.ofNat p) (wP s r k) = some (if 1048576 < v ∨ 16384 < cv4 t n i then 0 else 1, wP s (cR r (Int32.ofNat v) (Int32.ofNat (cv4 t n i)) 0) k) := by
  have hl := h.1
  intro m
  induction m with
  | zero =>
    intro j p w N h1 h2 h3 h4
    obtain ⟨N, rfl⟩ : ∃ q, N = q + 1 := ⟨N - 1, by omega⟩
    have hp : 10 ^ j ≤ 10 ^ 7 := Nat.pow_le_pow_right (by decide) (by omega)
    have hp3 : 10 ^ 7 = 10000000 := by decide
    have hb := lo_b t i e
    have hL : ∀ q, q < n → isL (t.getD (i + q) 0) := fun q hq => lo_is (e := e) (by rw [← hn]; exact hq)
    have hcb := cv4_b hL
    right
    refine ⟨w, rfl, by omega, ?_⟩
    rw [dm214_41, if_pos ((nle_iff (by omega) (by omega)).mpr (by omega))]
    simp only [nx_eq]
    rw [wP_set (by decide), wP_set (by decide)]
    have hT : TX s (setN (setN r 41 0) 39 (Int32.ofNat w)) t := (h.set 41 _ (by decide)).set 39 _ (by decide)
    rw [d213 hT hL (by omega)]
    simp only [bu_some]
    rw [wP_set (by decide), wP_f (by decide)]
    have e1 : setN (setN (setN r 41 0) 39 (Int32.ofNat w)) 40 (Int32.ofNat (cv4 t n i)) = cR r (Int32.ofNat w) (Int32.ofNat (cv4 t n i)) 0 := by
      unfold cR
      rw [setN_c (by decide)]
    rw [e1, cR_c]
    have c1 : (1048576 : Int32) < Int32.ofNat w ↔ 1048576 < w := by
      rw [iLt, iOfNat (by omega)]
      show (1048576 : Int) < w ↔ _
      omega
    have c2 : (16384 : Int32) < Int32.ofNat (cv4 t n i) ↔ 16384 < cv4 t n i := by
      rw [iLt, iOfNat (by omega)]
      show (16384 : Int) < (cv4 t n i : Nat) ↔ _
      omega
    by_cases g1 : 1048576 < w
    · rw [if_pos (c1.mpr g1), if_pos (Or.inl g1)]
    · rw [if_neg (fun q => g1 (c1.mp q))]
      by_cases g2 : 16384 < cv4 t n i
      · rw [if_pos (c2.mpr g2), if_pos (Or.inr g2)]
      · rw [if_neg (fun q => g2 (c2.mp q)), if_neg (by rintro (q | q); exact g1 q; exact g2 q)]
  | succ m ih =>
    intro j p w N h1 h2 h3 h4
    obtain ⟨N, rfl⟩ : ∃ q, N = q + 1 := ⟨N - 1, by omega⟩
    have hp : 10 ^ j ≤ 10 ^ 6 := Nat.pow_le_pow_right (by decide) (by omega)
    have hp3 : 10 ^ 6 = 1000000 := by decide
    rw [dm214_41, if_neg (fun q => by have := (nle_iff (by omega) (by omega)).mp q; omega)]
    simp only [if_pos (show aB (Int32.ofNat p) 256 by rw [aB_iff, iOfNat (by omega)]; omega), jN_of (show p < 2147483648 by omega), tx_at h (show p < t.length by omega), d196, bu_some]
    rw [dgG]
    by_cases g : isD (t.getD p 0)
    · have hb := dv_b g
      rw [if_neg (fun q => b01_ne.mp q g), if_neg (fun q => b01_ne.mp q g), dv_s g (by omega), ofNat_succ (by omega)]
      exact ih (j + 1) (p + 1) (10 * w + dv (t.getD p 0)) N (by omega) (by omega) (by rw [Nat.pow_succ]; omega) (by omega)
    · left
      rw [if_pos (b01_ne.mpr g), if_pos (b01_ne.mpr g)]
      exact ⟨rfl, rfl⟩
set_option maxRecDepth 100000 in
theorem d214 {s : aS} {r : Nat → Int32} {t : List Int32} {i e k : Nat} (h : TX s r t) (hi : i ≤ e) (he : e ≤ t.length) : (icR t i e = none ∧ ∃ w c f, dm214 (Int32.ofNat i) (Int32.ofNat e) (wP s r k) = some (0, wP s (cR r w c f) k)) ∨ ∃ w c, icR t i e = some (w, c) ∧ dm214 (Int32.ofNat i) (Int32.ofNat e) (wP s r k) = some (1, wP s (cR r (Int32.ofNat w) (Int32.ofNat c) 0) k) := by
  have hl := h.1
  have hb := lo_b t i e
  unfold dm214 icR
  rw [d212 h hi he]
  simp only [bu_some]
  have same : ∃ w c f, (some (0, wP s r k) : Option (Int32 × aS)) = some (0, wP s (cR r w c f) k) := ⟨r 39, r 40, r 41, by rw [cR_id]⟩
  have es : (Int32.ofNat e - Int32.ofNat i) - Int32.ofNat (lo t i e) = Int32.ofNat (e - i - lo t i e) := by
    have e1 : (Int32.ofNat e - Int32.ofNat i).toInt = e - i := by
      rw [iSub (by rw [iOfNat (by omega), iOfNat (by omega)]; omega) (by rw [iOfNat (by omega), iOfNat (by omega)]; omega), iOfNat (by omega), iOfNat (by omega)]
    rw [iEq, iSub (by rw [e1, iOfNat (by omega)]; omega) (by rw [e1, iOfNat (by omega)]; omega), e1, iOfNat (by omega), iOfNat (by omega)]
    omega
  rw [es]
  have k1 : Int32.ofNat (lo t i e) < 1 ↔ lo t i e < 1 := nlt_iff (b := 1) (by omega) (by omega)
  have k2 : 3 < Int32.ofNat (lo t i e) ↔ 3 < lo t i e := nlt_iff (a := 3) (by omega) (by omega)
  have k3 : Int32.ofNat (e - i - lo t i e) < 1 ↔ e - i - lo t i e < 1 := nlt_iff (b := 1) (by omega) (by omega)
  have k4 : 7 < Int32.ofNat (e - i - lo t i e) ↔ 7 < e - i - lo t i e := nlt_iff (a := 7) (by omega) (by omega)
  by_cases c1 : lo t i e < 1
  · rw [if_pos (k1.mpr c1), if_pos (Or.inl c1)]
    exact Or.inl ⟨rfl, same⟩
  · rw [if_neg (fun q => c1 (k1.mp q))]
    by_cases c2 : 3 < lo t i e
    · rw [if_pos (k2.mpr c2), if_pos (Or.inr (Or.inl c2))]
      exact Or.inl ⟨rfl, same⟩
    · rw [if_neg (fun q => c2 (k2.mp q))]
      by_cases c3 : e - i - lo t i e < 1
      · rw [if_pos (k3.mpr c3), if_pos (Or.inr (Or.inr (Or.inl c3)))]
        exact Or.inl ⟨rfl, same⟩
      · rw [if_neg (fun q => c3 (k3.mp q))]
        by_cases c4 : 7 < e - i - lo t i e
        · rw [if_pos (k4.mpr c4), if_pos (Or.inr (Or.inr (Or.inr (Or.inl c4))))]
          exact Or.inl ⟨rfl, same⟩
        · rw [if_neg (fun q => c4 (k4.mp q)), iSum (by omega) (by omega)]
          simp only [if_pos (show aB (Int32.ofNat (i + lo t i e)) 256 by rw [aB_iff, iOfNat (by omega)]; omega), jN_of (show i + lo t i e < 2147483648 by omega), tx_at h (show i + lo t i e < t.length by omega)]
          by_cases c5 : t.getD (i + lo t i e) 0 = 48
          · rw [if_pos c5, if_pos (Or.inr (Or.inr (Or.inr (Or.inr c5))))]
            exact Or.inl ⟨rfl, same⟩
          · rw [if_neg c5, if_neg (by rintro (q | q | q | q | q); exact c1 q; exact c2 q; exact c3 q; exact c4 q; exact c5 q)]
            rcases d214l (k := k) h rfl hi he (e - i - lo t i e) 0 (i + lo t i e) 0 5000 (by omega) (by omega) (by decide) (by omega) with ⟨a1, a2⟩ | ⟨v, a1, a2, a3⟩
            · left
              rw [a1]
              refine ⟨rfl, ?_⟩
              rw [show (0 : Int32) = Int32.ofNat 0 from rfl]
              obtain ⟨w, c, f, q⟩ := same
              exact ⟨w, c, f, by rw [a2]; exact q⟩
            · rw [a1]
              by_cases g : 1048576 < v ∨ 16384 < cv4 t (lo t i e) i
              · left
                refine ⟨if_pos g, Int32.ofNat v, Int32.ofNat (cv4 t (lo t i e) i), 0, ?_⟩
                rw [if_pos g] at a3
                exact a3
              · right
                refine ⟨v, cv4 t (lo t i e) i, if_neg g, ?_⟩
                rw [if_neg g] at a3
                exact a3
set_option maxRecDepth 100000 in
theorem d215l {s : aS} {r : Nat → Int32} {t u : List Int32} {W : Int64} {i k : Nat} (h : TX s r t) (hi : i + u.length ≤ t.length) (hu : ∀ q, q < u.length → (((W >>> ((8 * ((Int32.ofNat u.length - 1) - Int32.ofNat q)).toInt64 &&& 63)) &&& 255).toInt32) = u.getD q 0) : ∀ (m j N : Nat), j + m = u.length → m + 1 < N → dm215_11 N (Int32.ofNat i) W (Int32.ofNat u.length) 1 (Int32.ofNat j) (wP s r k) = some (b01 (spQ t u i u.length j)) := by
  have hl := h.1
  intro m
  induction m with
  | zero =>
    intro j N h1 h2
    obtain ⟨N, rfl⟩ : ∃ q, N = q + 1 := ⟨N - 1, by omega⟩
    rw [dm215_11, if_pos ((nle_iff (by omega) (by omega)).mpr (by omega)), if_pos (Or.inr rfl), b01_t]
    intro q a b
    omega
  | succ m ih =>
    intro j N h1 h2
    obtain ⟨N, rfl⟩ : ∃ q, N = q + 2 := ⟨N - 2, by omega⟩
    rw [dm215_11, if_neg (fun q => by have := (nle_iff (by omega) (by omega)).mp q; omega), if_neg (by decide), iSum (by omega) (by omega), if_pos (by rw [aB_iff, iOfNat (by omega)]; omega), jN_of (by omega), tx_at h (by omega), d178, hu j (by omega)]
    unfold dm215_39
    simp only [bu_some]
    have e9 : t.getD (i + j) 0 = t.getD (i + j) (-1) := by rw [getD_in (by omega), getD_in (by omega)]
    rw [e9, ofNat_succ (by omega)]
    by_cases g : gr (t.getD (i + j) (-1)) = u.getD j 0
    · rw [if_pos g, ih (j + 1) (N + 1) (by omega) (by omega)]
      rw [b01_c]
      constructor
      · intro z q a b
        by_cases w : q = j
        · rw [w]; exact g
        · exact z q (by omega) b
      · intro z q a b
        exact z q (by omega) b
    · rw [if_neg g, b01_f (fun z => g (z j (Nat.le_refl _) (by omega))), dm215_11, if_pos rfl, if_pos (Or.inl rfl), ite_self]
set_option maxRecDepth 100000 in
theorem d215 {s : aS} {r : Nat → Int32} {t u : List Int32} {W : Int64} {i e k : Nat} (h : TX s r t) (hi : i ≤ e) (he : e ≤ t.length) (hu0 : 1 ≤ u.length) (hu8 : u.length < 10) (hu : ∀ q, q < u.length → (((W >>> ((8 * ((Int32.ofNat u.length - 1) - Int32.ofNat q)).toInt64 &&& 63)) &&& 255).toInt32) = u.getD q 0) : dm215 (Int32.ofNat i) (Int32.ofNat e) W (Int32.ofNat u.length) (wP s r k) = some (b01 (e = i + u.length ∧ spQ t u i u.length 0)) := by
  have hl := h.1
  unfold dm215 dm215_8
  have es : Int32.ofNat e - Int32.ofNat i = Int32.ofNat (e - i) := by
    rw [iEq, iSub (by rw [iOfNat (by omega), iOfNat (by omega)]; omega) (by rw [iOfNat (by omega), iOfNat (by omega)]; omega), iOfNat (by omega), iOfNat (by omega), iOfNat (by omega)]
    omega
  rw [es]
  by_cases g : e = i + u.length
  · rw [if_pos ((neq_iff (by omega) (by omega)).mpr (by omega)), show (0 : Int32) = Int32.ofNat 0 from rfl, d215l h (by omega) hu u.length 0 5000 (by omega) (by omega), b01_c]
    exact ⟨fun z => ⟨g, z⟩, fun z => z.2⟩
  · rw [if_neg (fun q => by have := (neq_iff (by omega) (by omega)).mp q; omega), b01_f (fun z => g z.1), dm215_11]
    rw [if_neg (fun q => by have := (nle_iff (b := 0) (by omega) (by omega)).mp q; omega), if_pos rfl, if_pos (Or.inl rfl)]
set_option maxRecDepth 100000 in
theorem d215t {s : aS} {r : Nat → Int32} {t : List Int32} {i e k : Nat} (h : TX s r t) (hi : i ≤ e) (he : e ≤ t.length) : dm215 (Int32.ofNat i) (Int32.ofNat e) 1414681925 4 (wP s r k) = some (b01 (e = i + 4 ∧ spQ t trL i 4 0)) := by
  refine d215 (u := trL) h hi he (by decide) (by decide) (fun q hq => ?_)
  have hq : q < 4 := hq
  match q, hq with
  | 0, _ => decide +kernel
  | 1, _ => decide +kernel
  | 2, _ => decide +kernel
  | 3, _ => decide +kernel
set_option maxRecDepth 100000 in
theorem d215f {s : aS} {r : Nat → Int32} {t : List Int32} {i e k : Nat} (h : TX s r t) (hi : i ≤ e) (he : e ≤ t.length) : dm215 (Int32.ofNat i) (Int32.ofNat e) 301743231813 5 (wP s r k) = some (b01 (e = i + 5 ∧ spQ t faL i 5 0)) := by
  refine d215 (u := faL) h hi he (by decide) (by decide) (fun q hq => ?_)
  have hq : q < 5 := hq
  match q, hq with
  | 0, _ => decide +kernel
  | 1, _ => decide +kernel
  | 2, _ => decide +kernel
  | 3, _ => decide +kernel
  | 4, _ => decide +kernel
end
section
/-! errors, as the reference reads them -/
def erN (e : Nat) : List Int32 := if e = 1 then [35, 78, 85, 76, 76, 33] else if e = 2 then [35, 68, 73, 86, 47, 48, 33] else if e = 3 then [35, 86, 65, 76, 85, 69, 33] else if e = 4 then [35, 82, 69, 70, 33] else if e = 5 then [35, 78, 65, 77, 69, 63] else if e = 6 then [35, 78, 85, 77, 33] else [35, 78, 47, 65]
set_option maxRecDepth 100000 in
theorem d204 {e k : Nat} (he : e < 8) (hk : k < 9) : dm204 (Int32.ofNat e) (Int32.ofNat k) = some ((erN e).getD k 0) := by
  have h : ∀ e ∈ List.range 8, ∀ k ∈ List.range 9, dm204 (Int32.ofNat e) (Int32.ofNat k) = some ((erN e).getD k 0) := by decide +kernel
  exact h e (List.mem_range.mpr he) k (List.mem_range.mpr hk)
set_option maxRecDepth 100000 in
theorem d203i {s : aS} {r : Nat → Int32} {t : List Int32} {k5 : Int32 → Int32 → aS → Option aS} {k19 : Int32 → Int32 → Int32 → Int32 → Int32 → aS → Option aS} {f k e a : Nat} {x2 : Int32} {Q : Prop} (h : TX s r t) (hf : f ≤ 300) (hk : k ≤ 7) (he : e < 8) : ∀ (m j n : Nat) (p : Prop), j + m = k + 1 → m < n → dm203_33 k5 k19 n (Int32.ofNat f) x2 (Int32.ofNat k) (b01 Q) (Int32.ofNat e) (b01 p) (Int32.ofNat j) (wP s r a) = if b01 (p ∧ ∀ q, j ≤ q → q ≤ k → (erN e).getD q 0 = gr (t.getD (f + q) 0)) = 0 then k19 (Int32.ofNat f) x2 (Int32.ofNat k) (b01 Q) (Int32.ofNat (e + 1)) (wP s r a) else k19 (Int32.ofNat f) (if (erN e).getD (k + 1) 0 = 0 then Int32.ofNat e else x2) (Int32.ofNat k) 1 (Int32.ofNat (e + 1)) (wP s r a) := by
  intro m
  induction m with
  | zero =>
    intro j n p h1 h2
    obtain ⟨n, rfl⟩ : ∃ q, n = q + 1 := ⟨n - 1, by omega⟩
    have ep : b01 (p ∧ ∀ q, j ≤ q → q ≤ k → (erN e).getD q 0 = gr (t.getD (f + q) 0)) = b01 p := b01_c ⟨fun z => z.1, fun z => ⟨z, fun q a b => by omega⟩⟩
    rw [dm203_33, if_pos ((nlt_iff (by omega) (by omega)).mpr (by omega)), ep]
    unfold dm203_58 dm203_61 dm203_72 dm203_73
    rw [ofNat_succ (n := k) (by omega), ofNat_succ (n := e) (by omega), d204 he (by omega)]
    simp only [bu_some]
    have n10 : ¬ (1 : Int32) = 0 := by decide
    have z00 : (0 : Int32) = 0 := rfl
    by_cases hp : p
    · rw [b01_t hp]
      have key : (if (1 : Int32) = 0 then k19 (Int32.ofNat f) x2 (Int32.ofNat k) 1 (Int32.ofNat (e + 1)) (wP s r a) else if (erN e).getD (k + 1) 0 = 0 then k19 (Int32.ofNat f) (Int32.ofNat e) (Int32.ofNat k) 1 (Int32.ofNat (e + 1)) (wP s r a) else k19 (Int32.ofNat f) x2 (Int32.ofNat k) 1 (Int32.ofNat (e + 1)) (wP s r a)) = k19 (Int32.ofNat f) (if (erN e).getD (k + 1) 0 = 0 then Int32.ofNat e else x2) (Int32.ofNat k) 1 (Int32.ofNat (e + 1)) (wP s r a) := by
        rw [if_neg n10]
        by_cases c : (erN e).getD (k + 1) 0 = 0
        · rw [if_pos c, if_pos c]
        · rw [if_neg c, if_neg c]
      rw [key]
      by_cases hQ : Q
      · rw [b01_t hQ, if_neg n10, if_neg n10]
      · rw [b01_f hQ, if_pos z00, if_neg n10, if_neg n10]
    · rw [b01_f hp]
      by_cases hQ : Q
      · rw [b01_t hQ, if_neg n10, if_pos z00, if_pos z00]
      · rw [b01_f hQ, if_pos z00, if_pos z00, if_pos z00, if_pos z00]
  | succ m ih =>
    intro j n p h1 h2
    obtain ⟨n, rfl⟩ : ∃ q, n = q + 1 := ⟨n - 1, by omega⟩
    rw [dm203_33, if_neg (fun q => by have := (nlt_iff (by omega) (by omega)).mp q; omega)]
    unfold dm203_50 dm203_51
    rw [iSum (by omega) (by omega), rch h (by omega), d204 he (by omega), ofNat_succ (n := j) (by omega)]
    simp only [bu_some, d178]
    have one : (1 : Int32) = b01 True := (b01_t trivial).symm
    have zer : (0 : Int32) = b01 False := (b01_f (fun q => q)).symm
    by_cases hp : p
    · rw [b01_t hp, if_neg (by decide)]
      by_cases g : (erN e).getD j 0 = gr (t.getD (f + j) 0)
      · rw [if_pos g]
        have := ih (j + 1) n True (by omega) (by omega)
        rw [b01_t trivial] at this
        rw [this]
        have ep : b01 (True ∧ ∀ q, j + 1 ≤ q → q ≤ k → (erN e).getD q 0 = gr (t.getD (f + q) 0)) = b01 (p ∧ ∀ q, j ≤ q → q ≤ k → (erN e).getD q 0 = gr (t.getD (f + q) 0)) := by
          refine b01_c ⟨fun z => ⟨hp, fun q a b => ?_⟩, fun z => ⟨trivial, fun q a b => z.2 q (by omega) b⟩⟩
          by_cases w : q = j
          · rw [w]; exact g
          · exact z.2 q (by omega) b
        rw [ep]
      · rw [if_neg g]
        have := ih (j + 1) n False (by omega) (by omega)
        rw [b01_f (fun q : False => q)] at this
        have nR : ¬ (p ∧ ∀ q, j ≤ q → q ≤ k → (erN e).getD q 0 = gr (t.getD (f + q) 0)) := fun z => g (z.2 j (Nat.le_refl _) (by omega))
        rw [this, b01_f (fun z : False ∧ _ => z.1), b01_f nR]
    · rw [b01_f hp, if_pos rfl]
      have := ih (j + 1) n False (by omega) (by omega)
      rw [b01_f (fun q : False => q)] at this
      have nR : ¬ (p ∧ ∀ q, j ≤ q → q ≤ k → (erN e).getD q 0 = gr (t.getD (f + q) 0)) := fun z => hp z.1
      rw [this, b01_f (fun z : False ∧ _ => z.1), b01_f nR]
def sameE (t : List Int32) (f k e : Nat) : Prop := f + k < t.length ∧ ∀ q, q ≤ k → (erN e).getD q 0 = gr (t.getD (f + q) 0)
set_option maxRecDepth 100000 in
noncomputable def fdE (t : List Int32) (f k : Nat) : Nat → Nat → Int32 → Int32
  | 0, _, x => x
  | m + 1, e, x => fdE t f k m (e + 1) (if b01 (sameE t f k e) = 0 then x else if (erN e).getD (k + 1) 0 = 0 then Int32.ofNat e else x)
set_option maxRecDepth 100000 in
theorem d203m {s : aS} {r : Nat → Int32} {t : List Int32} {k5 : Int32 → Int32 → aS → Option aS} {f k : Nat} (h : TX s r t) (hf : f ≤ 300) (hk : k ≤ 7) : ∀ (m e n : Nat) (x2 : Int32) (Q : Prop), e + m = 8 → m < n → dm203_19 k5 n (Int32.ofNat f) x2 (Int32.ofNat k) (b01 Q) (Int32.ofNat e) (wP s r (f + k)) = if b01 (Q ∨ ∃ e', e ≤ e' ∧ e' < 8 ∧ sameE t f k e') = 0 then k5 (Int32.ofNat f) (fdE t f k m e x2) (wP s (setN r 27 1) (f + k)) else k5 (Int32.ofNat f) (fdE t f k m e x2) (wP s r (f + k + 1)) := by
  have hl := h.1
  intro m
  induction m with
  | zero =>
    intro e n x2 Q h1 h2
    obtain ⟨n, rfl⟩ : ∃ q, n = q + 1 := ⟨n - 1, by omega⟩
    have ep : b01 (Q ∨ ∃ e', e ≤ e' ∧ e' < 8 ∧ sameE t f k e') = b01 Q := b01_c ⟨fun z => by
      rcases z with z | ⟨e', a, b, -⟩
      · exact z
      · omega, fun z => Or.inl z⟩
    rw [dm203_19, if_pos (show (8 : Int32) ≤ Int32.ofNat e from (nle_iff (a := 8) (by omega) (by omega)).mpr (by omega)), ep]
    unfold dm203_89
    simp only [wP_at, d186, bu_some, nx_eq]
    rw [ofNat_succ (by omega), wP_go]
    rfl
  | succ m ih =>
    intro e n x2 Q h1 h2
    obtain ⟨n, rfl⟩ : ∃ q, n = q + 1 := ⟨n - 1, by omega⟩
    have key : dm203_19 k5 (n + 1) (Int32.ofNat f) x2 (Int32.ofNat k) (b01 Q) (Int32.ofNat e) (wP s r (f + k)) = if b01 (sameE t f k e) = 0 then dm203_19 k5 n (Int32.ofNat f) x2 (Int32.ofNat k) (b01 Q) (Int32.ofNat (e + 1)) (wP s r (f + k)) else dm203_19 k5 n (Int32.ofNat f) (if (erN e).getD (k + 1) 0 = 0 then Int32.ofNat e else x2) (Int32.ofNat k) 1 (Int32.ofNat (e + 1)) (wP s r (f + k)) := by
      rw [dm203_19, if_neg (fun q => by have := (nle_iff (a := 8) (by omega) (by omega)).mp q; omega)]
      unfold dm203_30
      rw [h.len, wP_at]
      by_cases g : t.length ≤ f + k
      · rw [if_pos ((nle_iff (by omega) (by omega)).mpr g)]
        have := d203i (k5 := k5) (k19 := dm203_19 k5 n) (x2 := x2) (Q := Q) (a := f + k) h hf hk (show e < 8 by omega) (k + 1) 0 5000 False (by omega) (by omega)
        rw [b01_f (fun q : False => q)] at this
        rw [show (0 : Int32) = Int32.ofNat 0 from rfl] at this ⊢
        rw [this, b01_f (fun z : False ∧ _ => z.1), b01_f (fun z : sameE t f k e => by have := z.1; omega)]
      · rw [if_neg (fun q => g ((nle_iff (by omega) (by omega)).mp q))]
        have := d203i (k5 := k5) (k19 := dm203_19 k5 n) (x2 := x2) (Q := Q) (a := f + k) h hf hk (show e < 8 by omega) (k + 1) 0 5000 True (by omega) (by omega)
        rw [b01_t trivial] at this
        rw [show (0 : Int32) = Int32.ofNat 0 from rfl] at this ⊢
        rw [this]
        have ep : b01 (True ∧ ∀ q, 0 ≤ q → q ≤ k → (erN e).getD q (Int32.ofNat 0) = gr (t.getD (f + q) (Int32.ofNat 0))) = b01 (sameE t f k e) := b01_c ⟨fun z => ⟨by omega, fun q a => z.2 q (Nat.zero_le _) a⟩, fun z => ⟨trivial, fun q _ a => z.2 q a⟩⟩
        rw [ep]
    rw [key]
    by_cases g : sameE t f k e
    · rw [if_neg (fun q => b01_ne.mp q g)]
      have := ih (e + 1) n (if (erN e).getD (k + 1) 0 = 0 then Int32.ofNat e else x2) True (by omega) (by omega)
      rw [b01_t trivial] at this
      rw [this, b01_t (Or.inl trivial), b01_t (Or.inr ⟨e, Nat.le_refl _, by omega, g⟩)]
      show _ = if (1 : Int32) = 0 then _ else k5 (Int32.ofNat f) (fdE t f k m (e + 1) (if b01 (sameE t f k e) = 0 then x2 else if (erN e).getD (k + 1) 0 = 0 then Int32.ofNat e else x2)) (wP s r (f + k + 1))
      rw [if_neg (show ¬ (1 : Int32) = 0 by decide), if_neg (show ¬ (1 : Int32) = 0 by decide), if_neg (fun q => b01_ne.mp q g)]
    · rw [if_pos (b01_ne.mpr g), ih (e + 1) n x2 Q (by omega) (by omega)]
      have ep : b01 (Q ∨ ∃ e', e + 1 ≤ e' ∧ e' < 8 ∧ sameE t f k e') = b01 (Q ∨ ∃ e', e ≤ e' ∧ e' < 8 ∧ sameE t f k e') := by
        refine b01_c ⟨fun z => ?_, fun z => ?_⟩
        · rcases z with z | ⟨e', a, b, c⟩
          · exact Or.inl z
          · exact Or.inr ⟨e', by omega, b, c⟩
        · rcases z with z | ⟨e', a, b, c⟩
          · exact Or.inl z
          · by_cases w : e' = e
            · rw [w] at c; exact absurd c g
            · exact Or.inr ⟨e', by omega, b, c⟩
      have ef : fdE t f k (m + 1) e x2 = fdE t f k m (e + 1) x2 := by
        rw [fdE, if_pos (b01_ne.mpr g)]
      rw [ep, ef]
def someE (t : List Int32) (f k : Nat) : Prop := ∃ e, 1 ≤ e ∧ e < 8 ∧ sameE t f k e
set_option maxRecDepth 100000 in
noncomputable def erG (t : List Int32) (f : Nat) : Nat → Nat → Int32 × Nat
  | 0, k => (0, f + k)
  | m + 1, k => if b01 (someE t f k) = 0 then (0, f + k) else if fdE t f k 7 1 0 = 0 then erG t f m (k + 1) else (fdE t f k 7 1 0, f + k + 1)
set_option maxRecDepth 100000 in
theorem erN_len (e : Nat) : (erN e).length ≤ 7 := by
  unfold erN
  repeat' split
  all_goals decide
set_option maxRecDepth 100000 in
theorem gr_pos {x : Int32} (h : 32 ≤ x.toInt ∧ x.toInt ≤ 126) : ¬ gr x = 0 := by
  have l1 : x < 97 ↔ x.toInt < 97 := iLt
  have l2 : 122 < x ↔ 122 < x.toInt := iLt
  unfold gr
  intro q
  have q := iEq.mp q
  have q0 : (0 : Int32).toInt = 0 := rfl
  rw [q0] at q
  split at q
  · omega
  · split at q
    · omega
    · rename_i a b
      have a : ¬ x.toInt < 97 := fun z => a (l1.mpr z)
      have e : (x - 32).toInt = x.toInt - 32 := iSub (y := 32) (by show _ ≤ x.toInt - 32; omega) (by show x.toInt - 32 ≤ _; omega)
      omega
set_option maxRecDepth 100000 in
theorem someE_b {t : List Int32} {f k : Nat} (ho : okT t) (h : someE t f k) : k < 7 ∧ f + k < t.length := by
  obtain ⟨e, a, b, c, d⟩ := h
  refine ⟨?_, c⟩
  by_cases q : k < 7
  · exact q
  · exfalso
    have := d 7 (by omega)
    rw [getD_out (erN_len e), getD_in (show f + 7 < t.length by omega)] at this
    exact gr_pos (ho _ (List.getElem_mem _)) this.symm
set_option maxRecDepth 100000 in
theorem d203l {s : aS} {r : Nat → Int32} {t : List Int32} {f : Nat} (h : TX s r t) (ho : okT t) (hf : f ≤ t.length) (h27 : r 27 = 0) : ∀ (m k n : Nat), k + m = 8 → k ≤ 7 → m + 1 < n → dm203_5 n (Int32.ofNat f) 0 (wP s r (f + k)) = if (erG t f m k).1 = 0 then some (wP s (setN r 27 1) (erG t f m k).2) else dm203_90 (erG t f m k).1 (wP s r (erG t f m k).2) := by
  have hl := h.1
  intro m
  induction m with
  | zero =>
    intro k n h1 h2 h3
    omega
  | succ m ih =>
    intro k n h1 h2 h3
    obtain ⟨n, rfl⟩ : ∃ q, n = q + 2 := ⟨n - 2, by omega⟩
    have es : Int32.ofNat (f + k) - Int32.ofNat f = Int32.ofNat k := by
      rw [iEq, iSub (by rw [iOfNat (by omega), iOfNat (by omega)]; omega) (by rw [iOfNat (by omega), iOfNat (by omega)]; omega), iOfNat (by omega), iOfNat (by omega), iOfNat (by omega)]
      omega
    have w27 : sI (wP s r (f + k)) 121 27 = 0 := (wP_f (by decide)).trans h27
    have e1 : dm203_5 (n + 2) (Int32.ofNat f) 0 (wP s r (f + k)) = if b01 (someE t f k) = 0 then dm203_5 (n + 1) (Int32.ofNat f) (fdE t f k 7 1 0) (wP s (setN r 27 1) (f + k)) else dm203_5 (n + 1) (Int32.ofNat f) (fdE t f k 7 1 0) (wP s r (f + k + 1)) := by
      rw [dm203_5, if_pos rfl, w27, if_pos rfl, wP_at, es]
      have := d203m (k5 := dm203_5 (n + 1)) h (show f ≤ 300 by omega) h2 7 1 5000 0 False (by omega) (by omega)
      rw [b01_f (fun q : False => q)] at this
      have ep : b01 (False ∨ ∃ e', 1 ≤ e' ∧ e' < 8 ∧ sameE t f k e') = b01 (someE t f k) := b01_c ⟨fun z => z.resolve_left (fun q => q), fun z => Or.inr z⟩
      rw [ep] at this
      exact this
    rw [e1]
    by_cases g : someE t f k
    · have hb := someE_b ho g
      rw [if_neg (fun q => b01_ne.mp q g)]
      by_cases g2 : fdE t f k 7 1 0 = 0
      · have ee : erG t f (m + 1) k = erG t f m (k + 1) := by rw [erG, if_neg (fun q => b01_ne.mp q g), if_pos g2]
        rw [ee, g2]
        exact ih (k + 1) (n + 1) (by omega) (by omega) (by omega)
      · have ee : erG t f (m + 1) k = (fdE t f k 7 1 0, f + k + 1) := by rw [erG, if_neg (fun q => b01_ne.mp q g), if_neg g2]
        rw [ee, if_neg g2, dm203_5, if_neg g2]
    · rw [if_pos (b01_ne.mpr g)]
      have ee : erG t f (m + 1) k = (0, f + k) := by rw [erG, if_pos (b01_ne.mpr g)]
      have w1 : sI (wP s (setN r 27 1) (f + k)) 121 27 = 1 := (wP_f (by decide)).trans (if_pos rfl)
      rw [ee, if_pos rfl, dm203_5]
      unfold dm203_90
      rw [w1, if_neg (show ¬ (1 : Int32) = 0 by decide), if_neg (show ¬ (1 : Int32) = 0 by decide), ite_self]
set_option maxRecDepth 100000 in
theorem erG_b {t : List Int32} {f : Nat} (ho : okT t) : ∀ (m k : Nat), f + k ≤ t.length → (erG t f m k).2 ≤ t.length ∧ (¬ (erG t f m k).1 = 0 → f + k < (erG t f m k).2)
  | 0, k, h => ⟨h, fun q => absurd rfl q⟩
  | m + 1, k, h => by
    rw [erG]
    by_cases g : someE t f k
    · have hb := someE_b ho g
      rw [if_neg (fun q => b01_ne.mp q g)]
      by_cases g2 : fdE t f k 7 1 0 = 0
      · rw [if_pos g2]
        have := erG_b (f := f) ho m (k + 1) (by omega)
        exact ⟨this.1, fun q => by have := this.2 q; omega⟩
      · rw [if_neg g2]
        exact ⟨by show f + k + 1 ≤ _; omega, fun _ => by show f + k < f + k + 1; omega⟩
    · rw [if_pos (b01_ne.mpr g)]
      exact ⟨h, fun q => absurd rfl q⟩
end
section
/-! nodes made, held, pushed, taken, in the reference -/
set_option maxRecDepth 100000 in
theorem aB_of {i n : Nat} (h : i < n) (hn : n < 1000000) : aB (Int32.ofNat i) n := by
  rw [aB_iff, iOfNat (by omega)]
  omega
def mkN (s : aS) (m : Nat) (x : Int32) : aS := wI (wI (wI (wI (wI (wI (wI (wI (wI (wI (wI (wI (wI (wI s 128 (1024 + m) x) 129 (1024 + m) 0) 130 (1024 + m) (-1)) 131 (1024 + m) 0) 132 (1024 + m) 0) 133 (1024 + m) 0) 134 (1024 + m) 0) 135 (1024 + m) 0) 136 (1024 + m) 0) 137 (1024 + m) 0) 138 (1024 + m) 0) 140 m (-1)) 141 m (-1)) 142 m (-1)
set_option maxRecDepth 100000 in
theorem d187 {s : aS} {r : Nat → Int32} {i m : Nat} {x : Int32} (hm : r 21 = Int32.ofNat m) (h8 : m < 128) : dm187 x (wP s r i) = some (Int32.ofNat m, wP (mkN s m x) (setN r 21 (Int32.ofNat (m + 1))) i) := by
  have b1 : aB (Int32.ofNat (1024 + m)) 1152 := aB_of (by omega) (by omega)
  have b2 : aB (Int32.ofNat m) 128 := aB_of (by omega) (by omega)
  have e1 : (1024 : Int32) + Int32.ofNat m = Int32.ofNat (1024 + m) := iSum (i := 1024) (j := m) (by omega) (by omega)
  have e2 : sI (wP s r i) 121 21 = Int32.ofNat m := (wP_f (by decide)).trans hm
  unfold dm187
  simp only [e2, e1, if_pos b1, if_pos b2, jN_of (show 1024 + m < 2147483648 by omega), jN_of (show m < 2147483648 by omega), nx_eq]
  rw [wP_wI (by decide), wP_wI (by decide), wP_wI (by decide), wP_wI (by decide), wP_wI (by decide), wP_wI (by decide), wP_wI (by decide), wP_wI (by decide), wP_wI (by decide), wP_wI (by decide), wP_wI (by decide), wP_wI (by decide), wP_wI (by decide), wP_wI (by decide), wP_f (by decide), hm, ofNat_succ (by omega), wP_set (by decide)]
  rfl
set_option maxRecDepth 100000 in
theorem mk_w {s : aS} {m : Nat} {x : Int32} {w : Nat} (hw : w < 11) : sI (mkN s m x) (128 + w) (1024 + m) = plF x 0 w := by
  unfold mkN
  simp only [sI_wI]
  match w, hw with
  | 0, _ => rw [if_neg (by omega), if_neg (by omega), if_neg (by omega), if_neg (by omega), if_neg (by omega), if_neg (by omega), if_neg (by omega), if_neg (by omega), if_neg (by omega), if_neg (by omega), if_neg (by omega), if_neg (by omega), if_neg (by omega), if_pos (by simp)]; rfl
  | 1, _ => rw [if_neg (by omega), if_neg (by omega), if_neg (by omega), if_neg (by omega), if_neg (by omega), if_neg (by omega), if_neg (by omega), if_neg (by omega), if_neg (by omega), if_neg (by omega), if_neg (by omega), if_neg (by omega), if_pos (by simp)]; rfl
  | 2, _ => rw [if_neg (by omega), if_neg (by omega), if_neg (by omega), if_neg (by omega), if_neg (by omega), if_neg (by omega), if_neg (by omega), if_neg (by omega), if_neg (by omega), if_neg (by omega), if_neg (by omega), if_pos (by simp)]; rfl
  | 3, _ => rw [if_neg (by omega), if_neg (by omega), if_neg (by omega), if_neg (by omega), if_neg (by omega), if_neg (by omega), if_neg (by omega), if_neg (by omega), if_neg (by omega), if_neg (by omega), if_pos (by simp)]; rfl
  | 4, _ => rw [if_neg (by omega), if_neg (by omega), if_neg (by omega), if_neg (by omega), if_neg (by omega), if_neg (by omega), if_neg (by omega), if_neg (by omega), if_neg (by omega), if_pos (by simp)]; rfl
  | 5, _ => rw [if_neg (by omega), if_neg (by omega), if_neg (by omega), if_neg (by omega), if_neg (by omega), if_neg (by omega), if_neg (by omega), if_neg (by omega), if_pos (by simp)]; rfl
  | 6, _ => rw [if_neg (by omega), if_neg (by omega), if_neg (by omega), if_neg (by omega), if_neg (by omega), if_neg (by omega), if_neg (by omega), if_pos (by simp)]; rfl
  | 7, _ => rw [if_neg (by omega), if_neg (by omega), if_neg (by omega), if_neg (by omega), if_neg (by omega), if_neg (by omega), if_pos (by simp)]; rfl
  | 8, _ => rw [if_neg (by omega), if_neg (by omega), if_neg (by omega), if_neg (by omega), if_neg (by omega), if_pos (by simp)]; rfl
  | 9, _ => rw [if_neg (by omega), if_neg (by omega), if_neg (by omega), if_neg (by omega), if_pos (by simp)]; rfl
  | 10, _ => rw [if_neg (by omega), if_neg (by omega), if_neg (by omega), if_pos (by simp)]; rfl
set_option maxRecDepth 100000 in
theorem mk_k {s : aS} {m : Nat} {x : Int32} {a : Nat} (ha : a = 140 ∨ a = 141 ∨ a = 142) : sI (mkN s m x) a m = -1 := by
  unfold mkN
  simp only [sI_wI]
  rcases ha with rfl | rfl | rfl
  · rw [if_neg (by omega), if_neg (by omega), if_pos (by simp)]
  · rw [if_neg (by omega), if_pos (by simp)]
  · rw [if_pos (by simp)]
set_option maxRecDepth 100000 in
theorem mk_c (s : aS) (m : Nat) (x : Int32) : ch (fun a k => ((128 ≤ a ∧ a ≤ 138) ∧ k = 1024 + m) ∨ ((140 ≤ a ∧ a ≤ 142) ∧ k = m)) s (mkN s m x) := by
  unfold mkN
  exact ((((((((((((((ch.refl _ s).wI (by omega)).wI (by omega)).wI (by omega)).wI (by omega)).wI (by omega)).wI (by omega)).wI (by omega)).wI (by omega)).wI (by omega)).wI (by omega)).wI (by omega)).wI (by omega)).wI (by omega)).wI (by omega)
set_option maxRecDepth 100000 in
theorem d188 {s : aS} {r : Nat → Int32} {i w : Nat} {x y : Int32} (hw : r 32 = Int32.ofNat w) (h8 : w < 300) : dm188 x y (wP s r i) = some (wP (wI (wI s 145 w x) 146 w y) (setN r 32 (Int32.ofNat (w + 1))) i) := by
  have b1 : aB (Int32.ofNat w) 300 := aB_of h8 (by omega)
  unfold dm188
  simp only [nx_eq, wP_f (show (32 : Nat) ≠ 26 by decide), hw, if_pos b1, jN_of (show w < 2147483648 by omega)]
  rw [wP_wI (by decide)]
  simp only [wP_f (show (32 : Nat) ≠ 26 by decide), hw, if_pos b1, jN_of (show w < 2147483648 by omega)]
  rw [wP_wI (by decide), wP_f (by decide), hw, ofNat_succ (by omega), wP_set (by decide)]
set_option maxRecDepth 100000 in
theorem d194 {s : aS} {r : Nat → Int32} {i c : Nat} {x : Int32} (hc : r 29 = Int32.ofNat c) (h8 : c < 130) : dm194 x (wP s r i) = some (wP (wI s 144 c x) (setN r 29 (Int32.ofNat (c + 1))) i) := by
  have b1 : aB (Int32.ofNat c) 130 := aB_of h8 (by omega)
  unfold dm194
  simp only [nx_eq, wP_f (show (29 : Nat) ≠ 26 by decide), hc, if_pos b1, jN_of (show c < 2147483648 by omega)]
  rw [wP_wI (by decide), wP_f (by decide), hc, ofNat_succ (by omega), wP_set (by decide)]
set_option maxRecDepth 100000 in
theorem d192 {s : aS} {r : Nat → Int32} {i c : Nat} (hc : r 29 = Int32.ofNat (c + 1)) (h8 : c < 130) : dm192 (wP s r i) = some (sI s 144 c, wP s (setN r 29 (Int32.ofNat c)) i) := by
  have b1 : aB (Int32.ofNat c) 130 := aB_of h8 (by omega)
  have e : Int32.ofNat (c + 1) - 1 = Int32.ofNat c := by
    have := ofNat_sub1 (n := c + 1) (by omega) (by omega)
    exact this
  unfold dm192
  simp only [nx_eq, wP_f (show (29 : Nat) ≠ 26 by decide), hc, e]
  rw [wP_set (by decide), wP_f (by decide)]
  have e2 : setN r 29 (Int32.ofNat c) 29 = Int32.ofNat c := if_pos rfl
  simp only [e2, if_pos b1, jN_of (show c < 2147483648 by omega)]
  rw [wP_n (by decide)]
set_option maxRecDepth 100000 in
/-- a child put behind the others: the first one, or one behind the last -/
theorem d193a {s : aS} {r : Nat → Int32} {i p c : Nat} {v : Int32} (hp : p < 128) (h0 : sI s 140 p = -1) (hk : sI s 129 (1024 + p) = v) : dm193 (Int32.ofNat p) (Int32.ofNat c) (wP s r i) = some (wP (wI (wI (wI s 140 p (Int32.ofNat c)) 141 p (Int32.ofNat c)) 129 (1024 + p) (v + 1)) r i) := by
  have b1 : aB (Int32.ofNat p) 128 := aB_of hp (by omega)
  have b2 : aB (Int32.ofNat (1024 + p)) 1152 := aB_of (by omega) (by omega)
  have e1 : (1024 : Int32) + Int32.ofNat p = Int32.ofNat (1024 + p) := iSum (i := 1024) (j := p) (by omega) (by omega)
  unfold dm193 dm193_19
  simp only [if_pos b1, jN_of (show p < 2147483648 by omega), wP_n (show (140 : Nat) ≠ 121 by decide), h0, nx_eq, e1, if_pos b2, jN_of (show 1024 + p < 2147483648 by omega)]
  rw [if_neg (by decide), wP_wI (by decide), wP_wI (by decide), wP_n (by decide), sI_wI, if_neg (by omega), sI_wI, if_neg (by omega), hk, wP_wI (by decide)]
set_option maxRecDepth 100000 in
theorem d193b {s : aS} {r : Nat → Int32} {i p c q z : Nat} {v : Int32} (hp : p < 128) (hz : sI s 140 p = Int32.ofNat z) (hzb : z < 128) (hq : sI s 141 p = Int32.ofNat q) (hqb : q < 128) (hk : sI s 129 (1024 + p) = v) : dm193 (Int32.ofNat p) (Int32.ofNat c) (wP s r i) = some (wP (wI (wI (wI s 142 q (Int32.ofNat c)) 141 p (Int32.ofNat c)) 129 (1024 + p) (v + 1)) r i) := by
  have b1 : aB (Int32.ofNat p) 128 := aB_of hp (by omega)
  have b3 : aB (Int32.ofNat q) 128 := aB_of hqb (by omega)
  have b2 : aB (Int32.ofNat (1024 + p)) 1152 := aB_of (by omega) (by omega)
  have e1 : (1024 : Int32) + Int32.ofNat p = Int32.ofNat (1024 + p) := iSum (i := 1024) (j := p) (by omega) (by omega)
  unfold dm193 dm193_19
  simp only [if_pos b1, jN_of (show p < 2147483648 by omega), wP_n (show (140 : Nat) ≠ 121 by decide), wP_n (show (141 : Nat) ≠ 121 by decide), hz, hq, if_pos b3, jN_of (show q < 2147483648 by omega), nx_eq, e1, if_pos b2, jN_of (show 1024 + p < 2147483648 by omega)]
  rw [if_pos (show (0 : Int32) ≤ Int32.ofNat z from (nle_iff (a := 0) (by omega) (by omega)).mpr (Nat.zero_le _)), wP_wI (by decide), wP_wI (by decide), wP_n (by decide), sI_wI, if_neg (by omega), sI_wI, if_neg (by omega), hk, wP_wI (by decide)]
/-- letters kept with a node -/
def kpF (g : Int32) (x : Int32) : Int32 := if g = 0 then x else gr x
set_option maxRecDepth 100000 in
theorem d200l {t : List Int32} {e : Nat} {g : Int32} (he : e ≤ t.length) : ∀ (m j n : Nat) (s : aS) (r : Nat → Int32), TX s r t → j + m = e → m < n → ∃ s', dm200_19 n g (Int32.ofNat j) (wP s r e) = some (wP s' r e) ∧ (∀ q, j ≤ q → q < e → sI s' 139 (2048 + q) = kpF g (t.getD q 0)) ∧ ch (fun a k => a = 139 ∧ 2048 + j ≤ k ∧ k < 2048 + e) s s' := by
  intro m
  induction m with
  | zero =>
    intro j n s r h h1 h2
    have hl := h.1
    obtain ⟨n, rfl⟩ : ∃ q, n = q + 1 := ⟨n - 1, by omega⟩
    rw [dm200_19, wP_at, if_pos ((nle_iff (by omega) (by omega)).mpr (by omega))]
    exact ⟨s, rfl, fun q a b => by omega, ch.refl _ s⟩
  | succ m ih =>
    intro j n s r h h1 h2
    have hl := h.1
    obtain ⟨n, rfl⟩ : ∃ q, n = q + 1 := ⟨n - 1, by omega⟩
    have b1 : aB (Int32.ofNat j) 256 := aB_of (by omega) (by omega)
    have b2 : aB (Int32.ofNat (2048 + j)) 2304 := aB_of (by omega) (by omega)
    have e1 : (2048 : Int32) + Int32.ofNat j = Int32.ofNat (2048 + j) := iSum (i := 2048) (j := j) (by omega) (by omega)
    have e2 : dm200_19 (n + 1) g (Int32.ofNat j) (wP s r e) = dm200_19 n g (Int32.ofNat (j + 1)) (wP (wI s 139 (2048 + j) (kpF g (t.getD j 0))) r e) := by
      rw [dm200_19, wP_at, if_neg (fun q => by have := (nle_iff (by omega) (by omega)).mp q; omega)]
      unfold dm200_40 kpF
      simp only [if_pos b1, jN_of (show j < 2147483648 by omega), tx_at h (show j < t.length by omega), d178, bu_some, e1, if_pos b2, jN_of (show 2048 + j < 2147483648 by omega), nx_eq]
      rw [wP_wI (by decide), wP_wI (by decide), ofNat_succ (by omega)]
      by_cases c : g = 0
      · rw [if_pos c, if_pos c]
      · rw [if_neg c, if_neg c]
    obtain ⟨s', a1, a2, a3⟩ := ih (j + 1) n (wI s 139 (2048 + j) (kpF g (t.getD j 0))) r (h.wr (by decide)) (by omega) (by omega)
    refine ⟨s', by rw [e2]; exact a1, fun q b c => ?_, (((ch.refl (fun a k => a = 139 ∧ 2048 + j ≤ k ∧ k < 2048 + e) s).wI ⟨rfl, by omega, by omega⟩).trans (a3.mono fun a k z => by omega))⟩
    by_cases w : q = j
    · subst w
      rw [a3.i (by omega), sI_wI, if_pos ⟨rfl, rfl⟩]
    · exact a2 q (by omega) c
set_option maxRecDepth 100000 in
theorem d200 {s : aS} {r : Nat → Int32} {t : List Int32} {p f e : Nat} {g : Int32} (h : TX s r t) (hp : p < 128) (hf : f ≤ e) (he : e ≤ t.length) : ∃ s', dm200 (Int32.ofNat p) (Int32.ofNat f) g (wP s r e) = some (wP s' r e) ∧ sI s' 137 (1024 + p) = Int32.ofNat f ∧ sI s' 138 (1024 + p) = Int32.ofNat (e - f) ∧ (∀ q, f ≤ q → q < e → sI s' 139 (2048 + q) = kpF g (t.getD q 0)) ∧ ch (fun a k => ((a = 137 ∨ a = 138) ∧ k = 1024 + p) ∨ (a = 139 ∧ 2048 + f ≤ k ∧ k < 2048 + e)) s s' := by
  have hl := h.1
  have b2 : aB (Int32.ofNat (1024 + p)) 1152 := aB_of (by omega) (by omega)
  have e1 : (1024 : Int32) + Int32.ofNat p = Int32.ofNat (1024 + p) := iSum (i := 1024) (j := p) (by omega) (by omega)
  have es : Int32.ofNat e - Int32.ofNat f = Int32.ofNat (e - f) := by
    rw [iEq, iSub (by rw [iOfNat (by omega), iOfNat (by omega)]; omega) (by rw [iOfNat (by omega), iOfNat (by omega)]; omega), iOfNat (by omega), iOfNat (by omega), iOfNat (by omega)]
    omega
  have e2 : dm200 (Int32.ofNat p) (Int32.ofNat f) g (wP s r e) = dm200_19 5000 g (Int32.ofNat f) (wP (wI (wI s 137 (1024 + p) (Int32.ofNat f)) 138 (1024 + p) (Int32.ofNat (e - f))) r e) := by
    unfold dm200
    simp only [e1, if_pos b2, jN_of (show 1024 + p < 2147483648 by omega), nx_eq]
    rw [wP_wI (by decide), wP_at, es, wP_wI (by decide)]
  obtain ⟨s', a1, a2, a3⟩ := d200l (g := g) he (e - f) f 5000 (wI (wI s 137 (1024 + p) (Int32.ofNat f)) 138 (1024 + p) (Int32.ofNat (e - f))) r ((h.wr (by decide)).wr (by decide)) (by omega) (by omega)
  refine ⟨s', by rw [e2]; exact a1, ?_, ?_, a2, (((ch.refl _ s).wI (Or.inl ⟨Or.inl rfl, rfl⟩)).wI (Or.inl ⟨Or.inr rfl, rfl⟩)).trans (a3.mono fun a k z => Or.inr z)⟩
  · rw [a3.i (by omega), sI_wI, if_neg (by omega), sI_wI, if_pos ⟨rfl, rfl⟩]
  · rw [a3.i (by omega), sI_wI, if_pos ⟨rfl, rfl⟩]
end
section
/-! trees of nodes as the reference holds them: a list of nodes in their order, each with its number, what is told of it and its letters -/
abbrev NN : Type := Nat × Nd × List Int32
def RLe (s : aS) (e p : Nat) (w : List Int32) : Prop := ∃ st, sI s 137 p = Int32.ofNat st ∧ sI s 138 p = Int32.ofNat w.length ∧ st + w.length ≤ e ∧ ∀ j (h : j < w.length), sI s 139 (2048 + st + j) = w[j]
def NMe (s : aS) (e p : Nat) (kd : Int32) (l : List Int32) : Prop := ((kd = 0 ∨ kd = 6 ∨ kd = 7) → RLe s e p l) ∧ (kd = 1 → RLe s e p (34 :: (dbl l ++ [34]))) ∧ (¬ (kd = 0 ∨ kd = 1 ∨ kd = 6 ∨ kd = 7) → l = [])
def NR (s : aS) (e : Nat) (n : NN) : Prop := (∀ w, w < 9 → sI s (128 + w) (1024 + n.1) = n.2.1 w) ∧ NMe s e (1024 + n.1) (n.2.1 0) n.2.2
def nch (s : aS) : Int32 → List Nat → Prop
  | x, [] => x = -1
  | x, k :: r => x = Int32.ofNat k ∧ k < 128 ∧ nch s (sI s 142 k) r
def HF (s : aS) (e : Nat) : List NN → List Nat → Prop
  | [], ids => ids = []
  | n :: L, ids => ∃ r ks, ids = n.1 :: r ∧ n.1 < 128 ∧ NR s e n ∧ nch s (sI s 140 n.1) ks ∧ n.2.1 1 = Int32.ofNat ks.length ∧ HF s e L (ks ++ r)
def idL (L : List NN) : List Nat := L.map (fun n => n.1)
set_option maxRecDepth 100000 in
theorem idL_ap (L M : List NN) : idL (L ++ M) = idL L ++ idL M := List.map_append
set_option maxRecDepth 100000 in
theorem HF.sub {s : aS} {e : Nat} : ∀ (L : List NN) (ids : List Nat), HF s e L ids → ∀ k ∈ ids, k ∈ idL L
  | [], ids, h, k, hk => by
    have h : ids = [] := h
    rw [h] at hk
    cases hk
  | n :: L, ids, h, k, hk => by
    obtain ⟨r, ks, e1, e2, e3, e4, e5, e6⟩ := h
    rw [e1] at hk
    rcases List.mem_cons.mp hk with q | q
    · exact q ▸ List.mem_cons_self
    · exact List.mem_cons_of_mem _ (HF.sub L _ e6 k (List.mem_append_right _ q))
set_option maxRecDepth 100000 in
theorem HF.nd {s : aS} {e : Nat} : ∀ (L : List NN) (ids : List Nat), HF s e L ids → (idL L).Nodup → ids.Nodup
  | [], ids, h, _ => by
    have h : ids = [] := h
    rw [h]
    exact List.nodup_nil
  | n :: L, ids, h, hn => by
    obtain ⟨r, ks, e1, e2, e3, e4, e5, e6⟩ := h
    have hn : (n.1 :: idL L).Nodup := hn
    rw [List.nodup_cons] at hn
    have h1 := HF.nd L _ e6 hn.2
    rw [e1, List.nodup_cons]
    refine ⟨fun q => hn.1 (HF.sub L _ e6 _ (List.mem_append_right _ q)), (List.nodup_append.mp h1).2.1⟩
set_option maxRecDepth 100000 in
theorem HF.ap {s : aS} {e : Nat} : ∀ (L M : List NN) (i j : List Nat), HF s e L i → HF s e M j → HF s e (L ++ M) (i ++ j)
  | [], M, i, j, h, g => by
    have h : i = [] := h
    rw [h]
    exact g
  | n :: L, M, i, j, h, g => by
    obtain ⟨r, ks, e1, e2, e3, e4, e5, e6⟩ := h
    refine ⟨r ++ j, ks, by rw [e1]; rfl, e2, e3, e4, e5, ?_⟩
    rw [← List.append_assoc]
    exact HF.ap L M _ _ e6 g
/-- a node is left as it is -/
def kep (s s' : aS) (e id : Nat) : Prop := (∀ w, w < 11 → sI s' (128 + w) (1024 + id) = sI s (128 + w) (1024 + id)) ∧ sI s' 140 id = sI s 140 id
set_option maxRecDepth 100000 in
theorem RLe.of {s s' : aS} {e e' id : Nat} {w : List Int32} (h : RLe s e (1024 + id) w) (hk : kep s s' e id) (hl : ∀ q, q < e → sI s' 139 (2048 + q) = sI s 139 (2048 + q)) (he : e ≤ e') : RLe s' e' (1024 + id) w := by
  obtain ⟨st, a1, a2, a3, a4⟩ := h
  refine ⟨st, (hk.1 9 (by decide)).trans a1, (hk.1 10 (by decide)).trans a2, by omega, fun j hj => ?_⟩
  have := hl (st + j) (by omega)
  rw [show 2048 + st + j = 2048 + (st + j) by omega, this, show 2048 + (st + j) = 2048 + st + j by omega]
  exact a4 j hj
set_option maxRecDepth 100000 in
theorem NMe.of {s s' : aS} {e e' id : Nat} {kd : Int32} {l : List Int32} (h : NMe s e (1024 + id) kd l) (hk : kep s s' e id) (hl : ∀ q, q < e → sI s' 139 (2048 + q) = sI s 139 (2048 + q)) (he : e ≤ e') : NMe s' e' (1024 + id) kd l := ⟨fun q => (h.1 q).of hk hl he, fun q => (h.2.1 q).of hk hl he, h.2.2⟩
set_option maxRecDepth 100000 in
theorem NR.of {s s' : aS} {e e' : Nat} {n : NN} (h : NR s e n) (hk : kep s s' e n.1) (hl : ∀ q, q < e → sI s' 139 (2048 + q) = sI s 139 (2048 + q)) (he : e ≤ e') : NR s' e' n := ⟨fun w hw => (hk.1 w (by omega)).trans (h.1 w hw), h.2.of hk hl he⟩
set_option maxRecDepth 100000 in
theorem nch.of {s s' : aS} : ∀ (ks : List Nat) (x : Int32), nch s x ks → (∀ k ∈ ks, sI s' 142 k = sI s 142 k) → nch s' x ks
  | [], x, h, _ => h
  | k :: r, x, h, g => by
    refine ⟨h.1, h.2.1, ?_⟩
    rw [g k List.mem_cons_self]
    exact nch.of r _ h.2.2 (fun q hq => g q (List.mem_cons_of_mem _ hq))
set_option maxRecDepth 100000 in
theorem HF.of {s s' : aS} {e e' : Nat} (hl : ∀ q, q < e → sI s' 139 (2048 + q) = sI s 139 (2048 + q)) (he : e ≤ e') : ∀ (L : List NN) (ids : List Nat), HF s e L ids → (idL L).Nodup → (∀ k ∈ idL L, kep s s' e k) → (∀ k ∈ idL L, k ∉ ids → sI s' 142 k = sI s 142 k) → HF s' e' L ids
  | [], ids, h, _, _, _ => h
  | n :: L, ids, h, hn, hk, h2 => by
    have hnd := HF.nd (n :: L) ids h hn
    obtain ⟨r, ks, e1, e2, e3, e4, e5, e6⟩ := h
    have hn : (n.1 :: idL L).Nodup := hn
    rw [List.nodup_cons] at hn
    have hk : ∀ k ∈ n.1 :: idL L, kep s s' e k := hk
    have h2 : ∀ k ∈ n.1 :: idL L, k ∉ ids → sI s' 142 k = sI s 142 k := h2
    have h3 := HF.nd L _ e6 hn.2
    rw [List.nodup_append] at h3
    have hks : ∀ k ∈ ks, k ∈ idL L := fun k q => HF.sub L _ e6 k (List.mem_append_left _ q)
    refine ⟨r, ks, e1, e2, e3.of (hk _ List.mem_cons_self) hl he, ?_, e5, HF.of hl he L (ks ++ r) e6 hn.2 (fun k q => hk k (List.mem_cons_of_mem _ q)) (fun k q z => h2 k (List.mem_cons_of_mem _ q) ?_)⟩
    · rw [(hk _ List.mem_cons_self).2]
      refine nch.of ks _ e4 (fun k q => h2 k (List.mem_cons_of_mem _ (hks k q)) ?_)
      rw [e1]
      intro z
      rcases List.mem_cons.mp z with z | z
      · exact hn.1 (z ▸ hks k q)
      · exact h3.2.2 k q k z rfl
    · rw [e1]
      intro w
      rcases List.mem_cons.mp w with w | w
      · exact hn.1 (w ▸ q)
      · exact z (List.mem_append_right _ w)
set_option maxRecDepth 100000 in
/-- a chain with one more at its end -/
theorem nch.add {s s' : aS} {c : Nat} (hc : c < 128) (hc2 : sI s' 142 c = -1) : ∀ (ks : List Nat) (q : Nat) (x : Int32), nch s x (ks ++ [q]) → (ks ++ [q]).Nodup → (∀ k ∈ ks, sI s' 142 k = sI s 142 k) → sI s' 142 q = Int32.ofNat c → nch s' x (ks ++ [q] ++ [c])
  | [], q, x, h, _, _, h2 => ⟨h.1, h.2.1, h2, hc, hc2⟩
  | k :: ks, q, x, h, hn, h1, h2 => by
    have hn : (k :: (ks ++ [q])).Nodup := hn
    rw [List.nodup_cons] at hn
    refine ⟨h.1, h.2.1, ?_⟩
    rw [h1 k List.mem_cons_self]
    exact nch.add hc hc2 ks q _ h.2.2 hn.2 (fun z w => h1 z (List.mem_cons_of_mem _ w)) h2
set_option maxRecDepth 100000 in
theorem nch.lt {s : aS} : ∀ (ks : List Nat) (x : Int32), nch s x ks → ∀ k ∈ ks, k < 128
  | [], _, _, k, hk => by cases hk
  | q :: ks, x, h, k, hk => by
    rcases List.mem_cons.mp hk with e | e
    · exact e ▸ h.2.1
    · exact nch.lt ks _ h.2.2 k e
end
section
/-! what the reference holds while it reads: what waits (the last first), and the operand that was read last -/
abbrev Fw : Type := Int32 × NN × List NN × List Nat
def isB (x : Int32) : Prop := 11 ≤ x.toInt ∧ x.toInt ≤ 22
def FrOk (s : aS) (e : Nat) (f : Fw) : Prop := (f.1 = 100 ∧ f.2.2.1 = [] ∧ f.2.2.2 = []) ∨ (f.1 ≠ 100 ∧ f.2.1.2.1 0 = f.1 ∧ f.2.1.1 < 128 ∧ NR s e f.2.1 ∧ HF s e f.2.2.1 f.2.2.2 ∧ sI s 142 f.2.1.1 = -1 ∧ ((f.1 = 7 ∧ f.2.1.2.1 1 = Int32.ofNat f.2.2.2.length ∧ nch s (sI s 140 f.2.1.1) f.2.2.2 ∧ ∀ ks q, f.2.2.2 = ks ++ [q] → sI s 141 f.2.1.1 = Int32.ofNat q) ∨ (f.1 = 10 ∧ f.2.1.2.1 1 = 0 ∧ sI s 140 f.2.1.1 = -1 ∧ f.2.2.1 = [] ∧ f.2.2.2 = []) ∨ (isB f.1 ∧ f.2.1.2.1 1 = 0 ∧ sI s 140 f.2.1.1 = -1 ∧ ∃ c, f.2.2.2 = [c] ∧ sI s 142 c = -1)))
def frl (f : Fw) : List NN := if f.1 = 100 then [] else f.2.1 :: f.2.2.1
def fl : List Fw → List NN
  | [] => []
  | f :: F => fl F ++ frl f
set_option maxRecDepth 100000 in
noncomputable def nT : List Fw → Nat
  | [] => 0
  | f :: F => nT F + (if b01 (isB f.1) = 0 then 0 else 1)
def nO : List Fw → Nat
  | [] => 0
  | f :: F => nO F + (if f.1 = 100 ∨ f.1 = 7 then 1 else 0)
def WS (s : aS) : List Fw → Prop
  | [] => True
  | f :: F => sI s 145 F.length = f.1 ∧ (f.1 ≠ 100 → sI s 146 F.length = Int32.ofNat f.2.1.1) ∧ WS s F
def TS (s : aS) : List Fw → Prop
  | [] => True
  | f :: F => (isB f.1 → ∀ c, f.2.2.2 = [c] → sI s 144 (nT F) = Int32.ofNat c) ∧ TS s F
def PZ (s s' : aS) (e : Nat) (I : List Nat) : Prop := (∀ q, q < e → sI s' 139 (2048 + q) = sI s 139 (2048 + q)) ∧ ∀ k ∈ I, kep s s' e k ∧ sI s' 141 k = sI s 141 k ∧ sI s' 142 k = sI s 142 k
set_option maxRecDepth 100000 in
theorem PZ.sub {s s' : aS} {e : Nat} {I J : List Nat} (h : PZ s s' e I) (g : ∀ k ∈ J, k ∈ I) : PZ s s' e J := ⟨h.1, fun k hk => h.2 k (g k hk)⟩
set_option maxRecDepth 100000 in
theorem PZ.hf {s s' : aS} {e e' : Nat} {L : List NN} {ids : List Nat} (h : PZ s s' e (idL L)) (he : e ≤ e') (g : HF s e L ids) (hn : (idL L).Nodup) : HF s' e' L ids := HF.of h.1 he L ids g hn (fun k hk => (h.2 k hk).1) (fun k hk _ => (h.2 k hk).2.2)
set_option maxRecDepth 100000 in
theorem FrOk.of {s s' : aS} {e e' : Nat} {f : Fw} (h : FrOk s e f) (hn : (idL (frl f)).Nodup) (hp : PZ s s' e (idL (frl f))) (he : e ≤ e') : FrOk s' e' f := by
  rcases h with h | ⟨h0, h1, h2, h3, h4, h5, h6⟩
  · exact Or.inl h
  · right
    have ef : frl f = f.2.1 :: f.2.2.1 := if_neg h0
    rw [ef] at hn hp
    have hn : (f.2.1.1 :: idL f.2.2.1).Nodup := hn
    rw [List.nodup_cons] at hn
    have hpz : PZ s s' e (f.2.1.1 :: idL f.2.2.1) := hp
    obtain ⟨a1, a2, a3⟩ := hpz.2 _ List.mem_cons_self
    have hc : PZ s s' e (idL f.2.2.1) := hpz.sub fun k q => List.mem_cons_of_mem _ q
    refine ⟨h0, h1, h2, h3.of a1 hpz.1 he, hc.hf he h4 hn.2, a3.trans h5, ?_⟩
    rcases h6 with ⟨b1, b2, b3, b4⟩ | ⟨b1, b2, b3, b4⟩ | ⟨b1, b2, b3, c, b4, b5⟩
    · refine Or.inl ⟨b1, b2, ?_, fun ks q z => a2.trans (b4 ks q z)⟩
      rw [a1.2]
      exact nch.of _ _ b3 (fun k q => (hc.2 k (HF.sub _ _ h4 k q)).2.2)
    · exact Or.inr (Or.inl ⟨b1, b2, a1.2.trans b3, b4⟩)
    · refine Or.inr (Or.inr ⟨b1, b2, a1.2.trans b3, c, b4, ((hc.2 c (HF.sub _ _ h4 c (by rw [b4]; exact List.mem_cons_self))).2.2).trans b5⟩)
set_option maxRecDepth 100000 in
theorem WS.of {s s' : aS} : ∀ (F : List Fw), WS s F → (∀ q, q < F.length → sI s' 145 q = sI s 145 q ∧ sI s' 146 q = sI s 146 q) → WS s' F
  | [], _, _ => trivial
  | f :: F, h, g => by
    have g0 := g F.length (by simp)
    refine ⟨g0.1.trans h.1, fun z => g0.2.trans (h.2.1 z), WS.of F h.2.2 (fun q hq => g q (by simp only [List.length_cons]; omega))⟩
set_option maxRecDepth 100000 in
theorem TS.of {s s' : aS} : ∀ (F : List Fw), TS s F → (∀ q, q < nT F → sI s' 144 q = sI s 144 q) → TS s' F
  | [], _, _ => trivial
  | f :: F, h, g => by
    refine ⟨fun z c hc => ?_, TS.of F h.2 (fun q hq => g q (by show q < nT F + _; omega))⟩
    have e : nT (f :: F) = nT F + 1 := by
      show nT F + (if b01 (isB f.1) = 0 then 0 else 1) = _
      rw [if_neg (fun q => b01_ne.mp q z)]
    rw [g (nT F) (by omega)]
    exact h.1 z c hc
set_option maxRecDepth 100000 in
theorem fl_b : ∀ (F : List Fw), F.length ≤ (fl F).length + nO F ∧ nT F ≤ (fl F).length
  | [] => ⟨Nat.le_refl _, Nat.le_refl _⟩
  | f :: F => by
    have ih := fl_b F
    have e1 : (fl (f :: F)).length = (fl F).length + (frl f).length := List.length_append
    have e2 : nO (f :: F) = nO F + (if f.1 = 100 ∨ f.1 = 7 then 1 else 0) := rfl
    have e3 : nT (f :: F) = nT F + (if b01 (isB f.1) = 0 then 0 else 1) := rfl
    rw [e1, e2, e3, List.length_cons]
    unfold frl
    by_cases c : f.1 = 100
    · rw [if_pos c, if_pos (Or.inl c)]
      have nb : ¬ isB f.1 := by rw [c]; unfold isB; decide
      rw [if_pos (b01_ne.mpr nb)]
      exact ⟨by simp; omega, by simp; omega⟩
    · rw [if_neg c, List.length_cons]
      refine ⟨by omega, ?_⟩
      split <;> omega
/-- all of it -/
def GM (s : aS) (r : Nat → Int32) (e : Nat) (F : List Fw) (cur : List NN) : Prop := (r 21 = Int32.ofNat (fl F ++ cur).length ∧ (fl F ++ cur).length ≤ 128) ∧ r 32 = Int32.ofNat F.length ∧ (r 33 = Int32.ofNat (nO F) ∧ nO F ≤ 32) ∧ WS s F ∧ TS s F ∧ (∀ f ∈ F, FrOk s e f) ∧ ((idL (fl F ++ cur)).Nodup ∧ ∀ k ∈ idL (fl F ++ cur), k < (fl F ++ cur).length) ∧ ((cur = [] ∧ r 29 = Int32.ofNat (nT F)) ∨ ∃ c, HF s e cur [c] ∧ sI s 142 c = -1 ∧ sI s 144 (nT F) = Int32.ofNat c ∧ r 29 = Int32.ofNat (nT F + 1))
set_option maxRecDepth 100000 in
theorem fl_mem : ∀ (F : List Fw) (f : Fw), f ∈ F → ∀ k ∈ idL (frl f), k ∈ idL (fl F)
  | [], f, h, _, _ => by cases h
  | g :: F, f, h, k, hk => by
    have e : idL (fl (g :: F)) = idL (fl F) ++ idL (frl g) := idL_ap _ _
    rw [e]
    rcases List.mem_cons.mp h with q | q
    · exact List.mem_append_right _ (q ▸ hk)
    · exact List.mem_append_left _ (fl_mem F f q k hk)
set_option maxRecDepth 100000 in
theorem fl_nd : ∀ (F : List Fw) (f : Fw), f ∈ F → (idL (fl F)).Nodup → (idL (frl f)).Nodup
  | [], f, h, _ => by cases h
  | g :: F, f, h, hn => by
    have e : idL (fl (g :: F)) = idL (fl F) ++ idL (frl g) := idL_ap _ _
    rw [e, List.nodup_append] at hn
    rcases List.mem_cons.mp h with q | q
    · exact q ▸ hn.2.1
    · exact fl_nd F f q hn.1
set_option maxRecDepth 100000 in
theorem FrAll.of {s s' : aS} {e e' : Nat} {F : List Fw} (h : ∀ f ∈ F, FrOk s e f) (hn : (idL (fl F)).Nodup) (hp : PZ s s' e (idL (fl F))) (he : e ≤ e') : ∀ f ∈ F, FrOk s' e' f := fun f hf => (h f hf).of (fl_nd F f hf hn) (hp.sub fun k hk => fl_mem F f hf k hk) he
set_option maxRecDepth 100000 in
/-- a further place, other numbers that do not matter -/
theorem GM.at {s : aS} {r r' : Nat → Int32} {e e' : Nat} {F : List Fw} {cur : List NN} (h : GM s r e F cur) (he : e ≤ e') (h21 : r' 21 = r 21) (h29 : r' 29 = r 29) (h32 : r' 32 = r 32) (h33 : r' 33 = r 33) : GM s r' e' F cur := by
  obtain ⟨a1, a2, a3, a4, a5, a6, a7, a8⟩ := h
  have hnF : (idL (fl F)).Nodup := by
    have := a7.1
    rw [idL_ap, List.nodup_append] at this
    exact this.1
  have hnc : (idL cur).Nodup := by
    have := a7.1
    rw [idL_ap, List.nodup_append] at this
    exact this.2.1
  have pz : ∀ I, PZ s s e I := fun I => ⟨fun _ _ => rfl, fun _ _ => ⟨⟨fun _ _ => rfl, rfl⟩, rfl, rfl⟩⟩
  refine ⟨⟨h21.trans a1.1, a1.2⟩, h32.trans a2, ⟨h33.trans a3.1, a3.2⟩, a4, a5, FrAll.of a6 hnF (pz _) he, a7, ?_⟩
  rcases a8 with ⟨b1, b2⟩ | ⟨c, b1, b2, b3, b4⟩
  · exact Or.inl ⟨b1, h29.trans b2⟩
  · exact Or.inr ⟨c, (pz _).hf he b1 hnc, b2, b3, h29.trans b4⟩
end
section
/-! a child put to a node, in the reference -/
set_option maxRecDepth 100000 in
theorem d193 {s : aS} {p c : Nat} {roots : List Nat} (hp : p < 128) (hc : c < 128) (hch : nch s (sI s 140 p) roots) (hla : ∀ ks q, roots = ks ++ [q] → sI s 141 p = Int32.ofNat q) (hkd : sI s 129 (1024 + p) = Int32.ofNat roots.length) (hlen : roots.length ≤ 200) (hnd : roots.Nodup) (hcr : c ∉ roots) (hc2 : sI s 142 c = -1) : ∃ s', (∀ r i, dm193 (Int32.ofNat p) (Int32.ofNat c) (wP s r i) = some (wP s' r i)) ∧ nch s' (sI s' 140 p) (roots ++ [c]) ∧ sI s' 141 p = Int32.ofNat c ∧ sI s' 129 (1024 + p) = Int32.ofNat (roots.length + 1) ∧ sI s' 142 c = -1 ∧ ch (fun a k => (a = 140 ∧ k = p) ∨ (a = 141 ∧ k = p) ∨ (a = 129 ∧ k = 1024 + p) ∨ (a = 142 ∧ k ∈ roots)) s s' := by
  rcases List.eq_nil_or_concat roots with e | ⟨ks, q, e⟩
  · subst e
    have h0 : sI s 140 p = -1 := hch
    refine ⟨_, fun r i => d193a hp h0 hkd, ?_, ?_, ?_, ?_, (((ch.refl _ s).wI (Or.inl ⟨rfl, rfl⟩)).wI (Or.inr (Or.inl ⟨rfl, rfl⟩))).wI (Or.inr (Or.inr (Or.inl ⟨rfl, rfl⟩)))⟩
    · refine ⟨?_, hc, ?_⟩
      · rw [sI_wI, if_neg (by omega), sI_wI, if_neg (by omega), sI_wI, if_pos ⟨rfl, rfl⟩]
      · rw [sI_wI, if_neg (by omega), sI_wI, if_neg (by omega), sI_wI, if_neg (by omega)]
        exact hc2
    · rw [sI_wI, if_neg (by omega), sI_wI, if_pos ⟨rfl, rfl⟩]
    · rw [sI_wI, if_pos ⟨rfl, rfl⟩]
      exact ofNat_succ (n := 0) (by omega)
    · rw [sI_wI, if_neg (by omega), sI_wI, if_neg (by omega), sI_wI, if_neg (by omega)]
      exact hc2
  · rw [List.concat_eq_append] at e
    have hq : q ∈ roots := by rw [e]; exact List.mem_append_right _ List.mem_cons_self
    have hqb := nch.lt roots _ hch q hq
    have hqc : q ≠ c := fun z => hcr (z ▸ hq)
    obtain ⟨z, hz1, hz2⟩ : ∃ z, sI s 140 p = Int32.ofNat z ∧ z < 128 := by
      cases roots with
      | nil => cases hq
      | cons a b => exact ⟨a, hch.1, hch.2.1⟩
    have e142 : ∀ k, k ≠ q → sI (wI (wI (wI s 142 q (Int32.ofNat c)) 141 p (Int32.ofNat c)) 129 (1024 + p) (Int32.ofNat roots.length + 1)) 142 k = sI s 142 k := fun k hk => by
      rw [sI_wI, if_neg (by omega), sI_wI, if_neg (by omega), sI_wI, if_neg (fun z => hk z.2)]
    have hsub : ∀ k ∈ ks, k ≠ q := by
      intro k hk w
      rw [e, List.nodup_append] at hnd
      exact hnd.2.2 k hk q List.mem_cons_self w
    refine ⟨_, fun r i => d193b hp hz1 hz2 (hla ks q e) hqb hkd, ?_, ?_, ?_, ?_, (((ch.refl _ s).wI (Or.inr (Or.inr (Or.inr ⟨rfl, hq⟩)))).wI (Or.inr (Or.inl ⟨rfl, rfl⟩))).wI (Or.inr (Or.inr (Or.inl ⟨rfl, rfl⟩)))⟩
    · have e140 : sI (wI (wI (wI s 142 q (Int32.ofNat c)) 141 p (Int32.ofNat c)) 129 (1024 + p) (Int32.ofNat roots.length + 1)) 140 p = sI s 140 p := by
        rw [sI_wI, if_neg (by omega), sI_wI, if_neg (by omega), sI_wI, if_neg (by omega)]
      rw [e140]
      have hch2 := hch
      rw [e] at hch2 hnd
      rw [show roots ++ [c] = ks ++ [q] ++ [c] by rw [e]]
      refine nch.add hc ((e142 c (Ne.symm hqc)).trans hc2) ks q _ hch2 hnd (fun k hk => e142 k (hsub k hk)) ?_
      rw [sI_wI, if_neg (by omega), sI_wI, if_neg (by omega), sI_wI, if_pos ⟨rfl, rfl⟩]
    · rw [sI_wI, if_neg (by omega), sI_wI, if_pos ⟨rfl, rfl⟩]
    · rw [sI_wI, if_pos ⟨rfl, rfl⟩, ofNat_succ (by omega)]
    · exact (e142 c (Ne.symm hqc)).trans hc2
def attA (p : Nat) (roots : List Nat) (a k : Nat) : Prop := (a = 140 ∧ k = p) ∨ (a = 141 ∧ k = p) ∨ (a = 129 ∧ k = 1024 + p) ∨ (a = 142 ∧ k ∈ roots)
set_option maxRecDepth 100000 in
theorem att_k {s s' : aS} {p e k : Nat} {roots : List Nat} (h : ch (attA p roots) s s') (hk : k ≠ p) : kep s s' e k ∧ sI s' 141 k = sI s 141 k := by
  refine ⟨⟨fun w hw => h.i ?_, h.i ?_⟩, h.i ?_⟩
  all_goals
    unfold attA
    omega
set_option maxRecDepth 100000 in
theorem att_n {s s' : aS} {p k : Nat} {roots : List Nat} (h : ch (attA p roots) s s') (hk : k ∉ roots) : sI s' 142 k = sI s 142 k := by
  refine h.i ?_
  unfold attA
  rintro (q | q | q | q)
  · omega
  · omega
  · omega
  · exact hk q.2
set_option maxRecDepth 100000 in
theorem att_l {s s' : aS} {p q : Nat} {roots : List Nat} (h : ch (attA p roots) s s') : sI s' 139 (2048 + q) = sI s 139 (2048 + q) := by
  refine h.i ?_
  unfold attA
  omega
set_option maxRecDepth 100000 in
theorem NR.att {s s' : aS} {e p : Nat} {d : Nd} {l : List Int32} {roots : List Nat} {v : Int32} (h : NR s e (p, d, l)) (hc : ch (attA p roots) s s') (hv : sI s' 129 (1024 + p) = v) : NR s' e (p, setN d 1 v, l) := by
  have row : ∀ w, w ≠ 1 → sI s' (128 + w) (1024 + p) = sI s (128 + w) (1024 + p) ∨ 11 ≤ w := by
    intro w hw
    by_cases g : 11 ≤ w
    · exact Or.inr g
    · left
      refine hc.i ?_
      unfold attA
      omega
  refine ⟨fun w hw => ?_, ?_⟩
  · by_cases g : w = 1
    · subst g
      exact hv
    · show sI s' (128 + w) (1024 + p) = setN d 1 v w
      rw [show setN d 1 v w = d w from if_neg g]
      rcases row w g with z | z
      · exact z.trans (h.1 w hw)
      · omega
  · have h2 : NMe s e (1024 + p) (d 0) l := h.2
    show NMe s' e (1024 + p) (d 0) l
    have rl : ∀ w, RLe s e (1024 + p) w → RLe s' e (1024 + p) w := by
      rintro w ⟨st, a1, a2, a3, a4⟩
      refine ⟨st, ?_, ?_, a3, fun j hj => ?_⟩
      · rcases row 9 (by decide) with z | z
        · exact z.trans a1
        · omega
      · rcases row 10 (by decide) with z | z
        · exact z.trans a2
        · omega
      · have := att_l (q := st + j) hc
        rw [show 2048 + st + j = 2048 + (st + j) by omega, this, show 2048 + (st + j) = 2048 + st + j by omega]
        exact a4 j hj
    exact ⟨fun q => rl _ (h2.1 q), fun q => rl _ (h2.2.1 q), h2.2.2⟩
set_option maxRecDepth 100000 in
/-- a node with its children so far, and one more: a tree -/
theorem HF.att {s s' : aS} {e p c : Nat} {d : Nd} {l : List Int32} {C cur : List NN} {roots : List Nat} (hp : p < 128) (h : NR s e (p, d, l)) (hC : HF s e C roots) (hcur : HF s e cur [c]) (hnd : (p :: (idL C ++ idL cur)).Nodup) (hc : ch (attA p roots) s s') (hv : sI s' 129 (1024 + p) = Int32.ofNat (roots.length + 1)) (hn : nch s' (sI s' 140 p) (roots ++ [c])) : HF s' e ((p, setN d 1 (Int32.ofNat (roots.length + 1)), l) :: (C ++ cur)) [p] ∧ HF s' e (C ++ cur) (roots ++ [c]) := by
  rw [List.nodup_cons] at hnd
  obtain ⟨n1, n2⟩ := hnd
  rw [List.nodup_append] at n2
  have k1 : ∀ k ∈ idL C, k ≠ p := fun k q z => n1 (List.mem_append_left _ (z ▸ q))
  have k2 : ∀ k ∈ idL cur, k ≠ p := fun k q z => n1 (List.mem_append_right _ (z ▸ q))
  have b1 : HF s' e C roots := HF.of (fun q _ => att_l hc) (Nat.le_refl _) C roots hC n2.1 (fun k q => (att_k hc (k1 k q)).1) (fun k _ z => att_n hc z)
  have b2 : HF s' e cur [c] := HF.of (fun q _ => att_l hc) (Nat.le_refl _) cur [c] hcur n2.2.1 (fun k q => (att_k hc (k2 k q)).1) (fun k q _ => att_n hc (fun z => n2.2.2 k (HF.sub C roots hC k z) k q rfl))
  have b3 := HF.ap C cur roots [c] b1 b2
  refine ⟨⟨[], roots ++ [c], rfl, hp, h.att hc hv, hn, ?_, ?_⟩, b3⟩
  · show setN d 1 (Int32.ofNat (roots.length + 1)) 1 = _
    rw [List.length_append]
    exact if_pos rfl
  · rw [List.append_nil]
    exact b3
end
section
/-! what waits is put together, in the reference -/
def rkM (x : Int32) : Int32 := if 9 ≤ x then (if x = 9 then 7 else if x = 10 then 6 else if x = 11 then 5 else if 14 ≤ x then (if 16 ≤ x then (if x = 16 then 2 else 1) else 3) else 4) else 8
set_option maxRecDepth 100000 in
theorem d191 (x : Int32) : dm191 x = some (rkM x) := by
  unfold dm191 rkM
  repeat' split
  all_goals rfl
set_option maxRecDepth 100000 in
theorem fl_c {f : Fw} {F : List Fw} (h : f.1 ≠ 100) : fl (f :: F) = fl F ++ (f.2.1 :: f.2.2.1) := by
  show fl F ++ frl f = _
  unfold frl
  rw [if_neg h]
set_option maxRecDepth 100000 in
theorem PZ.st {s : aS} {e a k : Nat} {v : Int32} {I : List Nat} (ha : 143 ≤ a) : PZ s (wI s a k v) e I := by
  refine ⟨fun q _ => ?_, fun k _ => ⟨⟨fun w hw => ?_, ?_⟩, ?_, ?_⟩⟩
  all_goals
    rw [sI_wI, if_neg (by omega)]
set_option maxRecDepth 100000 in
theorem PZ.trans {s s1 s2 : aS} {e : Nat} {I : List Nat} (h : PZ s s1 e I) (g : PZ s1 s2 e I) : PZ s s2 e I := ⟨fun q hq => (g.1 q hq).trans (h.1 q hq), fun k hk => ⟨⟨fun w hw => ((g.2 k hk).1.1 w hw).trans ((h.2 k hk).1.1 w hw), (g.2 k hk).1.2.trans (h.2 k hk).1.2⟩, (g.2 k hk).2.1.trans (h.2 k hk).2.1, (g.2 k hk).2.2.trans (h.2 k hk).2.2⟩⟩
set_option maxRecDepth 100000 in
theorem PZ.att {s s' : aS} {e p : Nat} {roots I : List Nat} (h : ch (attA p roots) s s') (h1 : ∀ k ∈ I, k ≠ p ∧ k ∉ roots) : PZ s s' e I := ⟨fun q _ => att_l h, fun k hk => ⟨(att_k h (h1 k hk).1).1, (att_k (e := e) h (h1 k hk).1).2, att_n h (h1 k hk).2⟩⟩
set_option maxRecDepth 100000 in
/-- the ids of a frame and of what is above it -/
theorem GM.ids {s : aS} {r : Nat → Int32} {e : Nat} {F : List Fw} {f : Fw} {cur : List NN} (h : GM s r e (f :: F) cur) (hf : f.1 ≠ 100) : (idL (fl F)).Nodup ∧ (f.2.1.1 :: (idL f.2.2.1 ++ idL cur)).Nodup ∧ ∀ k ∈ idL (fl F), k ∉ f.2.1.1 :: (idL f.2.2.1 ++ idL cur) := by
  have := h.2.2.2.2.2.2.1.1
  rw [fl_c hf, List.append_assoc, idL_ap] at this
  have e1 : idL ((f.2.1 :: f.2.2.1) ++ cur) = f.2.1.1 :: (idL f.2.2.1 ++ idL cur) := by
    rw [idL_ap]
    rfl
  rw [e1, List.nodup_append] at this
  exact ⟨this.1, this.2.1, fun k hk q => this.2.2 k hk k q rfl⟩
set_option maxRecDepth 100000 in
theorem GM.epi {s s2 : aS} {r r' : Nat → Int32} {e : Nat} {F : List Fw} {f : Fw} {cur : List NN} {U : NN} (h : GM s r e (f :: F) cur) (hf : f.1 ≠ 100) (hU : U.1 = f.2.1.1) (hH : HF s2 e (U :: (f.2.2.1 ++ cur)) [U.1]) (hp : PZ s s2 e (idL (fl F))) (h2 : sI s2 142 U.1 = -1) (hst : ∀ a, 144 ≤ a → a ≤ 146 → ∀ q, sI s2 a q = sI s a q) (h21 : r' 21 = r 21) (h32 : r' 32 = Int32.ofNat F.length) (h33 : r' 33 = Int32.ofNat (nO F)) (h29 : r' 29 = Int32.ofNat (nT F + 1)) : GM (wI s2 144 (nT F) (Int32.ofNat U.1)) r' e F (U :: (f.2.2.1 ++ cur)) := by
  obtain ⟨n1, n2, n3⟩ := h.ids hf
  obtain ⟨a1, a2, a3, a4, a5, a6, a7, a8⟩ := h
  have el : (fl F ++ (U :: (f.2.2.1 ++ cur))).length = (fl (f :: F) ++ cur).length := by
    rw [fl_c hf]
    simp only [List.length_append, List.length_cons]
    omega
  have ei : idL (fl F ++ (U :: (f.2.2.1 ++ cur))) = idL (fl (f :: F) ++ cur) := by
    rw [fl_c hf, List.append_assoc, idL_ap, idL_ap]
    show idL (fl F) ++ (U.1 :: idL (f.2.2.1 ++ cur)) = idL (fl F) ++ (f.2.1.1 :: idL (f.2.2.1 ++ cur))
    rw [hU]
  have hO : nO F ≤ nO (f :: F) := Nat.le_add_right _ _
  have hnd : (idL (U :: (f.2.2.1 ++ cur))).Nodup := by
    show (U.1 :: idL (f.2.2.1 ++ cur)).Nodup
    rw [hU, idL_ap]
    exact n2
  have pz : ∀ I, PZ s2 (wI s2 144 (nT F) (Int32.ofNat U.1)) e I := fun I => PZ.st (by decide)
  refine ⟨⟨by rw [el]; exact h21.trans a1.1, by rw [el]; exact a1.2⟩, h32, ⟨h33, Nat.le_trans hO a3.2⟩, WS.of F a4.2.2 (fun q _ => ⟨?_, ?_⟩), TS.of F a5.2 (fun q hq => ?_), FrAll.of (fun g hg => a6 g (List.mem_cons_of_mem _ hg)) n1 (hp.trans (pz _)) (Nat.le_refl _), ⟨by rw [ei]; exact a7.1, by rw [ei, el]; exact a7.2⟩, Or.inr ⟨U.1, (pz _).hf (Nat.le_refl _) hH hnd, ?_, ?_, h29⟩⟩
  · rw [sI_wI, if_neg (by omega)]
    exact hst 145 (by decide) (by decide) q
  · rw [sI_wI, if_neg (by omega)]
    exact hst 146 (by decide) (by decide) q
  · rw [sI_wI, if_neg (by omega)]
    exact hst 144 (by decide) (by decide) q
  · rw [sI_wI, if_neg (by omega)]
    exact h2
  · rw [sI_wI, if_pos ⟨rfl, rfl⟩]
def upN (f : Fw) : NN := (f.2.1.1, setN f.2.1.2.1 1 (Int32.ofNat (f.2.2.2.length + 1)), f.2.1.2.2)
set_option maxRecDepth 100000 in
theorem att_st {s s' : aS} {p a q : Nat} {roots : List Nat} (h : ch (attA p roots) s s') (ha : 143 ≤ a) : sI s' a q = sI s a q := by
  refine h.i ?_
  unfold attA
  omega
set_option maxRecDepth 100000 in
/-- the head of what waits is neither ( nor a call: one round -/
theorem d190s {s : aS} {r : Nat → Int32} {i e n : Nat} {x1 : Int32} {F : List Fw} {f : Fw} {cur : List NN} (h : GM s r e (f :: F) cur) (hc : cur ≠ []) (h100 : f.1 ≠ 100) (h7 : f.1 ≠ 7) (hx : ¬ rkM f.1 < x1) : ∃ s' r', dm190_0 (n + 1) x1 (wP s r i) = dm190_0 n x1 (wP s' r' i) ∧ GM s' r' e F (upN f :: (f.2.2.1 ++ cur)) ∧ (∀ k, k ≠ 29 → k ≠ 32 → r' k = r k) ∧ ch (fun a k => (a = 129 ∧ 1024 ≤ k) ∨ (140 ≤ a ∧ a ≤ 147)) s s' := by
  obtain ⟨n1, n2, n3⟩ := h.ids h100
  have hG := h
  obtain ⟨a1, a2, a3, a4, a5, a6, a7, a8⟩ := h
  have hlen : (fl (f :: F) ++ cur).length ≤ 128 := a1.2
  have hfb := fl_b (f :: F)
  have hlc : (fl (f :: F) ++ cur).length = (fl (f :: F)).length + cur.length := List.length_append
  have hF : (f :: F).length = F.length + 1 := rfl
  have a2 : r 32 = Int32.ofNat (F.length + 1) := a2
  obtain ⟨-, f1, f2, f3, f4, f5, f6⟩ : f.1 ≠ 100 ∧ f.2.1.2.1 0 = f.1 ∧ f.2.1.1 < 128 ∧ NR s e f.2.1 ∧ HF s e f.2.2.1 f.2.2.2 ∧ sI s 142 f.2.1.1 = -1 ∧ _ := (a6 f List.mem_cons_self).resolve_left (fun q => h100 q.1)
  obtain ⟨c, c1, c2, c3, c4⟩ : ∃ c, HF s e cur [c] ∧ sI s 142 c = -1 ∧ sI s 144 (nT (f :: F)) = Int32.ofNat c ∧ r 29 = Int32.ofNat (nT (f :: F) + 1) := a8.resolve_left (fun q => hc q.1)
  have hcm : c ∈ idL cur := HF.sub _ _ c1 c List.mem_cons_self
  have hcl : c < 128 := by
    have : c ∈ idL (fl (f :: F) ++ cur) := by rw [idL_ap]; exact List.mem_append_right _ hcm
    have := a7.2 c this
    omega
  have w1 : sI s 145 F.length = f.1 := a4.1
  have w2 : sI s 146 F.length = Int32.ofNat f.2.1.1 := a4.2.1 h100
  have bF : aB (Int32.ofNat F.length) 300 := aB_of (by omega) (by omega)
  have jF : jN (Int32.ofNat F.length) = F.length := jN_of (by omega)
  have es : Int32.ofNat (F.length + 1) - 1 = Int32.ofNat F.length := ofNat_sub1 (n := F.length + 1) (by omega) (by omega)
  have ht : nT (f :: F) ≤ 128 := by omega
  have p0 : ¬ Int32.ofNat (F.length + 1) ≤ 0 := fun q => by
    have := (nle_iff (b := 0) (by omega) (by omega)).mp q
    omega
  have hnp : ∀ k ∈ idL (fl F), k ≠ f.2.1.1 := fun k hk q => n3 k hk (q ▸ List.mem_cons_self)
  have hnC : ∀ k ∈ idL (fl F), k ∉ f.2.2.2 := fun k hk q => n3 k hk (List.mem_cons_of_mem _ (List.mem_append_left _ (HF.sub _ _ f4 k q)))
  have n2b := n2
  rw [List.nodup_cons] at n2b
  have hk0 : f.2.1.2.1 1 = 0 := by
    rcases f6 with ⟨q, -⟩ | ⟨-, q, -⟩ | ⟨-, q, -⟩
    · exact absurd q h7
    · exact q
    · exact q
  have hk1 : sI s 129 (1024 + f.2.1.1) = Int32.ofNat 0 := (f3.1 1 (by decide)).trans hk0
  have h40 : sI s 140 f.2.1.1 = -1 := by
    rcases f6 with ⟨q, -⟩ | ⟨-, -, q, -⟩ | ⟨-, -, q, -⟩
    · exact absurd q h7
    · exact q
    · exact q
  have hr : ∀ (v w : Int32), setN (setN r 32 v) 29 w 32 = v := fun v w => rfl
  have step : dm190_0 (n + 1) x1 (wP s r i) = bv (some (Int32.ofNat c, wP s (setN (setN r 32 (Int32.ofNat F.length)) 29 (Int32.ofNat (nT (f :: F)))) i)) fun r18 s17 => if f.1 = 10 then dm190_58 (dm190_0 n) x1 (Int32.ofNat f.2.1.1) r18 s17 else bv (dm192 s17) fun r24 s23 => bu (dm193 (Int32.ofNat f.2.1.1) r24 s23) fun s27 => dm190_58 (dm190_0 n) x1 (Int32.ofNat f.2.1.1) r18 s27 := by
    rw [dm190_0]
    simp only [wP_f (show (32 : Nat) ≠ 26 by decide), a2, es, if_neg p0, if_pos bF, jF, wP_n (show (145 : Nat) ≠ 121 by decide), w1, if_neg h100, if_neg h7, d191, bu_some, if_neg hx, nx_eq]
    rw [wP_set (by decide)]
    have e32 : setN r 32 (Int32.ofNat F.length) 32 = Int32.ofNat F.length := rfl
    simp only [wP_f (show (32 : Nat) ≠ 26 by decide), e32, if_pos bF, jF, wP_n (show (146 : Nat) ≠ 121 by decide), w2]
    rw [d192 (c := nT (f :: F)) (show setN r 32 (Int32.ofNat F.length) 29 = Int32.ofNat (nT (f :: F) + 1) from c4) (by omega), c3]
    simp only [bv_some, wP_f (show (32 : Nat) ≠ 26 by decide), hr, if_pos bF, jF, wP_n (show (145 : Nat) ≠ 121 by decide), w1]
  rw [step, bv_some]
  have fin : ∀ (s2 : aS) (U : NN), U.1 = f.2.1.1 → HF s2 e (U :: (f.2.2.1 ++ cur)) [U.1] → PZ s s2 e (idL (fl F)) → sI s2 142 U.1 = -1 → (∀ a, 144 ≤ a → a ≤ 146 → ∀ q, sI s2 a q = sI s a q) → f.1 ≠ 7 → GM (wI s2 144 (nT F) (Int32.ofNat U.1)) (setN (setN (setN r 32 (Int32.ofNat F.length)) 29 (Int32.ofNat (nT F))) 29 (Int32.ofNat (nT F + 1))) e F (U :: (f.2.2.1 ++ cur)) := by
    intro s2 U b1 b2 b3 b4 b5 b6
    refine GM.epi hG h100 b1 b2 b3 b4 b5 rfl rfl ?_ rfl
    have : nO (f :: F) = nO F := by
      show nO F + (if f.1 = 100 ∨ f.1 = 7 then 1 else 0) = nO F
      rw [if_neg (by rintro (q | q); exact h100 q; exact h7 q)]
      rfl
    rw [← this]
    exact a3.1
  rcases f6 with ⟨q, -⟩ | ⟨g1, -, -, g2, g3⟩ | ⟨g1, -, -, x, g2, g3⟩
  · exact absurd q h7
  · have nt : nT (f :: F) = nT F := by
      show nT F + (if b01 (isB f.1) = 0 then 0 else 1) = nT F
      rw [if_pos (b01_ne.mpr (by rw [g1]; unfold isB; decide))]
      rfl
    rw [if_pos g1, nt]
    obtain ⟨s1, d1, d2, d3, d4, d5, d6⟩ := d193 (roots := []) f2 hcl h40 (fun ks q z => by cases ks <;> cases z) hk1 (by simp) List.nodup_nil (by simp) c2
    have d6 : ch (attA f.2.1.1 []) s s1 := d6
    have hup : upN f = (f.2.1.1, setN f.2.1.2.1 1 (Int32.ofNat 1), f.2.1.2.2) := by unfold upN; rw [g3]; rfl
    have hH := (HF.att (C := []) (roots := []) f2 f3 (rfl : HF s e [] []) c1 (by rw [g2] at n2; exact n2) d6 d4 d2).1
    unfold dm190_58
    rw [d1]
    simp only [bu_some]
    rw [d194 (c := nT F) rfl (by omega)]
    simp only [bu_some]
    refine ⟨_, _, rfl, ?_, ?_, ((d6.mono fun a k z => by unfold attA at z; omega).wI (by omega))⟩
    · refine fin s1 (upN f) rfl ?_ (PZ.att d6 fun k hk => ⟨hnp k hk, by simp⟩) ?_ (fun a b1 b2 q => att_st d6 (by omega)) h7
      · rw [hup, g2]
        exact hH
      · exact (att_n d6 (by simp)).trans f5
    · intro k k1 k2
      unfold setN
      rw [if_neg k1, if_neg k1, if_neg k2]
  · have nt : nT (f :: F) = nT F + 1 := by
      show nT F + (if b01 (isB f.1) = 0 then 0 else 1) = nT F + 1
      rw [if_neg (fun q => b01_ne.mp q g1)]
    have n10 : ¬ f.1 = 10 := fun q => by rw [q] at g1; unfold isB at g1; exact absurd g1 (by decide)
    have tx : sI s 144 (nT F) = Int32.ofNat x := a5.1 g1 x g2
    have hxm : x ∈ idL f.2.2.1 := HF.sub _ _ f4 x (by rw [g2]; exact List.mem_cons_self)
    have hxl : x < 128 := by
      have : x ∈ idL (fl (f :: F) ++ cur) := by rw [fl_c h100, idL_ap, idL_ap]; exact List.mem_append_left _ (List.mem_append_right _ (List.mem_cons_of_mem _ hxm))
      have := a7.2 x this
      omega
    have n2c := List.nodup_append.mp n2b.2
    have hxc : x ≠ c := n2c.2.2 x hxm c hcm
    have hpx : f.2.1.1 ≠ x := fun q => n2b.1 (List.mem_append_left _ (q ▸ hxm))
    rw [if_neg n10, nt, d192 (c := nT F) rfl (by omega), tx, setN_2]
    simp only [bv_some]
    obtain ⟨s1, d1, d2, d3, d4, d5, d6⟩ := d193 (roots := []) f2 hxl h40 (fun ks q z => by cases ks <;> cases z) hk1 (by simp) List.nodup_nil (by simp) g3
    have d6 : ch (attA f.2.1.1 []) s s1 := d6
    obtain ⟨s2, e1, e2, e3, e4, e5, e6⟩ := d193 (s := s1) (roots := [x]) f2 hcl d2 (fun ks q z => by
      cases ks with
      | nil => cases z; exact d3
      | cons a b => cases b <;> cases z) d4 (by simp) (by simp) (by simp; exact fun q => hxc q.symm) ((att_n d6 (by simp)).trans c2)
    have e6 : ch (attA f.2.1.1 [x]) s1 s2 := e6
    have hf4 : HF s1 e f.2.2.1 [x] := by
      rw [g2] at f4
      exact HF.of (fun q _ => att_l d6) (Nat.le_refl _) _ _ f4 n2c.1 (fun k hk => (att_k d6 (fun z => n2b.1 (List.mem_append_left _ (z ▸ hk)))).1) (fun k _ _ => att_n d6 (by simp))
    have hc1 : HF s1 e cur [c] := HF.of (fun q _ => att_l d6) (Nat.le_refl _) _ _ c1 n2c.2.1 (fun k hk => (att_k d6 (fun z => n2b.1 (List.mem_append_right _ (z ▸ hk)))).1) (fun k _ _ => att_n d6 (by simp))
    have hH := (HF.att (l := f.2.1.2.2) f2 (f3.att d6 d4) hf4 hc1 n2 e6 e4 e2).1
    rw [setN_2] at hH
    have hup : upN f = (f.2.1.1, setN f.2.1.2.1 1 (Int32.ofNat ([x].length + 1)), f.2.1.2.2) := by unfold upN; rw [g2]
    rw [d1]
    unfold dm190_58
    simp only [bu_some]
    rw [e1]
    simp only [bu_some]
    rw [d194 (c := nT F) rfl (by omega)]
    simp only [bu_some]
    refine ⟨_, _, rfl, ?_, ?_, (((d6.mono fun a k z => by unfold attA at z; omega).trans (e6.mono fun a k z => by unfold attA at z; omega)).wI (by omega))⟩
    · refine fin s2 (upN f) rfl ?_ ((PZ.att d6 fun k hk => ⟨hnp k hk, by simp⟩).trans (PZ.att e6 fun k hk => ⟨hnp k hk, by rw [← g2]; exact hnC k hk⟩)) ?_ (fun a b1 b2 q => (att_st e6 (by omega)).trans (att_st d6 (by omega))) h7
      · rw [hup]
        exact hH
      · show sI s2 142 f.2.1.1 = -1
        exact (att_n e6 (by simp; exact hpx)).trans ((att_n d6 (by simp)).trans f5)
    · intro k k1 k2
      unfold setN
      rw [if_neg k1, if_neg k1, if_neg k2]
def rdF (x : Int32) : List Fw → List NN → List Fw × List NN
  | [], cur => ([], cur)
  | f :: F, cur => if f.1 = 100 ∨ f.1 = 7 ∨ rkM f.1 < x then (f :: F, cur) else rdF x F (upN f :: (f.2.2.1 ++ cur))
set_option maxRecDepth 100000 in
theorem d190l {i e : Nat} {x1 : Int32} : ∀ (F : List Fw) (n : Nat) (s : aS) (r : Nat → Int32) (cur : List NN), GM s r e F cur → cur ≠ [] → F.length < n → ∃ s' r', dm190_0 n x1 (wP s r i) = some (wP s' r' i) ∧ GM s' r' e (rdF x1 F cur).1 (rdF x1 F cur).2 ∧ (rdF x1 F cur).2 ≠ [] ∧ (∀ k, k ≠ 29 → k ≠ 32 → r' k = r k) ∧ ch (fun a k => (a = 129 ∧ 1024 ≤ k) ∨ (140 ≤ a ∧ a ≤ 147)) s s' := by
  intro F
  induction F with
  | nil =>
    intro n s r cur h hc hn
    obtain ⟨n, rfl⟩ : ∃ q, n = q + 1 := ⟨n - 1, by simp only [List.length_nil] at hn; omega⟩
    refine ⟨s, r, ?_, h, hc, fun _ _ _ => rfl, ch.refl _ s⟩
    have a2 : r 32 = 0 := h.2.1
    rw [dm190_0, wP_f (by decide), a2, if_pos (by decide)]
  | cons f F ih =>
    intro n s r cur h hc hn
    obtain ⟨n, rfl⟩ : ∃ q, n = q + 1 := ⟨n - 1, by simp only [List.length_cons] at hn; omega⟩
    simp only [List.length_cons] at hn
    have a1 := h.1
    have a2 : r 32 = Int32.ofNat (F.length + 1) := h.2.1
    have hfb := fl_b (f :: F)
    have hlc : (fl (f :: F) ++ cur).length = (fl (f :: F)).length + cur.length := List.length_append
    have hO := h.2.2.1.2
    have hF : (f :: F).length = F.length + 1 := rfl
    have bF : aB (Int32.ofNat F.length) 300 := aB_of (by omega) (by omega)
    have jF : jN (Int32.ofNat F.length) = F.length := jN_of (by omega)
    have es : Int32.ofNat (F.length + 1) - 1 = Int32.ofNat F.length := ofNat_sub1 (n := F.length + 1) (by omega) (by omega)
    have p0 : ¬ Int32.ofNat (F.length + 1) ≤ 0 := fun q => by
      have := (nle_iff (b := 0) (by omega) (by omega)).mp q
      omega
    have w1 : sI s 145 F.length = f.1 := h.2.2.2.1.1
    by_cases g : f.1 = 100 ∨ f.1 = 7 ∨ rkM f.1 < x1
    · have e1 : rdF x1 (f :: F) cur = (f :: F, cur) := if_pos g
      rw [e1]
      refine ⟨s, r, ?_, h, hc, fun _ _ _ => rfl, ch.refl _ s⟩
      rw [dm190_0]
      simp only [wP_f (show (32 : Nat) ≠ 26 by decide), a2, es, if_neg p0, if_pos bF, jF, wP_n (show (145 : Nat) ≠ 121 by decide), w1, d191, bu_some]
      by_cases g1 : f.1 = 100
      · rw [if_pos g1]
      · rw [if_neg g1]
        by_cases g2 : f.1 = 7
        · rw [if_pos g2]
        · rw [if_neg g2]
          have g3 : rkM f.1 < x1 := by
            rcases g with q | q | q
            · exact absurd q g1
            · exact absurd q g2
            · exact q
          rw [if_pos g3]
    · have e1 : rdF x1 (f :: F) cur = rdF x1 F (upN f :: (f.2.2.1 ++ cur)) := if_neg g
      rw [e1]
      obtain ⟨s1, r1, b1, b2, b3, b4⟩ := d190s (i := i) (n := n) h hc (fun q => g (Or.inl q)) (fun q => g (Or.inr (Or.inl q))) (fun q => g (Or.inr (Or.inr q)))
      obtain ⟨s2, r2, c1, c2, c3, c4, c5⟩ := ih n s1 r1 _ b2 (by simp) (by omega)
      exact ⟨s2, r2, b1.trans c1, c2, c3, fun k k1 k2 => (c4 k k1 k2).trans (b3 k k1 k2), b4.trans c5⟩
set_option maxRecDepth 100000 in
theorem d190 {s : aS} {r : Nat → Int32} {i e : Nat} {x1 : Int32} {F : List Fw} {cur : List NN} (h : GM s r e F cur) (hc : cur ≠ []) : ∃ s' r', dm190 x1 (wP s r i) = some (wP s' r' i) ∧ GM s' r' e (rdF x1 F cur).1 (rdF x1 F cur).2 ∧ (rdF x1 F cur).2 ≠ [] ∧ (∀ k, k ≠ 29 → k ≠ 32 → r' k = r k) ∧ ch (fun a k => (a = 129 ∧ 1024 ≤ k) ∨ (140 ≤ a ∧ a ≤ 147)) s s' := by
  have hfb := fl_b F
  have a1 := h.1.2
  have hlc : (fl F ++ cur).length = (fl F).length + cur.length := List.length_append
  have hO := h.2.2.1.2
  exact d190l F 5000 s r cur h hc (by omega)
end
section
/-! a new operand, new things that wait, in the reference -/
def newA (e m : Nat) (a k : Nat) : Prop := ((128 ≤ a ∧ a ≤ 138) ∧ k = 1024 + m) ∨ ((140 ≤ a ∧ a ≤ 142) ∧ k = m) ∨ (a = 139 ∧ 2048 + e ≤ k) ∨ 143 ≤ a ∨ a < 121
set_option maxRecDepth 100000 in
theorem PZ.new {s s' : aS} {e m : Nat} {I : List Nat} (h : ch (newA e m) s s') (h1 : ∀ k ∈ I, k ≠ m) : PZ s s' e I := by
  refine ⟨fun q hq => h.i ?_, fun k hk => ⟨⟨fun w hw => h.i ?_, h.i ?_⟩, h.i ?_, h.i ?_⟩⟩
  all_goals
    unfold newA
    first
      | omega
      | (have := h1 k hk; omega)
set_option maxRecDepth 100000 in
theorem nodup_ins {A B : List Nat} {x : Nat} (h : (A ++ B).Nodup) (hx : x ∉ A ++ B) : (A ++ x :: B).Nodup := by
  rw [List.nodup_append] at h ⊢
  refine ⟨h.1, ?_, fun a ha b hb => ?_⟩
  · rw [List.nodup_cons]
    exact ⟨fun q => hx (List.mem_append_right _ q), h.2.1⟩
  · rcases List.mem_cons.mp hb with q | q
    · intro z
      exact hx (List.mem_append_left _ (by rw [← q, ← z]; exact ha))
    · exact h.2.2 a ha b q
set_option maxRecDepth 100000 in
theorem GM.fresh {s : aS} {r : Nat → Int32} {e m : Nat} {F : List Fw} {cur : List NN} (h : GM s r e F cur) (hm : (fl F ++ cur).length = m) : (m ∉ idL (fl F ++ cur)) ∧ (∀ k ∈ idL (fl F), k ≠ m) ∧ ∀ k ∈ idL cur, k ≠ m := by
  have a := h.2.2.2.2.2.2.1.2
  refine ⟨fun q => ?_, fun k hk q => ?_, fun k hk q => ?_⟩
  · have := a m q
    omega
  · have := a k (by rw [idL_ap]; exact List.mem_append_left _ hk)
    omega
  · have := a k (by rw [idL_ap]; exact List.mem_append_right _ hk)
    omega
set_option maxRecDepth 100000 in
theorem GM.leaf {s s' : aS} {r r' : Nat → Int32} {e e' m : Nat} {F : List Fw} {n : NN} (h : GM s r e F []) (hm : (fl F).length = m) (h8 : m < 128) (hid : n.1 = m) (hc : ch (newA e m) s s') (hst : ∀ q, sI s' 145 q = sI s 145 q ∧ sI s' 146 q = sI s 146 q) (htr : ∀ q, q < nT F → sI s' 144 q = sI s 144 q) (hNR : NR s' e' n) (hk : n.2.1 1 = 0) (h0 : sI s' 140 m = -1) (h2 : sI s' 142 m = -1) (h4 : sI s' 144 (nT F) = Int32.ofNat m) (he : e ≤ e') (h21 : r' 21 = Int32.ofNat (m + 1)) (h29 : r' 29 = Int32.ofNat (nT F + 1)) (h32 : r' 32 = r 32) (h33 : r' 33 = r 33) : GM s' r' e' F [n] := by
  obtain ⟨q1, q2, -⟩ := h.fresh (m := m) (by rw [List.append_nil]; exact hm)
  obtain ⟨a1, a2, a3, a4, a5, a6, a7, a8⟩ := h
  have hnF : (idL (fl F)).Nodup := by
    have := a7.1
    rw [List.append_nil] at this
    exact this
  have el : (fl F ++ [n]).length = m + 1 := by rw [List.length_append, hm]; rfl
  rw [List.append_nil] at q1
  have ei : idL (fl F ++ [n]) = idL (fl F) ++ m :: [] := by rw [idL_ap, ← hid]; rfl
  refine ⟨⟨by rw [el]; exact h21, by rw [el]; omega⟩, h32.trans a2, ⟨h33.trans a3.1, a3.2⟩, WS.of F a4 (fun q _ => hst q), TS.of F a5 htr, FrAll.of a6 hnF (PZ.new hc q2) he, ⟨?_, ?_⟩, Or.inr ⟨m, ⟨[], [], by rw [hid], by omega, hNR, ?_, hk, rfl⟩, h2, h4, h29⟩⟩
  · rw [ei]
    exact nodup_ins (by rw [List.append_nil]; exact hnF) (by rw [List.append_nil]; exact q1)
  · rw [ei, el]
    intro k hk
    rcases List.mem_append.mp hk with z | z
    · have := a7.2 k (by rw [List.append_nil]; exact z)
      rw [List.append_nil, hm] at this
      omega
    · have : k = m := List.mem_singleton.mp z
      omega
  · rw [hid]
    exact h0
set_option maxRecDepth 100000 in
theorem GM.hnd {s s' : aS} {r r' : Nat → Int32} {e e' m : Nat} {F : List Fw} {n : NN} {x : Int32} (h : GM s r e F []) (hm : (fl F).length = m) (h8 : m < 128) (hid : n.1 = m) (hx : x = 7 ∨ x = 10) (hx0 : n.2.1 0 = x) (hO : x = 7 → nO F < 32) (hc : ch (newA e m) s s') (hst : ∀ q, q < F.length → sI s' 145 q = sI s 145 q ∧ sI s' 146 q = sI s 146 q) (h5 : sI s' 145 F.length = x) (h6 : sI s' 146 F.length = Int32.ofNat m) (htr : ∀ q, q < nT F → sI s' 144 q = sI s 144 q) (hNR : NR s' e' n) (hk : n.2.1 1 = 0) (h0 : sI s' 140 m = -1) (h2 : sI s' 142 m = -1) (he : e ≤ e') (h21 : r' 21 = Int32.ofNat (m + 1)) (h29 : r' 29 = r 29) (h32 : r' 32 = Int32.ofNat (F.length + 1)) (h33 : r' 33 = Int32.ofNat (nO ((x, n, [], []) :: F))) : GM s' r' e' ((x, n, [], []) :: F) [] := by
  obtain ⟨q1, q2, -⟩ := h.fresh (m := m) (by rw [List.append_nil]; exact hm)
  obtain ⟨a1, a2, a3, a4, a5, a6, a7, a8⟩ := h
  have n100 : x ≠ 100 := by rcases hx with q | q <;> rw [q] <;> decide
  have nB : ¬ isB x := by rcases hx with q | q <;> rw [q] <;> unfold isB <;> decide
  have hnF : (idL (fl F)).Nodup := by
    have := a7.1
    rw [List.append_nil] at this
    exact this
  have efl : fl ((x, n, [], []) :: F) = fl F ++ [n] := fl_c n100
  have el : (fl ((x, n, [], []) :: F) ++ []).length = m + 1 := by rw [efl, List.append_nil, List.length_append, hm]; rfl
  rw [List.append_nil] at q1
  have ei : idL (fl ((x, n, [], []) :: F) ++ []) = idL (fl F) ++ m :: [] := by rw [efl, List.append_nil, idL_ap, ← hid]; rfl
  have enT : nT ((x, n, [], []) :: F) = nT F := by
    show nT F + (if b01 (isB x) = 0 then 0 else 1) = nT F
    rw [if_pos (b01_ne.mpr nB)]
    rfl
  have hO2 : nO ((x, n, [], []) :: F) ≤ 32 := by
    show nO F + (if x = 100 ∨ x = 7 then 1 else 0) ≤ 32
    by_cases q : x = 7
    · rw [if_pos (Or.inr q)]
      have := hO q
      omega
    · rw [if_neg (by rintro (z | z); exact n100 z; exact q z)]
      exact a3.2
  have c8 : r 29 = Int32.ofNat (nT F) := by
    rcases a8 with ⟨-, q⟩ | ⟨c, q, -⟩
    · exact q
    · have q : ([c] : List Nat) = [] := q
      cases q
  refine ⟨⟨by rw [el]; exact h21, by rw [el]; omega⟩, h32, ⟨h33, hO2⟩, ⟨h5, fun _ => by rw [h6, ← hid], WS.of F a4 hst⟩, ⟨fun z => absurd z nB, TS.of F a5 htr⟩, ?_, ⟨?_, ?_⟩, Or.inl ⟨rfl, by rw [enT]; exact h29.trans c8⟩⟩
  · intro f hf
    rcases List.mem_cons.mp hf with q | q
    · subst q
      refine Or.inr ⟨n100, hx0, by show n.1 < 128; omega, hNR, rfl, by show sI s' 142 n.1 = -1; rw [hid]; exact h2, ?_⟩
      rcases hx with q | q
      · exact Or.inl ⟨q, hk, by show sI s' 140 n.1 = -1; rw [hid]; exact h0, fun ks q z => by cases ks <;> cases z⟩
      · exact Or.inr (Or.inl ⟨q, hk, by show sI s' 140 n.1 = -1; rw [hid]; exact h0, rfl, rfl⟩)
    · exact FrAll.of a6 hnF (PZ.new hc q2) he f q
  · rw [ei]
    exact nodup_ins (by rw [List.append_nil]; exact hnF) (by rw [List.append_nil]; exact q1)
  · rw [ei, el]
    intro k hk
    rcases List.mem_append.mp hk with z | z
    · have := a7.2 k (by rw [List.append_nil]; exact z)
      rw [List.append_nil, hm] at this
      omega
    · have : k = m := List.mem_singleton.mp z
      omega
set_option maxRecDepth 100000 in
/-- a ( that waits -/
theorem GM.hop {s : aS} {r : Nat → Int32} {e : Nat} {F : List Fw} {n : NN} (h : GM s r e F []) (hO : nO F < 32) : GM (wI (wI s 145 F.length 100) 146 F.length (-1)) (setN (setN r 32 (Int32.ofNat (F.length + 1))) 33 (Int32.ofNat (nO F + 1))) e ((100, n, [], []) :: F) [] := by
  obtain ⟨a1, a2, a3, a4, a5, a6, a7, a8⟩ := h
  have nB : ¬ isB 100 := by unfold isB; decide
  have efl : fl ((100, n, [], []) :: F) = fl F := by
    show fl F ++ frl (100, n, [], []) = fl F
    have : frl (100, n, [], []) = [] := if_pos rfl
    rw [this, List.append_nil]
  have enT : nT ((100, n, [], []) :: F) = nT F := by
    show nT F + (if b01 (isB 100) = 0 then 0 else 1) = nT F
    rw [if_pos (b01_ne.mpr nB)]
    rfl
  have hnF : (idL (fl F)).Nodup := by
    have := a7.1
    rw [List.append_nil] at this
    exact this
  have pz : PZ s (wI (wI s 145 F.length 100) 146 F.length (-1)) e (idL (fl F)) := (PZ.st (by decide)).trans (PZ.st (by decide))
  have c8 : r 29 = Int32.ofNat (nT F) := by
    rcases a8 with ⟨-, q⟩ | ⟨c, q, -⟩
    · exact q
    · have q : ([c] : List Nat) = [] := q
      cases q
  refine ⟨by rw [efl]; exact a1, rfl, ⟨rfl, hO⟩, ⟨?_, fun q => absurd rfl q, WS.of F a4 (fun q hq => ⟨?_, ?_⟩)⟩, ⟨fun z => absurd z nB, TS.of F a5 (fun q hq => ?_)⟩, ?_, by rw [efl]; exact a7, Or.inl ⟨rfl, by rw [enT]; exact c8⟩⟩
  · rw [sI_wI, if_neg (by omega), sI_wI, if_pos ⟨rfl, rfl⟩]
  · rw [sI_wI, if_neg (by omega), sI_wI, if_neg (by omega)]
  · rw [sI_wI, if_neg (by omega), sI_wI, if_neg (by omega)]
  · rw [sI_wI, if_neg (by omega), sI_wI, if_neg (by omega)]
  · intro f hf
    rcases List.mem_cons.mp hf with q | q
    · subst q
      exact Or.inl ⟨rfl, rfl, rfl⟩
    · exact FrAll.of a6 hnF pz (Nat.le_refl _) f q
set_option maxRecDepth 100000 in
/-- an operator that waits for its second operand -/
theorem GM.bin {s s' : aS} {r r' : Nat → Int32} {e m : Nat} {F : List Fw} {cur : List NN} {n : NN} {x : Int32} (h : GM s r e F cur) (hcur : cur ≠ []) (hm : (fl F ++ cur).length = m) (h8 : m < 128) (hid : n.1 = m) (hx : isB x) (hx0 : n.2.1 0 = x) (hc : ch (newA e m) s s') (hst : ∀ q, q < F.length → sI s' 145 q = sI s 145 q ∧ sI s' 146 q = sI s 146 q) (h5 : sI s' 145 F.length = x) (h6 : sI s' 146 F.length = Int32.ofNat m) (htr : ∀ q, sI s' 144 q = sI s 144 q) (hNR : NR s' e n) (hk : n.2.1 1 = 0) (h0 : sI s' 140 m = -1) (h2 : sI s' 142 m = -1) (h21 : r' 21 = Int32.ofNat (m + 1)) (h29 : r' 29 = r 29) (h32 : r' 32 = Int32.ofNat (F.length + 1)) (h33 : r' 33 = r 33) : ∃ c, GM s' r' e ((x, n, cur, [c]) :: F) [] := by
  obtain ⟨q1, q2, q3⟩ := h.fresh hm
  obtain ⟨a1, a2, a3, a4, a5, a6, a7, a8⟩ := h
  obtain ⟨c, c1, c2, c3, c4⟩ := a8.resolve_left (fun q => hcur q.1)
  have n100 : x ≠ 100 := fun q => by rw [q] at hx; unfold isB at hx; exact absurd hx (by decide)
  have n7 : x ≠ 7 := fun q => by rw [q] at hx; unfold isB at hx; exact absurd hx (by decide)
  have hnn := a7.1
  rw [idL_ap, List.nodup_append] at hnn
  have efl : fl ((x, n, cur, [c]) :: F) = fl F ++ (n :: cur) := fl_c n100
  have el : (fl ((x, n, cur, [c]) :: F) ++ []).length = m + 1 := by
    rw [efl, List.append_nil, ← hm]
    simp only [List.length_append, List.length_cons]
    omega
  have ei : idL (fl ((x, n, cur, [c]) :: F) ++ []) = idL (fl F) ++ m :: idL cur := by rw [efl, List.append_nil, idL_ap, ← hid]; rfl
  have enT : nT ((x, n, cur, [c]) :: F) = nT F + 1 := by
    show nT F + (if b01 (isB x) = 0 then 0 else 1) = nT F + 1
    rw [if_neg (fun q => b01_ne.mp q hx)]
  have enO : nO ((x, n, cur, [c]) :: F) = nO F := by
    show nO F + (if x = 100 ∨ x = 7 then 1 else 0) = nO F
    rw [if_neg (by rintro (z | z); exact n100 z; exact n7 z)]
    rfl
  have hcc : c ≠ m := q3 c (HF.sub _ _ c1 c List.mem_cons_self)
  refine ⟨c, ⟨by rw [el]; exact h21, by rw [el]; omega⟩, h32, ⟨by rw [enO]; exact h33.trans a3.1, by rw [enO]; exact a3.2⟩, ⟨h5, fun _ => by rw [h6, ← hid], WS.of F a4 hst⟩, ⟨fun _ c' z => ?_, TS.of F a5 (fun q _ => htr q)⟩, ?_, ⟨?_, ?_⟩, Or.inl ⟨rfl, by rw [enT]; exact h29.trans c4⟩⟩
  · have z : [c] = [c'] := z
    cases z
    rw [htr]
    exact c3
  · intro f hf
    rcases List.mem_cons.mp hf with q | q
    · subst q
      refine Or.inr ⟨n100, hx0, by show n.1 < 128; omega, hNR, (PZ.new hc q3).hf (Nat.le_refl _) c1 hnn.2.1, by show sI s' 142 n.1 = -1; rw [hid]; exact h2, Or.inr (Or.inr ⟨hx, hk, by show sI s' 140 n.1 = -1; rw [hid]; exact h0, c, rfl, ?_⟩)⟩
      exact (((PZ.new (I := [c]) hc (fun k hk => by rw [List.mem_singleton.mp hk]; exact hcc)).2 c List.mem_cons_self).2.2).trans c2
    · exact FrAll.of a6 hnn.1 (PZ.new hc q2) (Nat.le_refl _) f q
  · rw [ei]
    refine nodup_ins (by rw [← idL_ap]; exact a7.1) ?_
    rw [← idL_ap]
    exact q1
  · rw [ei, el]
    intro k hk
    rcases List.mem_append.mp hk with z | z
    · have := a7.2 k (by rw [idL_ap]; exact List.mem_append_left _ z)
      omega
    · rcases List.mem_cons.mp z with z | z
      · omega
      · have := a7.2 k (by rw [idL_ap]; exact List.mem_append_right _ z)
        omega
end
