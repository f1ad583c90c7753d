/-! a node lost, a sheet taken away from a formula, in the reference -/
def loM (d : Nd) (w : Nat) : Int32 := if w = 1 then d 1 else loF w
set_option maxRecDepth 100000 in
theorem d183 {s : aS} {p : Nat} (hp : p < 1152) : ∃ s', dm183 (Int32.ofNat p) s = some s' ∧ (∀ w, w < 9 → sI s' (128 + w) p = loM (fun w => sI s (128 + w) p) w) ∧ ch (fun a q => (128 ≤ a ∧ a ≤ 136) ∧ q = p) s s' := by
  have hb : aB (Int32.ofNat p) 1152 := by rw [aB_iff, iOfNat (by omega)]; omega
  have ej : jN (Int32.ofNat p) = p := jN_of (by omega)
  unfold dm183
  simp only [if_pos hb, nx_eq, ej]
  refine ⟨_, rfl, fun w hw => ?_, ((((((((ch.refl _ s).wI (by omega)).wI (by omega)).wI (by omega)).wI (by omega)).wI (by omega)).wI (by omega)).wI (by omega)).wI (by omega)⟩
  simp only [sI_wI]
  unfold loM loF plF
  match w, hw with
  | 0, _ => simp
  | 1, _ => simp
  | 2, _ => simp
  | 3, _ => simp
  | 4, _ => simp
  | 5, _ => simp
  | 6, _ => simp
  | 7, _ => simp
  | 8, _ => simp
def lsM (x : Int32) (d : Nd) : Nd := if d 2 = x then loM d else if d 2 ≤ x then d else fun w => if w = 2 then d 2 - 1 else d w
/-- nodes by their numbers -/
def TG (s : aS) (f n : Nat) (F : Nat → Nd) : Prop := sI s 127 f = Int32.ofNat n ∧ n ≤ 128 ∧ ∀ i, i < n → ∀ w, w < 9 → sI s (128 + w) (128 * f + i) = F i w
set_option maxRecDepth 100000 in
theorem TG.cg {s : aS} {f n : Nat} {F G : Nat → Nd} (h : TG s f n F) (e : ∀ i, i < n → ∀ w, w < 9 → F i w = G i w) : TG s f n G := ⟨h.1, h.2.1, fun i hi w hw => (h.2.2 i hi w hw).trans (e i hi w hw)⟩
set_option maxRecDepth 100000 in
theorem TG.up {s s' : aS} {f n i : Nat} {F : Nat → Nd} {g : Nd} (h : TG s f n F) (hi : i < n) (hg : ∀ w, w < 9 → sI s' (128 + w) (128 * f + i) = g w) (hc : ch (fun a q => (128 ≤ a ∧ a ≤ 136) ∧ q = 128 * f + i) s s') : TG s' f n (fun j => if j = i then g else F j) := ⟨(hc.i (by omega)).trans h.1, h.2.1, fun j hj w hw => by
  show _ = (if j = i then g else F j) w
  by_cases e : j = i
  · subst e
    rw [if_pos rfl]
    exact hg w hw
  · rw [if_neg e, hc.i (by omega)]
    exact h.2.2 j hj w hw⟩
set_option maxRecDepth 100000 in
theorem TM.f {s : aS} {f : Nat} {L : List Nd} (h : TM s f L) : TG s f L.length (fun i => L.getD i (fun _ => 0)) := ⟨h.1, h.2.1, fun i hi w hw => by
  show _ = L.getD i (fun _ => 0) w
  rw [List.getD, List.getElem?_eq_getElem hi]
  exact h.2.2 i hi w hw⟩
set_option maxRecDepth 100000 in
theorem TG.c {s : aS} {f n : Nat} {F : Nat → Nd} {L : List Nd} (h : TG s f n F) (hl : L.length = n) (hF : ∀ i (g : i < L.length) w, w < 9 → F i w = L[i] w) : TM s f L := ⟨by rw [hl]; exact h.1, by rw [hl]; exact h.2.1, fun i hi w hw => (h.2.2 i (by omega) w hw).trans (hF i hi w hw)⟩
set_option maxRecDepth 100000 in
theorem d182v {f n : Nat} {x : Int32} {F : Nat → Nd} {k15 : Int32 → Int32 → aS → Option aS} (hf : f < 8) (hx : 0 ≤ x.toInt) : ∀ (m j k : Nat) (s : aS), j + m = n → m < k → TG s f n (fun i => if i < j then lsM x (F i) else F i) → ∃ s', dm182_66 k15 k x (Int32.ofNat f) (Int32.ofNat (128 * f + j)) s = k15 x (Int32.ofNat (f + 1)) s' ∧ TG s' f n (fun i => lsM x (F i)) ∧ ch (fun a q => (128 ≤ a ∧ a ≤ 136) ∧ 128 * f ≤ q ∧ q < 128 * f + n) s s' := by
  intro m
  induction m with
  | zero =>
    intro j k s hj hk h
    obtain ⟨k, rfl⟩ : ∃ q, k = q + 1 := ⟨k - 1, by omega⟩
    have h8 := h.2.1
    rw [dm182_66, if_pos (by rw [aB_iff, iOfNat (by omega)]; omega), jN_of (by omega), h.1, i128 (by omega) (by omega), if_pos (by rw [iLe, iOfNat (by omega), iOfNat (by omega)]; omega)]
    unfold dm182_108
    rw [ofNat_succ (by omega)]
    exact ⟨s, rfl, h.cg fun i hi w hw => by show (if i < j then lsM x (F i) else F i) w = _; rw [if_pos (by omega)], ch.refl _ s⟩
  | succ m ih =>
    intro j k s hj hk h
    obtain ⟨k, rfl⟩ : ∃ q, k = q + 1 := ⟨k - 1, by omega⟩
    have h8 := h.2.1
    have hp : aB (Int32.ofNat (128 * f + j)) 1152 := by rw [aB_iff, iOfNat (by omega)]; omega
    have ep : jN (Int32.ofNat (128 * f + j)) = 128 * f + j := jN_of (by omega)
    have row : ∀ w, w < 9 → sI s (128 + w) (128 * f + j) = F j w := by
      intro w hw
      have := h.2.2 j (by omega) w hw
      have : sI s (128 + w) (128 * f + j) = (if j < j then lsM x (F j) else F j) w := this
      rw [if_neg (by omega)] at this
      exact this
    have ef : sI s 130 (128 * f + j) = F j 2 := row 2 (by omega)
    rw [dm182_66, if_pos (by rw [aB_iff, iOfNat (by omega)]; omega), jN_of (i := f) (by omega), h.1, i128 (by omega) (by omega), if_neg (by rw [iLe, iOfNat (by omega), iOfNat (by omega)]; omega), if_pos hp, ep, ef]
    have fin : ∀ (s1 : aS) (g : Nd), TG s1 f n (fun i => if i = j then g else if i < j then lsM x (F i) else F i) → ch (fun a q => (128 ≤ a ∧ a ≤ 136) ∧ q = 128 * f + j) s s1 → (∀ w, w < 9 → (fun w => if w = 2 then (if g 2 ≤ x then g 2 else g 2 - 1) else g w) w = lsM x (F j) w) → ∃ s', dm182_85 k15 (dm182_66 k15 k) x (Int32.ofNat f) (Int32.ofNat (128 * f + j)) s1 = k15 x (Int32.ofNat (f + 1)) s' ∧ TG s' f n (fun i => lsM x (F i)) ∧ ch (fun a q => (128 ≤ a ∧ a ≤ 136) ∧ 128 * f ≤ q ∧ q < 128 * f + n) s s' := by
      intro s1 g t1 c1 hg
      have e2 : sI s1 130 (128 * f + j) = g 2 := by
        have := t1.2.2 j (by omega) 2 (by omega)
        have : sI s1 130 (128 * f + j) = (if j = j then g else if j < j then lsM x (F j) else F j) 2 := this
        rw [if_pos rfl] at this
        exact this
      have e85 : dm182_85 k15 (dm182_66 k15 k) x (Int32.ofNat f) (Int32.ofNat (128 * f + j)) s1 = dm182_66 k15 k x (Int32.ofNat f) (Int32.ofNat (128 * f + (j + 1))) (wI s1 130 (128 * f + j) (if g 2 ≤ x then g 2 else g 2 - 1)) := by
        unfold dm182_85 dm182_105
        simp only [if_pos hp, nx_eq, ep, e2]
        rw [ofNat_succ (by omega)]
        by_cases q : g 2 ≤ x
        · rw [if_pos q, if_pos q]; rfl
        · rw [if_neg q, if_neg q]; rfl
      have c2 : ch (fun a q => (128 ≤ a ∧ a ≤ 136) ∧ q = 128 * f + j) s1 (wI s1 130 (128 * f + j) (if g 2 ≤ x then g 2 else g 2 - 1)) := (ch.refl _ s1).wI (by omega)
      have t2 := t1.up (g := lsM x (F j)) (by omega : j < n) (fun w hw => by
        rw [← hg w hw, sI_wI]
        by_cases e : w = 2
        · subst e
          rw [if_pos ⟨rfl, rfl⟩]
          exact (if_pos rfl).symm
        · rw [if_neg (by omega)]
          have := t1.2.2 j (by omega) w hw
          have : sI s1 (128 + w) (128 * f + j) = (if j = j then g else if j < j then lsM x (F j) else F j) w := this
          rw [if_pos rfl] at this
          rw [this]
          exact (if_neg e).symm) c2
      obtain ⟨s', a1, a2, a3⟩ := ih (j + 1) k _ (by omega) (by omega) (t2.cg fun i hi w hw => by
        show (if i = j then lsM x (F j) else if i = j then g else if i < j then lsM x (F i) else F i) w = (if i < j + 1 then lsM x (F i) else F i) w
        by_cases e : i = j
        · subst e
          rw [if_pos rfl, if_pos (by omega)]
        · rw [if_neg e, if_neg e]
          by_cases e2 : i < j
          · rw [if_pos e2, if_pos (by omega)]
          · rw [if_neg e2, if_neg (by omega)])
      refine ⟨s', by rw [e85]; exact a1, a2, ((c1.trans c2).mono fun a q z => by omega).trans a3⟩
    by_cases c1 : F j 2 = x
    · rw [if_pos c1]
      obtain ⟨s1, g1, g2, g3⟩ := d183 (s := s) (p := 128 * f + j) (by omega)
      rw [g1]
      simp only [bu_some]
      refine fin s1 (loM (F j)) (h.up (by omega) (fun w hw => ?_) g3) g3 (fun w hw => ?_)
      · rw [g2 w hw]
        unfold loM
        by_cases e : w = 1
        · rw [if_pos e, if_pos e]
          exact row 1 (by omega)
        · rw [if_neg e, if_neg e]
      · unfold lsM
        rw [if_pos c1]
        have hm : loM (F j) 2 = -1 := by
          unfold loM loF plF
          rfl
        have hle : (-1 : Int32) ≤ x := by rw [iLe]; show (-1 : Int) ≤ x.toInt; omega
        show (if w = 2 then (if loM (F j) 2 ≤ x then loM (F j) 2 else loM (F j) 2 - 1) else loM (F j) w) = loM (F j) w
        by_cases e : w = 2
        · subst e
          rw [if_pos rfl, hm, if_pos hle]
        · rw [if_neg e]
    · rw [if_neg c1]
      refine fin s (F j) (h.cg fun i hi w hw => ?_) (ch.refl _ s) (fun w hw => ?_)
      · show (if i < j then lsM x (F i) else F i) w = (if i = j then F j else if i < j then lsM x (F i) else F i) w
        by_cases e : i = j
        · subst e
          rw [if_neg (by omega), if_pos rfl]
        · rw [if_neg e]
      · unfold lsM
        rw [if_neg c1]
        by_cases c2 : F j 2 ≤ x
        · rw [if_pos c2, if_pos c2]
          show (if w = 2 then F j 2 else F j w) = F j w
          by_cases e : w = 2
          · subst e
            rw [if_pos rfl]
          · rw [if_neg e]
        · rw [if_neg c2, if_neg c2]
set_option maxRecDepth 100000 in
theorem d182w {s : aS} {f : Nat} {x : Int32} {L : List Nd} {k15 : Int32 → Int32 → aS → Option aS} (h : TM s f L) (hf : f < 8) (hx : 0 ≤ x.toInt) : ∃ s', dm182_66 k15 5000 x (Int32.ofNat f) (128 * Int32.ofNat f) s = k15 x (Int32.ofNat (f + 1)) s' ∧ TM s' f (L.map (lsM x)) ∧ ch (fun a q => (128 ≤ a ∧ a ≤ 136) ∧ 128 * f ≤ q ∧ q < 128 * f + 128) s s' := by
  have h8 := h.2.1
  obtain ⟨s', g1, g2, g3⟩ := d182v (f := f) (x := x) (k15 := k15) (F := fun i => L.getD i (fun _ => 0)) hf hx L.length 0 5000 s (by omega) (by omega) (h.f.cg fun i hi w hw => by
    show L.getD i (fun _ => 0) w = (if i < 0 then _ else L.getD i (fun _ => 0)) w
    rw [if_neg (by omega)])
  have em : 128 * Int32.ofNat f = Int32.ofNat (128 * f + 0) := by
    have := i128 (f := f) (i := 0) (by omega) (by omega)
    have z : 128 * Int32.ofNat f + Int32.ofNat 0 = 128 * Int32.ofNat f := Int32.add_zero _
    rw [z] at this
    exact this
  refine ⟨s', by rw [em]; exact g1, g2.c (by rw [List.length_map]) fun i hi w hw => ?_, g3.mono fun a q z => by omega⟩
  rw [List.length_map] at hi
  show lsM x (L.getD i (fun _ => 0)) w = _
  rw [List.getElem_map, List.getD, List.getElem?_eq_getElem hi]
  rfl
