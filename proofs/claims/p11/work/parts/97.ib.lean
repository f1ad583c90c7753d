/-! move in the reference: the letters go along -/
def ltMv (lt : Nat → Nat → List Int32) (f g : Nat) : Nat → Nat → List Int32 := fun x i => if x = g then lt f i else lt x i
set_option maxRecDepth 100000 in
theorem d223n {s : aS} {p q : Nat} (hp : p < 1152) (hq : q < 1152) : ∃ s', dm223 (Int32.ofNat p) (Int32.ofNat q) s = some s' ∧ sI s' 137 q = sI s 137 p ∧ sI s' 138 q = sI s 138 p ∧ ch (fun a k => (128 ≤ a ∧ a ≤ 138) ∧ k = q) s s' := by
  have hbp : aB (Int32.ofNat p) 1152 := by rw [aB_iff, iOfNat (by omega)]; omega
  have hbq : aB (Int32.ofNat q) 1152 := by rw [aB_iff, iOfNat (by omega)]; omega
  have ejp : jN (Int32.ofNat p) = p := jN_of (by omega)
  have ejq : jN (Int32.ofNat q) = q := jN_of (by omega)
  unfold dm223
  simp only [if_pos hbp, if_pos hbq, nx_eq, ejp, ejq]
  refine ⟨_, rfl, ?_, ?_, (((((((((((ch.refl _ s).wI (by omega)).wI (by omega)).wI (by omega)).wI (by omega)).wI (by omega)).wI (by omega)).wI (by omega)).wI (by omega)).wI (by omega)).wI (by omega)).wI (by omega)⟩
  · simp [sI_wI]
  · simp [sI_wI]
set_option maxRecDepth 100000 in
theorem d224n {f g n : Nat} {r c ho : Int32} (hf : f < 8) (hg : g < 8) (h8 : n ≤ 128) : ∀ (m j k : Nat) (s : aS), j + m = n → m < k → sI s 127 f = Int32.ofNat n → ∃ s', dm224_44 k (Int32.ofNat f) r c ho (Int32.ofNat g) (Int32.ofNat j) s = dm224_85 5000 (Int32.ofNat f) ho (Int32.ofNat g) 0 s' ∧ (∀ i, j ≤ i → i < n → sI s' 137 (128 * g + i) = sI s 137 (128 * f + i) ∧ sI s' 138 (128 * g + i) = sI s 138 (128 * f + i)) ∧ ch (fun a q => (128 ≤ a ∧ a ≤ 138) ∧ 128 * g + j ≤ q ∧ q < 128 * g + n) s s' := by
  intro m
  induction m with
  | zero =>
    intro j k s hj hk h1
    obtain ⟨k, rfl⟩ : ∃ q, k = q + 1 := ⟨k - 1, by omega⟩
    rw [dm224_44, if_pos (by rw [aB_iff, iOfNat (by omega)]; omega), jN_of (i := f) (by omega), h1, if_pos (by rw [iLe, iOfNat (by omega), iOfNat (by omega)]; omega)]
    exact ⟨s, rfl, fun i hi hin => by omega, ch.refl _ s⟩
  | succ m ih =>
    intro j k s hj hk h1
    obtain ⟨k, rfl⟩ : ∃ q, k = q + 1 := ⟨k - 1, by omega⟩
    obtain ⟨s1, g1, g2, g4, g3⟩ := d223n (s := s) (p := 128 * f + j) (q := 128 * g + j) (by omega) (by omega)
    have hq : aB (Int32.ofNat (128 * g + j)) 1152 := by rw [aB_iff, iOfNat (by omega)]; omega
    have eq9 : jN (Int32.ofNat (128 * g + j)) = 128 * g + j := jN_of (by omega)
    rw [dm224_44, if_pos (by rw [aB_iff, iOfNat (by omega)]; omega), jN_of (i := f) (by omega), h1, if_neg (by rw [iLe, iOfNat (by omega), iOfNat (by omega)]; omega), i128 (by omega) (by omega), i128 (by omega) (by omega), g1]
    simp only [bu_some, if_pos hq, eq9]
    unfold dm224_76 dm224_81
    rw [ofNat_succ (by omega)]
    have next : ∀ s2, sI s2 137 (128 * g + j) = sI s 137 (128 * f + j) → sI s2 138 (128 * g + j) = sI s 138 (128 * f + j) → ch (fun a q => (128 ≤ a ∧ a ≤ 138) ∧ q = 128 * g + j) s s2 → ∃ s', dm224_44 k (Int32.ofNat f) r c ho (Int32.ofNat g) (Int32.ofNat (j + 1)) s2 = dm224_85 5000 (Int32.ofNat f) ho (Int32.ofNat g) 0 s' ∧ (∀ i, j ≤ i → i < n → sI s' 137 (128 * g + i) = sI s 137 (128 * f + i) ∧ sI s' 138 (128 * g + i) = sI s 138 (128 * f + i)) ∧ ch (fun a q => (128 ≤ a ∧ a ≤ 138) ∧ 128 * g + j ≤ q ∧ q < 128 * g + n) s s' := by
      intro s2 t1 t3 t2
      obtain ⟨s', a1, a2, a3⟩ := ih (j + 1) k s2 (by omega) (by omega) ((t2.i (by omega)).trans h1)
      refine ⟨s', a1, fun i hi hin => ?_, (t2.mono fun a q z => by omega).trans (a3.mono fun a q z => by omega)⟩
      by_cases e : i = j
      · subst e
        exact ⟨(a3.i (by omega)).trans t1, (a3.i (by omega)).trans t3⟩
      · obtain ⟨b1, b2⟩ := a2 i (by omega) hin
        exact ⟨b1.trans (t2.i (by omega)), b2.trans (t2.i (by omega))⟩
    have moved : ∃ s', (bu (dm226 (Int32.ofNat (128 * g + j)) r c s1) fun s3 => dm224_44 k (Int32.ofNat f) r c ho (Int32.ofNat g) (Int32.ofNat (j + 1)) s3) = dm224_85 5000 (Int32.ofNat f) ho (Int32.ofNat g) 0 s' ∧ (∀ i, j ≤ i → i < n → sI s' 137 (128 * g + i) = sI s 137 (128 * f + i) ∧ sI s' 138 (128 * g + i) = sI s 138 (128 * f + i)) ∧ ch (fun a q => (128 ≤ a ∧ a ≤ 138) ∧ 128 * g + j ≤ q ∧ q < 128 * g + n) s s' := by
      obtain ⟨s2, k1, k2, k3⟩ := d226 (s := s1) (p := 128 * g + j) (d := fun w => sI s1 (128 + w) (128 * g + j)) (by omega) (fun w hw => rfl) r c
      rw [k1]
      exact next s2 ((k3.i (by omega)).trans g2) ((k3.i (by omega)).trans g4) (g3.trans (k3.mono fun a q z => by omega))
    split
    · exact moved
    · split
      · exact moved
      · exact next s1 g2 g4 g3
set_option maxRecDepth 100000 in
theorem d224e {s : aS} {f g : Nat} {r c ho h0 : Int32} {fs : Nat → Option Fm} {lt : Nat → Nat → List Int32} {L : List Nd} (h : MM s fs) (hc : MLt s fs lt) (hf : f < 8) (hg : g < 8) (hL : fs f = some (h0, L)) : ∃ s', dm224_44 5000 (Int32.ofNat f) r c ho (Int32.ofNat g) 0 s = some s' ∧ MM s' (fsMove f g r c ho (fun r c => onRf (mvM r c)) L fs) ∧ MLt s' (fsMove f g r c ho (fun r c => onRf (mvM r c)) L fs) (ltMv lt f g) ∧ ch (fun a _ => 125 ≤ a ∧ a ≤ 139) s s' := by
  obtain ⟨s', a1, a2, a3⟩ := d224m (r := r) (c := c) (ho := ho) h hf hg hL
  obtain ⟨b1, b2, b3⟩ := (h f hf).2 h0 L hL
  have h8 := b3.2.1
  obtain ⟨s1, k1, k2, k3⟩ := d224n (r := r) (c := c) (ho := ho) hf hg h8 L.length 0 5000 s (by omega) (by omega) b3.1
  obtain ⟨s2, m1, m2, m3, m4, m5, m6⟩ := d224t (ho := ho) hf hg 256 0 5000 s1 (by omega) (by omega)
  have k1 : dm224_44 5000 (Int32.ofNat f) r c ho (Int32.ofNat g) 0 s = dm224_85 5000 (Int32.ofNat f) ho (Int32.ofNat g) 0 s1 := k1
  have m1 : dm224_85 5000 (Int32.ofNat f) ho (Int32.ofNat g) 0 s1 = some s2 := m1
  have e2 : s2 = s' := by
    have := (k1.trans m1).symm.trans a1
    exact Option.some.inj this
  subst e2
  refine ⟨s2, a1, a2, fun x hx h9 L9 q i hi => ?_, a3⟩
  unfold fsMove at q
  unfold ltMv
  by_cases e : x = g
  · subst e
    rw [if_pos rfl] at q
    rw [if_pos rfl]
    cases q
    have hi2 : i < L.length := by rw [List.length_map] at hi; exact hi
    have n0 := hc f hf h0 L hL i hi2
    rw [List.getElem_map]
    refine n0.go (fun w hw => ?_) (mv_map L[i]).1
    obtain ⟨st, r1, r2, r3, r4⟩ := hw
    obtain ⟨p1, p2⟩ := k2 i (by omega) hi2
    refine ⟨st, (m6.i (by omega)).trans (p1.trans r1), (m6.i (by omega)).trans (p2.trans r2), r3, fun j hj => ?_⟩
    rw [show 256 * x + st + j = 256 * x + (st + j) by omega, m5 (st + j) (by omega) (by omega), k3.i (by omega), show 256 * f + (st + j) = 256 * f + st + j by omega]
    exact r4 j hj
  · rw [if_neg e] at q
    rw [if_neg e]
    have n0 := hc x hx h9 L9 q i hi
    have h128 := ((h x hx).2 h9 L9 q).2.2.2.1
    refine n0.go (fun w hw => ?_) (Or.inl rfl)
    obtain ⟨st, r1, r2, r3, r4⟩ := hw
    exact ⟨st, (m6.i (by omega)).trans ((k3.i (by omega)).trans r1), (m6.i (by omega)).trans ((k3.i (by omega)).trans r2), r3, fun j hj => (m6.i (by omega)).trans ((k3.i (by omega)).trans (r4 j hj))⟩
set_option maxRecDepth 100000 in
theorem d224z {s : aS} {ns : List (List Int32)} {fs : Nat → Option Fm} (hs : SM s ns) (hn : nsOk ns) (h : MM s fs) {x1 x2 x3 x4 x5 : Int32} (hV : mvV ns fs x1 x4 x5) (hw : wayP x2 ∧ wayP x3) : dm224 x1 x2 x3 x4 x5 s = dm224_44 5000 x1 x2 x3 x4 x5 0 (wI s 121 0 0) := by
  have h8 := hn.1
  have a1 : x2 < -1048576 ↔ x2.toInt < -1048576 := iLt
  have a2 : 1048576 < x2 ↔ 1048576 < x2.toInt := iLt
  have a3 : x3 < -1048576 ↔ x3.toInt < -1048576 := iLt
  have a4 : x3 ≤ 1048576 ↔ x3.toInt ≤ 1048576 := iLe
  have l1 : x5 < 0 ↔ x5.toInt < 0 := iLt
  have l2 : 7 < x5 ↔ 7 < x5.toInt := iLt
  obtain ⟨v1, v2, v3⟩ := hV
  unfold wayP at hw
  unfold dm224
  rw [if_neg (fun q => by have := a1.mp q; omega), if_neg (fun q => by have := a2.mp q; omega), if_neg (fun q => by have := a3.mp q; omega), if_pos (a4.mpr (by omega))]
  unfold dm224_15
  rw [if_neg (fun q => by have := l1.mp q; omega), if_neg (fun q => by have := l2.mp q; omega)]
  rcases d225 h x1 with ⟨e1, e2⟩ | ⟨h0, L, e1, hx, e2, -⟩
  · exact absurd e1 v2
  · rw [e2, d181 hs h8]
    simp only [bu_some]
    rw [if_pos trivial, b01_f (fun q => q v3), if_pos rfl, if_pos trivial]
    unfold dm224_37
    rw [nx_eq]
    exact if_pos (show (0 : Int32) ≤ 0 by decide)
set_option maxRecDepth 100000 in
/-- move in the reference, with its letters -/
theorem d224x {s : aS} {ns : List (List Int32)} {fs : Nat → Option Fm} {lt : Nat → Nat → List Int32} (hs : SM s ns) (hn : nsOk ns) (h : MM s fs) (hc : MLt s fs lt) (x1 x2 x3 x4 x5 : Int32) :
    (¬ mvV ns fs x1 x4 x5 ∧ dm224 x1 x2 x3 x4 x5 s = some (wI s 121 0 1)) ∨
    (mvV ns fs x1 x4 x5 ∧ ¬ (wayP x2 ∧ wayP x3) ∧ dm224 x1 x2 x3 x4 x5 s = some (wI s 121 0 2)) ∨
    (mvV ns fs x1 x4 x5 ∧ (wayP x2 ∧ wayP x3) ∧ ∃ h0 L s', fAt fs x1 = some (h0, L) ∧ dm224 x1 x2 x3 x4 x5 s = some s' ∧ MM s' (fsMove x1.toInt.toNat x5.toInt.toNat x2 x3 x4 (fun r c => onRf (mvM r c)) L fs) ∧ MLt s' (fsMove x1.toInt.toNat x5.toInt.toNat x2 x3 x4 (fun r c => onRf (mvM r c)) L fs) (ltMv lt x1.toInt.toNat x5.toInt.toNat) ∧ sI s' 121 0 = 0 ∧ ch (fun a k => (a = 121 ∧ k = 0) ∨ (125 ≤ a ∧ a ≤ 139)) s s') := by
  rcases d224 hs hn h x1 x2 x3 x4 x5 with ⟨c1, e1⟩ | ⟨c1, c2, e1⟩ | ⟨c1, c2, h0, L, s', e0, e1, e2, e3, e4⟩
  · exact Or.inl ⟨c1, e1⟩
  · exact Or.inr (Or.inl ⟨c1, c2, e1⟩)
  · refine Or.inr (Or.inr ⟨c1, c2, h0, L, s', e0, e1, e2, ?_, e3, e4⟩)
    obtain ⟨f1, f2⟩ := fAt_s e0
    have c5 := c1.1
    obtain ⟨s2, k1, k2, k3, k4⟩ := d224e (r := x2) (c := x3) (ho := x4) (f := x1.toInt.toNat) (g := x5.toInt.toNat) (h.of (ch0 s 0) (by omega)) (hc.of (ch0 s 0) (by omega)) (by omega) (by omega) f2
    rw [← ofNat_of (x := x1) (by omega), ← ofNat_of (x := x5) (by omega), ← d224z hs hn h c1 c2, e1] at k1
    have := Option.some.inj k1
    subst this
    exact k3
