/-! the reference: nodes copied and moved -/
set_option maxRecDepth 100000 in
theorem d223 {s : aS} {p q : Nat} {d : Nd} (hp : p < 1152) (hq : q < 1152) (h : RI s p d) : ∃ s', dm223 (Int32.ofNat p) (Int32.ofNat q) s = some s' ∧ RI s' q d ∧ ch (fun a k => (128 ≤ a ∧ a ≤ 138) ∧ k = q) s s' := by
  have hbp : aB (Int32.ofNat p) 1152 := by rw [aB_iff, iOfNat (by omega)]; omega
  have hbq : aB (Int32.ofNat q) 1152 := by rw [aB_iff, iOfNat (by omega)]; omega
  have ejp : jN (Int32.ofNat p) = p := jN_of (by omega)
  have ejq : jN (Int32.ofNat q) = q := jN_of (by omega)
  have r0 : sI s 128 p = d 0 := h 0 (by omega)
  have r1 : sI s 129 p = d 1 := h 1 (by omega)
  have r2 : sI s 130 p = d 2 := h 2 (by omega)
  have r3 : sI s 131 p = d 3 := h 3 (by omega)
  have r4 : sI s 132 p = d 4 := h 4 (by omega)
  have r5 : sI s 133 p = d 5 := h 5 (by omega)
  have r6 : sI s 134 p = d 6 := h 6 (by omega)
  have r7 : sI s 135 p = d 7 := h 7 (by omega)
  have r8 : sI s 136 p = d 8 := h 8 (by omega)
  unfold dm223
  simp only [if_pos hbp, if_pos hbq, nx_eq, ejp, ejq]
  refine ⟨_, rfl, fun w hw => ?_, (((((((((((ch.refl _ s).wI (by omega)).wI (by omega)).wI (by omega)).wI (by omega)).wI (by omega)).wI (by omega)).wI (by omega)).wI (by omega)).wI (by omega)).wI (by omega)).wI (by omega)⟩
  match w, hw with
  | 0, _ => simp [sI_wI, r0]
  | 1, _ => simp [sI_wI, r1]
  | 2, _ => simp [sI_wI, r2]
  | 3, _ => simp [sI_wI, r3]
  | 4, _ => simp [sI_wI, r4]
  | 5, _ => simp [sI_wI, r5]
  | 6, _ => simp [sI_wI, r6]
  | 7, _ => simp [sI_wI, r7]
  | 8, _ => simp [sI_wI, r8]
set_option maxRecDepth 100000 in
theorem RI.of {A : Nat → Nat → Prop} {s s1 : aS} {p : Nat} {d : Nd} (h : RI s p d) (g : ch A s s1) (hA : ∀ a, ¬ A a p) : RI s1 p d := fun w hw => (g.i (hA _)).trans (h w hw)
set_option maxRecDepth 100000 in
theorem d224l {f g n : Nat} {r c ho : Int32} {F : Nat → Nd} (hf : f < 8) (hg : g < 8) (h8 : n ≤ 128) : ∀ (m j k : Nat) (s : aS), j + m = n → m < k → sI s 127 f = Int32.ofNat n → (∀ i, j ≤ i → i < n → RI s (128 * f + i) (F i)) → (∀ i, i < j → RI s (128 * g + i) (onRf (mvM r c) (F i))) → ∃ s', dm224_44 k (Int32.ofNat f) r c ho (Int32.ofNat g) (Int32.ofNat j) s = dm224_85 5000 (Int32.ofNat f) ho (Int32.ofNat g) 0 s' ∧ (∀ i, i < n → RI s' (128 * g + i) (onRf (mvM r c) (F i))) ∧ ch (fun a q => (128 ≤ a ∧ a ≤ 138) ∧ 128 * g ≤ q ∧ q < 128 * g + n) s s' := by
  intro m
  induction m with
  | zero =>
    intro j k s hj hk h1 h2 h3
    obtain ⟨k, rfl⟩ : ∃ q, k = q + 1 := ⟨k - 1, by omega⟩
    rw [dm224_44, if_pos (by rw [aB_iff, iOfNat (by omega)]; omega), jN_of (i := f) (by omega), h1, if_pos (by rw [iLe, iOfNat (by omega), iOfNat (by omega)]; omega)]
    exact ⟨s, rfl, fun i hi => h3 i (by omega), ch.refl _ s⟩
  | succ m ih =>
    intro j k s hj hk h1 h2 h3
    obtain ⟨k, rfl⟩ : ∃ q, k = q + 1 := ⟨k - 1, by omega⟩
    obtain ⟨s1, g1, g2, g3⟩ := d223 (p := 128 * f + j) (q := 128 * g + j) (by omega) (by omega) (h2 j (by omega) (by omega))
    have hq : aB (Int32.ofNat (128 * g + j)) 1152 := by rw [aB_iff, iOfNat (by omega)]; omega
    have eq9 : jN (Int32.ofNat (128 * g + j)) = 128 * g + j := jN_of (by omega)
    have e0 : sI s1 128 (128 * g + j) = F j 0 := g2 0 (by omega)
    rw [dm224_44, if_pos (by rw [aB_iff, iOfNat (by omega)]; omega), jN_of (i := f) (by omega), h1, if_neg (by rw [iLe, iOfNat (by omega), iOfNat (by omega)]; omega), i128 (by omega) (by omega), i128 (by omega) (by omega), g1]
    simp only [bu_some, if_pos hq, eq9, e0]
    unfold dm224_76 dm224_81
    rw [ofNat_succ (by omega)]
    have next : ∀ s2, RI s2 (128 * g + j) (onRf (mvM r c) (F j)) → ch (fun a q => (128 ≤ a ∧ a ≤ 138) ∧ q = 128 * g + j) s s2 → ∃ s', dm224_44 k (Int32.ofNat f) r c ho (Int32.ofNat g) (Int32.ofNat (j + 1)) s2 = dm224_85 5000 (Int32.ofNat f) ho (Int32.ofNat g) 0 s' ∧ (∀ i, i < n → RI s' (128 * g + i) (onRf (mvM r c) (F i))) ∧ ch (fun a q => (128 ≤ a ∧ a ≤ 138) ∧ 128 * g ≤ q ∧ q < 128 * g + n) s s' := by
      intro s2 t1 t2
      obtain ⟨s', a1, a2, a3⟩ := ih (j + 1) k s2 (by omega) (by omega) ((t2.i (by omega)).trans h1) (fun i hi hin => (h2 i (by omega) hin).of t2 (fun a => by omega)) (fun i hi => by
        by_cases e : i = j
        · subst e
          exact t1
        · exact (h3 i (by omega)).of t2 (fun a => by omega))
      exact ⟨s', a1, a2, (t2.mono fun a q z => by omega).trans a3⟩
    have moved : isRf (F j) → ∃ s', (bu (dm226 (Int32.ofNat (128 * g + j)) r c s1) fun s3 => dm224_44 k (Int32.ofNat f) r c ho (Int32.ofNat g) (Int32.ofNat (j + 1)) s3) = dm224_85 5000 (Int32.ofNat f) ho (Int32.ofNat g) 0 s' ∧ (∀ i, i < n → RI s' (128 * g + i) (onRf (mvM r c) (F i))) ∧ ch (fun a q => (128 ≤ a ∧ a ≤ 138) ∧ 128 * g ≤ q ∧ q < 128 * g + n) s s' := by
      intro hr
      obtain ⟨s2, k1, k2, k3⟩ := d226 (p := 128 * g + j) (by omega) g2 r c
      rw [k1]
      exact next s2 (by rw [onRf_t hr]; exact k2) (g3.trans (k3.mono fun a q z => by omega))
    by_cases c4 : F j 0 = 4
    · rw [if_pos c4]
      exact moved (Or.inl c4)
    · rw [if_neg c4]
      by_cases c5 : F j 0 = 5
      · rw [if_pos c5]
        exact moved (Or.inr c5)
      · rw [if_neg c5]
        exact next s1 (by
          rw [onRf_f]
          · exact g2
          · rintro (q | q)
            · exact c4 q
            · exact c5 q) g3
set_option maxRecDepth 100000 in
theorem i256 {f i : Nat} (hf : f < 10000) (hi : i < 100000) : (256 * Int32.ofNat f) + Int32.ofNat i = Int32.ofNat (256 * f + i) := by
  have e1 : (Int32.ofNat f).toInt = f := iOfNat (by omega)
  have e2 : (Int32.ofNat i).toInt = i := iOfNat (by omega)
  have e3 : (256 * Int32.ofNat f).toInt = 256 * f := by
    rw [iMul (x := 256) (by rw [e1]; show _ ≤ (256 : Int) * f; omega) (by rw [e1]; show (256 : Int) * f ≤ _; omega), e1]
    rfl
  apply Int32.toInt_inj.mp
  rw [iAdd (by rw [e3, e2]; omega) (by rw [e3, e2]; omega), e3, e2, iOfNat (by omega)]
  omega
set_option maxRecDepth 100000 in
theorem d224t {f g : Nat} {ho : Int32} (hf : f < 8) (hg : g < 8) : ∀ (m j k : Nat) (s : aS), j + m = 256 → m < k → ∃ s', dm224_85 k (Int32.ofNat f) ho (Int32.ofNat g) (Int32.ofNat j) s = some s' ∧ sI s' 127 g = sI s 127 f ∧ sI s' 125 g = 1 ∧ sI s' 126 g = ho ∧ (∀ q, q < 256 → j ≤ q → sI s' 139 (256 * g + q) = sI s 139 (256 * f + q)) ∧ ch (fun a q => ((a = 125 ∨ a = 126 ∨ a = 127) ∧ q = g) ∨ (a = 139 ∧ 256 * g + j ≤ q ∧ q < 256 * g + 256)) s s' := by
  intro m
  induction m with
  | zero =>
    intro j k s hj hk
    obtain ⟨k, rfl⟩ : ∃ q, k = q + 1 := ⟨k - 1, by omega⟩
    have ef : jN (Int32.ofNat f) = f := jN_of (by omega)
    have eg : jN (Int32.ofNat g) = g := jN_of (by omega)
    have bf : aB (Int32.ofNat f) 9 := by rw [aB_iff, iOfNat (by omega)]; omega
    have bg9 : aB (Int32.ofNat g) 9 := by rw [aB_iff, iOfNat (by omega)]; omega
    have bg8 : aB (Int32.ofNat g) 8 := by rw [aB_iff, iOfNat (by omega)]; omega
    rw [dm224_85, if_pos (by rw [iLe, iOfNat (by omega)]; show (256 : Int) ≤ j; omega)]
    simp only [if_pos bf, if_pos bg9, if_pos bg8, nx_eq, ef, eg]
    refine ⟨_, rfl, ?_, ?_, ?_, fun q h1 h2 => by omega, (((ch.refl _ s).wI (by omega)).wI (by omega)).wI (by omega)⟩
    · simp [sI_wI]
    · simp [sI_wI]
    · simp [sI_wI]
  | succ m ih =>
    intro j k s hj hk
    obtain ⟨k, rfl⟩ : ∃ q, k = q + 1 := ⟨k - 1, by omega⟩
    rw [dm224_85, if_neg (by rw [iLe, iOfNat (by omega)]; show ¬ (256 : Int) ≤ j; omega), i256 (by omega) (by omega), i256 (by omega) (by omega), if_pos (by rw [aB_iff, iOfNat (by omega)]; omega), if_pos (by rw [aB_iff, iOfNat (by omega)]; omega), nx_eq, jN_of (by omega), jN_of (by omega), ofNat_succ (by omega)]
    have hc1 : ch (fun a q => a = 139 ∧ q = 256 * g + j) s (wI s 139 (256 * g + j) (sI s 139 (256 * f + j))) := (ch.refl _ s).wI ⟨rfl, rfl⟩
    obtain ⟨s', a1, a2, a3, a4, a5, a6⟩ := ih (j + 1) k (wI s 139 (256 * g + j) (sI s 139 (256 * f + j))) (by omega) (by omega)
    refine ⟨s', a1, a2.trans (hc1.i (by omega)), a3, a4, fun q h1 h2 => ?_, (hc1.mono fun a q z => by omega).trans (a6.mono fun a q z => by omega)⟩
    by_cases e : q = j
    · subst e
      rw [a6.i (by omega), sI_wI, if_pos ⟨rfl, rfl⟩]
    · rw [a5 q h1 (by omega), hc1.i (by omega)]
/-- a formula becomes another one, moved -/
def fsMove (x y : Nat) (r c ho : Int32) (mv : Int32 → Int32 → Nd → Nd) (L : List Nd) (fs : Nat → Option Fm) : Nat → Option Fm := fun f => if f = y then some (ho, L.map (mv r c)) else fs f
set_option maxRecDepth 100000 in
theorem d224m {s : aS} {f g : Nat} {r c ho h0 : Int32} {fs : Nat → Option Fm} {L : List Nd} (h : MM s fs) (hf : f < 8) (hg : g < 8) (hL : fs f = some (h0, L)) : ∃ s', dm224_44 5000 (Int32.ofNat f) r c ho (Int32.ofNat g) 0 s = some s' ∧ MM s' (fsMove f g r c ho (fun r c => onRf (mvM r c)) L fs) ∧ ch (fun a _ => 125 ≤ a ∧ a ≤ 139) s s' := by
  obtain ⟨b1, b2, b3⟩ := (h f hf).2 h0 L hL
  have h8 := b3.2.1
  have hF : ∀ i (hi : i < L.length), L.getD i (fun _ => 0) = L[i] := fun i hi => by
    rw [List.getD, List.getElem?_eq_getElem hi]
    rfl
  obtain ⟨s1, k1, k2, k3⟩ := d224l (r := r) (c := c) (ho := ho) (F := fun i => L.getD i (fun _ => 0)) hf hg h8 L.length 0 5000 s (by omega) (by omega) b3.1 (fun i _ hi => by
    show RI s (128 * f + i) (L.getD i (fun _ => 0))
    rw [hF i hi]
    exact fun w hw => b3.2.2 i hi w hw) (fun i hi => by omega)
  obtain ⟨s2, m1, m2, m3, m4, -, m6⟩ := d224t (ho := ho) hf hg 256 0 5000 s1 (by omega) (by omega)
  have k1 : dm224_44 5000 (Int32.ofNat f) r c ho (Int32.ofNat g) 0 s = dm224_85 5000 (Int32.ofNat f) ho (Int32.ofNat g) 0 s1 := k1
  have m1 : dm224_85 5000 (Int32.ofNat f) ho (Int32.ofNat g) 0 s1 = some s2 := m1
  refine ⟨s2, k1.trans m1, fun x hx => ?_, (k3.mono fun a q z => by omega).trans (m6.mono fun a q z => by omega)⟩
  unfold fsMove
  by_cases e : x = g
  · subst e
    rw [if_pos rfl]
    refine ⟨fun q => (by cases q), fun h9 L9 q => ?_⟩
    cases q
    refine ⟨m3, m4, by rw [m2, k3.i (by omega), b3.1, List.length_map], by rw [List.length_map]; exact h8, fun i hi w hw => ?_⟩
    rw [List.length_map] at hi
    rw [m6.i (by omega), List.getElem_map]
    have := k2 i hi w hw
    have : sI s1 (128 + w) (128 * x + i) = onRf (mvM r c) (L.getD i (fun _ => 0)) w := this
    rw [hF i hi] at this
    exact this
  · rw [if_neg e]
    obtain ⟨a1, a2⟩ := h x hx
    refine ⟨fun q => (m6.i (by omega)).trans ((k3.i (by omega)).trans (a1 q)), fun h9 L9 q => ?_⟩
    obtain ⟨c1, c2, c3⟩ := a2 h9 L9 q
    have c8 := c3.2.1
    exact ⟨(m6.i (by omega)).trans ((k3.i (by omega)).trans c1), (m6.i (by omega)).trans ((k3.i (by omega)).trans c2), (m6.i (by omega)).trans ((k3.i (by omega)).trans c3.1), c8, fun i hi w hw => (m6.i (by omega)).trans ((k3.i (by omega)).trans (c3.2.2 i hi w hw))⟩
