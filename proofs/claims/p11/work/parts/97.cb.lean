/-! a tree laid out as a formula, in the reference -/
set_option maxRecDepth 100000 in
theorem d223k {s : aS} {p q : Nat} (hp : p < 1152) (hq : q < 1152) : ∃ s', dm223 (Int32.ofNat p) (Int32.ofNat q) s = some s' ∧ (∀ w, w < 11 → sI s' (128 + w) q = sI s (128 + w) p) ∧ ch (fun a k => (128 ≤ a ∧ a ≤ 138) ∧ k = q) s s' := by
  have hbp : aB (Int32.ofNat p) 1152 := by rw [aB_iff, iOfNat (by omega)]; omega
  have hbq : aB (Int32.ofNat q) 1152 := by rw [aB_iff, iOfNat (by omega)]; omega
  have ejp : jN (Int32.ofNat p) = p := jN_of (by omega)
  have ejq : jN (Int32.ofNat q) = q := jN_of (by omega)
  unfold dm223
  simp only [if_pos hbp, if_pos hbq, nx_eq, ejp, ejq]
  refine ⟨_, rfl, fun w hw => ?_, (((((((((((ch.refl _ s).wI (by omega)).wI (by omega)).wI (by omega)).wI (by omega)).wI (by omega)).wI (by omega)).wI (by omega)).wI (by omega)).wI (by omega)).wI (by omega)).wI (by omega)⟩
  match w, hw with
  | 0, _ => simp [sI_wI]
  | 1, _ => simp [sI_wI]
  | 2, _ => simp [sI_wI]
  | 3, _ => simp [sI_wI]
  | 4, _ => simp [sI_wI]
  | 5, _ => simp [sI_wI]
  | 6, _ => simp [sI_wI]
  | 7, _ => simp [sI_wI]
  | 8, _ => simp [sI_wI]
  | 9, _ => simp [sI_wI]
  | 10, _ => simp [sI_wI]
set_option maxRecDepth 100000 in
theorem HF.len {s : aS} {e : Nat} : ∀ (L : List NN) (ids : List Nat), HF s e L ids → ids.length ≤ L.length
  | [], ids, q => by
    have q : ids = [] := q
    rw [q]
    exact Nat.le_refl _
  | n :: L, ids, q => by
    obtain ⟨r, ks, e1, e2, e3, e4, e5, e6⟩ := q
    have := HF.len L _ e6
    rw [e1]
    simp only [List.length_append, List.length_cons] at this ⊢
    omega
set_option maxRecDepth 100000 in
theorem d222i {k9 : Int32 → Int32 → Int32 → aS → Option aS} {x2 x3 x4 x6 : Int32} {base : Nat} : ∀ (ks : List Nat) (N : Nat) (x : Int32) (s : aS), nch s x ks → ks.length < N → base + ks.length ≤ 128 → ∃ s', dm222_46 k9 N x2 x3 x4 x6 (Int32.ofNat (base + ks.length) - 1) x s = k9 x2 x3 (x4 + x6) s' ∧ (∀ j (h : j < ks.length), sI s' 143 (base + ks.length - 1 - j) = Int32.ofNat ks[j]) ∧ ch (fun a k => a = 143 ∧ base ≤ k ∧ k < base + ks.length) s s' := by
  intro ks
  induction ks with
  | nil =>
    intro N x s h hN hb
    obtain ⟨N, rfl⟩ : ∃ q, N = q + 1 := ⟨N - 1, by simp only [List.length_nil] at hN; omega⟩
    have h : x = -1 := h
    subst h
    refine ⟨s, ?_, fun j hj => absurd hj (Nat.not_lt_zero j), ch.refl _ s⟩
    rw [dm222_46, if_pos (by decide)]
  | cons k r ih =>
    intro N x s h hN hb
    obtain ⟨N, rfl⟩ : ∃ q, N = q + 1 := ⟨N - 1, by simp only [List.length_cons] at hN; omega⟩
    simp only [List.length_cons] at hN hb
    obtain ⟨h1, h2, h3⟩ := h
    subst h1
    have e1 : Int32.ofNat (base + (k :: r).length) - 1 = Int32.ofNat (base + r.length) := by
      have := ofNat_sub1 (n := base + (r.length + 1)) (by omega) (by omega)
      rw [List.length_cons, this]
      congr 1
    have b1 : aB (Int32.ofNat (base + r.length)) 128 := aB_of (by omega) (by omega)
    have j1 : jN (Int32.ofNat (base + r.length)) = base + r.length := jN_of (by omega)
    have b2 : aB (Int32.ofNat k) 128 := aB_of h2 (by omega)
    have j2 : jN (Int32.ofNat k) = k := jN_of (by omega)
    have p0 : ¬ Int32.ofNat k < 0 := fun q => by
      have := (nlt_iff (b := 0) (by omega) (by omega)).mp q
      omega
    have e2 : Int32.ofNat (base + r.length) + (-1) = Int32.ofNat (base + r.length) - 1 := by rw [Int32.sub_eq_add_neg]
    have h3' : nch (wI s 143 (base + r.length) (Int32.ofNat k)) (sI (wI s 143 (base + r.length) (Int32.ofNat k)) 142 k) r := by
      have : sI (wI s 143 (base + r.length) (Int32.ofNat k)) 142 k = sI s 142 k := by rw [sI_wI, if_neg (by omega)]
      rw [this]
      exact nch.of r _ h3 (fun q _ => by rw [sI_wI, if_neg (by omega)])
    obtain ⟨s', a1, a2, a3⟩ := ih N _ (wI s 143 (base + r.length) (Int32.ofNat k)) h3' (by omega) (by omega)
    refine ⟨s', ?_, fun j hj => ?_, ((ch.refl (fun a k_1 => a = 143 ∧ base ≤ k_1 ∧ k_1 < base + (k :: r).length) s).wI ⟨rfl, by omega, by rw [List.length_cons]; omega⟩).trans (a3.mono fun a q z => ⟨z.1, z.2.1, by rw [List.length_cons]; have := z.2.2; omega⟩)⟩
    · rw [dm222_46, e1, if_neg p0]
      simp only [if_pos b1, j1, nx_eq, if_pos b2, j2, e2]
      exact a1
    · simp only [List.length_cons]
      cases j with
      | zero =>
        rw [show base + (r.length + 1) - 1 - 0 = base + r.length by omega, a3.i (by omega), sI_wI, if_pos ⟨rfl, rfl⟩]
        rfl
      | succ j =>
        simp only [List.length_cons] at hj
        rw [show base + (r.length + 1) - 1 - (j + 1) = base + r.length - 1 - j by omega]
        exact a2 j (by omega)
def stk (s : aS) (ids : List Nat) : Prop := ∀ j (h : j < ids.length), sI s 143 (ids.length - 1 - j) = Int32.ofNat ids[j]
set_option maxRecDepth 100000 in
theorem d222l {f e : Nat} (hf : f < 8) : ∀ (L : List NN) (ids : List Nat) (cnt N : Nat) (s : aS), HF s e L ids → (idL L).Nodup → stk s ids → cnt + L.length ≤ 128 → L.length < N → ∃ s', dm222_9 N (Int32.ofNat f) (Int32.ofNat cnt) (Int32.ofNat ids.length) s = dm222_72 5000 (Int32.ofNat f) 0 (wI s' 127 f (Int32.ofNat (cnt + L.length))) ∧ (∀ i (h : i < L.length) w, w < 11 → sI s' (128 + w) (128 * f + cnt + i) = sI s (128 + w) (1024 + L[i].1)) ∧ ch (fun a k => ((128 ≤ a ∧ a ≤ 138) ∧ 128 * f + cnt ≤ k ∧ k < 128 * f + 128) ∨ a = 143) s s' := by
  intro L
  induction L with
  | nil =>
    intro ids cnt N s h hn hs hc hN
    obtain ⟨N, rfl⟩ : ∃ q, N = q + 1 := ⟨N - 1, by simp only [List.length_nil] at hN; omega⟩
    have h : ids = [] := h
    subst h
    refine ⟨s, ?_, fun i hi => absurd hi (Nat.not_lt_zero i), ch.refl _ s⟩
    rw [dm222_9, if_pos (show Int32.ofNat ([] : List Nat).length ≤ 0 by decide), if_pos (aB_of (by omega) (by omega)), nx_eq, jN_of (by omega)]
    rfl
  | cons n L ih =>
    intro ids cnt N s h hn hs hc hN
    obtain ⟨N, rfl⟩ : ∃ q, N = q + 1 := ⟨N - 1, by simp only [List.length_cons] at hN; omega⟩
    simp only [List.length_cons] at hc hN
    have hlen0 := HF.len _ _ h
    obtain ⟨r, ks, e1, e2, e3, e4, e5, e6⟩ := h
    subst e1
    have hn : (n.1 :: idL L).Nodup := hn
    rw [List.nodup_cons] at hn
    have hlen := HF.len _ _ e6
    rw [List.length_append] at hlen
    simp only [List.length_cons] at hlen0
    have t0 : sI s 143 r.length = Int32.ofNat n.1 := by
      have := hs 0 (by simp)
      simp only [List.length_cons, List.getElem_cons_zero] at this
      rw [show r.length + 1 - 1 - 0 = r.length by omega] at this
      exact this
    have p0 : ¬ Int32.ofNat (n.1 :: r).length ≤ 0 := fun q => by
      have := (nle_iff (b := 0) (by simp only [List.length_cons]; omega) (by omega)).mp q
      simp only [List.length_cons] at this
      omega
    have eT : Int32.ofNat (n.1 :: r).length + (-1) = Int32.ofNat r.length := by
      have := ofNat_sub1 (n := r.length + 1) (by omega) (by omega)
      rw [Int32.sub_eq_add_neg] at this
      exact this
    have bT : aB (Int32.ofNat r.length) 128 := aB_of (by omega) (by omega)
    have jT : jN (Int32.ofNat r.length) = r.length := jN_of (by omega)
    have eP : (1024 : Int32) + Int32.ofNat n.1 = Int32.ofNat (1024 + n.1) := iSum (i := 1024) (j := n.1) (by omega) (by omega)
    have bP : aB (Int32.ofNat (1024 + n.1)) 1152 := aB_of (by omega) (by omega)
    have jP : jN (Int32.ofNat (1024 + n.1)) = 1024 + n.1 := jN_of (by omega)
    have bN : aB (Int32.ofNat n.1) 128 := aB_of e2 (by omega)
    have jN' : jN (Int32.ofNat n.1) = n.1 := jN_of (by omega)
    obtain ⟨s9, d1, d2, d3⟩ := d223k (s := s) (p := 1024 + n.1) (q := 128 * f + cnt) (by omega) (by omega)
    have k9 : sI s9 129 (1024 + n.1) = Int32.ofNat ks.length := (d3.i (by omega)).trans ((e3.1 1 (by decide)).trans e5)
    have f9 : sI s9 140 n.1 = sI s 140 n.1 := d3.i (by omega)
    have eK : Int32.ofNat r.length + Int32.ofNat ks.length = Int32.ofNat (r.length + ks.length) := iSum (by omega) (by omega)
    have hch9 : nch s9 (sI s 140 n.1) ks := nch.of ks _ e4 (fun k _ => d3.i (by omega))
    obtain ⟨s10, g1, g2, g3⟩ := d222i (k9 := dm222_9 N) (x2 := Int32.ofNat f) (x3 := Int32.ofNat (cnt + 1)) (x4 := Int32.ofNat r.length) (x6 := Int32.ofNat ks.length) (base := r.length) ks 5000 _ s9 hch9 (by omega) (by omega)
    have c10 : ch (fun a k => ((128 ≤ a ∧ a ≤ 138) ∧ k = 128 * f + cnt) ∨ a = 143) s s10 := (d3.mono fun a k z => Or.inl z).trans (g3.mono fun a k z => Or.inr z.1)
    have pz : PZ s s10 e (idL L) := ⟨fun q _ => c10.i (by omega), fun k _ => ⟨⟨fun w hw => c10.i (by omega), c10.i (by omega)⟩, c10.i (by omega), c10.i (by omega)⟩⟩
    have hst : stk s10 (ks ++ r) := by
      intro j hj
      rw [List.length_append] at hj ⊢
      by_cases c : j < ks.length
      · rw [List.getElem_append_left c, show ks.length + r.length - 1 - j = r.length + ks.length - 1 - j by omega]
        exact g2 j c
      · rw [List.getElem_append_right (by omega), g3.i (by omega), d3.i (by omega)]
        have := hs (j - ks.length + 1) (by simp only [List.length_cons]; omega)
        simp only [List.length_cons, List.getElem_cons_succ] at this
        rw [show ks.length + r.length - 1 - j = r.length + 1 - 1 - (j - ks.length + 1) by omega]
        exact this
    obtain ⟨s', a1, a2, a3⟩ := ih (ks ++ r) (cnt + 1) N s10 (pz.hf (Nat.le_refl _) e6 hn.2) hn.2 hst (by omega) (by omega)
    refine ⟨s', ?_, fun i hi w hw => ?_, (c10.mono fun a k z => by omega).trans (a3.mono fun a k z => by omega)⟩
    · rw [dm222_9, if_neg p0]
      simp only [eT, if_pos bT, jT, t0, eP, if_pos bP, jP, if_pos bN, jN']
      rw [i128 (by omega) (by omega), d1]
      simp only [bu_some, k9, f9]
      rw [eK, ofNat_succ (by omega), g1, eK]
      rw [List.length_append, show ks.length + r.length = r.length + ks.length by omega] at a1
      rw [a1]
      simp only [List.length_cons]
      rw [show cnt + 1 + L.length = cnt + (L.length + 1) by omega]
    · cases i with
      | zero =>
        rw [a3.i (by omega), Nat.add_zero, g3.i (by omega)]
        exact d2 w hw
      | succ i =>
        simp only [List.length_cons] at hi
        have := a2 i (by omega) w hw
        rw [show 128 * f + cnt + (i + 1) = 128 * f + (cnt + 1) + i by omega, this]
        simp only [List.getElem_cons_succ]
        exact c10.i (by omega)
set_option maxRecDepth 100000 in
theorem d222t {f tl : Nat} (hf : f < 8) (htl : tl ≤ 256) : ∀ (m j N : Nat) (s : aS), sI s 121 1 = Int32.ofNat tl → j + m = tl → m < N → ∃ s', dm222_72 N (Int32.ofNat f) (Int32.ofNat j) s = some s' ∧ (∀ q, j ≤ q → q < tl → sI s' 139 (256 * f + q) = sI s 139 (2048 + q)) ∧ ch (fun a k => a = 139 ∧ 256 * f + j ≤ k ∧ k < 256 * f + tl) s s' := by
  intro m
  induction m with
  | zero =>
    intro j N s h1 h2 h3
    obtain ⟨N, rfl⟩ : ∃ q, N = q + 1 := ⟨N - 1, by omega⟩
    rw [dm222_72, h1, if_pos ((nle_iff (by omega) (by omega)).mpr (by omega))]
    exact ⟨s, rfl, fun q a b => by omega, ch.refl _ s⟩
  | succ m ih =>
    intro j N s h1 h2 h3
    obtain ⟨N, rfl⟩ : ∃ q, N = q + 1 := ⟨N - 1, by omega⟩
    have e1 : (2048 : Int32) + Int32.ofNat j = Int32.ofNat (2048 + j) := iSum (i := 2048) (j := j) (by omega) (by omega)
    have b1 : aB (Int32.ofNat (2048 + j)) 2304 := aB_of (by omega) (by omega)
    have j1 : jN (Int32.ofNat (2048 + j)) = 2048 + j := jN_of (by omega)
    have b2 : aB (Int32.ofNat (256 * f + j)) 2304 := aB_of (by omega) (by omega)
    have j2 : jN (Int32.ofNat (256 * f + j)) = 256 * f + j := jN_of (by omega)
    obtain ⟨s', a1, a2, a3⟩ := ih (j + 1) N (wI s 139 (256 * f + j) (sI s 139 (2048 + j))) (by rw [sI_wI, if_neg (by omega)]; exact h1) (by omega) (by omega)
    refine ⟨s', ?_, fun q x y => ?_, ((ch.refl (fun a k => a = 139 ∧ 256 * f + j ≤ k ∧ k < 256 * f + tl) s).wI (by omega)).trans (a3.mono fun a k z => by omega)⟩
    · rw [dm222_72, h1, if_neg (fun q => by have := (nle_iff (by omega) (by omega)).mp q; omega), e1, i256 (by omega) (by omega)]
      simp only [if_pos b1, if_pos b2, j1, j2, nx_eq]
      rw [ofNat_succ (by omega)]
      exact a1
    · by_cases c : q = j
      · subst c
        rw [a3.i (by omega), sI_wI, if_pos ⟨rfl, rfl⟩]
      · rw [a2 q (by omega) y, sI_wI, if_neg (by omega)]
set_option maxRecDepth 100000 in
theorem d222 {s : aS} {f e c tl : Nat} {L : List NN} (hf : f < 8) (htl : tl ≤ 256) (h1 : sI s 121 1 = Int32.ofNat tl) (h : HF s e L [c]) (hn : (idL L).Nodup) (h8 : L.length ≤ 128) : ∃ s', dm222 (Int32.ofNat c) (Int32.ofNat f) s = some s' ∧ sI s' 127 f = Int32.ofNat L.length ∧ (∀ i (h : i < L.length) w, w < 11 → sI s' (128 + w) (128 * f + i) = sI s (128 + w) (1024 + L[i].1)) ∧ (∀ q, q < tl → sI s' 139 (256 * f + q) = sI s 139 (2048 + q)) ∧ ch (fun a k => ((128 ≤ a ∧ a ≤ 138) ∧ 128 * f ≤ k ∧ k < 128 * f + 128) ∨ a = 143 ∨ (a = 127 ∧ k = f) ∨ (a = 139 ∧ 256 * f ≤ k ∧ k < 256 * f + 256)) s s' := by
  have pz : PZ s (wI s 143 0 (Int32.ofNat c)) e (idL L) := PZ.st (by decide)
  have hst : stk (wI s 143 0 (Int32.ofNat c)) [c] := by
    intro j hj
    have hj : j < 1 := hj
    have : j = 0 := by omega
    subst this
    show sI (wI s 143 0 (Int32.ofNat c)) 143 0 = Int32.ofNat c
    rw [sI_wI, if_pos ⟨rfl, rfl⟩]
  obtain ⟨s1, a1, a2, a3⟩ := d222l hf L [c] 0 5000 (wI s 143 0 (Int32.ofNat c)) (pz.hf (Nat.le_refl _) h hn) hn hst (by omega) (by omega)
  obtain ⟨s2, b1, b2, b3⟩ := d222t hf htl tl 0 5000 (wI s1 127 f (Int32.ofNat (0 + L.length))) (by rw [sI_wI, if_neg (by omega), a3.i (by omega), sI_wI, if_neg (by omega)]; exact h1) (by omega) (by omega)
  have c0 : ch (fun a k => ((128 ≤ a ∧ a ≤ 138) ∧ 128 * f ≤ k ∧ k < 128 * f + 128) ∨ a = 143 ∨ (a = 127 ∧ k = f) ∨ (a = 139 ∧ 256 * f ≤ k ∧ k < 256 * f + 256)) s s2 := ((((ch.refl _ s).wI (by omega)).trans (a3.mono fun a k z => by omega)).wI (by omega)).trans (b3.mono fun a k z => by omega)
  refine ⟨s2, ?_, ?_, fun i hi w hw => ?_, fun q hq => ?_, c0⟩
  · unfold dm222
    rw [if_pos (by decide), nx_eq]
    exact a1.trans b1
  · rw [b3.i (by omega), sI_wI, if_pos ⟨rfl, rfl⟩, Nat.zero_add]
  · rw [b3.i (by omega), sI_wI, if_neg (by omega)]
    have := a2 i hi w hw
    rw [Nat.add_zero] at this
    rw [this, sI_wI, if_neg (by omega)]
  · rw [b2 q (Nat.zero_le _) hq, sI_wI, if_neg (by omega), a3.i (by omega), sI_wI, if_neg (by omega)]
