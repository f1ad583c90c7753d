/-! nodes made, held, pushed, taken, in the reference -/
set_option maxRecDepth 100000 in
theorem aB_of {i n : Nat} (h : i < n) (hn : n < 1000000) : aB (Int32.ofNat i) n := by
  rw [aB_iff, iOfNat (by omega)]
  omega
def mkN (s : aS) (m : Nat) (x : Int32) : aS := wI (wI (wI (wI (wI (wI (wI (wI (wI (wI (wI (wI (wI (wI s 128 (1024 + m) x) 129 (1024 + m) 0) 130 (1024 + m) (-1)) 131 (1024 + m) 0) 132 (1024 + m) 0) 133 (1024 + m) 0) 134 (1024 + m) 0) 135 (1024 + m) 0) 136 (1024 + m) 0) 137 (1024 + m) 0) 138 (1024 + m) 0) 140 m (-1)) 141 m (-1)) 142 m (-1)
set_option maxRecDepth 100000 in
theorem d187 {s : aS} {r : Nat → Int32} {i m : Nat} {x : Int32} (hm : r 21 = Int32.ofNat m) (h8 : m < 128) : dm187 x (wP s r i) = some (Int32.ofNat m, wP (mkN s m x) (setN r 21 (Int32.ofNat (m + 1))) i) := by
  have b1 : aB (Int32.ofNat (1024 + m)) 1152 := aB_of (by omega) (by omega)
  have b2 : aB (Int32.ofNat m) 128 := aB_of (by omega) (by omega)
  have e1 : (1024 : Int32) + Int32.ofNat m = Int32.ofNat (1024 + m) := iSum (i := 1024) (j := m) (by omega) (by omega)
  have e2 : sI (wP s r i) 121 21 = Int32.ofNat m := (wP_f (by decide)).trans hm
  unfold dm187
  simp only [e2, e1, if_pos b1, if_pos b2, jN_of (show 1024 + m < 2147483648 by omega), jN_of (show m < 2147483648 by omega), nx_eq]
  rw [wP_wI (by decide), wP_wI (by decide), wP_wI (by decide), wP_wI (by decide), wP_wI (by decide), wP_wI (by decide), wP_wI (by decide), wP_wI (by decide), wP_wI (by decide), wP_wI (by decide), wP_wI (by decide), wP_wI (by decide), wP_wI (by decide), wP_wI (by decide), wP_f (by decide), hm, ofNat_succ (by omega), wP_set (by decide)]
  rfl
set_option maxRecDepth 100000 in
theorem mk_w {s : aS} {m : Nat} {x : Int32} {w : Nat} (hw : w < 11) : sI (mkN s m x) (128 + w) (1024 + m) = plF x 0 w := by
  unfold mkN
  simp only [sI_wI]
  match w, hw with
  | 0, _ => rw [if_neg (by omega), if_neg (by omega), if_neg (by omega), if_neg (by omega), if_neg (by omega), if_neg (by omega), if_neg (by omega), if_neg (by omega), if_neg (by omega), if_neg (by omega), if_neg (by omega), if_neg (by omega), if_neg (by omega), if_pos (by simp)]; rfl
  | 1, _ => rw [if_neg (by omega), if_neg (by omega), if_neg (by omega), if_neg (by omega), if_neg (by omega), if_neg (by omega), if_neg (by omega), if_neg (by omega), if_neg (by omega), if_neg (by omega), if_neg (by omega), if_neg (by omega), if_pos (by simp)]; rfl
  | 2, _ => rw [if_neg (by omega), if_neg (by omega), if_neg (by omega), if_neg (by omega), if_neg (by omega), if_neg (by omega), if_neg (by omega), if_neg (by omega), if_neg (by omega), if_neg (by omega), if_neg (by omega), if_pos (by simp)]; rfl
  | 3, _ => rw [if_neg (by omega), if_neg (by omega), if_neg (by omega), if_neg (by omega), if_neg (by omega), if_neg (by omega), if_neg (by omega), if_neg (by omega), if_neg (by omega), if_neg (by omega), if_pos (by simp)]; rfl
  | 4, _ => rw [if_neg (by omega), if_neg (by omega), if_neg (by omega), if_neg (by omega), if_neg (by omega), if_neg (by omega), if_neg (by omega), if_neg (by omega), if_neg (by omega), if_pos (by simp)]; rfl
  | 5, _ => rw [if_neg (by omega), if_neg (by omega), if_neg (by omega), if_neg (by omega), if_neg (by omega), if_neg (by omega), if_neg (by omega), if_neg (by omega), if_pos (by simp)]; rfl
  | 6, _ => rw [if_neg (by omega), if_neg (by omega), if_neg (by omega), if_neg (by omega), if_neg (by omega), if_neg (by omega), if_neg (by omega), if_pos (by simp)]; rfl
  | 7, _ => rw [if_neg (by omega), if_neg (by omega), if_neg (by omega), if_neg (by omega), if_neg (by omega), if_neg (by omega), if_pos (by simp)]; rfl
  | 8, _ => rw [if_neg (by omega), if_neg (by omega), if_neg (by omega), if_neg (by omega), if_neg (by omega), if_pos (by simp)]; rfl
  | 9, _ => rw [if_neg (by omega), if_neg (by omega), if_neg (by omega), if_neg (by omega), if_pos (by simp)]; rfl
  | 10, _ => rw [if_neg (by omega), if_neg (by omega), if_neg (by omega), if_pos (by simp)]; rfl
set_option maxRecDepth 100000 in
theorem mk_k {s : aS} {m : Nat} {x : Int32} {a : Nat} (ha : a = 140 ∨ a = 141 ∨ a = 142) : sI (mkN s m x) a m = -1 := by
  unfold mkN
  simp only [sI_wI]
  rcases ha with rfl | rfl | rfl
  · rw [if_neg (by omega), if_neg (by omega), if_pos (by simp)]
  · rw [if_neg (by omega), if_pos (by simp)]
  · rw [if_pos (by simp)]
set_option maxRecDepth 100000 in
theorem mk_c (s : aS) (m : Nat) (x : Int32) : ch (fun a k => ((128 ≤ a ∧ a ≤ 138) ∧ k = 1024 + m) ∨ ((140 ≤ a ∧ a ≤ 142) ∧ k = m)) s (mkN s m x) := by
  unfold mkN
  exact ((((((((((((((ch.refl _ s).wI (by omega)).wI (by omega)).wI (by omega)).wI (by omega)).wI (by omega)).wI (by omega)).wI (by omega)).wI (by omega)).wI (by omega)).wI (by omega)).wI (by omega)).wI (by omega)).wI (by omega)).wI (by omega)
set_option maxRecDepth 100000 in
theorem d188 {s : aS} {r : Nat → Int32} {i w : Nat} {x y : Int32} (hw : r 32 = Int32.ofNat w) (h8 : w < 300) : dm188 x y (wP s r i) = some (wP (wI (wI s 145 w x) 146 w y) (setN r 32 (Int32.ofNat (w + 1))) i) := by
  have b1 : aB (Int32.ofNat w) 300 := aB_of h8 (by omega)
  unfold dm188
  simp only [nx_eq, wP_f (show (32 : Nat) ≠ 26 by decide), hw, if_pos b1, jN_of (show w < 2147483648 by omega)]
  rw [wP_wI (by decide)]
  simp only [wP_f (show (32 : Nat) ≠ 26 by decide), hw, if_pos b1, jN_of (show w < 2147483648 by omega)]
  rw [wP_wI (by decide), wP_f (by decide), hw, ofNat_succ (by omega), wP_set (by decide)]
set_option maxRecDepth 100000 in
theorem d194 {s : aS} {r : Nat → Int32} {i c : Nat} {x : Int32} (hc : r 29 = Int32.ofNat c) (h8 : c < 130) : dm194 x (wP s r i) = some (wP (wI s 144 c x) (setN r 29 (Int32.ofNat (c + 1))) i) := by
  have b1 : aB (Int32.ofNat c) 130 := aB_of h8 (by omega)
  unfold dm194
  simp only [nx_eq, wP_f (show (29 : Nat) ≠ 26 by decide), hc, if_pos b1, jN_of (show c < 2147483648 by omega)]
  rw [wP_wI (by decide), wP_f (by decide), hc, ofNat_succ (by omega), wP_set (by decide)]
set_option maxRecDepth 100000 in
theorem d192 {s : aS} {r : Nat → Int32} {i c : Nat} (hc : r 29 = Int32.ofNat (c + 1)) (h8 : c < 130) : dm192 (wP s r i) = some (sI s 144 c, wP s (setN r 29 (Int32.ofNat c)) i) := by
  have b1 : aB (Int32.ofNat c) 130 := aB_of h8 (by omega)
  have e : Int32.ofNat (c + 1) - 1 = Int32.ofNat c := by
    have := ofNat_sub1 (n := c + 1) (by omega) (by omega)
    exact this
  unfold dm192
  simp only [nx_eq, wP_f (show (29 : Nat) ≠ 26 by decide), hc, e]
  rw [wP_set (by decide), wP_f (by decide)]
  have e2 : setN r 29 (Int32.ofNat c) 29 = Int32.ofNat c := if_pos rfl
  simp only [e2, if_pos b1, jN_of (show c < 2147483648 by omega)]
  rw [wP_n (by decide)]
set_option maxRecDepth 100000 in
/-- a child put behind the others: the first one, or one behind the last -/
theorem d193a {s : aS} {r : Nat → Int32} {i p c : Nat} {v : Int32} (hp : p < 128) (h0 : sI s 140 p = -1) (hk : sI s 129 (1024 + p) = v) : dm193 (Int32.ofNat p) (Int32.ofNat c) (wP s r i) = some (wP (wI (wI (wI s 140 p (Int32.ofNat c)) 141 p (Int32.ofNat c)) 129 (1024 + p) (v + 1)) r i) := by
  have b1 : aB (Int32.ofNat p) 128 := aB_of hp (by omega)
  have b2 : aB (Int32.ofNat (1024 + p)) 1152 := aB_of (by omega) (by omega)
  have e1 : (1024 : Int32) + Int32.ofNat p = Int32.ofNat (1024 + p) := iSum (i := 1024) (j := p) (by omega) (by omega)
  unfold dm193 dm193_19
  simp only [if_pos b1, jN_of (show p < 2147483648 by omega), wP_n (show (140 : Nat) ≠ 121 by decide), h0, nx_eq, e1, if_pos b2, jN_of (show 1024 + p < 2147483648 by omega)]
  rw [if_neg (by decide), wP_wI (by decide), wP_wI (by decide), wP_n (by decide), sI_wI, if_neg (by omega), sI_wI, if_neg (by omega), hk, wP_wI (by decide)]
set_option maxRecDepth 100000 in
theorem d193b {s : aS} {r : Nat → Int32} {i p c q z : Nat} {v : Int32} (hp : p < 128) (hz : sI s 140 p = Int32.ofNat z) (hzb : z < 128) (hq : sI s 141 p = Int32.ofNat q) (hqb : q < 128) (hk : sI s 129 (1024 + p) = v) : dm193 (Int32.ofNat p) (Int32.ofNat c) (wP s r i) = some (wP (wI (wI (wI s 142 q (Int32.ofNat c)) 141 p (Int32.ofNat c)) 129 (1024 + p) (v + 1)) r i) := by
  have b1 : aB (Int32.ofNat p) 128 := aB_of hp (by omega)
  have b3 : aB (Int32.ofNat q) 128 := aB_of hqb (by omega)
  have b2 : aB (Int32.ofNat (1024 + p)) 1152 := aB_of (by omega) (by omega)
  have e1 : (1024 : Int32) + Int32.ofNat p = Int32.ofNat (1024 + p) := iSum (i := 1024) (j := p) (by omega) (by omega)
  unfold dm193 dm193_19
  simp only [if_pos b1, jN_of (show p < 2147483648 by omega), wP_n (show (140 : Nat) ≠ 121 by decide), wP_n (show (141 : Nat) ≠ 121 by decide), hz, hq, if_pos b3, jN_of (show q < 2147483648 by omega), nx_eq, e1, if_pos b2, jN_of (show 1024 + p < 2147483648 by omega)]
  rw [if_pos (show (0 : Int32) ≤ Int32.ofNat z from (nle_iff (a := 0) (by omega) (by omega)).mpr (Nat.zero_le _)), wP_wI (by decide), wP_wI (by decide), wP_n (by decide), sI_wI, if_neg (by omega), sI_wI, if_neg (by omega), hk, wP_wI (by decide)]
/-- letters kept with a node -/
def kpF (g : Int32) (x : Int32) : Int32 := if g = 0 then x else gr x
set_option maxRecDepth 100000 in
theorem d200l {t : List Int32} {e : Nat} {g : Int32} (he : e ≤ t.length) : ∀ (m j n : Nat) (s : aS) (r : Nat → Int32), TX s r t → j + m = e → m < n → ∃ s', dm200_19 n g (Int32.ofNat j) (wP s r e) = some (wP s' r e) ∧ (∀ q, j ≤ q → q < e → sI s' 139 (2048 + q) = kpF g (t.getD q 0)) ∧ ch (fun a k => a = 139 ∧ 2048 + j ≤ k ∧ k < 2048 + e) s s' := by
  intro m
  induction m with
  | zero =>
    intro j n s r h h1 h2
    have hl := h.1
    obtain ⟨n, rfl⟩ : ∃ q, n = q + 1 := ⟨n - 1, by omega⟩
    rw [dm200_19, wP_at, if_pos ((nle_iff (by omega) (by omega)).mpr (by omega))]
    exact ⟨s, rfl, fun q a b => by omega, ch.refl _ s⟩
  | succ m ih =>
    intro j n s r h h1 h2
    have hl := h.1
    obtain ⟨n, rfl⟩ : ∃ q, n = q + 1 := ⟨n - 1, by omega⟩
    have b1 : aB (Int32.ofNat j) 256 := aB_of (by omega) (by omega)
    have b2 : aB (Int32.ofNat (2048 + j)) 2304 := aB_of (by omega) (by omega)
    have e1 : (2048 : Int32) + Int32.ofNat j = Int32.ofNat (2048 + j) := iSum (i := 2048) (j := j) (by omega) (by omega)
    have e2 : dm200_19 (n + 1) g (Int32.ofNat j) (wP s r e) = dm200_19 n g (Int32.ofNat (j + 1)) (wP (wI s 139 (2048 + j) (kpF g (t.getD j 0))) r e) := by
      rw [dm200_19, wP_at, if_neg (fun q => by have := (nle_iff (by omega) (by omega)).mp q; omega)]
      unfold dm200_40 kpF
      simp only [if_pos b1, jN_of (show j < 2147483648 by omega), tx_at h (show j < t.length by omega), d178, bu_some, e1, if_pos b2, jN_of (show 2048 + j < 2147483648 by omega), nx_eq]
      rw [wP_wI (by decide), wP_wI (by decide), ofNat_succ (by omega)]
      by_cases c : g = 0
      · rw [if_pos c, if_pos c]
      · rw [if_neg c, if_neg c]
    obtain ⟨s', a1, a2, a3⟩ := ih (j + 1) n (wI s 139 (2048 + j) (kpF g (t.getD j 0))) r (h.wr (by decide)) (by omega) (by omega)
    refine ⟨s', by rw [e2]; exact a1, fun q b c => ?_, (((ch.refl (fun a k => a = 139 ∧ 2048 + j ≤ k ∧ k < 2048 + e) s).wI ⟨rfl, by omega, by omega⟩).trans (a3.mono fun a k z => by omega))⟩
    by_cases w : q = j
    · subst w
      rw [a3.i (by omega), sI_wI, if_pos ⟨rfl, rfl⟩]
    · exact a2 q (by omega) c
set_option maxRecDepth 100000 in
theorem d200 {s : aS} {r : Nat → Int32} {t : List Int32} {p f e : Nat} {g : Int32} (h : TX s r t) (hp : p < 128) (hf : f ≤ e) (he : e ≤ t.length) : ∃ s', dm200 (Int32.ofNat p) (Int32.ofNat f) g (wP s r e) = some (wP s' r e) ∧ sI s' 137 (1024 + p) = Int32.ofNat f ∧ sI s' 138 (1024 + p) = Int32.ofNat (e - f) ∧ (∀ q, f ≤ q → q < e → sI s' 139 (2048 + q) = kpF g (t.getD q 0)) ∧ ch (fun a k => ((a = 137 ∨ a = 138) ∧ k = 1024 + p) ∨ (a = 139 ∧ 2048 + f ≤ k ∧ k < 2048 + e)) s s' := by
  have hl := h.1
  have b2 : aB (Int32.ofNat (1024 + p)) 1152 := aB_of (by omega) (by omega)
  have e1 : (1024 : Int32) + Int32.ofNat p = Int32.ofNat (1024 + p) := iSum (i := 1024) (j := p) (by omega) (by omega)
  have es : Int32.ofNat e - Int32.ofNat f = Int32.ofNat (e - f) := by
    rw [iEq, iSub (by rw [iOfNat (by omega), iOfNat (by omega)]; omega) (by rw [iOfNat (by omega), iOfNat (by omega)]; omega), iOfNat (by omega), iOfNat (by omega), iOfNat (by omega)]
    omega
  have e2 : dm200 (Int32.ofNat p) (Int32.ofNat f) g (wP s r e) = dm200_19 5000 g (Int32.ofNat f) (wP (wI (wI s 137 (1024 + p) (Int32.ofNat f)) 138 (1024 + p) (Int32.ofNat (e - f))) r e) := by
    unfold dm200
    simp only [e1, if_pos b2, jN_of (show 1024 + p < 2147483648 by omega), nx_eq]
    rw [wP_wI (by decide), wP_at, es, wP_wI (by decide)]
  obtain ⟨s', a1, a2, a3⟩ := d200l (g := g) he (e - f) f 5000 (wI (wI s 137 (1024 + p) (Int32.ofNat f)) 138 (1024 + p) (Int32.ofNat (e - f))) r ((h.wr (by decide)).wr (by decide)) (by omega) (by omega)
  refine ⟨s', by rw [e2]; exact a1, ?_, ?_, a2, (((ch.refl _ s).wI (Or.inl ⟨Or.inl rfl, rfl⟩)).wI (Or.inl ⟨Or.inr rfl, rfl⟩)).trans (a3.mono fun a k z => Or.inr z)⟩
  · rw [a3.i (by omega), sI_wI, if_neg (by omega), sI_wI, if_pos ⟨rfl, rfl⟩]
  · rw [a3.i (by omega), sI_wI, if_pos ⟨rfl, rfl⟩]
