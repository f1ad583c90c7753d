/-! same in the reference -/
def smP (d e : Nd) (a b : List Int32) : Prop := (∀ v, v < 9 → d v = e v) ∧ a = b
set_option maxRecDepth 100000 in
theorem d248a {s : aS} {x1 x2 x4 x5 x6 : Int32} {d e : Nd} {k31 : Int32 → Int32 → Int32 → Int32 → aS → Option (Int32 × aS)} (ha : ∀ w, w < 9 → dm245 x5 (Int32.ofNat w) s = some (d w)) (hb : ∀ w, w < 9 → dm245 x6 (Int32.ofNat w) s = some (e w)) : ∀ (m w n : Nat) (p : Prop), w + m = 9 → m < n → dm248_51 k31 n x1 x2 (b01 p) x4 x5 x6 (Int32.ofNat w) s = dm248_73 k31 5000 x1 x2 (b01 (p ∧ ∀ v, w ≤ v → v < 9 → d v = e v)) x4 x5 x6 0 s := by
  intro m
  induction m with
  | zero =>
    intro w n p hw hn
    obtain ⟨n, rfl⟩ : ∃ q, n = q + 1 := ⟨n - 1, by omega⟩
    rw [dm248_51, if_pos (by rw [iLe, iOfNat (by omega)]; show (9 : Int) ≤ w; omega)]
    rw [b01_c (show p ↔ (p ∧ ∀ v, w ≤ v → v < 9 → d v = e v) from ⟨fun q => ⟨q, fun v h1 h2 => by omega⟩, fun q => q.1⟩)]
  | succ m ih =>
    intro w n p hw hn
    obtain ⟨n, rfl⟩ : ∃ q, n = q + 1 := ⟨n - 1, by omega⟩
    have hT := ih (w + 1) n True (by omega) (by omega)
    have hF := ih (w + 1) n False (by omega) (by omega)
    rw [b01_t trivial] at hT
    rw [b01_f id] at hF
    rw [dm248_51, if_neg (by rw [iLe, iOfNat (by omega)]; show ¬ (9 : Int) ≤ w; omega), ha w (by omega), hb w (by omega)]
    simp only [bu_some]
    unfold dm248_67 dm248_68
    rw [ofNat_succ (by omega), hT, hF]
    by_cases hp : p
    · rw [b01_t hp, if_neg (by decide)]
      by_cases q : d w = e w
      · rw [if_pos q, b01_c (show (True ∧ ∀ v, w + 1 ≤ v → v < 9 → d v = e v) ↔ (p ∧ ∀ v, w ≤ v → v < 9 → d v = e v) from ⟨fun z => ⟨hp, fun v h1 h2 => by
          by_cases hv : v = w
          · rw [hv]; exact q
          · exact z.2 v (by omega) h2⟩, fun z => ⟨trivial, fun v h1 h2 => z.2 v (by omega) h2⟩⟩)]
      · rw [if_neg q, b01_c (show (False ∧ ∀ v, w + 1 ≤ v → v < 9 → d v = e v) ↔ (p ∧ ∀ v, w ≤ v → v < 9 → d v = e v) from ⟨fun z => absurd z.1 id, fun z => absurd (z.2 w (Nat.le_refl _) (by omega)) q⟩)]
    · rw [b01_f hp, if_pos rfl, b01_c (show (False ∧ ∀ v, w + 1 ≤ v → v < 9 → d v = e v) ↔ (p ∧ ∀ v, w ≤ v → v < 9 → d v = e v) from ⟨fun z => absurd z.1 id, fun z => absurd z.1 hp⟩)]
set_option maxRecDepth 100000 in
theorem d248n {s : aS} {x1 x2 x4 x5 x6 : Int32} {d e : Nd} {a b : List Int32} {k31 : Int32 → Int32 → Int32 → Int32 → aS → Option (Int32 × aS)} (ha : ∀ w, w < 9 → dm245 x5 (Int32.ofNat w) s = some (d w)) (hb : ∀ w, w < 9 → dm245 x6 (Int32.ofNat w) s = some (e w)) (ga : ∀ k : Int32, 0 ≤ k.toInt → dm247 x1 x5 k s = some (a.getD k.toInt.toNat (-1))) (gb : ∀ k : Int32, 0 ≤ k.toInt → dm247 x2 x6 k s = some (b.getD k.toInt.toNat (-1))) (pa : ∀ x ∈ a, 0 ≤ x.toInt) (pb : ∀ x ∈ b, 0 ≤ x.toInt) (la : a.length ≤ 256) (lb : b.length ≤ 256) (p : Prop) : dm248_51 k31 5000 x1 x2 (b01 p) x4 x5 x6 0 s = k31 x1 x2 (b01 (p ∧ smP d e a b)) (x4 + 1) s := by
  have h1 := d248a (k31 := k31) (x1 := x1) (x2 := x2) (x4 := x4) ha hb 9 0 5000 p (by omega) (by omega)
  have h1 : dm248_51 k31 5000 x1 x2 (b01 p) x4 x5 x6 0 s = _ := h1
  rw [h1]
  by_cases q : p ∧ ∀ v, 0 ≤ v → v < 9 → d v = e v
  · rw [b01_t q]
    have h2 := d248c (k31 := k31) (x4 := x4) ga gb pa pb la lb 256 0 5000 ⟨by omega, by omega⟩ (by omega) (by omega)
    have h2 : dm248_73 k31 5000 x1 x2 1 x4 x5 x6 0 s = _ := h2
    rw [h2]
    unfold dm248_104
    rw [List.drop_zero, List.drop_zero]
    congr 1
    exact b01_c ⟨fun z => ⟨q.1, fun v hv => q.2 v (Nat.zero_le _) hv, z⟩, fun z => z.2.2⟩
  · rw [b01_f q, dm248_73, if_pos rfl, b01_f (p := p ∧ smP d e a b) (fun z => q ⟨z.1, fun v _ hv => z.2.1 v hv⟩)]
    rfl
set_option maxRecDepth 100000 in
theorem d248l {s : aS} {f g N : Nat} {F G : Nat → Nd} {la lb : Nat → List Int32} (hf : f < 8) (hg : g < 8) (h8 : N ≤ 128) (hN : sI s 127 f = Int32.ofNat N) (tf : ∀ i, i < N → RI s (128 * f + i) (F i)) (tg : ∀ i, i < N → RI s (128 * g + i) (G i)) (nf : ∀ i, i < N → NM s f (128 * f + i) (F i 0) (la i)) (ng : ∀ i, i < N → NM s g (128 * g + i) (G i 0) (lb i)) (pa : ∀ i, i < N → (la i).length ≤ 256 ∧ ∀ x ∈ la i, 0 ≤ x.toInt) (pb : ∀ i, i < N → (lb i).length ≤ 256 ∧ ∀ x ∈ lb i, 0 ≤ x.toInt) : ∀ (m j n : Nat) (p : Prop), j + m = N → m < n → dm248_31 n (Int32.ofNat f) (Int32.ofNat g) (b01 p) (Int32.ofNat j) s = some (b01 (p ∧ ∀ i, j ≤ i → i < N → smP (F i) (G i) (la i) (lb i)), s) := by
  intro m
  induction m with
  | zero =>
    intro j n p hj hn
    obtain ⟨n, rfl⟩ : ∃ q, n = q + 1 := ⟨n - 1, by omega⟩
    rw [dm248_31, if_pos (by rw [aB_iff, iOfNat (by omega)]; omega), jN_of (by omega), hN, if_pos (by rw [iLe, iOfNat (by omega), iOfNat (by omega)]; omega), if_pos (b01_01 p), b01_c (show p ↔ (p ∧ ∀ i, j ≤ i → i < N → smP (F i) (G i) (la i) (lb i)) from ⟨fun q => ⟨q, fun v h1 h2 => by omega⟩, fun q => q.1⟩)]
  | succ m ih =>
    intro j n p hj hn
    obtain ⟨n, rfl⟩ : ∃ q, n = q + 1 := ⟨n - 1, by omega⟩
    have rowM : ∀ (f : Nat) (d : Nd), f < 8 → RI s (128 * f + j) d → ∀ w, w < 9 → dm245 (Int32.ofNat (128 * f + j)) (Int32.ofNat w) s = some (d w) := by
      intro f d hf h w hw
      have hb : aB (Int32.ofNat (128 * f + j)) 1152 := by rw [aB_iff, iOfNat (by omega)]; omega
      have ej : jN (Int32.ofNat (128 * f + j)) = 128 * f + j := jN_of (by omega)
      have e := h w hw
      unfold dm245
      match w, hw with
      | 0, _ => rw [if_pos (by decide), if_pos hb, ej, e]
      | 1, _ => rw [if_neg (by decide), if_pos (by decide), if_pos hb, ej, e]
      | 2, _ => rw [if_neg (by decide), if_neg (by decide), if_pos (by decide), if_pos hb, ej, e]
      | 3, _ => rw [if_neg (by decide), if_neg (by decide), if_neg (by decide), if_pos (by decide), if_pos hb, ej, e]
      | 4, _ => rw [if_neg (by decide), if_neg (by decide), if_neg (by decide), if_neg (by decide), if_pos (by decide), if_pos hb, ej, e]
      | 5, _ => rw [if_neg (by decide), if_neg (by decide), if_neg (by decide), if_neg (by decide), if_neg (by decide), if_pos (by decide), if_pos hb, ej, e]
      | 6, _ => rw [if_neg (by decide), if_neg (by decide), if_neg (by decide), if_neg (by decide), if_neg (by decide), if_neg (by decide), if_pos (by decide), if_pos hb, ej, e]
      | 7, _ => rw [if_neg (by decide), if_neg (by decide), if_neg (by decide), if_neg (by decide), if_neg (by decide), if_neg (by decide), if_neg (by decide), if_pos (by decide), if_pos hb, ej, e]
      | 8, _ => rw [if_neg (by decide), if_neg (by decide), if_neg (by decide), if_neg (by decide), if_neg (by decide), if_neg (by decide), if_neg (by decide), if_neg (by decide), if_pos hb, ej, e]
    have letM : ∀ (f : Nat) (d : Nd) (l : List Int32), f < 8 → RI s (128 * f + j) d → NM s f (128 * f + j) (d 0) l → ∀ k : Int32, 0 ≤ k.toInt → dm247 (Int32.ofNat f) (Int32.ofNat (128 * f + j)) k s = some (l.getD k.toInt.toNat (-1)) := by
      intro f d l hf h hm k hk
      rw [d247 (by omega) (by omega) (h 0 (by omega)) hm k, if_neg (by omega)]
    rw [dm248_31, if_pos (by rw [aB_iff, iOfNat (by omega)]; omega), jN_of (by omega), hN, if_neg (by rw [iLe, iOfNat (by omega), iOfNat (by omega)]; omega), i128 (by omega) (by omega), i128 (by omega) (by omega), d248n (rowM f (F j) hf (tf j (by omega))) (rowM g (G j) hg (tg j (by omega))) (letM f (F j) (la j) hf (tf j (by omega)) (nf j (by omega))) (letM g (G j) (lb j) hg (tg j (by omega)) (ng j (by omega))) (pa j (by omega)).2 (pb j (by omega)).2 (pa j (by omega)).1 (pb j (by omega)).1 p, ofNat_succ (by omega), ih (j + 1) n (p ∧ smP (F j) (G j) (la j) (lb j)) (by omega) (by omega)]
    rw [b01_c (show ((p ∧ smP (F j) (G j) (la j) (lb j)) ∧ ∀ i, j + 1 ≤ i → i < N → smP (F i) (G i) (la i) (lb i)) ↔ (p ∧ ∀ i, j ≤ i → i < N → smP (F i) (G i) (la i) (lb i)) from ⟨fun z => ⟨z.1.1, fun i h1 h2 => by
      by_cases hi : i = j
      · rw [hi]; exact z.1.2
      · exact z.2 i (by omega) h2⟩, fun z => ⟨⟨z.1, z.2 j (Nat.le_refl _) (by omega)⟩, fun i h1 h2 => z.2 i (by omega) h2⟩⟩)]
