/-! the reference's writer: pieces that tell the next node -/
def Ev (w : List Int32) (D : Option (Int32 × aS)) (s : aS) (v : Int32) : Prop := ∃ s', D = some (v, s') ∧ ch wrA s s' ∧ ∀ l k, WM s l k → l.length + w.length < 800000 → WM s' (l ++ w) k
set_option maxRecDepth 100000 in
theorem Ev.n (v : Int32) (s : aS) : Ev [] (some (v, s)) s v := ⟨s, rfl, ch.refl _ s, fun l k h _ => by rw [List.append_nil]; exact h⟩
set_option maxRecDepth 100000 in
theorem Er.v {w1 w2 : List Int32} {D : Option aS} {K : aS → Option (Int32 × aS)} {s : aS} {v : Int32} (h : Er w1 D s) (g : ∀ s1, ch wrA s s1 → Ev w2 (K s1) s1 v) : Ev (w1 ++ w2) (bu D K) s v := by
  obtain ⟨s1, h1, h2, h3⟩ := h
  obtain ⟨s2, k1, k2, k3⟩ := g s1 h2
  rw [h1]
  exact ⟨s2, k1, h2.trans k2, fun l k hl hn => by
    rw [List.length_append] at hn
    rw [← List.append_assoc]
    exact k3 _ k (h3 l k hl (by omega)) (by rw [List.length_append]; omega)⟩
set_option maxRecDepth 100000 in
theorem Ev.v {w1 w2 : List Int32} {D : Option (Int32 × aS)} {K : Int32 → aS → Option (Int32 × aS)} {s : aS} {u v : Int32} (h : Ev w1 D s u) (g : ∀ s1, ch wrA s s1 → Ev w2 (K u s1) s1 v) : Ev (w1 ++ w2) (bv D K) s v := by
  obtain ⟨s1, h1, h2, h3⟩ := h
  obtain ⟨s2, k1, k2, k3⟩ := g s1 h2
  rw [h1]
  exact ⟨s2, k1, h2.trans k2, fun l k hl hn => by
    rw [List.length_append] at hn
    rw [← List.append_assoc]
    exact k3 _ k (h3 l k hl (by omega)) (by rw [List.length_append]; omega)⟩
set_option maxRecDepth 100000 in
theorem Ev.eq {w w1 : List Int32} {D : Option (Int32 × aS)} {s : aS} {v : Int32} (h : Ev w D s v) (e : w = w1) : Ev w1 D s v := by
  rw [← e]
  exact h
set_option maxRecDepth 100000 in
theorem e236 {s : aS} {f p : Nat} {rc : Int32 → Int32 → aS → Option (Int32 × aS)} {x3 v kd : Int32} {w : List Int32} (hp : p < 1152) (hk : sI s 128 p = kd) (h : ∀ s1, ch wrA s s1 → Ev w (rc (Int32.ofNat f) (Int32.ofNat p) s1) s1 v) : Ev (brT (rkM kd < x3) w) (dm236 rc (Int32.ofNat f) (Int32.ofNat p) x3 s) s v := by
  have hb : aB (Int32.ofNat p) 1152 := aB_of hp (by omega)
  unfold dm236 dm236_10 dm236_16 brT
  rw [if_pos hb, jN_of (by omega), hk, d191]
  simp only [bu_some]
  by_cases c : x3 ≤ rkM kd
  · have c2 : ¬ rkM kd < x3 := fun z => by
      have := iLt.mp z
      have := iLe.mp c
      omega
    rw [if_pos c, b01_f c2, if_pos rfl, if_pos trivial]
    refine Ev.eq (Ev.v (w2 := []) (h s (ch.refl _ s)) fun s1 c1 => ?_) (List.append_nil w)
    rw [if_pos trivial]
    exact Ev.n _ s1
  · have c2 : rkM kd < x3 := iLt.mpr (by
      have : ¬ x3.toInt ≤ (rkM kd).toInt := fun z => c (iLe.mpr z)
      omega)
    rw [if_neg c, b01_t c2, if_neg (show ¬ (1 : Int32) = 0 by decide), if_neg (show ¬ (1 : Int32) = 0 by decide)]
    refine (e235 40 s).v fun s1 c1 => ?_
    refine (h s1 c1).v fun s2 c2 => ?_
    rw [if_neg (show ¬ (1 : Int32) = 0 by decide)]
    exact Ev.eq ((e235 41 s2).v (w2 := []) fun s3 _ => Ev.n _ s3) rfl
set_option maxRecDepth 100000 in
theorem er_pos : ∀ e ∈ List.range 8, ∀ x ∈ erN e, 0 < x.toInt := by decide
set_option maxRecDepth 100000 in
theorem e117 {rc : Int32 → Int32 → aS → Option (Int32 × aS)} {p e : Nat} {v : Int32} (hp : p < 1152) (he : e < 8) (hv : ∀ x, dm204 v x = dm204 (Int32.ofNat e) x) : ∀ (m k N : Nat) (s : aS), sI s 136 p = v → k + m = (erN e).length → m < N → Ev ((erN e).drop k) (dm233_117 rc N (Int32.ofNat p) (Int32.ofNat k) s) s (Int32.ofNat (p + 1)) := by
  have hb : aB (Int32.ofNat p) 1152 := aB_of hp (by omega)
  have ej : jN (Int32.ofNat p) = p := jN_of (by omega)
  have hl := erN_len e
  intro m
  induction m with
  | zero =>
    intro k N s hs h1 h2
    obtain ⟨N, rfl⟩ : ∃ q, N = q + 1 := ⟨N - 1, by omega⟩
    rw [dm233_117]
    simp only [if_pos hb, ej, hs, hv]
    rw [d204 he (by omega), getD_out (by omega)]
    simp only [bu_some]
    rw [if_pos (by decide), List.drop_eq_nil_of_le (by omega)]
    unfold dm233_231
    rw [ofNat_succ (by omega)]
    exact Ev.n _ s
  | succ m ih =>
    intro k N s hs h1 h2
    obtain ⟨N, rfl⟩ : ∃ q, N = q + 1 := ⟨N - 1, by omega⟩
    have hk : k < (erN e).length := by omega
    have hx : (erN e).getD k 0 = (erN e)[k] := by rw [List.getD, List.getElem?_eq_getElem hk]; rfl
    have hp0 := er_pos e (List.mem_range.mpr he) _ (List.getElem_mem hk)
    rw [dm233_117]
    simp only [if_pos hb, ej, hs, hv]
    rw [d204 he (by omega), hx]
    simp only [bu_some]
    rw [if_neg (fun z => by have := iLe.mp z; have t0 : (0 : Int32).toInt = 0 := rfl; omega)]
    rw [List.drop_eq_getElem_cons hk]
    refine Er.v (w1 := [(erN e)[k]]) (w2 := (erN e).drop (k + 1)) (e235 _ s) fun s1 c1 => ?_
    rw [ofNat_succ (by omega)]
    exact ih (k + 1) N s1 ((c1.i (by unfold wrA; omega)).trans hs) (by omega) (by omega)
def byT (W : Int64) : Nat → List Int32
  | 0 => []
  | m + 1 => (((W >>> ((8 * Int32.ofNat m).toInt64 &&& 63)) &&& 255).toInt32) :: byT W m
set_option maxRecDepth 100000 in
theorem e158 {rc : Int32 → Int32 → aS → Option (Int32 × aS)} {p : Nat} {W : Int64} (hp : p < 1152) : ∀ (m N : Nat) (s : aS), m < 100 → m < N → Ev (byT W m) (dm233_158 rc N (Int32.ofNat p) W (Int32.ofNat m - 1) s) s (Int32.ofNat (p + 1))
  | 0, N, s, h1, h2 => by
    obtain ⟨N, rfl⟩ : ∃ q, N = q + 1 := ⟨N - 1, by omega⟩
    rw [dm233_158, if_pos (by decide)]
    unfold dm233_231
    rw [ofNat_succ (by omega)]
    exact Ev.n _ s
  | m + 1, N, s, h1, h2 => by
    obtain ⟨N, rfl⟩ : ∃ q, N = q + 1 := ⟨N - 1, by omega⟩
    have e : Int32.ofNat (m + 1) - 1 = Int32.ofNat m := by
      rw [ofNat_sub1 (by omega) (by omega)]
      rfl
    rw [e, dm233_158, if_neg (fun z => by have := iLt.mp z; rw [iOfNat (by omega)] at this; have t0 : (0 : Int32).toInt = 0 := rfl; omega)]
    refine Er.v (w1 := [_]) (w2 := byT W m) (e235 _ s) fun s1 _ => ?_
    have e2 : Int32.ofNat m + (-1) = Int32.ofNat m - 1 := by rw [Int32.sub_eq_add_neg]
    rw [e2]
    exact e158 hp m N s1 (by omega) (by omega)
set_option maxRecDepth 100000 in
theorem by_t : byT 1414681925 4 = trL ∧ byT 301743231813 5 = faL := by decide
set_option maxRecDepth 100000 in
theorem dbq_l : ∀ l : List Int32, dbq 34 l = dbl l
  | [] => rfl
  | x :: r => by
    show dq1 x 34 ++ dbq 34 r = if x = 34 then 34 :: 34 :: dbl r else x :: dbl r
    rw [dbq_l r]
    unfold dq1
    by_cases c : x = 34
    · rw [if_pos c, if_pos c, c]
      rfl
    · rw [if_neg c, if_neg c]
      rfl
