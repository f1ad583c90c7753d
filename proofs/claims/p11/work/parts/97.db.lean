/-! trees in their order; the reference's writer comes to its end -/
set_option maxRecDepth 100000 in
theorem ft_sp : ∀ (L : List Nd) (n k : Nat), ft L (n + k) → ∃ T R, L = T ++ R ∧ ft T n ∧ ft R k
  | [], n, k, h => by
    have h : n + k = 0 := h
    exact ⟨[], [], rfl, show n = 0 by omega, show k = 0 by omega⟩
  | d :: L, n, k, h => by
    obtain ⟨h1, h2⟩ := h
    cases n with
    | zero => exact ⟨[], d :: L, rfl, rfl, h1 |> fun _ => by rw [Nat.zero_add] at h1 h2; exact ⟨h1, h2⟩⟩
    | succ n =>
      rw [show n + 1 + k - 1 + arN d = (n + arN d) + k by omega] at h2
      obtain ⟨T, R, e, t1, t2⟩ := ft_sp L (n + arN d) k h2
      refine ⟨d :: T, R, by rw [e]; rfl, ⟨by omega, ?_⟩, t2⟩
      rw [show n + 1 - 1 + arN d = n + arN d by omega]
      exact t1
set_option maxRecDepth 100000 in
theorem ft_ap : ∀ (A B : List Nd) (a b : Nat), ft A a → ft B b → ft (A ++ B) (a + b)
  | [], B, a, b, h, g => by
    have h : a = 0 := h
    rw [h, Nat.zero_add]
    exact g
  | d :: A, B, a, b, h, g => by
    obtain ⟨h1, h2⟩ := h
    have := ft_ap A B _ b h2 g
    exact ⟨by omega, by rw [show a + b - 1 + arN d = a - 1 + arN d + b by omega]; exact this⟩
set_option maxRecDepth 100000 in
theorem ft_0 {L : List Nd} (h : ft L 0) : L = [] := by
  cases L with
  | nil => rfl
  | cons d L => exact absurd h.1 (by decide)
def arOk (d : Nd) : Prop := (0 ≤ (d 0).toInt ∧ (d 0).toInt ≤ 22) ∧ (d 0 = 9 ∨ d 0 = 10 → d 1 = 1) ∧ (11 ≤ (d 0).toInt → d 1 = 2) ∧ (¬ (d 0 = 7 ∨ d 0 = 9 ∨ d 0 = 10 ∨ 11 ≤ (d 0).toInt) → d 1 = 0) ∧ 0 ≤ (d 1).toInt ∧ (d 1).toInt ≤ 128
def WF (s : aS) (f : Nat) (M : List Nd) (l : Nat → List Int32) (ns : List (List Int32)) : Prop := TM s f M ∧ (∀ i (h : i < M.length), NM s f (128 * f + i) (M[i] 0) (l i)) ∧ SM s ns ∧ nsOk ns ∧ ∀ d ∈ M, ndOk d ∧ arOk d ∧ (d 2).toInt < ns.length
set_option maxRecDepth 100000 in
theorem SM.wr {s s1 : aS} {ns : List (List Int32)} (h : SM s ns) (g : ch wrA s s1) : SM s1 ns := ⟨(g.i (by unfold wrA; omega)).trans h.1, fun i hi => ⟨(g.i (by unfold wrA; omega)).trans (h.2 i hi).1, fun j hj => (g.i (by unfold wrA; omega)).trans ((h.2 i hi).2 j hj)⟩⟩
set_option maxRecDepth 100000 in
theorem RL.wr {s s1 : aS} {f p : Nat} {w : List Int32} (h : RL s f p w) (g : ch wrA s s1) : RL s1 f p w := by
  obtain ⟨st, a1, a2, a3, a4⟩ := h
  exact ⟨st, (g.i (by unfold wrA; omega)).trans a1, (g.i (by unfold wrA; omega)).trans a2, a3, fun j hj => (g.i (by unfold wrA; omega)).trans (a4 j hj)⟩
set_option maxRecDepth 100000 in
theorem NM.wr {s s1 : aS} {f p : Nat} {kd : Int32} {l : List Int32} (h : NM s f p kd l) (g : ch wrA s s1) : NM s1 f p kd l := ⟨fun q => (h.1 q).wr g, fun q => (h.2.1 q).wr g, h.2.2⟩
set_option maxRecDepth 100000 in
theorem WF.of {s s1 : aS} {f : Nat} {M : List Nd} {l : Nat → List Int32} {ns : List (List Int32)} (h : WF s f M l ns) (g : ch wrA s s1) : WF s1 f M l ns := ⟨h.1.of g (fun a k z => by unfold wrA at z; omega), fun i hi => (h.2.1 i hi).wr g, h.2.2.1.wr g, h.2.2.2⟩
set_option maxRecDepth 100000 in
theorem w234 {s : aS} {f p : Nat} {w : List Int32} (hf : f < 9) (hp : p < 1152) (h : RL s f p w) : Wt (dm234 (Int32.ofNat f) (Int32.ofNat p) s) s := by
  have hb : aB (Int32.ofNat p) 1152 := aB_of hp (by omega)
  have ej : jN (Int32.ofNat p) = p := jN_of (by omega)
  have loop : ∀ (m j n : Nat) (s1 : aS), RL s1 f p w → j + m = w.length → m < n → Wt (dm234_2 n (Int32.ofNat f) (Int32.ofNat p) (Int32.ofNat j) s1) s1 := by
    intro m
    induction m with
    | zero =>
      intro j n s1 hR hj hn
      obtain ⟨n, rfl⟩ : ∃ q, n = q + 1 := ⟨n - 1, by omega⟩
      obtain ⟨st, a1, a2, a3, a4⟩ := hR
      rw [dm234_2]
      simp only [if_pos hb, ej, a2]
      rw [if_pos ((nle_iff (by omega) (by omega)).mpr (by omega))]
      exact Wt.s (ch.refl _ s1)
    | succ m ih =>
      intro j n s1 hR hj hn
      obtain ⟨n, rfl⟩ : ∃ q, n = q + 1 := ⟨n - 1, by omega⟩
      have hR0 := hR
      obtain ⟨st, a1, a2, a3, a4⟩ := hR
      rw [dm234_2]
      simp only [if_pos hb, ej, a1, a2]
      rw [if_neg (fun q => by have := (nle_iff (by omega) (by omega)).mp q; omega), i256 (by omega) (by omega), iSum (by omega) (by omega), if_pos (aB_of (n := 2304) (by omega) (by omega))]
      refine (w235 _ s1).b fun s2 c2 => Wt.t c2 ?_
      rw [ofNat_succ (by omega)]
      exact ih (j + 1) n s2 (hR0.wr c2) (by omega) (by omega)
  have hw : w.length ≤ 256 := by
    obtain ⟨st, a1, a2, a3, a4⟩ := h
    omega
  exact loop w.length 0 5000 s h (by omega) (by omega)
/-- an answer beside the state -/
def Wv (D : Option (Int32 × aS)) (s : aS) (v : Int32) : Prop := ∃ s', D = some (v, s') ∧ ch wrA s s'
set_option maxRecDepth 100000 in
theorem Wt.v {D : Option aS} {K : aS → Option (Int32 × aS)} {s : aS} {v : Int32} (h : Wt D s) (k : ∀ s1, ch wrA s s1 → Wv (K s1) s v) : Wv (bu D K) s v := by
  obtain ⟨s1, h1, h2⟩ := h
  rw [h1]
  exact k s1 h2
set_option maxRecDepth 100000 in
theorem Wv.v {D : Option (Int32 × aS)} {K : Int32 → aS → Option (Int32 × aS)} {s : aS} {u v : Int32} (h : Wv D s u) (k : ∀ s1, ch wrA s s1 → Wv (K u s1) s v) : Wv (bv D K) s v := by
  obtain ⟨s1, h1, h2⟩ := h
  rw [h1]
  exact k s1 h2
set_option maxRecDepth 100000 in
theorem Wv.t {D : Option (Int32 × aS)} {s s1 : aS} {v : Int32} (h : ch wrA s s1) (g : Wv D s1 v) : Wv D s v := by
  obtain ⟨s2, g1, g2⟩ := g
  exact ⟨s2, g1, h.trans g2⟩
set_option maxRecDepth 100000 in
theorem Wv.s {s s1 : aS} {v : Int32} (h : ch wrA s s1) : Wv (some (v, s1)) s v := ⟨s1, rfl, h⟩
set_option maxRecDepth 100000 in
theorem er_any (v : Int32) : ∃ e, e < 8 ∧ ∀ x, dm204 v x = dm204 (Int32.ofNat e) x := by
  by_cases h1 : v = 1
  · exact ⟨1, by decide, fun x => by rw [h1]; rfl⟩
  · by_cases h2 : v = 2
    · exact ⟨2, by decide, fun x => by rw [h2]; rfl⟩
    · by_cases h3 : v = 3
      · exact ⟨3, by decide, fun x => by rw [h3]; rfl⟩
      · by_cases h4 : v = 4
        · exact ⟨4, by decide, fun x => by rw [h4]; rfl⟩
        · by_cases h5 : v = 5
          · exact ⟨5, by decide, fun x => by rw [h5]; rfl⟩
          · by_cases h6 : v = 6
            · exact ⟨6, by decide, fun x => by rw [h6]; rfl⟩
            · refine ⟨7, by decide, fun x => ?_⟩
              have e1 : dm204 v x = dm204_57 x 592326465 4 := by
                unfold dm204 dm204_31
                rw [if_neg h1, if_neg h2, if_neg h3, if_neg h4, if_neg h5, if_neg h6, if_neg h1, if_neg h5, if_neg h2, if_neg h3, if_neg h4, if_neg h6]
              rw [e1]
              rfl
set_option maxRecDepth 100000 in
theorem w233e {s : aS} {rc : Int32 → Int32 → aS → Option (Int32 × aS)} {p : Nat} (hp : p < 1152) : ∀ (m k n : Nat) (s1 : aS), ch wrA s s1 → k + m = 8 → m < n → Wv (dm233_117 rc n (Int32.ofNat p) (Int32.ofNat k) s1) s1 (Int32.ofNat (p + 1)) := by
  have hb : aB (Int32.ofNat p) 1152 := aB_of hp (by omega)
  have ej : jN (Int32.ofNat p) = p := jN_of (by omega)
  have fin : ∀ s1, Wv (dm233_231 rc (Int32.ofNat p) s1) s1 (Int32.ofNat (p + 1)) := fun s1 => by
    unfold dm233_231
    rw [ofNat_succ (by omega)]
    exact Wv.s (ch.refl _ s1)
  obtain ⟨e, he, hv⟩ := er_any (sI s 136 p)
  intro m
  induction m with
  | zero =>
    intro k n s1 h0 h1 h2
    obtain ⟨n, rfl⟩ : ∃ q, n = q + 1 := ⟨n - 1, by omega⟩
    have e1 : sI s1 136 p = sI s 136 p := h0.i (by unfold wrA; omega)
    rw [dm233_117]
    simp only [if_pos hb, ej, e1, hv]
    rw [d204 he (by omega), getD_out (by have := erN_len e; omega)]
    simp only [bu_some]
    rw [if_pos (by decide)]
    exact fin s1
  | succ m ih =>
    intro k n s1 h0 h1 h2
    obtain ⟨n, rfl⟩ : ∃ q, n = q + 1 := ⟨n - 1, by omega⟩
    have e1 : sI s1 136 p = sI s 136 p := h0.i (by unfold wrA; omega)
    rw [dm233_117]
    simp only [if_pos hb, ej, e1, hv]
    rw [d204 he (by omega)]
    simp only [bu_some]
    split
    · exact fin s1
    · refine (w235 _ s1).v fun s2 c2 => Wv.t c2 ?_
      rw [ofNat_succ (by omega)]
      exact ih (k + 1) n s2 (h0.trans c2) (by omega) (by omega)
set_option maxRecDepth 100000 in
theorem w233t {rc : Int32 → Int32 → aS → Option (Int32 × aS)} {p : Nat} {W : Int64} (hp : p < 1152) : ∀ (m n : Nat) (s1 : aS), m < 100 → m < n → Wv (dm233_158 rc n (Int32.ofNat p) W (Int32.ofNat m - 1) s1) s1 (Int32.ofNat (p + 1)) := by
  intro m
  induction m with
  | zero =>
    intro n s1 h1 h2
    obtain ⟨n, rfl⟩ : ∃ q, n = q + 1 := ⟨n - 1, by omega⟩
    rw [dm233_158, if_pos (by decide)]
    unfold dm233_231
    rw [ofNat_succ (by omega)]
    exact Wv.s (ch.refl _ s1)
  | succ m ih =>
    intro n s1 h1 h2
    obtain ⟨n, rfl⟩ : ∃ q, n = q + 1 := ⟨n - 1, by omega⟩
    have e1 : Int32.ofNat (m + 1) - 1 = Int32.ofNat m := ofNat_sub1 (n := m + 1) (by omega) (by omega)
    rw [dm233_158, e1, if_neg (fun q => by have := (nlt_iff (b := 0) (by omega) (by omega)).mp q; omega)]
    refine (w235 _ s1).v fun s2 c2 => Wv.t c2 ?_
    have e2 : Int32.ofNat m + (-1) = Int32.ofNat m - 1 := by rw [Int32.sub_eq_add_neg]
    rw [e2]
    exact ih n s2 (by omega) (by omega)
set_option maxRecDepth 100000 in
theorem WF.row {s : aS} {f : Nat} {M A B : List Nd} {d : Nd} {l : Nat → List Int32} {ns : List (List Int32)} (h : WF s f M l ns) (hM : M = A ++ (d :: B)) (w : Nat) (hw : w < 9) : sI s (128 + w) (128 * f + A.length) = d w := by
  have hi : A.length < M.length := by
    rw [hM]
    simp only [List.length_append, List.length_cons]
    omega
  have := h.1.2.2 A.length hi w hw
  rw [this]
  have : M[A.length] = d := by
    have : M[A.length]? = some d := by
      rw [hM, List.getElem?_append_right (Nat.le_refl _), Nat.sub_self]
      rfl
    rw [List.getElem?_eq_getElem hi] at this
    exact Option.some.inj this
  rw [this]
