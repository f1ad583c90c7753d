/-! prefixes and words, in the reference -/
def SX (s : aS) (r : Nat → Int32) (ns : List (List Int32)) : Prop := (r 3 = Int32.ofNat ns.length ∧ ∀ i (h : i < ns.length), sI s 123 i = Int32.ofNat ns[i].length ∧ ∀ j (g : j < ns[i].length), sI s 124 (32 * i + j) = ns[i][j]) ∧ nsOk ns ∧ (sT s 122).2 = 256
set_option maxRecDepth 100000 in
theorem SX.sm {s : aS} {r : Nat → Int32} {ns : List (List Int32)} (h : SX s r ns) (i : Nat) : SM (wP s r i) ns := ⟨(wP_f (by decide)).trans h.1.1, fun k hk => ⟨(wP_n (by decide)).trans (h.1.2 k hk).1, fun j hj => (wP_n (by decide)).trans ((h.1.2 k hk).2 j hj)⟩⟩
set_option maxRecDepth 100000 in
theorem SX.of {A : Nat → Nat → Prop} {s s' : aS} {r r' : Nat → Int32} {ns : List (List Int32)} (h : SX s r ns) (g : ch A s s') (hA : ∀ a k, A a k → a ≠ 123 ∧ a ≠ 124) (hr : r' 3 = r 3) : SX s' r' ns := ⟨⟨hr.trans h.1.1, fun k hk => ⟨(g.i fun q => (hA _ _ q).1 rfl).trans (h.1.2 k hk).1, fun j hj => (g.i fun q => (hA _ _ q).2 rfl).trans ((h.1.2 k hk).2 j hj)⟩⟩, h.2.1, by rw [g.2.1]; exact h.2.2⟩
def mSh (t : List Int32) (F : List Fw) (m : Nat) (x : Int32) (f e : Nat) (c : Nat ⊕ St) : Nat ⊕ St := if 0 ≤ x then c else .inl f
set_option maxRecDepth 100000 in
theorem d206 {s : aS} {r : Nat → Int32} {t : List Int32} {e i f m : Nat} {F : List Fw} {x : Int32} (h : PR s r t e F m) (hei : e ≤ i) (hi : i < t.length) : OUT s r (dm206 x (Int32.ofNat f) (wP s r i)) (mSh t F m x f i (mCell t F m x (i + 1))) := by
  have hl := h.1.1
  unfold dm206 mSh
  by_cases c : 0 ≤ x
  · rw [if_pos c, if_pos c, nx_eq, wP_at, ofNat_succ (by omega), wP_go]
    refine d207c h (by omega) (by omega) (fun s1 r1 i1 q => ?_) (fun s1 r1 i1 q => ?_)
    · rw [wP_f (by decide), q, if_pos rfl]
    · rw [wP_f (by decide), q, if_neg (by decide)]
  · rw [if_neg c, if_neg c, d186]
    refine ⟨s, setN r 27 1, rfl, rfl, fun k hk => ?_, ch.refl _ s⟩
    unfold setN
    rw [if_neg (by omega)]
set_option maxRecDepth 100000 in
noncomputable def mPre (t : List Int32) (ns : List (List Int32)) (F : List Fw) (m i : Nat) : Nat ⊕ St := match qtA t 39 i with
  | none => .inl t.length
  | some (u, e2) => if t.getD e2 0 = 33 then mSh t F m (fndF u ns 0) i e2 (mCell t F m (fndF u ns 0) (e2 + 1)) else .inl e2
set_option maxRecDepth 100000 in
theorem PR.of {A : Nat → Nat → Prop} {s s' : aS} {r r' : Nat → Int32} {t : List Int32} {e m : Nat} {F : List Fw} (h : PR s r t e F m) (g : ch A s s') (hA : ∀ a k, A a k → a = 147) (hr : ∀ k, k ≠ 38 → k ≠ 39 → k ≠ 40 → k ≠ 41 → r' k = r k) : PR s' r' t e F m := by
  obtain ⟨hT, hG, hm, h8, het, h27, h35, h36, h34, h147⟩ := h
  have pz : ∀ I, PZ s s' e I := fun I => ⟨fun q _ => g.i fun z => by have := hA _ _ z; omega, fun k _ => ⟨⟨fun w hw => g.i fun z => by have := hA _ _ z; omega, g.i fun z => by have := hA _ _ z; omega⟩, g.i fun z => by have := hA _ _ z; omega, g.i fun z => by have := hA _ _ z; omega⟩⟩
  obtain ⟨a1, a2, a3, a4, a5, a6, a7, a8⟩ := hG
  have hnF : (idL (fl F)).Nodup := by
    have := a7.1
    rw [List.append_nil] at this
    exact this
  refine ⟨⟨hT.1, (hr 1 (by decide) (by decide) (by decide) (by decide)).trans hT.2.1, fun j hj => (g.i fun z => by have := hA _ _ z; omega).trans (hT.2.2 j hj)⟩, ⟨⟨(hr 21 (by decide) (by decide) (by decide) (by decide)).trans a1.1, a1.2⟩, (hr 32 (by decide) (by decide) (by decide) (by decide)).trans a2, ⟨(hr 33 (by decide) (by decide) (by decide) (by decide)).trans a3.1, a3.2⟩, WS.of F a4 (fun q _ => ⟨g.i fun z => by have := hA _ _ z; omega, g.i fun z => by have := hA _ _ z; omega⟩), TS.of F a5 (fun q _ => g.i fun z => by have := hA _ _ z; omega), FrAll.of a6 hnF (pz _) (Nat.le_refl _), a7, ?_⟩, hm, h8, het, (hr 27 (by decide) (by decide) (by decide) (by decide)).trans h27, (hr 35 (by decide) (by decide) (by decide) (by decide)).trans h35, (hr 36 (by decide) (by decide) (by decide) (by decide)).trans h36, (hr 34 (by decide) (by decide) (by decide) (by decide)).trans h34, by rw [g.2.1]; exact h147⟩
  rcases a8 with ⟨b1, b2⟩ | ⟨c, b1, -⟩
  · exact Or.inl ⟨b1, (hr 29 (by decide) (by decide) (by decide) (by decide)).trans b2⟩
  · have b1 : ([c] : List Nat) = [] := b1
    cases b1
set_option maxRecDepth 100000 in
theorem d205 {s : aS} {r : Nat → Int32} {t : List Int32} {ns : List (List Int32)} {e i m : Nat} {F : List Fw} (h : PR s r t e F m) (hS : SX s r ns) (hei : e ≤ i) (hi : i < t.length) : OUT s r (dm205 (wP s r i)) (mPre t ns F m i) := by
  have hl := h.1.1
  have h27 := h.2.2.2.2.2.1
  unfold dm205 mPre
  rw [wP_at]
  rcases d202 (q := 39) (by decide) h.1 h.2.2.2.2.2.2.2.2.2 hi with ⟨a1, s1, v, a2, a3⟩ | ⟨u, e2, s1, a1, a2, a3, a4, a5, a6⟩
  · rw [a1]
    refine ⟨s1, setN (setN r 38 v) 27 1, ?_, rfl, fun k hk => ?_, scr147 a3⟩
    · rw [a2]
      simp only [bu_some]
      rw [wP_f (by decide), show setN (setN r 38 v) 27 1 27 = 1 from rfl, if_neg (by decide)]
    · unfold setN
      rw [if_neg (by omega), if_neg (by omega)]
  · rw [a1]
    have hP1 : PR s1 (setN r 38 (Int32.ofNat u.length)) t e F m := h.of a6 (fun a k z => z) (fun k k1 _ _ _ => if_neg k1)
    have hS1 : SX s1 (setN r 38 (Int32.ofNat u.length)) ns := hS.of a6 (fun a k z => by omega) rfl
    have hul : u.length ≤ 256 := by
      have := a5.1
      rw [hP1.2.2.2.2.2.2.2.2.2] at this
      omega
    rw [a4]
    simp only [bu_some]
    rw [wP_f (by decide), show setN r 38 (Int32.ofNat u.length) 27 = r 27 from rfl, h27, if_pos rfl, wP_at, rch hP1.1 (by omega)]
    simp only [bu_some]
    by_cases c : t.getD e2 0 = 33
    · simp only [if_pos c]
      have he2 : e2 < t.length := in_of (p := fun x => x = 33) (d := 0) (by decide) c
      have hRW : RW (wP s1 (setN r 38 (Int32.ofNat u.length)) e2) 147 0 u := ⟨a5.1, fun j hj => (wP_n (by decide)).trans (a5.2 j hj)⟩
      have e177 := d177 (hS1.sm e2) hS1.2.1 hRW (by omega)
      rw [wP_f (by decide), show setN r 38 (Int32.ofNat u.length) 38 = Int32.ofNat u.length from rfl, show (0 : Int32) = Int32.ofNat 0 from rfl, e177]
      simp only [bu_some]
      have := d206 (f := i) (x := fndF u ns 0) hP1 (by omega) he2
      refine this.c (scr147 a6) (fun k hk => if_neg (by omega)) ?_
      cases dm206 (fndF u ns 0) (Int32.ofNat i) (wP s1 (setN r 38 (Int32.ofNat u.length)) e2) <;> rfl
    · simp only [if_neg c]
      rw [d186]
      refine ⟨s1, setN (setN r 38 (Int32.ofNat u.length)) 27 1, rfl, rfl, fun k hk => ?_, scr147 a6⟩
      unfold setN
      rw [if_neg (by omega), if_neg (by omega)]
set_option maxRecDepth 100000 in
/-- where the word that begins at i ends -/
noncomputable def wdE (t : List Int32) (i : Nat) : Nat := i + cntF gW (t.drop i)
set_option maxRecDepth 100000 in
theorem gW0 : ¬ gW 0 := by unfold gW isL isD; decide
set_option maxRecDepth 100000 in
theorem d210l {s : aS} {r : Nat → Int32} {t : List Int32} {x : Int32} (h : TX s r t) : ∀ (m i n : Nat), t.length ≤ i + m → i ≤ 300 → m < n → ∃ n', dm210_3 n x (wP s r i) = dm210_3 (n' + 1) x (wP s r (wdE t i)) := by
  have hl := h.1
  intro m
  induction m with
  | zero =>
    intro i n h1 h2 h3
    obtain ⟨n, rfl⟩ : ∃ q, n = q + 1 := ⟨n - 1, by omega⟩
    have e : wdE t i = i := by
      unfold wdE
      rw [cnt_n (p := gW) (d := 0) (by rw [getD_out (by omega)]; exact gW0)]
      rfl
    exact ⟨n, by rw [e]⟩
  | succ m ih =>
    intro i n h1 h2 h3
    obtain ⟨n, rfl⟩ : ∃ q, n = q + 1 := ⟨n - 1, by omega⟩
    by_cases c : gW (t.getD i 0)
    · obtain ⟨g1, g2⟩ := cnt_y gW0 c
      obtain ⟨n', e1⟩ := ih (i + 1) n (by omega) (by omega) (by omega)
      have e : wdE t (i + 1) = wdE t i := by unfold wdE; omega
      refine ⟨n', ?_⟩
      rw [← e, ← e1, dm210_3, wP_at, rch h (by omega)]
      simp only [bu_some, d211]
      rw [if_neg (fun q => b01_ne.mp q c), nx_eq, ofNat_succ (by omega), wP_go]
    · have e : wdE t i = i := by
        unfold wdE
        rw [cnt_n (p := gW) c]
        rfl
      exact ⟨n, by rw [e]⟩
set_option maxRecDepth 100000 in
theorem wd_b {t : List Int32} {i : Nat} (hi : i ≤ t.length) : i ≤ wdE t i ∧ wdE t i ≤ t.length ∧ ¬ gW (t.getD (wdE t i) 0) := by
  have := cnt_b (p := gW) (t := t) (i := i)
  refine ⟨?_, ?_, cnt_end gW0 t.length i (by omega)⟩
  all_goals
    unfold wdE
    omega
