/-! the reference's names -/
set_option maxRecDepth 100000 in
theorem fnd_or (t : List Int32) : ∀ (ns : List (List Int32)) (i : Nat), fndF t ns i = -1 ∨ ∃ k, i ≤ k ∧ k < i + ns.length ∧ fndF t ns i = Int32.ofNat k
  | [], _ => Or.inl rfl
  | n :: r, i => by
    show (if b01 (lk n t) = 0 then fndF t r (i + 1) else Int32.ofNat i) = -1 ∨ ∃ k, i ≤ k ∧ k < i + (r.length + 1) ∧ (if b01 (lk n t) = 0 then fndF t r (i + 1) else Int32.ofNat i) = Int32.ofNat k
    split
    · rcases fnd_or t r (i + 1) with h | ⟨k, h1, h2, h3⟩
      · exact Or.inl h
      · exact Or.inr ⟨k, by omega, by omega, h3⟩
    · exact Or.inr ⟨i, by omega, by omega, rfl⟩
set_option maxRecDepth 100000 in
theorem fnd_neg {t : List Int32} {ns : List (List Int32)} (h : ns.length ≤ 8) : fndF t ns 0 < 0 ↔ fndF t ns 0 = -1 := by
  rcases fnd_or t ns 0 with e | ⟨k, h1, h2, e⟩
  · rw [e]
    exact ⟨fun _ => rfl, fun _ => by decide⟩
  · rw [e, iLt, iEq, iOfNat (by omega)]
    show (k : Int) < 0 ↔ (k : Int) = -1
    omega
set_option maxRecDepth 100000 in
theorem d179l {s0 : aS} {i : Nat} {t : List Int32} (hi : i < 8) (hl : t.length ≤ 31) : ∀ (m j n : Nat) (s : aS), j + m = t.length → m < n → MT s t → (∀ k (h : k < t.length), k < j → sI s 124 (32 * i + k) = t[k]) → ch (fun a k => (a = 123 ∧ k = i) ∨ (a = 124 ∧ 32 * i ≤ k ∧ k < 32 * i + 32)) s0 s → ∃ s', dm179_8 n (Int32.ofNat i) (Int32.ofNat j) s = some s' ∧ (∀ k (h : k < t.length), sI s' 124 (32 * i + k) = t[k]) ∧ (∀ k, sI s' 123 k = sI s 123 k) ∧ ch (fun a k => (a = 123 ∧ k = i) ∨ (a = 124 ∧ 32 * i ≤ k ∧ k < 32 * i + 32)) s0 s' := by
  intro m
  induction m with
  | zero =>
    intro j n s hj hn h hk hc
    obtain ⟨n, rfl⟩ : ∃ k, n = k + 1 := ⟨n - 1, by omega⟩
    rw [dm179_8, h.1, if_pos (by rw [iLe, iOfNat (by omega), iOfNat (by omega)]; omega)]
    exact ⟨s, rfl, fun k hk9 => hk k hk9 (by omega), fun _ => rfl, hc⟩
  | succ m ih =>
    intro j n s hj hn h hk hc
    obtain ⟨n, rfl⟩ : ∃ k, n = k + 1 := ⟨n - 1, by omega⟩
    have hjl : j < t.length := by omega
    rw [dm179_8, h.1, if_neg (by rw [iLe, iOfNat (by omega), iOfNat (by omega)]; omega), if_pos (by rw [aB_iff, iOfNat (by omega)]; omega), iLin (by omega) (by omega), if_pos (by rw [aB_iff, iOfNat (by omega)]; omega), nx_eq, jN_of (by omega), jN_of (by omega), h.2 j hjl, ofNat_succ (by omega)]
    have hc1 : ch (fun a k => a = 124 ∧ k = 32 * i + j) s (wI s 124 (32 * i + j) t[j]) := (ch.refl _ s).wI ⟨rfl, rfl⟩
    obtain ⟨s', g1, g2, g3, g4⟩ := ih (j + 1) n _ (by omega) (by omega) (h.of hc1 (by omega) (by omega)) (fun k hk9 hkj => by
      rw [sI_wI]
      by_cases e : k = j
      · subst e
        rw [if_pos ⟨rfl, rfl⟩]
      · rw [if_neg (by omega)]
        exact hk k hk9 (by omega)) (hc.trans (hc1.mono fun a k q => by omega))
    exact ⟨s', g1, g2, fun k => (g3 k).trans (hc1.i (by omega)), g4⟩
set_option maxRecDepth 100000 in
theorem d179 {s : aS} {i : Nat} {t : List Int32} (h : MT s t) (hi : i < 8) (hl : t.length ≤ 31) : ∃ s', dm179 (Int32.ofNat i) s = some s' ∧ sI s' 123 i = Int32.ofNat t.length ∧ (∀ k (h : k < t.length), sI s' 124 (32 * i + k) = t[k]) ∧ ch (fun a k => (a = 123 ∧ k = i) ∨ (a = 124 ∧ 32 * i ≤ k ∧ k < 32 * i + 32)) s s' := by
  have hc1 : ch (fun a k => (a = 123 ∧ k = i) ∨ (a = 124 ∧ 32 * i ≤ k ∧ k < 32 * i + 32)) s (wI s 123 i (Int32.ofNat t.length)) := (ch.refl _ s).wI (Or.inl ⟨rfl, rfl⟩)
  obtain ⟨s', g1, g2, g3, g4⟩ := d179l (s0 := s) hi hl t.length 0 5000 _ (by omega) (by omega) (h.of hc1 (by omega) (by omega)) (fun k _ q => by omega) hc1
  refine ⟨s', ?_, (g3 i).trans (by rw [sI_wI, if_pos ⟨rfl, rfl⟩]), g2, g4⟩
  unfold dm179
  rw [if_pos (by rw [aB_iff, iOfNat (by omega)]; omega), nx_eq, jN_of (by omega), h.1]
  exact g1
set_option maxRecDepth 100000 in
/-- names by their numbers -/
theorem SM.up {s s' : aS} {ns : List (List Int32)} {i : Nat} {u : List Int32} (h : SM s ns) (ho : nsOk ns) (hi : i < ns.length) (h1 : sI s' 123 i = Int32.ofNat u.length) (h2 : ∀ k (h : k < u.length), sI s' 124 (32 * i + k) = u[k]) (hc : ch (fun a k => (a = 123 ∧ k = i) ∨ (a = 124 ∧ 32 * i ≤ k ∧ k < 32 * i + 32)) s s') : SM s' (ns.set i u) := by
  refine ⟨by rw [hc.i (by omega), h.1, List.length_set], fun j hj => ?_⟩
  rw [List.length_set] at hj
  by_cases e : j = i
  · subst e
    rw [List.getElem_set_self]
    exact ⟨h1, h2⟩
  · rw [List.getElem_set_ne (fun q => e q.symm)]
    obtain ⟨a1, a2⟩ := h.2 j hj
    have hl := (ho.2 _ (List.getElem_mem hj)).2.1
    exact ⟨(hc.i (by omega)).trans a1, fun k hk => (hc.i (by omega)).trans (a2 k hk)⟩
set_option maxRecDepth 100000 in
theorem RW.mt {s : aS} {t : List Int32} (h : MT s t) (hl : t.length ≤ 256) (hT : (sT s 122).2 = 256) : RW s 122 0 t := ⟨by omega, fun j hj => by rw [Nat.zero_add]; exact h.2 j hj⟩
set_option maxRecDepth 100000 in
theorem d174 {s : aS} {t : List Int32} {ns : List (List Int32)} (hs : SM s ns) (hn : nsOk ns) (h : MT s t) (hl : t.length ≤ 256) (hT : (sT s 122).2 = 256) :
    (¬ (nmP t ∧ fndF t ns 0 = -1) ∧ dm174 s = some (0, wI s 121 0 1)) ∨
    ((nmP t ∧ fndF t ns 0 = -1) ∧ ns.length = 8 ∧ dm174 s = some (0, wI s 121 0 2)) ∨
    ((nmP t ∧ fndF t ns 0 = -1) ∧ ns.length < 8 ∧ ∃ s', dm174 s = some (Int32.ofNat ns.length, s') ∧ SM s' (ns ++ [t]) ∧ sI s' 121 0 = 0 ∧ ch (fun a k => (a = 121 ∧ (k = 0 ∨ k = 3)) ∨ a = 123 ∨ a = 124) s s') := by
  have h8 := hn.1
  have w1 : dm174_12 s = some (0, wI s 121 0 1) := by
    unfold dm174_12 dm174_21
    rw [nx_eq]
    exact if_neg (show ¬ (1 : Int32) ≤ 0 by decide)
  have q177 : dm177 122 0 (Int32.ofNat t.length) s = some (fndF t ns 0) := d177 (o := 0) hs hn (RW.mt h hl hT) (by omega)
  unfold dm174
  rw [d175 h hl]
  simp only [bu_some]
  by_cases h1 : nmP t
  · rw [b01_t h1, if_neg (by decide), h.1, q177]
    simp only [bu_some]
    by_cases h2 : fndF t ns 0 = -1
    · right
      rw [if_pos ((fnd_neg h8).mpr h2), hs.1]
      by_cases h3 : ns.length = 8
      · left
        refine ⟨⟨h1, h2⟩, h3, ?_⟩
        rw [h3, if_pos (by decide)]
        unfold dm174_21
        rw [nx_eq]
        exact if_neg (show ¬ (2 : Int32) ≤ 0 by decide)
      · right
        refine ⟨⟨h1, h2⟩, by omega, ?_⟩
        rw [if_neg (by rw [iEq, iOfNat (by omega)]; show ¬ (ns.length : Int) = 8; omega)]
        unfold dm174_21
        have hc0 : ch (fun a k => (a = 121 ∧ (k = 0 ∨ k = 3)) ∨ a = 123 ∨ a = 124) s (wI s 121 0 0) := (ch.refl _ s).wI (Or.inl ⟨rfl, Or.inl rfl⟩)
        have hx0 : ch (fun a k => a = 121 ∧ k = 0) s (wI s 121 0 0) := (ch.refl _ s).wI ⟨rfl, rfl⟩
        obtain ⟨s', g1, g2, g3, g4⟩ := d179 (i := ns.length) (h.of hx0 (by omega) (by omega)) (by omega) h1.2.1
        have hv : sI (wI s 121 0 0) 121 3 = Int32.ofNat ns.length := (hx0.i (by omega)).trans hs.1
        have hv1 : sI s' 121 3 = Int32.ofNat ns.length := (g4.i (by omega)).trans hv
        rw [nx_eq, if_pos (show sI (wI s 121 0 0) 121 0 ≤ 0 from (by decide : (0 : Int32) ≤ 0)), hv, g1]
        simp only [bu_some, nx_eq]
        rw [hv1, sI_wI, if_pos ⟨rfl, rfl⟩, ofNat_succ (by omega)]
        have hm : Int32.ofNat (ns.length + 1) - 1 = Int32.ofNat ns.length := by
          apply Int32.toInt_inj.mp
          rw [iSub (y := 1) (by rw [iOfNat (by omega)]; show _ ≤ ((ns.length + 1 : Nat) : Int) - 1; omega) (by rw [iOfNat (by omega)]; show ((ns.length + 1 : Nat) : Int) - 1 ≤ _; omega), iOfNat (by omega), iOfNat (by omega)]
          show ((ns.length + 1 : Nat) : Int) - 1 = _
          omega
        rw [hm]
        have hc3 : ch (fun a k => a = 121 ∧ k = 3) s' (wI s' 121 3 (Int32.ofNat (ns.length + 1))) := (ch.refl _ s').wI ⟨rfl, rfl⟩
        refine ⟨_, rfl, ⟨by rw [sI_wI, if_pos ⟨rfl, rfl⟩, List.length_append]; rfl, fun i hi => ?_⟩, (hc3.i (by omega)).trans ((g4.i (by omega)).trans (by rw [sI_wI, if_pos ⟨rfl, rfl⟩])), (hc0.trans (g4.mono fun a k q => by omega)).trans (hc3.mono fun a k q => by omega)⟩
        rw [List.length_append] at hi
        have hi : i < ns.length + 1 := hi
        by_cases e : i = ns.length
        · subst e
          rw [List.getElem_append_right (Nat.le_refl _)]
          simp only [Nat.sub_self, List.getElem_cons_zero]
          exact ⟨(hc3.i (by omega)).trans g2, fun k hk => (hc3.i (by omega)).trans (g3 k hk)⟩
        · rw [List.getElem_append_left (by omega)]
          obtain ⟨a1, a2⟩ := hs.2 i (by omega)
          have hli := (hn.2 _ (List.getElem_mem (by omega : i < ns.length))).2.1
          exact ⟨(hc3.i (by omega)).trans ((g4.i (by omega)).trans ((hx0.i (by omega)).trans a1)), fun k hk => (hc3.i (by omega)).trans ((g4.i (by omega)).trans ((hx0.i (by omega)).trans (a2 k hk)))⟩
    · left
      rw [if_neg (fun q => h2 ((fnd_neg h8).mp q)), w1]
      exact ⟨fun q => h2 q.2, rfl⟩
  · left
    rw [b01_f h1, if_pos rfl, w1]
    exact ⟨fun q => h1 q.1, rfl⟩
set_option maxRecDepth 100000 in
theorem d181 {s : aS} {ns : List (List Int32)} (h : SM s ns) (ho : ns.length ≤ 8) (x : Int32) : dm181 x s = some (b01 (¬ (0 ≤ x.toInt ∧ x.toInt < ns.length))) := by
  unfold dm181 dm181_6
  rw [h.1]
  have l1 : x < 0 ↔ x.toInt < 0 := iLt
  have l2 : x < Int32.ofNat ns.length ↔ x.toInt < (ns.length : Int) := by rw [iLt, iOfNat (by omega)]
  by_cases h1 : x < 0
  · rw [if_pos h1, b01_t]
    have := l1.mp h1
    omega
  · rw [if_neg h1]
    have h1 : ¬ x.toInt < 0 := fun q => h1 (l1.mpr q)
    by_cases h2 : x < Int32.ofNat ns.length
    · rw [if_pos h2, b01_f]
      have := l2.mp h2
      omega
    · rw [if_neg h2, b01_t]
      have h2 : ¬ x.toInt < (ns.length : Int) := fun q => h2 (l2.mpr q)
      omega
set_option maxRecDepth 100000 in
theorem d180 {s : aS} {t : List Int32} {ns : List (List Int32)} (hs : SM s ns) (hn : nsOk ns) (h : MT s t) (hl : t.length ≤ 256) (hT : (sT s 122).2 = 256) (x : Int32) :
    (¬ (0 ≤ x.toInt ∧ x.toInt < ns.length) ∧ dm180 x s = some (wI s 121 0 1)) ∨
    ((0 ≤ x.toInt ∧ x.toInt < ns.length) ∧ ¬ (nmP t ∧ (fndF t ns 0 = -1 ∨ fndF t ns 0 = x)) ∧ dm180 x s = some (wI s 121 0 2)) ∨
    ((0 ≤ x.toInt ∧ x.toInt < ns.length) ∧ (nmP t ∧ (fndF t ns 0 = -1 ∨ fndF t ns 0 = x)) ∧ ∃ s', dm180 x s = some s' ∧ SM s' (ns.set x.toInt.toNat t) ∧ sI s' 121 0 = 0 ∧ ch (fun a k => (a = 121 ∧ k = 0) ∨ a = 123 ∨ a = 124) s s') := by
  have h8 := hn.1
  have q177 : dm177 122 0 (Int32.ofNat t.length) s = some (fndF t ns 0) := d177 (o := 0) hs hn (RW.mt h hl hT) (by omega)
  have z1 : dm180_36 x 1 s = some (wI s 121 0 1) := by
    unfold dm180_36
    rw [nx_eq]
    exact if_neg (show ¬ (1 : Int32) = 0 by decide)
  have z2 : dm180_33 x s = some (wI s 121 0 2) := by
    unfold dm180_33 dm180_36
    rw [nx_eq]
    exact if_neg (show ¬ (2 : Int32) = 0 by decide)
  have en : nmP t → dm180 x s = dm180_18 x 0 (fndF t ns 0) s := fun h1 => by
    unfold dm180 dm180_6
    rw [d175 h hl, b01_t h1, h.1, q177]
    rfl
  have ef : ¬ nmP t → dm180 x s = dm180_18 x 1 (-1) s := fun h1 => by
    unfold dm180 dm180_6
    rw [d175 h hl, b01_f h1]
    rfl
  by_cases hx : 0 ≤ x.toInt ∧ x.toInt < ns.length
  · right
    have r : dm181 x s = some 0 := by
      rw [d181 hs h8, b01_f]
      exact fun q => q hx
    have e18 : ∀ x2 y0, dm180_18 x x2 y0 s = if x2 = 0 then (if y0 < 0 then dm180_35 x s else if y0 = x then dm180_35 x s else dm180_33 x s) else dm180_33 x s := by
      intro x2 y0
      unfold dm180_18
      rw [r]
      rfl
    by_cases h1 : nmP t
    · rw [en h1, e18, if_pos rfl]
      have ok : fndF t ns 0 = -1 ∨ fndF t ns 0 = x → ∃ s', dm180_35 x s = some s' ∧ SM s' (ns.set x.toInt.toNat t) ∧ sI s' 121 0 = 0 ∧ ch (fun a k => (a = 121 ∧ k = 0) ∨ a = 123 ∨ a = 124) s s' := by
        intro _
        have hx0 : ch (fun a k => a = 121 ∧ k = 0) s (wI s 121 0 0) := (ch.refl _ s).wI ⟨rfl, rfl⟩
        have ex : x = Int32.ofNat x.toInt.toNat := by
          apply Int32.toInt_inj.mp
          rw [iOfNat (by omega)]
          omega
        obtain ⟨s', g1, g2, g3, g4⟩ := d179 (i := x.toInt.toNat) (h.of hx0 (by omega) (by omega)) (by omega) h1.2.1
        rw [← ex] at g1
        unfold dm180_35 dm180_36
        rw [nx_eq, if_pos (show sI (wI s 121 0 0) 121 0 = 0 from rfl), g1]
        have hs0 : SM (wI s 121 0 0) ns := ⟨(hx0.i (by omega)).trans hs.1, fun i hi => ⟨(hx0.i (by omega)).trans (hs.2 i hi).1, fun j hj => (hx0.i (by omega)).trans ((hs.2 i hi).2 j hj)⟩⟩
        exact ⟨s', rfl, hs0.up hn (by omega) g2 g3 g4, (g4.i (by omega)).trans (by rw [sI_wI, if_pos ⟨rfl, rfl⟩]), (hx0.mono fun a k q => by omega).trans (g4.mono fun a k q => by omega)⟩
      by_cases h2 : fndF t ns 0 = -1
      · right
        rw [if_pos ((fnd_neg h8).mpr h2)]
        exact ⟨hx, ⟨h1, Or.inl h2⟩, ok (Or.inl h2)⟩
      · rw [if_neg (fun q => h2 ((fnd_neg h8).mp q))]
        by_cases h3 : fndF t ns 0 = x
        · right
          rw [if_pos h3]
          exact ⟨hx, ⟨h1, Or.inr h3⟩, ok (Or.inr h3)⟩
        · left
          rw [if_neg h3, z2]
          refine ⟨hx, ?_, rfl⟩
          rintro ⟨-, q | q⟩
          · exact h2 q
          · exact h3 q
    · left
      rw [ef h1, e18, if_neg (by decide), z2]
      exact ⟨hx, fun q => h1 q.1, rfl⟩
  · left
    refine ⟨hx, ?_⟩
    have r : dm181 x s = some 1 := by
      rw [d181 hs h8, b01_t hx]
    have e18 : ∀ x2 y0, dm180_18 x x2 y0 s = some (wI s 121 0 1) := by
      intro x2 y0
      unfold dm180_18
      rw [r, z1]
      rfl
    by_cases h1 : nmP t
    · rw [en h1, e18]
    · rw [ef h1, e18]
