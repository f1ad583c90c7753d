/-! tokens become nodes, in the reference -/
def newB (e m : Nat) (a k : Nat) : Prop := ((128 ≤ a ∧ a ≤ 138) ∧ k = 1024 + m) ∨ ((140 ≤ a ∧ a ≤ 142) ∧ k = m) ∨ (a = 139 ∧ 2048 + e ≤ k) ∨ a = 147
set_option maxRecDepth 100000 in
theorem newB_scr {e m a k : Nat} (h : newB e m a k) : scr a k := by
  unfold newB at h
  unfold scr
  omega
set_option maxRecDepth 100000 in
theorem GM.leaf2 {s s2 : aS} {r r' : Nat → Int32} {e e' m : Nat} {F : List Fw} {n : NN} (h : GM s r e F []) (hm : (fl F).length = m) (h8 : m < 128) (hid : n.1 = m) (hc : ch (newB e m) s s2) (hNR : NR s2 e' n) (hk : n.2.1 1 = 0) (h0 : sI s2 140 m = -1) (h2 : sI s2 142 m = -1) (he : e ≤ e') (h21 : r' 21 = Int32.ofNat (m + 1)) (h29 : r' 29 = Int32.ofNat (nT F + 1)) (h32 : r' 32 = r 32) (h33 : r' 33 = r 33) : GM (wI s2 144 (nT F) (Int32.ofNat m)) r' e' F [n] := by
  refine GM.leaf h hm h8 hid ((hc.mono fun a k z => ?_).wI ?_) (fun q => ⟨?_, ?_⟩) (fun q hq => ?_) (hNR.of ?_ (fun q _ => ?_) (Nat.le_refl _)) hk ?_ ?_ ?_ he h21 h29 h32 h33
  · unfold newB at z
    unfold newA
    omega
  · unfold newA
    omega
  · rw [sI_wI, if_neg (by omega)]
    exact hc.i (by unfold newB; omega)
  · rw [sI_wI, if_neg (by omega)]
    exact hc.i (by unfold newB; omega)
  · rw [sI_wI, if_neg (by omega)]
    exact hc.i (by unfold newB; omega)
  · exact ⟨fun w hw => by rw [sI_wI, if_neg (by omega)], by rw [sI_wI, if_neg (by omega)]⟩
  · rw [sI_wI, if_neg (by omega)]
  · rw [sI_wI, if_neg (by omega)]
    exact h0
  · rw [sI_wI, if_neg (by omega)]
    exact h2
  · rw [sI_wI, if_pos ⟨rfl, rfl⟩]
set_option maxRecDepth 100000 in
theorem TX.fr {A : Nat → Nat → Prop} {s s' : aS} {r : Nat → Int32} {t : List Int32} (h : TX s r t) (g : ch A s s') (hA : ∀ k, ¬ A 122 k) : TX s' r t := ⟨h.1, h.2.1, fun j hj => (g.i (hA j)).trans (h.2.2 j hj)⟩
def sl (t : List Int32) (a b : Nat) : List Int32 := (t.drop a).take (b - a)
set_option maxRecDepth 100000 in
theorem sl_len {t : List Int32} {a b : Nat} (hab : a ≤ b) (hb : b ≤ t.length) : (sl t a b).length = b - a := by
  unfold sl
  rw [List.length_take, List.length_drop]
  omega
set_option maxRecDepth 100000 in
theorem sl_get {t : List Int32} {a b j : Nat} (h : j < (sl t a b).length) (hb : b ≤ t.length) : (sl t a b)[j] = t.getD (a + j) 0 := by
  have h2 : j < b - a := by
    unfold sl at h
    rw [List.length_take] at h
    omega
  have e : (sl t a b)[j]? = some (t.getD (a + j) 0) := by
    unfold sl
    rw [List.getElem?_take, if_pos h2, List.getElem?_drop, List.getElem?_eq_getElem (by omega), getD_in (by omega)]
  rw [List.getElem?_eq_getElem h] at e
  exact Option.some.inj e
set_option maxRecDepth 100000 in
theorem sl_c {t : List Int32} {a b : Nat} (hab : a < b) (hb : b ≤ t.length) : sl t a b = t.getD a 0 :: sl t (a + 1) b := by
  unfold sl
  rw [List.drop_eq_getElem_cons (by omega), show b - a = (b - (a + 1)) + 1 by omega, List.take_succ_cons, getD_in (by omega)]
set_option maxRecDepth 100000 in
theorem sl_n (t : List Int32) (a : Nat) : sl t a a = [] := by
  unfold sl
  rw [Nat.sub_self, List.take_zero]
set_option maxRecDepth 100000 in
theorem mkK {s : aS} {r : Nat → Int32} {t : List Int32} {a b e m : Nat} {kd g : Int32} (h : TX s r t) (h8 : m < 128) (hea : e ≤ a) (hab : a ≤ b) (hb : b ≤ t.length) : ∃ s2, dm200 (Int32.ofNat m) (Int32.ofNat a) g (wP (mkN s m kd) r b) = some (wP s2 r b) ∧ (∀ w, w < 9 → sI s2 (128 + w) (1024 + m) = plF kd 0 w) ∧ RLe s2 b (1024 + m) ((sl t a b).map (kpF g)) ∧ sI s2 140 m = -1 ∧ sI s2 142 m = -1 ∧ ch (newB e m) s s2 := by
  have hT : TX (mkN s m kd) r t := ⟨h.1, h.2.1, fun j hj => ((mk_c s m kd).i (by omega)).trans (h.2.2 j hj)⟩
  obtain ⟨s2, d1, d2, d3, d4, d5⟩ := d200 (g := g) hT h8 hab hb
  have hl := sl_len hab hb
  refine ⟨s2, d1, fun w hw => (d5.i (by omega)).trans (mk_w (by omega)), ⟨a, d2, by rw [List.length_map, hl]; exact d3, by rw [List.length_map, hl]; omega, fun j hj => ?_⟩, (d5.i (by omega)).trans (mk_k (Or.inl rfl)), (d5.i (by omega)).trans (mk_k (Or.inr (Or.inr rfl))), ((mk_c s m kd).mono fun x k z => ?_).trans (d5.mono fun x k z => ?_)⟩
  · rw [List.length_map] at hj
    rw [show 2048 + a + j = 2048 + (a + j) by omega, d4 (a + j) (by omega) (by omega), List.getElem_map, sl_get hj hb]
  · unfold newB; omega
  · unfold newB; omega
set_option maxRecDepth 100000 in
theorem kpF1 : kpF 1 = gr := by
  funext x
  unfold kpF
  rw [if_neg (by decide)]
set_option maxRecDepth 100000 in
theorem kpF0 (l : List Int32) : l.map (kpF 0) = l := by
  have : kpF 0 = fun x => x := by
    funext x
    unfold kpF
    rw [if_pos rfl]
  rw [this, List.map_id']
set_option maxRecDepth 100000 in
theorem NMe.no {s : aS} {e p : Nat} {kd : Int32} (h : ¬ (kd = 0 ∨ kd = 1 ∨ kd = 6 ∨ kd = 7)) : NMe s e p kd [] := by
  refine ⟨fun q => ?_, fun q => absurd (Or.inr (Or.inl q)) h, fun _ => rfl⟩
  rcases q with q | q | q
  · exact absurd (Or.inl q) h
  · exact absurd (Or.inr (Or.inr (Or.inl q))) h
  · exact absurd (Or.inr (Or.inr (Or.inr q))) h
set_option maxRecDepth 100000 in
theorem NMe.le {s : aS} {e p : Nat} {kd : Int32} {l : List Int32} (h : kd = 0 ∨ kd = 6 ∨ kd = 7) (g : RLe s e p l) : NMe s e p kd l := by
  refine ⟨fun _ => g, fun q => ?_, fun q => absurd ?_ q⟩
  · subst q
    exact absurd h (by decide)
  · rcases h with q | q | q
    · exact Or.inl q
    · exact Or.inr (Or.inr (Or.inl q))
    · exact Or.inr (Or.inr (Or.inr q))
set_option maxRecDepth 100000 in
/-- a number -/
theorem d199n {s : aS} {r : Nat → Int32} {t : List Int32} {e a b m : Nat} {F : List Fw} (h : TX s r t) (hG : GM s r e F []) (hm : (fl F).length = m) (h8 : m < 128) (hea : e ≤ a) (hab : a ≤ b) (hb : b ≤ t.length) : ∃ s' r', dm199_116 (Int32.ofNat a) (wP s r b) = some (wP s' r' b) ∧ GM s' r' b F [(m, plF 0 0, (sl t a b).map gr)] ∧ (∀ k, k ≠ 21 → k ≠ 29 → r' k = r k) ∧ ch scr s s' := by
  have hfb := hG.fb
  have m1 : r 21 = Int32.ofNat m := by
    have := hG.1.1
    rw [List.append_nil, hm] at this
    exact this
  have c8 : r 29 = Int32.ofNat (nT F) := by
    rcases hG.2.2.2.2.2.2.2 with ⟨-, q⟩ | ⟨c, q, -⟩
    · exact q
    · have q : ([c] : List Nat) = [] := q
      cases q
  obtain ⟨s2, d1, d2, d3, d4, d5, d6⟩ := mkK (e := e) (kd := 0) (g := 1) (h.set 21 (Int32.ofNat (m + 1)) (by decide)) h8 hea hab hb
  rw [kpF1] at d3
  refine ⟨wI s2 144 (nT F) (Int32.ofNat m), setN (setN r 21 (Int32.ofNat (m + 1))) 29 (Int32.ofNat (nT F + 1)), ?_, ?_, fun k k1 k2 => ?_, (d6.mono fun a k z => newB_scr z).wI (by unfold scr; omega)⟩
  · unfold dm199_116
    rw [d187 m1 h8]
    simp only [bv_some]
    rw [d1]
    simp only [bu_some]
    rw [d194 (c := nT F) (show setN r 21 (Int32.ofNat (m + 1)) 29 = Int32.ofNat (nT F) from c8) (by omega)]
    rfl
  · exact GM.leaf2 hG hm h8 rfl d6 ⟨d2, NMe.le (kd := 0) (Or.inl rfl) d3⟩ rfl d4 d5 (by omega) rfl rfl rfl rfl
  · unfold setN
    rw [if_neg k2, if_neg k1]
set_option maxRecDepth 100000 in
/-- a node with a value -/
theorem d203v {s : aS} {r : Nat → Int32} {e b m : Nat} {F : List Fw} {x : Int32} (hG : GM s r e F []) (hm : (fl F).length = m) (h8 : m < 128) (heb : e ≤ b) (h27 : r 27 = 0) : ∃ s' r', dm203_90 x (wP s r b) = some (wP s' r' b) ∧ GM s' r' b F [(m, setN (plF 2 0) 8 x, [])] ∧ (∀ k, k ≠ 21 → k ≠ 29 → r' k = r k) ∧ ch scr s s' := by
  have hfb := hG.fb
  have m1 : r 21 = Int32.ofNat m := by
    have := hG.1.1
    rw [List.append_nil, hm] at this
    exact this
  have c8 : r 29 = Int32.ofNat (nT F) := by
    rcases hG.2.2.2.2.2.2.2 with ⟨-, q⟩ | ⟨c, q, -⟩
    · exact q
    · have q : ([c] : List Nat) = [] := q
      cases q
  have bP : aB (Int32.ofNat (1024 + m)) 1152 := aB_of (by omega) (by omega)
  have jP : jN (Int32.ofNat (1024 + m)) = 1024 + m := jN_of (by omega)
  have eP : (1024 : Int32) + Int32.ofNat m = Int32.ofNat (1024 + m) := iSum (i := 1024) (j := m) (by omega) (by omega)
  have hc : ch (newB e m) s (wI (mkN s m 2) 136 (1024 + m) x) := ((mk_c s m 2).mono fun a k z => by unfold newB; omega).wI (by unfold newB; omega)
  refine ⟨wI (wI (mkN s m 2) 136 (1024 + m) x) 144 (nT F) (Int32.ofNat m), setN (setN r 21 (Int32.ofNat (m + 1))) 29 (Int32.ofNat (nT F + 1)), ?_, ?_, fun k k1 k2 => ?_, (hc.mono fun a k z => newB_scr z).wI (by unfold scr; omega)⟩
  · unfold dm203_90
    rw [wP_f (by decide), h27, if_pos rfl, d187 m1 h8]
    simp only [bv_some, eP, if_pos bP, jP, nx_eq]
    rw [wP_wI (by decide), d194 (c := nT F) (show setN r 21 (Int32.ofNat (m + 1)) 29 = Int32.ofNat (nT F) from c8) (by omega)]
    rfl
  · refine GM.leaf2 hG hm h8 rfl hc ⟨fun w hw => ?_, NMe.no (kd := 2) (by decide)⟩ rfl ?_ ?_ heb rfl rfl rfl rfl
    · show sI (wI (mkN s m 2) 136 (1024 + m) x) (128 + w) (1024 + m) = setN (plF 2 0) 8 x w
      rw [sI_wI]
      unfold setN
      by_cases z : w = 8
      · rw [if_pos (by omega), if_pos z]
      · rw [if_neg (by omega), if_neg z]
        exact mk_w (by omega)
    · rw [sI_wI, if_neg (by omega)]
      exact mk_k (Or.inl rfl)
    · rw [sI_wI, if_neg (by omega)]
      exact mk_k (Or.inr (Or.inr rfl))
  · unfold setN
    rw [if_neg k2, if_neg k1]
def clD (x w c f : Int32) : Nd := setN (setN (setN (setN (setN (setN (plF 4 0) 2 x) 3 w) 4 c) 5 w) 6 c) 7 f
set_option maxRecDepth 100000 in
/-- a cell -/
theorem d209 {s : aS} {r : Nat → Int32} {e b m : Nat} {F : List Fw} {x : Int32} (hG : GM s r e F []) (hm : (fl F).length = m) (h8 : m < 128) (heb : e ≤ b) : ∃ s' r', dm209 x (wP s r b) = some (wP s' r' b) ∧ GM s' r' b F [(m, clD x (r 39) (r 40) (r 41), [])] ∧ r' 34 = Int32.ofNat m ∧ (∀ k, k ≠ 21 → k ≠ 29 → k ≠ 34 → r' k = r k) ∧ ch scr s s' := by
  have hfb := hG.fb
  have m1 : r 21 = Int32.ofNat m := by
    have := hG.1.1
    rw [List.append_nil, hm] at this
    exact this
  have c8 : r 29 = Int32.ofNat (nT F) := by
    rcases hG.2.2.2.2.2.2.2 with ⟨-, q⟩ | ⟨c, q, -⟩
    · exact q
    · have q : ([c] : List Nat) = [] := q
      cases q
  have bP : aB (Int32.ofNat (1024 + m)) 1152 := aB_of (by omega) (by omega)
  have jP : jN (Int32.ofNat (1024 + m)) = 1024 + m := jN_of (by omega)
  have eP : (1024 : Int32) + Int32.ofNat m = Int32.ofNat (1024 + m) := iSum (i := 1024) (j := m) (by omega) (by omega)
  have hRI : RI (mkN s m 4) (1024 + m) (plF 4 0) := fun w hw => mk_w (by omega)
  have hRI2 := (((((hRI.set (w := 2) (v := x)).set (w := 3) (v := r 39)).set (w := 4) (v := r 40)).set (w := 5) (v := r 39)).set (w := 6) (v := r 40)).set (w := 7) (v := r 41)
  let s2 := wI (wI (wI (wI (wI (wI (mkN s m 4) 130 (1024 + m) x) 131 (1024 + m) (r 39)) 132 (1024 + m) (r 40)) 133 (1024 + m) (r 39)) 134 (1024 + m) (r 40)) 135 (1024 + m) (r 41)
  have hc : ch (newB e m) s s2 := ((((((((mk_c s m 4).mono fun a k z => by unfold newB; omega).wI (by unfold newB; omega)).wI (by unfold newB; omega)).wI (by unfold newB; omega)).wI (by unfold newB; omega)).wI (by unfold newB; omega)).wI (by unfold newB; omega))
  have h140 : ∀ a, 140 ≤ a → sI s2 a m = sI (mkN s m 4) a m := fun a ha => by
    show sI (wI (wI (wI (wI (wI (wI (mkN s m 4) 130 (1024 + m) x) 131 (1024 + m) (r 39)) 132 (1024 + m) (r 40)) 133 (1024 + m) (r 39)) 134 (1024 + m) (r 40)) 135 (1024 + m) (r 41)) a m = _
    rw [sI_wI, if_neg (by omega), sI_wI, if_neg (by omega), sI_wI, if_neg (by omega), sI_wI, if_neg (by omega), sI_wI, if_neg (by omega), sI_wI, if_neg (by omega)]
  refine ⟨wI s2 144 (nT F) (Int32.ofNat m), setN (setN (setN r 21 (Int32.ofNat (m + 1))) 29 (Int32.ofNat (nT F + 1))) 34 (Int32.ofNat m), ?_, ?_, rfl, fun k k1 k2 k3 => ?_, (hc.mono fun a k z => newB_scr z).wI (by unfold scr; omega)⟩
  · unfold dm209
    rw [d187 m1 h8]
    have q39 : setN r 21 (Int32.ofNat (m + 1)) 39 = r 39 := rfl
    have q40 : setN r 21 (Int32.ofNat (m + 1)) 40 = r 40 := rfl
    have q41 : setN r 21 (Int32.ofNat (m + 1)) 41 = r 41 := rfl
    simp only [bv_some, eP, if_pos bP, jP, nx_eq]
    rw [wP_wI (by decide), wP_f (by decide), q39, wP_wI (by decide), wP_f (by decide), q40, wP_wI (by decide), wP_f (by decide), q39, wP_wI (by decide), wP_f (by decide), q40, wP_wI (by decide), wP_f (by decide), q41, wP_wI (by decide), d194 (c := nT F) (show setN r 21 (Int32.ofNat (m + 1)) 29 = Int32.ofNat (nT F) from c8) (by omega)]
    simp only [bu_some]
    rw [wP_set (by decide)]
  · exact GM.leaf2 hG hm h8 rfl hc ⟨hRI2, NMe.no (kd := 4) (by decide)⟩ rfl ((h140 140 (by decide)).trans (mk_k (Or.inl rfl))) ((h140 142 (by decide)).trans (mk_k (Or.inr (Or.inr rfl)))) heb rfl rfl rfl rfl
  · unfold setN
    rw [if_neg k3, if_neg k2, if_neg k1]
