/-! ranges, in the reference; new operands -/
set_option maxRecDepth 100000 in
theorem wP_of {s : aS} {r : Nat → Int32} {i : Nat} (h : ∀ k, sI s 121 k = setN r 26 (Int32.ofNat i) k) : wP s r i = s := by
  have e : setN r 26 (Int32.ofNat i) = fun k => sI s 121 k := by
    funext k
    exact (h k).symm
  unfold wP
  rw [e]
  exact wF_id s
set_option maxRecDepth 100000 in
theorem cnt_end {p : Int32 → Prop} {t : List Int32} {d : Int32} (h0 : ¬ p d) : ∀ (m i : Nat), t.length ≤ i + m → ¬ p (t.getD (i + cntF p (t.drop i)) d) := by
  intro m
  induction m with
  | zero =>
    intro i h
    rw [getD_out (by omega)]
    exact h0
  | succ m ih =>
    intro i h
    by_cases g : p (t.getD i d)
    · obtain ⟨g1, g2⟩ := cnt_y h0 g
      rw [g2, show i + (cntF p (t.drop (i + 1)) + 1) = i + 1 + cntF p (t.drop (i + 1)) by omega]
      exact ih (i + 1) (by omega)
    · rw [cnt_n g]
      exact g
set_option maxRecDepth 100000 in
theorem sk_ne (t : List Int32) (i : Nat) : ¬ t.getD (skS t i) 0 = 32 := cnt_end (p := spP) (d := 0) (by unfold spP; decide) t.length i (by omega)
set_option maxRecDepth 100000 in
theorem sk_b {t : List Int32} {i : Nat} (hi : i ≤ t.length) : i ≤ skS t i ∧ skS t i ≤ t.length := by
  have := cnt_b (p := spP) (t := t) (i := i)
  unfold skS
  omega
set_option maxRecDepth 100000 in
theorem d218l {s : aS} {r : Nat → Int32} {t : List Int32} {x : Int32} (h : TX s r t) : ∀ (m i n : Nat), t.length ≤ i + m → i ≤ 300 → m < n → ∃ n', dm218_11 n x (wP s r i) = dm218_11 (n' + 1) x (wP s r (skS t i)) := by
  have hl := h.1
  intro m
  induction m with
  | zero =>
    intro i n h1 h2 h3
    obtain ⟨n, rfl⟩ : ∃ q, n = q + 1 := ⟨n - 1, by omega⟩
    have e : skS t i = i := by
      unfold skS
      rw [cnt_n (p := spP) (d := 0) (by rw [getD_out (by omega)]; unfold spP; decide)]
      rfl
    exact ⟨n, by rw [e]⟩
  | succ m ih =>
    intro i n h1 h2 h3
    obtain ⟨n, rfl⟩ : ∃ q, n = q + 1 := ⟨n - 1, by omega⟩
    by_cases c : t.getD i 0 = 32
    · obtain ⟨g1, g2⟩ := cnt_y (p := spP) (d := 0) (by unfold spP; decide) c
      obtain ⟨n', e1⟩ := ih (i + 1) n (by omega) (by omega) (by omega)
      have e : skS t (i + 1) = skS t i := by unfold skS; omega
      refine ⟨n', ?_⟩
      rw [← e, ← e1, dm218_11, wP_at, rch h (by omega)]
      simp only [bu_some]
      rw [if_pos c, nx_eq, ofNat_succ (by omega), wP_go]
    · have e : skS t i = i := by
        unfold skS
        rw [cnt_n (p := spP) c]
        rfl
      exact ⟨n, by rw [e]⟩
def rgN (n : NN) (row col f : Int32) : NN := (n.1, srC (srR (setN (setN (setN (setN n.2.1 0 5) 5 row) 6 col) 7 (n.2.1 7 ||| (f <<< ((2 : Int32) &&& 31))))), [])
set_option maxRecDepth 100000 in
theorem RI_P {s : aS} {r : Nat → Int32} {i p : Nat} {d : Nd} (h : RI s p d) : RI (wP s r i) p d := fun w hw => (wP_n (by omega)).trans (h w hw)
set_option maxRecDepth 100000 in
theorem GM.chg {s s' : aS} {r r' : Nat → Int32} {e e' : Nat} {F : List Fw} {n n' : NN} (h : GM s r e F [n]) (hid : n'.1 = n.1) (hc : ch (fun a k => (128 ≤ a ∧ a ≤ 136) ∧ k = 1024 + n.1) s s') (hNR : NR s' e' n') (hk : n'.2.1 1 = n.2.1 1) (he : e ≤ e') (h21 : r' 21 = r 21) (h29 : r' 29 = r 29) (h32 : r' 32 = r 32) (h33 : r' 33 = r 33) : GM s' r' e' F [n'] := by
  obtain ⟨a1, a2, a3, a4, a5, a6, a7, a8⟩ := h
  have hnn := a7.1
  rw [idL_ap, List.nodup_append] at hnn
  have q2 : ∀ k ∈ idL (fl F), k ≠ n.1 := fun k hk q => hnn.2.2 k hk n.1 (by show n.1 ∈ [n.1]; exact List.mem_cons_self) q
  have el : (fl F ++ [n']).length = (fl F ++ [n]).length := by rw [List.length_append, List.length_append]; rfl
  have ei : idL (fl F ++ [n']) = idL (fl F ++ [n]) := by
    rw [idL_ap, idL_ap]
    show idL (fl F) ++ [n'.1] = idL (fl F) ++ [n.1]
    rw [hid]
  have pz : PZ s s' e (idL (fl F)) := PZ.new (m := n.1) (hc.mono fun a k z => by unfold newA; omega) q2
  obtain ⟨c, c1, c2, c3, c4⟩ := a8.resolve_left (fun q => by cases q.1)
  obtain ⟨r9, ks, e1, e2, e3, e4, e5, e6⟩ := c1
  cases e1
  have e6 : ks ++ [] = [] := e6
  rw [List.append_nil] at e6
  subst e6
  refine ⟨⟨by rw [el]; exact h21.trans a1.1, by rw [el]; exact a1.2⟩, h32.trans a2, ⟨h33.trans a3.1, a3.2⟩, WS.of F a4 (fun q _ => ⟨hc.i (by omega), hc.i (by omega)⟩), TS.of F a5 (fun q _ => hc.i (by omega)), FrAll.of a6 hnn.1 pz he, ⟨by rw [ei]; exact a7.1, by rw [ei, el]; exact a7.2⟩, Or.inr ⟨n.1, ⟨[], [], by rw [hid], by rw [hid]; exact e2, hNR, ?_, ?_, rfl⟩, (hc.i (by omega)).trans c2, (hc.i (by omega)).trans c3, h29.trans c4⟩⟩
  · rw [hid]
    exact (hc.i (by omega)).trans e4
  · rw [hk]
    exact e5
set_option maxRecDepth 100000 in
theorem d218 {s : aS} {r : Nat → Int32} {t : List Int32} {e i : Nat} {F : List Fw} {n : NN} (h : TX s r t) (hG : GM s r e F [n]) (hn0 : n.2.1 0 = 4) (h27 : r 27 = 0) (h34 : r 34 = Int32.ofNat n.1) (hei : e ≤ i) (hi : i < t.length) : (¬ cOk t (skS t (i + 1)) ∧ ∃ r', dm218 (wP s r i) = some (wP s r' (cB t (skS t (i + 1)))) ∧ r' 27 = 1 ∧ ∀ k, k ≤ 20 → r' k = r k) ∨ (cOk t (skS t (i + 1)) ∧ ∃ s' r', dm218 (wP s r i) = some (wP s' r' (cE t (skS t (i + 1)))) ∧ GM s' r' (cE t (skS t (i + 1))) F [rgN n (Int32.ofNat (cW t (skS t (i + 1)))) (Int32.ofNat (cK t (skS t (i + 1))).2.1) (Int32.ofNat (cFl t (skS t (i + 1))))] ∧ r' 34 = -1 ∧ (∀ k, k ≠ 34 → k ≠ 39 → k ≠ 40 → k ≠ 41 → r' k = r k) ∧ ch scr s s') := by
  have hl := h.1
  have hb := sk_b (t := t) (i := i + 1) (by omega)
  have hidb : n.1 < 128 := by
    have := hG.2.2.2.2.2.2.1.2 n.1 (by rw [idL_ap]; exact List.mem_append_right _ (by show n.1 ∈ [n.1]; exact List.mem_cons_self))
    have := hG.1.2
    omega
  have e0 : ∃ n', dm218 (wP s r i) = dm218_11 (n' + 1) (Int32.ofNat (1024 + n.1)) (wP s r (skS t (i + 1))) := by
    obtain ⟨n', q⟩ := d218l (x := Int32.ofNat (1024 + n.1)) h t.length (i + 1) 5000 (by omega) (by omega) (by omega)
    refine ⟨n', ?_⟩
    rw [← q]
    unfold dm218
    rw [nx_eq, wP_at, ofNat_succ (by omega), wP_go, wP_f (by decide), h34, show (1024 : Int32) + Int32.ofNat n.1 = Int32.ofNat (1024 + n.1) from iSum (i := 1024) (j := n.1) (by omega) (by omega)]
  obtain ⟨n', e0⟩ := e0
  generalize hj : skS t (i + 1) = j at *
  have hne : ¬ t.getD j 0 = 32 := by rw [← hj]; exact sk_ne t (i + 1)
  rw [e0, dm218_11, wP_at, rch h (by omega)]
  simp only [bu_some]
  rw [if_neg hne]
  rcases d207 (i := j) h hb.2 with ⟨g, c, f, q⟩ | ⟨g, q⟩
  · left
    refine ⟨g, setN (cR r 0 c f) 27 1, ?_, rfl, fun k hk => ?_⟩
    · rw [q]
      simp only [bu_some]
      rw [wP_f (by decide), show setN (cR r 0 c f) 27 1 27 = 1 from rfl, if_neg (by decide)]
    · unfold setN
      rw [if_neg (by omega)]
      exact cR_n (by omega)
  · right
    refine ⟨g, ?_⟩
    obtain ⟨o1, o2, o3, o4, o5⟩ := cOk_b hb.2 g
    have bP : aB (Int32.ofNat (1024 + n.1)) 1152 := aB_of (by omega) (by omega)
    have jP : jN (Int32.ofNat (1024 + n.1)) = 1024 + n.1 := jN_of (by omega)
    obtain ⟨c, c1, -⟩ := hG.2.2.2.2.2.2.2.resolve_left (fun q => by cases q.1)
    obtain ⟨r9, ks, x1, x2, x3, x4, x5, x6⟩ := c1
    have hRI : RI s (1024 + n.1) n.2.1 := x3.1
    let R := cR r (Int32.ofNat (cW t j)) (Int32.ofNat (cK t j).2.1) (Int32.ofNat (cFl t j))
    have R27 : R 27 = 0 := (cR_n (by decide)).trans h27
    let s4 := wI (wI (wI (wI s 128 (1024 + n.1) 5) 133 (1024 + n.1) (Int32.ofNat (cW t j))) 134 (1024 + n.1) (Int32.ofNat (cK t j).2.1)) 135 (1024 + n.1) (n.2.1 7 ||| (Int32.ofNat (cFl t j) <<< ((2 : Int32) &&& 31)))
    have hRI4 : RI s4 (1024 + n.1) (setN (setN (setN (setN n.2.1 0 5) 5 (Int32.ofNat (cW t j))) 6 (Int32.ofNat (cK t j).2.1)) 7 (n.2.1 7 ||| (Int32.ofNat (cFl t j) <<< ((2 : Int32) &&& 31)))) := (((hRI.set (w := 0)).set (w := 5)).set (w := 6)).set (w := 7)
    obtain ⟨s5, d1, d2, d3⟩ := d219 (s := wP s4 R (cE t j)) (by omega) (RI_P hRI4)
    have h5 : wP s5 R (cE t j) = s5 := wP_of fun k => (d3.i (by omega)).trans (by unfold wP; rw [wF_t])
    have hc5 : ch (fun a k => (128 ≤ a ∧ a ≤ 136) ∧ k = 1024 + n.1) s s5 ∨ True := Or.inr trivial
    have s5i : ∀ a k, a ≠ 121 → ¬ ((128 ≤ a ∧ a ≤ 136) ∧ k = 1024 + n.1) → sI s5 a k = sI s a k := by
      intro a k ha hk
      rw [d3.i hk, wP_n ha]
      show sI (wI (wI (wI (wI s 128 (1024 + n.1) 5) 133 (1024 + n.1) (Int32.ofNat (cW t j))) 134 (1024 + n.1) (Int32.ofNat (cK t j).2.1)) 135 (1024 + n.1) (n.2.1 7 ||| (Int32.ofNat (cFl t j) <<< ((2 : Int32) &&& 31)))) a k = sI s a k
      rw [sI_wI, if_neg (by omega), sI_wI, if_neg (by omega), sI_wI, if_neg (by omega), sI_wI, if_neg (by omega)]
    have s6c : ch (fun a k => (128 ≤ a ∧ a ≤ 136) ∧ k = 1024 + n.1) s (wF s5 (fun k => sI s 121 k)) := by
      refine ⟨d3.1, d3.2.1, fun a k hk => ⟨?_, (d3.2.2 a k hk).2.1, (d3.2.2 a k hk).2.2⟩⟩
      by_cases ha : a = 121
      · subst ha
        rw [wF_t]
      · rw [wF_n ha]
        exact s5i a k ha hk
    have wPF : ∀ (r1 : Nat → Int32) (i1 : Nat), wP s5 r1 i1 = wP (wF s5 (fun k => sI s 121 k)) r1 i1 := by
      intro r1 i1
      unfold wP
      have : (fun a k => if a = 121 then setN r1 26 (Int32.ofNat i1) k else s5.2.2.1 a k) = fun a k => if a = 121 then setN r1 26 (Int32.ofNat i1) k else (if a = 121 then sI s 121 k else s5.2.2.1 a k) := by
        funext a k
        by_cases ha : a = 121
        · rw [if_pos ha, if_pos ha]
        · rw [if_neg ha, if_neg ha, if_neg ha]
      show ((s5.1, s5.2.1, (fun a k => if a = 121 then setN r1 26 (Int32.ofNat i1) k else s5.2.2.1 a k), s5.2.2.2) : aS) = (s5.1, s5.2.1, (fun a k => if a = 121 then setN r1 26 (Int32.ofNat i1) k else (if a = 121 then sI s 121 k else s5.2.2.1 a k)), s5.2.2.2)
      rw [this]
    refine ⟨wF s5 (fun k => sI s 121 k), setN R 34 (-1), ?_, ?_, rfl, fun k k1 k2 k3 k4 => ?_, s6c.mono fun a k z => by unfold scr; omega⟩
    · rw [q]
      simp only [bu_some]
      rw [wP_f (by decide)]
      show (if R 27 = 0 then _ else _) = _
      rw [R27, if_pos rfl]
      simp only [if_pos bP, jP, nx_eq]
      rw [wP_wI (by decide), wP_f (by decide), show cR r (Int32.ofNat (cW t j)) (Int32.ofNat (cK t j).2.1) (Int32.ofNat (cFl t j)) 39 = Int32.ofNat (cW t j) from rfl, wP_wI (by decide), wP_f (by decide), show cR r (Int32.ofNat (cW t j)) (Int32.ofNat (cK t j).2.1) (Int32.ofNat (cFl t j)) 40 = Int32.ofNat (cK t j).2.1 from rfl, wP_wI (by decide), wP_f (by decide), show cR r (Int32.ofNat (cW t j)) (Int32.ofNat (cK t j).2.1) (Int32.ofNat (cFl t j)) 41 = Int32.ofNat (cFl t j) from rfl, wP_n (by decide), sI_wI, if_neg (by omega), sI_wI, if_neg (by omega), sI_wI, if_neg (by omega), hRI 7 (by decide), wP_wI (by decide)]
      have d1 : dm219 (Int32.ofNat (1024 + n.1)) (wP s4 R (cE t j)) = some s5 := d1
      show bu (dm219 (Int32.ofNat (1024 + n.1)) (wP s4 R (cE t j))) _ = _
      rw [d1]
      simp only [bu_some]
      rw [← wPF, ← wP_set (by decide), h5]
    · refine GM.chg hG rfl s6c ⟨fun w hw => ?_, ?_, ?_, fun _ => rfl⟩ ?_ (by omega) ((show setN R 34 (-1) 21 = R 21 from rfl).trans (cR_n (by decide))) ((show setN R 34 (-1) 29 = R 29 from rfl).trans (cR_n (by decide))) ((show setN R 34 (-1) 32 = R 32 from rfl).trans (cR_n (by decide))) ((show setN R 34 (-1) 33 = R 33 from rfl).trans (cR_n (by decide)))
      · rw [wF_n (by omega)]
        exact d2 w hw
      · intro z
        have e5 : (rgN n (Int32.ofNat (cW t j)) (Int32.ofNat (cK t j).2.1) (Int32.ofNat (cFl t j))).2.1 0 = 5 := (srC_k (by decide)).trans (srR_k (by decide))
        rw [e5] at z
        exact absurd z (by decide)
      · intro z
        have e5 : (rgN n (Int32.ofNat (cW t j)) (Int32.ofNat (cK t j).2.1) (Int32.ofNat (cFl t j))).2.1 0 = 5 := (srC_k (by decide)).trans (srR_k (by decide))
        rw [e5] at z
        exact absurd z (by decide)
      · exact (srC_k (by decide)).trans (srR_k (by decide))
    · show setN R 34 (-1) k = r k
      unfold setN
      rw [if_neg k1]
      exact cR_n ⟨k2, k3, k4⟩
