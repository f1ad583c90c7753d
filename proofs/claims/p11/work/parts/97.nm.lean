/-! the writer of FormulaTrees: its rounds -/
/-- from round r on: either it stops, and has told the letter that is wanted, or c rounds later it stands with w written -/
def Rn9 (N r : Nat) (s : aS) (l w : List Int32) (k : Int32) (c : Nat) (P : aS → Prop) : Prop := (∃ v s', dm139_23 N (Int32.ofNat r) s = some (v, s') ∧ ch wrC s s' ∧ ∀ z, v = ((l ++ w) ++ z).getD k.toInt.toNat (-1)) ∨ (∃ s', dm139_23 N (Int32.ofNat r) s = dm139_23 (N - c) (Int32.ofNat (r + c)) s' ∧ ch wrC s s' ∧ WC s' (l ++ w) k ∧ P s')
section CW
variable {s s1 : aS} {b : Nat} {ns : List (List Int32)} {L Z : List (Nd × List Int32)} {n c : Nd × List Int32} {i j p N r : Nat} {S : List (Nat × Nat × Int32)} {br g k : Int32} {q : Nat × Nat × Int32} {l w w1 w2 : List Int32} {P P1 P2 : aS → Prop} {c1 c2 : Nat}
set_option maxRecDepth 100000 in
theorem Rn9.nil (h : WC s l k) (hp : P s) : Rn9 N r s l [] k 0 P := Or.inr ⟨s, rfl, ch.refl _ s, by rw [List.append_nil]; exact h, hp⟩
set_option maxRecDepth 100000 in
theorem Rn9.bnd (h : Rn9 N r s l w1 k c1 P1) (g : ∀ s1, ch wrC s s1 → WC s1 (l ++ w1) k → P1 s1 → Rn9 (N - c1) (r + c1) s1 (l ++ w1) w2 k c2 P2) : Rn9 N r s l (w1 ++ w2) k (c1 + c2) P2 := by
  rcases h with ⟨v, s1, e1, e2, e3⟩ | ⟨s1, e1, e2, e3, e4⟩
  · refine Or.inl ⟨v, s1, e1, e2, fun z => ?_⟩
    rw [e3 (w2 ++ z)]
    simp only [List.append_assoc]
  · rcases g s1 e2 e3 e4 with ⟨v, s2, k1, k2, k3⟩ | ⟨s2, k1, k2, k3, k4⟩
    · refine Or.inl ⟨v, s2, e1.trans k1, e2.trans k2, fun z => ?_⟩
      rw [k3 z]
      simp only [List.append_assoc]
    · refine Or.inr ⟨s2, ?_, e2.trans k2, ?_, k4⟩
      · rw [e1, k1, Nat.sub_sub, Nat.add_assoc]
      · rw [← List.append_assoc]
        exact k3
set_option maxRecDepth 100000 in
theorem Rn9.equ (h : Rn9 N r s l w k c1 P) (e : w = w1) (e2 : c1 = c2) : Rn9 N r s l w1 k c2 P := by
  subst e
  subst e2
  exact h
set_option maxRecDepth 100000 in
theorem rn_g (hC : Cf s (q :: S) p g) (hW : WC s l k) (hk : 0 ≤ k.toInt) (hr : r < 384) : (k.toInt.toNat < l.length → dm139_23 (N + 1) (Int32.ofNat r) s = some (sI s 117 10, s)) ∧ (¬ k.toInt.toNat < l.length → g = 0 → ∀ s1, dm155 (Int32.ofNat q.1) (Int32.ofNat q.2.1) s = some s1 → dm139_23 (N + 1) (Int32.ofNat r) s = dm139_23 N (Int32.ofNat (r + 1)) s1) ∧ (¬ k.toInt.toNat < l.length → ¬ g = 0 → ∀ s1, dm142 (Int32.ofNat q.1) (wI s 117 7 0) = some s1 → dm139_23 (N + 1) (Int32.ofNat r) s = dm139_23 N (Int32.ofNat (r + 1)) s1) := by
  obtain ⟨⟨a1, a2, a3⟩, a4, a5, a6⟩ := hC
  rw [List.length_cons] at a1 a2
  have hr2 := iRange k
  have e1 : Int32.ofNat (S.length + 1) - 1 = Int32.ofNat S.length := by
    rw [ofNat_sub1 (by omega) (by omega)]
    rfl
  have hb : aB (Int32.ofNat S.length) 128 := aB_of (by omega) (by omega)
  have hj : jN (Int32.ofNat S.length) = S.length := jN_of (by omega)
  have h384 : ¬ 384 ≤ Int32.ofNat r := fun z => by
    have := (nle_iff (a := 384) (by omega) (by omega)).mp z
    omega
  have h0 : ¬ Int32.ofNat (S.length + 1) ≤ 0 := fun z => by
    have := (nle_iff (b := 0) (by omega) (by omega)).mp z
    omega
  have hc : sI s 117 9 < sI s 117 8 ↔ k.toInt.toNat < l.length := by
    have hl := hW.1
    rw [hW.2.1, hW.2.2.1, iLt, iOfNat (by omega)]
    omega
  refine ⟨fun c => ?_, fun c g0 s1 d1 => ?_, fun c g0 s1 d1 => ?_⟩
  · rw [dm139_23, if_neg h384, a1, if_neg h0, if_pos (hc.mpr c)]
  · rw [dm139_23, if_neg h384, a1, if_neg h0, if_neg (fun z => c (hc.mp z)), if_pos (a5.trans g0), e1, if_pos hb, if_pos hb, hj, a6.1, a6.2.1, d1]
    simp only [bu_some]
    unfold dm139_66
    rw [ofNat_succ (by omega)]
  · have cc : ch (fun a k => a = 117 ∧ k = 7) s (wI s 117 7 0) := (ch.refl _ s).wI ⟨rfl, rfl⟩
    rw [dm139_23, if_neg h384, a1, if_neg h0, if_neg (fun z => c (hc.mp z)), if_neg (fun z => g0 (a5.symm.trans z)), nx_eq, show sI (wI s 117 7 0) 117 4 = Int32.ofNat (S.length + 1) from (cc.i (by omega)).trans a1, e1, if_pos hb, hj, show sI (wI s 117 7 0) 118 S.length = Int32.ofNat q.1 from (cc.i (by omega)).trans a6.1, d1]
    simp only [bu_some]
    unfold dm139_66
    rw [ofNat_succ (by omega)]
set_option maxRecDepth 100000 in
/-- one round -/
theorem rn_r (hC : Cf s (q :: S) p g) (hW : WC s l k) (hk : 0 ≤ k.toInt) (hr : r < 384) (hN : 0 < N) (h0 : g = 0 → ∃ s1, dm155 (Int32.ofNat q.1) (Int32.ofNat q.2.1) s = some s1 ∧ ch wrC s s1 ∧ WC s1 (l ++ w) k ∧ P s1) (h1 : ¬ g = 0 → ∃ s1, dm142 (Int32.ofNat q.1) (wI s 117 7 0) = some s1 ∧ ch wrC s s1 ∧ WC s1 (l ++ w) k ∧ P s1) : Rn9 N r s l w k 1 P := by
  obtain ⟨N, rfl⟩ : ∃ q, N = q + 1 := ⟨N - 1, by omega⟩
  obtain ⟨g1, g2, g3⟩ := rn_g (N := N) hC hW hk hr
  by_cases c : k.toInt.toNat < l.length
  · refine Or.inl ⟨_, s, g1 c, ch.refl _ s, fun z => ?_⟩
    rw [hW.2.2.2, if_pos hk, getD_in c, List.append_assoc, getD_in (by rw [List.length_append]; omega), List.getElem_append_left c]
  · by_cases g0 : g = 0
    · obtain ⟨s1, d1, d2, d3, d4⟩ := h0 g0
      exact Or.inr ⟨s1, g2 c g0 s1 d1, d2, d3, d4⟩
    · obtain ⟨s1, d1, d2, d3, d4⟩ := h1 g0
      exact Or.inr ⟨s1, g3 c g0 s1 d1, d2, d3, d4⟩
set_option maxRecDepth 100000 in
/-- a node is opened -/
theorem rn_o (h : FE s b ns Z) (hn : Z[i]? = some n) (h2 : -1 ≤ (n.1 2).toInt ∧ (n.1 2).toInt < ns.length) (hC : Cf s ((i, j, br) :: S) p 1) (hW : WC s l k) (hk : 0 ≤ k.toInt) (hr : r < 384) (hN : 0 < N) (hl : l.length + (leT ns n.1 n.2).length < 900000) : Rn9 N r s l (leT ns n.1 n.2) k 1 (fun s' => Cf s' ((i, j, br) :: S) p 0) := by
  refine rn_r hC hW hk hr hN (fun z => absurd z (by decide)) (fun _ => ?_)
  have cc : ch (fun a k => a = 117 ∧ k = 7) s (wI s 117 7 0) := (ch.refl _ s).wI ⟨rfl, rfl⟩
  have c9 : ch wrC s (wI s 117 7 0) := cc.mono fun a k z => by unfold wrC; omega
  obtain ⟨s1, d1, d2, d3⟩ := x142 (h.of c9) hn h2
  have hC0 : Cf (wI s 117 7 0) ((i, j, br) :: S) p 0 := ⟨⟨(cc.i (by omega)).trans hC.1.1, hC.1.2⟩, (cc.i (by omega)).trans hC.2.1, by rw [sI_wI, if_pos ⟨rfl, rfl⟩], Fr9.of (s := s) _ (fun k _ => ⟨cc.i (by omega), cc.i (by omega), cc.i (by omega)⟩) hC.2.2.2⟩
  exact ⟨s1, d1, c9.trans (dc d2), d3 l k (hW.of cc (fun a j z => by omega)) hl, hC0.d d2⟩
set_option maxRecDepth 100000 in
/-- a child more -/
theorem rn_p (h : FE s b ns Z) (hn : Z[i]? = some n) (hp : Z[p]? = some c) (hd : arOk n.1) (hc : arOk c.1) (hC : Cf s ((i, j, br) :: S) p 0) (hj : j < arN n.1) (hW : WC s l k) (hk : 0 ≤ k.toInt) (hr : r < 384) (hN : 0 < N) (hl : l.length + (sepT n.1 j).length + 1 < 900000) : Rn9 N r s l (sepT n.1 j ++ (if b01 (brB n.1 (c.1 0) j) = 0 then [] else [40])) k 1 (fun s' => Cf s' ((p, 0, b01 (brB n.1 (c.1 0) j)) :: (i, j + 1, br) :: S) (p + 1) 1) := by
  refine rn_r hC hW hk hr hN (fun _ => ?_) (fun z => absurd rfl z)
  obtain ⟨s1, d1, d2, d3, d4⟩ := x155p h hn hp hd hc hC hj
  exact ⟨s1, d1, d2, d4 l k hW hl, d3⟩
set_option maxRecDepth 100000 in
/-- the end of a node -/
theorem rn_c (h : FE s b ns Z) (hn : Z[i]? = some n) (hd : arOk n.1) (hC : Cf s ((i, j, br) :: S) p 0) (hb : br = 0 ∨ br = 1) (hj : arN n.1 ≤ j) (hj8 : j < 1000) (hW : WC s l k) (hk : 0 ≤ k.toInt) (hr : r < 384) (hN : 0 < N) (hl : l.length + (clT n.1).length + 1 < 900000) : Rn9 N r s l (clT n.1 ++ (if br = 0 then [] else [41])) k 1 (fun s' => Cf s' S p 0) := by
  refine rn_r hC hW hk hr hN (fun _ => ?_) (fun z => absurd rfl z)
  obtain ⟨s1, d1, d2, d3, d4⟩ := x155c h hn hd hC hb hj hj8
  exact ⟨s1, d1, d2, d4 l k hW hl, d3⟩
end CW
set_option maxRecDepth 100000 in
theorem brT_len (p : Prop) (w : List Int32) : (brT p w).length = w.length + (if b01 p = 0 then 0 else 2) := by
  unfold brT
  by_cases c : b01 p = 0
  · rw [if_pos c, if_pos c]
    rfl
  · rw [if_neg c, if_neg c]
    simp only [List.length_append, List.length_cons, List.length_nil]
    omega
set_option maxRecDepth 100000 in
theorem brT_c {p q : Prop} (h : p ↔ q) (w : List Int32) : brT p w = brT q w := by rw [propext h]
set_option maxRecDepth 100000 in
theorem brT_s (p : Prop) (u w : List Int32) : u ++ brT p w = (u ++ (if b01 p = 0 then [] else [40])) ++ (w ++ (if b01 p = 0 then [] else [41])) := by
  unfold brT
  by_cases c : b01 p = 0
  · rw [if_pos c, if_pos c, if_pos c, List.append_nil, List.append_nil]
  · rw [if_neg c, if_neg c, if_neg c]
    simp only [List.append_assoc]
set_option maxRecDepth 100000 in
theorem rk_r (x : Int32) : 1 ≤ (rkM x).toInt ∧ (rkM x).toInt ≤ 8 := by
  unfold rkM
  repeat' split
  all_goals decide
set_option maxRecDepth 100000 in
theorem rk_s (x y : Int32) : (rkM x < rkM y + 1) ↔ (rkM x < rkM y ∨ rkM x = rkM y) := by
  have h1 := rk_r x
  have h2 := rk_r y
  have t1 : (1 : Int32).toInt = 1 := rfl
  rw [iLt, iLt, iEq, iAdd (by omega) (by omega)]
  omega
