/-! a step behind an operand, in the reference -/
def opk (c d : Int32) : Nat × Nat := if c = 38 then (16, 1) else if c = 42 then (12, 1) else if c = 43 then (14, 1) else if c = 45 then (15, 1) else if c = 47 then (13, 1) else if c = 60 then (if d = 62 then (18, 2) else if d = 61 then (21, 2) else (19, 1)) else if c = 61 then (17, 1) else if c = 62 then (if d = 61 then (22, 2) else (20, 1)) else if c = 94 then (11, 1) else (0, 0)
def opL : List (Nat × Nat) := [(16, 1), (12, 1), (14, 1), (15, 1), (13, 1), (18, 2), (21, 2), (19, 1), (17, 1), (22, 2), (20, 1), (11, 1)]
set_option maxRecDepth 100000 in
theorem opk_in (c d : Int32) : opk c d = (0, 0) ∨ opk c d ∈ opL := by
  unfold opk opL
  repeat' split
  all_goals first
    | exact Or.inl rfl
    | exact Or.inr (by decide)
def opX (p : Nat × Nat) : Int32 := Int32.ofNat (100 * p.2 + p.1)
set_option maxRecDepth 100000 in
theorem opX_f : ∀ p ∈ opL, ¬ opX p ≤ 0 ∧ opX p / 100 = Int32.ofNat p.2 ∧ opX p - opX p / 100 * 100 = Int32.ofNat p.1 ∧ isB (Int32.ofNat p.1) ∧ p.2 ≤ 2 ∧ ¬ p.1 = 0 ∧ 1 ≤ p.2 ∧ ¬ (Int32.ofNat p.1 = 0 ∨ Int32.ofNat p.1 = 1 ∨ Int32.ofNat p.1 = 6 ∨ Int32.ofNat p.1 = 7) := by
  unfold isB
  decide
set_option maxRecDepth 100000 in
theorem d217 {s : aS} {r : Nat → Int32} {t : List Int32} {i : Nat} (h : TX s r t) (hi : i < t.length) : dm217 (wP s r i) = some (opX (opk (t.getD i 0) (t.getD (i + 1) 0))) := by
  have hl := h.1
  unfold dm217
  rw [wP_at, rch h (by omega), ofNat_succ (by omega), rch h (by omega)]
  simp only [bu_some]
  unfold opk
  repeat' split
  all_goals first
    | rfl
    | (exfalso; simp_all)
set_option maxRecDepth 100000 in
noncomputable def mBeh (t : List Int32) (i : Nat) (F : List Fw) (cur : List NN) (lc : Nat) : Nat ⊕ St := if t.getD i 0 = 58 ∧ lc = 1 then (match cur with
    | [] => .inl i
    | n :: _ => if b01 (cOk t (skS t (i + 1))) = 0 then .inl (cB t (skS t (i + 1))) else .inr (cE t (skS t (i + 1)), F, [rgN n (Int32.ofNat (cW t (skS t (i + 1)))) (Int32.ofNat (cK t (skS t (i + 1))).2.1) (Int32.ofNat (cFl t (skS t (i + 1))))], 0, 0)) else if t.getD i 0 = 41 ∧ ¬ nO F = 0 then (match (rdF 0 F cur).1 with
    | [] => .inl i
    | f :: F0 => .inr (i + 1, F0, clC f (rdF 0 F cur).2, 0, 0)) else if t.getD i 0 = 44 ∧ inM F = 7 then (match (rdF 0 F cur).1 with
    | [] => .inl i
    | f :: F0 => if f.2.2.2.length = 29 then .inl i else .inr (i + 1, cmF f (rdF 0 F cur).2 :: F0, [], 2, 0)) else if t.getD i 0 = 37 ∧ (fl F ++ cur).length < 128 then .inr (i + 1, F, pcN (fl F ++ cur).length :: cur, 0, 0) else if ¬ (opk (t.getD i 0) (t.getD (i + 1) 0)).1 = 0 ∧ (fl F ++ cur).length < 128 then .inr (i + (opk (t.getD i 0) (t.getD (i + 1) 0)).2, (Int32.ofNat (opk (t.getD i 0) (t.getD (i + 1) 0)).1, ((fl F ++ cur).length, plF (Int32.ofNat (opk (t.getD i 0) (t.getD (i + 1) 0)).1) 0, []), (rdF (rkM (Int32.ofNat (opk (t.getD i 0) (t.getD (i + 1) 0)).1)) F cur).2, [hdI (rdF (rkM (Int32.ofNat (opk (t.getD i 0) (t.getD (i + 1) 0)).1)) F cur).2]) :: (rdF (rkM (Int32.ofNat (opk (t.getD i 0) (t.getD (i + 1) 0)).1)) F cur).1, [], 0, 0) else .inl i
/-- while an operand is there -/
def BH (s : aS) (r : Nat → Int32) (t : List Int32) (ns : List (List Int32)) (e : Nat) (F : List Fw) (cur : List NN) (lc : Nat) : Prop := TX s r t ∧ GM s r e F cur ∧ cur ≠ [] ∧ okT t ∧ e ≤ t.length ∧ r 27 = 0 ∧ r 35 = 0 ∧ r 36 = 0 ∧ r 34 = (if lc = 1 then Int32.ofNat (hdI cur) else -1) ∧ (lc = 1 → ∃ n, cur = [n] ∧ n.2.1 0 = 4) ∧ (sT s 147).2 = 256 ∧ SX s r ns
set_option maxRecDepth 100000 in
theorem d216b {s : aS} {r : Nat → Int32} {t : List Int32} {e i : Nat} {F : List Fw} {cur : List NN} {p : Nat × Nat} (hT : TX s r t) (hG : GM s r e F cur) (hc : cur ≠ []) (h27 : r 27 = 0) (h34 : r 34 = -1) (hei : e ≤ i) (hi : i < t.length) (hp : p ∈ opL) (h8 : (fl F ++ cur).length < 128) : OUT s r (bu (dm191 (opX p - opX p / 100 * 100)) fun r5 =>
      bu (dm190 r5 (wP s r i)) fun s8 =>
      bv (dm187 (opX p - opX p / 100 * 100) s8) fun r12 s11 =>
      bu (dm188 (opX p - opX p / 100 * 100) r12 s11) fun s15 =>
      nx (wI s15 121 36 1) fun s16 =>
      nx (wI s16 121 35 0) fun s19 =>
      nx (wI s19 121 26 ((sI s19 121 26) + (opX p / 100))) fun s22 =>
      some s22) (.inr (i + p.2, (Int32.ofNat p.1, ((fl F ++ cur).length, plF (Int32.ofNat p.1) 0, []), (rdF (rkM (Int32.ofNat p.1)) F cur).2, [hdI (rdF (rkM (Int32.ofNat p.1)) F cur).2]) :: (rdF (rkM (Int32.ofNat p.1)) F cur).1, [], 0, 0)) := by
  have hl := hT.1
  obtain ⟨o1, o2, o3, o4, o5, o6, o7, o8⟩ := opX_f p hp
  rw [o3, o2, d191]
  simp only [bu_some]
  obtain ⟨s1, r1, b1, b2, b3, b4, b5⟩ := d190 (i := i) (x1 := rkM (Int32.ofNat p.1)) hG hc
  have hfb := b2.fb
  have hm : (fl (rdF (rkM (Int32.ofNat p.1)) F cur).1 ++ (rdF (rkM (Int32.ofNat p.1)) F cur).2).length = (fl F ++ cur).length := by
    have z1 := b2.1.1
    rw [b4 21 (by decide) (by decide), hG.1.1] at z1
    exact ((neq_iff (by omega) (by omega)).mp z1).symm
  rw [b1]
  generalize rdF (rkM (Int32.ofNat p.1)) F cur = Q at *
  obtain ⟨F1, cur1⟩ := Q
  simp only at b2 b3 hm hfb ⊢
  have m1 : r1 21 = Int32.ofNat (fl F ++ cur).length := (b4 21 (by decide) (by decide)).trans hG.1.1
  have a2 : r1 32 = Int32.ofNat F1.length := b2.2.1
  simp only [bu_some]
  rw [d187 m1 h8]
  simp only [bv_some]
  rw [d188 (w := F1.length) (show setN r1 21 (Int32.ofNat ((fl F ++ cur).length + 1)) 32 = Int32.ofNat F1.length from a2) (by omega)]
  simp only [bu_some, nx_eq]
  rw [wP_set (by decide), wP_set (by decide), wP_at, iSum (by omega) (by omega), wP_go]
  have hcc := mk_c s1 (fl F ++ cur).length (Int32.ofNat p.1)
  obtain ⟨c, hB⟩ := GM.bin (s' := wI (wI (mkN s1 (fl F ++ cur).length (Int32.ofNat p.1)) 145 F1.length (Int32.ofNat p.1)) 146 F1.length (Int32.ofNat (fl F ++ cur).length)) (r' := setN (setN (setN (setN r1 21 (Int32.ofNat ((fl F ++ cur).length + 1))) 32 (Int32.ofNat (F1.length + 1))) 36 1) 35 0) (n := ((fl F ++ cur).length, plF (Int32.ofNat p.1) 0, [])) (x := Int32.ofNat p.1) b2 b3 hm h8 rfl o4 rfl (((hcc.mono fun a k z => by unfold newA; omega).wI (by unfold newA; omega)).wI (by unfold newA; omega)) (fun q hq => ⟨by rw [sI_wI, if_neg (by omega), sI_wI, if_neg (by omega)]; exact hcc.i (by omega), by rw [sI_wI, if_neg (by omega), sI_wI, if_neg (by omega)]; exact hcc.i (by omega)⟩) (by rw [sI_wI, if_neg (by omega), sI_wI, if_pos ⟨rfl, rfl⟩]) (by rw [sI_wI, if_pos ⟨rfl, rfl⟩]) (fun q => by rw [sI_wI, if_neg (by omega), sI_wI, if_neg (by omega)]; exact hcc.i (by omega)) (NR.of (mk_NR (s := s1) (e := e) o8) ⟨fun w hw => by rw [sI_wI, if_neg (by omega), sI_wI, if_neg (by omega)], by rw [sI_wI, if_neg (by omega), sI_wI, if_neg (by omega)]⟩ (fun q _ => by rw [sI_wI, if_neg (by omega), sI_wI, if_neg (by omega)]) (Nat.le_refl _)) rfl (by rw [sI_wI, if_neg (by omega), sI_wI, if_neg (by omega)]; exact mk_k (Or.inl rfl)) (by rw [sI_wI, if_neg (by omega), sI_wI, if_neg (by omega)]; exact mk_k (Or.inr (Or.inr rfl))) rfl rfl rfl rfl
  have hcd : hdI cur1 = c := by
    have := hB.2.2.2.2.2.1 _ List.mem_cons_self
    rcases this with q | ⟨-, -, -, -, q, -⟩
    · have q1 : Int32.ofNat p.1 = 100 := q.1
      rw [q1] at o4
      unfold isB at o4
      exact absurd o4 (by decide)
    · exact hf_hd cur1 q
  rw [hcd]
  refine ⟨_, _, rfl, hB.at (show e ≤ i + p.2 by omega) rfl rfl rfl rfl, (b4 27 (by decide) (by decide)).trans h27, rfl, rfl, (b4 34 (by decide) (by decide)).trans h34, fun k hk => ?_, (((rch_scr b5).trans (hcc.mono fun a k z => by unfold scr; omega)).wI (by unfold scr; omega)).wI (by unfold scr; omega)⟩
  unfold setN
  rw [if_neg (by omega), if_neg (by omega), if_neg (by omega), if_neg (by omega)]
  exact b4 k (by omega) (by omega)
set_option maxRecDepth 100000 in
theorem d216 {s : aS} {r : Nat → Int32} {t : List Int32} {ns : List (List Int32)} {e i lc : Nat} {F : List Fw} {cur : List NN} (h : BH s r t ns e F cur lc) (hei : e ≤ i) (hi : i < t.length) : OUT s r (dm216 (wP s r i)) (mBeh t i F cur lc) := by
  obtain ⟨hT, hG, hcur, hok, het, h27, h35, h36, h34, hlc, h147, hS⟩ := h
  have hl := hT.1
  have hfb := hG.fb
  unfold dm216 mBeh
  rw [wP_at, rch hT (by omega), d217 hT hi]
  simp only [bu_some, nx_eq]
  rw [wP_set (by decide)]
  have hT2 : TX s (setN r 34 (-1)) t := hT.set 34 _ (by decide)
  have hG2 : GM s (setN r 34 (-1)) e F cur := hG.at (Nat.le_refl _) rfl rfl rfl rfl
  have a3 : r 33 = Int32.ofNat (nO F) := hG.2.2.1.1
  have hO8 := hG.2.2.1.2
  have m1 : r 21 = Int32.ofNat (fl F ++ cur).length := hG.1.1
  have hr : ∀ k, k ≤ 20 → setN r 34 (-1) k = r k := fun k hk => if_neg (by omega)
  have rest : OUT s r (dm216_25 (t.getD i 0) (opX (opk (t.getD i 0) (t.getD (i + 1) 0))) (wP s (setN r 34 (-1)) i)) (if t.getD i 0 = 41 ∧ ¬ nO F = 0 then (match (rdF 0 F cur).1 with
    | [] => .inl i
    | f :: F0 => .inr (i + 1, F0, clC f (rdF 0 F cur).2, 0, 0)) else if t.getD i 0 = 44 ∧ inM F = 7 then (match (rdF 0 F cur).1 with
    | [] => .inl i
    | f :: F0 => if f.2.2.2.length = 29 then .inl i else .inr (i + 1, cmF f (rdF 0 F cur).2 :: F0, [], 2, 0)) else if t.getD i 0 = 37 ∧ (fl F ++ cur).length < 128 then .inr (i + 1, F, pcN (fl F ++ cur).length :: cur, 0, 0) else if ¬ (opk (t.getD i 0) (t.getD (i + 1) 0)).1 = 0 ∧ (fl F ++ cur).length < 128 then .inr (i + (opk (t.getD i 0) (t.getD (i + 1) 0)).2, (Int32.ofNat (opk (t.getD i 0) (t.getD (i + 1) 0)).1, ((fl F ++ cur).length, plF (Int32.ofNat (opk (t.getD i 0) (t.getD (i + 1) 0)).1) 0, []), (rdF (rkM (Int32.ofNat (opk (t.getD i 0) (t.getD (i + 1) 0)).1)) F cur).2, [hdI (rdF (rkM (Int32.ofNat (opk (t.getD i 0) (t.getD (i + 1) 0)).1)) F cur).2]) :: (rdF (rkM (Int32.ofNat (opk (t.getD i 0) (t.getD (i + 1) 0)).1)) F cur).1, [], 0, 0) else .inl i) := by
    have k8 : (128 : Int32) ≤ Int32.ofNat (fl F ++ cur).length ↔ 128 ≤ (fl F ++ cur).length := nle_iff (a := 128) (by omega) (by omega)
    have ops : OUT s r (dm216_70 (opX (opk (t.getD i 0) (t.getD (i + 1) 0))) (wP s (setN r 34 (-1)) i)) (if ¬ (opk (t.getD i 0) (t.getD (i + 1) 0)).1 = 0 ∧ (fl F ++ cur).length < 128 then .inr (i + (opk (t.getD i 0) (t.getD (i + 1) 0)).2, (Int32.ofNat (opk (t.getD i 0) (t.getD (i + 1) 0)).1, ((fl F ++ cur).length, plF (Int32.ofNat (opk (t.getD i 0) (t.getD (i + 1) 0)).1) 0, []), (rdF (rkM (Int32.ofNat (opk (t.getD i 0) (t.getD (i + 1) 0)).1)) F cur).2, [hdI (rdF (rkM (Int32.ofNat (opk (t.getD i 0) (t.getD (i + 1) 0)).1)) F cur).2]) :: (rdF (rkM (Int32.ofNat (opk (t.getD i 0) (t.getD (i + 1) 0)).1)) F cur).1, [], 0, 0) else .inl i) := by
      unfold dm216_70 dm216_107
      rw [wP_at, wP_f (show (21 : Nat) ≠ 26 by decide), show setN r 34 (-1) 21 = r 21 from rfl, m1]
      have fail : OUT s r (bu (dm186 (Int32.ofNat i) (wP s (setN r 34 (-1)) i)) some) (.inl i) := (OUT.f (s := s) (r := setN r 34 (-1)) (i := i) (p := i)).c (ch.refl _ s) hr rfl
      rcases opk_in (t.getD i 0) (t.getD (i + 1) 0) with q | q
      · rw [q, if_pos (show opX (0, 0) ≤ 0 by decide), if_neg (fun z => z.1 rfl)]
        exact fail
      · have o := opX_f _ q
        rw [if_neg o.1]
        by_cases g : 128 ≤ (fl F ++ cur).length
        · rw [if_pos (k8.mpr g), if_neg (fun z => by have := z.2; omega)]
          exact fail
        · rw [if_neg (fun z => g (k8.mp z)), if_pos ⟨o.2.2.2.2.2.1, by omega⟩]
          exact (d216b hT2 hG2 hcur h27 rfl hei hi q (by omega)).c (ch.refl _ s) hr rfl
    have pct : OUT s r (dm216_44 (t.getD i 0) (opX (opk (t.getD i 0) (t.getD (i + 1) 0))) (wP s (setN r 34 (-1)) i)) (if t.getD i 0 = 37 ∧ (fl F ++ cur).length < 128 then .inr (i + 1, F, pcN (fl F ++ cur).length :: cur, 0, 0) else if ¬ (opk (t.getD i 0) (t.getD (i + 1) 0)).1 = 0 ∧ (fl F ++ cur).length < 128 then .inr (i + (opk (t.getD i 0) (t.getD (i + 1) 0)).2, (Int32.ofNat (opk (t.getD i 0) (t.getD (i + 1) 0)).1, ((fl F ++ cur).length, plF (Int32.ofNat (opk (t.getD i 0) (t.getD (i + 1) 0)).1) 0, []), (rdF (rkM (Int32.ofNat (opk (t.getD i 0) (t.getD (i + 1) 0)).1)) F cur).2, [hdI (rdF (rkM (Int32.ofNat (opk (t.getD i 0) (t.getD (i + 1) 0)).1)) F cur).2]) :: (rdF (rkM (Int32.ofNat (opk (t.getD i 0) (t.getD (i + 1) 0)).1)) F cur).1, [], 0, 0) else .inl i) := by
      unfold dm216_44
      by_cases g : t.getD i 0 = 37
      · rw [if_pos g, wP_f (show (21 : Nat) ≠ 26 by decide), show setN r 34 (-1) 21 = r 21 from rfl, m1]
        by_cases g2 : 128 ≤ (fl F ++ cur).length
        · rw [if_pos (k8.mpr g2), if_neg (show ¬ (t.getD i 0 = 37 ∧ (fl F ++ cur).length < 128) from fun z => by have := z.2; omega)]
          exact ops
        · rw [if_neg (fun z => g2 (k8.mp z)), if_pos (show t.getD i 0 = 37 ∧ (fl F ++ cur).length < 128 from ⟨g, by omega⟩)]
          obtain ⟨s', r', b1, b2, b3, b4⟩ := d216p (i := i) hG2 hcur rfl (by omega)
          rw [b1]
          simp only [nx_eq]
          rw [wP_at, ofNat_succ (by omega), wP_go]
          refine ⟨s', r', rfl, b2.at (show e ≤ i + 1 by omega) rfl rfl rfl rfl, (b3 27 (by decide) (by decide)).trans h27, (b3 35 (by decide) (by decide)).trans h35, (b3 36 (by decide) (by decide)).trans h36, b3 34 (by decide) (by decide), fun k hk => (b3 k (by omega) (by omega)).trans (hr k hk), b4.mono fun a k z => by unfold scr; omega⟩
      · rw [if_neg g, if_neg (show ¬ (t.getD i 0 = 37 ∧ (fl F ++ cur).length < 128) from fun z => g z.1)]
        exact ops
    have com : OUT s r (dm216_34 (t.getD i 0) (opX (opk (t.getD i 0) (t.getD (i + 1) 0))) (wP s (setN r 34 (-1)) i)) (if t.getD i 0 = 44 ∧ inM F = 7 then (match (rdF 0 F cur).1 with
    | [] => .inl i
    | f :: F0 => if f.2.2.2.length = 29 then .inl i else .inr (i + 1, cmF f (rdF 0 F cur).2 :: F0, [], 2, 0)) else if t.getD i 0 = 37 ∧ (fl F ++ cur).length < 128 then .inr (i + 1, F, pcN (fl F ++ cur).length :: cur, 0, 0) else if ¬ (opk (t.getD i 0) (t.getD (i + 1) 0)).1 = 0 ∧ (fl F ++ cur).length < 128 then .inr (i + (opk (t.getD i 0) (t.getD (i + 1) 0)).2, (Int32.ofNat (opk (t.getD i 0) (t.getD (i + 1) 0)).1, ((fl F ++ cur).length, plF (Int32.ofNat (opk (t.getD i 0) (t.getD (i + 1) 0)).1) 0, []), (rdF (rkM (Int32.ofNat (opk (t.getD i 0) (t.getD (i + 1) 0)).1)) F cur).2, [hdI (rdF (rkM (Int32.ofNat (opk (t.getD i 0) (t.getD (i + 1) 0)).1)) F cur).2]) :: (rdF (rkM (Int32.ofNat (opk (t.getD i 0) (t.getD (i + 1) 0)).1)) F cur).1, [], 0, 0) else .inl i) := by
      unfold dm216_34
      by_cases g : t.getD i 0 = 44
      · rw [if_pos g, d220 hG2]
        simp only [bu_some]
        by_cases g2 : inM F = 7
        · rw [if_pos g2, if_pos (show t.getD i 0 = 44 ∧ inM F = 7 from ⟨g, g2⟩)]
          obtain ⟨f, F0, cur1, q1, q2, q3⟩ := d221 (i := i) hG2 hcur g2 (by omega)
          rw [q1]
          rcases q3 with ⟨q4, s', r', b1, b2, b3⟩ | ⟨q4, s', r', b1, b2, b3, b4, b5, b6⟩
          · simp only [if_pos q4]
            rw [b1]
            refine ⟨s', setN r' 27 1, rfl, rfl, fun k hk => ?_, b3⟩
            unfold setN
            rw [if_neg (by omega)]
            exact (b2 k (by omega) (by omega)).trans (hr k hk)
          · simp only [if_neg q4]
            rw [b1]
            exact ⟨s', r', rfl, b2.at (show e ≤ i + 1 by omega) rfl rfl rfl rfl, (b5 27 (by decide) (by decide) (by decide) (by decide)).trans h27, b4, b3, b5 34 (by decide) (by decide) (by decide) (by decide), fun k hk => (b5 k (by omega) (by omega) (by omega) (by omega)).trans (hr k hk), b6⟩
        · rw [if_neg g2, if_neg (show ¬ (t.getD i 0 = 44 ∧ inM F = 7) from fun z => g2 z.2)]
          exact pct
      · rw [if_neg g, if_neg (show ¬ (t.getD i 0 = 44 ∧ inM F = 7) from fun z => g z.1)]
        exact pct
    unfold dm216_25
    by_cases g : t.getD i 0 = 41
    · rw [if_pos g, wP_f (show (33 : Nat) ≠ 26 by decide), show setN r 34 (-1) 33 = r 33 from rfl, a3]
      have k0 : Int32.ofNat (nO F) ≤ 0 ↔ nO F ≤ 0 := nle_iff (b := 0) (by omega) (by omega)
      by_cases g2 : nO F = 0
      · rw [if_pos (k0.mpr (by omega)), if_neg (show ¬ (t.getD i 0 = 41 ∧ ¬ nO F = 0) from fun z => z.2 g2)]
        exact com
      · rw [if_neg (fun z => by have := k0.mp z; omega), if_pos (show t.getD i 0 = 41 ∧ ¬ nO F = 0 from ⟨g, g2⟩)]
        obtain ⟨f, F0, cur1, s', r', q1, b1, b2, b3, b4, b5, b6, b7⟩ := d189 (i := i) hG2 hcur h36 g2 (by omega)
        rw [q1, b1]
        have hne : (clC f cur1).isEmpty = false := by
          cases hq : clC f cur1 with
          | nil => exact absurd hq b3
          | cons a b => rfl
        refine ⟨s', r', rfl, b2.at (show e ≤ i + 1 by omega) rfl rfl rfl rfl, (b6 27 (by decide) (by decide) (by decide) (by decide) (by decide)).trans h27, b5, ?_, b6 34 (by decide) (by decide) (by decide) (by decide) (by decide), fun k hk => (b6 k (by omega) (by omega) (by omega) (by omega) (by omega)).trans (hr k hk), b7⟩
        show r' 36 = if (clC f cur1).isEmpty = true then 1 else 0
        rw [hne, b4]
        rfl
    · rw [if_neg g, if_neg (show ¬ (t.getD i 0 = 41 ∧ ¬ nO F = 0) from fun z => g z.1)]
      exact com
  by_cases c1 : t.getD i 0 = 58
  · rw [if_pos c1, wP_f (by decide), h34]
    by_cases c2 : lc = 1
    · obtain ⟨n, rfl, hn4⟩ := hlc c2
      rw [if_pos c2, if_pos (show t.getD i 0 = 58 ∧ lc = 1 from ⟨c1, c2⟩)]
      have hidb : n.1 < 128 := by
        have := hG.2.2.2.2.2.2.1.2 n.1 (by rw [idL_ap]; exact List.mem_append_right _ (by show n.1 ∈ [n.1]; exact List.mem_cons_self))
        omega
      have hd : hdI [n] = n.1 := rfl
      rw [if_neg (show ¬ Int32.ofNat (hdI [n]) < 0 from fun q => by have := (nlt_iff (b := 0) (by omega) (by omega)).mp q; omega), wP_set (by decide), setN_2]
      have hG3 : GM s (setN r 34 (Int32.ofNat (hdI [n]))) e F [n] := hG.at (Nat.le_refl _) rfl rfl rfl rfl
      rcases d218 (hT.set 34 (Int32.ofNat (hdI [n])) (by decide)) hG3 hn4 h27 rfl hei hi with ⟨g, r', b1, b2, b3⟩ | ⟨g, s', r', b1, b2, b3, b4, b5⟩
      · simp only [if_pos (b01_ne.mpr g)]
        rw [b1]
        exact ⟨s, r', rfl, b2, fun k hk => (b3 k hk).trans (if_neg (by omega)), ch.refl _ s⟩
      · simp only [if_neg (fun z => b01_ne.mp z g)]
        rw [b1]
        exact ⟨s', r', rfl, b2, (b4 27 (by decide) (by decide) (by decide) (by decide)).trans h27, (b4 35 (by decide) (by decide) (by decide) (by decide)).trans h35, (b4 36 (by decide) (by decide) (by decide) (by decide)).trans h36, b3, fun k hk => (b4 k (by omega) (by omega) (by omega) (by omega)).trans (if_neg (by omega)), b5⟩
    · rw [if_neg c2, if_pos (by decide), if_neg (show ¬ (t.getD i 0 = 58 ∧ lc = 1) from fun z => c2 z.2)]
      exact rest
  · rw [if_neg c1, if_neg (show ¬ (t.getD i 0 = 58 ∧ lc = 1) from fun z => c1 z.1)]
    exact rest
