/-! a step at an operand, a step behind one, in the reference -/
def dN : NN := (0, fun _ => 0, [])
set_option maxRecDepth 100000 in
noncomputable def mOpd (t : List Int32) (ns : List (List Int32)) (i : Nat) (F : List Fw) (fr : Int32) : Nat ⊕ St := if t.getD i 0 = 43 then .inr (i + 1, F, [], 0, 0) else if t.getD i 0 = 45 then (if (fl F).length = 128 then .inl i else .inr (i + 1, (10, ((fl F).length, plF 10 0, []), [], []) :: F, [], 0, 0)) else if t.getD i 0 = 40 then (if nO F = 32 then .inl i else .inr (i + 1, (100, dN, [], []) :: F, [], 0, 0)) else if t.getD i 0 = 41 ∧ fr = 1 then (match F with
    | [] => .inl i
    | f :: F0 => .inr (i + 1, F0, f.2.1 :: (f.2.2.1 ++ []), 0, 0)) else if (t.getD i 0 = 41 ∨ t.getD i 0 = 44) ∧ ¬ fr ≤ 0 then (if (fl F).length = 128 then .inl i else .inr (i, F, [((fl F).length, plF 8 0, [])], 0, 0)) else mPrim t ns F (fl F).length i
set_option maxRecDepth 100000 in
theorem d185n {s : aS} {r : Nat → Int32} {t : List Int32} {ns : List (List Int32)} {e i : Nat} {F : List Fw} {fr : Int32} (h : OP s r t ns e F fr) (hei : e ≤ i) (h8 : (fl F).length < 128) : OUT s r (bv (dm187 8 (wP s r i)) fun r9 s8 => bu (dm194 r9 s8) fun s12 => nx (wI s12 121 35 0) fun s13 => nx (wI s13 121 36 0) fun s16 => some s16) (.inr (i, F, [((fl F).length, plF 8 0, [])], 0, 0)) := by
  obtain ⟨hT, hG, hok, het, h27, h35, h36, h34, h147, hS⟩ := h
  have hfb := hG.fb
  have m1 : r 21 = Int32.ofNat (fl F).length := by
    have := hG.1.1
    rw [List.append_nil] at this
    exact this
  have c8 : r 29 = Int32.ofNat (nT F) := by
    rcases hG.2.2.2.2.2.2.2 with ⟨-, q⟩ | ⟨c, q, -⟩
    · exact q
    · have q : ([c] : List Nat) = [] := q
      cases q
  have hc : ch (newB e (fl F).length) s (mkN s (fl F).length 8) := (mk_c s (fl F).length 8).mono fun a k z => by unfold newB; omega
  rw [d187 m1 h8]
  simp only [bv_some]
  rw [d194 (c := nT F) (show setN r 21 (Int32.ofNat ((fl F).length + 1)) 29 = Int32.ofNat (nT F) from c8) (by omega)]
  simp only [bu_some, nx_eq]
  rw [wP_set (by decide), wP_set (by decide)]
  refine ⟨_, _, rfl, ?_, h27, rfl, rfl, h34, fun k hk => ?_, (hc.mono fun a k z => newB_scr z).wI (by unfold scr; omega)⟩
  · exact GM.leaf2 hG rfl h8 rfl hc (mk_NR (x := 8) (by decide)) rfl (mk_k (Or.inl rfl)) (mk_k (Or.inr (Or.inr rfl))) hei rfl rfl rfl rfl
  · unfold setN
    rw [if_neg (by omega), if_neg (by omega), if_neg (by omega), if_neg (by omega)]
set_option maxRecDepth 100000 in
theorem d185 {s : aS} {r : Nat → Int32} {t : List Int32} {ns : List (List Int32)} {e i : Nat} {F : List Fw} {fr : Int32} (h : OP s r t ns e F fr) (hei : e ≤ i) (hi : i < t.length) (hfr : fr = 1 → ∃ f F0, F = f :: F0 ∧ f.1 = 7) : OUT s r (dm185 (wP s r i)) (mOpd t ns i F fr) := by
  have hO := h
  obtain ⟨hT, hG, hok, het, h27, h35, h36, h34, h147, hS⟩ := h
  have hl := hT.1
  have hfb := hG.fb
  have m1 : r 21 = Int32.ofNat (fl F).length := by
    have := hG.1.1
    rw [List.append_nil] at this
    exact this
  have hml : (fl F).length ≤ 128 := by
    have := hG.1.2
    rw [List.append_nil] at this
    exact this
  have a3 : r 33 = Int32.ofNat (nO F) := hG.2.2.1.1
  have hO8 := hG.2.2.1.2
  have a2 : r 32 = Int32.ofNat F.length := hG.2.1
  have k8 : Int32.ofNat (fl F).length = 128 ↔ (fl F).length = 128 := neq_iff (b := 128) (by omega) (by omega)
  unfold dm185 mOpd
  rw [wP_at, rch hT (by omega)]
  simp only [bu_some]
  by_cases c1 : t.getD i 0 = 43
  · rw [if_pos c1, if_pos c1]
    simp only [nx_eq]
    rw [wP_set (by decide), wP_at, ofNat_succ (by omega), wP_go]
    refine ⟨s, setN r 35 0, rfl, hG.at (by omega) rfl rfl rfl rfl, h27, rfl, h36, h34, fun k hk => if_neg (by omega), ch.refl _ s⟩
  · rw [if_neg c1, if_neg c1]
    by_cases c2 : t.getD i 0 = 45
    · rw [if_pos c2, if_pos c2, wP_f (by decide), m1]
      by_cases g : (fl F).length = 128
      · rw [if_pos (k8.mpr g), if_pos g]
        exact OUT.f
      · rw [if_neg (fun q => g (k8.mp q)), if_neg g, d187 m1 (by omega)]
        simp only [bv_some]
        rw [d188 (w := F.length) (show setN r 21 (Int32.ofNat ((fl F).length + 1)) 32 = Int32.ofNat F.length from a2) (by omega)]
        simp only [bu_some, nx_eq]
        rw [wP_set (by decide), wP_at, ofNat_succ (n := i) (by omega), wP_go]
        have hc := mk_c s (fl F).length 10
        refine ⟨_, _, rfl, ?_, h27, rfl, h36, h34, fun k hk => ?_, ((hc.mono fun a k z => by unfold scr; omega).wI (by unfold scr; omega)).wI (by unfold scr; omega)⟩
        · refine GM.hnd hG rfl (by omega) rfl (Or.inr rfl) rfl (fun q => absurd q (by decide)) (((hc.mono fun a k z => ?_).wI ?_).wI ?_) (fun q hq => ⟨?_, ?_⟩) ?_ ?_ (fun q hq => ?_) (NR.of (mk_NR (s := s) (e := e) (x := 10) (by decide)) ⟨fun w hw => ?_, ?_⟩ (fun q _ => ?_) (show e ≤ i + 1 by omega)) rfl ?_ ?_ (by omega) rfl rfl rfl ?_
          · unfold newA
            omega
          · unfold newA
            omega
          · unfold newA
            omega
          · rw [sI_wI, if_neg (by omega), sI_wI, if_neg (by omega)]
            exact hc.i (by omega)
          · rw [sI_wI, if_neg (by omega), sI_wI, if_neg (by omega)]
            exact hc.i (by omega)
          · rw [sI_wI, if_neg (by omega), sI_wI, if_pos ⟨rfl, rfl⟩]
          · rw [sI_wI, if_pos ⟨rfl, rfl⟩]
          · rw [sI_wI, if_neg (by omega), sI_wI, if_neg (by omega)]
            exact hc.i (by omega)
          · rw [sI_wI, if_neg (by omega), sI_wI, if_neg (by omega)]
          · rw [sI_wI, if_neg (by omega), sI_wI, if_neg (by omega)]
          · rw [sI_wI, if_neg (by omega), sI_wI, if_neg (by omega)]
          · rw [sI_wI, if_neg (by omega), sI_wI, if_neg (by omega)]
            exact mk_k (Or.inl rfl)
          · rw [sI_wI, if_neg (by omega), sI_wI, if_neg (by omega)]
            exact mk_k (Or.inr (Or.inr rfl))
          · show r 33 = Int32.ofNat (nO F + (if (10 : Int32) = 100 ∨ (10 : Int32) = 7 then 1 else 0))
            rw [if_neg (by decide)]
            exact a3
        · unfold setN
          rw [if_neg (by omega), if_neg (by omega), if_neg (by omega)]
    · rw [if_neg c2, if_neg c2]
      by_cases c3 : t.getD i 0 = 40
      · rw [if_pos c3, if_pos c3, wP_f (by decide), a3]
        by_cases g : nO F = 32
        · rw [if_pos (show Int32.ofNat (nO F) = 32 by rw [g]; rfl), if_pos g]
          exact OUT.f
        · rw [if_neg (show ¬ Int32.ofNat (nO F) = 32 from fun q => g ((neq_iff (b := 32) (by omega) (by omega)).mp q)), if_neg g, d188 (w := F.length) a2 (by omega)]
          simp only [bu_some, nx_eq]
          rw [wP_f (by decide), show setN r 32 (Int32.ofNat (F.length + 1)) 33 = r 33 from rfl, a3, ofNat_succ (n := nO F) (by omega), wP_set (by decide), wP_set (by decide), wP_at, ofNat_succ (n := i) (by omega), wP_go]
          refine ⟨_, _, rfl, (GM.hop (n := dN) hG (by omega)).at (show e ≤ i + 1 by omega) rfl rfl rfl rfl, h27, rfl, h36, h34, fun k hk => ?_, ((ch.refl _ s).wI (by unfold scr; omega)).wI (by unfold scr; omega)⟩
          unfold setN
          rw [if_neg (by omega), if_neg (by omega), if_neg (by omega)]
      · rw [if_neg c3, if_neg c3]
        have rest : OUT s r (dm185_88 (t.getD i 0) (wP s r i)) (if (t.getD i 0 = 41 ∨ t.getD i 0 = 44) ∧ ¬ fr ≤ 0 then (if (fl F).length = 128 then .inl i else .inr (i, F, [((fl F).length, plF 8 0, [])], 0, 0)) else mPrim t ns F (fl F).length i) := by
          have prim : OUT s r (dm185_118 (wP s r i)) (mPrim t ns F (fl F).length i) := by
            unfold dm185_118
            refine (d195 hO hei hi).c (ch.refl _ s) (fun _ _ => rfl) ?_
            cases dm195 (wP s r i) <;> rfl
          have noth : (t.getD i 0 = 41 ∨ t.getD i 0 = 44) → OUT s r (dm185_94 (wP s r i)) (if (t.getD i 0 = 41 ∨ t.getD i 0 = 44) ∧ ¬ fr ≤ 0 then (if (fl F).length = 128 then .inl i else .inr (i, F, [((fl F).length, plF 8 0, [])], 0, 0)) else mPrim t ns F (fl F).length i) := by
            intro hc
            unfold dm185_94
            rw [wP_f (by decide), h35]
            by_cases g : fr ≤ 0
            · rw [if_pos g, if_neg (fun q => q.2 g)]
              exact prim
            · rw [if_neg g, if_pos (show (t.getD i 0 = 41 ∨ t.getD i 0 = 44) ∧ ¬ fr ≤ 0 from ⟨hc, g⟩), wP_f (show (21 : Nat) ≠ 26 by decide), m1]
              by_cases g2 : (fl F).length = 128
              · rw [if_pos (k8.mpr g2), if_pos g2, wP_at]
                exact OUT.f
              · rw [if_neg (fun q => g2 (k8.mp q)), if_neg g2]
                exact d185n hO hei (by omega)
          unfold dm185_88
          by_cases g1 : t.getD i 0 = 41
          · rw [if_pos g1]
            exact noth (Or.inl g1)
          · rw [if_neg g1]
            by_cases g2 : t.getD i 0 = 44
            · rw [if_pos g2]
              exact noth (Or.inr g2)
            · rw [if_neg g2, if_neg (by rintro ⟨q | q, -⟩; exact g1 q; exact g2 q)]
              exact prim
        by_cases c4 : t.getD i 0 = 41
        · rw [if_pos c4, wP_f (by decide), h35]
          by_cases g : fr = 1
          · rw [if_pos g, if_pos ⟨c4, g⟩]
            obtain ⟨f, F0, rfl, f7⟩ := hfr g
            obtain ⟨s', r', b1, b2, b3, b4, b5, b6⟩ := d189e hG f7 h36 (show i < 1000 by omega)
            rw [b1]
            refine ⟨s', r', rfl, b2.at (show e ≤ i + 1 by omega) rfl rfl rfl rfl, (b5 27 (by decide) (by decide) (by decide) (by decide) (by decide)).trans h27, b4, b3, (b5 34 (by decide) (by decide) (by decide) (by decide) (by decide)).trans h34, fun k hk => b5 k (by omega) (by omega) (by omega) (by omega) (by omega), b6⟩
          · rw [if_neg g, if_neg (fun q => g q.2)]
            exact rest
        · rw [if_neg c4, if_neg (fun q => c4 q.1)]
          exact rest
