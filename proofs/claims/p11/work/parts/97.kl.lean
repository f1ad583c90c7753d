/-! the reader of FormulaTrees, exactly: behind operands, references, ranges -/
def XG (s : aS) (b : Nat) (t : List Int32) (ns : List (List Int32)) (j : Nat) (F : List Fw) (cur : List NN) : Prop := KS s b t ns ∧ TR s b j (flC F ++ cur) ∧ PB s (pO F) (bO F) ∧ sI s 106 7 = Int32.ofNat j ∧ sI s 106 8 = -1 ∧ sI s 106 9 = 3 ∧ sI s 106 10 = Int32.ofNat (flC F).length
section XX
variable {s s1 : aS} {b i : Nat} {t : List Int32} {ns : List (List Int32)} {F : List Fw} {cur M : List NN} {fr : Int32} {lc : Nat}
set_option maxRecDepth 100000 in
theorem opk_d {c : Int32} {j : Nat} : opk c (t.getD j (-1)) = opk c (t.getD j 0) := by
  have h1 : t.getD j (-1) = 62 ↔ t.getD j 0 = 62 := gd_eq (by decide) (by decide)
  have h2 : t.getD j (-1) = 61 ↔ t.getD j 0 = 61 := gd_eq (by decide) (by decide)
  unfold opk
  simp only [h1, h2]
set_option maxRecDepth 100000 in
theorem opk_2 {c d : Int32} (h : (opk c d).2 = 2) : d = 62 ∨ d = 61 := by
  unfold opk at h
  repeat' split at h
  all_goals first
    | (exact absurd h (by decide))
    | (left; assumption)
    | (right; assumption)
set_option maxRecDepth 100000 in
theorem opk_b {c d : Int32} : (opk c d).2 ≤ 2 := by
  unfold opk
  repeat' split
  all_goals decide
set_option maxRecDepth 100000 in
theorem opk_n {c d : Int32} (h : c = 58 ∨ c = 41 ∨ c = 44 ∨ c = 37 ∨ c = 36 ∨ bad c) : (opk c d).1 = 0 := by
  have ne : ∀ k : Int32, ¬ (k = 58 ∨ k = 41 ∨ k = 44 ∨ k = 37 ∨ k = 36 ∨ bad k) → ¬ c = k := fun k hk z => hk (z ▸ h)
  have nb : ∀ k : Int32, (k = 38 ∨ k = 42 ∨ k = 43 ∨ k = 45 ∨ k = 47 ∨ k = 60 ∨ k = 61 ∨ k = 62 ∨ k = 94) → ¬ (k = 58 ∨ k = 41 ∨ k = 44 ∨ k = 37 ∨ k = 36 ∨ bad k) := by
    intro k hk
    rcases hk with q | q | q | q | q | q | q | q | q <;> rw [q] <;> unfold bad gW isL isD <;> decide
  unfold opk
  rw [if_neg (ne 38 (nb _ (by decide))), if_neg (ne 42 (nb _ (by decide))), if_neg (ne 43 (nb _ (by decide))), if_neg (ne 45 (nb _ (by decide))), if_neg (ne 47 (nb _ (by decide))), if_neg (ne 60 (nb _ (by decide))), if_neg (ne 61 (nb _ (by decide))), if_neg (ne 62 (nb _ (by decide))), if_neg (ne 94 (nb _ (by decide)))]
set_option maxRecDepth 100000 in
theorem flc (F : List Fw) (cur : List NN) : (fl F ++ cur).length = (flC F ++ cur).length := by rw [List.length_append, List.length_append, flC_len]
set_option maxRecDepth 100000 in
/-- behind an operand -/
theorem x68 (h : XI s b t ns i F cur 0 lc) (hF : ∀ f ∈ F, gdF ns f) (hcur : cur ≠ []) (hi : i < t.length) : ∃ s', dm68 (t.getD i (-1)) s = some s' ∧ ((sI s' 106 8 ≠ -1 ∧ ∃ p, mBeh t i F cur lc = .inl p) ∨ (∃ z, mBeh t i F cur lc = .inr z ∧ XI s' b t ns z.1 z.2.1 z.2.2.1 z.2.2.2.1 z.2.2.2.2) ∨ (t.getD i 0 = 58 ∧ lc = 1 ∧ XG s' b t ns (i + 1) F cur)) := by
  have hl := h.1.1.2.1
  have hb := xb h.1
  have ex : t.getD i (-1) = t.getD i 0 := gd_in hi
  obtain ⟨K, T, B, h7, h8, h9, h10⟩ := id h
  have h10 := h10 hcur
  have hce : cur.isEmpty = false := by
    cases cur with
    | nil => exact absurd rfl hcur
    | cons a r => rfl
  have h9e : sI s 106 9 = if lc = 1 then 5 else 4 := by
    rw [h9]
    unfold wn
    rw [hce]
    rfl
  have hle := T.2.1
  obtain ⟨c, hc⟩ : ∃ c, c = t.getD i 0 := ⟨_, rfl⟩
  rw [ex, ← hc]
  -- an operator, or nothing
  have btw : ¬ (c = 58 ∧ lc = 1) → ¬ c = 37 → ¬ (c = 41 ∧ ¬ nO F = 0) → ¬ (c = 44 ∧ inM F = 7) → ∃ s', dm68_52 c s = some s' ∧ ((sI s' 106 8 ≠ -1 ∧ ∃ p, mBeh t i F cur lc = .inl p) ∨ (∃ z, mBeh t i F cur lc = .inr z ∧ XI s' b t ns z.1 z.2.1 z.2.2.1 z.2.2.2.1 z.2.2.2.2)) := by
    intro n1 n2 n3 n4
    have eM : mBeh t i F cur lc = if ¬ (opk c (t.getD (i + 1) 0)).1 = 0 ∧ (fl F ++ cur).length < 128 then .inr (i + (opk c (t.getD (i + 1) 0)).2, (Int32.ofNat (opk c (t.getD (i + 1) 0)).1, ((fl F ++ cur).length, plF (Int32.ofNat (opk c (t.getD (i + 1) 0)).1) 0, []), (rdF (rkM (Int32.ofNat (opk c (t.getD (i + 1) 0)).1)) F cur).2, [hdI (rdF (rkM (Int32.ofNat (opk c (t.getD (i + 1) 0)).1)) F cur).2]) :: (rdF (rkM (Int32.ofNat (opk c (t.getD (i + 1) 0)).1)) F cur).1, [], 0, 0) else .inl i := by
      unfold mBeh
      rw [← hc, if_neg n1, if_neg n3, if_neg n4, if_neg (fun z => n2 z.1)]
    unfold dm68_52
    rw [h7, ofNat_succ (by omega), x34 K (by omega)]
    simp only [bu_some]
    rw [x83, opk_d]
    simp only [bu_some]
    by_cases c0 : (opk c (t.getD (i + 1) 0)).1 = 0
    · rw [if_pos c0]
      unfold dm84
      rw [if_pos rfl, nx_eq]
      refine ⟨_, rfl, Or.inl ⟨by rw [sI_wI, if_pos ⟨rfl, rfl⟩, h7]; exact nm1 (by omega), i, ?_⟩⟩
      rw [eM, if_neg (fun z => z.1 c0)]
    · rw [if_neg c0]
      have hp : opk c (t.getD (i + 1) 0) ∈ opL := (opk_in c (t.getD (i + 1) 0)).resolve_left (fun z => c0 (by rw [z]))
      by_cases c8 : (flC F ++ cur).length < 128
      · have h2 : i + (opk c (t.getD (i + 1) 0)).2 ≤ t.length := by
          have := opk_b (c := c) (d := t.getD (i + 1) 0)
          by_cases z : (opk c (t.getD (i + 1) 0)).2 = 2
          · have hin : i + 1 < t.length := by
              rcases opk_2 z with q | q
              · exact in_of (p := fun x => x = 62) (d := 0) (by decide) q
              · exact in_of (p := fun x => x = 61) (d := 0) (by decide) q
            omega
          · omega
        obtain ⟨s', q1, q2⟩ := x84 h hF hcur h2 hp c8 (fl F ++ cur).length
        rw [q1]
        refine ⟨s', rfl, Or.inr ⟨(_, _, _, _, _), ?_, q2⟩⟩
        rw [eM, if_pos ⟨c0, by rw [flc]; exact c8⟩]
      · have o1 := (op_l _ hp).1
        unfold dm84
        rw [if_neg o1]
        rcases x70 K T (sI s 106 7) with ⟨z, -⟩ | ⟨-, e70⟩
        · exact absurd z c8
        · rw [e70]
          simp only [bv_some]
          rw [if_pos trivial]
          refine ⟨_, rfl, Or.inl ⟨by rw [sI_wI, if_pos ⟨rfl, rfl⟩, h7]; exact nm1 (by omega), i, ?_⟩⟩
          rw [eM, if_neg (fun z => c8 (by rw [← flc]; exact z.2))]
  have up : ∀ {D : Option aS}, (∃ s', D = some s' ∧ ((sI s' 106 8 ≠ -1 ∧ ∃ p, mBeh t i F cur lc = .inl p) ∨ (∃ z, mBeh t i F cur lc = .inr z ∧ XI s' b t ns z.1 z.2.1 z.2.2.1 z.2.2.2.1 z.2.2.2.2))) → ∃ s', D = some s' ∧ ((sI s' 106 8 ≠ -1 ∧ ∃ p, mBeh t i F cur lc = .inl p) ∨ (∃ z, mBeh t i F cur lc = .inr z ∧ XI s' b t ns z.1 z.2.1 z.2.2.1 z.2.2.2.1 z.2.2.2.2) ∨ (c = 58 ∧ lc = 1 ∧ XG s' b t ns (i + 1) F cur)) := by
    rintro D ⟨s', e, q | q⟩
    · exact ⟨s', e, Or.inl q⟩
    · exact ⟨s', e, Or.inr (Or.inl q)⟩
  have out : ∀ {D : Option aS} {s' : aS}, D = some s' → (bu D fun s8 => some s8) = some s' := fun e => by rw [e]; rfl
  -- brackets
  have e22 := rd_in F cur
  have efl := rd_fl (x := 0) F cur hF
  have ebO := rd_bO (x := 0) F cur
  obtain ⟨P1, epO⟩ := pO_cut (x := 0) F cur
  obtain ⟨G, hG⟩ : ∃ G, G = (rdF 0 F cur).1 := ⟨_, rfl⟩
  obtain ⟨c1, hc1⟩ : ∃ c1, c1 = (rdF 0 F cur).2 := ⟨_, rfl⟩
  rw [← hG] at e22 efl ebO epO
  rw [← hc1] at efl
  have closing : ∀ f F0, G = f :: F0 → (f.1 = 100 ∨ f.1 = 7) → ∃ s', (if f.1 = 7 then dm75 1 s else dm77 s) = some s' ∧ XI s' b t ns (i + 1) F0 (clC f c1) 0 0 := by
    intro f F0 eG hf
    have hfg : gdF ns f := by
      rcases e22 with ⟨z, -⟩ | ⟨f9, F9, z1, z2, z3, z4, z5⟩
      · rw [z] at eG
        cases eG
      · rw [z1] at eG
        cases eG
        exact hF f z4
    have epO2 : pO F = P1 ++ pO F0 := by
      rw [epO, eG, pO, if_pos hf]
    by_cases f7 : f.1 = 7
    · rw [if_pos f7]
      have hk : f.2.2.2.length ≤ 29 := by
        rcases hfg with z | z
        · rw [z] at f7
          exact absurd f7 (by decide)
        · exact z.2.2.2.2.2.2.2.1
      have eb : bO F = ((flC F0).length, Int32.ofNat f.2.2.2.length, (pO F0).length) :: bO F0 := by
        rw [← ebO, eG, bO, if_neg (fun z => by rw [z] at f7; exact absurd f7 (by decide)), if_pos f7]
      have et : flC F ++ cur = flC F0 ++ hdC f :: (f.2.2.1 ++ c1) := by
        rw [← efl, eG]
        show (flC F0 ++ frC f) ++ c1 = _
        unfold frC
        rw [if_neg (fun z => by rw [z] at f7; exact absurd f7 (by decide)), List.append_assoc]
        rfl
      rw [et] at T
      rw [epO2, eb] at B
      obtain ⟨s', q1, q2, q3, q4, q5, q6, q7⟩ := x75b K T rfl (by omega) B h7 (by omega)
      refine ⟨s', q1, K.of (b := b) (q7.mono fun a k z => aMC z), ?_, q3, q6, (q7.i (by unfold aM; omega)).trans h8, ?_, fun _ => q4⟩
      · have e9 : (hdC f).1 = f.2.1.1 := rfl
        have e8 : (((hdC f).1, setN (hdC f).2.1 1 (Int32.ofNat (f.2.2.2.length + 1)), (hdC f).2.2) : NN) = upN f := by
          show (f.2.1.1, setN (setN f.2.1.2.1 1 (caF f)) 1 (Int32.ofNat (f.2.2.2.length + 1)), f.2.1.2.2) = upN f
          rw [setN_2]
          rfl
        rw [e8] at q2
        unfold clC
        rw [if_pos f7]
        exact q2.up (by omega)
      · rw [q5]
        unfold clC
        rw [if_pos f7]
        rfl
    · rw [if_neg f7]
      have f1 : f.1 = 100 := hf.resolve_right f7
      have eb : bO F = ((flC F0).length, -1, (pO F0).length) :: bO F0 := by
        rw [← ebO, eG, bO, if_pos f1]
      have et : flC F ++ cur = flC F0 ++ c1 := by
        rw [← efl, eG]
        show (flC F0 ++ frC f) ++ c1 = _
        unfold frC
        rw [if_pos f1, List.append_nil]
      rw [et] at T
      rw [epO2, eb] at B
      obtain ⟨s', q1, q2, q3, q4, q5, q6, q7⟩ := x77a K T B h7 (by omega)
      have hc0 : (clC f c1).isEmpty = false := by
        unfold clC
        rw [if_neg f7]
        have := rd_ne (x := 0) F cur hcur
        rw [← hc1] at this
        cases c1 with
        | nil => exact absurd rfl this
        | cons a r => rfl
      refine ⟨s', q1, K.of (b := b) (q7.mono fun a k z => aMC z), ?_, q3, q6, (q7.i (by unfold aM; omega)).trans h8, ?_, fun _ => q4⟩
      · unfold clC
        rw [if_neg f7]
        exact q2.up (by omega)
      · rw [q5]
        unfold wn
        rw [hc0]
        rfl
  unfold dm68
  by_cases c58 : c = 58
  · rw [if_pos c58]
    by_cases l1 : lc = 1
    · rw [if_pos (by rw [h9e, if_pos l1])]
      simp only [nx_eq]
      have e7 : sI (wI s 106 9 3) 106 7 = Int32.ofNat i := by rw [sI_wI, if_neg (by omega)]; exact h7
      rw [e7, ofNat_succ (by omega)]
      have g : ch (fun a k => a = 106 ∧ (k = 7 ∨ k = 9)) s (wI (wI s 106 9 3) 106 7 (Int32.ofNat (i + 1))) := ((ch.refl _ s).wI (by omega)).wI (by omega)
      exact ⟨_, rfl, Or.inr (Or.inr ⟨c58, l1, K.of (b := b) (g.mono fun a k z => by unfold AC; omega), (trM T hb g (fun a k z => by omega)).up (by omega), B.of g (fun a k z => by omega), by rw [sI_wI, if_pos ⟨rfl, rfl⟩], (g.i (by omega)).trans h8, by rw [sI_wI, if_neg (by omega), sI_wI, if_pos ⟨rfl, rfl⟩], (g.i (by omega)).trans h10⟩)⟩
    · rw [if_neg (by rw [h9e, if_neg l1]; decide)]
      unfold dm68_17 dm68_42
      rw [if_neg (by rw [c58]; decide), if_neg (by rw [c58]; decide), if_neg (by rw [c58]; decide), if_neg (by rw [c58]; decide)]
      exact up (btw (fun z => l1 z.2) (by rw [c58]; decide) (fun z => by rw [c58] at z; exact absurd z.1 (by decide)) (fun z => by rw [c58] at z; exact absurd z.1 (by decide)))
  · rw [if_neg c58]
    unfold dm68_17
    by_cases c37 : c = 37
    · rw [if_pos c37]
      unfold dm69
      rcases x70 K T (sI s 106 7) with ⟨c8, e70⟩ | ⟨c8, e70⟩
      · obtain ⟨s2, a1, a2, a3⟩ := x72 (q := (fl F ++ cur).length) (kd := 9) (c := 1) T c8
        rw [e70]
        simp only [bv_some]
        rw [if_neg (by decide), (xtr K).1, if_pos (xk K), h10, a1]
        simp only [bu_some, nx_eq]
        have e7 : sI (wI s2 106 9 4) 106 7 = Int32.ofNat i := by rw [sI_wI, if_neg (by omega), a3.i (by omega)]; exact h7
        rw [e7, ofNat_succ (by omega)]
        have g : ch (fun a k => a = 106 ∧ (k = 7 ∨ k = 9)) s2 (wI (wI s2 106 9 4) 106 7 (Int32.ofNat (i + 1))) := ((ch.refl _ s2).wI (by omega)).wI (by omega)
        have gg : ch (AC b) s (wI (wI s2 106 9 4) 106 7 (Int32.ofNat (i + 1))) := (a3.mono fun a k z => by unfold AC; omega).trans (g.mono fun a k z => by unfold AC; omega)
        have hb9 := xb K
        have B2 := B.of a3 (fun a k z => by omega)
        have B3 := B2.of g (fun a k z => by omega)
        refine ⟨_, rfl, Or.inr (Or.inl ⟨(i + 1, F, pcN (fl F ++ cur).length :: cur, 0, 0), ?_, K.of gg, ?_, B3, by rw [sI_wI, if_pos ⟨rfl, rfl⟩], ?_, by rw [sI_wI, if_neg (by omega), sI_wI, if_pos ⟨rfl, rfl⟩]; rfl, fun _ => ?_⟩)⟩
        · unfold mBeh
          rw [← hc, if_neg (fun z => c58 z.1), if_neg (fun z => by rw [c37] at z; exact absurd z.1 (by decide)), if_neg (fun z => by rw [c37] at z; exact absurd z.1 (by decide)), if_pos ⟨c37, by rw [flc]; exact c8⟩]
        · have e9 : pcN (fl F ++ cur).length = ((fl F ++ cur).length, plF 9 1, []) := by
            unfold pcN
            rw [pl_1]
            rfl
          show TR _ b (i + 1) (flC F ++ pcN (fl F ++ cur).length :: cur)
          rw [e9]
          exact (trM a2 hb g (fun a k z => by omega)).up (by omega)
        · rw [g.i (by omega), a3.i (by omega)]
          exact h8
        · rw [g.i (by omega), a3.i (by omega)]
          exact h10
      · rw [e70]
        simp only [bv_some]
        rw [if_pos trivial]
        refine ⟨_, rfl, Or.inl ⟨by rw [sI_wI, if_pos ⟨rfl, rfl⟩, h7]; exact nm1 (by omega), i, ?_⟩⟩
        unfold mBeh
        rw [← hc, if_neg (fun z => c58 z.1), if_neg (fun z => by rw [c37] at z; exact absurd z.1 (by decide)), if_neg (fun z => by rw [c37] at z; exact absurd z.1 (by decide)), if_neg (fun z => by rw [flc] at z; omega), if_neg (fun z => z.1 (opk_n (by rw [c37]; exact Or.inr (Or.inr (Or.inr (Or.inl rfl))))))]
    · rw [if_neg c37]
      unfold dm68_29
      rw [x73 B]
      simp only [bu_some]
      have hbA := bA_top F hF
      by_cases c41 : c = 41
      · rw [if_neg (by rw [c41]; decide), if_pos c41]
        by_cases hO : nO F = 0
        · have eB : bO F = [] := by
            have := bO_len F
            rw [hO] at this
            exact List.length_eq_zero_iff.mp this
          rw [eB, show bA [] = -1 from rfl, if_pos rfl, if_pos rfl]
          unfold dm68_42
          rw [if_pos c41, x82 B, eB]
          simp only [bu_some]
          rw [if_pos (by decide)]
          exact up (btw (fun z => c58 z.1) c37 (fun z => z.2 hO) (fun z => by rw [c41] at z; exact absurd z.1 (by decide)))
        · rcases e22 with ⟨-, -, z3⟩ | ⟨f, F0, z1, z2, z3, z4, z5⟩
          · exact absurd z3 hO
          · obtain ⟨s', q1, q2⟩ := closing f F0 z1 z2
            have eM : mBeh t i F cur lc = .inr (i + 1, F0, clC f c1, 0, 0) := by
              unfold mBeh
              rw [← hc, if_neg (fun z => c58 z.1), if_pos ⟨c41, hO⟩, ← hG, z1, ← hc1]
            by_cases f7 : f.1 = 7
            · rw [if_pos f7] at q1
              rw [if_neg (show ¬ bA (bO F) = -1 from (hbA.resolve_left (fun z => z.2 (z3.trans f7))).1), if_neg (by decide), if_pos c41]
              unfold dm68_40
              exact ⟨s', out q1, Or.inr (Or.inl ⟨_, eM, q2⟩)⟩
            · rw [if_neg f7] at q1
              rw [if_pos (hbA.resolve_right (fun z => f7 (z3.symm.trans z.2))).1, if_pos rfl]
              unfold dm68_42
              rw [if_pos c41, x82 B]
              simp only [bu_some]
              rw [if_neg (fun z => by
                have := bO_len F
                have hB32 := B.2.2.1
                have := (nle_iff (b := 0) (by omega) (by omega)).mp z
                omega)]
              exact ⟨s', out q1, Or.inr (Or.inl ⟨_, eM, q2⟩)⟩
      · by_cases c44 : c = 44
        · rw [if_pos c44]
          by_cases h7i : inM F = 7
          · rcases e22 with ⟨-, z2, -⟩ | ⟨f, F0, z1, z2, z3, z4, z5⟩
            · rw [h7i] at z2
              exact absurd z2 (by decide)
            · have f7 : f.1 = 7 := z3.symm.trans h7i
              rw [if_neg (show ¬ bA (bO F) = -1 from (hbA.resolve_left (fun z => z.2 h7i)).1), if_neg (by decide), if_neg c41]
              unfold dm68_40
              have hfg := hF f z4
              have hk : f.2.2.2.length ≤ 29 := by
                rcases hfg with z | z
                · rw [z] at f7
                  exact absurd f7 (by decide)
                · exact z.2.2.2.2.2.2.2.1
              have n100 : ¬ f.1 = 100 := fun z => by rw [z] at f7; exact absurd f7 (by decide)
              have epO2 : pO F = P1 ++ pO F0 := by
                rw [epO, z1, pO, if_pos z2]
              have eb : bO F = ((flC F0).length, Int32.ofNat f.2.2.2.length, (pO F0).length) :: bO F0 := by
                rw [← ebO, z1, bO, if_neg n100, if_pos f7]
              have eM : mBeh t i F cur lc = if f.2.2.2.length = 29 then .inl i else .inr (i + 1, cmF f c1 :: F0, [], 2, 0) := by
                unfold mBeh
                rw [← hc, if_neg (fun z => c58 z.1), if_neg (fun z => c41 z.1), if_pos ⟨c44, h7i⟩, ← hG, z1, ← hc1]
              by_cases k29 : f.2.2.2.length = 29
              · rw [eb] at B
                obtain ⟨s', q1, q2⟩ := x75w k29 B h7 (by omega)
                exact ⟨s', out q1, Or.inl ⟨q2, i, by rw [eM, if_pos k29]⟩⟩
              · have B2 := B
                rw [epO2, eb] at B2
                obtain ⟨s', q1, q2, q3, q4, q5, q6⟩ := x75c K T (by omega) B2 h7 (by omega)
                refine ⟨s', out q1, Or.inr (Or.inl ⟨_, by rw [eM, if_neg k29], K.of (b := b) (q6.mono fun a k z => aMC z), ?_, ?_, q5, (q6.i (by unfold aM; omega)).trans h8, by rw [q4]; rfl, fun z => absurd rfl z⟩)⟩
                · have e9 : flC (cmF f c1 :: F0) ++ [] = flC F ++ cur := by
                    rw [List.append_nil, ← efl, z1]
                    show flC F0 ++ frC (cmF f c1) = (flC F0 ++ frC f) ++ c1
                    unfold frC
                    rw [if_neg (show ¬ (cmF f c1).1 = 100 from n100), if_neg n100, List.append_assoc]
                    show flC F0 ++ hdC (cmF f c1) :: (f.2.2.1 ++ c1) = flC F0 ++ (hdC f :: (f.2.2.1 ++ c1))
                    have e8 : hdC (cmF f c1) = hdC f := by
                      show (f.2.1.1, setN (setN f.2.1.2.1 1 (Int32.ofNat (f.2.2.2.length + 1))) 1 (caF (cmF f c1)), f.2.1.2.2) = hdC f
                      rw [setN_2]
                      rfl
                    rw [e8]
                  show TR s' b (i + 1) (flC (cmF f c1 :: F0) ++ [])
                  rw [e9]
                  exact q2.up (by omega)
                · have ep : pO (cmF f c1 :: F0) = pO F0 := by
                    rw [pO]
                    exact if_pos (Or.inr f7)
                  have eb2 : bO (cmF f c1 :: F0) = ((flC F0).length, Int32.ofNat (f.2.2.2.length + 1), (pO F0).length) :: bO F0 := by
                    rw [bO, if_neg (show ¬ (cmF f c1).1 = 100 from n100), if_pos (show (cmF f c1).1 = 7 from f7)]
                    show ((flC F0).length, Int32.ofNat (f.2.2.2 ++ [hdI c1]).length, (pO F0).length) :: bO F0 = _
                    rw [List.length_append]
                    rfl
                  show PB s' (pO (cmF f c1 :: F0)) (bO (cmF f c1 :: F0))
                  rw [ep, eb2]
                  exact q3
          · rw [if_pos (hbA.resolve_right (fun z => h7i z.2)).1, if_pos rfl]
            unfold dm68_42
            rw [if_neg c41]
            exact up (btw (fun z => c58 z.1) c37 (fun z => c41 z.1) (fun z => h7i z.2))
        · rw [if_neg c44, if_neg c41]
          unfold dm68_42
          rw [if_neg c41]
          exact up (btw (fun z => c58 z.1) c37 (fun z => c41 z.1) (fun z => c44 z.1))
end XX
