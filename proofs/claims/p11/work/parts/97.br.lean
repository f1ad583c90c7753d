/-! commas and closed brackets whole, ranges, in the reference -/
set_option maxRecDepth 100000 in
theorem rch_scr {s s' : aS} (h : ch (fun a k => (a = 129 ∧ 1024 ≤ k) ∨ (140 ≤ a ∧ a ≤ 147)) s s') : ch scr s s' := h.mono fun a k z => by unfold scr; omega
set_option maxRecDepth 100000 in
theorem d221 {s : aS} {r : Nat → Int32} {e i : Nat} {F : List Fw} {cur : List NN} (h : GM s r e F cur) (hc : cur ≠ []) (h7 : inM F = 7) (hi : i < 1000) : ∃ f F0 cur1, rdF 0 F cur = (f :: F0, cur1) ∧ f.1 = 7 ∧ ((f.2.2.2.length = 29 ∧ ∃ s' r', dm221 (wP s r i) = some (wP s' (setN r' 27 1) i) ∧ (∀ k, k ≠ 29 → k ≠ 32 → r' k = r k) ∧ ch scr s s') ∨ (¬ f.2.2.2.length = 29 ∧ ∃ s' r', dm221 (wP s r i) = some (wP s' r' (i + 1)) ∧ GM s' r' e (cmF f cur1 :: F0) [] ∧ r' 36 = 1 ∧ r' 35 = 2 ∧ (∀ k, k ≠ 29 → k ≠ 32 → k ≠ 35 → k ≠ 36 → r' k = r k) ∧ ch scr s s')) := by
  obtain ⟨s1, r1, b1, b2, b3, b4, b5⟩ := d190 (i := i) (x1 := 0) h hc
  rcases rd_in F cur with ⟨q1, q2, q3⟩ | ⟨f, F0, q1, q2, q3, q4, q5⟩
  · rw [h7] at q2
    exact absurd q2 (by decide)
  have f7 : f.1 = 7 := by rw [← q3]; exact h7
  have er : rdF 0 F cur = (f :: F0, (rdF 0 F cur).2) := by rw [← q1]
  refine ⟨f, F0, (rdF 0 F cur).2, er, f7, ?_⟩
  rw [q1] at b2
  have hb := b2.fb
  have hF : (f :: F0).length = F0.length + 1 := rfl
  have hnT : nT F0 ≤ nT (f :: F0) := Nat.le_add_right _ _
  obtain ⟨c, s2, c1, c2, c3, c4, c5, c6, c7, c8, c9, c10, c11, c12, c13⟩ := d221c (i := i) b2 b3 f7
  have a2 : r1 32 = Int32.ofNat (F0.length + 1) := b2.2.1
  have bF : aB (Int32.ofNat F0.length) 300 := aB_of (by omega) (by omega)
  have jF : jN (Int32.ofNat F0.length) = F0.length := jN_of (by omega)
  have es : Int32.ofNat (F0.length + 1) - 1 = Int32.ofNat F0.length := ofNat_sub1 (n := F0.length + 1) (by omega) (by omega)
  have bP : aB (Int32.ofNat (1024 + f.2.1.1)) 1152 := aB_of (by omega) (by omega)
  have jP : jN (Int32.ofNat (1024 + f.2.1.1)) = 1024 + f.2.1.1 := jN_of (by omega)
  have eP : (1024 : Int32) + Int32.ofNat f.2.1.1 = Int32.ofNat (1024 + f.2.1.1) := iSum (i := 1024) (j := f.2.1.1) (by omega) (by omega)
  unfold dm221
  rw [b1]
  simp only [bu_some, wP_f (show (32 : Nat) ≠ 26 by decide), a2, es, if_pos bF, jF, wP_n (show (146 : Nat) ≠ 121 by decide), c3, eP, if_pos bP, jP, wP_n (show (129 : Nat) ≠ 121 by decide), c5, wP_at, d186]
  by_cases g : f.2.2.2.length = 29
  · left
    refine ⟨g, s1, r1, ?_, b4, rch_scr b5⟩
    rw [if_pos (show Int32.ofNat f.2.2.2.length = 29 by rw [g]; rfl)]
  · right
    refine ⟨g, s2, setN (setN (setN r1 29 (Int32.ofNat (nT F0))) 36 1) 35 2, ?_, ?_, rfl, rfl, fun k k1 k2 k3 k4 => ?_, (rch_scr b5).trans c12⟩
    · rw [if_neg (show ¬ Int32.ofNat f.2.2.2.length = 29 from fun q => g ((neq_iff (b := 29) (by omega) (by omega)).mp q)), d192 (c := nT F0) c1 (by omega), c2]
      simp only [bv_some]
      rw [c7]
      simp only [bu_some, nx_eq]
      rw [wP_set (by decide), wP_set (by decide), wP_at, ofNat_succ (by omega), wP_go]
    · exact c13 _ rfl rfl a2 rfl
    · unfold setN
      rw [if_neg k3, if_neg k4, if_neg k1]
      exact b4 k k1 k2
set_option maxRecDepth 100000 in
/-- an open bracket that is closed -/
theorem GM.opo {s : aS} {r r' : Nat → Int32} {e : Nat} {F : List Fw} {f : Fw} {cur : List NN} (h : GM s r e (f :: F) cur) (hf : f.1 = 100) (h21 : r' 21 = r 21) (h29 : r' 29 = r 29) (h32 : r' 32 = Int32.ofNat F.length) (h33 : r' 33 = Int32.ofNat (nO F)) : GM s r' e F cur := by
  obtain ⟨a1, a2, a3, a4, a5, a6, a7, a8⟩ := h
  have efl : fl (f :: F) = fl F := by
    show fl F ++ frl f = fl F
    have : frl f = [] := if_pos hf
    rw [this, List.append_nil]
  have nB : ¬ isB f.1 := by rw [hf]; unfold isB; decide
  have nt : nT (f :: F) = nT F := by
    show nT F + (if b01 (isB f.1) = 0 then 0 else 1) = nT F
    rw [if_pos (b01_ne.mpr nB)]
    rfl
  have hO : nO F ≤ nO (f :: F) := Nat.le_add_right _ _
  rw [efl] at a1 a7
  rw [nt] at a8
  refine ⟨⟨h21.trans a1.1, a1.2⟩, h32, ⟨h33, Nat.le_trans hO a3.2⟩, a4.2.2, a5.2, fun g hg => a6 g (List.mem_cons_of_mem _ hg), a7, ?_⟩
  rcases a8 with ⟨b1, b2⟩ | ⟨c, b1, b2, b3, b4⟩
  · exact Or.inl ⟨b1, h29.trans b2⟩
  · exact Or.inr ⟨c, b1, b2, b3, h29.trans b4⟩
def clC (f : Fw) (cur : List NN) : List NN := if f.1 = 7 then upN f :: (f.2.2.1 ++ cur) else cur
set_option maxRecDepth 100000 in
theorem d189 {s : aS} {r : Nat → Int32} {e i : Nat} {F : List Fw} {cur : List NN} (h : GM s r e F cur) (hc : cur ≠ []) (h36 : r 36 = 0) (hO : nO F ≠ 0) (hi : i < 1000) : ∃ f F0 cur1 s' r', rdF 0 F cur = (f :: F0, cur1) ∧ dm189 (wP s r i) = some (wP s' r' (i + 1)) ∧ GM s' r' e F0 (clC f cur1) ∧ clC f cur1 ≠ [] ∧ r' 36 = 0 ∧ r' 35 = 0 ∧ (∀ k, k ≠ 29 → k ≠ 32 → k ≠ 33 → k ≠ 35 → k ≠ 36 → r' k = r k) ∧ ch scr s s' := by
  obtain ⟨s1, r1, b1, b2, b3, b4, b5⟩ := d190 (i := i) (x1 := 0) h hc
  rcases rd_in F cur with ⟨q1, q2, q3⟩ | ⟨f, F0, q1, q2, q3, q4, q5⟩
  · exact absurd q3 hO
  have er : rdF 0 F cur = (f :: F0, (rdF 0 F cur).2) := by rw [← q1]
  refine ⟨f, F0, (rdF 0 F cur).2, ?_⟩
  rw [q1] at b2
  have hb := b2.fb
  have hF : (f :: F0).length = F0.length + 1 := rfl
  have hnT : nT F0 ≤ nT (f :: F0) := Nat.le_add_right _ _
  have a2 : r1 32 = Int32.ofNat (F0.length + 1) := b2.2.1
  have a3 : r1 33 = Int32.ofNat (nO F0 + 1) := by
    rw [← q5]
    exact (b4 33 (by decide) (by decide)).trans h.2.2.1.1
  have hO8 := h.2.2.1.2
  have r36 : r1 36 = 0 := (b4 36 (by decide) (by decide)).trans h36
  have bF : aB (Int32.ofNat F0.length) 300 := aB_of (by omega) (by omega)
  have jF : jN (Int32.ofNat F0.length) = F0.length := jN_of (by omega)
  have es : Int32.ofNat (F0.length + 1) - 1 = Int32.ofNat F0.length := ofNat_sub1 (n := F0.length + 1) (by omega) (by omega)
  have es2 : Int32.ofNat (nO F0 + 1) - 1 = Int32.ofNat (nO F0) := ofNat_sub1 (n := nO F0 + 1) (by omega) (by omega)
  have w1 : sI s1 145 F0.length = f.1 := b2.2.2.2.1.1
  have e32 : ∀ v w, setN (setN r1 32 v) 33 w 32 = v := fun v w => rfl
  have e36 : ∀ v w, setN (setN r1 32 v) 33 w 36 = r1 36 := fun v w => rfl
  unfold dm189 dm189_36 dm189_39
  rw [b1]
  simp only [bu_some, nx_eq]
  rw [wP_f (show (32 : Nat) ≠ 26 by decide), a2, es, wP_set (by decide), wP_f (show (33 : Nat) ≠ 26 by decide), show setN r1 32 (Int32.ofNat F0.length) 33 = r1 33 from rfl, a3, es2, wP_set (by decide)]
  simp only [wP_f (show (32 : Nat) ≠ 26 by decide), wP_f (show (36 : Nat) ≠ 26 by decide), e32, e36, r36, if_pos bF, jF, wP_n (show (145 : Nat) ≠ 121 by decide), wP_n (show (146 : Nat) ≠ 121 by decide), w1]
  by_cases f7 : f.1 = 7
  · obtain ⟨c, s2, c1, c2, c3, c4, c5, c6, c7, c8, c9, c10, c11, c12, c13⟩ := d221c (i := i) b2 b3 f7
    have ec : clC f (rdF 0 F cur).2 = upN f :: (f.2.2.1 ++ (rdF 0 F cur).2) := if_pos f7
    refine ⟨wI s2 144 (nT F0) (Int32.ofNat f.2.1.1), setN (setN (setN (setN (setN (setN r1 32 (Int32.ofNat F0.length)) 33 (Int32.ofNat (nO F0))) 29 (Int32.ofNat (nT F0))) 29 (Int32.ofNat (nT F0 + 1))) 36 0) 35 0, er, ?_, ?_, by rw [ec]; simp, rfl, rfl, fun k k1 k2 k3 k4 k5 => ?_, ((rch_scr b5).trans c12).wI (by unfold scr; omega)⟩
    · rw [if_pos f7, if_pos trivial, d192 (c := nT F0) (show setN (setN r1 32 (Int32.ofNat F0.length)) 33 (Int32.ofNat (nO F0)) 29 = Int32.ofNat (nT F0 + 1) from c1) (by omega), c2]
      simp only [bv_some]
      rw [c3, c7]
      simp only [bu_some]
      rw [d194 (c := nT F0) rfl (by omega)]
      simp only [bu_some]
      rw [wP_set (by decide), wP_set (by decide), wP_at, ofNat_succ (by omega), wP_go]
    · rw [ec]
      exact GM.epi (U := upN f) b2 (by rw [f7]; decide) rfl c8 c9 c10 (fun a x1 x2 q => c11 a (by omega) q) rfl rfl rfl rfl
    · unfold setN
      rw [if_neg k4, if_neg k5, if_neg k1, if_neg k1, if_neg k3, if_neg k2]
      exact b4 k k1 k2
  · have f100 : f.1 = 100 := by
      rcases q2 with q | q
      · exact q
      · exact absurd q f7
    have ec : clC f (rdF 0 F cur).2 = (rdF 0 F cur).2 := if_neg f7
    refine ⟨s1, setN (setN (setN (setN r1 32 (Int32.ofNat F0.length)) 33 (Int32.ofNat (nO F0))) 36 0) 35 0, er, ?_, ?_, by rw [ec]; exact b3, rfl, rfl, fun k k1 k2 k3 k4 k5 => ?_, rch_scr b5⟩
    · rw [if_neg f7, wP_set (by decide), wP_set (by decide), wP_at, ofNat_succ (by omega), wP_go]
    · rw [ec]
      exact b2.opo f100 rfl rfl rfl rfl
    · unfold setN
      rw [if_neg k4, if_neg k5, if_neg k3, if_neg k2]
      exact b4 k k1 k2
set_option maxRecDepth 100000 in
/-- a call without arguments is closed -/
theorem d189e {s : aS} {r : Nat → Int32} {e i : Nat} {F : List Fw} {f : Fw} (h : GM s r e (f :: F) []) (f7 : f.1 = 7) (h36 : r 36 = 1) (hi : i < 1000) : ∃ s' r', dm189 (wP s r i) = some (wP s' r' (i + 1)) ∧ GM s' r' e F (f.2.1 :: (f.2.2.1 ++ [])) ∧ r' 36 = 0 ∧ r' 35 = 0 ∧ (∀ k, k ≠ 29 → k ≠ 32 → k ≠ 33 → k ≠ 35 → k ≠ 36 → r' k = r k) ∧ ch scr s s' := by
  have hb := h.fb
  have hF : (f :: F).length = F.length + 1 := rfl
  have h100 : f.1 ≠ 100 := by rw [f7]; decide
  have a2 : r 32 = Int32.ofNat (F.length + 1) := h.2.1
  have hO : nO (f :: F) = nO F + 1 := by
    show nO F + (if f.1 = 100 ∨ f.1 = 7 then 1 else 0) = nO F + 1
    rw [if_pos (Or.inr f7)]
  have a3 : r 33 = Int32.ofNat (nO F + 1) := by rw [← hO]; exact h.2.2.1.1
  have hO8 := h.2.2.1.2
  have bF : aB (Int32.ofNat F.length) 300 := aB_of (by omega) (by omega)
  have jF : jN (Int32.ofNat F.length) = F.length := jN_of (by omega)
  have es : Int32.ofNat (F.length + 1) - 1 = Int32.ofNat F.length := ofNat_sub1 (n := F.length + 1) (by omega) (by omega)
  have es2 : Int32.ofNat (nO F + 1) - 1 = Int32.ofNat (nO F) := ofNat_sub1 (n := nO F + 1) (by omega) (by omega)
  have p0 : ¬ Int32.ofNat (F.length + 1) ≤ 0 := fun q => by
    have := (nle_iff (b := 0) (by omega) (by omega)).mp q
    omega
  have w1 : sI s 145 F.length = f.1 := h.2.2.2.1.1
  have w2 : sI s 146 F.length = Int32.ofNat f.2.1.1 := h.2.2.2.1.2.1 h100
  have nB : ¬ isB f.1 := by rw [f7]; unfold isB; decide
  have nt : nT (f :: F) = nT F := by
    show nT F + (if b01 (isB f.1) = 0 then 0 else 1) = nT F
    rw [if_pos (b01_ne.mpr nB)]
    rfl
  have c8 : r 29 = Int32.ofNat (nT F) := by
    rcases h.2.2.2.2.2.2.2 with ⟨-, q⟩ | ⟨c, q, -⟩
    · rw [← nt]; exact q
    · have q : ([c] : List Nat) = [] := q
      cases q
  have e190 : dm190 0 (wP s r i) = some (wP s r i) := by
    show dm190_0 (4999 + 1) 0 (wP s r i) = _
    rw [dm190_0]
    simp only [wP_f (show (32 : Nat) ≠ 26 by decide), a2, es, if_neg p0, if_pos bF, jF, wP_n (show (145 : Nat) ≠ 121 by decide), w1]
    rw [if_neg h100, if_pos f7]
  obtain ⟨-, f1, f2, f3, f4, f5, f6⟩ : f.1 ≠ 100 ∧ f.2.1.2.1 0 = f.1 ∧ f.2.1.1 < 128 ∧ NR s e f.2.1 ∧ HF s e f.2.2.1 f.2.2.2 ∧ sI s 142 f.2.1.1 = -1 ∧ _ := (h.2.2.2.2.2.1 f List.mem_cons_self).resolve_left (fun q => h100 q.1)
  obtain ⟨-, g2, g3, g4⟩ : f.1 = 7 ∧ f.2.1.2.1 1 = Int32.ofNat f.2.2.2.length ∧ nch s (sI s 140 f.2.1.1) f.2.2.2 ∧ ∀ ks q, f.2.2.2 = ks ++ [q] → sI s 141 f.2.1.1 = Int32.ofNat q := by
    rcases f6 with q | ⟨q, -⟩ | ⟨q, -⟩
    · exact q
    · rw [f7] at q; exact absurd q (by decide)
    · rw [f7] at q; unfold isB at q; exact absurd q (by decide)
  have hH : HF s e (f.2.1 :: (f.2.2.1 ++ [])) [f.2.1.1] := ⟨[], f.2.2.2, rfl, f2, f3, g3, g2, by rw [List.append_nil, List.append_nil]; exact f4⟩
  have e32 : ∀ v w, setN (setN r 32 v) 33 w 32 = v := fun v w => rfl
  have e36 : ∀ v w, setN (setN r 32 v) 33 w 36 = r 36 := fun v w => rfl
  have e29 : ∀ v w, setN (setN r 32 v) 33 w 29 = Int32.ofNat (nT F) := fun v w => c8
  refine ⟨wI s 144 (nT F) (Int32.ofNat f.2.1.1), setN (setN (setN (setN (setN r 32 (Int32.ofNat F.length)) 33 (Int32.ofNat (nO F))) 29 (Int32.ofNat (nT F + 1))) 36 0) 35 0, ?_, ?_, rfl, rfl, fun k k1 k2 k3 k4 k5 => ?_, (ch.refl _ s).wI (by unfold scr; omega)⟩
  · unfold dm189 dm189_36 dm189_39
    rw [e190]
    simp only [bu_some, nx_eq]
    rw [wP_f (show (32 : Nat) ≠ 26 by decide), a2, es, wP_set (by decide), wP_f (show (33 : Nat) ≠ 26 by decide), show setN r 32 (Int32.ofNat F.length) 33 = r 33 from rfl, a3, es2, wP_set (by decide)]
    simp only [wP_f (show (32 : Nat) ≠ 26 by decide), wP_f (show (36 : Nat) ≠ 26 by decide), e32, e36, h36, if_pos bF, jF, wP_n (show (145 : Nat) ≠ 121 by decide), wP_n (show (146 : Nat) ≠ 121 by decide), w1, w2]
    rw [if_pos f7, if_neg (by decide), d194 (c := nT F) (e29 _ _) (by omega)]
    simp only [bu_some]
    rw [wP_set (by decide), wP_set (by decide), wP_at, ofNat_succ (by omega), wP_go]
  · exact GM.epi (U := f.2.1) h h100 rfl hH ⟨fun _ _ => rfl, fun _ _ => ⟨⟨fun _ _ => rfl, rfl⟩, rfl, rfl⟩⟩ f5 (fun _ _ _ _ => rfl) rfl rfl rfl rfl
  · unfold setN
    rw [if_neg k4, if_neg k5, if_neg k1, if_neg k3, if_neg k2]
