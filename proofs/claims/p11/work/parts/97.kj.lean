/-! the reader of FormulaTrees, exactly: words and brackets -/
set_option maxRecDepth 100000 in
noncomputable def nmN (t : List Int32) (m i e : Nat) : NN := if b01 (e = i + 4 ∧ spQ t trL i 4 0) = 0 then (if b01 (e = i + 5 ∧ spQ t faL i 5 0) = 0 then (m, plF 6 0, (sl t i e).map gr) else (m, setN (plF 3 0) 8 0, [])) else (m, setN (plF 3 0) 8 1, [])
set_option maxRecDepth 100000 in
theorem mNam_e {t : List Int32} {F : List Fw} {m i e : Nat} : mNam t F m i e = .inr (e, F, [nmN t m i e], 0, 0) := rfl
section XX
variable {s s1 : aS} {b i : Nat} {t : List Int32} {ns : List (List Int32)} {F : List Fw} {cur : List NN} {fr : Int32} {lc : Nat} {M : List NN}
set_option maxRecDepth 100000 in
theorem slg_len {i e : Nat} (h1 : i ≤ e) (h2 : e ≤ t.length) : ((sl t i e).map gr).length = e - i := by
  unfold sl
  rw [List.length_map, List.length_take, List.length_drop]
  omega
set_option maxRecDepth 100000 in
theorem tr_1 {i e : Nat} (h : ¬ (b01 (e = i + 4 ∧ spQ t trL i 4 0) = 0)) : trI t i e = 1 := by
  have q : e = i + 4 ∧ spQ t trL i 4 0 := Classical.byContradiction fun z => h (b01_ne.mpr z)
  unfold trI
  rw [if_pos ⟨q.1, b01_t q.2⟩]
set_option maxRecDepth 100000 in
theorem tr_0 {i e : Nat} (h : b01 (e = i + 4 ∧ spQ t trL i 4 0) = 0) (h2 : ¬ (b01 (e = i + 5 ∧ spQ t faL i 5 0) = 0)) : trI t i e = 0 := by
  have q : e = i + 5 ∧ spQ t faL i 5 0 := Classical.byContradiction fun z => h2 (b01_ne.mpr z)
  unfold trI
  rw [if_neg (fun z => by omega), if_pos ⟨q.1, b01_t q.2⟩]
set_option maxRecDepth 100000 in
theorem tr_n {i e : Nat} (h : b01 (e = i + 4 ∧ spQ t trL i 4 0) = 0) (h2 : b01 (e = i + 5 ∧ spQ t faL i 5 0) = 0) : trI t i e = -1 := by
  unfold trI
  rw [if_neg (fun z => b01_ne.mp h ⟨z.1, Classical.byContradiction fun q => by rw [b01_f q] at z; exact absurd z.2 (by decide)⟩), if_neg (fun z => b01_ne.mp h2 ⟨z.1, Classical.byContradiction fun q => by rw [b01_f q] at z; exact absurd z.2 (by decide)⟩)]
set_option maxRecDepth 100000 in
/-- a name, or a truth -/
theorem x124n {e q : Nat} (h : KS s b t ns) (hT : TR s b i M) (hie : i ≤ e) (he : e ≤ t.length) (hw : sI s 106 8 = -1) : Tk b s M True e (nmN t q i e) (dm124 (Int32.ofNat i) (Int32.ofNat e) 0 s) := by
  have hl := h.1.2.1
  have hb := xb h
  have e48 : dm48 79 (Int32.ofNat i) (Int32.ofNat e) s = some (trI t i e, s) := d48 h.1.1 (by show t.length ≤ (sT s 80).2; rw [h.1.2.2.2]; exact hl) (by omega) h.2.2.2.2.2.1 (by omega) (by omega)
  have g : ch a7 s (wI s 106 7 (Int32.ofNat e)) := (ch.refl _ s).wI ⟨rfl, rfl⟩
  have K := h.of (b := b) (g.mono fun a k z => a7C z)
  have T := trO hT hb g (fun a k z => by unfold a7 at z; omega)
  have f7 : sI (wI s 106 7 (Int32.ofNat e)) 106 7 = Int32.ofNat e := by rw [sI_wI, if_pos ⟨rfl, rfl⟩]
  have fw : sI (wI s 106 7 (Int32.ofNat e)) 106 8 = -1 := (g.i (by unfold a7; omega)).trans hw
  unfold dm124
  rw [if_pos rfl, e48]
  simp only [bv_some]
  unfold dm124_9
  rw [nx_eq]
  unfold nmN
  by_cases c1 : b01 (e = i + 4 ∧ spQ t trL i 4 0) = 0
  · rw [if_pos c1]
    by_cases c2 : b01 (e = i + 5 ∧ spQ t faL i 5 0) = 0
    · rw [if_pos c2, tr_n c1 c2, if_pos rfl]
      obtain ⟨s3, a1, a2, a3⟩ := x122 K hie he
      rw [a1]
      simp only [bu_some]
      rw [if_pos trivial]
      unfold dm124_32
      have K3 := K.of (b := b) (a3.mono fun a k z => aHC z)
      have := (kp (q := q) K3 (trO T hb a3 (fun a k z => by unfold aH at z; omega)) a2 (i := e) (by rw [slg_len hie he]; omega) (by omega) ((a3.i (by unfold aH; omega)).trans f7) ((a3.i (by unfold aH; omega)).trans fw) 6 (f := i) (by omega) trivial).bk (s := s) ((g.mono fun a k z => a7O z).trans (a3.mono fun a k z => aHO z))
      have e9 : ∀ D : Option aS, (Option.bind D fun s3 => some s3) = D := fun D => by cases D <;> rfl
      rcases this with ⟨q1, s4, q2, q3⟩ | ⟨q1, q2, s4, q3, q4⟩
      · rw [q2]
        simp only [bu_some]
        rw [if_pos trivial]
        exact Or.inl ⟨q1, s4, rfl, q3⟩
      · rw [q3]
        simp only [bu_some]
        rw [if_pos trivial]
        exact Or.inr ⟨q1, q2, s4, rfl, q4⟩
    · rw [if_neg c2, tr_0 c1 c2, if_neg (by decide)]
      exact ((kv K T hie f7 fw 3 0 (by omega) trivial).bk (g.mono fun a k z => a7O z)).bx
  · rw [if_neg c1, tr_1 c1, if_neg (by decide)]
    exact ((kv K T hie f7 fw 3 1 (by omega) trivial).bk (g.mono fun a k z => a7O z)).bx
def aP (a k : Nat) : Prop := (a = 106 ∧ (k = 7 ∨ k = 9)) ∨ (113 ≤ a ∧ a ≤ 116)
set_option maxRecDepth 100000 in
/-- a bracket opened -/
theorem x115 {P : List (Int32 × Nat)} {B : List (Nat × Int32 × Nat)} {pl j : Nat} {v : Int32} (hB : PB s P B) (h7 : sI s 106 7 = Int32.ofNat j) (hj : j < 1000) : (B.length = 32 ∧ ∃ s', dm115 (Int32.ofNat pl) v s = some s' ∧ sI s' 106 8 ≠ -1) ∨ (B.length < 32 ∧ ∃ s', dm115 (Int32.ofNat pl) v s = some s' ∧ PB s' P ((pl, v, P.length) :: B) ∧ sI s' 106 7 = Int32.ofNat (j + 1) ∧ sI s' 106 9 = (if v = -1 then 1 else 0) ∧ ch aP s s') := by
  have hle := hB.2.2.1
  unfold dm115
  rw [x82 hB]
  simp only [bu_some]
  by_cases c : B.length < 32
  · right
    rw [if_pos (show Int32.ofNat B.length < 32 from (nlt_iff (b := 32) (by omega) (by omega)).mpr c)]
    unfold dm116
    simp only [bu_some]
    rw [hB.1.1]
    obtain ⟨s2, a1, a2, a3⟩ := x117 (x := pl) (y := P.length) (v := v) hB c
    rw [a1]
    simp only [bu_some]
    have f25 : ∀ y : Int32, ∃ s', dm115_25 y s2 = some s' ∧ PB s' P ((pl, v, P.length) :: B) ∧ sI s' 106 7 = Int32.ofNat (j + 1) ∧ sI s' 106 9 = y ∧ ch aP s s' := by
      intro y
      unfold dm115_25
      simp only [nx_eq]
      have e7 : sI (wI s2 106 9 y) 106 7 = Int32.ofNat j := by rw [sI_wI, if_neg (by omega), a3.i (by omega)]; exact h7
      rw [e7, ofNat_succ (by omega)]
      have g2 : ch (fun a k => a = 106 ∧ (k = 7 ∨ k = 9)) s2 (wI (wI s2 106 9 y) 106 7 (Int32.ofNat (j + 1))) := ((ch.refl _ s2).wI (by omega)).wI (by omega)
      exact ⟨_, rfl, a2.of g2 (fun a k z => by omega), by rw [sI_wI, if_pos ⟨rfl, rfl⟩], by rw [sI_wI, if_neg (by omega), sI_wI, if_pos ⟨rfl, rfl⟩], (a3.mono fun a k z => by unfold aP; omega).trans (g2.mono fun a k z => by unfold aP; omega)⟩
    refine ⟨c, ?_⟩
    by_cases cv : v = -1
    · rw [if_pos cv]
      obtain ⟨s', q1, q2, q3, q4, q5⟩ := f25 1
      exact ⟨s', q1, q2, q3, by rw [q4, if_pos cv], q5⟩
    · rw [if_neg cv]
      obtain ⟨s', q1, q2, q3, q4, q5⟩ := f25 0
      exact ⟨s', q1, q2, q3, by rw [q4, if_neg cv], q5⟩
  · left
    rw [if_neg (show ¬ Int32.ofNat B.length < 32 from fun z => c ((nlt_iff (b := 32) (by omega) (by omega)).mp z)), nx_eq]
    refine ⟨by omega, _, rfl, ?_⟩
    rw [sI_wI, if_pos ⟨rfl, rfl⟩, h7]
    exact nm1 (by omega)
set_option maxRecDepth 100000 in
theorem aPt {z : Nat} (hT : TR s b z M) (hb : b = 102 ∨ 149 ≤ b) (g : ch aP s s1) : TR s1 b z M := hT.of g (by unfold aP; omega) (fun k => by unfold aP; omega) (by unfold aP; omega) (fun k => by unfold aP; omega)
set_option maxRecDepth 100000 in
theorem aPC {a k : Nat} (h : aP a k) : AC b a k := by unfold aP at h; unfold AC; omega
set_option maxRecDepth 100000 in
/-- a call's word, and its bracket -/
theorem x124c {e : Nat} (h : XI s b t ns i F [] fr 0) (hie : i ≤ e) (he : e < t.length) : OC b t ns F i (if (flC F).length = 128 then .inl i else mCal t F (fl F).length i e) (dm124 (Int32.ofNat i) (Int32.ofNat e) 1 s) := by
  have hl := h.1.1.2.1
  have hb := xb h.1
  have h8l := fl8 h
  have g : ch a7 s (wI s 106 7 (Int32.ofNat e)) := (ch.refl _ s).wI ⟨rfl, rfl⟩
  have K := h.1.of (b := b) (g.mono fun a k z => a7C z)
  have T := trO h.tr hb g (fun a k z => by unfold a7 at z; omega)
  have f7 : sI (wI s 106 7 (Int32.ofNat e)) 106 7 = Int32.ofNat e := by rw [sI_wI, if_pos ⟨rfl, rfl⟩]
  have fw : sI (wI s 106 7 (Int32.ofNat e)) 106 8 = -1 := (g.i (by unfold a7; omega)).trans h.2.2.2.2.1
  obtain ⟨s3, a1, a2, a3⟩ := x122 K hie (by omega)
  have K3 := K.of (b := b) (a3.mono fun a k z => aHC z)
  have gs : ch (aO b) s s3 := (g.mono fun a k z => a7O z).trans (a3.mono fun a k z => aHO z)
  unfold dm124
  rw [if_neg (show ¬ (1 : Int32) = 0 by decide)]
  unfold dm124_9
  rw [nx_eq, if_pos rfl, a1]
  simp only [bu_some]
  rw [if_neg (show ¬ (1 : Int32) = 0 by decide)]
  unfold dm124_32
  have tk := (kp (q := (fl F).length) (X := True) K3 (trO T hb a3 (fun a k z => by unfold aH at z; omega)) a2 (i := e) (by rw [slg_len hie (by omega)]; omega) (by omega) ((a3.i (by unfold aH; omega)).trans f7) ((a3.i (by unfold aH; omega)).trans fw) 7 (f := i) (by omega) trivial).bk (s := s) gs
  rcases tk with ⟨q1, s4, q2, q3, -⟩ | ⟨-, q2, s4, q3, q4, q5, q6, q7, q8, q9⟩
  · have c8 : (flC F).length = 128 := q1.resolve_left (fun z => z trivial)
    rw [q2]
    simp only [bu_some]
    rw [if_pos c8, if_neg (show ¬ (1 : Int32) = 0 by decide), if_neg q3]
    exact ⟨s4, rfl, Or.inl ⟨q3, dead.l⟩⟩
  · rw [q3]
    simp only [bu_some]
    rw [if_neg (show ¬ (flC F).length = 128 by omega), if_neg (show ¬ (1 : Int32) = 0 by decide), if_pos q6, q8]
    have B4 := pbO h.2.2.1 hb q9
    have K4 := h.1.of (b := b) (q9.mono fun a k z => aOC z)
    unfold mCal
    rcases x115 (pl := (flC F).length) (v := 0) B4 q5 (by omega) with ⟨r1, s5, r2, r3⟩ | ⟨r1, s5, r2, r3, r4, r5, r6⟩
    · rw [r2]
      rw [bO_len] at r1
      rw [if_pos r1]
      exact ⟨s5, rfl, Or.inl ⟨r3, dead.l⟩⟩
    · rw [r2]
      rw [bO_len] at r1
      rw [if_neg (by omega)]
      refine ⟨s5, rfl, Or.inr (Or.inl ⟨_, rfl, K4.of (b := b) (r6.mono fun a k z => aPC z), ?_, ?_, r4, (r6.i (by unfold aP; omega)).trans q6, ?_, fun z => absurd rfl z⟩)⟩
      · rw [List.append_nil]
        have e9 : flC ((7, ((fl F).length, plF 7 0, (sl t i e).map gr), [], []) :: F) = flC F ++ [((fl F).length, plF 7 0, (sl t i e).map gr)] := by
          show flC F ++ frC (7, ((fl F).length, plF 7 0, (sl t i e).map gr), [], []) = _
          have : frC (7, ((fl F).length, plF 7 0, (sl t i e).map gr), [], []) = [((fl F).length, setN (plF 7 0) 1 0, (sl t i e).map gr)] := rfl
          rw [this, pl_1]
        rw [e9]
        exact aPt (q4.up (by omega)) hb r6
      · exact r3
      · rw [r5]
        rfl
set_option maxRecDepth 100000 in
/-- a word -/
theorem x123 (h : XI s b t ns i F [] fr 0) (hi : i < t.length) (hbw : bW (t.getD i 0)) : OC b t ns F i (mPrim t ns F (fl F).length i) (dm123 s) := by
  have hl := h.1.1.2.1
  have hb := xb h.1
  have h8l := fl8 h
  have hw1 : bW (t.getD i (-1)) := by rw [gd_in hi]; exact hbw
  have eE : wEnd t i = wdE t i := by
    unfold wEnd wdE
    rw [if_neg (fun z => b01_ne.mp z hw1)]
  have hel : wdE t i ≤ t.length := by rw [← eE]; exact wEnd_le (by omega)
  have hgt := wd_gt hbw
  have e43 : dm43 79 (Int32.ofNat i) s = some (Int32.ofNat (wdE t i)) := by
    rw [← eE]
    exact d43 h.1.1.1 (by show t.length ≤ (sT s 80).2; rw [h.1.1.2.2.2]; exact hl) (by omega) (by omega)
  obtain ⟨e, he⟩ : ∃ e, e = wdE t i := ⟨_, rfl⟩
  have hY : mPrim t ns F (fl F).length i = if (flC F).length = 128 then .inl i else mWord t ns F (fl F).length i := by
    by_cases c8 : (flC F).length = 128
    · rw [pr_l c8, if_pos c8]
    · rw [if_neg c8, pr_t (by omega) (Or.inr (Or.inr (Or.inr (Or.inr (Or.inl hbw)))))]
      have hg : gW (t.getD i 0) := hbw.elim Or.inl (fun q => Or.inr (Or.inr (Or.inl q)))
      have nn : ∀ c : Int32, ¬ bW c → t.getD i 0 ≠ c := fun c hc z => hc (z ▸ hbw)
      unfold mTok
      rw [if_neg (by
        rw [b01_f]
        · decide
        · rintro (q | q)
          · rcases hbw with z | z
            · exact L_D z q
            · rw [z] at q
              unfold isD at q
              exact absurd q (by decide)
          · exact nn 46 (by unfold bW isL; decide) q), if_neg (nn 34 (by unfold bW isL; decide)), if_neg (nn 35 (by unfold bW isL; decide)), if_neg (nn 39 (by unfold bW isL; decide)), if_neg (nn 36 (by unfold bW isL; decide))]
  rw [hY]
  unfold dm123
  rw [h.2.2.2.1, e43]
  simp only [bu_some]
  rw [x34 h.1 (by omega)]
  simp only [bu_some]
  have ge : ∀ c : Int32, c ≠ -1 → c ≠ 0 → (t.getD (wdE t i) (-1) = c ↔ t.getD (wdE t i) 0 = c) := fun c h1 h2 => gd_eq h1 h2
  unfold mWord
  by_cases c40 : t.getD (wdE t i) (-1) = 40
  · have d40 := (ge 40 (by decide) (by decide)).mp c40
    have hin : wdE t i < t.length := in_of (p := fun x => x = 40) (d := -1) (by decide) c40
    rw [if_pos c40, c40, d40, if_neg (show ¬ (40 : Int32) = 36 by decide), if_neg (show ¬ (40 : Int32) = 33 by decide), if_pos rfl]
    unfold dm123_19
    rw [if_neg (show ¬ (40 : Int32) = 33 by decide), if_pos (show (0 : Int32) = 0 from rfl)]
    unfold dm123_48
    rw [if_pos (show (0 : Int32) = 0 from rfl)]
    unfold dm123_61
    rw [if_pos (show (40 : Int32) = 40 from rfl)]
    unfold dm123_70
    exact (x124c h (by omega) hin).bx
  · have d40 : ¬ t.getD (wdE t i) 0 = 40 := fun z => c40 ((ge 40 (by decide) (by decide)).mpr z)
    rw [if_neg c40]
    unfold dm123_19
    by_cases c33 : t.getD (wdE t i) (-1) = 33
    · have d33 := (ge 33 (by decide) (by decide)).mp c33
      have hin : wdE t i < t.length := in_of (p := fun x => x = 33) (d := -1) (by decide) c33
      rw [if_pos c33, d33, if_neg (show ¬ (33 : Int32) = 36 by decide), if_pos rfl]
      obtain ⟨s3, a1, a2, a3⟩ := x122 h.1 (show i ≤ wdE t i by omega) hel
      rw [a1]
      simp only [bu_some, nx_eq]
      have K3 := h.1.of (b := b) (a3.mono fun a k z => aHC z)
      have g4 : ch a7 s3 (wI s3 106 7 (Int32.ofNat (wdE t i))) := (ch.refl _ s3).wI ⟨rfl, rfl⟩
      have T3 := trO h.tr hb a3 (fun a k z => by unfold aH at z; omega)
      have hfd : fndF ((sl t i (wdE t i)).map gr) ns 0 = fndF (sl t i (wdE t i)) ns 0 := fnd_gr
      refine (x114 (hd := (sl t i (wdE t i)).map gr) h (K3.of (b := b) (g4.mono fun a k z => a7C z)) ((a3.mono fun a k z => aHO z).trans (g4.mono fun a k z => a7O z)) (trO T3 hb g4 (fun a k z => by unfold a7 at z; omega)) ⟨a2.1.of g4 (by unfold a7; omega) (fun k => by unfold a7; omega), a2.2⟩ (by rw [sI_wI, if_pos ⟨rfl, rfl⟩]) (((g4.i (by unfold a7; omega)).trans (a3.i (by unfold aH; omega))).trans h.2.2.2.2.1) (by omega) hin (by omega) _ ?_).bx
      rw [hfd]
    · have d33 : ¬ t.getD (wdE t i) 0 = 33 := fun z => c33 ((ge 33 (by decide) (by decide)).mpr z)
      rw [if_neg c33, if_neg (show ¬ (1 : Int32) = 0 by decide)]
      obtain ⟨v, s3, a1, a3, a4⟩ := x89 (j := i) h.1 (by omega)
      have K3 := h.1.of (b := b) (a3.mono fun a k z => a9C z)
      have T3 := trO h.tr hb a3 (fun a k z => by unfold a9 at z; omega)
      have g3 : ch (aO b) s s3 := a3.mono fun a k z => a9O z
      have f7 : sI s3 106 7 = Int32.ofNat i := (a3.i (by unfold a9; omega)).trans h.2.2.2.1
      have fw : sI s3 106 8 = -1 := (a3.i (by unfold a9; omega)).trans h.2.2.2.2.1
      rw [a1]
      simp only [bv_some]
      -- a name (or a truth) is kept
      have keep : ∀ e9, sI s3 109 0 = Int32.ofNat e9 → e9 ≤ wdE t i → ∀ r6 : Int32, ¬ r6 = 40 → ∃ s4, dm123_48 (Int32.ofNat i) (Int32.ofNat (wdE t i)) r6 1 s3 = some s4 ∧ ((sI s4 106 8 ≠ -1 ∧ (flC F).length = 128) ∨ ((flC F).length < 128 ∧ XI s4 b t ns (wdE t i) F [nmN t (fl F).length i (wdE t i)] 0 0)) := by
        intro e9 h9 h9l r6 hr6
        unfold dm123_48 dm93
        rw [if_neg (show ¬ (1 : Int32) = 0 by decide)]
        simp only [bu_some]
        rw [h9, if_pos ((nle_iff (by omega) (by omega)).mpr h9l)]
        unfold dm123_61 dm123_70
        rw [if_neg hr6]
        have tk := (x124n (q := (fl F).length) K3 T3 (show i ≤ wdE t i by omega) hel fw).bk (s := s) g3
        rcases tk with ⟨q1, s4, q2, q3, -⟩ | ⟨-, q2, s4, q3, q4, q5, q6, q7, q8, q9⟩
        · rw [q2]
          exact ⟨s4, rfl, Or.inl ⟨q3, q1.resolve_left (fun z => z trivial)⟩⟩
        · rw [q3]
          exact ⟨s4, rfl, Or.inr ⟨q2, h.1.of (b := b) (q9.mono fun a k z => aOC z), q4, pbO h.2.2.1 hb q9, q5, q6, by rw [q7]; rfl, fun _ => q8⟩⟩
      by_cases d36 : t.getD (wdE t i) 0 = 36
      · rw [if_pos d36]
        have hin : wdE t i < t.length := in_of (p := fun x => x = 36) (d := 0) (by decide) d36
        by_cases hg : lo t i (wdE t i) < wdE t i - i ∨ 3 < lo t i (wdE t i) ∨ 16384 < cv4 t (lo t i (wdE t i)) i
        · -- what is read ends at the $, which is wrong
          have hX : ∃ p, (if (flC F).length = 128 then (.inl i : Nat ⊕ St) else mDol t F (fl F).length i (wdE t i)) = .inl p := by
            unfold mDol
            rw [if_pos hg]
            split <;> exact ⟨_, rfl⟩
          have hx := wc_x hbw hg
          obtain ⟨n1, n2, n3, n4, n5⟩ := wd_nd hbw (Or.inl hx)
          rcases a4 with ⟨b1, b2, b3, b4, b5, b6, b7⟩ | ⟨b1, b2, e9, b3, b4⟩
          · rw [if_neg (show ¬ v = 0 by rw [b1]; decide)]
            refine (OC.r h K3 g3 T3 f7 fw (Nat.le_refl _) (by omega) (by omega) (Or.inr ⟨hX, Or.inr (fun _ z => by rw [n5 z]; exact d36)⟩)).bx
          · rw [if_pos b1]
            obtain ⟨s4, k1, k2⟩ := keep e9 b3 (by
              rcases b4 with ⟨z, -⟩ | z | ⟨z, -⟩
              · omega
              · omega
              · omega) (t.getD (wdE t i) (-1)) c40
            rw [k1]
            rcases k2 with ⟨k2, -⟩ | ⟨-, k2⟩
            · exact ⟨s4, rfl, Or.inl ⟨k2, Or.inl hX⟩⟩
            · exact ⟨s4, rfl, Or.inr (Or.inr (Or.inr ⟨wdE t i, _, k2, hel, d36, hX⟩))⟩
        · obtain ⟨m1, m2, m3, m4, m5⟩ := wc_d (F := F) (m := (fl F).length) hbw d36 hg
          rw [m1]
          rcases a4 with ⟨b1, b2, b3, b4, b5, b6, b7⟩ | ⟨b1, b2, e9, b3, b4⟩
          · rw [if_neg (show ¬ v = 0 by rw [b1]; decide)]
            refine (OC.r h K3 g3 T3 f7 fw (Nat.le_refl _) (by omega) (by omega) ?_).bx
            by_cases c8 : (flC F).length = 128
            · rw [if_pos c8]
              exact Or.inr ⟨⟨_, rfl⟩, Or.inl c8⟩
            · rw [if_neg c8]
              exact Or.inl ⟨rfl, by omega⟩
          · rw [if_pos b1]
            have h9 : wdE t i < e9 ∧ e9 ≤ 1000 := by
              have hcE : e9 = cE t i → cOk t i → e9 ≤ t.length := fun q z => by rw [q]; exact (cOk_b (by omega) z).2.2.2.2
              rcases b4 with ⟨z, z2⟩ | z | ⟨z, z2⟩
              · rcases z2 with z2 | z2
                · exact absurd z2 m3
                · exact absurd z2 m4
              · omega
              · have hok : cOk t i := ⟨m3, z2⟩
                have := (rw_pos z2).2.2
                have h5 := hcE z hok
                rw [z]
                unfold cE
                rw [m5] at this
                constructor
                · rw [m5]
                  omega
                · have h6 : cE t i = (rwG t 300 (cJ t i) 0).2 := rfl
                  omega
            unfold dm123_48 dm93
            rw [if_neg (show ¬ (1 : Int32) = 0 by decide)]
            simp only [bu_some]
            rw [b3, if_neg (show ¬ Int32.ofNat e9 ≤ Int32.ofNat (wdE t i) from fun z => by have := (nle_iff (by omega) (by omega)).mp z; omega), nx_eq]
            refine ⟨_, rfl, Or.inl ⟨by rw [sI_wI, if_pos ⟨rfl, rfl⟩]; exact nm1 (by omega), ?_⟩⟩
            by_cases c8 : (flC F).length = 128
            · rw [if_pos c8]
              exact dead.l
            · rw [if_neg c8]
              unfold mCell
              by_cases hok : cOk t i
              · rw [if_neg (fun z => b01_ne.mp z hok)]
                exact Or.inr ⟨_, _, _, _, rfl, b2.resolve_left (fun z => z hok)⟩
              · rw [if_pos (b01_ne.mpr hok)]
                exact dead.l
      · rw [if_neg d36, if_neg d33, if_neg d40]
        obtain ⟨n1, n2, n3, n4, n5⟩ := wd_nd hbw (Or.inr d36)
        rcases a4 with ⟨b1, b2, b3, b4, b5, b6, b7⟩ | ⟨b1, b2, e9, b3, b4⟩
        · rw [if_neg (show ¬ v = 0 by rw [b1]; decide)]
          refine (OC.r h K3 g3 T3 f7 fw (Nat.le_refl _) (by omega) (by omega) ?_).bx
          by_cases c8 : (flC F).length = 128
          · rw [if_pos c8]
            exact Or.inr ⟨⟨_, rfl⟩, Or.inl c8⟩
          · rw [if_neg c8]
            left
            refine ⟨?_, by omega⟩
            cases hic : icR t i (wdE t i) with
            | none => exact absurd ⟨b2, b3⟩ (wc_n hi hbw d36 hic)
            | some wc =>
              obtain ⟨w, c⟩ := wc
              obtain ⟨-, -, y3, y4, y5, y6⟩ := wc_y hi hbw (by rintro (q | q | q); exact d36 q; exact d40 q; exact d33 q) hic
              show (.inr (wdE t i, F, [((fl F).length, clD (-1) (Int32.ofNat w) (Int32.ofNat c) 0, [])], 0, 1) : Nat ⊕ St) = _
              unfold mCell
              rw [if_neg (fun z => b01_ne.mp z b2), y3, y4, y5, y6]
              rfl
        · rw [if_pos b1]
          have hic : icR t i (wdE t i) = none := by
            cases hic : icR t i (wdE t i) with
            | none => rfl
            | some wc =>
              obtain ⟨w, c⟩ := wc
              obtain ⟨y1, y2, -⟩ := wc_y hi hbw (by rintro (q | q | q); exact d36 q; exact d40 q; exact d33 q) hic
              exact absurd y2 (fun z => (b2.resolve_left (fun q => q y1)) |> z)
          obtain ⟨s4, k1, k2⟩ := keep e9 b3 (by
            rcases b4 with ⟨z, -⟩ | z | ⟨z, -⟩
            · omega
            · omega
            · omega) (t.getD (wdE t i) (-1)) c40
          rw [k1, hic]
          rcases k2 with ⟨k2, k3⟩ | ⟨k3, k2⟩
          · rw [if_pos k3]
            exact ⟨s4, rfl, Or.inl ⟨k2, dead.l⟩⟩
          · rw [if_neg (by omega)]
            exact ⟨s4, rfl, Or.inr (Or.inl ⟨_, mNam_e, k2⟩)⟩
end XX
