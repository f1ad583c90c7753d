/-! the reader of FormulaTrees, exactly: brackets closed, arguments, operators -/
section XX
variable {s s1 : aS} {b i : Nat} {t : List Int32} {ns : List (List Int32)} {F : List Fw} {cur M : List NN} {fr : Int32} {lc : Nat} {P P1 P0 : List (Int32 × Nat)} {B0 : List (Nat × Int32 × Nat)}
/-- what operators and brackets write -/
def aM (b a k : Nat) : Prop := (a = b ∧ k = 2) ∨ a = b + 1 ∨ (a = 106 ∧ (k = 7 ∨ k = 9 ∨ k = 10)) ∨ (110 ≤ a ∧ a ≤ 116)
set_option maxRecDepth 100000 in
theorem aMC {a k : Nat} (h : aM b a k) : AC b a k := by unfold aM at h; unfold AC; omega
set_option maxRecDepth 100000 in
/-- a bracket closed: behind it -/
theorem x77e {pl j : Nat} {v : Int32} (hB : PB s (P1 ++ P0) ((pl, v, P0.length) :: B0)) (h7 : sI s 106 7 = Int32.ofNat j) (hj : j < 1000) : ∃ s', dm77_16 (Int32.ofNat pl) s = some s' ∧ PB s' P0 B0 ∧ sI s' 106 10 = Int32.ofNat pl ∧ sI s' 106 9 = 4 ∧ sI s' 106 7 = Int32.ofNat (j + 1) ∧ ch (fun a k => (a = 106 ∧ (k = 7 ∨ k = 9 ∨ k = 10)) ∨ (a = 110 ∧ k = 2) ∨ (a = 113 ∧ k = 3)) s s' := by
  obtain ⟨s2, a1, a2, a3⟩ := x65 hB
  obtain ⟨s3, b1, b2, b3⟩ := x80 a2
  unfold dm77_16
  rw [x79 hB]
  simp only [bu_some]
  rw [show bS ((pl, v, P0.length) :: B0) = P0.length from rfl, a1]
  simp only [bu_some]
  rw [b1]
  simp only [bu_some]
  unfold dm81
  simp only [bu_some, nx_eq]
  have e7 : sI (wI (wI s3 106 10 (Int32.ofNat pl)) 106 9 4) 106 7 = Int32.ofNat j := by
    rw [sI_wI, if_neg (by omega), sI_wI, if_neg (by omega), b3.i (by omega), a3.i (by omega)]
    exact h7
  rw [e7, ofNat_succ (by omega)]
  have g : ch (fun a k => a = 106 ∧ (k = 7 ∨ k = 9 ∨ k = 10)) s3 (wI (wI (wI s3 106 10 (Int32.ofNat pl)) 106 9 4) 106 7 (Int32.ofNat (j + 1))) := (((ch.refl _ s3).wI (by omega)).wI (by omega)).wI (by omega)
  refine ⟨_, rfl, b2.of g (fun a k z => by omega), ?_, ?_, by rw [sI_wI, if_pos ⟨rfl, rfl⟩], ((a3.mono fun a k z => by omega).trans (b3.mono fun a k z => by omega)).trans (g.mono fun a k z => by omega)⟩
  · rw [sI_wI, if_neg (by omega), sI_wI, if_neg (by omega), sI_wI, if_pos ⟨rfl, rfl⟩]
  · rw [sI_wI, if_neg (by omega), sI_wI, if_pos ⟨rfl, rfl⟩]
set_option maxRecDepth 100000 in
theorem trM {z : Nat} {A : Nat → Nat → Prop} (hT : TR s b z M) (hb : b = 102 ∨ 149 ≤ b) (g : ch A s s1) (hA : ∀ a k, A a k → 106 ≤ a ∧ a ≤ 116) : TR s1 b z M := hT.of g (fun q => by have := hA _ _ q; omega) (fun k q => by have := hA _ _ q; omega) (fun q => by have := hA _ _ q; omega) (fun k q => by have := hA _ _ q; omega)
set_option maxRecDepth 100000 in
/-- brackets of no call -/
theorem x77a {pl j z : Nat} (h : KS s b t ns) (hT : TR s b z M) (hB : PB s (P1 ++ P0) ((pl, -1, P0.length) :: B0)) (h7 : sI s 106 7 = Int32.ofNat j) (hj : j < 1000) : ∃ s', dm77 s = some s' ∧ TR s' b z M ∧ PB s' P0 B0 ∧ sI s' 106 10 = Int32.ofNat pl ∧ sI s' 106 9 = 4 ∧ sI s' 106 7 = Int32.ofNat (j + 1) ∧ ch (aM b) s s' := by
  obtain ⟨s', a1, a2, a3, a4, a5, a6⟩ := x77e hB h7 hj
  unfold dm77
  rw [x78 hB, x73 hB]
  simp only [bu_some]
  rw [show bA ((pl, (-1 : Int32), P0.length) :: B0) = -1 from rfl, if_pos rfl, if_pos rfl, show bP ((pl, (-1 : Int32), P0.length) :: B0) = pl from rfl]
  exact ⟨s', a1, trM hT (xb h) a6 (fun a k z => by omega), a2, a3, a4, a5, a6.mono fun a k z => by unfold aM; omega⟩
set_option maxRecDepth 100000 in
/-- brackets of a call -/
theorem x77b {pl j z : Nat} {v : Int32} {C R : List NN} {n : NN} (h : KS s b t ns) (hT : TR s b z (C ++ n :: R)) (hC : C.length = pl) (hv : v ≠ -1) (hB : PB s (P1 ++ P0) ((pl, v, P0.length) :: B0)) (h7 : sI s 106 7 = Int32.ofNat j) (hj : j < 1000) : ∃ s', dm77 s = some s' ∧ TR s' b z (C ++ (n.1, setN n.2.1 1 v, n.2.2) :: R) ∧ PB s' P0 B0 ∧ sI s' 106 10 = Int32.ofNat pl ∧ sI s' 106 9 = 4 ∧ sI s' 106 7 = Int32.ofNat (j + 1) ∧ ch (aM b) s s' := by
  have hb := xb h
  have c1 : dm60 b (Int32.ofNat pl) 1 v s = some (wI s (b + 1) (11 * C.length + 1) v) := by
    rw [← hC]
    exact x60 (w := 1) hT (by omega)
  have c2 := hT.set (w := 1) (v := v) (by omega)
  have c3 : ch (fun a _ => a = b + 1) s (wI s (b + 1) (11 * C.length + 1) v) := (ch.refl _ s).wI rfl
  have B1 := hB.of c3 (fun a k z => by omega)
  obtain ⟨s', a1, a2, a3, a4, a5, a6⟩ := x77e B1 ((c3.i (by omega)).trans h7) hj
  unfold dm77
  rw [x78 hB, x73 hB]
  simp only [bu_some]
  rw [show bA ((pl, v, P0.length) :: B0) = v from rfl, if_neg hv, if_neg (by decide), (xtr h).1, if_pos (xk h), x74 hB]
  simp only [bu_some]
  rw [show bA ((pl, v, P0.length) :: B0) = v from rfl, show bP ((pl, v, P0.length) :: B0) = pl from rfl, c1]
  simp only [bu_some]
  exact ⟨s', a1, trM c2 hb a6 (fun a k z => by omega), a2, a3, a4, a5, (c3.mono fun a k z => by unfold aM; omega).trans (a6.mono fun a k z => by unfold aM; omega)⟩
set_option maxRecDepth 100000 in
theorem on1 {k : Nat} (h : k < 1000) : Int32.ofNat k + 1 = Int32.ofNat (k + 1) := ofNat_succ (by omega)
set_option maxRecDepth 100000 in
/-- an argument at its end, by ) -/
theorem x75b {pl j z k : Nat} {C R : List NN} {n : NN} (h : KS s b t ns) (hT : TR s b z (C ++ n :: R)) (hC : C.length = pl) (hk : k < 100) (hB : PB s (P1 ++ P0) ((pl, Int32.ofNat k, P0.length) :: B0)) (h7 : sI s 106 7 = Int32.ofNat j) (hj : j < 1000) : ∃ s', dm75 1 s = some s' ∧ TR s' b z (C ++ (n.1, setN n.2.1 1 (Int32.ofNat (k + 1)), n.2.2) :: R) ∧ PB s' P0 B0 ∧ sI s' 106 10 = Int32.ofNat pl ∧ sI s' 106 9 = 4 ∧ sI s' 106 7 = Int32.ofNat (j + 1) ∧ ch (aM b) s s' := by
  have hb := xb h
  obtain ⟨s2, a1, a2, a3⟩ := x76 hB
  have a2 : PB s2 (P1 ++ P0) ((pl, Int32.ofNat k + 1, P0.length) :: B0) := a2
  rw [on1 (by omega)] at a2
  obtain ⟨s3, b1, b2, b3, b4, b5, b6, b7⟩ := x77b (h.of (b := b) (a3.mono fun a k z => by unfold AC; omega)) (trM hT hb a3 (fun a k z => by omega)) hC (nm1 (by omega)) a2 ((a3.i (by omega)).trans h7) hj
  unfold dm75
  rw [if_neg (by decide)]
  unfold dm75_14
  rw [a1]
  simp only [bu_some]
  rw [if_neg (by decide), b1]
  exact ⟨s3, rfl, b2, b3, b4, b5, b6, (a3.mono fun a k z => by unfold aM; omega).trans b7⟩
set_option maxRecDepth 100000 in
/-- an argument at its end, by a comma -/
theorem x75c {pl j z k : Nat} (h : KS s b t ns) (hT : TR s b z M) (hk : k ≤ 28) (hB : PB s (P1 ++ P0) ((pl, Int32.ofNat k, P0.length) :: B0)) (h7 : sI s 106 7 = Int32.ofNat j) (hj : j < 1000) : ∃ s', dm75 0 s = some s' ∧ TR s' b z M ∧ PB s' P0 ((pl, Int32.ofNat (k + 1), P0.length) :: B0) ∧ sI s' 106 9 = 0 ∧ sI s' 106 7 = Int32.ofNat (j + 1) ∧ ch (aM b) s s' := by
  have hb := xb h
  obtain ⟨s2, a1, a2, a3⟩ := x76 hB
  have a2 : PB s2 (P1 ++ P0) ((pl, Int32.ofNat k + 1, P0.length) :: B0) := a2
  rw [on1 (by omega)] at a2
  obtain ⟨s3, b1, b2, b3⟩ := x65 a2
  unfold dm75
  rw [if_pos rfl, x74 hB]
  simp only [bu_some]
  rw [show bA ((pl, Int32.ofNat k, P0.length) :: B0) = Int32.ofNat k from rfl, show Int32.ofNat k + 2 = Int32.ofNat (k + 2) from iSum (i := k) (j := 2) (by omega) (by omega), if_pos (show Int32.ofNat (k + 2) ≤ 30 from (nle_iff (b := 30) (by omega) (by omega)).mpr (by omega))]
  unfold dm75_14
  rw [a1]
  simp only [bu_some]
  rw [if_pos trivial, x79 a2]
  simp only [bu_some]
  rw [show bS ((pl, Int32.ofNat (k + 1), P0.length) :: B0) = P0.length from rfl, b1]
  simp only [bu_some, nx_eq]
  have e7 : sI (wI s3 106 9 0) 106 7 = Int32.ofNat j := by
    rw [sI_wI, if_neg (by omega), b3.i (by omega), a3.i (by omega)]
    exact h7
  rw [e7, ofNat_succ (by omega)]
  have g : ch (fun a k => a = 106 ∧ (k = 7 ∨ k = 9)) s3 (wI (wI s3 106 9 0) 106 7 (Int32.ofNat (j + 1))) := ((ch.refl _ s3).wI (by omega)).wI (by omega)
  exact ⟨_, rfl, trM (trM (trM hT hb a3 (fun a k z => by omega)) hb b3 (fun a k z => by omega)) hb g (fun a k z => by omega), b2.of g (fun a k z => by omega), by rw [sI_wI, if_neg (by omega), sI_wI, if_pos ⟨rfl, rfl⟩], by rw [sI_wI, if_pos ⟨rfl, rfl⟩], ((a3.mono fun a k z => by unfold aM; omega).trans (b3.mono fun a k z => by unfold aM; omega)).trans (g.mono fun a k z => by unfold aM; omega)⟩
set_option maxRecDepth 100000 in
theorem x75w {pl j k : Nat} (hk : k = 29) (hB : PB s P ((pl, Int32.ofNat k, P0.length) :: B0)) (h7 : sI s 106 7 = Int32.ofNat j) (hj : j < 1000) : ∃ s', dm75 0 s = some s' ∧ sI s' 106 8 ≠ -1 := by
  subst hk
  unfold dm75
  rw [if_pos rfl, x74 hB]
  simp only [bu_some]
  rw [show bA ((pl, Int32.ofNat 29, P0.length) :: B0) = Int32.ofNat 29 from rfl, if_neg (by decide), nx_eq]
  exact ⟨_, rfl, by rw [sI_wI, if_pos ⟨rfl, rfl⟩, h7]; exact nm1 (by omega)⟩
set_option maxRecDepth 100000 in
/-- what is nothing between operands -/
theorem x84w {c d : Int32} {j : Nat} (hc : dm83 c d = some (-1)) (h7 : sI s 106 7 = Int32.ofNat j) (hj : j < 1000) : ∃ s', dm84 (-1) s = some s' ∧ sI s' 106 8 ≠ -1 := by
  unfold dm84
  rw [if_pos rfl, nx_eq]
  exact ⟨_, rfl, by rw [sI_wI, if_pos ⟨rfl, rfl⟩, h7]; exact nm1 (by omega)⟩
set_option maxRecDepth 100000 in
theorem x83 (c d : Int32) : dm83 c d = some (if (opk c d).1 = 0 then -1 else Int32.ofNat (opk c d).1) := by
  unfold dm83 opk
  repeat' split
  all_goals first
    | rfl
    | (exfalso; simp_all)
    | simp_all
set_option maxRecDepth 100000 in
theorem x85 : ∀ p ∈ opL, dm85 (Int32.ofNat p.1) = some (rkM (Int32.ofNat p.1)) := by decide
set_option maxRecDepth 100000 in
theorem op_l : ∀ p ∈ opL, (¬ Int32.ofNat p.1 = -1) ∧ isB (Int32.ofNat p.1) ∧ ¬ (Int32.ofNat p.1 = 100 ∨ Int32.ofNat p.1 = 7) ∧ ¬ Int32.ofNat p.1 = 10 ∧ ((Int32.ofNat p.1 = 18 ∨ Int32.ofNat p.1 = 21 ∨ Int32.ofNat p.1 = 22) ↔ p.2 = 2) ∧ (p.2 = 1 ∨ p.2 = 2) := by
  unfold isB
  decide
set_option maxRecDepth 100000 in
/-- an operator between operands -/
theorem x84 {p : Nat × Nat} (h : XI s b t ns i F cur 0 lc) (hF : ∀ f ∈ F, gdF ns f) (hcur : cur ≠ []) (hi : i + p.2 ≤ t.length) (hp : p ∈ opL) (h8 : (flC F ++ cur).length < 128) (q : Nat) : ∃ s', dm84 (Int32.ofNat p.1) s = some s' ∧ XI s' b t ns (i + p.2) ((Int32.ofNat p.1, (q, plF (Int32.ofNat p.1) 0, []), (rdF (rkM (Int32.ofNat p.1)) F cur).2, [hdI (rdF (rkM (Int32.ofNat p.1)) F cur).2]) :: (rdF (rkM (Int32.ofNat p.1)) F cur).1) [] 0 0 := by
  have hl := h.1.1.2.1
  have hb := xb h.1
  obtain ⟨o1, o2, o3, o4, o5, o6⟩ := op_l p hp
  obtain ⟨k, hk⟩ : ∃ k, k = Int32.ofNat p.1 := ⟨_, rfl⟩
  obtain ⟨G, hG⟩ : ∃ G, G = (rdF (rkM k) F cur).1 := ⟨_, rfl⟩
  obtain ⟨c1, hc1⟩ : ∃ c1, c1 = (rdF (rkM k) F cur).2 := ⟨_, rfl⟩
  have e85 := x85 p hp
  rw [← hk] at o1 o2 o3 o4 o5 e85
  rw [← hk, ← hG, ← hc1]
  have efl : flC G ++ c1 = flC F ++ cur := by
    rw [hG, hc1]
    exact rd_fl F cur hF
  have ebO : bO G = bO F := by
    rw [hG]
    exact rd_bO F cur
  have eeF : eF (rkM k) (bS (bO F)) (pO F) (flC F).length = (pO G, (flC G).length) := by
    rw [hG]
    exact rd_pO F cur
  have hbs := bS_le F
  have hpl := pO_len F
  have hlen : (flC F).length ≤ (flC F ++ cur).length := by rw [List.length_append]; omega
  obtain ⟨s2, a1, a2, a3⟩ := x86 (x := rkM k) (base := bS (bO F)) (o := (flC F).length) h.2.2.1 (by omega)
  rw [eeF] at a1 a2
  have K2 := h.1.of (b := b) (a3.mono fun a k z => by unfold AC; omega)
  have T2 : TR s2 b i (flC G ++ c1) := by
    rw [efl]
    exact trM h.2.1 hb a3 (fun a k z => by omega)
  obtain ⟨s3, b1, b2, b3⟩ := x72 (q := q) (kd := k) (c := 2) T2 (by rw [efl]; exact h8)
  have B3 := a2.of b3 (fun a k z => by omega)
  have hpG := pO_len G
  have hG8 : (flC G).length ≤ (flC G ++ c1).length := by rw [List.length_append]; omega
  rw [efl] at hG8
  obtain ⟨s4, c4, c5, c6⟩ := x87 (x := rkM k) (y := (flC G).length) B3 (by show (pO G).length < 128; omega)
  have f7 : sI s4 106 7 = Int32.ofNat i := by
    rw [c6.i (by omega), b3.i (by omega), a3.i (by omega)]
    exact h.2.2.2.1
  have fw : sI s4 106 8 = -1 := by
    rw [c6.i (by omega), b3.i (by omega), a3.i (by omega)]
    exact h.2.2.2.2.1
  have gg : ch (AC b) s s4 := ((a3.mono fun a k z => by unfold AC; omega).trans (b3.mono fun a k z => by unfold AC; omega)).trans (c6.mono fun a k z => by unfold AC; omega)
  have T4 : TR s4 b i (flC G ++ (q, plF k 2, []) :: c1) := trM b2 hb c6 (fun a k z => by omega)
  unfold dm84
  rw [if_neg o1]
  rcases x70 h.1 h.2.1 (sI s 106 7) with ⟨-, e70⟩ | ⟨z, -⟩
  · rw [e70]
    simp only [bv_some]
    rw [if_neg (by decide), e85]
    simp only [bu_some]
    rw [x79 h.2.2.1]
    simp only [bu_some]
    rw [h.2.2.2.2.2.2 hcur, a1]
    simp only [bv_some]
    rw [(xtr K2).1, if_pos (xk K2), b1]
    simp only [bu_some]
    rw [c4]
    simp only [bu_some, nx_eq]
    -- how far it goes on
    have fin : ∀ y, y = p.2 → ∃ s', dm84_61 (sI (wI s4 106 9 1) 106 7) (Int32.ofNat y) (wI s4 106 9 1) = some s' ∧ XI s' b t ns (i + p.2) ((k, (q, plF k 0, []), c1, [hdI c1]) :: G) [] 0 0 := by
      intro y hy
      subst hy
      have e7 : sI (wI s4 106 9 1) 106 7 = Int32.ofNat i := by rw [sI_wI, if_neg (by omega)]; exact f7
      unfold dm84_61
      rw [e7, iSum (by omega) (by omega), nx_eq]
      have g5 : ch (fun a k => a = 106 ∧ (k = 7 ∨ k = 9)) s4 (wI (wI s4 106 9 1) 106 7 (Int32.ofNat (i + p.2))) := ((ch.refl _ s4).wI (by omega)).wI (by omega)
      refine ⟨_, rfl, h.1.of (b := b) (gg.trans (g5.mono fun a k z => by unfold AC; omega)), ?_, ?_, by rw [sI_wI, if_pos ⟨rfl, rfl⟩], (g5.i (by omega)).trans fw, by rw [sI_wI, if_neg (by omega), sI_wI, if_pos ⟨rfl, rfl⟩]; rfl, fun z => absurd rfl z⟩
      · have e9 : flC ((k, (q, plF k 0, []), c1, [hdI c1]) :: G) ++ [] = flC G ++ (q, plF k 2, []) :: c1 := by
          rw [List.append_nil]
          show flC G ++ frC (k, (q, plF k 0, []), c1, [hdI c1]) = _
          unfold frC hdC caF
          rw [if_neg (fun z => o3 (Or.inl z)), if_neg (fun z => o3 (Or.inr z)), if_neg o4]
          show flC G ++ (q, setN (plF k 0) 1 2, []) :: c1 = _
          rw [pl_1]
        rw [e9]
        exact (trM T4 hb g5 (fun a k z => by omega)).up (by omega)
      · have ep : pO ((k, (q, plF k 0, []), c1, [hdI c1]) :: G) = (rkM k, (flC G).length) :: pO G := by
          rw [pO]
          exact if_neg o3
        have eb : bO ((k, (q, plF k 0, []), c1, [hdI c1]) :: G) = bO F := by
          rw [← ebO, bO]
          show (if k = 100 then _ else if k = 7 then _ else bO G) = bO G
          rw [if_neg (fun z => o3 (Or.inl z)), if_neg (fun z => o3 (Or.inr z))]
        rw [ep, eb]
        exact c5.of g5 (fun a k z => by omega)
    unfold dm84_49 dm84_52
    by_cases z1 : k = 18
    · rw [if_pos z1, if_neg (show ¬ (1 : Int32) = 0 by decide)]
      exact fin 2 (o5.mp (Or.inl z1)).symm
    · rw [if_neg z1]
      by_cases z2 : k = 21
      · rw [if_pos z2, if_neg (show ¬ (1 : Int32) = 0 by decide)]
        exact fin 2 (o5.mp (Or.inr (Or.inl z2))).symm
      · rw [if_neg z2]
        by_cases z3 : k = 22
        · rw [if_pos z3, if_neg (show ¬ (1 : Int32) = 0 by decide)]
          exact fin 2 (o5.mp (Or.inr (Or.inr z3))).symm
        · rw [if_neg z3, if_pos rfl]
          refine fin 1 (Classical.byContradiction fun z => ?_)
          have : p.2 = 2 := by omega
          rcases o5.mpr this with q | q | q
          · exact z1 q
          · exact z2 q
          · exact z3 q
  · omega
end XX
