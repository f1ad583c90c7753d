/-! read in FormulaTrees is the reference's, but for where a text is wrong -/
set_option maxRecDepth 100000 in
theorem mRun_o {t : List Int32} {ns : List (List Int32)} : ∀ (m : Nat) (z : St) (q : List Fw × List NN), mRun t ns m z = .inr q → nO q.1 = 0
  | 0, z, q, h => by cases h
  | m + 1, z, q, h => by
    rw [mRun] at h
    split at h
    · split at h
      · cases h
      · rename_i c
        cases h
        exact Classical.byContradiction fun y => c (Or.inr y)
    · split at h
      · cases h
      · exact mRun_o m _ q h
section XX
variable {s : aS} {b : Nat} {t : List Int32} {ns : List (List Int32)}
set_option maxRecDepth 100000 in
theorem rdC {v : Int32} {s' : aS} (hT : LT s 79 t) (hl : t.length ≤ 256) (hok : okT t) (hS : SC s ns) (hn : nsOk ns) (hP : KP s b) (he : dm63 b s = some (v, s')) : match mRd t ns with
    | .inl _ => v ≠ -1
    | .inr L => v = -1 ∧ TR s' b 256 L := by
  obtain ⟨p1, p2, p3, p4, ⟨p5, p6, p7, p8⟩, -, m, m1, m2⟩ := hP
  let s0 := wR s 106 6 (.ref b)
  have h0 : KS s0 b t ns := ⟨⟨hT, hl, hok, p5⟩, ⟨sR_at s b, p1, p2, p3, p4⟩, hS, hn, p6, p7, p8⟩
  unfold dm63 dm64 dm65 dm66 dm26 at he
  simp only [nx_eq] at he
  rw [sR_at, vN_ref, if_pos (show aK (wR s 106 6 (.ref b)) b 3 from p1)] at he
  simp only [bu_some] at he
  let sa := wI (wI s0 b 2 0) (b + 2) 1 0
  have ea : sI sa 110 2 = Int32.ofNat m := by
    show sI (wI (wI s0 b 2 0) (b + 2) 1 0) 110 2 = _
    rw [sI_wI, if_neg (by omega), sI_wI, if_neg (by omega)]
    exact m2
  obtain ⟨sb, cb, eb2, eb3⟩ : ∃ sb, ((if (0 : Int32) < 0 then some sa else if sI sa 110 2 ≤ 0 then some sa else some (wI sa 110 2 0)) = some sb) ∧ sI sb 110 2 = Int32.ofNat 0 ∧ ch (fun a k => a = 110 ∧ k = 2) sa sb := by
    rw [if_neg (by decide), ea]
    by_cases c : m = 0
    · subst c
      rw [if_pos (by decide)]
      exact ⟨sa, rfl, ea, ch.refl _ sa⟩
    · rw [if_neg (fun z => by have := (nle_iff (b := 0) (by omega) (by omega)).mp z; omega)]
      exact ⟨_, rfl, by rw [sI_wI, if_pos ⟨rfl, rfl⟩]; rfl, (ch.refl _ sa).wI ⟨rfl, rfl⟩⟩
  have he : bu (if (0 : Int32) < 0 then some sa else if sI sa 110 2 ≤ 0 then some sa else some (wI sa 110 2 0)) (fun s15 => bu (dm67 (wI (wI (wI (wI s15 113 3 0) 106 7 0) 106 8 (-1)) 106 9 1)) fun s40 => dm63_26 5000 0 s40) = some (v, s') := he
  rw [cb] at he
  simp only [bu_some] at he
  let sc := wI (wI (wI (wI sb 113 3 0) 106 7 0) 106 8 (-1)) 106 9 1
  have cc : ch (fun a k => (a = 113 ∧ k = 3) ∨ (a = 106 ∧ 7 ≤ k)) sb sc := ((((ch.refl (fun a k => (a = 113 ∧ k = 3) ∨ (a = 106 ∧ 7 ≤ k)) sb).wI (Or.inl ⟨rfl, rfl⟩)).wI (Or.inr ⟨rfl, by omega⟩)).wI (Or.inr ⟨rfl, by omega⟩)).wI (Or.inr ⟨rfl, by omega⟩)
  have cab : ch (AC b) s0 sc := ((((ch.refl (AC b) s0).wI (by unfold AC; omega)).wI (by unfold AC; omega)).trans (eb3.mono fun a k z => by unfold AC; omega)).trans (cc.mono fun a k z => by unfold AC; omega)
  have Kc := h0.of cab
  have eN : sI sc b 2 = Int32.ofNat 0 := by
    rw [cc.i (by omega), eb3.i (by omega)]
    show sI (wI (wI s0 b 2 0) (b + 2) 1 0) b 2 = _
    rw [sI_wI, if_neg (by omega), sI_wI, if_pos ⟨rfl, rfl⟩]
    rfl
  have eU : sI sc (b + 2) 1 = Int32.ofNat 0 := by
    rw [cc.i (by omega), eb3.i (by omega)]
    show sI (wI (wI s0 b 2 0) (b + 2) 1 0) (b + 2) 1 = _
    rw [sI_wI, if_pos ⟨rfl, rfl⟩]
    rfl
  have e7 : sI sc 106 7 = Int32.ofNat 0 := by
    show sI (wI (wI (wI (wI sb 113 3 0) 106 7 0) 106 8 (-1)) 106 9 1) 106 7 = _
    rw [sI_wI, if_neg (by omega), sI_wI, if_neg (by omega), sI_wI, if_pos ⟨rfl, rfl⟩]
    rfl
  have e8 : sI sc 106 8 = -1 := by
    show sI (wI (wI (wI (wI sb 113 3 0) 106 7 0) 106 8 (-1)) 106 9 1) 106 8 = _
    rw [sI_wI, if_neg (by omega), sI_wI, if_pos ⟨rfl, rfl⟩]
  have e9 : sI sc 106 9 = 1 := by
    show sI (wI (wI (wI (wI sb 113 3 0) 106 7 0) 106 8 (-1)) 106 9 1) 106 9 = _
    rw [sI_wI, if_pos ⟨rfl, rfl⟩]
  have e3 : sI sc 113 3 = Int32.ofNat 0 := by
    show sI (wI (wI (wI (wI sb 113 3 0) 106 7 0) 106 8 (-1)) 106 9 1) 113 3 = _
    rw [sI_wI, if_neg (by omega), sI_wI, if_neg (by omega), sI_wI, if_neg (by omega), sI_wI, if_pos ⟨rfl, rfl⟩]
    rfl
  have e2 : sI sc 110 2 = Int32.ofNat 0 := (cc.i (by omega)).trans eb2
  have Tc : TR sc b 0 [] := ⟨eN, Nat.zero_le _, [], ⟨⟨eU, fun j hj => absurd hj (Nat.not_lt_zero j)⟩, Nat.zero_le _, fun y hy => (by cases hy)⟩, Nat.zero_le _, fun k n hk => (by simp at hk)⟩
  obtain ⟨s1, d1, d2, d3⟩ := x67 Kc (Nat.zero_le _) e7
  have he : bu (dm67 sc) (fun s40 => dm63_26 5000 0 s40) = some (v, s') := he
  rw [d1] at he
  simp only [bu_some] at he
  have X1 : XI s1 b t ns (skS t 0) [] [] 0 0 := ⟨Kc.of (b := b) (d3.mono fun a k z => a7C z), (trM Tc p2 d3 (fun a k z => by unfold a7 at z; omega)).up (Nat.zero_le _), ⟨⟨(d3.i (by unfold a7; omega)).trans e2, Nat.zero_le _, trivial⟩, (d3.i (by unfold a7; omega)).trans e3, Nat.zero_le _, trivial⟩, d2, (d3.i (by unfold a7; omega)).trans e8, (d3.i (by unfold a7; omega)).trans e9, fun z => absurd rfl z⟩
  have hMI : MI ns [] [] := ⟨fun f hf => (by cases hf), fun n hn => (by cases hn)⟩
  have hIV : IV t ns (0, [], [], 0, 0) := ⟨Nat.zero_le _, hMI, fun _ => ⟨rfl, Or.inl rfl⟩, fun z => absurd rfl z, fun z => absurd z (by decide : ¬ (0 : Nat) = 1)⟩
  have hs := sim (b := b) (ns := ns) 599 (0, [], [], 0, 0) 0 5000 s1 X1 hIV (by
    unfold muS
    show 2 * (t.length - 0) + 1 ≤ 599
    omega) (by
    show 0 + 2 * (t.length - skS t 0) ≤ 512
    omega) v s' he
  unfold mRd
  cases hr : mRun t ns 600 (0, [], [], 0, 0) with
  | inl p =>
    rw [hr] at hs
    exact hs
  | inr q =>
    rw [hr] at hs
    have hs : v = -1 ∧ TR s' b 256 (flC q.1 ++ q.2) := hs
    refine ⟨hs.1, ?_⟩
    have hq := mRun_gd hn hl hok 600 (0, [], [], 0, 0) q (Nat.zero_le _) (fun _ => ⟨rfl, fun z => absurd z (by decide)⟩) (fun z => absurd z (by decide : ¬ (0 : Nat) = 1)) hMI hr
    have e := rd_fl (x := 0) q.1 q.2 hq.1
    have h0 := mRun_o 600 _ q hr
    rcases rd_in q.1 q.2 with ⟨z1, -⟩ | ⟨f, F0, -, -, -, -, z5⟩
    · rw [z1] at e
      have e : (rdF 0 q.1 q.2).2 = flC q.1 ++ q.2 := e
      show TR s' b 256 (rdF 0 q.1 q.2).2
      rw [e]
      exact hs.2
    · omega
end XX
