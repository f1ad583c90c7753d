/-! what was read is right -/
set_option maxRecDepth 100000 in
theorem mRun_gd {t : List Int32} {ns : List (List Int32)} (hn : nsOk ns) (hl : t.length ≤ 256) (ho : okT t) : ∀ (m : Nat) (z : St) (q : List Fw × List NN), z.1 ≤ t.length → (z.2.2.1.isEmpty = true → z.2.2.2.2 = 0 ∧ (z.2.2.2.1 = 1 → ∃ f F0, z.2.1 = f :: F0 ∧ f.1 = 7)) → (z.2.2.2.2 = 1 → ∃ n, z.2.2.1 = [n] ∧ n.2.1 0 = 4) → MI ns z.2.1 z.2.2.1 → mRun t ns m z = .inr q → MI ns q.1 q.2
  | 0, z, q, _, _, _, _, h => by cases h
  | m + 1, z, q, h1, h2, h3, h4, h => by
    have hb := sk_b h1
    rw [mRun] at h
    by_cases he : t.length ≤ skS t z.1
    · rw [if_pos he] at h
      by_cases g : z.2.2.1.isEmpty = true ∨ ¬ nO z.2.1 = 0
      · rw [if_pos g] at h; cases h
      · rw [if_neg g] at h
        cases h
        exact h4
    · rw [if_neg he] at h
      have key : stOk t (skS t z.1) z.2.2.1.isEmpty (if z.2.2.1.isEmpty = true then mOpd t ns (skS t z.1) z.2.1 z.2.2.2.1 else mBeh t (skS t z.1) z.2.1 z.2.2.1 z.2.2.2.2) ∧ gdX ns (if z.2.2.1.isEmpty = true then mOpd t ns (skS t z.1) z.2.1 z.2.2.2.1 else mBeh t (skS t z.1) z.2.1 z.2.2.1 z.2.2.2.2) := by
        by_cases c : z.2.2.1.isEmpty = true
        · rw [if_pos c, c]
          exact ⟨mOpd_ok ho (by omega), mOpd_gd hn hl ho h4.1 (by omega) (h2 c).2⟩
        · rw [if_neg c, nE_of c]
          exact ⟨mBeh_ok (by omega) (fun q => c (emp_iff.mpr q)), mBeh_gd h4 (by omega) h3⟩
      generalize (if z.2.2.1.isEmpty = true then mOpd t ns (skS t z.1) z.2.1 z.2.2.2.1 else mBeh t (skS t z.1) z.2.1 z.2.2.1 z.2.2.2.2) = X at h key
      cases X with
      | inl p => cases h
      | inr z' =>
        obtain ⟨⟨c1, c2, c3, c4, c5, c6⟩, k2⟩ := key
        exact mRun_gd hn hl ho m z' q c2 c5 c6 k2 h
set_option maxRecDepth 100000 in
theorem mRd_gd {t : List Int32} {ns : List (List Int32)} {L : List NN} (hn : nsOk ns) (hl : t.length ≤ 256) (ho : okT t) (h : mRd t ns = .inr L) : ∀ n ∈ L, gdN ns n := by
  unfold mRd at h
  cases hq : mRun t ns 600 (0, [], [], 0, 0) with
  | inl p => rw [hq] at h; cases h
  | inr q =>
    rw [hq] at h
    have h : (Sum.inr (rdF 0 q.1 q.2).2 : Nat ⊕ List NN) = .inr L := h
    cases h
    have := mRun_gd hn hl ho 600 (0, [], [], 0, 0) q (Nat.zero_le _) (fun _ => ⟨rfl, fun z => absurd z (by decide : ¬ (0 : Int32) = 1)⟩) (fun z => (by cases z)) ⟨fun f hf => (by cases hf), fun n hn => (by cases hn)⟩ hq
    exact (gd_rd (x := 0) q.1 q.2 this).2
