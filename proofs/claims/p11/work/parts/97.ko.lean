section
/-! the reader of FormulaTrees, exactly: the whole of it, beside the reference's -/
def RES (b : Nat) (R : Nat ⊕ (List Fw × List NN)) (D : Option (Int32 × aS)) : Prop := ∀ v s', D = some (v, s') → match R with
  | .inl _ => v ≠ -1
  | .inr q => v = -1 ∧ TR s' b 256 (flC q.1 ++ q.2)
section XX
variable {s s1 : aS} {b i : Nat} {t : List Int32} {ns : List (List Int32)} {F : List Fw} {cur M : List NN} {fr : Int32} {lc : Nat}
set_option maxRecDepth 100000 in
theorem RES.l {R : Nat ⊕ (List Fw × List NN)} {D : Option (Int32 × aS)} (hR : ∃ p, R = .inl p) (h : ∀ v s', D = some (v, s') → v ≠ -1) : RES b R D := by
  obtain ⟨p, rfl⟩ := hR
  exact h
set_option maxRecDepth 100000 in
theorem RES.z {R : Nat ⊕ (List Fw × List NN)} {x : Int32} : RES b R (dm63_26 0 x s) := fun v s' h => (by cases h)
set_option maxRecDepth 100000 in
theorem sp8 : ∀ (n : Nat) (s s4 : aS), dm67_0 n s = some s4 → sI s4 106 8 = sI s 106 8
  | 0, s, s4, h => by cases h
  | n + 1, s, s4, h => by
    rw [dm67_0] at h
    unfold dm28 at h
    simp only [bu_some] at h
    split at h
    · cases h
      rfl
    · obtain ⟨r, -, h⟩ := bu_so h
      split at h
      · have := sp8 n _ s4 h
        rw [this, sI_wI, if_neg (by omega)]
      · cases h
        rfl
set_option maxRecDepth 100000 in
theorem wr26 {n : Nat} {x v : Int32} {s' : aS} (h8 : sI s 106 8 ≠ -1) (h : dm63_26 n x s = some (v, s')) : v ≠ -1 := by
  cases n with
  | zero => cases h
  | succ n =>
    have e : dm63_80 s = some (sI s 106 8, s) := by
      unfold dm63_80
      rw [if_neg h8]
    rw [dm63_26] at h
    unfold dm28 at h
    simp only [bu_some] at h
    have key : dm63_80 s = some (v, s') := by
      split at h
      · exact h
      · split at h
        · exact h
        · exact h
    rw [e] at key
    cases key
    exact h8
set_option maxRecDepth 100000 in
theorem wr72 {n : Nat} {x v : Int32} {s' : aS} (h8 : sI s 106 8 ≠ -1) (h : dm63_72 (dm63_26 n) x s = some (v, s')) : v ≠ -1 := by
  unfold dm63_72 dm63_78 at h
  split at h
  · exact wr26 h8 h
  · obtain ⟨s4, e, h⟩ := bu_so h
    have e8 := sp8 5000 s s4 e
    exact wr26 (by rw [e8]; exact h8) h
set_option maxRecDepth 100000 in
theorem sk_n {e : Nat} (h : ¬ t.getD e 0 = 32) : skS t e = e := by
  unfold skS
  rw [cnt_n (p := spP) (d := 0) h, Nat.add_zero]
set_option maxRecDepth 100000 in
theorem mBeh_b {e : Nat} (h : t.getD e 0 = 36 ∨ bad (t.getD e 0)) : mBeh t e F cur lc = .inl e := by
  have ne : ∀ k : Int32, ¬ (k = 36 ∨ bad k) → ¬ t.getD e 0 = k := fun k hk z => hk (z ▸ h)
  have n58 : ¬ t.getD e 0 = 58 := ne 58 (by unfold bad gW isL isD; decide)
  have n41 : ¬ t.getD e 0 = 41 := ne 41 (by unfold bad gW isL isD; decide)
  have n44 : ¬ t.getD e 0 = 44 := ne 44 (by unfold bad gW isL isD; decide)
  have n37 : ¬ t.getD e 0 = 37 := ne 37 (by unfold bad gW isL isD; decide)
  unfold mBeh
  rw [if_neg (fun z => n58 z.1), if_neg (fun z => n41 z.1), if_neg (fun z => n44 z.1), if_neg (fun z => n37 z.1), if_neg (fun z => z.1 (opk_n (h.elim (fun q => by rw [q]; exact Or.inr (Or.inr (Or.inr (Or.inr (Or.inl rfl))))) (fun q => Or.inr (Or.inr (Or.inr (Or.inr (Or.inr q))))))))]
set_option maxRecDepth 100000 in
/-- what comes of a step -/
noncomputable def nxR (t : List Int32) (ns : List (List Int32)) (m : Nat) (X : Nat ⊕ St) : Nat ⊕ (List Fw × List NN) := match X with
  | .inl p => .inl p
  | .inr z => mRun t ns m z
set_option maxRecDepth 100000 in
theorem dead_l {X : Nat ⊕ St} (h : dead t X) (m : Nat) : ∃ p, nxR t ns m X = .inl p := by
  rcases h with ⟨p, rfl⟩ | ⟨e, F, n, lc, rfl, hb⟩
  · exact ⟨p, rfl⟩
  · cases m with
    | zero => exact ⟨0, rfl⟩
    | succ m =>
      have h32 : ¬ t.getD e 0 = 32 := fun z => by
        rw [z] at hb
        unfold bad gW isL isD at hb
        exact absurd hb (by decide)
      have hin : e < t.length := in_of (p := bad) bad_0 hb
      refine ⟨e, ?_⟩
      show mRun t ns (m + 1) (e, F, [n], 0, lc) = .inl e
      rw [mRun]
      show (if t.length ≤ skS t e then _ else _) = _
      rw [sk_n h32, if_neg (by omega)]
      show (match (if ([n] : List NN).isEmpty = true then mOpd t ns e F 0 else mBeh t e F [n] lc) with | .inl p => (.inl p : Nat ⊕ (List Fw × List NN)) | .inr z' => mRun t ns m z') = .inl e
      rw [if_neg (show ¬ ([n] : List NN).isEmpty = true from Bool.false_ne_true), mBeh_b (Or.inr hb)]
set_option maxRecDepth 100000 in
/-- spaces behind a step -/
theorem go72 {e q n : Nat} (h : XI s b t ns e F cur fr lc) (he : e ≤ t.length) (hq : q < 1000) : ∃ s2, dm63_72 (dm63_26 n) (Int32.ofNat q) s = dm63_26 n (Int32.ofNat (q + 1)) s2 ∧ XI s2 b t ns (skS t e) F cur fr lc := by
  obtain ⟨K, T, B, h7, h8, h9, h10⟩ := h
  have hb := xb K
  obtain ⟨s2, a1, a2, a3⟩ := x67 K he h7
  have hw : ¬ sI s 106 9 = 2 := by
    rw [h9]
    unfold wn
    split
    · split <;> decide
    · split <;> decide
  have hsk := sk_b he
  refine ⟨s2, ?_, K.of (b := b) (a3.mono fun a k z => a7C z), (trM T hb a3 (fun a k z => by unfold a7 at z; omega)).up hsk.1, B.of a3 (fun a k z => by unfold a7 at z; omega), a2, (a3.i (by unfold a7; omega)).trans h8, (a3.i (by unfold a7; omega)).trans h9, fun z => (a3.i (by unfold a7; omega)).trans (h10 z)⟩
  unfold dm63_72 dm63_78
  rw [if_neg hw, a1]
  simp only [bu_some]
  rw [ofNat_succ (by omega)]
set_option maxRecDepth 100000 in
/-- the text is at its end -/
theorem e80 {j q n : Nat} (K : KS s b t ns) (h7 : sI s 106 7 = Int32.ofNat j) (hj : t.length ≤ j) (hj2 : j ≤ 1000) : dm63_26 (n + 1) (Int32.ofNat q) s = dm63_80 s := by
  have hl := K.1.2.1
  rw [dm63_26, x28 K]
  simp only [bu_some]
  rw [h7, if_pos ((nle_iff (by omega) (by omega)).mpr hj), ite_self]
set_option maxRecDepth 100000 in
theorem e92 (K : KS s b t ns) (h8 : sI s 106 8 = -1) (h9 : sI s 106 9 < 4) : ∃ s', dm63_80 s = some (Int32.ofNat t.length, s') := by
  unfold dm63_80
  rw [if_pos h8, if_pos h9]
  unfold dm63_92
  rw [x28 K]
  simp only [bu_some, nx_eq]
  exact ⟨_, by rw [sI_wI, if_pos ⟨rfl, rfl⟩]⟩
set_option maxRecDepth 100000 in
/-- one round of the loop -/
theorem e26 {j q n : Nat} (K : KS s b t ns) (h7 : sI s 106 7 = Int32.ofNat j) (hj : j < t.length) (h8 : sI s 106 8 = -1) (hq : q < 512) : dm63_26 (n + 1) (Int32.ofNat q) s = if sI s 106 9 < 4 then (if sI s 106 9 = 2 then bu (dm88 s) fun s11 => dm63_72 (dm63_26 n) (Int32.ofNat q) s11 else if sI s 106 9 = 3 then bu (dm99 s) fun s15 => dm63_72 (dm63_26 n) (Int32.ofNat q) s15 else bu (dm103 (t.getD j (-1)) s) fun s21 => dm63_72 (dm63_26 n) (Int32.ofNat q) s21) else bu (dm68 (t.getD j (-1)) s) fun s27 => dm63_72 (dm63_26 n) (Int32.ofNat q) s27 := by
  have hl := K.1.2.1
  rw [dm63_26, if_neg (fun z => by have := (nle_iff (a := 512) (by omega) (by omega)).mp z; omega), x28 K]
  simp only [bu_some]
  rw [h7, if_neg (fun z => by have := (nle_iff (by omega) (by omega)).mp z; omega), if_pos h8, x34 K (by omega)]
  simp only [bu_some]
set_option maxRecDepth 100000 in
/-- where the next sign is wrong -/
theorem goB {e q n : Nat} {R : Nat ⊕ (List Fw × List NN)} (h : XI s b t ns e F cur 0 lc) (hF : ∀ f ∈ F, gdF ns f) (hcur : cur ≠ []) (he : e < t.length) (hq : q < 512) (hc : t.getD e 0 = 36) (hR : ∃ p, R = .inl p) : RES b R (dm63_26 n (Int32.ofNat q) s) := by
  cases n with
  | zero => exact RES.z
  | succ n =>
    refine RES.l hR fun v s' hv => ?_
    have hw : ¬ sI s 106 9 < 4 := by
      rw [h.2.2.2.2.2.1]
      unfold wn
      have : cur.isEmpty = false := by
        cases cur with
        | nil => exact absurd rfl hcur
        | cons a r => rfl
      rw [this, if_neg (by decide)]
      split <;> decide
    rw [e26 h.1 h.2.2.2.1 he h.2.2.2.2.1 hq, if_neg hw] at hv
    obtain ⟨s2, a1, a2⟩ := x68 h hF hcur he
    rw [a1] at hv
    simp only [bu_some] at hv
    rw [mBeh_b (Or.inl hc)] at a2
    rcases a2 with ⟨a2, -⟩ | ⟨z, a2, -⟩ | ⟨a2, -⟩
    · exact wr72 a2 hv
    · cases a2
    · rw [hc] at a2
      exact absurd a2 (by decide)
set_option maxRecDepth 100000 in
/-- a reference is wanted -/
theorem goR {j q n : Nat} {x : Int32} {R : Nat ⊕ (List Fw × List NN)} (h : XR s b t ns j F x) (hj : j ≤ t.length) (hq : j < t.length → q < 512) (hbad : (flC F).length = 128 ∨ ¬ cOk t j ∨ bad (t.getD (cE t j) 0) → ∃ p, R = .inl p) (hgood : (flC F).length < 128 → cOk t j → ¬ bad (t.getD (cE t j) 0) → ∀ n s2, XI s2 b t ns (skS t (cE t j)) F [((fl F).length, clD x (Int32.ofNat (cW t j)) (Int32.ofNat (cK t j).2.1) (Int32.ofNat (cFl t j)), [])] 0 1 → RES b R (dm63_26 n (Int32.ofNat (q + 1)) s2)) : RES b R (dm63_26 n (Int32.ofNat q) s) := by
  cases n with
  | zero => exact RES.z
  | succ n =>
    have hl := h.1.1.2.1
    have h9 : sI s 106 9 = 2 := h.2.2.2.2.2.1
    by_cases he : t.length ≤ j
    · have hR := hbad (Or.inr (Or.inl fun z => by have := (cOk_b hj z).2.2.2; omega))
      rw [e80 h.1 h.2.2.2.1 he (by omega)]
      obtain ⟨s', e⟩ := e92 h.1 h.2.2.2.2.1 (by rw [h9]; decide)
      refine RES.l hR fun v s9 hv => ?_
      rw [e] at hv
      cases hv
      exact nm1 (by omega)
    · rw [e26 h.1 h.2.2.2.1 (by omega) h.2.2.2.2.1 (hq (by omega)), h9, if_pos (by decide), if_pos rfl]
      obtain ⟨s2, a1, a2⟩ := x88 h hj
      rw [a1]
      simp only [bu_some]
      rcases a2 with ⟨a2, a3⟩ | ⟨a2, a3, a4, a5⟩
      · exact RES.l (hbad a3) fun v s9 hv => wr72 a2 hv
      · have hE := (cOk_b hj a3).2.2.2.2
        obtain ⟨s3, c1, c2⟩ := go72 (n := n) (q := q) a5 hE (by have := hq (by omega); omega)
        rw [c1]
        exact hgood a2 a3 a4 n s3 c2
set_option maxRecDepth 100000 in
/-- the other end of a range is wanted -/
theorem goG {j q n : Nat} {m : NN} {R : Nat ⊕ (List Fw × List NN)} (h : XG s b t ns j F [m]) (hj : j ≤ t.length) (h4 : m.2.1 0 = 4) (hn : m.2.2 = []) (h7n : 0 ≤ (m.2.1 7).toInt ∧ (m.2.1 7).toInt ≤ 3) (hq : j < t.length → q < 512) (hbad : ¬ cOk t j ∨ bad (t.getD (cE t j) 0) → ∃ p, R = .inl p) (hgood : cOk t j → ¬ bad (t.getD (cE t j) 0) → ∀ n s2, XI s2 b t ns (skS t (cE t j)) F [rgN m (Int32.ofNat (cW t j)) (Int32.ofNat (cK t j).2.1) (Int32.ofNat (cFl t j))] 0 0 → RES b R (dm63_26 n (Int32.ofNat (q + 1)) s2)) : RES b R (dm63_26 n (Int32.ofNat q) s) := by
  cases n with
  | zero => exact RES.z
  | succ n =>
    have hl := h.1.1.2.1
    have h9 : sI s 106 9 = 3 := h.2.2.2.2.2.1
    by_cases he : t.length ≤ j
    · have hR := hbad (Or.inl fun z => by have := (cOk_b hj z).2.2.2; omega)
      rw [e80 h.1 h.2.2.2.1 he (by omega)]
      obtain ⟨s', e⟩ := e92 h.1 h.2.2.2.2.1 (by rw [h9]; decide)
      refine RES.l hR fun v s9 hv => ?_
      rw [e] at hv
      cases hv
      exact nm1 (by omega)
    · rw [e26 h.1 h.2.2.2.1 (by omega) h.2.2.2.2.1 (hq (by omega)), h9, if_pos (by decide), if_neg (by decide), if_pos rfl]
      obtain ⟨s2, a1, a2⟩ := x99 h hj h4 hn h7n
      rw [a1]
      simp only [bu_some]
      rcases a2 with ⟨a2, a3⟩ | ⟨a3, a4, a5⟩
      · exact RES.l (hbad a3) fun v s9 hv => wr72 a2 hv
      · have hE := (cOk_b hj a3).2.2.2.2
        obtain ⟨s3, c1, c2⟩ := go72 (n := n) (q := q) a5 hE (by have := hq (by omega); omega)
        rw [c1]
        exact hgood a3 a4 n s3 c2
def IV (t : List Int32) (ns : List (List Int32)) (z : St) : Prop := z.1 ≤ t.length ∧ MI ns z.2.1 z.2.2.1 ∧ (z.2.2.1 = [] → z.2.2.2.2 = 0 ∧ frI z.2.2.2.1 z.2.1) ∧ (z.2.2.1 ≠ [] → z.2.2.2.1 = 0) ∧ (z.2.2.2.2 = 1 → ∃ n, z.2.2.1 = [n] ∧ n.2.1 0 = 4 ∧ n.2.2 = [])
set_option maxRecDepth 100000 in
theorem IV.of {j : Nat} {bb : Bool} {z : St} (h1 : stOk t j bb (.inr z)) (h2 : gdX ns (.inr z)) (h3 : goX (.inr z)) : IV t ns z := by
  obtain ⟨a1, a2, a3, a4, a5, a6⟩ := h1
  refine ⟨a2, h2, fun q => ⟨(a5 (by rw [q]; rfl)).1, h3.1 q⟩, fun q => a4 (nE_of fun y => q (emp_iff.mp y)), fun q => ?_⟩
  obtain ⟨n, n1, n2⟩ := a6 q
  exact ⟨n, n1, n2, h3.2 q n (by rw [n1]; exact List.mem_singleton.mpr rfl)⟩
set_option maxRecDepth 100000 in
theorem mOpd_f {t : List Int32} {ns : List (List Int32)} {F : List Fw} {i : Nat} {fr : Int32} (ho : okT t) (hi : i < t.length) (hno : ¬ ((t.getD i 0 = 41 ∨ t.getD i 0 = 44) ∧ ¬ fr = 0 ∧ ¬ (t.getD i 0 = 41 ∧ fr = 1))) : stOk t i false (mOpd t ns i F fr) := by
  unfold mOpd
  by_cases c1 : t.getD i 0 = 43
  · rw [if_pos c1]
    exact stOk.emp (by omega) hi (by decide)
  · rw [if_neg c1]
    by_cases c2 : t.getD i 0 = 45
    · rw [if_pos c2]
      by_cases g : (fl F).length = 128
      · rw [if_pos g]
        exact Nat.le_of_lt hi
      · rw [if_neg g]
        exact stOk.emp (by omega) hi (by decide)
    · rw [if_neg c2]
      by_cases c3 : t.getD i 0 = 40
      · rw [if_pos c3]
        by_cases g : nO F = 32
        · rw [if_pos g]
          exact Nat.le_of_lt hi
        · rw [if_neg g]
          exact stOk.emp (by omega) hi (by decide)
      · rw [if_neg c3]
        by_cases c4 : t.getD i 0 = 41 ∧ fr = 1
        · rw [if_pos c4]
          cases F with
          | nil => exact Nat.le_of_lt hi
          | cons f F0 => exact stOk.cur (by omega) hi rfl
        · rw [if_neg c4, if_neg (fun c5 => hno ⟨c5.1, fun z => c5.2 (by rw [z]; decide), c4⟩)]
          unfold mPrim
          by_cases g : b01 (prB (t.getD i 0)) = 0 ∨ (fl F).length = 128
          · rw [if_pos g]
            exact Nat.le_of_lt hi
          · rw [if_neg g]
            exact mTok_ok ho hi (Classical.byContradiction fun q => g (Or.inl (b01_ne.mpr q)))
set_option maxRecDepth 100000 in
theorem sim : ∀ (m : Nat) (z : St) (q n : Nat) (s : aS), XI s b t ns (skS t z.1) z.2.1 z.2.2.1 z.2.2.2.1 z.2.2.2.2 → IV t ns z → muS t z ≤ m → q + 2 * (t.length - skS t z.1) ≤ 512 → RES b (mRun t ns (m + 1) z) (dm63_26 n (Int32.ofNat q) s) := by
  intro m
  induction m using Nat.strongRecOn with
  | _ m ih =>
    rintro ⟨i0, F, cur, fr, lc⟩ q n s h hI hm hq
    obtain ⟨hi0, hMI, hE, hN, hL⟩ := hI
    have h : XI s b t ns (skS t i0) F cur fr lc := h
    have hi0 : i0 ≤ t.length := hi0
    have hMI : MI ns F cur := hMI
    have hE : cur = [] → lc = 0 ∧ frI fr F := hE
    have hN : cur ≠ [] → fr = 0 := hN
    have hL : lc = 1 → ∃ n, cur = [n] ∧ n.2.1 0 = 4 ∧ n.2.2 = [] := hL
    have hq : q + 2 * (t.length - skS t i0) ≤ 512 := hq
    have hm : 2 * (t.length - i0) + (if cur.isEmpty = true then 1 else 0) ≤ m := hm
    cases n with
    | zero => exact RES.z
    | succ n =>
      have hl := h.1.1.2.1
      have hok := h.1.1.2.2.1
      have hns := h.1.2.2.2.1
      have hsk := sk_b hi0
      obtain ⟨j, hj⟩ : ∃ j, j = skS t i0 := ⟨_, rfl⟩
      rw [← hj] at h hq hsk
      have hR : mRun t ns (m + 1) (i0, F, cur, fr, lc) = if t.length ≤ j then (if cur.isEmpty = true ∨ ¬ nO F = 0 then .inl t.length else .inr (F, cur)) else nxR t ns m (if cur.isEmpty = true then mOpd t ns j F fr else mBeh t j F cur lc) := by
        rw [mRun]
        show (if t.length ≤ skS t i0 then _ else _) = _
        rw [← hj]
        rfl
      rw [hR]
      by_cases he : t.length ≤ j
      · rw [if_pos he, e80 h.1 h.2.2.2.1 he (by omega)]
        by_cases hc : cur = []
        · rw [if_pos (Or.inl (emp_iff.mpr hc))]
          obtain ⟨s', e⟩ := e92 h.1 h.2.2.2.2.1 (by
            rw [h.2.2.2.2.2.1, hc]
            unfold wn
            rw [if_pos (show ([] : List NN).isEmpty = true from rfl)]
            split <;> decide)
          refine RES.l ⟨_, rfl⟩ fun v s9 hv => ?_
          rw [e] at hv
          cases hv
          exact nm1 (by omega)
        · have hw : ¬ sI s 106 9 < 4 := by
            rw [h.2.2.2.2.2.1]
            unfold wn
            rw [if_neg (fun z => hc (emp_iff.mp z))]
            split <;> decide
          unfold dm63_80
          rw [if_pos h.2.2.2.2.1, if_neg hw, x82 h.2.2.1, bO_len]
          simp only [bu_some]
          have hO32 := h.2.2.1.2.2.1
          rw [bO_len] at hO32
          by_cases hO : nO F = 0
          · rw [if_neg (fun z => z.elim (fun y => hc (emp_iff.mp y)) (fun y => y hO)), if_pos (by rw [hO]; decide)]
            intro v s9 hv
            have hv := Option.some.inj hv
            have e1 : v = sI s 106 8 := (congrArg Prod.fst hv).symm
            have e2 : s9 = s := (congrArg Prod.snd hv).symm
            rw [e1, e2]
            exact ⟨h.2.2.2.2.1, h.2.1.up (by omega)⟩
          · rw [if_pos (Or.inr hO), if_neg (fun z => by have := (nle_iff (b := 0) (by omega) (by omega)).mp z; omega)]
            unfold dm63_92
            rw [x28 h.1]
            simp only [bu_some, nx_eq]
            refine RES.l ⟨_, rfl⟩ fun v s9 hv => ?_
            rw [sI_wI, if_pos ⟨rfl, rfl⟩] at hv
            cases hv
            exact nm1 (by omega)
      · rw [if_neg he]
        have hjl : j < t.length := by omega
        have hq5 : q < 512 := by omega
        rw [e26 h.1 h.2.2.2.1 hjl h.2.2.2.2.1 hq5]
        -- the next state of both
        have next : ∀ (z : St) (s2 : aS) (m2 : Nat), XI s2 b t ns z.1 z.2.1 z.2.2.1 z.2.2.2.1 z.2.2.2.2 → IV t ns z → j < z.1 → m2 + 1 ≤ m → 2 * (t.length - z.1) + 1 ≤ m2 → RES b (mRun t ns (m2 + 1) z) (dm63_72 (dm63_26 n) (Int32.ofNat q) s2) := by
          intro z s2 m2 hx hz hjz hm2 hmu
          obtain ⟨s3, c1, c2⟩ := go72 (n := n) (q := q) hx hz.1 (by omega)
          rw [c1]
          have hz1 := hz.1
          have := sk_b hz1
          refine ih m2 (by omega) z (q + 1) n s3 c2 hz ?_ (by omega)
          unfold muS
          split <;> omega
        by_cases hc : cur = []
        · subst hc
          obtain ⟨hlc, hfr⟩ := hE rfl
          subst hlc
          have hm : 2 * (t.length - i0) + 1 ≤ m := hm
          have hw : sI s 106 9 = if fr = 0 then 1 else 0 := h.2.2.2.2.2.1
          rw [if_pos (show sI s 106 9 < 4 by rw [hw]; split <;> decide), if_neg (show ¬ sI s 106 9 = 2 by rw [hw]; split <;> decide), if_neg (show ¬ sI s 106 9 = 3 by rw [hw]; split <;> decide)]
          show RES b (nxR t ns m (mOpd t ns j F fr)) _
          have hF := hMI.1
          have hfr1 : fr = 1 → ∃ f F0, F = f :: F0 ∧ f.1 = 7 := fun z => by
            rcases hfr with y | ⟨-, f, F0, y1, y2, -⟩ | ⟨y, -⟩
            · rw [z] at y
              exact absurd y (by decide)
            · exact ⟨f, F0, y1, y2⟩
            · rw [z] at y
              exact absurd y (by decide)
          by_cases hno : (t.getD j 0 = 41 ∨ t.getD j 0 = 44) ∧ ¬ fr = 0 ∧ ¬ (t.getD j 0 = 41 ∧ fr = 1)
          · -- an argument that is nothing
            have hfl := flC_len F
            have h0 : ¬ fr ≤ 0 := by
              rcases hfr with z | ⟨z, -⟩ | ⟨z, -⟩
              · exact absurd z hno.2.1
              · rw [z]; decide
              · rw [z]; decide
            have n43 : ¬ t.getD j 0 = 43 := fun z => by rcases hno.1 with y | y <;> rw [z] at y <;> exact absurd y (by decide)
            have n45 : ¬ t.getD j 0 = 45 := fun z => by rcases hno.1 with y | y <;> rw [z] at y <;> exact absurd y (by decide)
            have n40 : ¬ t.getD j 0 = 40 := fun z => by rcases hno.1 with y | y <;> rw [z] at y <;> exact absurd y (by decide)
            have n32 : ¬ t.getD j 0 = 32 := fun z => by rcases hno.1 with y | y <;> rw [z] at y <;> exact absurd y (by decide)
            have eM : mOpd t ns j F fr = if (fl F).length = 128 then .inl j else .inr (j, F, [((fl F).length, plF 8 0, [])], 0, 0) := by
              unfold mOpd
              rw [if_neg n43, if_neg n45, if_neg n40, if_neg hno.2.2, if_pos ⟨hno.1, h0⟩]
            have eD : ∃ v, ((t.getD j 0 = 41 ∧ v = 1) ∨ (t.getD j 0 = 44 ∧ v = (0 : Int32))) ∧ dm103 (t.getD j (-1)) s = bu (dm119 v s) fun s3 => some s3 := by
              rw [gd_in hjl]
              rcases hno.1 with y | y
              · refine ⟨1, Or.inl ⟨y, rfl⟩, ?_⟩
                unfold dm103 dm103_44
                rw [y]
                rfl
              · refine ⟨0, Or.inr ⟨y, rfl⟩, ?_⟩
                unfold dm103 dm103_44
                rw [y]
                rfl
            obtain ⟨v, hv, eD⟩ := eD
            obtain ⟨s2, a1, a2⟩ := x119 (c := t.getD j 0) (v := v) h hF hfr hjl rfl hv
            rw [eD, a1]
            simp only [bu_some]
            rcases a2 with ⟨a2, -⟩ | ⟨a2, a3, -⟩ | ⟨-, -, a2⟩
            · exact absurd a2 hno.2.1
            · exact absurd ⟨a2, a3⟩ hno.2.2
            · rcases a2 with ⟨a2, a3⟩ | ⟨a2, a3⟩
              · rw [eM, if_pos (by omega)]
                exact RES.l ⟨_, rfl⟩ fun v s9 hv => wr72 a3 hv
              · rw [eM, if_neg (by omega)]
                obtain ⟨m2, rfl⟩ : ∃ k, m = k + 2 := ⟨m - 2, by omega⟩
                have e2 : nxR t ns (m2 + 2) (.inr (j, F, [((fl F).length, plF 8 0, [])], 0, 0)) = nxR t ns (m2 + 1) (mBeh t j F [((fl F).length, plF 8 0, [])] 0) := by
                  show mRun t ns (m2 + 1 + 1) (j, F, [((fl F).length, plF 8 0, [])], 0, 0) = _
                  rw [mRun]
                  show (if t.length ≤ skS t j then _ else _) = _
                  rw [sk_n n32, if_neg (by omega)]
                  rfl
                rw [e2]
                rcases a3 with ⟨a3, p, a4⟩ | ⟨z, a3, a4⟩
                · rw [a4]
                  exact RES.l ⟨_, rfl⟩ fun v s9 hv => wr72 a3 hv
                · have hg8 : gdN ns ((fl F).length, plF 8 0, []) := gd_leaf (by decide) (by decide) (by decide) (Nat.zero_le _) (fun y hy => (by cases hy))
                  have hs := mBeh_ok (t := t) (F := F) (i := j) (lc := 0) (cur := [((fl F).length, plF 8 0, [])]) hjl (fun z => by cases z)
                  have hg := mBeh_gd (t := t) (ns := ns) (F := F) (i := j) (lc := 0) (cur := [((fl F).length, plF 8 0, [])]) ⟨hF, fun n hn => by rw [List.mem_singleton.mp hn]; exact hg8⟩ hjl (fun z => absurd z (by decide))
                  have hx := mBeh_x (t := t) (i := j) (F := F) (lc := 0) (cur := [((fl F).length, plF 8 0, [])]) (fun z => by cases z)
                  rw [a3] at hs hg hx ⊢
                  have hjz : j < z.1 := by
                    have := hs.1
                    by_cases y : z.1 = j
                    · have := (hs.2.2.1 y).1
                      cases this
                    · omega
                  exact next z s2 m2 a4 (IV.of hs hg hx) hjz (by omega) (by omega)
          · obtain ⟨s2, a1, a2⟩ := x103 h hF hfr hjl hno
            have hs := mOpd_f (t := t) (ns := ns) (F := F) (i := j) (fr := fr) hok hjl hno
            have hg := mOpd_gd (t := t) (ns := ns) (F := F) (i := j) (fr := fr) hns hl hok hF hjl hfr1
            have hx := mOpd_x (t := t) (ns := ns) (F := F) (i := j) (fr := fr)
            obtain ⟨X, hX⟩ : ∃ X, X = mOpd t ns j F fr := ⟨_, rfl⟩
            rw [← hX] at hs hg hx a2 ⊢
            rw [a1]
            simp only [bu_some]
            obtain ⟨m2, rfl⟩ : ∃ k, m = k + 1 := ⟨m - 1, by omega⟩
            rcases a2 with ⟨a2, a3⟩ | ⟨z, a2, a3⟩ | ⟨j2, x, a2, a3, a4, a5⟩ | ⟨e, nd, a2, a3, a4, a5⟩
            · exact RES.l (dead_l a3 _) fun v s9 hv => wr72 a2 hv
            · subst a2
              have hjz : j < z.1 := by
                have := hs.1
                by_cases y : z.1 = j
                · have := (hs.2.2.1 y).1
                  cases this
                · omega
              exact next z s2 m2 a3 (IV.of hs hg hx) hjz (by omega) (by omega)
            · have h2 : dm63_72 (dm63_26 n) (Int32.ofNat q) s2 = dm63_26 n (Int32.ofNat (q + 1)) s2 := by
                unfold dm63_72 dm63_78
                rw [if_pos a2.2.2.2.2.2.1, ofNat_succ (by omega)]
              rw [h2]
              rcases a5 with ⟨a5, a6⟩ | ⟨a5, a6⟩
              · subst a5
                refine goR a2 a4 (fun _ => by omega) (fun y => ?_) (fun y1 y2 y3 n2 s3 y4 => ?_)
                · refine dead_l ?_ _
                  unfold mCell
                  rcases y with y | y | y
                  · omega
                  · rw [if_pos (b01_ne.mpr y)]
                    exact dead.l
                  · by_cases ho : cOk t j2
                    · rw [if_neg (fun w => b01_ne.mp w ho)]
                      exact Or.inr ⟨_, _, _, _, rfl, y⟩
                    · rw [if_pos (b01_ne.mpr ho)]
                      exact dead.l
                · have eC : mCell t F (fl F).length x j2 = .inr (cE t j2, F, [((fl F).length, clD x (Int32.ofNat (cW t j2)) (Int32.ofNat (cK t j2).2.1) (Int32.ofNat (cFl t j2)), [])], 0, 1) := by
                    unfold mCell
                    rw [if_neg (fun w => b01_ne.mp w y2)]
                  have hEb := (cOk_b a4 y2).2.2.2
                  rw [eC] at hs hg hx ⊢
                  have hIv := IV.of hs hg hx
                  show RES b (mRun t ns (m2 + 1) _) _
                  have hsE := sk_b hEb.2
                  refine ih m2 (by omega) _ (q + 1 + 1) n2 s3 y4 hIv ?_ ?_
                  · show 2 * (t.length - cE t j2) + (if ([((fl F).length, clD x (Int32.ofNat (cW t j2)) (Int32.ofNat (cK t j2).2.1) (Int32.ofNat (cFl t j2)), [])] : List NN).isEmpty = true then 1 else 0) ≤ m2
                    rw [if_neg (show ¬ ([((fl F).length, clD x (Int32.ofNat (cW t j2)) (Int32.ofNat (cK t j2).2.1) (Int32.ofNat (cFl t j2)), [])] : List NN).isEmpty = true from Bool.false_ne_true)]
                    omega
                  · show q + 1 + 1 + 2 * (t.length - skS t (cE t j2)) ≤ 512
                    omega
              · obtain ⟨p, a5⟩ := a5
                subst a5
                refine goR a2 a4 (fun _ => by omega) (fun _ => ⟨p, rfl⟩) (fun y1 y2 y3 n2 s3 y4 => ?_)
                have h36 := (a6.resolve_left (by omega)) y2 y3
                have hEb := (cOk_b a4 y2).2.2.2
                have hin : cE t j2 < t.length := in_of (p := fun x => x = 36) (d := 0) (by decide) h36
                rw [sk_n (by rw [h36]; decide)] at y4
                exact goB y4 hF (fun z => by cases z) hin (by omega) h36 ⟨p, rfl⟩
            · obtain ⟨p, a5⟩ := a5
              subst a5
              have hin : e < t.length := in_of (p := fun x => x = 36) (d := 0) (by decide) a4
              obtain ⟨s3, c1, c2⟩ := go72 (n := n) (q := q) a2 a3 (by omega)
              rw [c1]
              rw [sk_n (by rw [a4]; decide)] at c2
              exact goB c2 hF (fun z => by cases z) hin (by omega) a4 ⟨p, rfl⟩
        · have hfr := hN hc
          subst hfr
          have hce : cur.isEmpty = false := nE_of (fun y => hc (emp_iff.mp y))
          have hw : ¬ sI s 106 9 < 4 := by
            rw [h.2.2.2.2.2.1]
            unfold wn
            rw [hce, if_neg (by decide)]
            split <;> decide
          have hm : 2 * (t.length - i0) ≤ m := by
            have hm : 2 * (t.length - i0) + (if cur.isEmpty = true then 1 else 0) ≤ m := hm
            rw [hce, if_neg (show ¬ false = true from Bool.false_ne_true)] at hm
            omega
          rw [if_neg hw, if_neg (by rw [hce]; decide)]
          have hF := hMI.1
          obtain ⟨s2, a1, a2⟩ := x68 h hF hc hjl
          have hlc4 : lc = 1 → ∃ n, cur = [n] ∧ n.2.1 0 = 4 := fun y => by
            obtain ⟨n, n1, n2, -⟩ := hL y
            exact ⟨n, n1, n2⟩
          have hs := mBeh_ok (t := t) (F := F) (i := j) (lc := lc) (cur := cur) hjl hc
          have hg := mBeh_gd (t := t) (ns := ns) (F := F) (i := j) (lc := lc) (cur := cur) hMI hjl hlc4
          have hx := mBeh_x (t := t) (i := j) (F := F) (lc := lc) (cur := cur) hc
          rw [a1]
          simp only [bu_some]
          obtain ⟨m2, rfl⟩ : ∃ k, m = k + 1 := ⟨m - 1, by omega⟩
          rcases a2 with ⟨a2, p, a3⟩ | ⟨z, a2, a3⟩ | ⟨a2, a3, a4⟩
          · rw [a3]
            exact RES.l ⟨p, rfl⟩ fun v s9 hv => wr72 a2 hv
          · rw [a2] at hs hg hx ⊢
            have hjz : j < z.1 := by
              have := hs.1
              by_cases y : z.1 = j
              · have := (hs.2.2.1 y).1
                cases this
              · omega
            exact next z s2 m2 a3 (IV.of hs hg hx) hjz (by omega) (by omega)
          · obtain ⟨nd, n1, n2, n3⟩ := hL a3
            subst n1
            have hjs := sk_b (t := t) (i := j + 1) (by omega)
            obtain ⟨K, T, B, h7, h8, h9, h10⟩ := a4
            have hb := xb K
            obtain ⟨s3, c1, c2, c3⟩ := x67 K (show j + 1 ≤ t.length by omega) h7
            have h2 : dm63_72 (dm63_26 n) (Int32.ofNat q) s2 = dm63_26 n (Int32.ofNat (q + 1)) s3 := by
              unfold dm63_72 dm63_78
              rw [if_neg (by rw [h9]; decide), c1]
              simp only [bu_some]
              rw [ofNat_succ (by omega)]
            have hG : XG s3 b t ns (skS t (j + 1)) F [nd] := ⟨K.of (b := b) (c3.mono fun a k z => a7C z), (trM T hb c3 (fun a k z => by unfold a7 at z; omega)).up hjs.1, B.of c3 (fun a k z => by unfold a7 at z; omega), c2, (c3.i (by unfold a7; omega)).trans h8, (c3.i (by unfold a7; omega)).trans h9, (c3.i (by unfold a7; omega)).trans h10⟩
            rw [h2]
            have eM : mBeh t j F [nd] lc = if b01 (cOk t (skS t (j + 1))) = 0 then .inl (cB t (skS t (j + 1))) else .inr (cE t (skS t (j + 1)), F, [rgN nd (Int32.ofNat (cW t (skS t (j + 1)))) (Int32.ofNat (cK t (skS t (j + 1))).2.1) (Int32.ofNat (cFl t (skS t (j + 1))))], 0, 0) := by
              unfold mBeh
              rw [if_pos ⟨a2, a3⟩]
            have hnd := hMI.2 nd (List.mem_singleton.mpr rfl)
            refine goG hG hjs.2 n2 n3 ⟨hnd.1.2.1.1, hnd.2.2.2.1 n2⟩ (fun _ => by omega) (fun y => ?_) (fun y2 y3 n9 s4 y4 => ?_)
            · refine dead_l ?_ _
              rw [eM]
              rcases y with y | y
              · rw [if_pos (b01_ne.mpr y)]
                exact dead.l
              · by_cases ho : cOk t (skS t (j + 1))
                · rw [if_neg (fun w => b01_ne.mp w ho)]
                  exact Or.inr ⟨_, _, _, _, rfl, y⟩
                · rw [if_pos (b01_ne.mpr ho)]
                  exact dead.l
            · rw [eM, if_neg (fun w => b01_ne.mp w y2)] at hs hg hx ⊢
              have hEb := (cOk_b hjs.2 y2).2.2.2
              have hIv := IV.of hs hg hx
              have hsE := sk_b hEb.2
              show RES b (mRun t ns (m2 + 1) _) _
              refine ih m2 (by omega) _ (q + 1 + 1) n9 s4 y4 hIv ?_ ?_
              · show 2 * (t.length - cE t (skS t (j + 1))) + (if ([rgN nd (Int32.ofNat (cW t (skS t (j + 1)))) (Int32.ofNat (cK t (skS t (j + 1))).2.1) (Int32.ofNat (cFl t (skS t (j + 1))))] : List NN).isEmpty = true then 1 else 0) ≤ m2
                rw [if_neg (show ¬ ([rgN nd (Int32.ofNat (cW t (skS t (j + 1)))) (Int32.ofNat (cK t (skS t (j + 1))).2.1) (Int32.ofNat (cFl t (skS t (j + 1))))] : List NN).isEmpty = true from Bool.false_ne_true)]
                omega
              · show q + 1 + 1 + 2 * (t.length - skS t (cE t (skS t (j + 1)))) ≤ 512
                omega
end XX
end
section
/-! read in FormulaTrees is the reference's, but for where a text is wrong -/
set_option maxRecDepth 100000 in
theorem mRun_o {t : List Int32} {ns : List (List Int32)} : ∀ (m : Nat) (z : St) (q : List Fw × List NN), mRun t ns m z = .inr q → nO q.1 = 0
  | 0, z, q, h => by cases h
  | m + 1, z, q, h => by
    rw [mRun] at h
    split at h
    · split at h
      · cases h
      · rename_i c
        cases h
        exact Classical.byContradiction fun y => c (Or.inr y)
    · split at h
      · cases h
      · exact mRun_o m _ q h
section XX
variable {s : aS} {b : Nat} {t : List Int32} {ns : List (List Int32)}
set_option maxRecDepth 100000 in
theorem rdC {v : Int32} {s' : aS} (hT : LT s 79 t) (hl : t.length ≤ 256) (hok : okT t) (hS : SC s ns) (hn : nsOk ns) (hP : KP s b) (he : dm63 b s = some (v, s')) : match mRd t ns with
    | .inl _ => v ≠ -1
    | .inr L => v = -1 ∧ TR s' b 256 L := by
  obtain ⟨p1, p2, p3, p4, ⟨p5, p6, p7, p8⟩, -, m, m1, m2⟩ := hP
  let s0 := wR s 106 6 (.ref b)
  have h0 : KS s0 b t ns := ⟨⟨hT, hl, hok, p5⟩, ⟨sR_at s b, p1, p2, p3, p4⟩, hS, hn, p6, p7, p8⟩
  unfold dm63 dm64 dm65 dm66 dm26 at he
  simp only [nx_eq] at he
  rw [sR_at, vN_ref, if_pos (show aK (wR s 106 6 (.ref b)) b 3 from p1)] at he
  simp only [bu_some] at he
  let sa := wI (wI s0 b 2 0) (b + 2) 1 0
  have ea : sI sa 110 2 = Int32.ofNat m := by
    show sI (wI (wI s0 b 2 0) (b + 2) 1 0) 110 2 = _
    rw [sI_wI, if_neg (by omega), sI_wI, if_neg (by omega)]
    exact m2
  obtain ⟨sb, cb, eb2, eb3⟩ : ∃ sb, ((if (0 : Int32) < 0 then some sa else if sI sa 110 2 ≤ 0 then some sa else some (wI sa 110 2 0)) = some sb) ∧ sI sb 110 2 = Int32.ofNat 0 ∧ ch (fun a k => a = 110 ∧ k = 2) sa sb := by
    rw [if_neg (by decide), ea]
    by_cases c : m = 0
    · subst c
      rw [if_pos (by decide)]
      exact ⟨sa, rfl, ea, ch.refl _ sa⟩
    · rw [if_neg (fun z => by have := (nle_iff (b := 0) (by omega) (by omega)).mp z; omega)]
      exact ⟨_, rfl, by rw [sI_wI, if_pos ⟨rfl, rfl⟩]; rfl, (ch.refl _ sa).wI ⟨rfl, rfl⟩⟩
  have he : bu (if (0 : Int32) < 0 then some sa else if sI sa 110 2 ≤ 0 then some sa else some (wI sa 110 2 0)) (fun s15 => bu (dm67 (wI (wI (wI (wI s15 113 3 0) 106 7 0) 106 8 (-1)) 106 9 1)) fun s40 => dm63_26 5000 0 s40) = some (v, s') := he
  rw [cb] at he
  simp only [bu_some] at he
  let sc := wI (wI (wI (wI sb 113 3 0) 106 7 0) 106 8 (-1)) 106 9 1
  have cc : ch (fun a k => (a = 113 ∧ k = 3) ∨ (a = 106 ∧ 7 ≤ k)) sb sc := ((((ch.refl (fun a k => (a = 113 ∧ k = 3) ∨ (a = 106 ∧ 7 ≤ k)) sb).wI (Or.inl ⟨rfl, rfl⟩)).wI (Or.inr ⟨rfl, by omega⟩)).wI (Or.inr ⟨rfl, by omega⟩)).wI (Or.inr ⟨rfl, by omega⟩)
  have cab : ch (AC b) s0 sc := ((((ch.refl (AC b) s0).wI (by unfold AC; omega)).wI (by unfold AC; omega)).trans (eb3.mono fun a k z => by unfold AC; omega)).trans (cc.mono fun a k z => by unfold AC; omega)
  have Kc := h0.of cab
  have eN : sI sc b 2 = Int32.ofNat 0 := by
    rw [cc.i (by omega), eb3.i (by omega)]
    show sI (wI (wI s0 b 2 0) (b + 2) 1 0) b 2 = _
    rw [sI_wI, if_neg (by omega), sI_wI, if_pos ⟨rfl, rfl⟩]
    rfl
  have eU : sI sc (b + 2) 1 = Int32.ofNat 0 := by
    rw [cc.i (by omega), eb3.i (by omega)]
    show sI (wI (wI s0 b 2 0) (b + 2) 1 0) (b + 2) 1 = _
    rw [sI_wI, if_pos ⟨rfl, rfl⟩]
    rfl
  have e7 : sI sc 106 7 = Int32.ofNat 0 := by
    show sI (wI (wI (wI (wI sb 113 3 0) 106 7 0) 106 8 (-1)) 106 9 1) 106 7 = _
    rw [sI_wI, if_neg (by omega), sI_wI, if_neg (by omega), sI_wI, if_pos ⟨rfl, rfl⟩]
    rfl
  have e8 : sI sc 106 8 = -1 := by
    show sI (wI (wI (wI (wI sb 113 3 0) 106 7 0) 106 8 (-1)) 106 9 1) 106 8 = _
    rw [sI_wI, if_neg (by omega), sI_wI, if_pos ⟨rfl, rfl⟩]
  have e9 : sI sc 106 9 = 1 := by
    show sI (wI (wI (wI (wI sb 113 3 0) 106 7 0) 106 8 (-1)) 106 9 1) 106 9 = _
    rw [sI_wI, if_pos ⟨rfl, rfl⟩]
  have e3 : sI sc 113 3 = Int32.ofNat 0 := by
    show sI (wI (wI (wI (wI sb 113 3 0) 106 7 0) 106 8 (-1)) 106 9 1) 113 3 = _
    rw [sI_wI, if_neg (by omega), sI_wI, if_neg (by omega), sI_wI, if_neg (by omega), sI_wI, if_pos ⟨rfl, rfl⟩]
    rfl
  have e2 : sI sc 110 2 = Int32.ofNat 0 := (cc.i (by omega)).trans eb2
  have Tc : TR sc b 0 [] := ⟨eN, Nat.zero_le _, [], ⟨⟨eU, fun j hj => absurd hj (Nat.not_lt_zero j)⟩, Nat.zero_le _, fun y hy => (by cases hy)⟩, Nat.zero_le _, fun k n hk => (by simp at hk)⟩
  obtain ⟨s1, d1, d2, d3⟩ := x67 Kc (Nat.zero_le _) e7
  have he : bu (dm67 sc) (fun s40 => dm63_26 5000 0 s40) = some (v, s') := he
  rw [d1] at he
  simp only [bu_some] at he
  have X1 : XI s1 b t ns (skS t 0) [] [] 0 0 := ⟨Kc.of (b := b) (d3.mono fun a k z => a7C z), (trM Tc p2 d3 (fun a k z => by unfold a7 at z; omega)).up (Nat.zero_le _), ⟨⟨(d3.i (by unfold a7; omega)).trans e2, Nat.zero_le _, trivial⟩, (d3.i (by unfold a7; omega)).trans e3, Nat.zero_le _, trivial⟩, d2, (d3.i (by unfold a7; omega)).trans e8, (d3.i (by unfold a7; omega)).trans e9, fun z => absurd rfl z⟩
  have hMI : MI ns [] [] := ⟨fun f hf => (by cases hf), fun n hn => (by cases hn)⟩
  have hIV : IV t ns (0, [], [], 0, 0) := ⟨Nat.zero_le _, hMI, fun _ => ⟨rfl, Or.inl rfl⟩, fun z => absurd rfl z, fun z => absurd z (by decide : ¬ (0 : Nat) = 1)⟩
  have hs := sim (b := b) (ns := ns) 599 (0, [], [], 0, 0) 0 5000 s1 X1 hIV (by
    unfold muS
    show 2 * (t.length - 0) + 1 ≤ 599
    omega) (by
    show 0 + 2 * (t.length - skS t 0) ≤ 512
    omega) v s' he
  unfold mRd
  cases hr : mRun t ns 600 (0, [], [], 0, 0) with
  | inl p =>
    rw [hr] at hs
    exact hs
  | inr q =>
    rw [hr] at hs
    have hs : v = -1 ∧ TR s' b 256 (flC q.1 ++ q.2) := hs
    refine ⟨hs.1, ?_⟩
    have hq := mRun_gd hn hl hok 600 (0, [], [], 0, 0) q (Nat.zero_le _) (fun _ => ⟨rfl, fun z => absurd z (by decide)⟩) (fun z => absurd z (by decide : ¬ (0 : Nat) = 1)) hMI hr
    have e := rd_fl (x := 0) q.1 q.2 hq.1
    have h0 := mRun_o 600 _ q hr
    rcases rd_in q.1 q.2 with ⟨z1, -⟩ | ⟨f, F0, -, -, -, -, z5⟩
    · rw [z1] at e
      have e : (rdF 0 q.1 q.2).2 = flC q.1 ++ q.2 := e
      show TR s' b 256 (rdF 0 q.1 q.2).2
      rw [e]
      exact hs.2
    · omega
end XX
end
section
/-! letters of nodes through drop, move and shift in FormulaTrees -/
/-- where letters of a node lie: as before, or nowhere (a cell or a range that is lost) -/
def LZ (s s1 : aS) (b i : Nat) (d : Nd) : Prop := (sI s1 (b + 1) (11 * i + 9) = sI s (b + 1) (11 * i + 9) ∧ sI s1 (b + 1) (11 * i + 10) = sI s (b + 1) (11 * i + 10)) ∨ (isRf d ∧ sI s1 (b + 1) (11 * i + 9) = 0 ∧ sI s1 (b + 1) (11 * i + 10) = 0)
set_option maxRecDepth 100000 in
theorem LZ.tr {s s1 s2 : aS} {b i : Nat} {d : Nd} (h : LZ s s1 b i d) (g : LZ s1 s2 b i d) : LZ s s2 b i d := by
  rcases g with g | g
  · rcases h with h | h
    · exact Or.inl ⟨g.1.trans h.1, g.2.trans h.2⟩
    · exact Or.inr ⟨h.1, g.1.trans h.2.1, g.2.trans h.2.2⟩
  · exact Or.inr g
set_option maxRecDepth 100000 in
theorem LZ.rf (s : aS) (b i : Nat) (d : Nd) : LZ s s b i d := Or.inl ⟨rfl, rfl⟩
set_option maxRecDepth 100000 in
theorem LZ.on {s s1 : aS} {b j : Nat} {F : Nat → Nd} (hc : ch (fun a q => a = b + 1 ∧ 11 * j ≤ q ∧ q < 11 * j + 11) s s1) (h : LZ s s1 b j (F j)) (i : Nat) : LZ s s1 b i (F i) := by
  by_cases e : i = j
  · rw [e]
    exact h
  · exact Or.inl ⟨hc.i (by omega), hc.i (by omega)⟩
set_option maxRecDepth 100000 in
theorem NL.lz {s s1 : aS} {b i : Nat} {d : Nd} {u l : List Int32} (h : NL s b i u l) (g : LZ s s1 b i d) (he : isRf d → l = []) : NL s1 b i u l := by
  rcases g with g | g
  · obtain ⟨st, e1, e2, e3⟩ := h
    exact ⟨st, g.1.trans e1, g.2.trans e2, e3⟩
  · rw [he g.1]
    exact ⟨0, g.2.1, g.2.2, Nat.zero_le _, fun j hj => absurd hj (Nat.not_lt_zero j)⟩
set_option maxRecDepth 100000 in
theorem d136x {s : aS} {b N i : Nat} {d : Nd} {t k n : Int32} (hn : sI s b 2 = Int32.ofNat N) (h8 : N ≤ 128) (hi : i < N) (h : CR s b i d) : ∃ s', dm136 b (Int32.ofNat i) t k n s = some (b01 (¬ lastT t < pA (d (wA t)) k n), s') ∧ CR s' b i (setN (setN d (wA t) (pA (d (wA t)) k n)) (wB t) (pB (d (wB t)) k n (lastT t))) ∧ ch (fun a q => a = b + 1 ∧ 11 * i ≤ q ∧ q < 11 * i + 9) s s' := by
  -- the chain with both places named
  have chain : ∀ u v : Nat, u < 9 → v < 9 → (∀ r, (if t = 0 then dm136_16 b (Int32.ofNat i) t k n r b (Int32.ofNat i) 6 s else dm136_16 b (Int32.ofNat i) t k n r b (Int32.ofNat i) 5 s) = dm136_16 b (Int32.ofNat i) t k n r b (Int32.ofNat i) (Int32.ofNat v) s) → (∀ x5 x6, (if t = 0 then dm136_43 b (Int32.ofNat i) t x5 x6 b (Int32.ofNat i) 4 s else dm136_43 b (Int32.ofNat i) t x5 x6 b (Int32.ofNat i) 3 s) = dm136_43 b (Int32.ofNat i) t x5 x6 b (Int32.ofNat i) (Int32.ofNat u) s) → (∀ x5 x6 s1, (if t = 0 then dm136_52 t x5 x6 b (Int32.ofNat i) 6 s1 else dm136_52 t x5 x6 b (Int32.ofNat i) 5 s1) = dm136_52 t x5 x6 b (Int32.ofNat i) (Int32.ofNat v) s1) → u ≠ v → ∃ s', dm136_7 b (Int32.ofNat i) t k n b (Int32.ofNat i) (Int32.ofNat u) s = some (b01 (¬ lastT t < pA (d u) k n), s') ∧ CR s' b i (setN (setN d u (pA (d u) k n)) v (pB (d v) k n (lastT t))) ∧ ch (fun a q => a = b + 1 ∧ 11 * i ≤ q ∧ q < 11 * i + 9) s s' := by
    intro u v hu hv e1 e2 e3 huv
    have n1 : sI (wI s (b + 1) (11 * i + u) (pA (d u) k n)) b 2 = Int32.ofNat N := (sI_wI _ _ _ _ _ _).trans ((if_neg (by omega)).trans hn)
    have h1 : CR (wI s (b + 1) (11 * i + u) (pA (d u) k n)) b i (setN d u (pA (d u) k n)) := h.set (by omega)
    have p52 : dm136_52 t (pA (d u) k n) (pA (d v) k n) b (Int32.ofNat i) (Int32.ofNat v) (wI s (b + 1) (11 * i + u) (pA (d u) k n)) = some (b01 (¬ lastT t < pA (d u) k n), wI (wI s (b + 1) (11 * i + u) (pA (d u) k n)) (b + 1) (11 * i + v) (pB (d v) k n (lastT t))) := by
      unfold dm136_52
      rw [d132]
      simp only [bu_some]
      rw [d60 n1 h8 hi (by omega)]
      simp only [bu_some]
      by_cases q : lastT t < pA (d u) k n
      · rw [if_pos q, b01_f (fun z => z q)]
        rfl
      · rw [if_neg q, b01_t q]
        rfl
    refine ⟨_, ?_, h1.set (by omega), ((ch.refl _ s).wI (by omega)).wI (by omega)⟩
    unfold dm136_7
    rw [CR.f hn h8 hi h hu]
    simp only [bu_some]
    rw [e1]
    unfold dm136_16
    rw [CR.f hn h8 hi h hv]
    simp only [bu_some]
    have p34 : dm136_34 b (Int32.ofNat i) t (pA (d u) k n) (d v) (if d v < k then 0 else n) s = some (b01 (¬ lastT t < pA (d u) k n), wI (wI s (b + 1) (11 * i + u) (pA (d u) k n)) (b + 1) (11 * i + v) (pB (d v) k n (lastT t))) := by
      unfold dm136_34
      have ev : d v + (if d v < k then 0 else n) = pA (d v) k n := by
        unfold pA
        split <;> rfl
      rw [ev, e2]
      unfold dm136_43
      rw [d60 hn h8 hi (by omega)]
      simp only [bu_some]
      rw [e3, p52]
    have p25 : dm136_25 b (Int32.ofNat i) t k n (d v) (d u) (if d u < k then 0 else n) s = some (b01 (¬ lastT t < pA (d u) k n), wI (wI s (b + 1) (11 * i + u) (pA (d u) k n)) (b + 1) (11 * i + v) (pB (d v) k n (lastT t))) := by
      unfold dm136_25
      have eu : d u + (if d u < k then 0 else n) = pA (d u) k n := by
        unfold pA
        split <;> rfl
      rw [eu, ← p34]
      split <;> rfl
    rw [← p25]
    split <;> rfl
  unfold dm136
  by_cases ht : t = 0
  · have eA : wA t = 4 := if_pos ht
    have eB : wB t = 6 := if_pos ht
    rw [if_pos ht, eA, eB]
    exact chain 4 6 (by omega) (by omega) (fun r => by rw [if_pos ht]; rfl) (fun _ _ => by rw [if_pos ht]; rfl) (fun _ _ _ => by rw [if_pos ht]; rfl) (by omega)
  · have eA : wA t = 3 := if_neg ht
    have eB : wB t = 5 := if_neg ht
    rw [if_neg ht, eA, eB]
    exact chain 3 5 (by omega) (by omega) (fun r => by rw [if_neg ht]; rfl) (fun _ _ => by rw [if_neg ht]; rfl) (fun _ _ _ => by rw [if_neg ht]; rfl) (by omega)
set_option maxRecDepth 100000 in
theorem d135x {s : aS} {b N i : Nat} {d : Nd} {t k n : Int32} (hn : sI s b 2 = Int32.ofNat N) (h8 : N ≤ 128) (hi : i < N) (h : CR s b i d) : ∃ s', dm135 b (Int32.ofNat i) t k n s = some (b01 (¬ (¬ d (wA t) < k ∧ d (wB t) < k + n)), s') ∧ CR s' b i (setN (setN d (wA t) (tA (d (wA t)) k n)) (wB t) (tB (d (wB t)) k n)) ∧ ch (fun a q => a = b + 1 ∧ 11 * i ≤ q ∧ q < 11 * i + 9) s s' := by
  have chain : ∀ u v : Nat, u < 9 → v < 9 → (∀ r, (if t = 0 then dm135_16 b (Int32.ofNat i) t k n r b (Int32.ofNat i) 6 s else dm135_16 b (Int32.ofNat i) t k n r b (Int32.ofNat i) 5 s) = dm135_16 b (Int32.ofNat i) t k n r b (Int32.ofNat i) (Int32.ofNat v) s) → (∀ x5 x6 x8, (if t = 0 then dm135_59 b (Int32.ofNat i) t x5 x6 x8 b (Int32.ofNat i) 4 s else dm135_59 b (Int32.ofNat i) t x5 x6 x8 b (Int32.ofNat i) 3 s) = dm135_59 b (Int32.ofNat i) t x5 x6 x8 b (Int32.ofNat i) (Int32.ofNat u) s) → (∀ x6 x8 s1, (if t = 0 then dm135_68 x6 x8 b (Int32.ofNat i) 6 s1 else dm135_68 x6 x8 b (Int32.ofNat i) 5 s1) = dm135_68 x6 x8 b (Int32.ofNat i) (Int32.ofNat v) s1) → ∃ s', dm135_7 b (Int32.ofNat i) t k n b (Int32.ofNat i) (Int32.ofNat u) s = some (b01 (¬ (¬ d u < k ∧ d v < k + n)), s') ∧ CR s' b i (setN (setN d u (tA (d u) k n)) v (tB (d v) k n)) ∧ ch (fun a q => a = b + 1 ∧ 11 * i ≤ q ∧ q < 11 * i + 9) s s' := by
    intro u v hu hv e1 e2 e3
    have n1 : ∀ y, sI (wI s (b + 1) (11 * i + u) y) b 2 = Int32.ofNat N := fun y => (sI_wI _ _ _ _ _ _).trans ((if_neg (by omega)).trans hn)
    have p52 : ∀ x5 x6 x8 : Int32, (x8 = 0 ∨ x8 = 1) → dm135_52 b (Int32.ofNat i) t x5 x6 x8 s = some (x8, wI (wI s (b + 1) (11 * i + u) x5) (b + 1) (11 * i + v) x6) := by
      intro x5 x6 x8 h01
      unfold dm135_52
      rw [e2]
      unfold dm135_59
      rw [d60 hn h8 hi (by omega)]
      simp only [bu_some]
      rw [e3]
      unfold dm135_68
      rw [d60 (n1 _) h8 hi (by omega)]
      simp only [bu_some]
      rw [if_pos h01]
    have p41 : ∀ x5 x8 : Int32, (x8 = 0 ∨ x8 = 1) → dm135_41 b (Int32.ofNat i) t k n x5 (d v) x8 s = some (x8, wI (wI s (b + 1) (11 * i + u) x5) (b + 1) (11 * i + v) (tB (d v) k n)) := by
      intro x5 x8 h01
      unfold dm135_41 tB
      by_cases q : d v < k
      · rw [if_pos q, if_pos q, p52 _ _ _ h01]
      · rw [if_neg q, if_neg q, p52 _ _ _ h01]
    have p31 : ∀ x8 : Int32, (x8 = 0 ∨ x8 = 1) → dm135_31 b (Int32.ofNat i) t k n (d u) (d v) x8 s = some (x8, wI (wI s (b + 1) (11 * i + u) (tA (d u) k n)) (b + 1) (11 * i + v) (tB (d v) k n)) := by
      intro x8 h01
      unfold dm135_31 tA
      by_cases q : d u < k
      · rw [if_pos q, if_pos q, p41 _ _ h01]
      · rw [if_neg q, if_neg q, p41 _ _ h01]
    refine ⟨wI (wI s (b + 1) (11 * i + u) (tA (d u) k n)) (b + 1) (11 * i + v) (tB (d v) k n), ?_, (h.set (by omega)).set (by omega), ((ch.refl _ s).wI (by omega)).wI (by omega)⟩
    unfold dm135_7
    rw [CR.f hn h8 hi h hu]
    simp only [bu_some]
    rw [e1]
    unfold dm135_16 dm135_28
    rw [CR.f hn h8 hi h hv]
    simp only [bu_some]
    rw [p31 1 (Or.inr rfl), p31 0 (Or.inl rfl)]
    by_cases q1 : d u < k
    · rw [if_pos q1, b01_t]
      exact fun z => z.1 q1
    · rw [if_neg q1]
      by_cases q2 : d v < k + n
      · rw [if_pos q2, b01_f]
        exact fun z => z ⟨q1, q2⟩
      · rw [if_neg q2, b01_t]
        exact fun z => q2 z.2
  unfold dm135
  by_cases ht : t = 0
  · have eA : wA t = 4 := if_pos ht
    have eB : wB t = 6 := if_pos ht
    rw [if_pos ht, eA, eB]
    exact chain 4 6 (by omega) (by omega) (fun r => by rw [if_pos ht]; rfl) (fun _ _ _ => by rw [if_pos ht]; rfl) (fun _ _ _ => by rw [if_pos ht]; rfl)
  · have eA : wA t = 3 := if_neg ht
    have eB : wB t = 5 := if_neg ht
    rw [if_neg ht, eA, eB]
    exact chain 3 5 (by omega) (by omega) (fun r => by rw [if_neg ht]; rfl) (fun _ _ _ => by rw [if_neg ht]; rfl) (fun _ _ _ => by rw [if_neg ht]; rfl)
set_option maxRecDepth 100000 in
theorem d134y {s : aS} {b N i : Nat} {d : Nd} {x y t k n c : Int32} {k4 : Nat → Int32 → Int32 → Int32 → Int32 → Int32 → Int32 → Int32 → aS → Option (Int32 × aS)} (hn : sI s b 2 = Int32.ofNat N) (h8 : N ≤ 128) (hi : i < N) (h : CR s b i d) (hf : isRf d) : ∃ s', dm134_25 k4 b x y t k n c (Int32.ofNat i) s = k4 b x y t k n (shK t k n d c) (Int32.ofNat (i + 1)) s' ∧ CR s' b i (shN t k n d) ∧ ch (fun a q => a = b + 1 ∧ 11 * i ≤ q ∧ q < 11 * i + 11) s s' ∧ LZ s s' b i d := by
  have fin : ∀ (s1 : aS) (e : Nd) (p : Prop), CR s1 b i e → ch (fun a q => a = b + 1 ∧ 11 * i ≤ q ∧ q < 11 * i + 9) s s1 → ∃ s', dm134_41 k4 b x y t k n c (Int32.ofNat i) (b01 p) s1 = k4 b x y t k n (if b01 p = 0 then c + 1 else c) (Int32.ofNat (i + 1)) s' ∧ CR s' b i (if b01 p = 0 then loF else e) ∧ ch (fun a q => a = b + 1 ∧ 11 * i ≤ q ∧ q < 11 * i + 11) s s' ∧ LZ s s' b i d := by
    intro s1 e p h1 hc
    unfold dm134_41 dm134_48
    rw [ofNat_succ (by omega)]
    by_cases q : b01 p = 0
    · rw [if_pos q, if_pos q, if_pos q]
      obtain ⟨s', g1, g2, g3⟩ := d58 ((hc.i (by omega)).trans hn) h8 hi
      rw [g1]
      exact ⟨s', rfl, fun w hw => g2 w (by omega), (hc.mono fun a q z => by omega).trans g3, Or.inr ⟨hf, g2 9 (by omega), g2 10 (by omega)⟩⟩
    · rw [if_neg q, if_neg q, if_neg q]
      exact ⟨s1, rfl, h1, hc.mono fun a q z => (by omega), Or.inl ⟨hc.i (by omega), hc.i (by omega)⟩⟩
  unfold dm134_25 shK shN
  by_cases q : 0 ≤ n
  · rw [if_pos q, if_pos q, if_pos q]
    obtain ⟨s1, g1, g2, g3⟩ := d136x (t := t) (k := k) (n := n) hn h8 hi h
    rw [g1]
    simp only [bv_some]
    exact fin s1 _ _ g2 g3
  · rw [if_neg q, if_neg q, if_neg q]
    obtain ⟨s1, g1, g2, g3⟩ := d135x (t := t) (k := k) (n := -n) hn h8 hi h
    rw [g1]
    simp only [bv_some]
    exact fin s1 _ _ g2 g3
set_option maxRecDepth 100000 in
theorem d130y {s : aS} {b n i : Nat} {d : Nd} {r c : Int32} (hn : sI s b 2 = Int32.ofNat n) (h8 : n ≤ 128) (hi : i < n) (h : CR s b i d) (hf : isRf d) : ∃ s', dm130 b (Int32.ofNat i) r c s = some s' ∧ CR s' b i (mvC r c d) ∧ ch (fun a q => a = b + 1 ∧ 11 * i ≤ q ∧ q < 11 * i + 11) s s' ∧ LZ s s' b i d := by
  have lost : ∀ (k w : Nat) (s1 : aS), w < 100 → sI s1 b 2 = Int32.ofNat n → ch (fun a q => a = b + 1 ∧ 11 * i ≤ q ∧ q < 11 * i + 9) s s1 → ∃ s', dm130_4 (k + 1) b (Int32.ofNat i) r c 0 (Int32.ofNat w) s1 = some s' ∧ CR s' b i loF ∧ ch (fun a q => a = b + 1 ∧ 11 * i ≤ q ∧ q < 11 * i + 11) s s' ∧ LZ s s' b i d := by
    intro k w s1 hw h1 hc
    obtain ⟨s', g1, g2, g3⟩ := d58 h1 h8 hi
    have e55 : dm130_55 b (Int32.ofNat i) 0 s1 = some s' := by
      unfold dm130_55
      rw [if_pos rfl, g1]
      rfl
    refine ⟨s', ?_, fun w hw => g2 w (by omega), (hc.mono fun a q z => by omega).trans g3, Or.inr ⟨hf, g2 9 (by omega), g2 10 (by omega)⟩⟩
    rw [dm130_4, if_pos rfl, e55]
    split <;> rfl
  have st : ∀ (s1 : aS) (w : Nat) (v : Int32), w < 9 → sI s1 b 2 = Int32.ofNat n → ch (fun a q => a = b + 1 ∧ 11 * i ≤ q ∧ q < 11 * i + 9) s s1 → sI (wI s1 (b + 1) (11 * i + w) v) b 2 = Int32.ofNat n ∧ ch (fun a q => a = b + 1 ∧ 11 * i ≤ q ∧ q < 11 * i + 9) s (wI s1 (b + 1) (11 * i + w) v) := by
    intro s1 w v hw h1 hc
    exact ⟨(sI_wI _ _ _ _ _ _).trans ((if_neg (by omega)).trans h1), hc.wI (by omega)⟩
  unfold dm130 mvC
  rw [show dm130_4 5000 b (Int32.ofNat i) r c 1 3 s = dm130_4 (4999 + 1) b (Int32.ofNat i) r c 1 (Int32.ofNat 3) s from rfl, d130s hn h8 hi h (by omega)]
  obtain ⟨n1, c1⟩ := st s 3 (cvW r c d 3) (by omega) hn (ch.refl _ s)
  have h1 := h.set (w := 3) (v := cvW r c d 3) (by omega)
  by_cases q1 : okW (cvW r c d 3) 3 = 0
  · rw [if_pos q1, q1]
    exact lost 4998 4 _ (by omega) n1 c1
  · rw [if_neg q1, okW_1 q1]
    generalize setN d 3 (cvW r c d 3) = e1 at h1 ⊢
    generalize wI s (b + 1) (11 * i + 3) (cvW r c d 3) = s1 at h1 n1 c1 ⊢
    rw [show dm130_4 4999 b (Int32.ofNat i) r c 1 (Int32.ofNat (3 + 1)) s1 = dm130_4 (4998 + 1) b (Int32.ofNat i) r c 1 (Int32.ofNat 4) s1 from rfl, d130s n1 h8 hi h1 (by omega)]
    obtain ⟨n2, c2⟩ := st s1 4 (cvW r c e1 4) (by omega) n1 c1
    have h2 := h1.set (w := 4) (v := cvW r c e1 4) (by omega)
    by_cases q2 : okW (cvW r c e1 4) 4 = 0
    · rw [if_pos q2, q2]
      exact lost 4997 5 _ (by omega) n2 c2
    · rw [if_neg q2, okW_1 q2]
      generalize setN e1 4 (cvW r c e1 4) = e2 at h2 ⊢
      generalize wI s1 (b + 1) (11 * i + 4) (cvW r c e1 4) = s2 at h2 n2 c2 ⊢
      rw [show dm130_4 4998 b (Int32.ofNat i) r c 1 (Int32.ofNat (4 + 1)) s2 = dm130_4 (4997 + 1) b (Int32.ofNat i) r c 1 (Int32.ofNat 5) s2 from rfl, d130s n2 h8 hi h2 (by omega)]
      obtain ⟨n3, c3⟩ := st s2 5 (cvW r c e2 5) (by omega) n2 c2
      have h3 := h2.set (w := 5) (v := cvW r c e2 5) (by omega)
      by_cases q3 : okW (cvW r c e2 5) 5 = 0
      · rw [if_pos q3, q3]
        exact lost 4996 6 _ (by omega) n3 c3
      · rw [if_neg q3, okW_1 q3]
        generalize setN e2 5 (cvW r c e2 5) = e3 at h3 ⊢
        generalize wI s2 (b + 1) (11 * i + 5) (cvW r c e2 5) = s3 at h3 n3 c3 ⊢
        rw [show dm130_4 4997 b (Int32.ofNat i) r c 1 (Int32.ofNat (5 + 1)) s3 = dm130_4 (4996 + 1) b (Int32.ofNat i) r c 1 (Int32.ofNat 6) s3 from rfl, d130s n3 h8 hi h3 (by omega)]
        obtain ⟨n4, c4⟩ := st s3 6 (cvW r c e3 6) (by omega) n3 c3
        have h4 := h3.set (w := 6) (v := cvW r c e3 6) (by omega)
        by_cases q4 : okW (cvW r c e3 6) 6 = 0
        · rw [if_pos q4, q4]
          exact lost 4995 7 _ (by omega) n4 c4
        · rw [if_neg q4, okW_1 q4]
          generalize setN e3 6 (cvW r c e3 6) = e4 at h4 ⊢
          generalize wI s3 (b + 1) (11 * i + 6) (cvW r c e3 6) = s4 at h4 n4 c4 ⊢
          obtain ⟨s', g1, g2, g3⟩ := d101x n4 h8 hi h4
          have c5 := c4.trans g3
          refine ⟨s', ?_, g2, c5.mono fun a q z => (by omega), Or.inl ⟨c5.i (by omega), c5.i (by omega)⟩⟩
          rw [show dm130_4 4996 b (Int32.ofNat i) r c 1 (Int32.ofNat (6 + 1)) s4 = dm130_4 (4995 + 1) b (Int32.ofNat i) r c 1 (Int32.ofNat 7) s4 from rfl, dm130_4, if_pos (by decide)]
          unfold dm130_55
          rw [if_neg (by decide), g1]
          rfl
set_option maxRecDepth 100000 in
theorem d128v {b n : Nat} {r c : Int32} {F : Nat → Nd} : ∀ (m j k : Nat) (s : aS), j + m = n → m < k → TF9 s b n (fun i => if i < j then onRf (mvC r c) (F i) else F i) → ∃ s', dm128_2 k b r c (Int32.ofNat j) s = some s' ∧ TF9 s' b n (fun i => onRf (mvC r c) (F i)) ∧ ch (fun a _ => a = b + 1) s s' ∧ ∀ i, LZ s s' b i (F i) := by
  intro m
  induction m with
  | zero =>
    intro j k s hj hk h
    obtain ⟨k, rfl⟩ : ∃ q, k = q + 1 := ⟨k - 1, by omega⟩
    have h8 := h.2.1
    rw [dm128_2, h.1, if_pos (by rw [iLe, iOfNat (by omega), iOfNat (by omega)]; omega)]
    exact ⟨s, rfl, h.cg fun i hi w hw => by show (if i < j then onRf (mvC r c) (F i) else F i) w = _; rw [if_pos (by omega)], ch.refl _ s, fun i => LZ.rf s b i _⟩
  | succ m ih =>
    intro j k s hj hk h
    obtain ⟨k, rfl⟩ : ∃ q, k = q + 1 := ⟨k - 1, by omega⟩
    have h8 := h.2.1
    have hr : CR s b j (F j) := by
      have := h.row (i := j) (by omega)
      have : CR s b j (if j < j then onRf (mvC r c) (F j) else F j) := this
      rw [if_neg (by omega)] at this
      exact this
    rw [dm128_2, h.1, if_neg (by rw [iLe, iOfNat (by omega), iOfNat (by omega)]; omega), d129 h.1 h8 (by omega) hr]
    simp only [bu_some]
    unfold dm128_15
    rw [ofNat_succ (by omega)]
    have next : ∀ s1, TF9 s1 b n (fun i => if i = j then onRf (mvC r c) (F j) else if i < j then onRf (mvC r c) (F i) else F i) → ch (fun a _ => a = b + 1) s s1 → (∀ i, LZ s s1 b i (F i)) → ∃ s', dm128_2 k b r c (Int32.ofNat (j + 1)) s1 = some s' ∧ TF9 s' b n (fun i => onRf (mvC r c) (F i)) ∧ ch (fun a _ => a = b + 1) s s' ∧ ∀ i, LZ s s' b i (F i) := by
      intro s1 t1 c1 z1
      obtain ⟨s', a1, a2, a3, a4⟩ := ih (j + 1) k s1 (by omega) (by omega) (t1.cg fun i hi w hw => by
        show (if i = j then onRf (mvC r c) (F j) else if i < j then onRf (mvC r c) (F i) else F i) w = (if i < j + 1 then onRf (mvC r c) (F i) else F i) w
        by_cases e : i = j
        · subst e
          rw [if_pos rfl, if_pos (by omega)]
        · rw [if_neg e]
          by_cases e2 : i < j
          · rw [if_pos e2, if_pos (by omega)]
          · rw [if_neg e2, if_neg (by omega)])
      exact ⟨s', a1, a2, c1.trans a3, fun i => (z1 i).tr (a4 i)⟩
    by_cases q : isRf (F j)
    · rw [b01_t q, if_neg (by decide)]
      obtain ⟨s1, g1, g2, g3, g4⟩ := d130y (r := r) (c := c) h.1 h8 (by omega : j < n) hr q
      rw [g1]
      simp only [bu_some]
      refine next s1 (h.up (g := onRf (mvC r c) (F j)) (by omega) (fun w hw => ?_) g3) (g3.mono fun a q z => z.1) (LZ.on g3 g4)
      rw [onRf_t q]
      exact g2 w hw
    · rw [b01_f q, if_pos rfl]
      refine next s (h.cg fun i hi w hw => ?_) (ch.refl _ s) (fun i => LZ.rf s b i _)
      show (if i < j then onRf (mvC r c) (F i) else F i) w = (if i = j then onRf (mvC r c) (F j) else if i < j then onRf (mvC r c) (F i) else F i) w
      by_cases e : i = j
      · subst e
        rw [if_neg (by omega), if_pos rfl, onRf_f q]
      · rw [if_neg e]
set_option maxRecDepth 100000 in
theorem d128y {s : aS} {b : Nat} {L : List Nd} {r c : Int32} (h : TC s b L) : ∃ s', dm128 b r c s = some s' ∧ TC s' b (L.map (onRf (mvC r c))) ∧ ch (fun a _ => a = b + 1) s s' ∧ ∀ i (g : i < L.length), LZ s s' b i L[i] := by
  have h8 := h.2.1
  obtain ⟨s', g1, g2, g3, g4⟩ := d128v (b := b) (r := r) (c := c) (F := fun i => L.getD i (fun _ => 0)) L.length 0 5000 s (by omega) (by omega) (h.f.cg fun i hi w hw => by
    show L.getD i (fun _ => 0) w = (if i < 0 then _ else L.getD i (fun _ => 0)) w
    rw [if_neg (by omega)])
  refine ⟨s', g1, g2.c (by rw [List.length_map]) fun i hi w hw => ?_, g3, fun i hi => by have := g4 i; rw [getD_nd hi] at this; exact this⟩
  rw [List.length_map] at hi
  show onRf (mvC r c) (L.getD i (fun _ => 0)) w = _
  rw [List.getElem_map, List.getD, List.getElem?_eq_getElem hi]
  rfl
set_option maxRecDepth 100000 in
theorem d134v {b N : Nat} {x y t k n : Int32} {F : Nat → Nd} : ∀ (q j z : Nat) (c : Int32) (s : aS), j + q = N → q < z → TF9 s b N (fun i => if i < j then shF x y t k n (F i) else F i) → ∃ s', dm134_4 z b x y t k n c (Int32.ofNat j) s = some (scC x y t k n F q j c, s') ∧ TF9 s' b N (fun i => shF x y t k n (F i)) ∧ ch (fun a _ => a = b + 1) s s' ∧ ∀ i, LZ s s' b i (F i) := by
  intro q
  induction q with
  | zero =>
    intro j z c s hj hz h
    obtain ⟨z, rfl⟩ : ∃ a, z = a + 1 := ⟨z - 1, by omega⟩
    have h8 := h.2.1
    rw [dm134_4, h.1, if_pos (by rw [iLe, iOfNat (by omega), iOfNat (by omega)]; omega)]
    exact ⟨s, rfl, h.cg fun i hi w hw => by show (if i < j then shF x y t k n (F i) else F i) w = _; rw [if_pos (by omega)], ch.refl _ s, fun i => LZ.rf s b i _⟩
  | succ q ih =>
    intro j z c s hj hz h
    obtain ⟨z, rfl⟩ : ∃ a, z = a + 1 := ⟨z - 1, by omega⟩
    have h8 := h.2.1
    have hr : CR s b j (F j) := by
      have := h.row (i := j) (by omega)
      have : CR s b j (if j < j then shF x y t k n (F j) else F j) := this
      rw [if_neg (by omega)] at this
      exact this
    have f2 : dm57 b (Int32.ofNat j) 2 s = some (F j 2) := CR.f (w := 2) h.1 h8 (by omega) hr (by omega)
    have next : ∀ (s1 : aS) (c1 : Int32), c1 = shG x y t k n (F j) c → TF9 s1 b N (fun i => if i = j then shF x y t k n (F j) else if i < j then shF x y t k n (F i) else F i) → ch (fun a _ => a = b + 1) s s1 → (∀ i, LZ s s1 b i (F i)) → ∃ s', dm134_4 z b x y t k n c1 (Int32.ofNat (j + 1)) s1 = some (scC x y t k n F q (j + 1) (shG x y t k n (F j) c), s') ∧ TF9 s' b N (fun i => shF x y t k n (F i)) ∧ ch (fun a _ => a = b + 1) s s' ∧ ∀ i, LZ s s' b i (F i) := by
      intro s1 c1 hc1 t1 cc1 z1
      subst hc1
      obtain ⟨s', a1, a2, a3, a4⟩ := ih (j + 1) z (shG x y t k n (F j) c) s1 (by omega) (by omega) (t1.cg fun i hi w hw => by
        show (if i = j then shF x y t k n (F j) else if i < j then shF x y t k n (F i) else F i) w = (if i < j + 1 then shF x y t k n (F i) else F i) w
        by_cases e : i = j
        · subst e
          rw [if_pos rfl, if_pos (by omega)]
        · rw [if_neg e]
          by_cases e2 : i < j
          · rw [if_pos e2, if_pos (by omega)]
          · rw [if_neg e2, if_neg (by omega)])
      exact ⟨s', a1, a2, cc1.trans a3, fun i => (z1 i).tr (a4 i)⟩
    have no : ¬ onC x y (F j) → ∃ s', dm134_48 (dm134_4 z) b x y t k n c (Int32.ofNat j) s = some (scC x y t k n F q (j + 1) (shG x y t k n (F j) c), s') ∧ TF9 s' b N (fun i => shF x y t k n (F i)) ∧ ch (fun a _ => a = b + 1) s s' ∧ ∀ i, LZ s s' b i (F i) := by
      intro hq
      unfold dm134_48
      rw [ofNat_succ (by omega)]
      refine next s c (by unfold shG; rw [b01_f hq, if_pos rfl]) (h.cg fun i hi w hw => ?_) (ch.refl _ s) (fun i => LZ.rf s b i _)
      show (if i < j then shF x y t k n (F i) else F i) w = (if i = j then shF x y t k n (F j) else if i < j then shF x y t k n (F i) else F i) w
      by_cases e : i = j
      · subst e
        rw [if_neg (by omega), if_pos rfl]
        unfold shF
        rw [b01_f hq, if_pos rfl]
      · rw [if_neg e]
    have yes : onC x y (F j) → ∃ s', dm134_25 (dm134_4 z) b x y t k n c (Int32.ofNat j) s = some (scC x y t k n F q (j + 1) (shG x y t k n (F j) c), s') ∧ TF9 s' b N (fun i => shF x y t k n (F i)) ∧ ch (fun a _ => a = b + 1) s s' ∧ ∀ i, LZ s s' b i (F i) := by
      intro hq
      obtain ⟨s1, g1, g2, g3, g4⟩ := d134y (x := x) (y := y) (t := t) (k := k) (n := n) (c := c) (k4 := dm134_4 z) h.1 h8 (by omega : j < N) hr hq.1
      rw [g1]
      refine next s1 _ (by unfold shG; rw [b01_t hq, if_neg (by decide)]) (h.up (g := shF x y t k n (F j)) (by omega) (fun w hw => ?_) g3) (g3.mono fun a q z => z.1) (LZ.on g3 g4)
      unfold shF
      rw [b01_t hq, if_neg (by decide)]
      exact g2 w hw
    rw [dm134_4, h.1, if_neg (by rw [iLe, iOfNat (by omega), iOfNat (by omega)]; omega), f2, d129 h.1 h8 (by omega) hr]
    simp only [bu_some]
    show ∃ s', _ = some (scC x y t k n F q (j + 1) (shG x y t k n (F j) c), s') ∧ _
    by_cases hf : isRf (F j)
    · rw [b01_t hf, if_neg (by decide)]
      by_cases c1 : F j 2 = x
      · rw [if_pos c1]
        exact yes ⟨hf, Or.inl c1⟩
      · rw [if_neg c1]
        by_cases c2 : F j 2 = -1
        · rw [if_pos c2]
          by_cases c3 : y = 0
          · rw [if_pos c3]
            refine no fun z => ?_
            rcases z.2 with q | q
            · exact c1 q
            · exact q.2 c3
          · rw [if_neg c3]
            exact yes ⟨hf, Or.inr ⟨c2, c3⟩⟩
        · rw [if_neg c2]
          refine no fun z => ?_
          rcases z.2 with q | q
          · exact c1 q
          · exact c2 q.1
    · rw [b01_f hf, if_pos rfl]
      exact no fun z => hf z.1
set_option maxRecDepth 100000 in
theorem d134z {s : aS} {b : Nat} {L : List Nd} {x y t k n : Int32} (h : TC s b L) : ∃ s', dm134 b x y t k n s = some (scC x y t k n (fun i => L.getD i (fun _ => 0)) L.length 0 0, s') ∧ TC s' b (L.map (shF x y t k n)) ∧ ch (fun a _ => a = b + 1) s s' ∧ ∀ i (g : i < L.length), LZ s s' b i L[i] := by
  have h8 := h.2.1
  obtain ⟨s', g1, g2, g3, g4⟩ := d134v (b := b) (x := x) (y := y) (t := t) (k := k) (n := n) (F := fun i => L.getD i (fun _ => 0)) L.length 0 5000 0 s (by omega) (by omega) (h.f.cg fun i hi w hw => by
    show L.getD i (fun _ => 0) w = (if i < 0 then _ else L.getD i (fun _ => 0)) w
    rw [if_neg (by omega)])
  refine ⟨s', g1, g2.c (by rw [List.length_map]) fun i hi w hw => ?_, g3, fun i hi => by have := g4 i; rw [getD_nd hi] at this; exact this⟩
  rw [List.length_map] at hi
  show shF x y t k n (L.getD i (fun _ => 0)) w = _
  rw [List.getElem_map, List.getD, List.getElem?_eq_getElem hi]
  rfl
set_option maxRecDepth 100000 in
theorem d56v {b n : Nat} {x : Int32} {F : Nat → Nd} (hR : ∀ i, i < n → F i 2 = x → isRf (F i)) : ∀ (m j k : Nat) (s : aS), j + m = n → m < k → TF9 s b n (fun i => if i < j then lsN x (F i) else F i) → ∃ s', dm56_2 k b x (Int32.ofNat j) s = some s' ∧ TF9 s' b n (fun i => lsN x (F i)) ∧ ch (fun a _ => a = b + 1) s s' ∧ ∀ i, LZ s s' b i (F i) := by
  intro m
  induction m with
  | zero =>
    intro j k s hj hk h
    obtain ⟨k, rfl⟩ : ∃ q, k = q + 1 := ⟨k - 1, by omega⟩
    have h8 := h.2.1
    rw [dm56_2, h.1, if_pos (by rw [iLe, iOfNat (by omega), iOfNat (by omega)]; omega)]
    exact ⟨s, rfl, h.cg fun i hi w hw => by show (if i < j then lsN x (F i) else F i) w = _; rw [if_pos (by omega)], ch.refl _ s, fun i => LZ.rf s b i _⟩
  | succ m ih =>
    intro j k s hj hk h
    obtain ⟨k, rfl⟩ : ∃ q, k = q + 1 := ⟨k - 1, by omega⟩
    have h8 := h.2.1
    have ef : sI s (b + 1) (11 * j + 2) = F j 2 := by
      have := h.2.2 j (by omega) 2 (by omega)
      have : sI s (b + 1) (11 * j + 2) = (if j < j then lsN x (F j) else F j) 2 := this
      rw [if_neg (by omega)] at this
      exact this
    have q2 : dm57 b (Int32.ofNat j) 2 s = some (F j 2) := by
      have := d57 (s := s) (b := b) (i := j) (w := 2) h.1 h8 (by omega) (by omega)
      rw [ef] at this
      exact this
    rw [dm56_2, h.1, if_neg (by rw [iLe, iOfNat (by omega), iOfNat (by omega)]; omega), q2]
    simp only [bu_some]
    unfold dm56_28
    rw [ofNat_succ (by omega)]
    have next : ∀ s1, TF9 s1 b n (fun i => if i = j then lsN x (F j) else if i < j then lsN x (F i) else F i) → ch (fun a _ => a = b + 1) s s1 → (∀ i, LZ s s1 b i (F i)) → ∃ s', dm56_2 k b x (Int32.ofNat (j + 1)) s1 = some s' ∧ TF9 s' b n (fun i => lsN x (F i)) ∧ ch (fun a _ => a = b + 1) s s' ∧ ∀ i, LZ s s' b i (F i) := by
      intro s1 t1 c1 z1
      obtain ⟨s', a1, a2, a3, a4⟩ := ih (j + 1) k s1 (by omega) (by omega) (t1.cg fun i hi w hw => by
        show (if i = j then lsN x (F j) else if i < j then lsN x (F i) else F i) w = (if i < j + 1 then lsN x (F i) else F i) w
        by_cases e : i = j
        · subst e
          rw [if_pos rfl, if_pos (by omega)]
        · rw [if_neg e]
          by_cases e2 : i < j
          · rw [if_pos e2, if_pos (by omega)]
          · rw [if_neg e2, if_neg (by omega)])
      exact ⟨s', a1, a2, c1.trans a3, fun i => (z1 i).tr (a4 i)⟩
    by_cases c1 : F j 2 = x
    · rw [if_pos c1]
      obtain ⟨s1, g1, g2, g3⟩ := d58 h.1 h8 (by omega : j < n)
      rw [g1]
      simp only [bu_some]
      refine next s1 (h.up (g := lsN x (F j)) (by omega) (fun w hw => ?_) g3) (g3.mono fun a q z => z.1) (LZ.on g3 (Or.inr ⟨hR j (by omega) c1, g2 9 (by omega), g2 10 (by omega)⟩))
      unfold lsN
      rw [if_pos c1]
      exact g2 w (by omega)
    · rw [if_neg c1]
      by_cases c2 : F j 2 ≤ x
      · rw [if_pos c2]
        refine next s (h.cg fun i hi w hw => ?_) (ch.refl _ s) (fun i => LZ.rf s b i _)
        show (if i < j then lsN x (F i) else F i) w = (if i = j then lsN x (F j) else if i < j then lsN x (F i) else F i) w
        by_cases e : i = j
        · subst e
          rw [if_neg (by omega), if_pos rfl]
          unfold lsN
          rw [if_neg c1, if_pos c2]
        · rw [if_neg e]
      · rw [if_neg c2]
        have q3 : dm60 b (Int32.ofNat j) 2 (F j 2 - 1) s = some (wI s (b + 1) (11 * j + 2) (F j 2 - 1)) := d60 (w := 2) h.1 h8 (by omega) (by omega)
        rw [q3]
        simp only [bu_some]
        have hc : ch (fun a q => a = b + 1 ∧ 11 * j ≤ q ∧ q < 11 * j + 11) s (wI s (b + 1) (11 * j + 2) (F j 2 - 1)) := (ch.refl _ s).wI (by omega)
        refine next _ (h.up (g := lsN x (F j)) (by omega) (fun w hw => ?_) hc) (hc.mono fun a q z => z.1) (LZ.on hc (Or.inl ⟨by rw [sI_wI, if_neg (by omega)], by rw [sI_wI, if_neg (by omega)]⟩))
        unfold lsN
        rw [if_neg c1, if_neg c2, sI_wI]
        by_cases e : w = 2
        · rw [if_pos ⟨rfl, by omega⟩, if_pos e]
        · rw [if_neg (by omega), if_neg e]
          have := h.2.2 j (by omega) w hw
          have : sI s (b + 1) (11 * j + w) = (if j < j then lsN x (F j) else F j) w := this
          rw [if_neg (by omega)] at this
          exact this
set_option maxRecDepth 100000 in
theorem d56y {s : aS} {b : Nat} {L : List Nd} {x : Int32} (h : TC s b L) (hR : ∀ d ∈ L, d 2 = x → isRf d) : ∃ s', dm56 b x s = some s' ∧ TC s' b (L.map (lsN x)) ∧ ch (fun a _ => a = b + 1) s s' ∧ ∀ i (g : i < L.length), LZ s s' b i L[i] := by
  have h8 := h.2.1
  obtain ⟨s', g1, g2, g3, g4⟩ := d56v (b := b) (n := L.length) (x := x) (F := fun i => L.getD i (fun _ => 0)) (fun i hi q => by
    have e : L.getD i (fun _ => 0) = L[i] := getD_nd hi
    rw [e] at q ⊢
    exact hR _ (List.getElem_mem hi) q) L.length 0 5000 s (by omega) (by omega) (h.f.cg fun i hi w hw => by
    show L.getD i (fun _ => 0) w = (if i < 0 then _ else L.getD i (fun _ => 0)) w
    rw [if_neg (by omega)])
  refine ⟨s', g1, g2.c (by rw [List.length_map]) fun i hi w hw => ?_, g3, fun i hi => by have := g4 i; rw [getD_nd hi] at this; exact this⟩
  rw [List.length_map] at hi
  show lsN x (L.getD i (fun _ => 0)) w = _
  rw [List.getElem_map, List.getD, List.getElem?_eq_getElem hi]
  rfl
end
section
/-! letters of formulas through drop, shift and move in FormulaTrees -/
set_option maxRecDepth 100000 in
theorem CLt.go {s s1 : aS} {fs : Nat → Option Fm} {lt : Nat → Nat → List Int32} (hc : CF s fs) (h : CLt s fs lt) (hr : ∀ f, f < 8 → fs f ≠ none → sR s1 100 f = sR s 100 f) (hi : ∀ f b, f < 8 → fs f ≠ none → sR s 100 f = .ref b → aK s b 3 → (∀ k, sI s1 (b + 1) k = sI s (b + 1) k) ∧ sI s1 (b + 2) 1 = sI s (b + 2) 1 ∧ ∀ k, sI s1 (b + 3) k = sI s (b + 3) k) : CLt s1 fs lt := fun f hf ho L q b hb => by
  have hn : fs f ≠ none := by
    rw [q]
    exact Option.some_ne_none _
  obtain ⟨-, -, c, a3, a4, -⟩ := (hc f hf).2 ho L q
  rw [hr f hf hn, a3] at hb
  injection hb with e
  rw [← e]
  obtain ⟨u, u1, u2⟩ := h f hf ho L q c a3
  obtain ⟨i1, i2, i3⟩ := hi f c hf hn a3 a4
  exact ⟨u, ⟨⟨i2.trans u1.1.1, fun j hj => (i3 j).trans (u1.1.2 j hj)⟩, u1.2⟩, fun i hi => by
    obtain ⟨st, e1, e2, e3⟩ := u2 i hi
    exact ⟨st, (i1 _).trans e1, (i1 _).trans e2, e3⟩⟩
set_option maxRecDepth 100000 in
theorem CLt.len {s : aS} {fs fs1 : Nat → Option Fm} {lt : Nat → Nat → List Int32} (h : CLt s fs lt) (e : ∀ f h1 L1, fs1 f = some (h1, L1) → ∃ h0 L0, fs f = some (h0, L0) ∧ L1.length = L0.length) : CLt s fs1 lt := fun f hf ho L q b hb => by
  obtain ⟨h0, L0, q1, q2⟩ := e f ho L q
  obtain ⟨u, u1, u2⟩ := h f hf h0 L0 q1 b hb
  exact ⟨u, u1, fun i hi => u2 i (by omega)⟩
set_option maxRecDepth 100000 in
theorem clt_key {tt : Nat} {cc : Nat → Nat → Int32} {s0 s s1 : aS} {b f : Nat} {fs : Nat → Option Fm} {lt : Nat → Nat → List Int32} {ho : Int32} {L : List Nd} (hl : Ly tt cc s0) (h0 : ∀ c, aK s c 3 → aK s0 c 3) (hb : aK s0 b 3) (hf : sR s 100 f = .ref b) (hff : f < 8) (ht : TD s) (hc : ch (fun a _ => a = 101 ∨ a = b + 1) s s1) (hu : CLt s fs lt) (hL : fs f = some (ho, L)) (hz : ∀ i (g : i < L.length), LZ s s1 b i L[i]) (hE : ∀ i (g : i < L.length), isRf L[i] → lt f i = []) : CLt s1 fs lt := fun g hg h9 L9 q c hr => by
  have hat := tr_at hl hb
  rw [hc.r (by omega)] at hr
  obtain ⟨u, u1, u2⟩ := hu g hg h9 L9 q c hr
  by_cases e : g = f
  · subst e
    rw [hL] at q
    cases q
    rw [hf] at hr
    injection hr with hr
    subst hr
    exact ⟨u, u1.of hc (by omega) (fun _ => by omega), fun i hi => (u2 i hi).lz (hz i hi) (hE i hi)⟩
  · have hcb : c ≠ b := fun z => e (ht.2.1 g f b hg hff (by rw [← z]; exact hr) hf)
    have hk : aK s c 3 := by
      rcases ht.1 g hg with z | ⟨d, z1, z2⟩
      · rw [z] at hr
        cases hr
      · rw [z1] at hr
        injection hr with hr
        rw [← hr]
        exact z2
    have hac := tr_at hl (h0 c hk)
    have ap := tr_ne hl (h0 c hk) hb hcb
    exact ⟨u, u1.of hc (by omega) (fun _ => by omega), fun i hi => by
      obtain ⟨st, e1, e2, e3⟩ := u2 i hi
      exact ⟨st, (hc.i (by omega)).trans e1, (hc.i (by omega)).trans e2, e3⟩⟩
set_option maxRecDepth 100000 in
theorem d52v {tt : Nat} {cc : Nat → Nat → Int32} {s0 : aS} {x : Int32} {fs : Nat → Option Fm} {lt : Nat → Nat → List Int32} (hl : Ly tt cc s0) (hx : 0 ≤ x.toInt) (hE : ∀ f, f < 8 → ∀ h L, fs f = some (h, L) → (∀ d ∈ L, d 2 = x → isRf d) ∧ ∀ i (g : i < L.length), isRf L[i] → lt f i = []) : ∀ (m f n : Nat) (s : aS), f + m = 8 → m < n → CF s (fun g => if g < f then fsDrop x fs g else fs g) → TD s → CLt s fs lt → ch (fun a k => a = 101 ∨ ∃ b, aK s0 b 3 ∧ a = b + 1) s0 s → ∃ s', dm52_16 n x (Int32.ofNat f) s = some (.inl none, s') ∧ CF s' (fsDrop x fs) ∧ TD s' ∧ CLt s' fs lt ∧ ch (fun a k => a = 101 ∨ ∃ b, aK s0 b 3 ∧ a = b + 1) s0 s' := by
  intro m
  induction m with
  | zero =>
    intro f n s hf hn h ht hu hc
    obtain ⟨n, rfl⟩ : ∃ k, n = k + 1 := ⟨n - 1, by omega⟩
    rw [dm52_16, if_pos (by rw [iLe, iOfNat (by omega)]; show (8 : Int) ≤ f; omega)]
    refine ⟨s, rfl, fun g hg => ?_, ht, hu, hc⟩
    have := h g hg
    simp only [if_pos (show g < f by omega)] at this
    exact this
  | succ m ih =>
    intro f n s hf hn h ht hu hc
    obtain ⟨n, rfl⟩ : ∃ k, n = k + 1 := ⟨n - 1, by omega⟩
    have hff := h f (by omega)
    simp only [if_neg (Nat.lt_irrefl f)] at hff
    have step : ∀ s1, CF s1 (fun g => if g < f + 1 then fsDrop x fs g else fs g) → TD s1 → CLt s1 fs lt → ch (fun a k => a = 101 ∨ ∃ b, aK s0 b 3 ∧ a = b + 1) s0 s1 → ∃ s', dm52_16 n x (Int32.ofNat (f + 1)) s1 = some (.inl none, s') ∧ CF s' (fsDrop x fs) ∧ TD s' ∧ CLt s' fs lt ∧ ch (fun a k => a = 101 ∨ ∃ b, aK s0 b 3 ∧ a = b + 1) s0 s' := fun s1 q1 q2 q4 q3 => ih (f + 1) n s1 (by omega) (by omega) q1 q2 q4 q3
    have ej : jN (Int32.ofNat f) = f := jN_of (by omega)
    have hbf : aB (Int32.ofNat f) 8 := by rw [aB_iff, iOfNat (by omega)]; omega
    rw [dm52_16, if_neg (by rw [iLe, iOfNat (by omega)]; show ¬ (8 : Int) ≤ f; omega)]
    rcases d54 h (Int32.ofNat f) with ⟨e1, e2⟩ | ⟨ho, L, b, e1, -, e2, e3, e4, e5, e6⟩
    · rw [fAt_n (by omega)] at e1
      simp only [if_neg (Nat.lt_irrefl f)] at e1
      rw [e2]
      simp only [bu_some, vN_null]
      unfold dm52_38
      rw [ofNat_succ (by omega)]
      refine step s (fun g hg => ?_) ht hu hc
      by_cases e : g = f
      · subst e
        simp only [if_pos (Nat.lt_succ_self g)]
        have : fsDrop x fs g = none := by unfold fsDrop; rw [e1]
        refine ⟨fun _ => hff.1 e1, fun h9 L9 q => ?_⟩
        rw [this] at q
        cases q
      · have := h g hg
        by_cases e7 : g < f
        · simp only [if_pos e7] at this
          simp only [if_pos (show g < f + 1 by omega)]
          exact this
        · simp only [if_neg e7] at this
          simp only [if_neg (show ¬ g < f + 1 by omega)]
          exact this
    · rw [fAt_n (by omega)] at e1
      simp only [if_neg (Nat.lt_irrefl f)] at e1
      rw [iOfNat (by omega)] at e5 e6
      have e5 : sR s 100 f = .ref b := e5
      have e6 : sI s 101 f = ho := e6
      have e30 : aK s0 b 3 := hc.k.mp e3
      have hlo := tr_lo hl e30
      rw [e2]
      simp only [bu_some, vN_ref]
      rw [if_pos e3]
      obtain ⟨s1, g1, g2, g3, g4⟩ := d56y (x := x) e4 (hE f (by omega) ho L e1).1
      rw [g1]
      simp only [bu_some]
      rw [if_pos hbf]
      have e61 : sI s1 101 (jN (Int32.ofNat f)) = ho := by rw [ej]; exact (g3.i (by omega)).trans e6
      rw [e61]
      have q61 : ∃ v, dm61 ho x = some v ∧ ((ho = x ∧ v = -1) ∨ (ho ≠ x ∧ v = (if ho ≤ x then ho else ho - 1))) := by
        unfold dm61
        by_cases c1 : ho = x
        · rw [if_pos c1]; exact ⟨_, rfl, Or.inl ⟨c1, rfl⟩⟩
        · rw [if_neg c1]
          by_cases c2 : ho ≤ x
          · rw [if_pos c2]; exact ⟨_, rfl, Or.inr ⟨c1, by rw [if_pos c2]⟩⟩
          · rw [if_neg c2]; exact ⟨_, rfl, Or.inr ⟨c1, by rw [if_neg c2]⟩⟩
      obtain ⟨v, v1, v2⟩ := q61
      rw [v1]
      simp only [bu_some]
      rw [if_pos hbf, nx_eq, ej]
      unfold dm52_38
      rw [ofNat_succ (by omega)]
      have hc2 : ch (fun a k => (a = 101 ∧ k = f) ∨ a = b + 1) s (wI s1 101 f v) := (g3.mono fun a k q => Or.inr q).wI (Or.inl ⟨rfl, rfl⟩)
      have hu2 : CLt (wI s1 101 f v) fs lt := clt_key (fs := fs) hl (fun _ q => hc.k.mp q) e30 e5 (by omega) ht (hc2.mono fun a k q => by omega) hu e1 (fun i hi => by
        have hat := tr_at hl e30
        rcases g4 i hi with z | z
        · exact Or.inl ⟨by rw [sI_wI, if_neg (by omega)]; exact z.1, by rw [sI_wI, if_neg (by omega)]; exact z.2⟩
        · exact Or.inr ⟨z.1, by rw [sI_wI, if_neg (by omega)]; exact z.2.1, by rw [sI_wI, if_neg (by omega)]; exact z.2.2⟩) (hE f (by omega) ho L e1).2
      refine step _ (fun g hg => ?_) (ht.of hc2 (by omega) (by omega)) hu2 (hc.trans (hc2.mono fun a k q => by
        rcases q with q | q
        · exact Or.inl q.1
        · exact Or.inr ⟨b, e30, q⟩))
      by_cases e : g = f
      · subst e
        simp only [if_pos (Nat.lt_succ_self g)]
        have hv : sI (wI s1 101 g v) 101 g = v := by rw [sI_wI, if_pos ⟨rfl, rfl⟩]
        rcases v2 with ⟨c1, c2⟩ | ⟨c1, c2⟩
        · have : fsDrop x fs g = none := by unfold fsDrop; rw [e1]; simp only [if_pos c1]
          refine ⟨fun _ => hv.trans c2, fun h9 L9 q => ?_⟩
          rw [this] at q
          cases q
        · have : fsDrop x fs g = some (v, L.map (lsN x)) := by unfold fsDrop; rw [e1]; simp only [if_neg c1]; rw [c2]
          refine ⟨fun q => (by rw [this] at q; cases q), fun h9 L9 q => ?_⟩
          rw [this] at q
          cases q
          refine ⟨hv, ?_, b, (hc2.r (by omega)).trans e5, hc2.k.mpr e3, g2.of ((ch.refl (fun a k => a = 101) s1).wI rfl) (by have := (hl.tr e30).1; intro q; rw [q, hl.T (a := 101) (p := (100, 8)) 23 rfl rfl] at this; cases this) (fun _ => by omega)⟩
          have hne := (hff.2 ho L e1).2.1
          rw [c2]
          by_cases c3 : ho ≤ x
          · rw [if_pos c3]; exact hne
          · rw [if_neg c3]
            intro q
            have r1 := iRange ho
            rw [iLe] at c3
            have : (ho - 1).toInt = ho.toInt - 1 := iSub (y := 1) (by show _ ≤ ho.toInt - 1; omega) (by show ho.toInt - 1 ≤ _; omega)
            rw [iEq, this] at q
            have q : ho.toInt - 1 = -1 := q
            omega
      · have hgg := h g hg
        have key : ∀ F : Option Fm, ((F = none → sI s 101 g = -1) ∧ ∀ h9 L9, F = some (h9, L9) → sI s 101 g = h9 ∧ h9 ≠ -1 ∧ ∃ b, sR s 100 g = .ref b ∧ aK s b 3 ∧ TC s b L9) → ((F = none → sI (wI s1 101 f v) 101 g = -1) ∧ ∀ h9 L9, F = some (h9, L9) → sI (wI s1 101 f v) 101 g = h9 ∧ h9 ≠ -1 ∧ ∃ b, sR (wI s1 101 f v) 100 g = .ref b ∧ aK (wI s1 101 f v) b 3 ∧ TC (wI s1 101 f v) b L9) := by
          intro F q
          refine ⟨fun z => (hc2.i (by omega)).trans (q.1 z), fun h9 L9 z => ?_⟩
          obtain ⟨z1, z2, c, z3, z4, z5⟩ := q.2 h9 L9 z
          have hbc : b ≠ c := by
            rintro rfl
            exact e (ht.2.1 g f b hg (by omega) z3 e5)
          have z40 : aK s0 c 3 := hc.k.mp z4
          have ap := tr_ne hl e30 z40 hbc
          have lo := tr_lo hl z40
          have l3 := (hl.tr z40).1
          refine ⟨(hc2.i (by omega)).trans z1, z2, c, (hc2.r (by omega)).trans z3, hc2.k.mpr z4, z5.of hc2 ?_ (fun k => by omega)⟩
          rintro (q9 | q9)
          · rw [q9.1, hl.T (a := 101) (p := (100, 8)) 23 rfl rfl] at l3; cases l3
          · exact ap.1 q9.symm
        by_cases e7 : g < f
        · simp only [if_pos e7] at hgg
          simp only [if_pos (show g < f + 1 by omega)]
          exact key _ hgg
        · simp only [if_neg e7] at hgg
          simp only [if_neg (show ¬ g < f + 1 by omega)]
          exact key _ hgg
set_option maxRecDepth 100000 in
theorem d52y {tt : Nat} {xs : List Int32} {s s9 : aS} {ns : List (List Int32)} {fs : Nat → Option Fm} {lt : Nat → Nat → List Int32} {x : Int32} (hl : Ly tt (cCc xs) s) (hs : SQ s ns) (hn : nsOk ns) (h : CF s fs) (ht : TD s) (hu : CLt s fs lt) (hx : 0 ≤ x.toInt ∧ x.toInt < ns.length) (hE : ∀ f, f < 8 → ∀ h L, fs f = some (h, L) → (∀ d ∈ L, d 2 = x → isRf d) ∧ ∀ i (g : i < L.length), isRf L[i] → lt f i = []) (he : dm52 x s = some (.inl none, s9)) : CLt s9 fs lt := by
  have h8 := hn.1
  unfold dm52 at he
  rw [d40 hs.1 h8] at he
  simp only [bu_some] at he
  rw [b01_t hx, if_neg (by decide)] at he
  obtain ⟨s1, g1, g2, g3⟩ := d53 (i := x.toInt.toNat) hs (RC.ly hl) hn (TF.ly hl) (by omega)
  rw [← ofNat_of (x := x) hx.1] at g1
  have hl1 : Ly tt (cCc xs) s1 := (dt53 (sio := true) (d := 2000) (by decide) hl g1).1
  rw [g1] at he
  simp only [bu_some] at he
  have h1 : CF s1 fs := fun f hf => ⟨fun q => (g3.i (by omega)).trans ((h f hf).1 q), fun ho L q => by
    obtain ⟨a1, a2, b, a3, a4, a5⟩ := (h f hf).2 ho L q
    have hb := tr_at hl a4
    exact ⟨(g3.i (by omega)).trans a1, a2, b, (g3.r (by omega)).trans a3, g3.k.mpr a4, a5.of g3 (by omega) (fun _ => by omega)⟩⟩
  have u1 : CLt s1 fs lt := CLt.go h hu (fun f _ _ => g3.r (by omega)) (fun f b _ _ _ hk => by
    have hb := tr_at hl hk
    exact ⟨fun k => g3.i (by omega), g3.i (by omega), fun k => g3.i (by omega)⟩)
  obtain ⟨s2, k1, -, -, k5, -⟩ := d52v (fs := fs) (lt := lt) (x := x) hl1 hx.1 hE 8 0 5000 s1 (by omega) (by omega) (fun f hf => by
    simp only [if_neg (Nat.not_lt_zero f)]
    exact h1 f hf) (ht.of g3 (by omega) (by omega)) u1 (ch.refl _ s1)
  have k1 : dm52_16 5000 x 0 s1 = some (.inl none, s2) := k1
  rw [k1] at he
  have e : s2 = s9 := (Prod.mk.inj (Option.some.inj he)).2
  rw [← e]
  exact k5
set_option maxRecDepth 100000 in
theorem d133v {tt : Nat} {cc : Nat → Nat → Int32} {s0 : aS} {x t k n : Int32} {fs : Nat → Option Fm} {lt : Nat → Nat → List Int32} (hl : Ly tt cc s0) (hE : ∀ f, f < 8 → ∀ h L, fs f = some (h, L) → ∀ i (g : i < L.length), isRf L[i] → lt f i = []) : ∀ (m f z : Nat) (c : Int32) (s : aS), f + m = 8 → m < z → CF s (fun g => if g < f then fsShC x t k n fs g else fs g) → TD s → CLt s fs lt → ch (fun a _ => a = 103 ∨ 149 ≤ a) s0 s → ∃ s', dm133_29 z x t k n c (Int32.ofNat f) s = some (.inl (some (.int (caC x t k n fs m f c))), s') ∧ CF s' (fsShC x t k n fs) ∧ TD s' ∧ CLt s' fs lt ∧ ch (fun a _ => a = 103 ∨ 149 ≤ a) s0 s' := by
  intro m
  induction m with
  | zero =>
    intro f z c s hf hz h ht hu hc
    obtain ⟨z, rfl⟩ : ∃ q, z = q + 1 := ⟨z - 1, by omega⟩
    rw [dm133_29, if_pos (by rw [iLe, iOfNat (by omega)]; show (8 : Int) ≤ f; omega)]
    refine ⟨s, rfl, fun g hg => ?_, ht, hu, hc⟩
    have := h g hg
    simp only [if_pos (show g < f by omega)] at this
    exact this
  | succ m ih =>
    intro f z c s hf hz h ht hu hc
    obtain ⟨z, rfl⟩ : ∃ q, z = q + 1 := ⟨z - 1, by omega⟩
    have hff := h f (by omega)
    simp only [if_neg (Nat.lt_irrefl f)] at hff
    have ej : jN (Int32.ofNat f) = f := jN_of (by omega)
    have hbf : aB (Int32.ofNat f) 8 := by rw [aB_iff, iOfNat (by omega)]; omega
    rw [dm133_29, if_neg (by rw [iLe, iOfNat (by omega)]; show ¬ (8 : Int) ≤ f; omega)]
    have ec : caC x t k n fs (m + 1) f c = caC x t k n fs m (f + 1) (match fs f with | none => c | some (h, L) => c + scC x (hmY h x) t k n (fun i => L.getD i (fun _ => 0)) L.length 0 0) := rfl
    rw [ec]
    rcases d54 h (Int32.ofNat f) with ⟨e1, e2⟩ | ⟨ho, L, b, e1, -, e2, e3, e4, e5, e6⟩
    · rw [fAt_n (by omega)] at e1
      simp only [if_neg (Nat.lt_irrefl f)] at e1
      rw [e2, e1]
      simp only [bu_some, vN_null]
      unfold dm133_56
      rw [ofNat_succ (by omega)]
      refine ih (f + 1) z c s (by omega) (by omega) (fun g hg => ?_) ht hu hc
      by_cases e : g = f
      · subst e
        simp only [if_pos (Nat.lt_succ_self g)]
        have : fsShC x t k n fs g = none := by unfold fsShC; rw [e1]
        rw [this]
        exact ⟨fun _ => hff.1 e1, fun h9 L9 q => by cases q⟩
      · have := h g hg
        by_cases e7 : g < f
        · simp only [if_pos e7] at this
          simp only [if_pos (show g < f + 1 by omega)]
          exact this
        · simp only [if_neg e7] at this
          simp only [if_neg (show ¬ g < f + 1 by omega)]
          exact this
    · rw [fAt_n (by omega)] at e1
      simp only [if_neg (Nat.lt_irrefl f)] at e1
      rw [iOfNat (by omega)] at e5 e6
      have e5 : sR s 100 f = .ref b := e5
      have e6 : sI s 101 f = ho := e6
      have e30 : aK s0 b 3 := hc.k.mp e3
      have hat := tr_at hl e30
      rw [e2, e1]
      simp only [bu_some, vN_ref]
      rw [if_pos e3, if_pos hbf, ej, e6]
      obtain ⟨s1, g1, g2, g3, g4⟩ := d134z (x := x) (y := hmY ho x) (t := t) (k := k) (n := n) e4
      have e50 : dm133_50 (dm133_29 z) x t k n (Int32.ofNat f) c b x (hmY ho x) s = dm133_29 z x t k n (c + scC x (hmY ho x) t k n (fun i => L.getD i (fun _ => 0)) L.length 0 0) (Int32.ofNat (f + 1)) s1 := by
        unfold dm133_50 dm133_56
        rw [g1]
        simp only [bv_some]
        rw [ofNat_succ (by omega)]
      have ey : (if ho = x then dm133_50 (dm133_29 z) x t k n (Int32.ofNat f) c b x 1 s else dm133_50 (dm133_29 z) x t k n (Int32.ofNat f) c b x 0 s) = dm133_50 (dm133_29 z) x t k n (Int32.ofNat f) c b x (hmY ho x) s := by
        unfold hmY
        split <;> rfl
      rw [ey, e50]
      refine ih (f + 1) z _ s1 (by omega) (by omega) (fun g hg => ?_) (ht.of g3 (fun _ => by omega) (by omega)) (clt_key (fs := fs) hl (fun _ q => hc.k.mp q) e30 e5 (by omega) ht (g3.mono fun a k q => Or.inr q) hu e1 g4 (hE f (by omega) ho L e1)) (hc.trans (g3.mono fun a k q => by omega))
      by_cases e : g = f
      · subst e
        simp only [if_pos (Nat.lt_succ_self g)]
        have : fsShC x t k n fs g = some (ho, L.map (shF x (hmY ho x) t k n)) := by unfold fsShC; rw [e1]
        rw [this]
        refine ⟨fun q => (by cases q), fun h9 L9 q => ?_⟩
        cases q
        exact ⟨(g3.i (by omega)).trans e6, (hff.2 ho L e1).2.1, b, (g3.r (by omega)).trans e5, g3.k.mpr e3, g2⟩
      · have hgg := h g hg
        by_cases e7 : g < f
        · simp only [if_pos e7] at hgg
          simp only [if_pos (show g < f + 1 by omega)]
          exact cf_key hl (fun _ q => hc.k.mp q) e30 e5 (by omega) hg e ht g3 hgg
        · simp only [if_neg e7] at hgg
          simp only [if_neg (show ¬ g < f + 1 by omega)]
          exact cf_key hl (fun _ q => hc.k.mp q) e30 e5 (by omega) hg e ht g3 hgg
set_option maxRecDepth 100000 in
theorem d133y {tt : Nat} {cc : Nat → Nat → Int32} {s s9 : aS} {ns : List (List Int32)} {fs : Nat → Option Fm} {lt : Nat → Nat → List Int32} {x t k n : Int32} {o : xZ} (hl : Ly tt cc s) (hs : SC s ns) (hn : nsOk ns) (h : CF s fs) (ht : TD s) (hu : CLt s fs lt) (hE : ∀ f, f < 8 → ∀ h L, fs f = some (h, L) → ∀ i (g : i < L.length), isRf L[i] → lt f i = []) (hx : 0 ≤ x.toInt ∧ x.toInt < ns.length) (hk : ¬ bey k (lastT t) ∧ wayP n) (he : dm133 x t k n s = some (o, s9)) : CLt s9 fs lt := by
  have h8 := hn.1
  unfold dm133 dm133_20 at he
  rw [d40 hs h8, d132, d126] at he
  simp only [bu_some] at he
  have a1 : k < 1 ↔ k.toInt < 1 := iLt
  have c1 : ¬ k < 1 := fun q => hk.1 (by
    have := a1.mp q
    unfold bey
    omega)
  have c2 : ¬ lastT t < k := fun q => hk.1 (by
    rw [iLt] at q
    unfold bey
    omega)
  rw [b01_t hx, if_neg (by decide), if_neg c1, if_neg c2, b01_t hk.2, if_neg (by decide)] at he
  obtain ⟨s2, k1, -, -, k5, -⟩ := d133v (x := x) (t := t) (k := k) (n := n) (fs := fs) (lt := lt) hl hE 8 0 5000 0 s (by omega) (by omega) (fun f hf => by
    simp only [if_neg (Nat.not_lt_zero f)]
    exact h f hf) ht hu (ch.refl _ s)
  have k1 : dm133_29 5000 x t k n 0 0 s = some (.inl (some (.int (caC x t k n fs 8 0 0))), s2) := k1
  rw [k1] at he
  have e : s2 = s9 := (Prod.mk.inj (Option.some.inj he)).2
  rw [← e]
  exact k5
set_option maxRecDepth 100000 in
theorem d127y {tt : Nat} {cc : Nat → Nat → Int32} {s : aS} {b c : Nat} {L : List Nd} {u : List Int32} (hl : Ly tt cc s) (hb : aK s b 3) (hc : aK s c 3) (hbc : b ≠ c) (h : TC s c L) (hu : TL s c u) : ∃ s', dm127 b c s = some s' ∧ TC s' b L ∧ TL s' b u ∧ ch (fun a _ => a = b ∨ a = b + 1 ∨ a = b + 2 ∨ a = b + 3) s s' ∧ ∀ k, k < 1408 → sI s' (b + 1) k = sI s (c + 1) k := by
  have ap := tr_ne hl hb hc hbc
  have b3 := (hl.tr hb).2.2.2.2.2.2.1
  have c3 := (hl.tr hc).2.2.2.2.2.2.1
  have b0 := (hl.tr hb).1
  have j0 : jN 0 = 0 := rfl
  have j1 : jN 1408 = 1408 := rfl
  have n1 : b ≠ c + 1 := by
    rintro e
    have := (hl.tr hc).2.2.2.2.1
    rw [← e, b0] at this
    cases this
  have n2 : b ≠ c + 2 := by
    rintro e
    have := (hl.tr hc).2.2.2.2.2.1
    rw [← e, b0] at this
    cases this
  have n3 : b ≠ c + 3 := by
    rintro e
    rw [← e, b0] at c3
    cases c3
  have hc1 : ch (fun a _ => a = b ∨ a = b + 1 ∨ a = b + 2 ∨ a = b + 3) s (cpI (wI s b 2 (sI s c 2)) (c + 1) 0 (b + 1) 0 1408) := ch_cp ((ch.refl _ s).wI (Or.inl rfl)) (fun _ => Or.inr (Or.inl rfl))
  have hu1 : LT (cpI (wI s b 2 (sI s c 2)) (c + 1) 0 (b + 1) 0 1408) (c + 2) u := hu.1.of hc1 (by omega) (fun _ => by omega)
  obtain ⟨s', g1, g2, g3⟩ := d41 (b0 := b + 2) (m := 256) hu1 (by omega) (by rw [hc1.2.1, show b + 2 + 1 = b + 3 from rfl, b3]) (by rw [hc1.2.1, show c + 2 + 1 = c + 3 from rfl, c3]; exact hu.2.1) (by decide) hu.2.1 hu.2.2
  refine ⟨s', ?_, ⟨?_, h.2.1, fun i hi w hw => ?_⟩, ⟨g2, hu.2⟩, hc1.trans (g3.mono fun a k q => by omega), fun k hk => ?_⟩
  · unfold dm127
    rw [nx_eq, if_pos ⟨by omega, by decide, by decide, by decide, by decide, by decide⟩, nx_eq, j0, j1, g1]
    rfl
  · rw [g3.i (by omega), sI_cp, if_neg (by omega), sI_wI, if_pos ⟨rfl, rfl⟩]
    exact h.1
  · have h8 := h.2.1
    rw [g3.i (by omega), sI_cp, if_pos ⟨rfl, by omega, by omega⟩, Nat.zero_add, Nat.sub_zero, sI_wI, if_neg (by omega)]
    exact h.2.2 i hi w hw
  · rw [g3.i (by omega), sI_cp, if_pos ⟨rfl, by omega, by omega⟩, Nat.zero_add, Nat.sub_zero, sI_wI, if_neg (by omega)]
set_option maxRecDepth 100000 in
theorem d125n {tt : Nat} {cc : Nat → Nat → Int32} {s s9 : aS} {fs : Nat → Option Fm} {lt : Nat → Nat → List Int32} {x y b c : Nat} {h0 r q ho : Int32} {L : List Nd} {o : xZ} (hl : Ly tt cc s) (h : CF s fs) (ht : TD s) (hu : CLt s fs lt) (hx : x < 8) (hy : y < 8) (hL : fs x = some (h0, L)) (hb : sR s 100 x = .ref b) (hc : sR s 100 y = .ref c) (hbk : aK s b 3) (hck : aK s c 3) (hT : TC s b L) (hE : ∀ i (g : i < L.length), isRf L[i] → lt x i = []) (he : dm125_46 (Int32.ofNat x) r q ho (Int32.ofNat y) b c s = some (o, s9)) : CLt s9 (fsMove x y r q ho (fun r q => onRf (mvC r q)) L fs) (ltMv lt x y) := by
  have hac := tr_at hl hck
  obtain ⟨u, hub, hnl⟩ := hu x hx h0 L hL b hb
  have exy : Int32.ofNat y = Int32.ofNat x ↔ y = x := by
    rw [iEq, iOfNat (by omega), iOfNat (by omega)]
    omega
  have pre : ∃ s1, dm125_46 (Int32.ofNat x) r q ho (Int32.ofNat y) b c s = dm125_52 r q ho (Int32.ofNat y) c s1 ∧ TC s1 c L ∧ TL s1 c u ∧ (∀ i, i < L.length → NL s1 c i u (lt x i)) ∧ ch (fun a _ => a = c ∨ a = c + 1 ∨ a = c + 2 ∨ a = c + 3) s s1 := by
    unfold dm125_46
    by_cases e : y = x
    · subst e
      rw [hb] at hc
      cases hc
      rw [if_pos rfl]
      exact ⟨s, rfl, hT, hub, hnl, ch.refl _ s⟩
    · have hbc : c ≠ b := by
        rintro rfl
        exact e (ht.2.1 y x c hy hx hc hb)
      obtain ⟨s1, g1, g2, g3, g4, g5⟩ := d127y hl hck hbk hbc hT hub
      have h128 := hT.2.1
      rw [if_neg (fun z => e (exy.mp z)), g1]
      exact ⟨s1, rfl, g2, g3, fun i hi => by
        obtain ⟨st, e1, e2, e3⟩ := hnl i hi
        exact ⟨st, (g5 _ (by omega)).trans e1, (g5 _ (by omega)).trans e2, e3⟩, g4⟩
  obtain ⟨s1, e1, t1, l1, n1, c1⟩ := pre
  obtain ⟨s2, g1, g2, g3, g4⟩ := d128y (r := r) (c := q) t1
  have ejy : jN (Int32.ofNat y) = y := jN_of (by omega)
  have hby : aB (Int32.ofNat y) 8 := by rw [aB_iff, iOfNat (by omega)]; omega
  have e2 : dm125_52 r q ho (Int32.ofNat y) c s1 = some (.inl none, wI s2 101 y ho) := by
    unfold dm125_52
    rw [g1]
    simp only [bu_some]
    rw [if_pos hby, nx_eq, ejy]
  have hA : ch (fun a k => (a = 101 ∧ k = y) ∨ a = c ∨ a = c + 1 ∨ a = c + 2 ∨ a = c + 3) s (wI s2 101 y ho) := ((c1.mono fun a k z => Or.inr z).trans (g3.mono fun a k z => Or.inr (Or.inr (Or.inl z)))).wI (Or.inl ⟨rfl, rfl⟩)
  have oth : ∀ f b9, f < 8 → f ≠ y → sR s 100 f = .ref b9 → aK s b9 3 → (∀ k, ¬ ((b9 = 101 ∧ k = y) ∨ b9 = c ∨ b9 = c + 1 ∨ b9 = c + 2 ∨ b9 = c + 3)) ∧ (∀ k, ¬ ((b9 + 1 = 101 ∧ k = y) ∨ b9 + 1 = c ∨ b9 + 1 = c + 1 ∨ b9 + 1 = c + 2 ∨ b9 + 1 = c + 3)) ∧ (∀ k, ¬ ((b9 + 2 = 101 ∧ k = y) ∨ b9 + 2 = c ∨ b9 + 2 = c + 1 ∨ b9 + 2 = c + 2 ∨ b9 + 2 = c + 3)) ∧ (∀ k, ¬ ((b9 + 3 = 101 ∧ k = y) ∨ b9 + 3 = c ∨ b9 + 3 = c + 1 ∨ b9 + 3 = c + 2 ∨ b9 + 3 = c + 3)) := by
    intro f b9 hf hfy hr9 hk9
    have hne : b9 ≠ c := by
      rintro rfl
      exact hfy (ht.2.1 f y b9 hf hy hr9 hc)
    obtain ⟨p1, p2, p3, p4, p5, p6, p7, p8, p9, p10⟩ := tr_ne hl hk9 hck hne
    obtain ⟨q1, -, -, -, q5, -, -, q8, -, -⟩ := tr_ne hl hck hk9 (fun z => hne z.symm)
    have a3 := tr_at hl hk9
    refine ⟨fun k => nt5 (by omega) hne (fun z => q1 z.symm) (fun z => q5 z.symm) (fun z => q8 z.symm), fun k => nt5 (by omega) p1 p2 p3 p4, fun k => nt5 (by omega) p5 p6 (by omega) p7, fun k => nt5 (by omega) p8 p9 p10 (by omega)⟩
  rw [e1, e2] at he
  have e9 : wI s2 101 y ho = s9 := (Prod.mk.inj (Option.some.inj he)).2
  rw [← e9]
  intro f hf h9 L9 q9 b9 hr9
  have hr0 : sR s 100 f = .ref b9 := by rw [← hA.r (a := 100) (k := f) (by omega)]; exact hr9
  unfold fsMove at q9
  unfold ltMv
  by_cases e : f = y
  · rw [if_pos e] at q9
    have eL : L9 = L.map (onRf (mvC r q)) := (Prod.mk.inj (Option.some.inj q9)).2.symm
    rw [e, hc] at hr0
    injection hr0 with hr0
    have h2 : ch (fun a k => a = 101) s2 (wI s2 101 y ho) := (ch.refl _ s2).wI rfl
    rw [← hr0]
    refine ⟨u, (l1.of g3 (by omega) (fun _ => by omega)).of h2 (by omega) (fun _ => by omega), fun i hi => ?_⟩
    rw [eL, List.length_map] at hi
    rw [if_pos e]
    obtain ⟨st, z1, z2, z3⟩ := (n1 i hi).lz (g4 i hi) (hE i hi)
    exact ⟨st, (h2.i (by omega)).trans z1, (h2.i (by omega)).trans z2, z3⟩
  · rw [if_neg e] at q9
    obtain ⟨u9, l9, n9⟩ := hu f hf h9 L9 q9 b9 hr0
    rcases ht.1 f hf with z | ⟨b8, z1, z2⟩
    · rw [z] at hr0
      cases hr0
    · rw [hr0] at z1
      injection z1 with z1
      have o := oth f b9 hf e hr0 (by rw [z1]; exact z2)
      refine ⟨u9, l9.of hA (o.2.2.1 1) o.2.2.2, fun i hi => ?_⟩
      rw [if_neg e]
      obtain ⟨st, z1, z2, z3⟩ := n9 i hi
      exact ⟨st, (hA.i (o.2.1 _)).trans z1, (hA.i (o.2.1 _)).trans z2, z3⟩
set_option maxRecDepth 100000 in
theorem d125y {tt : Nat} {cc : Nat → Nat → Int32} {s s9 : aS} {ns : List (List Int32)} {fs : Nat → Option Fm} {lt : Nat → Nat → List Int32} {x1 x2 x3 x4 x5 h0 : Int32} {L : List Nd} {o : xZ} (hl : Ly tt cc s) (hs : SC s ns) (hn : nsOk ns) (h : CF s fs) (ht : TD s) (hu : CLt s fs lt) (hV : mvV ns fs x1 x4 x5) (hW : wayP x2 ∧ wayP x3) (e0 : fAt fs x1 = some (h0, L)) (hE : ∀ i (g : i < L.length), isRf L[i] → lt x1.toInt.toNat i = []) (he : dm125 x1 x2 x3 x4 x5 s = some (o, s9)) : CLt s9 (fsMove x1.toInt.toNat x5.toInt.toNat x2 x3 x4 (fun r c => onRf (mvC r c)) L fs) (ltMv lt x1.toInt.toNat x5.toInt.toNat) := by
  have h8 := hn.1
  obtain ⟨c1, -, c2⟩ := hV
  obtain ⟨hx, hL⟩ := fAt_s e0
  have e55 : dm55 x5 = some 1 := by
    rcases y55 x5 with ⟨z, -⟩ | ⟨-, z⟩
    · exact absurd c1 z
    · exact z
  unfold dm125 dm125_14 dm125_25 at he
  rcases d54 h x1 with ⟨e1, -⟩ | ⟨h9, L9, b, e1, -, e2, e3, e4, e5, -⟩
  · rw [e0] at e1
    cases e1
  · have eq := (Prod.mk.inj (Option.some.inj (e1.symm.trans e0))).2
    rw [eq] at e4
    have hb5 : aB x5 8 := aB_iff.mpr c1
    have ex1 := ofNat_of (x := x1) hx.1
    have ex5 := ofNat_of (x := x5) c1.1
    rw [e2, e55, d40 hs h8, d126, d126] at he
    simp only [bu_some, vN_ref] at he
    rw [if_pos e3, if_neg (by decide), b01_t c2, if_neg (by decide), b01_t hW.1, if_neg (by decide), b01_t hW.2, if_neg (by decide)] at he
    simp only [if_pos hb5] at he
    rcases ht.1 x5.toInt.toNat (by omega) with z | ⟨c, z1, z2⟩
    · have z0 : sR s 100 (jN x5) = .null := z
      rw [z0] at he
      simp only [vN_null, nx_eq] at he
      have cl : CL s fs := fun f hf hs9 b9 hb9 => by
        cases hq : fs f with
        | none => exact absurd hq hs9
        | some v =>
          obtain ⟨h7, L7⟩ := v
          obtain ⟨u, u1, -⟩ := hu f hf h7 L7 hq b9 hb9
          exact ⟨u, u1⟩
      obtain ⟨n1, n2, n3, -, n5⟩ := nT_all (y := x5.toInt.toNat) hl h ht cl (by omega) z
      have hbl := (hl.tr e3).2.2.2.1
      have hL0 : 149 ≤ sL s := hl.1
      have hne : x1.toInt.toNat ≠ x5.toInt.toNat := by
        intro q
        rw [q, z] at e5
        cases e5
      have nY : fs x5.toInt.toNat = none := by
        cases hq : fs x5.toInt.toNat with
        | none => rfl
        | some v =>
          obtain ⟨h7, L7⟩ := v
          obtain ⟨-, -, b7, b1, -⟩ := (h x5.toInt.toNat (by omega)).2 h7 L7 hq
          rw [z] at b1
          cases b1
      have n4 : CLt (wR (nTree s) 100 x5.toInt.toNat (.ref (sL s))) fs lt := CLt.go h hu (fun f hf q => by
        rw [sR_wR, if_neg (fun z => q (by rw [z.2]; exact nY)), nT_R (by omega)]) (fun f b7 _ _ _ hk => by
        have hb := (hl.tr hk).2.2.2.1
        exact ⟨fun k => nT_I (by omega), nT_I (by omega), fun k => nT_I (by omega)⟩)
      have he : dm125_46 (Int32.ofNat x1.toInt.toNat) x2 x3 x4 (Int32.ofNat x5.toInt.toNat) b (sL s) (wR (nTree s) 100 x5.toInt.toNat (.ref (sL s))) = some (o, s9) := by
        rw [← ex1, ← ex5]
        exact he
      exact d125n (x := x1.toInt.toNat) (y := x5.toInt.toNat) (b := b) (c := sL s) (r := x2) (q := x3) (ho := x4) n1 n2 n3 n4 (by omega) (by omega) hL (by rw [sR_wR, if_neg (by omega), nT_R (by omega)]; exact e5) (by rw [sR_wR, if_pos ⟨rfl, rfl⟩]) (nT_K e3) n5 ⟨(nT_I (by omega)).trans e4.1, e4.2.1, fun i hi w hw => (nT_I (by omega)).trans (e4.2.2 i hi w hw)⟩ hE he
    · have z0 : sR s 100 (jN x5) = .ref c := z1
      rw [z0] at he
      simp only [vN_ref] at he
      rw [if_pos z2] at he
      have he : dm125_46 (Int32.ofNat x1.toInt.toNat) x2 x3 x4 (Int32.ofNat x5.toInt.toNat) b c s = some (o, s9) := by
        rw [← ex1, ← ex5]
        exact he
      exact d125n (x := x1.toInt.toNat) (y := x5.toInt.toNat) (b := b) (c := c) (r := x2) (q := x3) (ho := x4) hl h ht hu (by omega) (by omega) hL e5 z1 e3 z2 e4 hE he
end
section
/-! what the reference leaves, told exactly -/
section RVs
variable {s s1 : aS} {t : List Int32} {ns : List (List Int32)} {fs : Nat → Option Fm} {lt : Nat → Nat → List Int32} {A : Nat → Nat → Prop}
set_option maxRecDepth 100000 in
theorem w120 (s : aS) (v : Int32) : sI (wI s 121 0 v) 121 0 = v := by rw [sI_wI, if_pos ⟨rfl, rfl⟩]
set_option maxRecDepth 100000 in
theorem R231 (h : RV s t ns fs lt) (x : Int32) : (fAt fs x = none ∧ ∃ s', dm231 x s = some s' ∧ sI s' 121 0 = 1 ∧ RV s' t ns fs lt ∧ ch mA s s') ∨ (fAt fs x ≠ none ∧ ∃ s', dm231 x s = some s' ∧ sI s' 121 0 = 0 ∧ RV s' t ns (fsDel fs x.toInt.toNat) lt ∧ ch mA s s') := by
  rcases d231 h.2.2.1 x with ⟨z, e⟩ | ⟨ho, L, e0, e⟩
  · exact Or.inl ⟨z, _, e, w120 s 1, (h.t0 1).1, (h.t0 1).2⟩
  · obtain ⟨f1, f2⟩ := fAt_s e0
    have g : ch (fun a k => (a = 121 ∧ k = 0) ∨ (a = 125 ∧ k = x.toInt.toNat)) s (wI (wI s 121 0 0) 125 x.toInt.toNat 0) := ((ch.refl _ s).wI (Or.inl ⟨rfl, rfl⟩)).wI (Or.inr ⟨rfl, rfl⟩)
    have hfs : ∀ f v, fsDel fs x.toInt.toNat f = some v → f ≠ x.toInt.toNat ∧ fs f = some v := fun f v q => by
      unfold fsDel at q
      by_cases e : f = x.toInt.toNat
      · rw [if_pos e] at q
        cases q
      · rw [if_neg e] at q
        exact ⟨e, q⟩
    refine Or.inr ⟨by rw [e0]; exact Option.some_ne_none _, _, e, by rw [sI_wI, if_neg (by omega)]; exact w120 s 0, ⟨h.1.of g (by omega) (fun j => by omega), h.2.1.of g (fun a k q => by omega), fun f hf => ⟨fun q => ?_, fun h9 L9 q => ?_⟩, fun f hf h9 L9 q i hi => ?_, fun f hf h9 L9 q i hi => ?_, fun f h9 L9 q => ?_⟩, g.mono fun a k z => by unfold mA; omega⟩
    · by_cases e : f = x.toInt.toNat
      · rw [e, sI_wI, if_pos ⟨rfl, rfl⟩]
      · unfold fsDel at q
        rw [if_neg e] at q
        exact (g.i (by omega)).trans ((h.2.2.1 f hf).1 q)
    · obtain ⟨n1, n2⟩ := hfs f _ q
      obtain ⟨b1, b2, b3, b4, b5⟩ := (h.2.2.1 f hf).2 h9 L9 n2
      exact ⟨(g.i (by omega)).trans b1, (g.i (by omega)).trans b2, (g.i (by omega)).trans b3, b4, fun i hi w hw => (g.i (by omega)).trans (b5 i hi w hw)⟩
    · obtain ⟨n1, n2⟩ := hfs f _ q
      exact (h.2.2.2.1 f hf h9 L9 n2 i hi).go (fun w hw => hw.of g (fun a k z => by omega)) (Or.inl rfl)
    · exact h.2.2.2.2.1 f hf h9 L9 (hfs f _ q).2 i hi
    · exact h.2.2.2.2.2 f h9 L9 (hfs f _ q).2
set_option maxRecDepth 100000 in
theorem R184 (h : RV s t ns fs lt) (hl : t.length ≤ 256) (hok : okT t) (hn : nsOk ns) (h147 : (sT s 147).2 = 256) (h122 : (sT s 122).2 = 256) (x1 x2 : Int32) : (¬ ((0 ≤ x1.toInt ∧ x1.toInt < 8) ∧ 0 ≤ x2.toInt ∧ x2.toInt < ns.length) ∧ ∃ s', dm184 x1 x2 s = some (0, s') ∧ sI s' 121 0 = 1 ∧ RV s' t ns fs lt ∧ ch mA s s') ∨ (((0 ≤ x1.toInt ∧ x1.toInt < 8) ∧ 0 ≤ x2.toInt ∧ x2.toInt < ns.length) ∧ ((∃ p s', mRd t ns = .inl p ∧ dm184 x1 x2 s = some (Int32.ofNat p, s') ∧ sI s' 121 0 = 0 ∧ RV s' t ns fs lt ∧ ch mA s s') ∨ ∃ L s', mRd t ns = .inr L ∧ L.length ≤ 128 ∧ dm184 x1 x2 s = some (-1, s') ∧ sI s' 121 0 = 0 ∧ RV s' t ns (fsRd fs x1.toInt.toNat x2 L) (ltRd lt x1.toInt.toNat L) ∧ ch mA s s')) := by
  have rm : ∀ a k, rdA x1.toInt.toNat a k → (a = 121 ∧ (k = 0 ∨ 21 ≤ k)) ∨ (125 ≤ a ∧ a ≤ 147) := fun a k z => by
    unfold rdA scr at z
    omega
  rcases d184 h.1 hl hok h.2.1 hn h.2.2.1 h.2.2.2.1 h147 h122 x1 x2 with ⟨cx, e⟩ | ⟨cx, ⟨p, s', ep, -, e, e0, e2, e3, e4⟩ | ⟨L, s', eL, eF, e8, e, e0, e2, e3, e4⟩⟩
  · exact Or.inl ⟨cx, _, e, w120 s 1, h.t0 _⟩
  · exact Or.inr ⟨cx, Or.inl ⟨p, s', ep, e, e0, ⟨h.1.of e4 (fun q => by have := rm _ _ q; omega) (fun j q => by have := rm _ _ q; omega), h.2.1.of e4 (fun a k q => by have := rm _ _ q; omega), e2, e3, h.2.2.2.2⟩, e4.mono fun a k z => by have := rm _ _ z; unfold mA; omega⟩⟩
  · have gd := mRd_gd hn hl hok eL
    refine Or.inr ⟨cx, Or.inr ⟨L, s', eL, e8, e, e0, ⟨h.1.of e4 (fun q => by have := rm _ _ q; omega) (fun j q => by have := rm _ _ q; omega), h.2.1.of e4 (fun a k q => by have := rm _ _ q; omega), e2, e3, fun f hf h9 L9 q i hi => ?_, fun f h9 L9 q => ?_⟩, e4.mono fun a k z => by have := rm _ _ z; unfold mA; omega⟩⟩
    · unfold fsRd at q
      unfold ltRd
      by_cases c : f = x1.toInt.toNat
      · rw [if_pos c] at q
        rw [if_pos c]
        cases q
        rw [List.length_map] at hi
        have hm : L.getD i dN ∈ L := by
          rw [List.getD, List.getElem?_eq_getElem hi]
          exact List.getElem_mem hi
        have := gd _ hm
        exact ⟨this.2.2.2.2.1, fun y hy => by have := this.2.2.2.2.2 y hy; omega⟩
      · rw [if_neg c] at q
        rw [if_neg c]
        exact h.2.2.2.2.1 f hf h9 L9 q i hi
    · unfold fsRd at q
      by_cases c : f = x1.toInt.toNat
      · rw [if_pos c] at q
        cases q
        refine ⟨eF, fun d hd => ?_⟩
        obtain ⟨n, n1, n2⟩ := List.mem_map.mp hd
        subst n2
        have := gd n n1
        exact ⟨this.1, this.2.1, this.2.2.1⟩
      · rw [if_neg c] at q
        exact h.2.2.2.2.2 f h9 L9 q
set_option maxRecDepth 100000 in
theorem R224 (h : RV s t ns fs lt) (hn : nsOk ns) (x1 x2 x3 x4 x5 : Int32) : (¬ mvV ns fs x1 x4 x5 ∧ ∃ s', dm224 x1 x2 x3 x4 x5 s = some s' ∧ sI s' 121 0 = 1 ∧ RV s' t ns fs lt ∧ ch mA s s') ∨ (mvV ns fs x1 x4 x5 ∧ ¬ (wayP x2 ∧ wayP x3) ∧ ∃ s', dm224 x1 x2 x3 x4 x5 s = some s' ∧ sI s' 121 0 = 2 ∧ RV s' t ns fs lt ∧ ch mA s s') ∨ (mvV ns fs x1 x4 x5 ∧ (wayP x2 ∧ wayP x3) ∧ ∃ h0 L s', fAt fs x1 = some (h0, L) ∧ dm224 x1 x2 x3 x4 x5 s = some s' ∧ sI s' 121 0 = 0 ∧ RV s' t ns (fsMove x1.toInt.toNat x5.toInt.toNat x2 x3 x4 (fun r c => onRf (mvM r c)) L fs) (ltMv lt x1.toInt.toNat x5.toInt.toNat) ∧ ch mA s s') := by
  rcases d224x h.2.1 hn h.2.2.1 h.2.2.2.1 x1 x2 x3 x4 x5 with ⟨cV, e⟩ | ⟨cV, cW, e⟩ | ⟨cV, cW, h0, L, s', e0, e, e2, e3, e9, e4⟩
  · exact Or.inl ⟨cV, _, e, w120 s 1, h.t0 _⟩
  · exact Or.inr (Or.inl ⟨cV, cW, _, e, w120 s 2, h.t0 _⟩)
  · obtain ⟨f1, f2⟩ := fAt_s e0
    refine Or.inr (Or.inr ⟨cV, cW, h0, L, s', e0, e, e9, ⟨h.1.of e4 (by omega) (fun j => by omega), h.2.1.of e4 (fun a k q => by omega), e2, e3, fun f hf h9 L9 q i hi => ?_, fun f h9 L9 q => ?_⟩, e4.mono fun a k z => by unfold mA; omega⟩)
    · unfold fsMove at q
      unfold ltMv
      by_cases c : f = x5.toInt.toNat
      · rw [if_pos c] at q
        rw [if_pos c]
        cases q
        rw [List.length_map] at hi
        exact h.2.2.2.2.1 _ (by omega) h0 L f2 i hi
      · rw [if_neg c] at q
        rw [if_neg c]
        exact h.2.2.2.2.1 f hf h9 L9 q i hi
    · unfold fsMove at q
      by_cases c : f = x5.toInt.toNat
      · rw [if_pos c] at q
        cases q
        obtain ⟨o1, o2⟩ := h.2.2.2.2.2 _ h0 L f2
        refine ⟨ft_map (fun d => (mv_map d).2) L 1 o1, fun d hd => ?_⟩
        obtain ⟨n, n1, n2⟩ := List.mem_map.mp hd
        subst n2
        obtain ⟨p1, p2, p3⟩ := o2 n n1
        exact ⟨mv_okd p1, ar_map p2 (mv_map n).1 (mv_map n).2, mv_s2 p3⟩
      · rw [if_neg c] at q
        exact h.2.2.2.2.2 f h9 L9 q
set_option maxRecDepth 100000 in
theorem R228 (h : RV s t ns fs lt) (hn : nsOk ns) (x y k n : Int32) : (¬ (0 ≤ x.toInt ∧ x.toInt < ns.length) ∧ ∃ s', dm228 x y k n s = some (0, s') ∧ sI s' 121 0 = 1 ∧ RV s' t ns fs lt ∧ ch mA s s') ∨ ((0 ≤ x.toInt ∧ x.toInt < ns.length) ∧ ¬ (¬ bey k (lastT y) ∧ wayP n) ∧ ∃ s', dm228 x y k n s = some (0, s') ∧ sI s' 121 0 = 2 ∧ RV s' t ns fs lt ∧ ch mA s s') ∨ ((0 ≤ x.toInt ∧ x.toInt < ns.length) ∧ (¬ bey k (lastT y) ∧ wayP n) ∧ ∃ s', dm228 x y k n s = some (caM x y k n (lastT y) fs 8 0 0, s') ∧ sI s' 121 0 = 0 ∧ RV s' t ns (fsShM x y k n (lastT y) fs) lt ∧ ch mA s s') := by
  rcases d228 h.2.1 hn h.2.2.1 x y k n with ⟨cx, e⟩ | ⟨cx, cn, e⟩ | ⟨cx, cn, s', e, e2, e9, e4⟩
  · exact Or.inl ⟨cx, _, e, w120 s 1, h.t0 _⟩
  · exact Or.inr (Or.inl ⟨cx, cn, _, e, w120 s 2, h.t0 _⟩)
  · have hfs : ∀ f h9 L9, fsShM x y k n (lastT y) fs f = some (h9, L9) → ∃ L, fs f = some (h9, L) ∧ L9 = L.map (shM x y k n (lastT y) h9) := fun f h9 L9 q => by
      unfold fsShM at q
      cases hq : fs f with
      | none =>
        rw [hq] at q
        cases q
      | some v =>
        obtain ⟨h0, L⟩ := v
        rw [hq] at q
        cases q
        exact ⟨L, rfl, rfl⟩
    refine Or.inr (Or.inr ⟨cx, cn, s', e, e9, ⟨h.1.of e4 (by omega) (fun j => by omega), h.2.1.of e4 (fun a k q => by omega), e2, fun f hf h9 L9 q i hi => ?_, fun f hf h9 L9 q i hi => ?_, fun f h9 L9 q => ?_⟩, e4.mono fun a k z => by unfold mA; omega⟩)
    · obtain ⟨L, q1, q2⟩ := hfs f h9 L9 q
      subst q2
      have hi2 : i < L.length := by rw [List.length_map] at hi; exact hi
      rw [List.getElem_map]
      exact (h.2.2.2.1 f hf h9 L q1 i hi2).go (fun w hw => hw.of e4 (fun a k z => by omega)) (sh_map L[i]).1
    · obtain ⟨L, q1, q2⟩ := hfs f h9 L9 q
      subst q2
      rw [List.length_map] at hi
      exact h.2.2.2.2.1 f hf h9 L q1 i hi
    · obtain ⟨L, q1, q2⟩ := hfs f h9 L9 q
      subst q2
      obtain ⟨o1, o2⟩ := h.2.2.2.2.2 f h9 L q1
      refine ⟨ft_map (fun d => (sh_map d).2) L 1 o1, fun d hd => ?_⟩
      obtain ⟨m, n1, n2⟩ := List.mem_map.mp hd
      subst n2
      obtain ⟨p1, p2, p3⟩ := o2 m n1
      exact ⟨sh_ok p1 (bey_rg cn.1) cn.2, ar_map p2 (sh_map m).1 (sh_map m).2, sh_2 p3⟩
set_option maxRecDepth 100000 in
theorem R182 (h : RV s t ns fs lt) (hn : nsOk ns) (x : Int32) : (¬ (0 ≤ x.toInt ∧ x.toInt < ns.length) ∧ ∃ s', dm182 x s = some s' ∧ sI s' 121 0 = 1 ∧ RV s' t ns fs lt ∧ ch mA s s') ∨ ((0 ≤ x.toInt ∧ x.toInt < ns.length) ∧ ∃ s', dm182 x s = some s' ∧ sI s' 121 0 = 0 ∧ RV s' t (ns.eraseIdx x.toInt.toNat) (fsDropM x fs) lt ∧ ch mA s s') := by
  rcases d182 h.2.1 hn h.2.2.1 x with ⟨c, e⟩ | ⟨c, s', e, e1, e2, e3, e4⟩
  · exact Or.inl ⟨c, _, e, (by rw [sI_wI, if_pos ⟨rfl, rfl⟩]), h.t0 _⟩
  · refine Or.inr ⟨c, s', e, e3, ?_, e4.mono fun a k z => by unfold mA; omega⟩
    have hfs : ∀ f h9 L9, fsDropM x fs f = some (h9, L9) → ∃ h0 L, fs f = some (h0, L) ∧ L9 = L.map (lsM x) := fun f h9 L9 q => by
      unfold fsDropM at q
      cases hq : fs f with
      | none =>
        rw [hq] at q
        cases q
      | some v =>
        obtain ⟨h0, L⟩ := v
        rw [hq] at q
        have q : (if h0 = x then none else some (if h0 ≤ x then h0 else h0 - 1, L.map (lsM x))) = some (h9, L9) := q
        by_cases c : h0 = x
        · rw [if_pos c] at q
          cases q
        · rw [if_neg c] at q
          cases q
          exact ⟨h0, L, rfl, rfl⟩
    refine ⟨h.1.of e4 (by omega) (fun j => by omega), e1, e2, fun f hf h9 L9 q i hi => ?_, fun f hf h9 L9 q i hi => ?_, fun f h9 L9 q => ?_⟩
    · obtain ⟨h0, L, q1, q2⟩ := hfs f h9 L9 q
      subst q2
      have hi2 : i < L.length := by rw [List.length_map] at hi; exact hi
      rw [List.getElem_map]
      exact (h.2.2.2.1 f hf h0 L q1 i hi2).go (fun w hw => hw.of e4 (fun a k z => by omega)) (ls_map c.1 ((h.2.2.2.2.2 f h0 L q1).2 L[i] (List.getElem_mem hi2)).1).1
    · obtain ⟨h0, L, q1, q2⟩ := hfs f h9 L9 q
      subst q2
      rw [List.length_map] at hi
      exact h.2.2.2.2.1 f hf h0 L q1 i hi
    · obtain ⟨h0, L, q1, q2⟩ := hfs f h9 L9 q
      subst q2
      obtain ⟨o1, o2⟩ := h.2.2.2.2.2 f h0 L q1
      refine ⟨?_, fun d hd => ?_⟩
      · have key : ∀ (M : List Nd) (k : Nat), (∀ d ∈ M, ndOk d) → ft M k → ft (M.map (lsM x)) k := by
          intro M
          induction M with
          | nil => exact fun k _ z => z
          | cons d M ih =>
            intro k hM hz
            obtain ⟨z1, z2⟩ := hz
            have e : arN (lsM x d) = arN d := by unfold arN; rw [(ls_map c.1 (hM d List.mem_cons_self)).2]
            refine ⟨z1, ?_⟩
            rw [e]
            exact ih _ (fun d hd => hM d (List.mem_cons_of_mem _ hd)) z2
        exact key L 1 (fun d hd => (o2 d hd).1) o1
      · obtain ⟨m, n1, n2⟩ := List.mem_map.mp hd
        subst n2
        obtain ⟨p1, p2, p3⟩ := o2 m n1
        refine ⟨by rw [ls_eq c.1 p1]; exact ls_ok c.1 p1, ar_map p2 (ls_map c.1 p1).1 (ls_map c.1 p1).2, ?_⟩
        have := ls_2 c p1 p3
        rw [List.length_eraseIdx_of_lt (by omega)]
        omega
end RVs
end
section
/-! both sides together, with the formulas: means -/
/-- a call that tells: nothing is changed, or something is thrown -/
def Cn (s : aS) (p : xZ → Prop) (D : Option (xZ × aS)) : Prop := ∃ o s1, D = some (o, s1) ∧ p o ∧ (s1 = s ∨ s1 = nw s 82 0)
section CVs
variable {tt : Nat} {xs : List Int32} {s : aS} {t : List Int32} {ns : List (List Int32)} {b : Nat} {p : xZ → Prop}
set_option maxRecDepth 100000 in
theorem Cn.x (hp : p (.inr 2)) (_hy : (82 : Nat) ≠ 3) : Cn s p (some (.inr 2, nw s 82 0)) := ⟨_, _, rfl, hp, Or.inr rfl⟩
set_option maxRecDepth 100000 in
theorem Cn.v {o : xZ} (hp : p o) : Cn s p (some (o, s)) := ⟨_, _, rfl, hp, Or.inl rfl⟩
set_option maxRecDepth 100000 in
theorem z162 (h : CV s t ns) (hl : Ly tt (cCc xs) s) (x y z : Int32) : Cn s pI (dm162 x y z s) := by
  unfold dm162 dm162_10
  rcases y54 h.2.2.1 x with e | ⟨b, e, e2, e3, e4⟩
  · rw [e]
    simp only [bu_some, vN_null]
    exact Cn.x (Or.inr rfl) (by decide)
  · rw [e]
    simp only [bu_some, vN_ref]
    obtain ⟨r, er⟩ := y161 b y s
    rw [if_pos e2, er]
    simp only [bu_some]
    split
    · exact Cn.x (Or.inr rfl) (by decide)
    · obtain ⟨v, ev⟩ := y144 (h.2.2.2.1 b e2) (by rw [(hl.tr e2).2.2.2.2.2.2.1]) y z
      rw [ev]
      simp only [bu_some]
      exact Cn.v (Or.inl ⟨v, rfl⟩)
set_option maxRecDepth 100000 in
theorem z163 (h : CV s t ns) (hl : Ly tt (cCc xs) s) (x y : Int32) : Cn s pI (dm163 x y s) := by
  unfold dm163 dm163_12
  rcases y54 h.2.2.1 x with e | ⟨b, e, e2, e3, e4⟩
  · rw [e]
    simp only [bu_some, vN_null]
    rcases y54 h.2.2.1 y with f | ⟨c, f, f2, f3, f4⟩
    · rw [f]
      simp only [bu_some, vN_null]
      exact Cn.x (Or.inr rfl) (by decide)
    · rw [f]
      simp only [bu_some, vN_ref]
      rw [if_pos f2]
      exact Cn.x (Or.inr rfl) (by decide)
  · rw [e]
    simp only [bu_some, vN_ref]
    rw [if_pos e2]
    rcases y54 h.2.2.1 y with f | ⟨c, f, f2, f3, f4⟩
    · rw [f]
      simp only [bu_some, vN_null]
      exact Cn.x (Or.inr rfl) (by decide)
    · rw [f]
      simp only [bu_some, vN_ref]
      obtain ⟨v, ev, hv⟩ := y164 (h.2.2.2.1 b e2) (h.2.2.2.1 c f2) (by rw [(hl.tr e2).2.2.2.2.2.2.1]) (by rw [(hl.tr f2).2.2.2.2.2.2.1])
      rw [if_pos f2, ev]
      simp only [bu_some]
      rw [if_pos hv]
      exact Cn.v (Or.inl ⟨v, rfl⟩)
end CVs
/-- formulas with their letters -/
def CG (s : aS) (fs : Nat → Option Fm) (lt : Nat → Nat → List Int32) : Prop := CF s fs ∧ CLt s fs lt
def SG (tt : Nat) (xs : List Int32) (s : aS) (t : List Int32) (ns : List (List Int32)) (fs : Nat → Option Fm) (lt : Nat → Nat → List Int32) : Prop := SS tt xs s t ns fs lt ∧ CG s fs lt
section SGs
variable {tt : Nat} {xs : List Int32} {s s1 s2 : aS} {t : List Int32} {ns : List (List Int32)} {fs : Nat → Option Fm} {lt : Nat → Nat → List Int32} {A : Nat → Nat → Prop}
set_option maxRecDepth 100000 in
theorem CF.of9 (h : CF s fs) (hl : Ly tt (cCc xs) s) (g : ch A s s1) (hA : ∀ a k, A a k → a < 100 ∨ (106 ≤ a ∧ a ≤ 148)) : CF s1 fs := fun f hf => ⟨fun q => (g.i fun z => by have := hA _ _ z; omega).trans ((h f hf).1 q), fun ho L q => by
  obtain ⟨a1, a2, b, a3, a4, a5⟩ := (h f hf).2 ho L q
  have hb := tr_at hl a4
  exact ⟨(g.i fun z => by have := hA _ _ z; omega).trans a1, a2, b, (g.r fun z => by have := hA _ _ z; omega).trans a3, g.k.mpr a4, a5.of g (fun z => by have := hA _ _ z; omega) (fun k z => by have := hA _ _ z; omega)⟩⟩
set_option maxRecDepth 100000 in
theorem CF.gx (h : CF s fs) (hl : Ly tt (cCc xs) s) (g : gx s s1) : CF s1 fs := fun f hf => by
  have hL : 149 ≤ sL s := hl.1
  refine ⟨fun q => ((g.2 101 (by omega)).2.1 f).trans ((h f hf).1 q), fun ho L q => ?_⟩
  obtain ⟨a1, a2, b, a3, a4, a5⟩ := (h f hf).2 ho L q
  have hb := (hl.tr a4).2.2.2.1
  exact ⟨((g.2 101 (by omega)).2.1 f).trans a1, a2, b, ((g.2 100 (by omega)).2.2 f).trans a3, g.k a4, ((g.2 b (by omega)).2.1 2).trans a5.1, a5.2.1, fun i hi w hw => ((g.2 (b + 1) (by omega)).2.1 _).trans (a5.2.2 i hi w hw)⟩
set_option maxRecDepth 100000 in
theorem CF.j {k : Nat} {v : Int64} (h : CF s fs) : CF (wJ s 148 k v) fs := h
set_option maxRecDepth 100000 in
theorem CG.of9 (h : CG s fs lt) (hl : Ly tt (cCc xs) s) (g : ch A s s1) (hA : ∀ a k, A a k → a < 100 ∨ (106 ≤ a ∧ a ≤ 148)) : CG s1 fs lt := ⟨h.1.of9 hl g hA, CLt.go h.1 h.2 (fun f _ _ => g.r fun z => by have := hA _ _ z; omega) (fun f b _ _ _ hk => by
  have hb := tr_at hl hk
  exact ⟨fun k => g.i fun z => (by have := hA _ _ z; omega), g.i fun z => (by have := hA _ _ z; omega), fun k => g.i fun z => (by have := hA _ _ z; omega)⟩)⟩
set_option maxRecDepth 100000 in
theorem CG.gx (h : CG s fs lt) (hl : Ly tt (cCc xs) s) (g : gx s s1) : CG s1 fs lt := ⟨h.1.gx hl g, CLt.go h.1 h.2 (fun f _ _ => (g.2 100 (by have : 149 ≤ sL s := hl.1; omega)).2.2 f) (fun f b _ _ _ hk => by
  have hb := (hl.tr hk).2.2.2.1
  exact ⟨fun k => (g.2 (b + 1) (by omega)).2.1 k, (g.2 (b + 2) (by omega)).2.1 1, fun k => (g.2 (b + 3) (by omega)).2.1 k⟩)⟩
set_option maxRecDepth 100000 in
theorem CG.j {k : Nat} {v : Int64} (h : CG s fs lt) : CG (wJ s 148 k v) fs lt := ⟨h.1.j, h.2⟩
set_option maxRecDepth 100000 in
/-- cells and ranges have no letters -/
theorem RV.em (h : RV s t ns fs lt) : ∀ f, f < 8 → ∀ h9 L, fs f = some (h9, L) → ∀ i (g : i < L.length), isRf L[i] → lt f i = [] := fun f hf h9 L q i g z => (h.2.2.2.1 f hf h9 L q i g).2.2 (fun y => by
  rcases z with z | z
  · rw [z] at y
    revert y
    decide
  · rw [z] at y
    revert y
    decide)
set_option maxRecDepth 100000 in
theorem ly_nw {y : Nat} (hl : Ly tt (cCc xs) s) (hy : y ≠ 1 ∧ y ≠ 3 ∧ y ≠ 70) : Ly tt (cCc xs) (nw s y 0) := hl.nwd lay_sm1 lay_sm2 hy
set_option maxRecDepth 100000 in
theorem RV.nw9 {y : Nat} (h : RV s t ns fs lt) (hl : Ly tt (cCc xs) s) : RV (nw s y 0) t ns fs lt := h.same fun a k h1 h2 => sI_nw (by have : 149 ≤ sL s := hl.1; omega)
set_option maxRecDepth 100000 in
theorem RV.j9 {k : Nat} {v : Int64} (h : RV s t ns fs lt) : RV (wJ s 148 k v) t ns fs lt := h.same fun _ _ _ _ => rfl
set_option maxRecDepth 100000 in
/-- the reference has had its turn -/
theorem SG.m (h1 : Ly tt (cCc xs) s1) (hv : CV s1 t ns) (hc : CG s1 fs lt) (l2 : Ly tt (cCc xs) s2) (g : ch mA s1 s2) (hr : RV s2 t ns fs lt) : SG tt xs s2 t ns fs lt := ⟨⟨l2, hv.m h1 g, hr⟩, hc.of9 h1 g (fun a k z => by unfold mA at z; omega)⟩
set_option maxRecDepth 100000 in
/-- something was thrown, and the reference says so -/
theorem SG.tw (h : SG tt xs s t ns fs lt) {y : Nat} (hy : y = 80 ∨ y = 81 ∨ y = 82) (w : Int32) : Ly tt (cCc xs) (nw s y 0) ∧ RV (nw s y 0) t ns fs lt ∧ SG tt xs (wI (nw s y 0) 121 0 w) t ns fs lt ∧ gw s (wI (nw s y 0) 121 0 w) := by
  obtain ⟨⟨hl, hv, hr⟩, hc⟩ := h
  have l1 : Ly tt (cCc xs) (nw s y 0) := ly_nw hl (by omega)
  have r1 := hr.nw9 (y := y) hl
  exact ⟨l1, r1, SG.m l1 (hv.thr hl (by omega)) (hc.gx hl (gx_nw s y 0)) (l1.wId (by decide)) (r1.t0 w).2 (r1.t0 w).1, (gw_nw s).tr (r1.t0 w).2⟩
set_option maxRecDepth 100000 in
/-- an answer, and the reference's -/
theorem SG.a (h : SG tt xs s t ns fs lt) (k : Nat) (v : Int64) (w : Int32) : Ly tt (cCc xs) (wJ s 148 k v) ∧ RV (wJ s 148 k v) t ns fs lt ∧ SG tt xs (wI (wJ s 148 k v) 121 0 w) t ns fs lt ∧ gw s (wI (wJ s 148 k v) 121 0 w) := by
  obtain ⟨⟨hl, hv, hr⟩, hc⟩ := h
  have l1 : Ly tt (cCc xs) (wJ s 148 k v) := hl.wJd
  have r1 := hr.j9 (k := k) (v := v)
  exact ⟨l1, r1, SG.m l1 hv.j hc.j (l1.wId (by decide)) (r1.t0 w).2 (r1.t0 w).1, ((gw_ch (ch.refl (fun _ _ => False) s)).j (k := k) (v := v)).tr (r1.t0 w).2⟩
end SGs
end
section
/-! each call in both, with the formulas: the calls that tell -/
section SGs
variable {tt : Nat} {xs : List Int32} {s s1 s2 : aS} {t : List Int32} {ns : List (List Int32)} {fs : Nat → Option Fm} {lt : Nat → Nat → List Int32} {A : Nat → Nat → Prop}
/-- how a call that answers ends in both: c says what is compared -/
def PV (tt : Nat) (xs : List Int32) (s : aS) (c : Prop) (D1 : Option (Int32 × aS)) (D2 : aS → Option (Int32 × aS)) : Prop := ∃ k s1 b s2 t1 ns1 fs1 lt1, D1 = some (k, s1) ∧ Ly tt (cCc xs) s1 ∧ D2 s1 = some (b, s2) ∧ (c → sI s2 121 0 = k ∧ (k = 0 → sJ s2 148 0 = b.toInt64)) ∧ SG tt xs s2 t1 ns1 fs1 lt1 ∧ gw s s2
def PN (tt : Nat) (xs : List Int32) (s : aS) (D1 : Option (Int32 × aS)) (D2 : aS → Option aS) : Prop := ∃ k s1 s2 t1 ns1 fs1 lt1, D1 = some (k, s1) ∧ Ly tt (cCc xs) s1 ∧ D2 s1 = some s2 ∧ sI s2 121 0 = k ∧ SG tt xs s2 t1 ns1 fs1 lt1 ∧ gw s s2
set_option maxRecDepth 100000 in
theorem s_size (h : SG tt xs s t ns fs lt) (x : Int32) : PV tt xs s True (dm10 x s) (dm243 x) := by
  rcases d159 h.2.1 x with ⟨c, e⟩ | ⟨ho, L, c, e⟩
  · have e1 : dm10 x s = some (1, nw s 82 0) := by
      unfold dm10
      rw [e]
      rfl
    obtain ⟨l1, r1, f1, g1⟩ := h.tw (y := 82) (by omega) 1
    rcases d243 r1.2.2.1 x with ⟨d, f⟩ | ⟨ho, L, d, f⟩
    · exact ⟨_, _, _, _, t, ns, fs, lt, e1, l1, f, fun _ => ⟨w120 _ 1, fun z => absurd z (by decide)⟩, f1, g1⟩
    · rw [c] at d
      cases d
  · have e3 : dm10 x s = some (0, wJ s 148 (jN 0) (Int32.ofNat L.length).toInt64) := by
      unfold dm10
      rw [e]
      simp only [bv_some]
      rw [zN_l, vI_int, if_pos a01, nx_eq]
    obtain ⟨l1, r1, f1, g1⟩ := h.a (jN 0) (Int32.ofNat L.length).toInt64 0
    rcases d243 r1.2.2.1 x with ⟨d, f⟩ | ⟨ho2, L2, d, f⟩
    · rw [c] at d
      cases d
    · rw [c] at d
      cases d
      exact ⟨_, _, _, _, t, ns, fs, lt, e3, l1, f, fun _ => ⟨w120 _ 0, fun _ => by rw [sJ_wI, sJ_wJ, if_pos ⟨rfl, rfl⟩]⟩, f1, g1⟩
set_option maxRecDepth 100000 in
theorem s_node (h : SG tt xs s t ns fs lt) (x y z : Int32) : PV tt xs s True (dm11 x y z s) (dm244 x y z) := by
  rcases d160 h.2.1 x y z with ⟨c, e⟩ | ⟨ho, L, c, cy, ⟨cz, e⟩ | ⟨cz, e⟩⟩
  · have e1 : dm11 x y z s = some (1, nw s 82 0) := by
      unfold dm11
      rw [e]
      rfl
    obtain ⟨l1, r1, f1, g1⟩ := h.tw (y := 82) (by omega) 1
    rcases d244 r1.2.2.1 x y z with ⟨d, f⟩ | ⟨ho, L, d, dy, -⟩
    · exact ⟨_, _, _, _, t, ns, fs, lt, e1, l1, f, fun _ => ⟨w120 _ 1, fun z => absurd z (by decide)⟩, f1, g1⟩
    · rcases c with c | ⟨ho2, L2, c, cy⟩
      · rw [c] at d
        cases d
      · rw [c] at d
        cases d
        exact absurd dy cy
  · have e1 : dm11 x y z s = some (2, nw s 80 0) := by
      unfold dm11
      rw [e]
      rfl
    obtain ⟨l1, r1, f1, g1⟩ := h.tw (y := 80) (by omega) 2
    rcases d244 r1.2.2.1 x y z with ⟨d, -⟩ | ⟨ho2, L2, d, dy, ⟨dz, f⟩ | ⟨dz, -⟩⟩
    · rcases d with d | ⟨ho2, L2, d, dy⟩
      · rw [c] at d
        cases d
      · rw [c] at d
        cases d
        exact absurd cy dy
    · exact ⟨_, _, _, _, t, ns, fs, lt, e1, l1, f, fun _ => ⟨w120 _ 2, fun z => absurd z (by decide)⟩, f1, g1⟩
    · exact absurd dz cz
  · have e3 : dm11 x y z s = some (0, wJ s 148 (jN 0) ((L.getD y.toInt.toNat (fun _ => 0)) z.toInt.toNat).toInt64) := by
      unfold dm11
      rw [e]
      simp only [bv_some]
      rw [zN_l, vI_int, if_pos a01, nx_eq]
    obtain ⟨l1, r1, f1, g1⟩ := h.a (jN 0) ((L.getD y.toInt.toNat (fun _ => 0)) z.toInt.toNat).toInt64 0
    rcases d244 r1.2.2.1 x y z with ⟨d, -⟩ | ⟨ho2, L2, d, dy, ⟨dz, -⟩ | ⟨dz, f⟩⟩
    · rcases d with d | ⟨ho2, L2, d, dy⟩
      · rw [c] at d
        cases d
      · rw [c] at d
        cases d
        exact absurd cy dy
    · exact absurd cz dz
    · rw [c] at d
      cases d
      exact ⟨_, _, _, _, t, ns, fs, lt, e3, l1, f, fun _ => ⟨w120 _ 0, fun _ => by rw [sJ_wI, sJ_wJ, if_pos ⟨rfl, rfl⟩]⟩, f1, g1⟩
set_option maxRecDepth 100000 in
theorem s_count (h : SG tt xs s t ns fs lt) (x : Int32) : PV tt xs s True (dm14 x s) (dm249 x) := by
  rcases d166 h.1.2.1.2.1.1.1 h.2.1 x with ⟨c, e⟩ | ⟨c, e⟩
  · have e1 : dm14 x s = some (1, nw s 80 0) := by
      unfold dm14
      rw [e]
      rfl
    obtain ⟨l1, r1, f1, g1⟩ := h.tw (y := 80) (by omega) 1
    rcases d249 r1.2.1 r1.2.2.1 x with ⟨d, f⟩ | ⟨d, -⟩
    · exact ⟨_, _, _, _, t, ns, fs, lt, e1, l1, f, fun _ => ⟨w120 _ 1, fun z => absurd z (by decide)⟩, f1, g1⟩
    · exact absurd d c
  · have e3 : dm14 x s = some (0, wJ s 148 (jN 0) (cntV ns fs x).toInt64) := by
      unfold dm14
      rw [e]
      simp only [bv_some]
      rw [zN_l, vI_int, if_pos a01, nx_eq]
    obtain ⟨l1, r1, f1, g1⟩ := h.a (jN 0) (cntV ns fs x).toInt64 0
    rcases d249 r1.2.1 r1.2.2.1 x with ⟨d, -⟩ | ⟨d, f⟩
    · exact absurd c d
    · exact ⟨_, _, _, _, t, ns, fs, lt, e3, l1, f, fun _ => ⟨w120 _ 0, fun _ => by rw [sJ_wI, sJ_wJ, if_pos ⟨rfl, rfl⟩]⟩, f1, g1⟩
set_option maxRecDepth 100000 in
theorem s_name (h : SG tt xs s t ns fs lt) (x y : Int32) : PV tt xs s True (dm15 x y s) (dm250 x y) := by
  rcases d169 h.1.2.1.2.1.1.1 (RC.ly h.1.1) h.1.2.1.2.1.2 x y with ⟨c, e⟩ | ⟨c, e⟩
  · have e1 : dm15 x y s = some (1, nw s 82 0) := by
      unfold dm15
      rw [e]
      rfl
    obtain ⟨l1, r1, f1, g1⟩ := h.tw (y := 82) (by omega) 1
    rcases d250 r1.2.1 h.1.2.1.2.1.2 x y with ⟨d, f⟩ | ⟨d, -⟩
    · exact ⟨_, _, _, _, t, ns, fs, lt, e1, l1, f, fun _ => ⟨w120 _ 1, fun z => absurd z (by decide)⟩, f1, g1⟩
    · exact absurd d c
  · have e3 : dm15 x y s = some (0, wJ s 148 (jN 0) (if y.toInt < 0 then -1 else (ns.getD x.toInt.toNat []).getD y.toInt.toNat (-1) : Int32).toInt64) := by
      unfold dm15
      rw [e]
      simp only [bv_some]
      rw [zN_l, vI_int, if_pos a01, nx_eq]
    obtain ⟨l1, r1, f1, g1⟩ := h.a (jN 0) (if y.toInt < 0 then -1 else (ns.getD x.toInt.toNat []).getD y.toInt.toNat (-1) : Int32).toInt64 0
    rcases d250 r1.2.1 h.1.2.1.2.1.2 x y with ⟨d, -⟩ | ⟨d, f⟩
    · exact absurd c d
    · exact ⟨_, _, _, _, t, ns, fs, lt, e3, l1, f, fun _ => ⟨w120 _ 0, fun _ => by rw [sJ_wI, sJ_wJ, if_pos ⟨rfl, rfl⟩]⟩, f1, g1⟩
set_option maxRecDepth 100000 in
theorem s_letter (h : SG tt xs s t ns fs lt) (x y z : Int32) : PV tt xs s True (dm12 x y z s) (dm246 x y z) := by
  rcases d162 h.1.1 h.2.1 h.2.2 x y z with ⟨c, e⟩ | ⟨ho, L, c, cy, e⟩
  · have e1 : dm12 x y z s = some (1, nw s 82 0) := by
      unfold dm12
      rw [e]
      rfl
    obtain ⟨l1, r1, f1, g1⟩ := h.tw (y := 82) (by omega) 1
    rcases d246 r1.2.2.1 r1.2.2.2.1 x y z with ⟨d, f⟩ | ⟨ho, L, d, dy, -⟩
    · exact ⟨_, _, _, _, t, ns, fs, lt, e1, l1, f, fun _ => ⟨w120 _ 1, fun z => absurd z (by decide)⟩, f1, g1⟩
    · rcases c with c | ⟨ho2, L2, c, cy⟩
      · rw [c] at d
        cases d
      · rw [c] at d
        cases d
        exact absurd dy cy
  · have e3 : dm12 x y z s = some (0, wJ s 148 (jN 0) (if z.toInt < 0 then -1 else (lt x.toInt.toNat y.toInt.toNat).getD z.toInt.toNat (-1) : Int32).toInt64) := by
      unfold dm12
      rw [e]
      simp only [bv_some]
      rw [zN_l, vI_int, if_pos a01, nx_eq]
    obtain ⟨l1, r1, f1, g1⟩ := h.a (jN 0) (if z.toInt < 0 then -1 else (lt x.toInt.toNat y.toInt.toNat).getD z.toInt.toNat (-1) : Int32).toInt64 0
    rcases d246 r1.2.2.1 r1.2.2.2.1 x y z with ⟨d, -⟩ | ⟨ho2, L2, d, dy, f⟩
    · rcases d with d | ⟨ho2, L2, d, dy⟩
      · rw [c] at d
        cases d
      · rw [c] at d
        cases d
        exact absurd cy dy
    · exact ⟨_, _, _, _, t, ns, fs, lt, e3, l1, f, fun _ => ⟨w120 _ 0, fun _ => by rw [sJ_wI, sJ_wJ, if_pos ⟨rfl, rfl⟩]⟩, f1, g1⟩
set_option maxRecDepth 100000 in
theorem s_same (h : SG tt xs s t ns fs lt) (x y : Int32) : PV tt xs s True (dm13 x y s) (dm248 x y) := by
  rcases d163 h.1.1 h.2.1 h.2.2 h.1.2.2.2.2.2.2.1 x y with ⟨c, e⟩ | ⟨h1, L, h2, M, c1, c2, e⟩
  · have e1 : dm13 x y s = some (1, nw s 82 0) := by
      unfold dm13
      rw [e]
      rfl
    obtain ⟨l1, r1, f1, g1⟩ := h.tw (y := 82) (by omega) 1
    rcases d248 r1.2.2.1 r1.2.2.2.1 r1.2.2.2.2.1 x y with ⟨d, f⟩ | ⟨h1, L, h2, M, d1, d2, -⟩
    · exact ⟨_, _, _, _, t, ns, fs, lt, e1, l1, f, fun _ => ⟨w120 _ 1, fun z => absurd z (by decide)⟩, f1, g1⟩
    · rcases c with c | c
      · rw [c] at d1
        cases d1
      · rw [c] at d2
        cases d2
  · have e3 : dm13 x y s = some (0, wJ s 148 (jN 0) (b01 (samF L M (lt x.toInt.toNat) (lt y.toInt.toNat))).toInt64) := by
      unfold dm13 dm13_10
      rw [e]
      simp only [bv_some]
      rw [zN_l, vI_int, if_pos a01, if_pos a01]
      simp only [nx_eq]
      have e10 : (1 : Int32).toInt64 = 1 := by decide
      have e00 : (0 : Int32).toInt64 = 0 := by decide
      by_cases p : samF L M (lt x.toInt.toNat) (lt y.toInt.toNat)
      · rw [b01_t p, if_neg (by decide), e10]
      · rw [b01_f p, if_pos rfl, e00]
    obtain ⟨l1, r1, f1, g1⟩ := h.a (jN 0) (b01 (samF L M (lt x.toInt.toNat) (lt y.toInt.toNat))).toInt64 0
    rcases d248 r1.2.2.1 r1.2.2.2.1 r1.2.2.2.2.1 x y with ⟨d, -⟩ | ⟨h3, L3, h4, M4, d1, d2, f⟩
    · rcases d with d | d
      · rw [c1] at d
        cases d
      · rw [c2] at d
        cases d
    · have eL : L3 = L := (Prod.mk.inj (Option.some.inj (d1.symm.trans c1))).2
      have eM : M4 = M := (Prod.mk.inj (Option.some.inj (d2.symm.trans c2))).2
      rw [eL, eM] at f
      exact ⟨_, _, _, _, t, ns, fs, lt, e3, l1, f, fun _ => ⟨w120 _ 0, fun _ => by rw [sJ_wI, sJ_wJ, if_pos ⟨rfl, rfl⟩]⟩, f1, g1⟩
set_option maxRecDepth 100000 in
/-- a call of which only the end is shown here -/
theorem s_form (h : SG tt xs s t ns fs lt) (x k : Int32) : PV tt xs s False (dm9 x k s) (dm232 x k) := by
  have ref : ∀ v s1, dm9 x k s = some (v, s1) → Ly tt (cCc xs) s1 → CV s1 t ns → CG s1 fs lt → RV s1 t ns fs lt → gw s s1 → PV tt xs s False (dm9 x k s) (dm232 x k) := by
    intro v s1 e l1 v1 c1 r1 g1
    obtain ⟨b, s2, f, f1, f2⟩ := r232 r1 v1.2.1.2 x k
    have q := dt232 (sio := true) (d := 2000) (by decide) l1 f
    exact ⟨v, s1, b, s2, t, ns, fs, lt, e, l1, f, fun z => z.elim, SG.m l1 v1 c1 q.1 f2 f1, g1.tr f2⟩
  obtain ⟨⟨hl, hv, hr⟩, hc⟩ := h
  rcases y54 hv.2.2.1 x with e | ⟨b, e, e2, e3, e4⟩
  · have e5 : dm9 x k s = some (1, nw s 82 0) := by
      unfold dm9 dm138
      rw [e]
      rfl
    exact ref _ _ e5 (ly_nw hl (by decide)) (hv.thr hl (by decide)) (hc.gx hl (gx_nw s 82 0)) (hr.nw9 hl) (gw_nw s)
  · obtain ⟨N, u, w1, w2, w3, w4⟩ := hv.2.2.2.1 b e2
    obtain ⟨v, s1, g1, g2⟩ := c139 (ns := ns) e2 (tr_at hl e2) ⟨N, u, w1, w2, w3, fun k hk => by
      obtain ⟨l, q, -⟩ := w4 k hk
      exact ⟨l, q⟩⟩ (by rw [(hl.tr e2).2.2.2.2.2.2.1]) hv.2.1.1.1 hv.2.1.2 (RC.ly hl) (AS.ly hl) k
    have l1 := (dt139 (sio := true) (d := 2000) (by decide) hl e2 g1).1
    have e5 : dm9 x k s = some (0, wJ s1 148 (jN 0) v.toInt64) := by
      unfold dm9 dm138
      rw [e]
      simp only [bu_some, vN_ref]
      rw [if_pos e2, g1]
      simp only [bv_some]
      rw [zN_l, vI_int, if_pos a01, nx_eq]
    exact ref _ _ e5 l1.wJd (hv.of hl g2 (fun a k z => Or.inr (by omega))).j (hc.of9 hl g2 (fun a k z => by omega)).j ((hr.same fun a k h1 h2 => g2.i (by omega)).j9) ((gw_ch g2).j)
set_option maxRecDepth 100000 in
theorem s_remove (h : SG tt xs s t ns fs lt) (x : Int32) : PN tt xs s (dm8 x s) (dm231 x) := by
  have h0 := h
  obtain ⟨⟨hl, hv, hr⟩, hc⟩ := h
  rcases d137 hc.1 x with ⟨c, e⟩ | ⟨ho, L, c, e⟩
  · have e1 : dm8 x s = some (1, nw s 82 0) := by
      unfold dm8
      rw [e]
      rfl
    obtain ⟨l1, r1, f1, g1⟩ := h0.tw (y := 82) (by omega) 1
    rcases d231 r1.2.2.1 x with ⟨d, f⟩ | ⟨ho, L, d, f⟩
    · exact ⟨_, _, _, t, ns, fs, lt, e1, l1, f, w120 _ 1, f1, g1⟩
    · rw [c] at d
      cases d
  · have e1 : dm8 x s = some (0, wI s 101 x.toInt.toNat (-1)) := by
      unfold dm8
      rw [e]
      rfl
    obtain ⟨f1, f2⟩ := fAt_s c
    have g : ch (fun a k => a = 101 ∧ k = x.toInt.toNat) s (wI s 101 x.toInt.toNat (-1)) := (ch.refl _ s).wI ⟨rfl, rfl⟩
    have l1 : Ly tt (cCc xs) (wI s 101 x.toInt.toNat (-1)) := hl.wId (by decide)
    have r1 : RV (wI s 101 x.toInt.toNat (-1)) t ns fs lt := hr.same fun a k h1 h2 => g.i (by omega)
    have v1 : CV (wI s 101 x.toInt.toNat (-1)) t ns := hv.of hl g (fun a k z => Or.inl z.1)
    have u1 : CLt (wI s 101 x.toInt.toNat (-1)) (fsDel fs x.toInt.toNat) lt := (CLt.go hc.1 hc.2 (fun f _ _ => g.r (by omega)) (fun f b _ _ _ hk => by
      have hb := tr_at hl hk
      exact ⟨fun k => g.i (by omega), g.i (by omega), fun k => g.i (by omega)⟩)).len (fun f h9 L9 q => by
      unfold fsDel at q
      by_cases ef : f = x.toInt.toNat
      · rw [if_pos ef] at q
        cases q
      · rw [if_neg ef] at q
        exact ⟨h9, L9, q, rfl⟩)
    have c1 : CF (wI s 101 x.toInt.toNat (-1)) (fsDel fs x.toInt.toNat) := fun f hf => by
      unfold fsDel
      by_cases ef : f = x.toInt.toNat
      · rw [if_pos ef]
        exact ⟨fun _ => by rw [sI_wI, if_pos ⟨rfl, ef⟩], fun h9 L9 q => (by cases q)⟩
      · rw [if_neg ef]
        refine ⟨fun q => (g.i (by omega)).trans ((hc.1 f hf).1 q), fun h9 L9 q => ?_⟩
        obtain ⟨a1, a2, b, a3, a4, a5⟩ := (hc.1 f hf).2 h9 L9 q
        have hb := tr_at hl a4
        exact ⟨(g.i (by omega)).trans a1, a2, b, (g.r (by omega)).trans a3, g.k.mpr a4, a5.of g (by omega) (fun k => by omega)⟩
    rcases R231 r1 x with ⟨d, -⟩ | ⟨d, s2, f, f3, f4, f5⟩
    · rw [c] at d
      cases d
    · have q := dt231 (sio := true) (d := 2000) (by decide) l1 f
      exact ⟨_, _, s2, t, ns, _, lt, e1, l1, f, f3, SG.m l1 v1 ⟨c1, u1⟩ q.1 f5 f4, (gw_ch g).tr f5⟩
end SGs
end
section
/-! each call in both, with the formulas: text and names -/
section SGs
variable {tt : Nat} {xs : List Int32} {s s1 s2 : aS} {t : List Int32} {ns : List (List Int32)} {fs : Nat → Option Fm} {lt : Nat → Nat → List Int32} {A : Nat → Nat → Prop}
set_option maxRecDepth 100000 in
theorem s_type (h : SG tt xs s t ns fs lt) (x : Int32) : PV tt xs s True (dm1 x s) (dm172 x) := by
  obtain ⟨⟨hl, hv, hr⟩, hc⟩ := h
  have T80 : (sT s 80).2 = 256 := (RC.ly hl).1
  have fin : ∀ k s1, dm1 x s = some (k, s1) → Ly tt (cCc xs) s1 ∧ RV s1 t ns fs lt := fun k s1 e => by
    have q := dt1 (sio := true) (d := 2000) (by decide) hl e
    exact ⟨q.1, hr.ex hl q.2.1⟩
  rcases t27 (x := x) hv.1.1 T80 hv.1.2.1 with ⟨c, e⟩ | ⟨c, c2, e⟩ | ⟨c, c2, s1, e, e1, e2⟩
  · have e1 : dm1 x s = some (1, nw s 80 0) := by
      unfold dm1
      rw [e]
      rfl
    obtain ⟨l1, v1⟩ := fin _ _ e1
    rcases t172 (x := x) v1.1 hv.1.2.1 with ⟨d, f⟩ | ⟨d, -⟩ | ⟨d, -⟩
    · have q := dt172 (sio := true) (d := 2000) (by decide) l1 f
      exact ⟨_, _, _, _, t, ns, fs, lt, e1, l1, f, fun _ => ⟨by rw [sI_wI, if_pos ⟨rfl, rfl⟩], fun z => absurd z (by decide)⟩, SG.m l1 (hv.thr hl (by decide)) (hc.gx hl (gx_nw s 80 0)) q.1 (v1.t0 1).2 (v1.t0 1).1, (gw_nw s).tr (v1.t0 1).2⟩
    · exact absurd d c
    · exact absurd d c
  · have e1 : dm1 x s = some (2, nw s 81 0) := by
      unfold dm1
      rw [e]
      rfl
    obtain ⟨l1, v1⟩ := fin _ _ e1
    rcases t172 (x := x) v1.1 hv.1.2.1 with ⟨d, f⟩ | ⟨d, -, f⟩ | ⟨d, d2, -⟩
    · exact absurd c d
    · have q := dt172 (sio := true) (d := 2000) (by decide) l1 f
      exact ⟨_, _, _, _, t, ns, fs, lt, e1, l1, f, fun _ => ⟨by rw [sI_wI, if_pos ⟨rfl, rfl⟩], fun z => absurd z (by decide)⟩, SG.m l1 (hv.thr hl (by decide)) (hc.gx hl (gx_nw s 81 0)) q.1 (v1.t0 2).2 (v1.t0 2).1, (gw_nw s).tr (v1.t0 2).2⟩
    · omega
  · have e3 : dm1 x s = some (0, wJ s1 148 (jN 0) (Int32.ofNat (t ++ nzF x 4 0).length).toInt64) := by
      unfold dm1
      rw [e]
      simp only [bv_some]
      rw [zN_l, vI_int, if_pos a01, nx_eq]
    obtain ⟨l1, v1⟩ := fin _ _ e3
    have hlen : (t ++ nzF x 4 0).length ≤ 256 := by rw [List.length_append, nzF_len]; exact c2
    have hok : okT (t ++ nzF x 4 0) := okT_ap hv.1.2.2 (nzF_ok x 4 0 c)
    have w1 : CV (wJ s1 148 (jN 0) (Int32.ofNat (t ++ nzF x 4 0).length).toInt64) (t ++ nzF x 4 0) ns := (hv.tx hl (e2.mono fun a k z => by omega) e1 ⟨hlen, hok⟩).j
    rcases t172 (x := x) v1.1 hv.1.2.1 with ⟨d, -⟩ | ⟨d, d2, -⟩ | ⟨d, d2, s2, f, f1, f2, f3⟩
    · exact absurd c d
    · omega
    · have q := dt172 (sio := true) (d := 2000) (by decide) l1 f
      have g : ch mA (wJ s1 148 (jN 0) (Int32.ofNat (t ++ nzF x 4 0).length).toInt64) s2 := f3.mono fun a k z => by unfold mA; omega
      refine ⟨_, _, _, s2, t ++ nzF x 4 0, ns, fs, lt, e3, l1, f, fun _ => ⟨f2, fun _ => ?_⟩, SG.m l1 w1 (hc.of9 hl e2 (fun a k z => by omega)).j q.1 g ⟨f1, v1.2.1.of f3 (fun a k z => by omega), v1.2.2.1.of f3 (fun a k z => by omega), v1.2.2.2.1.of f3 (fun a k z => by omega), v1.2.2.2.2⟩, ?_⟩
      · rw [jj f3 (by omega), sJ_wJ, if_pos ⟨rfl, rfl⟩]
      · exact ((gw_ch e2).j (k := jN 0) (v := (Int32.ofNat (t ++ nzF x 4 0).length).toInt64)).tr f3
set_option maxRecDepth 100000 in
theorem s_erase (h : SG tt xs s t ns fs lt) : ∃ s1 s2, dm25 s = some s1 ∧ dm173 s1 = some s2 ∧ SG tt xs s2 [] ns fs lt ∧ gw s s2 := by
  obtain ⟨⟨hl, hv, hr⟩, hc⟩ := h
  have e : dm25 s = some (wI s 79 1 0) := rfl
  have g1 : ch (fun a _ => a = 79 ∨ a = 80) s (wI s 79 1 0) := (ch.refl _ s).wI (Or.inl rfl)
  have q := dt25 (sio := true) (d := 2000) (by decide) hl e
  have w1 : CV (wI s 79 1 0) [] ns := hv.tx hl g1 ⟨by rw [sI_wI, if_pos ⟨rfl, rfl⟩]; rfl, fun j hj => absurd hj (Nat.not_lt_zero j)⟩ ⟨Nat.zero_le _, fun y hy => (by cases hy)⟩
  obtain ⟨s2, f, f1, f2⟩ := r173 (hr.ex hl q.2.1)
  have q2 := dt173 (sio := true) (d := 2000) (by decide) q.1 f
  exact ⟨_, s2, e, f, SG.m q.1 w1 (hc.of9 hl g1 (fun a k z => by omega)) q2.1 f2 f1, (gw_ch g1).tr f2⟩
set_option maxRecDepth 100000 in
theorem s_sheet (h : SG tt xs s t ns fs lt) : PV tt xs s True (dm2 s) dm174 := by
  obtain ⟨⟨hl, hv, hr⟩, hc⟩ := h
  have fin : ∀ k s1, dm2 s = some (k, s1) → Ly tt (cCc xs) s1 ∧ RV s1 t ns fs lt := fun k s1 e => by
    have q := dt2 (sio := true) (d := 2000) (by decide) hl e
    exact ⟨q.1, hr.ex hl q.2.1⟩
  have T122 : ∀ s1, Ly tt (cCc xs) s1 → (sT s1 122).2 = 256 := fun s1 l1 => by rw [l1.T (a := 122) (p := (100, 256)) 44 rfl rfl]
  rcases d30 hv.2.1.1 (RC.ly hl) hv.2.1.2 (FB.ly hl) (TF.ly hl) hv.1.1 hv.1.2.1 hv.1.2.2 with ⟨c, e⟩ | ⟨c, c2, e⟩ | ⟨c, c2, s1, e, e1, e2⟩
  · have e1 : dm2 s = some (1, nw s 80 0) := by
      unfold dm2
      rw [e]
      rfl
    obtain ⟨l1, v1⟩ := fin _ _ e1
    rcases d174 v1.2.1 hv.2.1.2 v1.1 hv.1.2.1 (T122 _ l1) with ⟨d, f⟩ | ⟨d, -⟩ | ⟨d, -⟩
    · have q := dt174 (sio := true) (d := 2000) (by decide) l1 f
      exact ⟨_, _, _, _, t, ns, fs, lt, e1, l1, f, fun _ => ⟨by rw [sI_wI, if_pos ⟨rfl, rfl⟩], fun z => absurd z (by decide)⟩, SG.m l1 (hv.thr hl (by decide)) (hc.gx hl (gx_nw s 80 0)) q.1 (v1.t0 1).2 (v1.t0 1).1, (gw_nw s).tr (v1.t0 1).2⟩
    · exact absurd d c
    · exact absurd d c
  · have e1 : dm2 s = some (2, nw s 81 0) := by
      unfold dm2
      rw [e]
      rfl
    obtain ⟨l1, v1⟩ := fin _ _ e1
    rcases d174 v1.2.1 hv.2.1.2 v1.1 hv.1.2.1 (T122 _ l1) with ⟨d, f⟩ | ⟨d, -, f⟩ | ⟨d, d2, -⟩
    · exact absurd c d
    · have q := dt174 (sio := true) (d := 2000) (by decide) l1 f
      exact ⟨_, _, _, _, t, ns, fs, lt, e1, l1, f, fun _ => ⟨by rw [sI_wI, if_pos ⟨rfl, rfl⟩], fun z => absurd z (by decide)⟩, SG.m l1 (hv.thr hl (by decide)) (hc.gx hl (gx_nw s 81 0)) q.1 (v1.t0 2).2 (v1.t0 2).1, (gw_nw s).tr (v1.t0 2).2⟩
    · omega
  · have e3 : dm2 s = some (0, wJ s1 148 (jN 0) (Int32.ofNat ns.length).toInt64) := by
      unfold dm2
      rw [e]
      simp only [bv_some]
      rw [zN_l, vI_int, if_pos a01, nx_eq]
    obtain ⟨l1, v1⟩ := fin _ _ e3
    have w1 : CV (wJ s1 148 (jN 0) (Int32.ofNat ns.length).toInt64) t (ns ++ [t]) := (hv.nm hl e2 e1 (ok_ap hv.2.1.2 c2 c.1 hv.1.2.2)).j
    rcases d174 v1.2.1 hv.2.1.2 v1.1 hv.1.2.1 (T122 _ l1) with ⟨d, -⟩ | ⟨d, d2, -⟩ | ⟨d, d2, s2, f, f1, f2, f3⟩
    · exact absurd c d
    · omega
    · have q := dt174 (sio := true) (d := 2000) (by decide) l1 f
      have g : ch mA (wJ s1 148 (jN 0) (Int32.ofNat ns.length).toInt64) s2 := f3.mono fun a k z => by unfold mA; omega
      refine ⟨_, _, _, s2, t, ns ++ [t], fs, lt, e3, l1, f, fun _ => ⟨f2, fun _ => ?_⟩, SG.m l1 w1 (hc.of9 hl e2 (fun a k z => by omega)).j q.1 g ⟨v1.1.of f3 (by omega) (fun j => by omega), f1, v1.2.2.1.of f3 (fun a k z => by omega), v1.2.2.2.1.of f3 (fun a k z => by omega), v1.2.2.2.2.1, v1.2.2.2.2.2.len (by rw [List.length_append]; omega)⟩, ?_⟩
      · rw [jj f3 (by omega), sJ_wJ, if_pos ⟨rfl, rfl⟩]
      · exact ((gw_ch e2).j (k := jN 0) (v := (Int32.ofNat ns.length).toInt64)).tr f3
set_option maxRecDepth 100000 in
theorem s_rename (h : SG tt xs s t ns fs lt) (x : Int32) : PN tt xs s (dm3 x s) (dm180 x) := by
  obtain ⟨⟨hl, hv, hr⟩, hc⟩ := h
  have fin : ∀ k s1, dm3 x s = some (k, s1) → Ly tt (cCc xs) s1 ∧ RV s1 t ns fs lt := fun k s1 e => by
    have q := dt3 (sio := true) (d := 2000) (by decide) hl e
    exact ⟨q.1, hr.ex hl q.2.1⟩
  have T122 : ∀ s1, Ly tt (cCc xs) s1 → (sT s1 122).2 = 256 := fun s1 l1 => by rw [l1.T (a := 122) (p := (100, 256)) 44 rfl rfl]
  rcases d51 hv.2.1.1 (RC.ly hl) hv.2.1.2 (FB.ly hl) (TF.ly hl) hv.1.1 hv.1.2.1 hv.1.2.2 x with ⟨c, e⟩ | ⟨c, c2, e⟩ | ⟨c, c2, s1, e, e1, e2⟩
  · have e1 : dm3 x s = some (1, nw s 82 0) := by
      unfold dm3
      rw [e]
      rfl
    obtain ⟨l1, v1⟩ := fin _ _ e1
    rcases d180 v1.2.1 hv.2.1.2 v1.1 hv.1.2.1 (T122 _ l1) x with ⟨d, f⟩ | ⟨d, -⟩ | ⟨d, -⟩
    · have q := dt180 (sio := true) (d := 2000) (by decide) l1 f
      exact ⟨_, _, _, t, ns, fs, lt, e1, l1, f, by rw [sI_wI, if_pos ⟨rfl, rfl⟩], SG.m l1 (hv.thr hl (by decide)) (hc.gx hl (gx_nw s 82 0)) q.1 (v1.t0 1).2 (v1.t0 1).1, (gw_nw s).tr (v1.t0 1).2⟩
    · exact absurd d c
    · exact absurd d c
  · have e1 : dm3 x s = some (2, nw s 80 0) := by
      unfold dm3
      rw [e]
      rfl
    obtain ⟨l1, v1⟩ := fin _ _ e1
    rcases d180 v1.2.1 hv.2.1.2 v1.1 hv.1.2.1 (T122 _ l1) x with ⟨d, f⟩ | ⟨d, -, f⟩ | ⟨d, d2, -⟩
    · exact absurd c d
    · have q := dt180 (sio := true) (d := 2000) (by decide) l1 f
      exact ⟨_, _, _, t, ns, fs, lt, e1, l1, f, by rw [sI_wI, if_pos ⟨rfl, rfl⟩], SG.m l1 (hv.thr hl (by decide)) (hc.gx hl (gx_nw s 80 0)) q.1 (v1.t0 2).2 (v1.t0 2).1, (gw_nw s).tr (v1.t0 2).2⟩
    · exact absurd d2 c2
  · have e3 : dm3 x s = some (0, s1) := by
      unfold dm3
      rw [e]
      rfl
    obtain ⟨l1, v1⟩ := fin _ _ e3
    have w1 : CV s1 t (ns.set x.toInt.toNat t) := hv.nm hl e2 e1 (ok_set hv.2.1.2 c2.1 hv.1.2.2)
    rcases d180 v1.2.1 hv.2.1.2 v1.1 hv.1.2.1 (T122 _ l1) x with ⟨d, -⟩ | ⟨d, d2, -⟩ | ⟨d, d2, s2, f, f1, f2, f3⟩
    · exact absurd c d
    · exact absurd c2 d2
    · have q := dt180 (sio := true) (d := 2000) (by decide) l1 f
      have g : ch mA s1 s2 := f3.mono fun a k z => by unfold mA; omega
      exact ⟨_, _, s2, t, _, fs, lt, e3, l1, f, f2, SG.m l1 w1 (hc.of9 hl e2 (fun a k z => by omega)) q.1 g ⟨v1.1.of f3 (by omega) (fun j => by omega), f1, v1.2.2.1.of f3 (fun a k z => by omega), v1.2.2.2.1.of f3 (fun a k z => by omega), v1.2.2.2.2.1, v1.2.2.2.2.2.len (by rw [List.length_set]; omega)⟩, (gw_ch e2).tr f3⟩
end SGs
end
section
/-! each call in both, with the formulas: drop, shift, move -/
section SGs
variable {tt : Nat} {xs : List Int32} {s s1 s2 : aS} {t : List Int32} {ns : List (List Int32)} {fs : Nat → Option Fm} {lt : Nat → Nat → List Int32} {A : Nat → Nat → Prop}
set_option maxRecDepth 100000 in
theorem s_drop (h : SG tt xs s t ns fs lt) (x : Int32) : PN tt xs s (dm4 x s) (dm182 x) := by
  have h0 := h
  obtain ⟨⟨hl, hv, hr⟩, hc⟩ := h
  rcases d52 hl hv.2.1.1 hv.2.1.2 hc.1 hv.2.2.1 x with ⟨c, e⟩ | ⟨c, s1, e, -, e2, -, -⟩
  · have e1 : dm4 x s = some (1, nw s 82 0) := by
      unfold dm4
      rw [e]
      rfl
    obtain ⟨l1, r1, -, -⟩ := h0.tw (y := 82) (by omega) 1
    rcases R182 r1 hv.2.1.2 x with ⟨d, s2, f, f1, f2, f3⟩ | ⟨d, -⟩
    · have q := dt182 (sio := true) (d := 2000) (by decide) l1 f
      exact ⟨_, _, s2, t, ns, fs, lt, e1, l1, f, f1, SG.m l1 (hv.thr hl (by decide)) (hc.gx hl (gx_nw s 82 0)) q.1 f3 f2, (gw_nw s).tr f3⟩
    · exact absurd d c
  · have e3 : dm4 x s = some (0, s1) := by
      unfold dm4
      rw [e]
      rfl
    have q1 := dt4 (sio := true) (d := 2000) (by decide) hl e3
    have r1 := hr.ex hl q1.2.1
    rcases y52 hv hl x with ⟨c9, -⟩ | ⟨-, s9, z1, z2, z3⟩
    · exact absurd c c9
    · have es : s9 = s1 := (Prod.mk.inj (Option.some.inj (z1.symm.trans e))).2
      rw [es] at z2 z3
      have ef : fsDrop x fs = fsDropM x fs := fsDrop_eq fun f h9 L9 q9 d hd z => ((hr.2.2.2.2.2 f h9 L9 q9).2 d hd).1.c c.1 z
      rw [ef] at e2
      have u2 : CLt s1 fs lt := d52y hl hv.2.1.1 hv.2.1.2 hc.1 hv.2.2.1 hc.2 c (fun f hf h9 L9 q9 => ⟨fun d hd z => Classical.byContradiction fun y => by
        have := ((hr.2.2.2.2.2 f h9 L9 q9).2 d hd).1.2.2.1 y
        rw [z, iEq] at this
        have : x.toInt = -1 := this
        omega, hr.em f hf h9 L9 q9⟩) e
      have u3 : CLt s1 (fsDropM x fs) lt := u2.len (fun f h9 L9 q => by
        unfold fsDropM at q
        cases hq : fs f with
        | none =>
          rw [hq] at q
          cases q
        | some v =>
          obtain ⟨h0, L⟩ := v
          rw [hq] at q
          have q : (if h0 = x then none else some (if h0 ≤ x then h0 else h0 - 1, L.map (lsM x))) = some (h9, L9) := q
          by_cases c : h0 = x
          · rw [if_pos c] at q
            cases q
          · rw [if_neg c] at q
            have e := (Prod.mk.inj (Option.some.inj q)).2
            exact ⟨h0, L, rfl, by rw [← e, List.length_map]⟩)
      rcases R182 r1 hv.2.1.2 x with ⟨d, -⟩ | ⟨-, s2, f, f1, f2, f3⟩
      · exact absurd c d
      · have q := dt182 (sio := true) (d := 2000) (by decide) q1.1 f
        exact ⟨_, _, s2, t, _, _, lt, e3, q1.1, f, f1, SG.m q1.1 z2 ⟨e2, u3⟩ q.1 f3 f2, z3.tr f3⟩
set_option maxRecDepth 100000 in
theorem s_shift (h : SG tt xs s t ns fs lt) (x y k n : Int32) : PV tt xs s True (dm7 x y k n s) (dm228 x y k n) := by
  have h0 := h
  obtain ⟨⟨hl, hv, hr⟩, hc⟩ := h
  rcases d133 hl hv.2.1.1.1 hv.2.1.2 hc.1 hv.2.2.1 x y k n with ⟨c, e⟩ | ⟨c, c2, e⟩ | ⟨c, c2, s1, e, e2, -, -⟩
  · have e1 : dm7 x y k n s = some (1, nw s 82 0) := by
      unfold dm7
      rw [e]
      rfl
    obtain ⟨l1, r1, -, -⟩ := h0.tw (y := 82) (by omega) 1
    rcases R228 r1 hv.2.1.2 x y k n with ⟨d, s2, f, f1, f2, f3⟩ | ⟨d, -⟩ | ⟨d, -⟩
    · have q := dt228 (sio := true) (d := 2000) (by decide) l1 f
      exact ⟨_, _, _, s2, t, ns, fs, lt, e1, l1, f, fun _ => ⟨f1, fun z => absurd z (by decide)⟩, SG.m l1 (hv.thr hl (by decide)) (hc.gx hl (gx_nw s 82 0)) q.1 f3 f2, (gw_nw s).tr f3⟩
    · exact absurd d c
    · exact absurd d c
  · have e1 : dm7 x y k n s = some (2, nw s 80 0) := by
      unfold dm7
      rw [e]
      rfl
    obtain ⟨l1, r1, -, -⟩ := h0.tw (y := 80) (by omega) 1
    rcases R228 r1 hv.2.1.2 x y k n with ⟨d, -⟩ | ⟨-, -, s2, f, f1, f2, f3⟩ | ⟨-, d2, -⟩
    · exact absurd c d
    · have q := dt228 (sio := true) (d := 2000) (by decide) l1 f
      exact ⟨_, _, _, s2, t, ns, fs, lt, e1, l1, f, fun _ => ⟨f1, fun z => absurd z (by decide)⟩, SG.m l1 (hv.thr hl (by decide)) (hc.gx hl (gx_nw s 80 0)) q.1 f3 f2, (gw_nw s).tr f3⟩
    · exact absurd d2 c2
  · have all : fsAll ndS fs := fun f h9 L9 q9 d hd => ((hr.2.2.2.2.2 f h9 L9 q9).2 d hd).1.s
    have hk : rgP k (lastT y) := bey_rg c2.1
    have ev := ca_eq c.1 hk c2.2 all 8 0 0
    have ef := fsSh_eq c.1 hk c2.2 all
    have u2 : CLt s1 fs lt := d133y hl hv.2.1.1.1 hv.2.1.2 hc.1 hv.2.2.1 hc.2 hr.em c c2 e
    have u3 : CLt s1 (fsShM x y k n (lastT y) fs) lt := u2.len (fun f h9 L9 q => by
      unfold fsShM at q
      cases hq : fs f with
      | none =>
        rw [hq] at q
        cases q
      | some v =>
        obtain ⟨h0, L⟩ := v
        rw [hq] at q
        have e := (Prod.mk.inj (Option.some.inj q)).2
        exact ⟨h0, L, rfl, by rw [← e, List.length_map]⟩)
    rw [ev] at e
    rw [ef] at e2
    have c9 : CG s1 (fsShM x y k n (lastT y) fs) lt := ⟨e2, u3⟩
    have e3 : dm7 x y k n s = some (0, wJ s1 148 (jN 0) (caM x y k n (lastT y) fs 8 0 0).toInt64) := by
      unfold dm7
      rw [e]
      simp only [bv_some]
      rw [zN_l, vI_int, if_pos a01, nx_eq]
    have q1 := dt7 (sio := true) (d := 2000) (by decide) hl e3
    have r1 := hr.ex hl q1.2.1
    obtain ⟨o, s9, z1, -, z2, z3⟩ := y133 hv hl x y k n
    have es : s9 = s1 := (Prod.mk.inj (Option.some.inj (z1.symm.trans e))).2
    rw [es] at z2 z3
    rcases R228 r1 hv.2.1.2 x y k n with ⟨d, -⟩ | ⟨-, d2, -⟩ | ⟨-, -, s2, f, f1, f2, f3⟩
    · exact absurd c d
    · exact absurd c2 d2
    · have q := dt228 (sio := true) (d := 2000) (by decide) q1.1 f
      refine ⟨_, _, _, s2, t, ns, _, lt, e3, q1.1, f, fun _ => ⟨f1, fun _ => ?_⟩, SG.m q1.1 z2.j c9.j q.1 f3 f2, z3.j.tr f3⟩
      rw [jj f3 (by unfold mA; omega), sJ_wJ, if_pos ⟨rfl, rfl⟩]
set_option maxRecDepth 100000 in
theorem CV.cl (h : CV s t ns) : CL s fs := fun f hf _ b hb => by
  rcases h.2.2.1.1 f hf with z | ⟨c, z1, z2⟩
  · rw [z] at hb
    cases hb
  · rw [z1] at hb
    injection hb with hb
    rw [← hb]
    obtain ⟨N, u, -, -, a, -⟩ := h.2.2.2.1 c z2
    exact ⟨u, a⟩
set_option maxRecDepth 100000 in
theorem s_move (h : SG tt xs s t ns fs lt) (x1 x2 x3 x4 x5 : Int32) : PN tt xs s (dm6 x1 x2 x3 x4 x5 s) (dm224 x1 x2 x3 x4 x5) := by
  have h0 := h
  obtain ⟨⟨hl, hv, hr⟩, hc⟩ := h
  rcases d125 hl hv.2.1.1.1 hv.2.1.2 hc.1 hv.2.2.1 hv.cl x1 x2 x3 x4 x5 with ⟨c, e⟩ | ⟨c, c2, e⟩ | ⟨c, c2, h9, L, s1, e0, e, e2, -, -⟩
  · have e1 : dm6 x1 x2 x3 x4 x5 s = some (1, nw s 82 0) := by
      unfold dm6
      rw [e]
      rfl
    obtain ⟨l1, r1, -, -⟩ := h0.tw (y := 82) (by omega) 1
    rcases R224 r1 hv.2.1.2 x1 x2 x3 x4 x5 with ⟨d, s2, f, f1, f2, f3⟩ | ⟨d, -⟩ | ⟨d, -⟩
    · have q := dt224 (sio := true) (d := 2000) (by decide) l1 f
      exact ⟨_, _, s2, t, ns, fs, lt, e1, l1, f, f1, SG.m l1 (hv.thr hl (by decide)) (hc.gx hl (gx_nw s 82 0)) q.1 f3 f2, (gw_nw s).tr f3⟩
    · exact absurd d c
    · exact absurd d c
  · have e1 : dm6 x1 x2 x3 x4 x5 s = some (2, nw s 80 0) := by
      unfold dm6
      rw [e]
      rfl
    obtain ⟨l1, r1, -, -⟩ := h0.tw (y := 80) (by omega) 1
    rcases R224 r1 hv.2.1.2 x1 x2 x3 x4 x5 with ⟨d, -⟩ | ⟨-, -, s2, f, f1, f2, f3⟩ | ⟨-, d2, -⟩
    · exact absurd c d
    · have q := dt224 (sio := true) (d := 2000) (by decide) l1 f
      exact ⟨_, _, s2, t, ns, fs, lt, e1, l1, f, f1, SG.m l1 (hv.thr hl (by decide)) (hc.gx hl (gx_nw s 80 0)) q.1 f3 f2, (gw_nw s).tr f3⟩
    · exact absurd d2 c2
  · have ef := fsMove_eq (x := x1.toInt.toNat) (y := x5.toInt.toNat) (r := x2) (c := x3) (ho := x4) (L := L) (fs := fs) (fun d hd q => ((hr.2.2.2.2.2 _ h9 L (fAt_s e0).2).2 d hd).1.r q)
    have u3 := d125y hl hv.2.1.1.1 hv.2.1.2 hc.1 hv.2.2.1 hc.2 c c2 e0 (hr.em _ (by have := (fAt_s e0).1; omega) h9 L (fAt_s e0).2) e
    rw [ef] at e2 u3
    have e3 : dm6 x1 x2 x3 x4 x5 s = some (0, s1) := by
      unfold dm6
      rw [e]
      rfl
    have q1 := dt6 (sio := true) (d := 2000) (by decide) hl e3
    have r1 := hr.ex hl q1.2.1
    obtain ⟨o, s9, z1, -, z2, z3⟩ := y125 hv hl x1 x2 x3 x4 x5
    have es : s9 = s1 := (Prod.mk.inj (Option.some.inj (z1.symm.trans e))).2
    rw [es] at z2 z3
    rcases R224 r1 hv.2.1.2 x1 x2 x3 x4 x5 with ⟨d, -⟩ | ⟨-, d2, -⟩ | ⟨-, -, h8, L8, s2, f0, f, f1, f2, f3⟩
    · exact absurd c d
    · exact absurd c2 d2
    · have q := dt224 (sio := true) (d := 2000) (by decide) q1.1 f
      have eL : L8 = L := (Prod.mk.inj (Option.some.inj (f0.symm.trans e0))).2
      rw [eL] at f2
      exact ⟨_, _, s2, t, ns, _, _, e3, q1.1, f, f1, SG.m q1.1 z2 ⟨e2, u3⟩ q.1 f3 f2, z3.tr f3⟩
end SGs
end
section
/-! each call in both, with the formulas: read -/
section SGs
variable {tt : Nat} {xs : List Int32} {s s1 s2 : aS} {t : List Int32} {ns : List (List Int32)} {fs : Nat → Option Fm} {lt : Nat → Nat → List Int32} {A : Nat → Nat → Prop} {b : Nat}
set_option maxRecDepth 100000 in
/-- the spare tree is written: no formula's -/
theorem CF.rd (h : CF s fs) (hl : Ly tt (cCc xs) s) (hb : aK s b 3) (hn : ∀ f, f < 8 → sR s 100 f ≠ .ref b) (g : ch A s s1) (hA : ∀ a k, A a k → a = b ∨ a = b + 1 ∨ a = b + 2 ∨ a = b + 3 ∨ (106 ≤ a ∧ a ≤ 116)) : CF s1 fs := by
  have hb3 := tr_at hl hb
  refine fun f hf => ⟨fun q => (g.i fun z => by have := hA _ _ z; omega).trans ((h f hf).1 q), fun ho L q => ?_⟩
  obtain ⟨a1, a2, d, a3, a4, a5⟩ := (h f hf).2 ho L q
  have hd := tr_at hl a4
  have e : d ≠ b := fun z => hn f hf (by rw [← z]; exact a3)
  have p := tr_ne hl a4 hb e
  have r := tr_ne hl hb a4 (fun z => e z.symm)
  exact ⟨(g.i fun z => by have := hA _ _ z; omega).trans a1, a2, d, (g.r fun z => by have := hA _ _ z; omega).trans a3, g.k.mpr a4, a5.of g (fun z => by have := hA _ _ z; omega) (fun k z => by have := hA _ _ z; omega)⟩
set_option maxRecDepth 100000 in
theorem CF.put {f : Nat} {v : Int32} {L : List Nd} (h : CF s fs) (hl : Ly tt (cCc xs) s) (hb : aK s b 3) (hT : TC s b L) (hv : v ≠ -1) : CF (wI (wR s 100 f (.ref b)) 101 f v) (fun g => if g = f then some (v, L) else fs g) := by
  have c : ch (fun a k => (a = 100 ∨ a = 101) ∧ k = f) s (wI (wR s 100 f (.ref b)) 101 f v) := ((ch.refl _ s).wR ⟨Or.inl rfl, rfl⟩).wI ⟨Or.inr rfl, rfl⟩
  have hb3 := tr_at hl hb
  intro g hg
  by_cases e : g = f
  · refine ⟨fun q => ?_, fun ho M q => ?_⟩
    · have q : (if g = f then some (v, L) else fs g) = none := q
      rw [if_pos e] at q
      cases q
    · have q : (if g = f then some (v, L) else fs g) = some (ho, M) := q
      rw [if_pos e] at q
      cases q
      exact ⟨by rw [sI_wI, if_pos ⟨rfl, e⟩], hv, b, by rw [sR_wI, sR_wR, if_pos ⟨rfl, e⟩], c.k.mpr hb, hT.of c (by omega) (fun k => by omega)⟩
  · refine ⟨fun q => ?_, fun ho M q => ?_⟩
    · have q : (if g = f then some (v, L) else fs g) = none := q
      rw [if_neg e] at q
      exact (c.i (by omega)).trans ((h g hg).1 q)
    · have q : (if g = f then some (v, L) else fs g) = some (ho, M) := q
      rw [if_neg e] at q
      obtain ⟨a1, a2, d, a3, a4, a5⟩ := (h g hg).2 ho M q
      have hd := tr_at hl a4
      exact ⟨(c.i (by omega)).trans a1, a2, d, (c.r (by omega)).trans a3, c.k.mpr a4, a5.of c (by omega) (fun k => by omega)⟩
set_option maxRecDepth 100000 in
theorem TR.tc {z : Nat} {M : List NN} (h : TR s b z M) : TC s b (M.map (fun n => n.2.1)) := by
  obtain ⟨a1, a2, u, a3, a4, a5⟩ := h
  refine ⟨by rw [List.length_map]; exact a1, by rw [List.length_map]; exact a2, fun i hi w hw => ?_⟩
  have hi2 : i < M.length := by rw [List.length_map] at hi; exact hi
  rw [List.getElem_map]
  exact (a5 i M[i] (List.getElem?_eq_getElem hi2)).1 w hw
set_option maxRecDepth 100000 in
theorem CG.rd (h : CG s fs lt) (hl : Ly tt (cCc xs) s) (hb : aK s b 3) (hn : ∀ f, f < 8 → sR s 100 f ≠ .ref b) (g : ch A s s1) (hA : ∀ a k, A a k → a = b ∨ a = b + 1 ∨ a = b + 2 ∨ a = b + 3 ∨ (106 ≤ a ∧ a ≤ 116)) : CG s1 fs lt := by
  have hb3 := tr_at hl hb
  refine ⟨h.1.rd hl hb hn g hA, CLt.go h.1 h.2 (fun f _ _ => g.r fun z => by have := hA _ _ z; omega) (fun f d hf _ hd hk => ?_)⟩
  have hd3 := tr_at hl hk
  have e : d ≠ b := fun z => hn f hf (by rw [← z]; exact hd)
  have p := tr_ne hl hk hb e
  have r := tr_ne hl hb hk (fun z => e z.symm)
  exact ⟨fun k => g.i fun z => (by have := hA _ _ z; omega), g.i fun z => (by have := hA _ _ z; omega), fun k => g.i fun z => (by have := hA _ _ z; omega)⟩
set_option maxRecDepth 100000 in
theorem CG.put {f z : Nat} {v : Int32} {M : List NN} (h : CG s fs lt) (hl : Ly tt (cCc xs) s) (hb : aK s b 3) (hT : TR s b z M) (hv : v ≠ -1) : CG (wI (wR s 100 f (.ref b)) 101 f v) (fsRd fs f v M) (ltRd lt f M) := by
  refine ⟨h.1.put hl hb hT.tc hv, fun g hg ho L q b9 hb9 => ?_⟩
  have c : ch (fun a k => (a = 100 ∨ a = 101) ∧ k = f) s (wI (wR s 100 f (.ref b)) 101 f v) := ((ch.refl _ s).wR ⟨Or.inl rfl, rfl⟩).wI ⟨Or.inr rfl, rfl⟩
  have hb3 := tr_at hl hb
  unfold fsRd at q
  unfold ltRd
  by_cases e : g = f
  · rw [if_pos e] at q
    have eL : L = M.map (fun n => n.2.1) := (Prod.mk.inj (Option.some.inj q)).2.symm
    rw [sR_wI, sR_wR, if_pos ⟨rfl, e⟩] at hb9
    injection hb9 with hb9
    rw [← hb9]
    obtain ⟨-, -, u, a3, -, a5⟩ := hT
    refine ⟨u, a3.of c (by omega) (fun k => by omega), fun i hi => ?_⟩
    rw [eL, List.length_map] at hi
    rw [if_pos e, List.getD, List.getElem?_eq_getElem hi]
    obtain ⟨-, st, e1, e2, e3⟩ := a5 i M[i] (List.getElem?_eq_getElem hi)
    exact ⟨st, (c.i (by omega)).trans e1, (c.i (by omega)).trans e2, e3⟩
  · rw [if_neg e] at q
    obtain ⟨-, -, d, a3, a4, -⟩ := (h.1 g hg).2 ho L q
    have hd := tr_at hl a4
    rw [c.r (by omega), a3] at hb9
    injection hb9 with hb9
    rw [← hb9]
    obtain ⟨u, u1, u2⟩ := h.2 g hg ho L q d a3
    refine ⟨u, u1.of c (by omega) (fun k => by omega), fun i hi => ?_⟩
    rw [if_neg e]
    obtain ⟨st, e1, e2, e3⟩ := u2 i hi
    exact ⟨st, (c.i (by omega)).trans e1, (c.i (by omega)).trans e2, e3⟩
set_option maxRecDepth 100000 in
theorem x62 (h : CV s t ns) (hl : Ly tt (cCc xs) s) (hc : CG s fs lt) (x1 x2 : Int32) : (¬ ((0 ≤ x1.toInt ∧ x1.toInt < 8) ∧ 0 ≤ x2.toInt ∧ x2.toInt < ns.length) ∧ dm62 x1 x2 s = some (.inr 2, nw s 82 0)) ∨ (((0 ≤ x1.toInt ∧ x1.toInt < 8) ∧ 0 ≤ x2.toInt ∧ x2.toInt < ns.length) ∧ ∃ v s1, dm62 x1 x2 s = some (.inl (some (.int v)), s1) ∧ ((∃ p, mRd t ns = .inl p ∧ v ≠ -1 ∧ CG s1 fs lt) ∨ ∃ L, mRd t ns = .inr L ∧ v = -1 ∧ CG s1 (fsRd fs x1.toInt.toNat x2 L) (ltRd lt x1.toInt.toNat L))) := by
  unfold dm62 dm62_8
  rcases y55 x1 with ⟨hx, e⟩ | ⟨hx, e⟩
  · left
    rw [e]
    simp only [bu_some]
    rw [if_pos trivial]
    exact ⟨fun q => hx q.1, rfl⟩
  · rw [e, d40 h.2.1.1.1 h.2.1.2.1]
    simp only [bu_some]
    rw [if_neg (by decide)]
    by_cases c : 0 ≤ x2.toInt ∧ x2.toInt < ns.length
    · right
      refine ⟨⟨hx, c⟩, ?_⟩
      rw [b01_t c, if_neg (by decide)]
      obtain ⟨b, b1, b2, b3⟩ := h.2.2.1.2.2
      rw [b1, vN_ref, if_pos b2]
      have h3 := tr_at hl b2
      have k108 : (sT s 108).2 = 256 := by rw [hl.T (a := 108) (p := (102, 256)) 30 rfl rfl]
      have hP : KP s b := ⟨b2, h3, by rw [(hl.tr b2).2.2.2.2.2.2.1], k108, ⟨(RC.ly hl).1, RC.ly hl, TF.ly hl, ES.ly hl⟩, h.2.2.2.2.1, h.2.2.2.2.2.1⟩
      obtain ⟨v, s1, j, g1, g2, g3⟩ := k63 h.1.1 h.1.2.1 h.1.2.2 h.2.1.1.1 h.2.1.2 hP
      have hr := rdC h.1.1 h.1.2.1 h.1.2.2 h.2.1.1.1 h.2.1.2 hP g1
      have hl1 := (dt63 (sio := true) (d := 2000) (by decide) hl b2 g1).1
      rw [g1]
      simp only [bv_some]
      have hc1 : ch (fun a k => AC b a k ∨ (a = 106 ∧ k = 6)) s s1 := ((ch.refl _ s).wR (Or.inr ⟨rfl, rfl⟩)).trans (g2.1.mono fun a k z => Or.inl z)
      have c1 : CG s1 fs lt := hc.rd hl b2 b3 hc1 (fun a k z => by unfold AC at z; omega)
      have hV : CV s1 t ns := h.rd hl b2 hc1 (fun a k z => by unfold AC at z; omega) g2.2.2.w g2.2.2.2
      have e78 : sR s1 78 6 = .ref b := (hc1.r (by unfold AC; omega)).trans b1
      have hb1 : aK s1 b 3 := hc1.k.mpr b2
      have hx8 : x1.toInt.toNat < 8 := by omega
      have hx2 : x2 ≠ -1 := fun q => by
        rw [iEq] at q
        have q : x2.toInt = -1 := q
        omega
      cases hm : mRd t ns with
      | inl p =>
        rw [hm] at hr
        have hr : v ≠ -1 := hr
        rw [if_neg hr]
        exact ⟨v, s1, rfl, Or.inl ⟨p, rfl, hr, c1⟩⟩
      | inr L =>
        rw [hm] at hr
        obtain ⟨hv1, hT⟩ : v = -1 ∧ TR s1 b 256 L := hr
        have c2 : CG (wI (wR s1 100 x1.toInt.toNat (.ref b)) 101 x1.toInt.toNat x2) (fsRd fs x1.toInt.toNat x2 L) (ltRd lt x1.toInt.toNat L) := c1.put hl1 hb1 hT hx2
        have l1 : Ly tt (cCc xs) (wI (wR s1 100 (jN x1) (.ref b)) 101 (jN x1) x2) := (ly_100 hl1).wId (by decide)
        rw [if_pos hv1, if_pos (aB_iff.mpr hx)]
        rcases hV.2.2.1.1 x1.toInt.toNat hx8 with z | ⟨d, z1, z2⟩
        · rw [show sR s1 100 (jN x1) = .null from z, vN_null, e78, vN_ref, if_pos hb1, if_pos (aB_iff.mpr hx)]
          simp only [nx_eq]
          rw [if_pos (aB_iff.mpr hx)]
          unfold dm62_46
          simp only [nx_eq]
          have c3 := CG.gx c2 l1 (gx_nT _)
          have l2 := (lay_tree l1.gL l1).1
          have c4 := c3.of9 l2 (A := fun a _ => a = 78) ((ch.refl _ _).wR (k := 6) (v := .ref (sL s1)) rfl) (fun a k z => by omega)
          exact ⟨v, _, rfl, Or.inr ⟨L, rfl, hv1, c4⟩⟩
        · rw [show sR s1 100 (jN x1) = .ref d from z1, vN_ref, if_pos z2, e78, vN_ref, if_pos hb1, if_pos (aB_iff.mpr hx)]
          simp only [nx_eq]
          rw [if_pos (aB_iff.mpr hx)]
          unfold dm62_46
          simp only [nx_eq]
          have c4 := c2.of9 l1 (A := fun a _ => a = 78) ((ch.refl _ _).wR (k := 6) (v := .ref d) rfl) (fun a k z => by omega)
          exact ⟨v, _, rfl, Or.inr ⟨L, rfl, hv1, c4⟩⟩
    · left
      rw [b01_f c, if_pos rfl]
      exact ⟨fun q => c q.2, rfl⟩
set_option maxRecDepth 100000 in
theorem s_read (h : SG tt xs s t ns fs lt) (x1 x2 : Int32) : PV tt xs s False (dm5 x1 x2 s) (dm184 x1 x2) := by
  have h0 := h
  obtain ⟨⟨hl, hv, hr⟩, hc⟩ := h
  have T147 : ∀ s1, Ly tt (cCc xs) s1 → (sT s1 147).2 = 256 := fun s1 l1 => by rw [l1.T (a := 147) (p := (100, 256)) 69 rfl rfl]
  have T122 : ∀ s1, Ly tt (cCc xs) s1 → (sT s1 122).2 = 256 := fun s1 l1 => by rw [l1.T (a := 122) (p := (100, 256)) 44 rfl rfl]
  rcases x62 hv hl hc x1 x2 with ⟨c, e⟩ | ⟨c, v, s1, e, w⟩
  · have e1 : dm5 x1 x2 s = some (1, nw s 82 0) := by
      unfold dm5
      rw [e]
      rfl
    obtain ⟨l1, r1, -, -⟩ := h0.tw (y := 82) (by omega) 1
    rcases R184 r1 hv.1.2.1 hv.1.2.2 hv.2.1.2 (T147 _ l1) (T122 _ l1) x1 x2 with ⟨d, s2, f, f1, f2, f3⟩ | ⟨d, -⟩
    · have q := dt184 (sio := true) (d := 2000) (by decide) l1 f
      exact ⟨_, _, _, s2, t, ns, fs, lt, e1, l1, f, fun z => z.elim, SG.m l1 (hv.thr hl (by decide)) (hc.gx hl (gx_nw s 82 0)) q.1 f3 f2, (gw_nw s).tr f3⟩
    · exact absurd d c
  · have e3 : dm5 x1 x2 s = some (0, wJ s1 148 (jN 0) v.toInt64) := by
      unfold dm5
      rw [e]
      simp only [bv_some]
      rw [zN_l, vI_int, if_pos a01, nx_eq]
    have q1 := dt5 (sio := true) (d := 2000) (by decide) hl e3
    have r1 := hr.ex hl q1.2.1
    obtain ⟨o, s9, z1, -, z2, z3⟩ := y62 hv hl x1 x2
    have es : s9 = s1 := (Prod.mk.inj (Option.some.inj (z1.symm.trans e))).2
    rw [es] at z2 z3
    rcases R184 r1 hv.1.2.1 hv.1.2.2 hv.2.1.2 (T147 _ q1.1) (T122 _ q1.1) x1 x2 with ⟨d, -⟩ | ⟨-, ⟨p, s2, f0, f, f1, f2, f3⟩ | ⟨L, s2, f0, -, f, f1, f2, f3⟩⟩
    · exact absurd c d
    · have q := dt184 (sio := true) (d := 2000) (by decide) q1.1 f
      rcases w with ⟨p9, w1, w2, w3⟩ | ⟨L9, w1, -⟩
      · exact ⟨_, _, _, s2, t, ns, fs, lt, e3, q1.1, f, fun z => z.elim, SG.m q1.1 z2.j w3.j q.1 f3 f2, z3.j.tr f3⟩
      · rw [w1] at f0
        cases f0
    · have q := dt184 (sio := true) (d := 2000) (by decide) q1.1 f
      rcases w with ⟨p9, w1, -⟩ | ⟨L9, w1, w2, w3⟩
      · rw [w1] at f0
        cases f0
      · have eL : L9 = L := Sum.inr.inj (w1.symm.trans f0)
        rw [eL] at w3
        exact ⟨_, _, _, s2, t, ns, _, _, e3, q1.1, f, fun z => z.elim, SG.m q1.1 z2.j w3.j q.1 f3 f2, z3.j.tr f3⟩
end SGs
end
section
/-! the writer of FormulaTrees, exactly: what was written so far, and the letter that is wanted -/
def WC (s : aS) (l : List Int32) (k : Int32) : Prop := l.length < 1000000 ∧ sI s 117 8 = Int32.ofNat l.length ∧ sI s 117 9 = k ∧ sI s 117 10 = if 0 ≤ k.toInt then l.getD k.toInt.toNat (-1) else -1
/-- w is written -/
def Ec (w : List Int32) (D : Option aS) (s : aS) : Prop := ∃ s', D = some s' ∧ ch wrD s s' ∧ ∀ l k, WC s l k → l.length + w.length < 900000 → WC s' (l ++ w) k
set_option maxRecDepth 100000 in
theorem Ec.n (s : aS) : Ec [] (some s) s := ⟨s, rfl, ch.refl _ s, fun l k h _ => by rw [List.append_nil]; exact h⟩
set_option maxRecDepth 100000 in
theorem Ec.b {w1 w2 : List Int32} {D : Option aS} {K : aS → Option aS} {s : aS} (h : Ec w1 D s) (g : ∀ s1, ch wrD s s1 → Ec w2 (K s1) s1) : Ec (w1 ++ w2) (bu D K) s := by
  obtain ⟨s1, h1, h2, h3⟩ := h
  obtain ⟨s2, k1, k2, k3⟩ := g s1 h2
  rw [h1]
  exact ⟨s2, k1, h2.trans k2, fun l k hl hn => by
    rw [List.length_append] at hn
    rw [← List.append_assoc]
    exact k3 _ k (h3 l k hl (by omega)) (by rw [List.length_append]; omega)⟩
set_option maxRecDepth 100000 in
theorem Ec.o {w : List Int32} {D : Option aS} {s : aS} (h : Ec w D s) : Ec w (bu D fun s3 => some s3) s := by
  obtain ⟨s1, h1, h2, h3⟩ := h
  rw [h1]
  exact ⟨s1, rfl, h2, h3⟩
set_option maxRecDepth 100000 in
theorem Ec.eq {w w1 : List Int32} {D : Option aS} {s : aS} (h : Ec w D s) (e : w = w1) : Ec w1 D s := by
  rw [← e]
  exact h
set_option maxRecDepth 100000 in
theorem x141 (c : Int32) (s : aS) : Ec [c] (dm141 c s) s := by
  unfold dm141 dm141_8
  by_cases q : sI s 117 8 = sI s 117 9
  · rw [if_pos q]
    simp only [nx_eq]
    refine ⟨_, rfl, ((ch.refl _ s).wI ⟨rfl, Or.inr rfl⟩).wI ⟨rfl, Or.inl rfl⟩, fun l k h hn => ?_⟩
    obtain ⟨h0, h1, h2, h3⟩ := h
    have hn : l.length + 1 < 900000 := hn
    have ap : (l ++ [c]).length = l.length + 1 := by simp
    have e : k.toInt = l.length := by rw [← h2, ← q, h1, iOfNat (by omega)]
    refine ⟨by omega, ?_, ?_, ?_⟩
    · rw [sI_wI, if_pos ⟨rfl, rfl⟩, sI_wI, if_neg (by omega), h1, ofNat_succ (by omega), ap]
    · rw [sI_wI, if_neg (by omega), sI_wI, if_neg (by omega)]
      exact h2
    · rw [sI_wI, if_neg (by omega), sI_wI, if_pos ⟨rfl, rfl⟩, if_pos (by omega), e, show ((l.length : Int)).toNat = l.length by omega, getD_in (by omega), List.getElem_append_right (Nat.le_refl _)]
      simp
  · rw [if_neg q]
    simp only [nx_eq]
    refine ⟨_, rfl, (ch.refl _ s).wI ⟨rfl, Or.inl rfl⟩, fun l k h hn => ?_⟩
    obtain ⟨h0, h1, h2, h3⟩ := h
    have hn : l.length + 1 < 900000 := hn
    have hr := iRange k
    have ap : (l ++ [c]).length = l.length + 1 := by simp
    refine ⟨by omega, ?_, ?_, ?_⟩
    · rw [sI_wI, if_pos ⟨rfl, rfl⟩, h1, ofNat_succ (by omega), ap]
    · rw [sI_wI, if_neg (by omega)]
      exact h2
    · rw [sI_wI, if_neg (by omega), h3]
      by_cases z : 0 ≤ k.toInt
      · rw [if_pos z, if_pos z]
        have ne : k.toInt.toNat ≠ l.length := by
          intro w
          apply q
          rw [h1, h2, iEq, iOfNat (by omega)]
          omega
        by_cases w : k.toInt.toNat < l.length
        · rw [getD_in w, getD_in (by omega), List.getElem_append_left]
        · rw [getD_out (by omega), getD_out (by omega)]
      · rw [if_neg z, if_neg z]
def dq1 (x q : Int32) : List Int32 := if x = q then [x, x] else [x]
set_option maxRecDepth 100000 in
theorem x146 (x y : Int32) (s : aS) : Ec (dq1 x y) (dm146 x y s) s := by
  unfold dm146 dq1
  by_cases q : x = y
  · rw [if_pos q]
    refine Ec.b (w1 := [x]) (w2 := [x]) (x141 x s) fun s1 c1 => ?_
    rw [if_pos q]
    exact (x141 x s1).o
  · rw [if_neg q]
    refine Ec.b (w1 := [x]) (w2 := []) (x141 x s) fun s1 c1 => ?_
    rw [if_neg q]
    exact Ec.n s1
/-- column letters, as they are made here -/
def coC (x : Int32) : List Int32 := (if (x - 1) < 702 then [] else [65 + ((((x - 1) - 26) - 676) / 676)]) ++ ((if (x - 1) < 26 then [] else [65 + ((((x - 1) - 26) / 26) - (((x - 1) - 26) / 26) / 26 * 26)]) ++ [65 + ((x - 1) - (x - 1) / 26 * 26)])
set_option maxRecDepth 100000 in
theorem x153 (x : Int32) (s : aS) : Ec (coC x) (dm153 x s) s := by
  have g32 : ∀ s, Ec [65 + ((x - 1) - (x - 1) / 26 * 26)] (dm153_32 (x - 1) s) s := fun s => by
    unfold dm153_32
    exact (x141 _ s).o
  have g18 : ∀ s, Ec ((if (x - 1) < 26 then [] else [65 + ((((x - 1) - 26) / 26) - (((x - 1) - 26) / 26) / 26 * 26)]) ++ [65 + ((x - 1) - (x - 1) / 26 * 26)]) (dm153_18 (x - 1) s) s := fun s => by
    unfold dm153_18
    by_cases c : (x - 1) < 26
    · rw [if_pos c, if_pos c]
      exact g32 s
    · rw [if_neg c, if_neg c]
      exact (x141 _ s).b fun s1 _ => g32 s1
  unfold dm153 coC
  by_cases c : (x - 1) < 702
  · rw [if_pos c, if_pos c]
    exact g18 s
  · rw [if_neg c, if_neg c]
    exact (x141 _ s).b fun s1 _ => g18 s1
/-- a row, as it is made here -/
def dgC (x : Int32) (m : Nat) : Int32 := 48 + ((x / Int32.ofNat (10 ^ m)) - (x / Int32.ofNat (10 ^ m)) / 10 * 10)
def deC (x : Int32) : Nat → List Int32
  | 0 => []
  | m + 1 => (if x < Int32.ofNat (10 ^ m) then [] else [dgC x m]) ++ deC x m
set_option maxRecDepth 100000 in
theorem pw_n {m : Nat} (h : m ≤ 8) : 10 ^ m ≤ 100000000 ∧ 0 < 10 ^ m := ⟨Nat.le_trans (Nat.pow_le_pow_right (by decide) h) (by decide), Nat.pow_pos (by decide)⟩
set_option maxRecDepth 100000 in
theorem pw_d {m : Nat} (h : m ≤ 8) : Int32.ofNat (10 ^ m) / 10 = Int32.ofNat (10 ^ m / 10) := by
  have hp := pw_n h
  rw [iEq, iDiv (y := 10) (by rw [iOfNat (by omega)]; omega) (by decide), iOfNat (by omega), iOfNat (by omega)]
  show ((10 ^ m : Nat) : Int) / 10 = ((10 ^ m / 10 : Nat) : Int)
  omega
set_option maxRecDepth 100000 in
theorem x154l (x : Int32) : ∀ (m n : Nat) (s : aS), m ≤ 8 → m < n → Ec (deC x m) (dm154_2 n x (Int32.ofNat (10 ^ m / 10)) s) s
  | 0, n, s, h1, h2 => by
    obtain ⟨n, rfl⟩ : ∃ q, n = q + 1 := ⟨n - 1, by omega⟩
    rw [dm154_2, if_pos (by decide)]
    exact Ec.n s
  | m + 1, n, s, h1, h2 => by
    obtain ⟨n, rfl⟩ : ∃ q, n = q + 1 := ⟨n - 1, by omega⟩
    have hp := pw_n (m := m) (by omega)
    have eu : 10 ^ (m + 1) / 10 = 10 ^ m := by rw [Nat.pow_succ, Nat.mul_div_cancel _ (by decide)]
    have hu : (Int32.ofNat (10 ^ m)).toInt = ((10 ^ m : Nat) : Int) := iOfNat (by omega)
    have nxt : ∀ s, Ec (deC x m) (dm154_16 (dm154_2 n) x (Int32.ofNat (10 ^ m)) s) s := fun s => by
      unfold dm154_16
      rw [pw_d (by omega)]
      exact x154l x m n s (by omega) (by omega)
    rw [eu, dm154_2, if_neg (by rw [iLe, hu]; show ¬ ((10 ^ m : Nat) : Int) ≤ 0; omega)]
    unfold deC
    by_cases c : x < Int32.ofNat (10 ^ m)
    · rw [if_pos c, if_pos c]
      exact nxt s
    · rw [if_neg c, if_neg c, if_pos (fun q => by have := iEq.mp q; rw [hu] at this; have t0 : (0 : Int32).toInt = 0 := rfl; omega)]
      exact (x141 _ s).b fun s1 _ => nxt s1
set_option maxRecDepth 100000 in
theorem x154 (x : Int32) (s : aS) : Ec (deC x 7) (dm154 x s) s := x154l x 7 5000 s (by decide) (by decide)
/-- a corner -/
def crC (w c f : Int32) : List Int32 := (if (f &&& 2) = 0 then [] else [36]) ++ (coC c ++ ((if (f &&& 1) = 0 then [] else [36]) ++ deC w 7))
set_option maxRecDepth 100000 in
theorem x152 (w c f : Int32) (s : aS) : Ec (crC w c f) (dm152 w c f s) s := by
  have f17 : ∀ s, Ec (deC w 7) (dm152_17 w s) s := fun s => by
    unfold dm152_17
    exact (x154 w s).o
  have f7 : ∀ s, Ec (coC c ++ ((if (f &&& 1) = 0 then [] else [36]) ++ deC w 7)) (dm152_7 w c f s) s := fun s => by
    unfold dm152_7
    refine (x153 c s).b fun s1 _ => ?_
    by_cases q : (f &&& 1) = 0
    · rw [if_pos q, if_pos q]
      exact f17 s1
    · rw [if_neg q, if_neg q]
      exact (x141 _ s1).b fun s2 _ => f17 s2
  unfold dm152 crC
  by_cases q : (f &&& 2) = 0
  · rw [if_pos q, if_pos q]
    exact f7 s
  · rw [if_neg q, if_neg q]
    exact (x141 _ s).b fun s1 _ => f7 s1
end
section
/-! the writer of the reference, exactly: pieces -/
def Er (w : List Int32) (D : Option aS) (s : aS) : Prop := ∃ s', D = some s' ∧ ch wrA s s' ∧ ∀ l k, WM s l k → l.length + w.length < 800000 → WM s' (l ++ w) k
set_option maxRecDepth 100000 in
theorem Er.n (s : aS) : Er [] (some s) s := ⟨s, rfl, ch.refl _ s, fun l k h _ => by rw [List.append_nil]; exact h⟩
set_option maxRecDepth 100000 in
theorem Er.b {w1 w2 : List Int32} {D : Option aS} {K : aS → Option aS} {s : aS} (h : Er w1 D s) (g : ∀ s1, ch wrA s s1 → Er w2 (K s1) s1) : Er (w1 ++ w2) (bu D K) s := by
  obtain ⟨s1, h1, h2, h3⟩ := h
  obtain ⟨s2, k1, k2, k3⟩ := g s1 h2
  rw [h1]
  exact ⟨s2, k1, h2.trans k2, fun l k hl hn => by
    rw [List.length_append] at hn
    rw [← List.append_assoc]
    exact k3 _ k (h3 l k hl (by omega)) (by rw [List.length_append]; omega)⟩
set_option maxRecDepth 100000 in
theorem Er.o {w : List Int32} {D : Option aS} {s : aS} (h : Er w D s) : Er w (bu D fun s3 => some s3) s := by
  obtain ⟨s1, h1, h2, h3⟩ := h
  rw [h1]
  exact ⟨s1, rfl, h2, h3⟩
set_option maxRecDepth 100000 in
theorem Er.eq {w w1 : List Int32} {D : Option aS} {s : aS} (h : Er w D s) (e : w = w1) : Er w1 D s := by
  rw [← e]
  exact h
set_option maxRecDepth 100000 in
theorem e235 (c : Int32) (s : aS) : Er [c] (dm235 c s) s := by
  obtain ⟨s1, h1, h2⟩ := w235 c s
  refine ⟨s1, h1, h2, fun l k h hn => ?_⟩
  have hn : l.length + 1 < 800000 := hn
  obtain ⟨s2, k1, k2, -⟩ := d235 h (by omega) c
  have e : s1 = s2 := Option.some.inj (h1.symm.trans k1)
  rw [e]
  exact k2
set_option maxRecDepth 100000 in
theorem e234 {s : aS} {f p : Nat} {w : List Int32} (hf : f < 9) (hp : p < 1152) (h : RL s f p w) : Er w (dm234 (Int32.ofNat f) (Int32.ofNat p) s) s := by
  obtain ⟨s1, h1, h2⟩ := w234 hf hp h
  refine ⟨s1, h1, h2, fun l k hW hn => ?_⟩
  obtain ⟨s2, k1, k2, -⟩ := d234 hf hp h hW (by omega)
  have e : s1 = s2 := Option.some.inj (h1.symm.trans k1)
  rw [e]
  exact k2
/-- a row -/
def deM (x : Int32) : Nat → List Int32
  | 0 => []
  | m + 1 => dgC x m :: deM x m
set_option maxRecDepth 100000 in
theorem e242b (x : Int32) : ∀ (m n : Nat) (s : aS), m ≤ 8 → m < n → Er (deM x m) (dm242_12 n x (Int32.ofNat (10 ^ m / 10)) s) s
  | 0, n, s, h1, h2 => by
    obtain ⟨n, rfl⟩ : ∃ q, n = q + 1 := ⟨n - 1, by omega⟩
    rw [dm242_12, if_pos (by decide)]
    exact Er.n s
  | m + 1, n, s, h1, h2 => by
    obtain ⟨n, rfl⟩ : ∃ q, n = q + 1 := ⟨n - 1, by omega⟩
    have hp := pw_n (m := m) (by omega)
    have eu : 10 ^ (m + 1) / 10 = 10 ^ m := by rw [Nat.pow_succ, Nat.mul_div_cancel _ (by decide)]
    have hu : (Int32.ofNat (10 ^ m)).toInt = ((10 ^ m : Nat) : Int) := iOfNat (by omega)
    rw [eu, dm242_12, if_neg (by rw [iLe, hu]; show ¬ ((10 ^ m : Nat) : Int) ≤ 0; omega), if_pos (fun q => by have := iEq.mp q; rw [hu] at this; have t0 : (0 : Int32).toInt = 0 := rfl; omega), pw_d (by omega)]
    exact Er.b (w1 := [dgC x m]) (w2 := deM x m) (e235 _ s) fun s1 _ => e242b x m n s1 (by omega) (by omega)
/-- how many figures -/
def lnX (x : Int32) : Nat := if x.toInt < 10 then 1 else if x.toInt < 100 then 2 else if x.toInt < 1000 then 3 else if x.toInt < 10000 then 4 else if x.toInt < 100000 then 5 else if x.toInt < 1000000 then 6 else 7
set_option maxRecDepth 100000 in
theorem lnX_b {x : Int32} (hx : 0 ≤ x.toInt ∧ x.toInt ≤ 1048576) : 1 ≤ lnX x ∧ lnX x ≤ 7 ∧ x.toInt < ((10 ^ lnX x : Nat) : Int) ∧ (2 ≤ lnX x → ((10 ^ (lnX x - 1) : Nat) : Int) ≤ x.toInt) := by
  unfold lnX
  by_cases c1 : x.toInt < 10
  · rw [if_pos c1]
    exact ⟨by decide, by decide, by show x.toInt < 10; omega, fun z => absurd z (by decide)⟩
  rw [if_neg c1]
  by_cases c2 : x.toInt < 100
  · rw [if_pos c2]
    exact ⟨by decide, by decide, by show x.toInt < 100; omega, fun _ => by show (10 : Int) ≤ x.toInt; omega⟩
  rw [if_neg c2]
  by_cases c3 : x.toInt < 1000
  · rw [if_pos c3]
    exact ⟨by decide, by decide, by show x.toInt < 1000; omega, fun _ => by show (100 : Int) ≤ x.toInt; omega⟩
  rw [if_neg c3]
  by_cases c4 : x.toInt < 10000
  · rw [if_pos c4]
    exact ⟨by decide, by decide, by show x.toInt < 10000; omega, fun _ => by show (1000 : Int) ≤ x.toInt; omega⟩
  rw [if_neg c4]
  by_cases c5 : x.toInt < 100000
  · rw [if_pos c5]
    exact ⟨by decide, by decide, by show x.toInt < 100000; omega, fun _ => by show (10000 : Int) ≤ x.toInt; omega⟩
  rw [if_neg c5]
  by_cases c6 : x.toInt < 1000000
  · rw [if_pos c6]
    exact ⟨by decide, by decide, by show x.toInt < 1000000; omega, fun _ => by show (100000 : Int) ≤ x.toInt; omega⟩
  · rw [if_neg c6]
    exact ⟨by decide, by decide, by show x.toInt < 10000000; omega, fun _ => by show (1000000 : Int) ≤ x.toInt; omega⟩
set_option maxRecDepth 100000 in
theorem e242a {x : Int32} (hx : 0 ≤ x.toInt ∧ x.toInt ≤ 1048576) : ∀ (d m n : Nat) (s : aS), m + d + 1 = lnX x → d < n → Er (deM x (lnX x)) (dm242_2 n x (Int32.ofNat (10 ^ m)) s) s := by
  obtain ⟨b1, b2, b3, b4⟩ := lnX_b hx
  have e10 : (x / 10).toInt = x.toInt / 10 := iDiv (y := 10) hx.1 (by decide)
  intro d
  induction d with
  | zero =>
    intro m n s h1 h2
    obtain ⟨n, rfl⟩ : ∃ q, n = q + 1 := ⟨n - 1, by omega⟩
    have hp := pw_n (m := m) (by omega)
    have em : 10 ^ lnX x = 10 ^ m * 10 := by rw [← h1, Nat.add_zero, Nat.pow_succ]
    rw [dm242_2, if_pos (by rw [iLt, e10, iOfNat (by omega)]; rw [em] at b3; omega)]
    have := e242b x (lnX x) 5000 s (by omega) (by omega)
    rw [em, Nat.mul_div_cancel _ (by decide)] at this
    exact this
  | succ d ih =>
    intro m n s h1 h2
    obtain ⟨n, rfl⟩ : ∃ q, n = q + 1 := ⟨n - 1, by omega⟩
    have hp := pw_n (m := m) (by omega)
    have hp1 := pw_n (m := m + 1) (by omega)
    have b5 := b4 (by omega)
    have hle : 10 ^ (m + 1) ≤ 10 ^ (lnX x - 1) := Nat.pow_le_pow_right (by decide) (by omega)
    have es : 10 ^ (m + 1) = 10 ^ m * 10 := Nat.pow_succ ..
    have e : 10 * Int32.ofNat (10 ^ m) = Int32.ofNat (10 ^ (m + 1)) := by
      rw [iEq, iMul (by rw [iOfNat (by omega)]; show -2147483648 ≤ 10 * ((10 ^ m : Nat) : Int); omega) (by rw [iOfNat (by omega)]; show 10 * ((10 ^ m : Nat) : Int) ≤ 2147483647; omega), iOfNat (by omega), iOfNat (by omega)]
      show 10 * ((10 ^ m : Nat) : Int) = ((10 ^ (m + 1) : Nat) : Int)
      omega
    rw [dm242_2, if_neg (by rw [iLt, e10, iOfNat (by omega)]; omega), e]
    exact ih (m + 1) n s (by omega) (by omega)
set_option maxRecDepth 100000 in
theorem e242 {x : Int32} (hx : 0 ≤ x.toInt ∧ x.toInt ≤ 1048576) (s : aS) : Er (deM x (lnX x)) (dm242 x s) s := e242a hx (lnX x - 1) 0 5000 s (by have := lnX_b hx; omega) (by have := lnX_b hx; omega)
/-- column letters -/
def coM (x : Int32) : List Int32 := (if x ≤ 702 then [] else [(64 + ((x - 703) / 676)) + 1]) ++ ((if x ≤ 26 then [] else [65 + (((x - 27) / 26) - ((x - 27) / 26) / 26 * 26)]) ++ [65 + ((x - 1) - (x - 1) / 26 * 26)])
def crM (w c f : Int32) : List Int32 := (if (f &&& 2) ≤ 0 then [] else [36]) ++ (coM c ++ ((if (f &&& 1) ≤ 0 then [] else [36]) ++ deM w (lnX w)))
set_option maxRecDepth 100000 in
theorem e241 {w : Int32} (hw : 0 ≤ w.toInt ∧ w.toInt ≤ 1048576) (c f : Int32) (s : aS) : Er (crM w c f) (dm241 w c f s) s := by
  have f51 : ∀ s, Er (deM w (lnX w)) (dm241_51 w s) s := fun s => by
    unfold dm241_51
    exact (e242 hw s).o
  have f35 : ∀ s, Er ([65 + ((c - 1) - (c - 1) / 26 * 26)] ++ ((if (f &&& 1) ≤ 0 then [] else [36]) ++ deM w (lnX w))) (dm241_35 w c f s) s := fun s => by
    unfold dm241_35
    refine (e235 _ s).b fun s1 _ => ?_
    by_cases q : (f &&& 1) ≤ 0
    · rw [if_pos q, if_pos q]
      exact f51 s1
    · rw [if_neg q, if_neg q]
      exact (e235 _ s1).b fun s2 _ => f51 s2
  have f21 : ∀ s, Er ((if c ≤ 26 then [] else [65 + (((c - 27) / 26) - ((c - 27) / 26) / 26 * 26)]) ++ ([65 + ((c - 1) - (c - 1) / 26 * 26)] ++ ((if (f &&& 1) ≤ 0 then [] else [36]) ++ deM w (lnX w)))) (dm241_21 w c f s) s := fun s => by
    unfold dm241_21
    by_cases q : c ≤ 26
    · rw [if_pos q, if_pos q]
      exact f35 s
    · rw [if_neg q, if_neg q]
      exact (e235 _ s).b fun s1 _ => f35 s1
  have f7 : ∀ s, Er ((if c ≤ 702 then [] else [(64 + ((c - 703) / 676)) + 1]) ++ ((if c ≤ 26 then [] else [65 + (((c - 27) / 26) - ((c - 27) / 26) / 26 * 26)]) ++ ([65 + ((c - 1) - (c - 1) / 26 * 26)] ++ ((if (f &&& 1) ≤ 0 then [] else [36]) ++ deM w (lnX w))))) (dm241_7 w c f s) s := fun s => by
    unfold dm241_7
    by_cases q : c ≤ 702
    · rw [if_pos q, if_pos q]
      exact f21 s
    · rw [if_neg q, if_neg q]
      exact (e235 _ s).b fun s1 _ => f21 s1
  have e : (if (f &&& 2) ≤ 0 then ([] : List Int32) else [36]) ++ ((if c ≤ 702 then [] else [(64 + ((c - 703) / 676)) + 1]) ++ ((if c ≤ 26 then [] else [65 + (((c - 27) / 26) - ((c - 27) / 26) / 26 * 26)]) ++ ([65 + ((c - 1) - (c - 1) / 26 * 26)] ++ ((if (f &&& 1) ≤ 0 then [] else [36]) ++ deM w (lnX w))))) = crM w c f := by
    unfold crM coM
    rw [List.append_assoc, List.append_assoc]
  refine Er.eq ?_ e
  unfold dm241
  by_cases q : (f &&& 2) ≤ 0
  · rw [if_pos q, if_pos q]
    exact f7 s
  · rw [if_neg q, if_neg q]
    exact (e235 _ s).b fun s1 _ => f7 s1
end
section
/-! columns, rows and corners: both write the same -/
set_option maxRecDepth 100000 in
theorem de_lo {x : Int32} {m : Nat} (hm : m ≤ 8) (h : x.toInt < ((10 ^ m : Nat) : Int)) : deC x (m + 1) = deC x m := by
  have hp := pw_n hm
  show (if x < Int32.ofNat (10 ^ m) then [] else [dgC x m]) ++ deC x m = deC x m
  rw [if_pos (by rw [iLt, iOfNat (by omega)]; exact h)]
  rfl
set_option maxRecDepth 100000 in
theorem de_hi {x : Int32} : ∀ (m : Nat), m ≤ 8 → (1 ≤ m → ((10 ^ (m - 1) : Nat) : Int) ≤ x.toInt) → deC x m = deM x m
  | 0, _, _ => rfl
  | m + 1, h8, h => by
    have hp := pw_n (m := m) (by omega)
    have h0 : ((10 ^ m : Nat) : Int) ≤ x.toInt := h (by omega)
    show (if x < Int32.ofNat (10 ^ m) then [] else [dgC x m]) ++ deC x m = dgC x m :: deM x m
    rw [if_neg (by rw [iLt, iOfNat (by omega)]; omega), de_hi m (by omega) (fun z => by
      have : 10 ^ (m - 1) ≤ 10 ^ m := Nat.pow_le_pow_right (by decide) (by omega)
      omega)]
    rfl
set_option maxRecDepth 100000 in
theorem de_eq {x : Int32} (hx : 1 ≤ x.toInt ∧ x.toInt ≤ 1048576) : deC x 7 = deM x (lnX x) := by
  obtain ⟨b1, b2, b3, b4⟩ := lnX_b (x := x) (by omega)
  have up : ∀ d m, m + d = 7 → lnX x ≤ m → deC x 7 = deC x m := by
    intro d
    induction d with
    | zero =>
      intro m h1 h2
      rw [show m = 7 by omega]
    | succ d ih =>
      intro m h1 h2
      have hle : 10 ^ lnX x ≤ 10 ^ m := Nat.pow_le_pow_right (by decide) h2
      rw [ih (m + 1) (by omega) (by omega), de_lo (by omega) (by omega)]
  rw [up (7 - lnX x) (lnX x) (by omega) (Nat.le_refl _)]
  refine de_hi _ (by omega) (fun z => ?_)
  by_cases q : 2 ≤ lnX x
  · exact b4 q
  · rw [show lnX x = 1 by omega]
    show (1 : Int) ≤ x.toInt
    omega
set_option maxRecDepth 100000 in
theorem co_eq {x : Int32} (hx : 1 ≤ x.toInt ∧ x.toInt ≤ 16384) : coC x = coM x := by
  have s1 : (x - 1).toInt = x.toInt - 1 := iSub (y := 1) (by show _ ≤ x.toInt - 1; omega) (by show x.toInt - 1 ≤ _; omega)
  have s26 : (x - 1) - 26 = x - 27 := by
    rw [iEq, iSub (y := 26) (by rw [s1]; show _ ≤ x.toInt - 1 - 26; omega) (by rw [s1]; show x.toInt - 1 - 26 ≤ _; omega), s1, iSub (y := 27) (by show _ ≤ x.toInt - 27; omega) (by show x.toInt - 27 ≤ _; omega)]
    show x.toInt - 1 - 26 = x.toInt - 27
    omega
  have s27 : (x - 27).toInt = x.toInt - 27 := iSub (y := 27) (by show _ ≤ x.toInt - 27; omega) (by show x.toInt - 27 ≤ _; omega)
  have s703 : (x - 27) - 676 = x - 703 := by
    rw [iEq, iSub (y := 676) (by rw [s27]; show _ ≤ x.toInt - 27 - 676; omega) (by rw [s27]; show x.toInt - 27 - 676 ≤ _; omega), s27, iSub (y := 703) (by show _ ≤ x.toInt - 703; omega) (by show x.toInt - 703 ≤ _; omega)]
    show x.toInt - 27 - 676 = x.toInt - 703
    omega
  have t703 : (x - 703).toInt = x.toInt - 703 := iSub (y := 703) (by show _ ≤ x.toInt - 703; omega) (by show x.toInt - 703 ≤ _; omega)
  unfold coC coM
  rw [s26, s703]
  have a1 : (x - 1) < 702 ↔ x ≤ 702 := by
    rw [iLt, iLe, s1]
    show x.toInt - 1 < 702 ↔ x.toInt ≤ 702
    omega
  have a2 : (x - 1) < 26 ↔ x ≤ 26 := by
    rw [iLt, iLe, s1]
    show x.toInt - 1 < 26 ↔ x.toInt ≤ 26
    omega
  have e2 : (if (x - 1) < 26 then ([] : List Int32) else [65 + (((x - 27) / 26) - ((x - 27) / 26) / 26 * 26)]) = (if x ≤ 26 then [] else [65 + (((x - 27) / 26) - ((x - 27) / 26) / 26 * 26)]) := by
    by_cases c : x ≤ 26
    · rw [if_pos c, if_pos (a2.mpr c)]
    · rw [if_neg c, if_neg (fun z => c (a2.mp z))]
  have e1 : (if (x - 1) < 702 then ([] : List Int32) else [65 + ((x - 703) / 676)]) = (if x ≤ 702 then [] else [(64 + ((x - 703) / 676)) + 1]) := by
    by_cases c : x ≤ 702
    · rw [if_pos c, if_pos (a1.mpr c)]
    · rw [if_neg c, if_neg (fun z => c (a1.mp z))]
      have hc : ¬ x.toInt ≤ 702 := fun z => c (iLe.mpr z)
      have d : ((x - 703) / 676).toInt = (x.toInt - 703) / 676 := by
        rw [iDiv (y := 676) (by omega) (by decide), t703]
        rfl
      have hd : 0 ≤ (x.toInt - 703) / 676 ∧ (x.toInt - 703) / 676 ≤ 100 := by omega
      have p64 : (64 + ((x - 703) / 676)).toInt = 64 + (x.toInt - 703) / 676 := by
        rw [iAdd (x := 64) (by rw [d]; show _ ≤ 64 + (x.toInt - 703) / 676; omega) (by rw [d]; show 64 + (x.toInt - 703) / 676 ≤ _; omega), d]
        rfl
      have : 65 + ((x - 703) / 676) = (64 + ((x - 703) / 676)) + 1 := by
        rw [iEq, iAdd (x := 65) (by rw [d]; show _ ≤ 65 + (x.toInt - 703) / 676; omega) (by rw [d]; show 65 + (x.toInt - 703) / 676 ≤ _; omega), d, iAdd (y := 1) (by rw [p64]; show _ ≤ 64 + (x.toInt - 703) / 676 + 1; omega) (by rw [p64]; show 64 + (x.toInt - 703) / 676 + 1 ≤ _; omega), p64]
        show 65 + (x.toInt - 703) / 676 = 64 + (x.toInt - 703) / 676 + 1
        omega
      rw [this]
  rw [e1, e2]
set_option maxRecDepth 100000 in
theorem fl_a : ∀ f ∈ List.range 16, (((Int32.ofNat f) &&& 2) = 0 ↔ (((Int32.ofNat f) &&& 3) &&& 2) ≤ 0) ∧ (((Int32.ofNat f) &&& 1) = 0 ↔ (((Int32.ofNat f) &&& 3) &&& 1) ≤ 0) ∧ (((Int32.ofNat f / 4) &&& 2) = 0 ↔ (((Int32.ofNat f) >>> ((2 : Int32) &&& 31)) &&& 2) ≤ 0) ∧ (((Int32.ofNat f / 4) &&& 1) = 0 ↔ (((Int32.ofNat f) >>> ((2 : Int32) &&& 31)) &&& 1) ≤ 0) := by decide
set_option maxRecDepth 100000 in
theorem ite_i {p q : Prop} [Decidable p] [Decidable q] (h : p ↔ q) (a b : List Int32) : (if p then a else b) = if q then a else b := by
  by_cases c : p
  · rw [if_pos c, if_pos (h.mp c)]
  · rw [if_neg c, if_neg (fun z => c (h.mpr z))]
set_option maxRecDepth 100000 in
theorem cr_eq {w c f : Int32} (hw : 1 ≤ w.toInt ∧ w.toInt ≤ 1048576) (hc : 1 ≤ c.toInt ∧ c.toInt ≤ 16384) (hf : 0 ≤ f.toInt ∧ f.toInt ≤ 15) : crC w c f = crM w c (f &&& 3) ∧ crC w c (f / 4) = crM w c (f >>> ((2 : Int32) &&& 31)) := by
  have ef := ofNat_of (x := f) hf.1
  obtain ⟨a1, a2, a3, a4⟩ := fl_a f.toInt.toNat (List.mem_range.mpr (by omega))
  rw [← ef] at a1 a2 a3 a4
  unfold crC crM
  rw [de_eq hw, co_eq hc]
  exact ⟨by rw [ite_i a1, ite_i a2], by rw [ite_i a3, ite_i a4]⟩
end
section
/-! the reference: is a name written in quotes, exactly -/
set_option maxRecDepth 100000 in
theorem LD9 {x : Int32} (h : isL x) : ¬ isD x := by unfold isL at h; unfold isD; omega
set_option maxRecDepth 100000 in
theorem d240 {s : aS} {i u : Nat} {t w : List Int32} {W : Int64} (hi : i < 8) (hL : sI s 123 i = Int32.ofNat t.length) (hT : ∀ j (g : j < t.length), sI s 124 (32 * i + j) = t[j]) (h31 : t.length ≤ 31) (hu : u ≤ 5) (hW : ∀ k, k < u → ((W >>> ((8 * ((Int32.ofNat u - 1) - Int32.ofNat k)).toInt64 &&& 63)) &&& 255).toInt32 = w.getD k 0) : dm240 (Int32.ofNat i) W (Int32.ofNat u) s = some (b01 (t.length = u ∧ spQ t w 0 u 0)) := by
  have b8 : aB (Int32.ofNat i) 8 := aB_of hi (by omega)
  have j8 : jN (Int32.ofNat i) = i := jN_of (by omega)
  have loop0 : ∀ n x6, dm240_12 (n + 1) (Int32.ofNat i) W (Int32.ofNat u) 0 x6 s = some 0 := by
    intro n x6
    rw [dm240_12]
    split
    · rw [if_pos (Or.inl rfl)]
    · rw [if_pos rfl, if_pos (Or.inl rfl)]
  have loop : ∀ (m j n : Nat), t.length = u → j + m = u → m + 1 < n → dm240_12 n (Int32.ofNat i) W (Int32.ofNat u) 1 (Int32.ofNat j) s = some (b01 (spQ t w 0 u j)) := by
    intro m
    induction m with
    | zero =>
      intro j n h0 h1 h2
      obtain ⟨n, rfl⟩ : ∃ q, n = q + 1 := ⟨n - 1, by omega⟩
      rw [dm240_12, if_pos ((nle_iff (by omega) (by omega)).mpr (by omega)), if_pos (Or.inr rfl), b01_t (p := spQ t w 0 u j) (fun k h3 h4 => by omega)]
    | succ m ih =>
      intro j n h0 h1 h2
      obtain ⟨n, rfl⟩ : ∃ q, n = q + 2 := ⟨n - 2, by omega⟩
      have hj : j < t.length := by omega
      have ej : gr (t.getD (0 + j) (-1)) = gr t[j] := by rw [Nat.zero_add, getD_in hj]
      rw [dm240_12, if_neg (fun q => by have := (nle_iff (by omega) (by omega)).mp q; omega), if_neg (by decide), iLin (by omega) (by omega), if_pos (aB_of (n := 256) (by omega) (by omega)), jN_of (by omega), hT j hj, d178]
      simp only [bu_some]
      rw [hW j (by omega)]
      unfold dm240_42
      rw [ofNat_succ (by omega)]
      by_cases c : gr t[j] = w.getD j 0
      · rw [if_pos c, ih (j + 1) (n + 1) h0 (by omega) (by omega)]
        have : spQ t w 0 u (j + 1) = spQ t w 0 u j := propext ⟨fun z k h3 h4 => by
          by_cases e : k = j
          · rw [e, ej]
            exact c
          · exact z k (by omega) h4, fun z k h3 h4 => z k (by omega) h4⟩
        rw [this]
      · rw [if_neg c, loop0 n, b01_f (p := spQ t w 0 u j) (fun z => c (by rw [← ej]; exact z j (Nat.le_refl _) (by omega)))]
  unfold dm240 dm240_9
  rw [if_pos b8, j8, hL]
  by_cases c : t.length = u
  · rw [if_pos (by rw [c])]
    refine Eq.trans (loop u 0 5000 c (by omega) (by omega)) ?_
    rw [show (t.length = u ∧ spQ t w 0 u 0) = spQ t w 0 u 0 from propext ⟨fun z => z.2, fun z => ⟨c, z⟩⟩]
  · rw [if_neg (fun z => c ((neq_iff (by omega) (by omega)).mp z)), b01_f (p := t.length = u ∧ spQ t w 0 u 0) (fun z => c z.1)]
    exact loop0 4999 0
set_option maxRecDepth 100000 in
/-- letters ahead of the first figure, and figures -/
noncomputable def cl3 : List Int32 → Nat → Nat → Nat × Nat
  | [], a, d => (a, d)
  | x :: r, a, d => cl3 r (if b01 (isL x) = 0 then a else if d = 0 then a + 1 else a) (if b01 (isD x) = 0 then d else d + 1)
set_option maxRecDepth 100000 in
theorem cl3_le : ∀ (r : List Int32) (a d : Nat), (cl3 r a d).1 + (cl3 r a d).2 ≤ a + d + r.length ∧ a ≤ (cl3 r a d).1 ∧ d ≤ (cl3 r a d).2
  | [], a, d => ⟨Nat.le_refl _, Nat.le_refl _, Nat.le_refl _⟩
  | x :: r, a, d => by
    have ih := cl3_le r (if b01 (isL x) = 0 then a else if d = 0 then a + 1 else a) (if b01 (isD x) = 0 then d else d + 1)
    have e9 : cl3 (x :: r) a d = cl3 r (if b01 (isL x) = 0 then a else if d = 0 then a + 1 else a) (if b01 (isD x) = 0 then d else d + 1) := rfl
    rw [e9, List.length_cons]
    by_cases c1 : isL x
    · have c2 : ¬ isD x := LD9 c1
      rw [b01_t c1, if_neg (show ¬ (1 : Int32) = 0 by decide), b01_f c2, if_pos rfl] at ih ⊢
      by_cases c3 : d = 0
      · rw [if_pos c3] at ih ⊢
        omega
      · rw [if_neg c3] at ih ⊢
        omega
    · rw [b01_f c1, if_pos rfl] at ih ⊢
      by_cases c2 : isD x
      · rw [b01_t c2, if_neg (show ¬ (1 : Int32) = 0 by decide)] at ih ⊢
        omega
      · rw [b01_f c2, if_pos rfl] at ih ⊢
        omega
set_option maxRecDepth 100000 in
theorem cl3_d : ∀ (r : List Int32) (a d : Nat), 0 < d → (cl3 r a d).1 = a ∧ ((cl3 r a d).2 = d + r.length ↔ cntF isD r = r.length)
  | [], a, d, h => ⟨rfl, ⟨fun _ => rfl, fun _ => rfl⟩⟩
  | x :: r, a, d, h => by
    have hd : ¬ d = 0 := by omega
    have e : cl3 (x :: r) a d = cl3 r a (if b01 (isD x) = 0 then d else d + 1) := by
      show cl3 r (if b01 (isL x) = 0 then a else if d = 0 then a + 1 else a) _ = _
      rw [if_neg hd, ite_self]
    rw [e]
    have ec : cntF isD (x :: r) = if b01 (isD x) = 0 then 0 else cntF isD r + 1 := rfl
    rw [ec, List.length_cons]
    by_cases c2 : isD x
    · rw [b01_t c2, if_neg (show ¬ (1 : Int32) = 0 by decide), if_neg (show ¬ (1 : Int32) = 0 by decide)]
      obtain ⟨i1, i2⟩ := cl3_d r a (d + 1) (by omega)
      refine ⟨i1, ?_⟩
      rw [show d + (r.length + 1) = d + 1 + r.length by omega, i2]
      omega
    · rw [b01_f c2, if_pos rfl, if_pos rfl]
      obtain ⟨i1, -⟩ := cl3_d r a d h
      have := cl3_le r a d
      exact ⟨i1, by omega⟩
set_option maxRecDepth 100000 in
theorem cl3_0 : ∀ (r : List Int32) (a : Nat), ((cl3 r a 0).1 + (cl3 r a 0).2 = a + r.length ↔ cntF isL r + cntF isD (r.drop (cntF isL r)) = r.length) ∧ ((cl3 r a 0).1 + (cl3 r a 0).2 = a + r.length → (cl3 r a 0).1 = a + cntF isL r)
  | [], a => ⟨⟨fun _ => rfl, fun _ => rfl⟩, fun _ => rfl⟩
  | x :: r, a => by
    have el : cntF isL (x :: r) = if b01 (isL x) = 0 then 0 else cntF isL r + 1 := rfl
    have e : cl3 (x :: r) a 0 = cl3 r (if b01 (isL x) = 0 then a else a + 1) (if b01 (isD x) = 0 then 0 else 1) := rfl
    rw [e, el, List.length_cons]
    by_cases c1 : isL x
    · have c2 : ¬ isD x := LD9 c1
      rw [b01_t c1, if_neg (show ¬ (1 : Int32) = 0 by decide), if_neg (show ¬ (1 : Int32) = 0 by decide), b01_f c2, if_pos rfl, List.drop_succ_cons]
      obtain ⟨i1, i2⟩ := cl3_0 r (a + 1)
      refine ⟨?_, fun z => ?_⟩
      · rw [show a + (r.length + 1) = a + 1 + r.length by omega, i1]
        omega
      · have := i2 (by omega)
        omega
    · rw [b01_f c1, if_pos rfl, if_pos rfl, List.drop_zero]
      have ed : cntF isD (x :: r) = if b01 (isD x) = 0 then 0 else cntF isD r + 1 := rfl
      rw [ed]
      by_cases c2 : isD x
      · rw [b01_t c2, if_neg (show ¬ (1 : Int32) = 0 by decide), if_neg (show ¬ (1 : Int32) = 0 by decide)]
        obtain ⟨i1, i2⟩ := cl3_d r a 1 (by omega)
        refine ⟨?_, fun _ => by omega⟩
        constructor
        · intro z
          have := i2.mp (by omega)
          omega
        · intro z
          have := i2.mpr (by omega)
          omega
      · rw [b01_f c2, if_pos rfl, if_pos rfl]
        have := cl3_le r a 0
        exact ⟨by omega, fun z => by omega⟩
set_option maxRecDepth 100000 in
theorem cl3_c {t : List Int32} : (1 ≤ (cl3 t 0 0).1 ∧ (cl3 t 0 0).1 ≤ 3 ∧ 0 < (cl3 t 0 0).2 ∧ (cl3 t 0 0).1 + (cl3 t 0 0).2 = t.length) ↔ likeCell t := by
  obtain ⟨i1, i2⟩ := cl3_0 t 0
  rw [Nat.zero_add] at i1 i2
  unfold likeCell
  constructor
  · rintro ⟨h1, h2, h3, h4⟩
    have e1 := i2 h4
    have e2 := i1.mp h4
    omega
  · rintro ⟨h1, h2, h3, h4⟩
    have e2 := i1.mpr h4
    have e1 := i2 e2
    omega
set_option maxRecDepth 100000 in
theorem cnt_all {p : Int32 → Prop} : ∀ (r : List Int32), cntF p r = r.length ↔ ∀ x ∈ r, p x
  | [] => ⟨fun _ x hx => (by cases hx), fun _ => rfl⟩
  | x :: r => by
    have e : cntF p (x :: r) = if b01 (p x) = 0 then 0 else cntF p r + 1 := rfl
    rw [e, List.length_cons]
    by_cases c : p x
    · rw [b01_t c, if_neg (show ¬ (1 : Int32) = 0 by decide)]
      have ih := cnt_all (p := p) r
      constructor
      · intro z y hy
        rcases List.mem_cons.mp hy with q | q
        · rw [q]
          exact c
        · exact ih.mp (by omega) y q
      · intro z
        have := ih.mpr (fun y hy => z y (List.mem_cons_of_mem _ hy))
        omega
    · rw [b01_f c, if_pos rfl]
      exact ⟨fun z => by omega, fun z => absurd (z x List.mem_cons_self) c⟩
set_option maxRecDepth 100000 in
theorem d239 {s : aS} {i : Nat} {t : List Int32} (hi : i < 8) (hL : sI s 123 i = Int32.ofNat t.length) (hT : ∀ j (g : j < t.length), sI s 124 (32 * i + j) = t[j]) (h31 : 1 ≤ t.length ∧ t.length ≤ 31) : dm239 (Int32.ofNat i) s = some (b01 (qtP t)) := by
  have b8 : aB (Int32.ofNat i) 8 := aB_of hi (by omega)
  have j8 : jN (Int32.ofNat i) = i := jN_of (by omega)
  have n10 : ¬ (1 : Int32) = 0 := by decide
  have e1 : dm240 (Int32.ofNat i) 1414681925 4 s = some (b01 (t.length = 4 ∧ spQ t trL 0 4 0)) := d240 (u := 4) (W := 1414681925) hi hL hT h31.2 (by omega) (fun k hk => by
    match k, hk with
    | 0, _ => decide
    | 1, _ => decide
    | 2, _ => decide
    | 3, _ => decide)
  have e2 : dm240 (Int32.ofNat i) 301743231813 5 s = some (b01 (t.length = 5 ∧ spQ t faL 0 5 0)) := d240 (u := 5) (W := 301743231813) hi hL hT h31.2 (by omega) (fun k hk => by
    match k, hk with
    | 0, _ => decide
    | 1, _ => decide
    | 2, _ => decide
    | 3, _ => decide
    | 4, _ => decide)
  generalize hA4 : (t.length = 4 ∧ spQ t trL 0 4 0) = A4 at e1
  generalize hA5 : (t.length = 5 ∧ spQ t faL 0 5 0) = A5 at e2
  have h79 : ∀ (p : Prop) (y : Int32), (y = 0 ∨ y = 1) → dm239_79 (Int32.ofNat i) (b01 p) y s = some (b01 (¬ p ∨ y = 1 ∨ A4 ∨ A5)) := by
    intro p y hy
    unfold dm239_79 dm239_96
    rw [e1, e2]
    simp only [bu_some]
    by_cases c : p
    · rw [b01_t c, if_neg n10]
      by_cases cy : y = 0
      · rw [if_pos cy]
        by_cases c4 : A4
        · rw [b01_t c4, if_neg n10, b01_t (p := ¬ p ∨ y = 1 ∨ A4 ∨ A5) (Or.inr (Or.inr (Or.inl c4)))]
        · rw [b01_f c4, if_pos rfl]
          by_cases c5 : A5
          · rw [b01_t c5, if_neg n10, b01_t (p := ¬ p ∨ y = 1 ∨ A4 ∨ A5) (Or.inr (Or.inr (Or.inr c5)))]
          · rw [b01_f c5, if_pos rfl, b01_f (p := ¬ p ∨ y = 1 ∨ A4 ∨ A5)]
            rintro (z | z | z | z)
            · exact z c
            · rw [cy] at z
              exact absurd z (by decide)
            · exact c4 z
            · exact c5 z
      · rw [if_neg cy, b01_t (p := ¬ p ∨ y = 1 ∨ A4 ∨ A5) (Or.inr (Or.inl (hy.resolve_left cy)))]
    · rw [b01_f c, if_pos rfl, b01_t (p := ¬ p ∨ y = 1 ∨ A4 ∨ A5) (Or.inl c)]
  have loop : ∀ (m j n a d : Nat) (p : Prop), a ≤ j → d ≤ j → j + m = t.length → m < n → dm239_14 n (Int32.ofNat i) (b01 p) (Int32.ofNat a) (Int32.ofNat d) (Int32.ofNat j) s = some (b01 (¬ (p ∧ ∀ x ∈ t.drop j, gW x) ∨ (1 ≤ (cl3 (t.drop j) a d).1 ∧ (cl3 (t.drop j) a d).1 ≤ 3 ∧ 0 < (cl3 (t.drop j) a d).2 ∧ (cl3 (t.drop j) a d).1 + (cl3 (t.drop j) a d).2 = t.length) ∨ A4 ∨ A5)) := by
    intro m
    induction m with
    | zero =>
      intro j n a d p ha hd h1 h2
      obtain ⟨n, rfl⟩ : ∃ q, n = q + 1 := ⟨n - 1, by omega⟩
      rw [List.drop_eq_nil_of_le (by omega)]
      have ep : (p ∧ ∀ x ∈ ([] : List Int32), gW x) = p := propext ⟨fun z => z.1, fun z => ⟨z, fun x hx => (by cases hx)⟩⟩
      rw [ep]
      show _ = some (b01 (¬ p ∨ (1 ≤ a ∧ a ≤ 3 ∧ 0 < d ∧ a + d = t.length) ∨ A4 ∨ A5))
      have key : ∀ y : Int32, (y = 0 ∨ y = 1) → (y = 1 ↔ (1 ≤ a ∧ a ≤ 3 ∧ 0 < d ∧ a + d = t.length)) → dm239_79 (Int32.ofNat i) (b01 p) y s = some (b01 (¬ p ∨ (1 ≤ a ∧ a ≤ 3 ∧ 0 < d ∧ a + d = t.length) ∨ A4 ∨ A5)) := by
        intro y hy hq
        rw [h79 p y hy, propext hq]
      have k0 : ¬ (1 ≤ a ∧ a ≤ 3 ∧ 0 < d ∧ a + d = t.length) → dm239_79 (Int32.ofNat i) (b01 p) 0 s = some (b01 (¬ p ∨ (1 ≤ a ∧ a ≤ 3 ∧ 0 < d ∧ a + d = t.length) ∨ A4 ∨ A5)) := fun z => key 0 (Or.inl rfl) ⟨fun w => absurd w (by decide), fun w => absurd w z⟩
      rw [dm239_14]
      simp only [if_pos b8, j8, hL]
      rw [if_pos ((nle_iff (by omega) (by omega)).mpr (by omega))]
      unfold dm239_78
      by_cases c1 : a < 1
      · rw [if_pos (show Int32.ofNat a < 1 from (nlt_iff (b := 1) (by omega) (by omega)).mpr c1)]
        exact k0 (by omega)
      · rw [if_neg (show ¬ Int32.ofNat a < 1 from fun z => c1 ((nlt_iff (b := 1) (by omega) (by omega)).mp z))]
        by_cases c2 : 3 < a
        · rw [if_pos (show (3 : Int32) < Int32.ofNat a from (nlt_iff (a := 3) (by omega) (by omega)).mpr c2)]
          exact k0 (by omega)
        · rw [if_neg (show ¬ (3 : Int32) < Int32.ofNat a from fun z => c2 ((nlt_iff (a := 3) (by omega) (by omega)).mp z))]
          by_cases c3 : d ≤ 0
          · rw [if_pos (show Int32.ofNat d ≤ 0 from (nle_iff (b := 0) (by omega) (by omega)).mpr c3)]
            exact k0 (by omega)
          · rw [if_neg (show ¬ Int32.ofNat d ≤ 0 from fun z => c3 ((nle_iff (b := 0) (by omega) (by omega)).mp z)), iSum (by omega) (by omega)]
            by_cases c4 : a + d = t.length
            · rw [if_pos (by rw [c4])]
              exact key 1 (Or.inr rfl) ⟨fun _ => by omega, fun _ => rfl⟩
            · rw [if_neg (fun z => c4 ((neq_iff (by omega) (by omega)).mp z))]
              exact k0 (by omega)
    | succ m ih =>
      intro j n a d p ha hd h1 h2
      obtain ⟨n, rfl⟩ : ∃ q, n = q + 1 := ⟨n - 1, by omega⟩
      have hj : j < t.length := by omega
      have hx : sI s 124 (jN (Int32.ofNat (32 * i + j))) = t[j] := by rw [jN_of (by omega)]; exact hT j hj
      rw [dm239_14]
      simp only [if_pos b8, j8, hL]
      rw [if_neg (fun q => by have := (nle_iff (by omega) (by omega)).mp q; omega), iLin (by omega) (by omega)]
      simp only [if_pos (aB_of (i := 32 * i + j) (n := 256) (by omega) (by omega)), hx, d211, bu_some]
      unfold dm239_36
      -- the word goes on or not
      have e37 : (if b01 p = 0 then dm239_37 (dm239_14 n) (Int32.ofNat i) (Int32.ofNat a) (Int32.ofNat d) (Int32.ofNat j) t[j] 0 s else if b01 (gW t[j]) = 0 then dm239_37 (dm239_14 n) (Int32.ofNat i) (Int32.ofNat a) (Int32.ofNat d) (Int32.ofNat j) t[j] 0 s else dm239_37 (dm239_14 n) (Int32.ofNat i) (Int32.ofNat a) (Int32.ofNat d) (Int32.ofNat j) t[j] 1 s) = dm239_37 (dm239_14 n) (Int32.ofNat i) (Int32.ofNat a) (Int32.ofNat d) (Int32.ofNat j) t[j] (b01 (p ∧ gW t[j])) s := by
        by_cases c1 : p
        · rw [b01_t c1, if_neg n10]
          by_cases c2 : gW t[j]
          · rw [b01_t c2, if_neg n10, b01_t (p := p ∧ gW t[j]) ⟨c1, c2⟩]
          · rw [b01_f c2, if_pos rfl, b01_f (p := p ∧ gW t[j]) (fun z => c2 z.2)]
        · rw [b01_f c1, if_pos rfl, b01_f (p := p ∧ gW t[j]) (fun z => c1 z.1)]
      rw [e37]
      have ed : t.drop j = t[j] :: t.drop (j + 1) := List.drop_eq_getElem_cons hj
      have e48 : ∀ y : Nat, y ≤ j + 1 → dm239_48 (dm239_14 n) (Int32.ofNat i) (b01 (p ∧ gW t[j])) (Int32.ofNat d) (Int32.ofNat j) t[j] (Int32.ofNat y) s = dm239_14 n (Int32.ofNat i) (b01 (p ∧ gW t[j])) (Int32.ofNat y) (Int32.ofNat (if b01 (isD t[j]) = 0 then d else d + 1)) (Int32.ofNat (j + 1)) s := by
        intro y hy
        unfold dm239_48 dm239_57
        rw [d196, ofNat_succ (by omega)]
        simp only [bu_some]
        by_cases c : isD t[j]
        · rw [b01_t c, if_neg n10, if_neg n10, ofNat_succ (by omega)]
        · rw [b01_f c, if_pos rfl, if_pos rfl]
      have e38 : dm239_37 (dm239_14 n) (Int32.ofNat i) (Int32.ofNat a) (Int32.ofNat d) (Int32.ofNat j) t[j] (b01 (p ∧ gW t[j])) s = dm239_48 (dm239_14 n) (Int32.ofNat i) (b01 (p ∧ gW t[j])) (Int32.ofNat d) (Int32.ofNat j) t[j] (Int32.ofNat (if b01 (isL t[j]) = 0 then a else if d = 0 then a + 1 else a)) s := by
        unfold dm239_37 dm239_47
        rw [d198]
        simp only [bu_some]
        by_cases c : isL t[j]
        · rw [b01_t c, if_neg n10, if_neg n10]
          by_cases c0 : d = 0
          · rw [if_pos c0, if_pos (show Int32.ofNat d = 0 by rw [c0]; rfl), ofNat_succ (by omega)]
          · rw [if_neg c0, if_neg (show ¬ Int32.ofNat d = 0 from fun z => c0 ((neq_iff (b := 0) (by omega) (by omega)).mp z))]
        · rw [b01_f c, if_pos rfl, if_pos rfl]
      have ha1 : (if b01 (isL t[j]) = 0 then a else if d = 0 then a + 1 else a) ≤ j + 1 := by
        repeat' split
        all_goals omega
      have hd1 : (if b01 (isD t[j]) = 0 then d else d + 1) ≤ j + 1 := by split <;> omega
      rw [e38, e48 _ ha1, ih (j + 1) n _ _ (p ∧ gW t[j]) ha1 hd1 (by omega) (by omega)]
      have eq : ((p ∧ gW t[j]) ∧ ∀ x ∈ t.drop (j + 1), gW x) = (p ∧ ∀ x ∈ t.drop j, gW x) := by
        rw [ed]
        refine propext ⟨fun z => ⟨z.1.1, fun x hx => ?_⟩, fun z => ⟨⟨z.1, z.2 _ List.mem_cons_self⟩, fun x hx => z.2 x (List.mem_cons_of_mem _ hx)⟩⟩
        rcases List.mem_cons.mp hx with q | q
        · rw [q]
          exact z.1.2
        · exact z.2 x q
      have ec : cl3 (t.drop j) a d = cl3 (t.drop (j + 1)) (if b01 (isL t[j]) = 0 then a else if d = 0 then a + 1 else a) (if b01 (isD t[j]) = 0 then d else d + 1) := by
        rw [ed]
        rfl
      rw [eq, ec]
  have e0 : (32 : Int32) * Int32.ofNat i = Int32.ofNat (32 * i) := by
    have := iLin (i := i) (j := 0) (by omega) (by omega)
    rw [Nat.add_zero] at this
    rw [← this, show Int32.ofNat 0 = 0 from rfl, Int32.add_zero]
  have h0 : sI s 124 (jN (Int32.ofNat (32 * i))) = t[0] := by rw [jN_of (by omega)]; exact hT 0 (by omega)
  unfold dm239
  rw [e0, if_pos (aB_of (n := 256) (by omega) (by omega)), h0, d197]
  simp only [bu_some]
  refine Eq.trans (loop t.length 0 5000 0 0 (bW t[0]) (by omega) (by omega) (by omega) (by omega)) ?_
  rw [List.drop_zero]
  have q1 : (¬ (bW t[0] ∧ ∀ x ∈ t, gW x)) = (wEnd t 0 ≠ t.length) := by
    unfold wEnd
    rw [getD_in (show 0 < t.length by omega), List.drop_zero, Nat.zero_add]
    refine propext ⟨fun z w => z ?_, fun z w => z ?_⟩
    · by_cases c : bW t[0]
      · rw [b01_t c, if_neg n10] at w
        exact ⟨c, (cnt_all t).mp w⟩
      · rw [b01_f c, if_pos rfl] at w
        omega
    · rw [b01_t w.1, if_neg n10]
      exact (cnt_all t).mpr w.2
  have q2 : (A4 ∨ A5) = (trI t 0 t.length ≠ -1) := by
    rw [← hA4, ← hA5]
    unfold trI
    rw [Nat.zero_add, Nat.zero_add]
    by_cases c4 : t.length = 4 ∧ spQ t trL 0 4 0
    · rw [if_pos ⟨c4.1, b01_t c4.2⟩]
      exact propext ⟨fun _ => by decide, fun _ => Or.inl c4⟩
    · rw [if_neg (fun z => c4 ⟨z.1, Classical.byContradiction fun y => by have := b01_f y; rw [this] at z; exact absurd z.2 (by decide)⟩)]
      by_cases c5 : t.length = 5 ∧ spQ t faL 0 5 0
      · rw [if_pos ⟨c5.1, b01_t c5.2⟩]
        exact propext ⟨fun _ => by decide, fun _ => Or.inr c5⟩
      · rw [if_neg (fun z => c5 ⟨z.1, Classical.byContradiction fun y => by have := b01_f y; rw [this] at z; exact absurd z.2 (by decide)⟩)]
        exact propext ⟨fun z => z.elim (fun y => absurd y c4) (fun y => absurd y c5), fun z => absurd rfl z⟩
  have q3 : (1 ≤ (cl3 t 0 0).1 ∧ (cl3 t 0 0).1 ≤ 3 ∧ 0 < (cl3 t 0 0).2 ∧ (cl3 t 0 0).1 + (cl3 t 0 0).2 = t.length) = likeCell t := propext cl3_c
  rw [q1, q3]
  have q4 : (wEnd t 0 ≠ t.length ∨ likeCell t ∨ A4 ∨ A5) = qtP t := by
    rw [q2]
    unfold qtP
    exact propext ⟨fun z => z.elim Or.inl (fun y => y.elim (fun x => Or.inr (Or.inr x)) (fun x => Or.inr (Or.inl x))), fun z => z.elim Or.inl (fun y => y.elim (fun x => Or.inr (Or.inr x)) (fun x => Or.inr (Or.inl x)))⟩
  rw [q4]
end
section
/-! the sheet of a cell, in both writers -/
def dbq (q : Int32) : List Int32 → List Int32
  | [] => []
  | x :: r => dq1 x q ++ dbq q r
set_option maxRecDepth 100000 in
noncomputable def qtT (t : List Int32) : List Int32 := if b01 (qtP t) = 0 then [] else [39]
set_option maxRecDepth 100000 in
noncomputable def shT (t : List Int32) : List Int32 := qtT t ++ (dbq 39 t ++ (qtT t ++ [33]))
section CW
variable {s : aS} {b : Nat} {ns : List (List Int32)}
set_option maxRecDepth 100000 in
theorem x151 {i j : Nat} (h : FS s b ns) (hi : i < ns.length) (hj : j < 1000) : dm151 (Int32.ofNat i) (Int32.ofNat j) s = some (ns[i].getD j (-1)) := by
  have h8 := h.2.2.2.2.2.2.1.1
  have hr := h.2.2.2.2.2.2.2.1
  have ei : (Int32.ofNat i).toInt = i := iOfNat (by omega)
  have hl := (h.2.2.2.2.2.2.1.2 _ (List.getElem_mem hi)).2.1
  unfold dm151
  rw [d40 h.2.2.2.2.2.1 h8, b01_t (by omega)]
  simp only [bu_some]
  rw [if_neg (by decide), if_pos (aB_of (by omega) (by omega)), jN_of (by omega), d34 (h.2.2.2.2.2.1.2 i hi) (by rw [show 84 + 2 * i + 1 = 85 + 2 * i by omega, hr.2 i (by omega)]; exact hl) (by omega) (by omega)]
  rfl
set_option maxRecDepth 100000 in
theorem x149 {i : Nat} (h : FS s b ns) (hi : i < ns.length) (hq : sI s 83 i = b01 (qtP ns[i])) : Ec (shT ns[i]) (dm149 (Int32.ofNat i) s) s := by
  have h8 := h.2.2.2.2.2.2.1.1
  have ei : (Int32.ofNat i).toInt = i := iOfNat (by omega)
  have hn := h.2.2.2.2.2.2.1.2 _ (List.getElem_mem hi)
  have n10 : ¬ (1 : Int32) = 0 := by decide
  have f32 : ∀ (p : Prop) s, Ec ((if b01 p = 0 then [] else [39]) ++ [33]) (dm149_32 (b01 p) s) s := fun p s => by
    unfold dm149_32 dm149_37
    by_cases c : b01 p = 0
    · rw [if_pos c, if_pos c]
      exact (x141 _ s).o
    · rw [if_neg c, if_neg c]
      exact (x141 _ s).b fun s1 _ => (x141 _ s1).o
  have loop : ∀ (p : Prop) (m j n : Nat) (s : aS), FS s b ns → j + m = ns[i].length → m < n → Ec (dbq 39 (ns[i].drop j) ++ ((if b01 p = 0 then [] else [39]) ++ [33])) (dm149_12 n (Int32.ofNat i) (b01 p) (Int32.ofNat j) s) s := by
    intro p m
    induction m with
    | zero =>
      intro j n s h h1 h2
      obtain ⟨n, rfl⟩ : ∃ q, n = q + 1 := ⟨n - 1, by omega⟩
      rw [List.drop_eq_nil_of_le (by omega), dm149_12]
      by_cases c : 31 ≤ j
      · rw [if_pos (show (31 : Int32) ≤ Int32.ofNat j from (nle_iff (a := 31) (by omega) (by omega)).mpr c)]
        exact f32 p s
      · rw [if_neg (show ¬ (31 : Int32) ≤ Int32.ofNat j from fun z => c ((nle_iff (a := 31) (by omega) (by omega)).mp z)), x151 h hi (by omega), getD_out (by omega)]
        simp only [bu_some]
        rw [if_pos trivial]
        exact f32 p s
    | succ m ih =>
      intro j n s h h1 h2
      obtain ⟨n, rfl⟩ : ∃ q, n = q + 1 := ⟨n - 1, by omega⟩
      have hj : j < ns[i].length := by omega
      have hx := hn.2.2 _ (List.getElem_mem hj)
      have hm1 : ¬ ns[i][j] = -1 := fun z => by
        rw [z] at hx
        exact absurd hx.1 (by decide)
      rw [dm149_12, if_neg (show ¬ (31 : Int32) ≤ Int32.ofNat j from fun z => by have := (nle_iff (a := 31) (by omega) (by omega)).mp z; omega), x151 h hi (by omega), getD_in hj]
      simp only [bu_some]
      rw [if_neg hm1, List.drop_eq_getElem_cons hj]
      show Ec ((dq1 ns[i][j] 39 ++ dbq 39 (ns[i].drop (j + 1))) ++ _) _ _
      rw [List.append_assoc]
      refine (x146 _ 39 s).b fun s1 c1 => ?_
      rw [ofNat_succ (by omega)]
      exact ih (j + 1) n s1 (h.of (dc c1)) (by omega) (by omega)
  have e150 : dm150 (Int32.ofNat i) s = some (b01 (qtP ns[i])) := by
    unfold dm150
    rw [d40 h.2.2.2.2.2.1 h8, b01_t (by omega)]
    simp only [bu_some]
    rw [if_neg (by decide), if_pos (aB_of (by omega) (by omega)), jN_of (by omega), hq]
    by_cases c : qtP ns[i]
    · rw [b01_t c, if_neg n10]
    · rw [b01_f c, if_pos rfl]
  unfold dm149 dm149_10 shT qtT
  rw [e150]
  simp only [bu_some]
  by_cases c : b01 (qtP ns[i]) = 0
  · rw [if_pos c, if_pos c]
    have := loop (qtP ns[i]) ns[i].length 0 5000 s h (by omega) (by omega)
    rw [if_pos c, List.drop_zero] at this
    exact this
  · rw [if_neg c, if_neg c]
    refine (x141 39 s).b fun s1 c1 => ?_
    have := loop (qtP ns[i]) ns[i].length 0 5000 s1 (h.of (dc c1)) (by omega) (by omega)
    rw [if_neg c, List.drop_zero] at this
    exact this
end CW
set_option maxRecDepth 100000 in
/-- of the reference -/
noncomputable def pfx (ns : List (List Int32)) (x : Int32) : List Int32 := if x = -1 then [] else shT (ns.getD x.toInt.toNat [])
set_option maxRecDepth 100000 in
theorem e238 {s : aS} {ns : List (List Int32)} {x : Int32} (hs : SM s ns) (hn : nsOk ns) (hx : -1 ≤ x.toInt ∧ x.toInt < ns.length) : Er (pfx ns x) (dm238 x s) s := by
  have n10 : ¬ (1 : Int32) = 0 := by decide
  unfold dm238 pfx
  by_cases c : 0 ≤ x.toInt
  · rw [if_pos (show (0 : Int32) ≤ x from iLe.mpr c), if_neg (fun z => by rw [z] at c; exact absurd c (by decide))]
    have h8 := hn.1
    obtain ⟨i, hi⟩ : ∃ i, i = x.toInt.toNat := ⟨_, rfl⟩
    have ex : x = Int32.ofNat i := by rw [hi]; exact ofNat_of c
    have hil : i < ns.length := by omega
    have en : ns.getD x.toInt.toNat [] = ns[i] := by rw [← hi, List.getD, List.getElem?_eq_getElem hil]; rfl
    rw [en, ex]
    have h31 := hn.2 ns[i] (List.getElem_mem hil)
    have e := d239 (s := s) (i := i) (t := ns[i]) (by omega) (hs.2 i hil).1 (hs.2 i hil).2 ⟨h31.1, h31.2.1⟩
    have b8 : aB (Int32.ofNat i) 8 := aB_of (by omega) (by omega)
    have j8 : jN (Int32.ofNat i) = i := jN_of (by omega)
    have h45 : ∀ s, Er [33] (dm238_45 s) s := fun s => by
      unfold dm238_45
      exact (e235 _ s).o
    have loop : ∀ (p : Prop) (m j n : Nat) (s1 : aS), ch wrA s s1 → j + m = ns[i].length → m < n → Er (dbq 39 (ns[i].drop j) ++ ((if b01 p = 0 then [] else [39]) ++ [33])) (dm238_14 n (Int32.ofNat i) (b01 p) (Int32.ofNat j) s1) s1 := by
      intro p m
      induction m with
      | zero =>
        intro j n s1 h0 h1 h2
        obtain ⟨n, rfl⟩ : ∃ q, n = q + 1 := ⟨n - 1, by omega⟩
        have hL : sI s1 123 i = Int32.ofNat ns[i].length := (h0.i (by unfold wrA; omega)).trans (hs.2 i hil).1
        rw [List.drop_eq_nil_of_le (by omega), dm238_14, if_pos b8, j8, hL, if_pos ((nle_iff (by omega) (by omega)).mpr (by omega))]
        by_cases q : b01 p = 0
        · rw [if_pos q, if_pos q]
          exact h45 s1
        · rw [if_neg q, if_neg q]
          exact (e235 _ s1).b fun s2 _ => h45 s2
      | succ m ih =>
        intro j n s1 h0 h1 h2
        obtain ⟨n, rfl⟩ : ∃ q, n = q + 1 := ⟨n - 1, by omega⟩
        have hj : j < ns[i].length := by omega
        have hL : sI s1 123 i = Int32.ofNat ns[i].length := (h0.i (by unfold wrA; omega)).trans (hs.2 i hil).1
        have hX : sI s1 124 (32 * i + j) = ns[i][j] := (h0.i (by unfold wrA; omega)).trans ((hs.2 i hil).2 j hj)
        have h35 : ∀ s2, ch wrA s s2 → Er ([ns[i][j]] ++ (dbq 39 (ns[i].drop (j + 1)) ++ ((if b01 p = 0 then [] else [39]) ++ [33]))) (dm238_35 (dm238_14 n) (Int32.ofNat i) (b01 p) (Int32.ofNat j) ns[i][j] s2) s2 := by
          intro s2 h3
          unfold dm238_35
          refine (e235 _ s2).b fun s3 c3 => ?_
          rw [ofNat_succ (by omega)]
          exact ih (j + 1) n s3 (h3.trans c3) (by omega) (by omega)
        rw [dm238_14, if_pos b8, j8, hL, if_neg (show ¬ Int32.ofNat ns[i].length ≤ Int32.ofNat j from fun q => by have := (nle_iff (by omega) (by omega)).mp q; omega), iLin (by omega) (by omega), if_pos (aB_of (n := 256) (by omega) (by omega)), jN_of (by omega), hX, List.drop_eq_getElem_cons hj]
        show Er ((dq1 ns[i][j] 39 ++ dbq 39 (ns[i].drop (j + 1))) ++ _) _ _
        rw [List.append_assoc]
        unfold dq1
        by_cases q : ns[i][j] = 39
        · rw [if_pos q, if_pos q]
          refine Er.eq ((e235 39 s1).b fun s2 c2 => h35 s2 (h0.trans c2)) ?_
          rw [q]
          rfl
        · rw [if_neg q, if_neg q]
          exact h35 s1 h0
    rw [e]
    simp only [bu_some]
    unfold dm238_12 shT qtT
    by_cases q : b01 (qtP ns[i]) = 0
    · rw [if_pos q, if_pos q]
      have := loop (qtP ns[i]) ns[i].length 0 5000 s (ch.refl _ s) (by omega) (by omega)
      rw [if_pos q, List.drop_zero] at this
      exact this
    · rw [if_neg q, if_neg q]
      refine (e235 39 s).b fun s1 c1 => ?_
      have := loop (qtP ns[i]) ns[i].length 0 5000 s1 c1 (by omega) (by omega)
      rw [if_neg q, List.drop_zero] at this
      exact this
  · rw [if_neg (show ¬ (0 : Int32) ≤ x from fun z => c (iLe.mp z)), if_pos (iEq.mpr (show x.toInt = -1 by omega))]
    exact Er.n s
end
section
/-! a node as FormulaTrees opens it -/
def opT (e : Nat) : List Int32 := if e = 11 then [94] else if e = 12 then [42] else if e = 13 then [47] else if e = 14 then [43] else if e = 15 then [45] else if e = 16 then [38] else if e = 17 then [61] else if e = 18 then [60, 62] else if e = 19 then [60] else if e = 20 then [62] else if e = 21 then [60, 61] else [62, 61]
/-- texts that are written as they are -/
def LWs (s : aS) : Prop := (∀ e, 1 ≤ e → e < 8 → ST s (19 + 2 * e) (erN e) ∧ aK s (19 + 2 * e) 70) ∧ (ST s 41 trL ∧ ST s 43 faL ∧ ST s 45 [44]) ∧ ∀ e, 11 ≤ e → e ≤ 22 → ST s (25 + 2 * e) (opT e) ∧ aK s (25 + 2 * e) 70
set_option maxRecDepth 100000 in
theorem LWs.ly {tt : Nat} {xs : List Int32} {s : aS} (h : Ly tt (cCc xs) s) : LWs s := by
  refine ⟨ES.ly h, ⟨ST.ly h 20 (by decide), ST.ly h 21 (by decide), ST.ly h 22 (by decide)⟩, fun e h1 h2 => ?_⟩
  match e, h1, h2 with
  | 11, _, _ => exact ⟨ST.ly h 23 (by decide), Lay.lowK h (by decide) (by decide)⟩
  | 12, _, _ => exact ⟨ST.ly h 24 (by decide), Lay.lowK h (by decide) (by decide)⟩
  | 13, _, _ => exact ⟨ST.ly h 25 (by decide), Lay.lowK h (by decide) (by decide)⟩
  | 14, _, _ => exact ⟨ST.ly h 26 (by decide), Lay.lowK h (by decide) (by decide)⟩
  | 15, _, _ => exact ⟨ST.ly h 27 (by decide), Lay.lowK h (by decide) (by decide)⟩
  | 16, _, _ => exact ⟨ST.ly h 28 (by decide), Lay.lowK h (by decide) (by decide)⟩
  | 17, _, _ => exact ⟨ST.ly h 29 (by decide), Lay.lowK h (by decide) (by decide)⟩
  | 18, _, _ => exact ⟨ST.ly h 30 (by decide), Lay.lowK h (by decide) (by decide)⟩
  | 19, _, _ => exact ⟨ST.ly h 31 (by decide), Lay.lowK h (by decide) (by decide)⟩
  | 20, _, _ => exact ⟨ST.ly h 32 (by decide), Lay.lowK h (by decide) (by decide)⟩
  | 21, _, _ => exact ⟨ST.ly h 33 (by decide), Lay.lowK h (by decide) (by decide)⟩
  | 22, _, _ => exact ⟨ST.ly h 34 (by decide), Lay.lowK h (by decide) (by decide)⟩
  | k + 23, _, h9 => exact absurd h9 (by omega)
set_option maxRecDepth 100000 in
theorem LWs.of {A : Nat → Nat → Prop} {s s1 : aS} (h : LWs s) (g : ch A s s1) (hA : ∀ a k, A a k → 78 ≤ a) : LWs s1 := ⟨fun e h1 h2 => ⟨(h.1 e h1 h2).1.of (by omega) g hA, g.k.mpr (h.1 e h1 h2).2⟩, ⟨h.2.1.1.of (by decide) g hA, h.2.1.2.1.of (by decide) g hA, h.2.1.2.2.of (by decide) g hA⟩, fun e h1 h2 => ⟨(h.2.2 e h1 h2).1.of (by omega) g hA, g.k.mpr (h.2.2 e h1 h2).2⟩⟩
/-- what the writer rests on -/
def FE (s : aS) (b : Nat) (ns : List (List Int32)) (L : List (Nd × List Int32)) : Prop := FS s b ns ∧ (∀ k (_ : k < ns.length), sI s 83 k = b01 (qtP ns[k])) ∧ (sI s b 2 = Int32.ofNat L.length ∧ L.length ≤ 128 ∧ ∃ u, TL s b u ∧ ∀ i n, L[i]? = some n → CR s b i n.1 ∧ NL s b i u n.2) ∧ LWs s
section CW
variable {s s1 : aS} {b : Nat} {ns : List (List Int32)} {L : List (Nd × List Int32)} {n : Nd × List Int32} {i : Nat}
set_option maxRecDepth 100000 in
theorem FE.of (h : FE s b ns L) (g : ch wrC s s1) : FE s1 b ns L := by
  obtain ⟨h1, h2, ⟨a1, a2, u, a3, a4⟩, h4⟩ := h
  have hb := h1.2.2.1
  have h8 := h1.2.2.2.2.2.2.1.1
  exact ⟨h1.of g, fun k hk => (g.i (by unfold wrC; omega)).trans (h2 k hk), ⟨(g.i (by unfold wrC; omega)).trans a1, a2, u, a3.of g (by unfold wrC; omega) (fun k => by unfold wrC; omega), fun i n q => by
    obtain ⟨r, st, e1, e2, e3⟩ := a4 i n q
    exact ⟨fun w hw => (g.i (by unfold wrC; omega)).trans (r w hw), st, (g.i (by unfold wrC; omega)).trans e1, (g.i (by unfold wrC; omega)).trans e2, e3⟩⟩, h4.of g (fun a k z => by unfold wrC at z; omega)⟩
set_option maxRecDepth 100000 in
theorem FE.d (h : FE s b ns L) (g : ch wrD s s1) : FE s1 b ns L := h.of (dc g)
set_option maxRecDepth 100000 in
theorem fe_i (hn : L[i]? = some n) : i < L.length := (List.getElem?_eq_some_iff.mp hn).1
set_option maxRecDepth 100000 in
theorem f57 (h : FE s b ns L) (hn : L[i]? = some n) {w : Nat} (hw : w < 9) : dm57 b (Int32.ofNat i) (Int32.ofNat w) s = some (n.1 w) := by
  obtain ⟨-, -, ⟨a1, a2, u, a3, a4⟩, -⟩ := h
  rw [d57 a1 a2 (fe_i hn) (by omega), (a4 i n hn).1 w hw]
set_option maxRecDepth 100000 in
theorem f57t (h : FE s b ns L) (hn : L[i]? = some n) : dm57 b (Int32.ofNat i) 10 s = some (Int32.ofNat n.2.length) ∧ n.2.length ≤ 256 := by
  obtain ⟨-, -, ⟨a1, a2, u, a3, a4⟩, -⟩ := h
  obtain ⟨-, st, e1, e2, e3, -⟩ := a4 i n hn
  have := d57 (w := 10) a1 a2 (fe_i hn) (by omega)
  rw [e2] at this
  exact ⟨this, by have := a3.2.1; omega⟩
set_option maxRecDepth 100000 in
theorem f144 (h : FE s b ns L) (hn : L[i]? = some n) {j : Nat} (hj : j < n.2.length) : dm144 b (Int32.ofNat i) (Int32.ofNat j) s = some n.2[j] := by
  have hl := (f57t h hn).2
  obtain ⟨h1, -, ⟨a1, a2, u, a3, a4⟩, -⟩ := h
  have ej : (Int32.ofNat j).toInt = j := iOfNat (by omega)
  rw [d144 a1 a2 (fe_i hn) a3 h1.2.2.2.2.1 (a4 i n hn).2, if_neg (by omega), ej, show ((j : Int)).toNat = j by omega, getD_in hj]
set_option maxRecDepth 100000 in
theorem x143 (h : FE s b ns L) (hn : L[i]? = some n) : Ec n.2 (dm143 (Int32.ofNat i) s) s := by
  have loop : ∀ (m j k : Nat) (s : aS), FE s b ns L → j + m = n.2.length → m < k → Ec (n.2.drop j) (dm143_2 k (Int32.ofNat i) (Int32.ofNat j) s) s := by
    intro m
    induction m with
    | zero =>
      intro j k s h h1 h2
      obtain ⟨k, rfl⟩ : ∃ q, k = q + 1 := ⟨k - 1, by omega⟩
      obtain ⟨e, hl⟩ := f57t h hn
      rw [dm143_2, h.1.1, vN_ref, if_pos h.1.2.1, e]
      simp only [bu_some]
      rw [if_pos ((nle_iff (by omega) (by omega)).mpr (by omega)), List.drop_eq_nil_of_le (by omega)]
      exact Ec.n s
    | succ m ih =>
      intro j k s h h1 h2
      obtain ⟨k, rfl⟩ : ∃ q, k = q + 1 := ⟨k - 1, by omega⟩
      obtain ⟨e, hl⟩ := f57t h hn
      have hj : j < n.2.length := by omega
      rw [dm143_2, h.1.1, vN_ref, if_pos h.1.2.1, e]
      simp only [bu_some, vN_ref]
      rw [if_neg (fun z => by have := (nle_iff (by omega) (by omega)).mp z; omega), if_pos h.1.2.1, f144 h hn hj]
      simp only [bu_some]
      rw [List.drop_eq_getElem_cons hj]
      refine Ec.b (w1 := [n.2[j]]) (w2 := n.2.drop (j + 1)) (x141 _ s) fun s1 c1 => ?_
      rw [ofNat_succ (by omega)]
      exact ih (j + 1) k s1 (h.d c1) (by omega) (by omega)
  have hl := (f57t h hn).2
  have := loop n.2.length 0 5000 s h (by omega) (by omega)
  rw [List.drop_zero] at this
  exact this
set_option maxRecDepth 100000 in
theorem x145 (h : FE s b ns L) (hn : L[i]? = some n) : Ec ([34] ++ (dbq 34 n.2 ++ [34])) (dm145 (Int32.ofNat i) s) s := by
  have loop : ∀ (m j k : Nat) (s : aS), FE s b ns L → j + m = n.2.length → m < k → Ec (dbq 34 (n.2.drop j) ++ [34]) (dm145_5 k (Int32.ofNat i) (Int32.ofNat j) s) s := by
    intro m
    induction m with
    | zero =>
      intro j k s h h1 h2
      obtain ⟨k, rfl⟩ : ∃ q, k = q + 1 := ⟨k - 1, by omega⟩
      obtain ⟨e, hl⟩ := f57t h hn
      rw [dm145_5, h.1.1, vN_ref, if_pos h.1.2.1, e]
      simp only [bu_some]
      rw [if_pos ((nle_iff (by omega) (by omega)).mpr (by omega)), List.drop_eq_nil_of_le (by omega)]
      exact (x141 34 s).o
    | succ m ih =>
      intro j k s h h1 h2
      obtain ⟨k, rfl⟩ : ∃ q, k = q + 1 := ⟨k - 1, by omega⟩
      obtain ⟨e, hl⟩ := f57t h hn
      have hj : j < n.2.length := by omega
      rw [dm145_5, h.1.1, vN_ref, if_pos h.1.2.1, e]
      simp only [bu_some, vN_ref]
      rw [if_neg (fun z => by have := (nle_iff (by omega) (by omega)).mp z; omega), if_pos h.1.2.1, f144 h hn hj]
      simp only [bu_some]
      rw [List.drop_eq_getElem_cons hj]
      show Ec ((dq1 n.2[j] 34 ++ dbq 34 (n.2.drop (j + 1))) ++ [34]) _ _
      rw [List.append_assoc]
      refine (x146 _ 34 s).b fun s1 c1 => ?_
      rw [ofNat_succ (by omega)]
      exact ih (j + 1) k s1 (h.d c1) (by omega) (by omega)
  have hl := (f57t h hn).2
  unfold dm145
  refine (x141 34 s).b fun s1 c1 => ?_
  have := loop n.2.length 0 5000 s1 (h.d c1) (by omega) (by omega)
  rw [List.drop_zero] at this
  exact this
set_option maxRecDepth 100000 in
theorem x147 {a : Nat} {u : List Int32} (ha : a + 1 < 78) (h : ST s a u) (hl : u.length ≤ 100) (hu : ∀ x ∈ u, 0 ≤ x.toInt ∧ x.toInt ≤ 127) : Ec u (dm147 a s) s := by
  have loop : ∀ (m j k : Nat) (s : aS), ST s a u → j + m = u.length → m < k → Ec (u.drop j) (dm147_2 k a (Int32.ofNat j) s) s := by
    intro m
    induction m with
    | zero =>
      intro j k s h h1 h2
      obtain ⟨k, rfl⟩ : ∃ q, k = q + 1 := ⟨k - 1, by omega⟩
      rw [dm147_2, d254 h (by omega)]
      simp only [bu_some]
      rw [if_pos ((nle_iff (by omega) (by omega)).mpr (by omega)), List.drop_eq_nil_of_le (by omega)]
      exact Ec.n s
    | succ m ih =>
      intro j k s h h1 h2
      obtain ⟨k, rfl⟩ : ∃ q, k = q + 1 := ⟨k - 1, by omega⟩
      have hj : j < u.length := by omega
      rw [dm147_2, d254 h (by omega)]
      simp only [bu_some]
      rw [if_neg (fun z => by have := (nle_iff (by omega) (by omega)).mp z; omega), d259 h (by omega) hj (hu _ (List.getElem_mem hj))]
      simp only [bv_some]
      rw [List.drop_eq_getElem_cons hj]
      refine Ec.b (w1 := [u[j]]) (w2 := u.drop (j + 1)) (x141 _ s) fun s1 c1 => ?_
      rw [ofNat_succ (by omega)]
      exact ih (j + 1) k s1 (h.of ha c1 (fun a k z => by unfold wrD at z; omega)) (by omega) (by omega)
  have := loop u.length 0 5000 s h (by omega) (by omega)
  rw [List.drop_zero] at this
  exact this
set_option maxRecDepth 100000 in
/-- a cell or a range -/
noncomputable def rfT (ns : List (List Int32)) (d : Nd) : List Int32 := pfx ns (d 2) ++ (crC (d 3) (d 4) (d 7) ++ (if d 0 = 5 then [58] ++ crC (d 5) (d 6) (d 7 / 4) else []))
set_option maxRecDepth 100000 in
theorem x148 (h : FE s b ns L) (hn : L[i]? = some n) (h2 : -1 ≤ (n.1 2).toInt ∧ (n.1 2).toInt < ns.length) : Ec (rfT ns n.1) (dm148 (Int32.ofNat i) s) s := by
  have F : ∀ (s : aS) (w : Nat), FE s b ns L → w < 9 → dm57 b (Int32.ofNat i) (Int32.ofNat w) s = some (n.1 w) := fun s w h hw => f57 h hn hw
  have f18 : ∀ s, FE s b ns L → Ec (crC (n.1 3) (n.1 4) (n.1 7) ++ (if n.1 0 = 5 then [58] ++ crC (n.1 5) (n.1 6) (n.1 7 / 4) else [])) (dm148_18 (Int32.ofNat i) (n.1 7) s) s := fun s h => by
    unfold dm148_18
    rw [h.1.1, vN_ref, if_pos h.1.2.1, show dm57 b (Int32.ofNat i) 3 s = some (n.1 3) from F s 3 h (by omega)]
    simp only [bu_some, vN_ref]
    rw [if_pos h.1.2.1, show dm57 b (Int32.ofNat i) 4 s = some (n.1 4) from F s 4 h (by omega)]
    simp only [bu_some]
    refine (x152 _ _ _ s).b fun s1 c1 => ?_
    have h1 := h.d c1
    rw [h1.1.1, vN_ref, if_pos h1.1.2.1, show dm57 b (Int32.ofNat i) 0 s1 = some (n.1 0) from F s1 0 h1 (by omega)]
    simp only [bu_some]
    by_cases c : n.1 0 = 5
    · rw [if_pos c, if_pos c]
      refine (x141 58 s1).b fun s2 c2 => ?_
      have h2 := h1.d c2
      rw [h2.1.1, vN_ref, if_pos h2.1.2.1, show dm57 b (Int32.ofNat i) 5 s2 = some (n.1 5) from F s2 5 h2 (by omega)]
      simp only [bu_some, vN_ref]
      rw [if_pos h2.1.2.1, show dm57 b (Int32.ofNat i) 6 s2 = some (n.1 6) from F s2 6 h2 (by omega)]
      simp only [bu_some]
      exact (x152 _ _ _ s2).o
    · rw [if_neg c, if_neg c]
      exact Ec.n s1
  unfold dm148 rfT
  rw [h.1.1, vN_ref, if_pos h.1.2.1, show dm57 b (Int32.ofNat i) 2 s = some (n.1 2) from F s 2 h (by omega)]
  simp only [bu_some, vN_ref]
  rw [if_pos h.1.2.1, show dm57 b (Int32.ofNat i) 7 s = some (n.1 7) from F s 7 h (by omega)]
  simp only [bu_some]
  unfold pfx
  by_cases c : n.1 2 = -1
  · rw [if_pos c, if_pos c]
    exact f18 s h
  · rw [if_neg c, if_neg c]
    have c0 : 0 ≤ (n.1 2).toInt := by
      have : ¬ (n.1 2).toInt = -1 := fun z => c (iEq.mpr z)
      omega
    obtain ⟨k, hk⟩ : ∃ k, k = (n.1 2).toInt.toNat := ⟨_, rfl⟩
    have ek : n.1 2 = Int32.ofNat k := by rw [hk]; exact ofNat_of c0
    have hkl : k < ns.length := by omega
    have en : ns.getD (n.1 2).toInt.toNat [] = ns[k] := by rw [← hk, List.getD, List.getElem?_eq_getElem hkl]; rfl
    rw [en, ek]
    exact (x149 h.1 hkl (h.2.1 k hkl)).b fun s1 c1 => f18 s1 (h.d c1)
end CW
end
section
/-! a node as FormulaTrees opens it: its text -/
def erW (v : Int32) : List Int32 := if v = 1 then erN 1 else if v = 2 then erN 2 else if v = 3 then erN 3 else if v = 4 then erN 4 else if v = 5 then erN 5 else if v = 6 then erN 6 else erN 7
set_option maxRecDepth 100000 in
theorem er_w (v : Int32) : ∃ e, (1 ≤ e ∧ e < 8) ∧ erW v = erN e ∧ dm110 v = some (.ref (19 + 2 * e)) ∧ ∀ x, dm204 v x = dm204 (Int32.ofNat e) x := by
  by_cases c1 : v = 1
  · subst c1
    exact ⟨1, by decide, rfl, rfl, fun _ => rfl⟩
  by_cases c2 : v = 2
  · subst c2
    exact ⟨2, by decide, rfl, rfl, fun _ => rfl⟩
  by_cases c3 : v = 3
  · subst c3
    exact ⟨3, by decide, rfl, rfl, fun _ => rfl⟩
  by_cases c4 : v = 4
  · subst c4
    exact ⟨4, by decide, rfl, rfl, fun _ => rfl⟩
  by_cases c5 : v = 5
  · subst c5
    exact ⟨5, by decide, rfl, rfl, fun _ => rfl⟩
  by_cases c6 : v = 6
  · subst c6
    exact ⟨6, by decide, rfl, rfl, fun _ => rfl⟩
  refine ⟨7, by decide, ?_, ?_, fun x => ?_⟩
  · unfold erW
    rw [if_neg c1, if_neg c2, if_neg c3, if_neg c4, if_neg c5, if_neg c6]
  · unfold dm110
    rw [if_neg c1, if_neg c2, if_neg c3, if_neg c4, if_neg c5, if_neg c6]
  · have e7 : dm204 (Int32.ofNat 7) x = dm204_57 x 592326465 4 := rfl
    rw [e7]
    unfold dm204 dm204_31
    rw [if_neg c1, if_neg c2, if_neg c3, if_neg c4, if_neg c5, if_neg c6, if_neg c1, if_neg c5, if_neg c2, if_neg c3, if_neg c4, if_neg c6]
set_option maxRecDepth 100000 in
/-- what is written where a node begins -/
noncomputable def leT (ns : List (List Int32)) (d : Nd) (l : List Int32) : List Int32 := if d 0 = 0 then l else if d 0 = 1 then [34] ++ (dbq 34 l ++ [34]) else if d 0 = 2 then erW (d 8) else if d 0 = 3 then (if d 8 = 1 then trL else faL) else if d 0 = 4 then rfT ns d else if d 0 = 5 then rfT ns d else if d 0 = 6 then l else if d 0 = 7 then l ++ [40] else if d 0 = 10 then [45] else []
section CW
variable {s s1 : aS} {b : Nat} {ns : List (List Int32)} {L : List (Nd × List Int32)} {n : Nd × List Int32} {i : Nat}
set_option maxRecDepth 100000 in
theorem x142 (h : FE s b ns L) (hn : L[i]? = some n) (h2 : -1 ≤ (n.1 2).toInt ∧ (n.1 2).toInt < ns.length) : Ec (leT ns n.1 n.2) (dm142 (Int32.ofNat i) s) s := by
  have f8 : dm57 b (Int32.ofNat i) 8 s = some (n.1 8) := f57 (w := 8) h hn (by omega)
  unfold dm142 leT
  rw [h.1.1]
  simp only [vN_ref]
  rw [if_pos h.1.2.1, show dm57 b (Int32.ofNat i) 0 s = some (n.1 0) from f57 (w := 0) h hn (by omega)]
  simp only [bu_some]
  by_cases c0 : n.1 0 = 0
  · rw [if_pos c0, if_pos c0]
    exact (x143 h hn).o
  rw [if_neg c0, if_neg c0]
  by_cases c1 : n.1 0 = 1
  · rw [if_pos c1, if_pos c1]
    exact (x145 h hn).o
  rw [if_neg c1, if_neg c1]
  by_cases c2 : n.1 0 = 2
  · rw [if_pos c2, if_pos c2, if_pos h.1.2.1, f8]
    simp only [bu_some]
    obtain ⟨e, he, e1, e2, -⟩ := er_w (n.1 8)
    have hs := h.2.2.2.1 e he.1 he.2
    rw [e1, e2]
    simp only [bu_some]
    show Ec (erN e) (if aK s (19 + 2 * e) 70 then bu (dm147 (19 + 2 * e) s) fun s32 => some s32 else none) s
    rw [if_pos hs.2]
    exact (x147 (by omega) hs.1 (by have := erN_len e; omega) (erN_p e (List.mem_range.mpr he.2))).o
  rw [if_neg c2, if_neg c2]
  by_cases c3 : n.1 0 = 3
  · rw [if_pos c3, if_pos c3, if_pos h.1.2.1, f8]
    simp only [bu_some]
    unfold dm142_34
    by_cases q : n.1 8 = 1
    · rw [if_pos q, if_pos q]
      exact (x147 (by decide) h.2.2.2.2.1.1 (by decide) (by decide)).o
    · rw [if_neg q, if_neg q]
      exact (x147 (by decide) h.2.2.2.2.1.2.1 (by decide) (by decide)).o
  rw [if_neg c3, if_neg c3]
  by_cases c4 : n.1 0 = 4
  · rw [if_pos c4, if_pos c4]
    exact (x148 h hn h2).o
  rw [if_neg c4, if_neg c4]
  by_cases c5 : n.1 0 = 5
  · rw [if_pos c5, if_pos c5]
    exact (x148 h hn h2).o
  rw [if_neg c5, if_neg c5]
  by_cases c6 : n.1 0 = 6
  · rw [if_pos c6, if_pos c6]
    exact (x143 h hn).o
  rw [if_neg c6, if_neg c6]
  by_cases c7 : n.1 0 = 7
  · rw [if_pos c7, if_pos c7]
    exact (x143 h hn).b fun s1 _ => (x141 40 s1).o
  rw [if_neg c7, if_neg c7]
  by_cases c8 : n.1 0 = 8
  · rw [if_pos c8, if_neg (fun z => by rw [z] at c8; exact absurd c8 (by decide))]
    exact Ec.n s
  rw [if_neg c8]
  by_cases c9 : n.1 0 = 9
  · rw [if_pos c9, if_neg (fun z => by rw [z] at c9; exact absurd c9 (by decide))]
    exact Ec.n s
  rw [if_neg c9]
  by_cases ca : n.1 0 = 10
  · rw [if_pos ca, if_pos ca]
    exact (x141 45 s).o
  · rw [if_neg ca, if_neg ca]
    exact Ec.n s
end CW
end
section
/-! the text of a formula: nodes in their order, each with its letters -/
def fz : List (Nd × List Int32) → Nat → Prop
  | [], k => k = 0
  | n :: L, k => 1 ≤ k ∧ fz L (k - 1 + arN n.1)
set_option maxRecDepth 100000 in
theorem fz_sp : ∀ (L : List (Nd × List Int32)) (n k : Nat), fz L (n + k) → ∃ T R, L = T ++ R ∧ fz T n ∧ fz R k
  | [], n, k, h => by
    have h : n + k = 0 := h
    exact ⟨[], [], rfl, show n = 0 by omega, show k = 0 by omega⟩
  | d :: L, n, k, h => by
    obtain ⟨h1, h2⟩ := h
    cases n with
    | zero => exact ⟨[], d :: L, rfl, rfl, h1 |> fun _ => by rw [Nat.zero_add] at h1 h2; exact ⟨h1, h2⟩⟩
    | succ n =>
      rw [show n + 1 + k - 1 + arN d.1 = (n + arN d.1) + k by omega] at h2
      obtain ⟨T, R, e, t1, t2⟩ := fz_sp L (n + arN d.1) k h2
      refine ⟨d :: T, R, by rw [e]; rfl, ⟨by omega, ?_⟩, t2⟩
      rw [show n + 1 - 1 + arN d.1 = n + arN d.1 by omega]
      exact t1
set_option maxRecDepth 100000 in
theorem fz_0 {L : List (Nd × List Int32)} (h : fz L 0) : L = [] := by
  cases L with
  | nil => rfl
  | cons d L => exact absurd h.1 (by decide)
def zipL (l : Nat → List Int32) : List Nd → Nat → List (Nd × List Int32)
  | [], _ => []
  | d :: M, i => (d, l i) :: zipL l M (i + 1)
set_option maxRecDepth 100000 in
theorem zip_len (l : Nat → List Int32) : ∀ (M : List Nd) (i : Nat), (zipL l M i).length = M.length
  | [], _ => rfl
  | d :: M, i => by
    show (zipL l M (i + 1)).length + 1 = M.length + 1
    rw [zip_len l M (i + 1)]
set_option maxRecDepth 100000 in
theorem zip_at (l : Nat → List Int32) : ∀ (M : List Nd) (i j : Nat) (n : Nd × List Int32), (zipL l M i)[j]? = some n → ∃ h : j < M.length, n = (M[j], l (i + j))
  | [], _, j, n, h => by
    cases h
  | d :: M, i, 0, n, h => ⟨Nat.succ_pos _, (Option.some.inj h).symm⟩
  | d :: M, i, j + 1, n, h => by
    obtain ⟨g, e⟩ := zip_at l M (i + 1) j n h
    refine ⟨Nat.succ_lt_succ g, ?_⟩
    rw [e, show i + 1 + j = i + (j + 1) by omega]
    rfl
set_option maxRecDepth 100000 in
theorem zip_ft (l : Nat → List Int32) : ∀ (M : List Nd) (i k : Nat), ft M k → fz (zipL l M i) k
  | [], _, _, h => h
  | d :: M, i, k, h => ⟨h.1, zip_ft l M (i + 1) _ h.2⟩
def hk : List (Nd × List Int32) → Int32
  | [] => 0
  | n :: _ => n.1 0
set_option maxRecDepth 100000 in
noncomputable def brT (p : Prop) (w : List Int32) : List Int32 := if b01 p = 0 then w else [40] ++ (w ++ [41])
set_option maxRecDepth 100000 in
noncomputable def tAr (f : List (Nd × List Int32) → List Int32 × List (Nd × List Int32)) : Nat → Nat → List (Nd × List Int32) → List Int32 × List (Nd × List Int32)
  | 0, _, R => ([], R)
  | k + 1, c, R => ((if c = 0 then [] else [44]) ++ ((f R).1 ++ (tAr f k (c + 1) (f R).2).1), (tAr f k (c + 1) (f R).2).2)
set_option maxRecDepth 100000 in
noncomputable def txF (ns : List (List Int32)) : Nat → List (Nd × List Int32) → List Int32 × List (Nd × List Int32)
  | 0, L => ([], L)
  | _ + 1, [] => ([], [])
  | m + 1, n :: R => if n.1 0 = 7 then (leT ns n.1 n.2 ++ ((tAr (txF ns m) (arN n.1) 0 R).1 ++ [41]), (tAr (txF ns m) (arN n.1) 0 R).2) else if n.1 0 = 9 then (brT (rkM (hk R) < 7) (txF ns m R).1 ++ [37], (txF ns m R).2) else if n.1 0 = 10 then ([45] ++ brT (rkM (hk R) < 6) (txF ns m R).1, (txF ns m R).2) else if n.1 0 < 11 then (leT ns n.1 n.2, R) else (brT (rkM (hk R) < rkM (n.1 0)) (txF ns m R).1 ++ (opT (n.1 0).toInt.toNat ++ brT (rkM (hk (txF ns m R).2) < rkM (n.1 0) + 1) (txF ns m (txF ns m R).2).1), (txF ns m (txF ns m R).2).2)
set_option maxRecDepth 100000 in
theorem tAr_r {f : List (Nd × List Int32) → List Int32 × List (Nd × List Int32)} {m : Nat} (hf : ∀ T B, fz T 1 → T.length ≤ m → (f (T ++ B)).2 = B) : ∀ (k c : Nat) (R B : List (Nd × List Int32)), fz R k → R.length ≤ m → (tAr f k c (R ++ B)).2 = B
  | 0, c, R, B, h, _ => by
    rw [fz_0 h]
    rfl
  | k + 1, c, R, B, h, hm => by
    obtain ⟨T, R2, e, t1, t2⟩ := fz_sp R 1 k (by rw [Nat.add_comm]; exact h)
    subst e
    rw [List.length_append] at hm
    show (tAr f k (c + 1) (f ((T ++ R2) ++ B)).2).2 = B
    rw [List.append_assoc, hf T (R2 ++ B) t1 (by omega)]
    exact tAr_r hf k (c + 1) R2 B t2 (by omega)
set_option maxRecDepth 100000 in
theorem txF_r {ns : List (List Int32)} : ∀ (m : Nat) (T B : List (Nd × List Int32)), (∀ n ∈ T, arOk n.1) → fz T 1 → T.length ≤ m → (txF ns m (T ++ B)).2 = B := by
  intro m
  induction m with
  | zero =>
    intro T B ha h hm
    cases T with
    | nil => exact absurd h (by show ¬ (1 : Nat) = 0; decide)
    | cons d T =>
      rw [List.length_cons] at hm
      omega
  | succ m ih =>
    intro T B ha h hm
    cases T with
    | nil => exact absurd h (by show ¬ (1 : Nat) = 0; decide)
    | cons n R =>
      rw [List.length_cons] at hm
      have hR : fz R (arN n.1) := by
        have := h.2
        rw [show 1 - 1 + arN n.1 = arN n.1 by omega] at this
        exact this
      have har := ha n List.mem_cons_self
      have haR : ∀ x ∈ R, arOk x.1 := fun x hx => ha x (List.mem_cons_of_mem _ hx)
      -- the ones below, for lists of R's nodes
      have sub : ∀ T2 B2 : List (Nd × List Int32), (∀ x ∈ T2, x ∈ R) → fz T2 1 → T2.length ≤ m → (txF ns m (T2 ++ B2)).2 = B2 := fun T2 B2 hx h2 h3 => ih T2 B2 (fun x hx2 => haR x (hx x hx2)) h2 h3
      show (txF ns (m + 1) (n :: (R ++ B))).2 = B
      unfold txF
      by_cases c7 : n.1 0 = 7
      · rw [if_pos c7]
        have loop : ∀ (k c : Nat) (R2 : List (Nd × List Int32)), (∀ x ∈ R2, x ∈ R) → fz R2 k → R2.length ≤ m → (tAr (txF ns m) k c (R2 ++ B)).2 = B := by
          intro k
          induction k with
          | zero =>
            intro c R2 hx h2 h3
            rw [fz_0 h2]
            rfl
          | succ k ihk =>
            intro c R2 hx h2 h3
            obtain ⟨T, R3, e, t1, t2⟩ := fz_sp R2 1 k (by rw [Nat.add_comm]; exact h2)
            subst e
            rw [List.length_append] at h3
            show (tAr (txF ns m) k (c + 1) (txF ns m ((T ++ R3) ++ B)).2).2 = B
            rw [List.append_assoc, sub T (R3 ++ B) (fun x q => hx x (List.mem_append_left _ q)) t1 (by omega)]
            exact ihk (c + 1) R3 (fun x q => hx x (List.mem_append_right _ q)) t2 (by omega)
        exact loop (arN n.1) 0 R (fun x q => q) hR (by omega)
      · rw [if_neg c7]
        by_cases c9 : n.1 0 = 9
        · rw [if_pos c9]
          have h1 : arN n.1 = 1 := by unfold arN; rw [har.2.1 (Or.inl c9)]; rfl
          rw [h1] at hR
          exact sub R B (fun x q => q) hR (by omega)
        · rw [if_neg c9]
          by_cases c10 : n.1 0 = 10
          · rw [if_pos c10]
            have h1 : arN n.1 = 1 := by unfold arN; rw [har.2.1 (Or.inr c10)]; rfl
            rw [h1] at hR
            exact sub R B (fun x q => q) hR (by omega)
          · rw [if_neg c10]
            have l11 : n.1 0 < 11 ↔ (n.1 0).toInt < 11 := iLt
            by_cases c11 : n.1 0 < 11
            · rw [if_pos c11]
              have c11 := l11.mp c11
              have h1 : arN n.1 = 0 := by
                unfold arN
                rw [har.2.2.2.1 (by rintro (q | q | q | q); exact c7 q; exact c9 q; exact c10 q; omega)]
                rfl
              rw [h1] at hR
              rw [fz_0 hR]
              rfl
            · rw [if_neg c11]
              have c11 : ¬ (n.1 0).toInt < 11 := fun q => c11 (l11.mpr q)
              have h2 : arN n.1 = 2 := by
                unfold arN
                rw [har.2.2.1 (by omega)]
                rfl
              rw [h2] at hR
              obtain ⟨T1, T2, e, t1, t2⟩ := fz_sp R 1 1 hR
              subst e
              rw [List.length_append] at hm
              show (txF ns m (txF ns m ((T1 ++ T2) ++ B)).2).2 = B
              rw [List.append_assoc, sub T1 (T2 ++ B) (fun x q => List.mem_append_left _ q) t1 (by omega)]
              exact sub T2 B (fun x q => List.mem_append_right _ q) t2 (by omega)
end
section
/-! the reference's writer: pieces that tell the next node -/
def Ev (w : List Int32) (D : Option (Int32 × aS)) (s : aS) (v : Int32) : Prop := ∃ s', D = some (v, s') ∧ ch wrA s s' ∧ ∀ l k, WM s l k → l.length + w.length < 800000 → WM s' (l ++ w) k
set_option maxRecDepth 100000 in
theorem Ev.n (v : Int32) (s : aS) : Ev [] (some (v, s)) s v := ⟨s, rfl, ch.refl _ s, fun l k h _ => by rw [List.append_nil]; exact h⟩
set_option maxRecDepth 100000 in
theorem Er.v {w1 w2 : List Int32} {D : Option aS} {K : aS → Option (Int32 × aS)} {s : aS} {v : Int32} (h : Er w1 D s) (g : ∀ s1, ch wrA s s1 → Ev w2 (K s1) s1 v) : Ev (w1 ++ w2) (bu D K) s v := by
  obtain ⟨s1, h1, h2, h3⟩ := h
  obtain ⟨s2, k1, k2, k3⟩ := g s1 h2
  rw [h1]
  exact ⟨s2, k1, h2.trans k2, fun l k hl hn => by
    rw [List.length_append] at hn
    rw [← List.append_assoc]
    exact k3 _ k (h3 l k hl (by omega)) (by rw [List.length_append]; omega)⟩
set_option maxRecDepth 100000 in
theorem Ev.v {w1 w2 : List Int32} {D : Option (Int32 × aS)} {K : Int32 → aS → Option (Int32 × aS)} {s : aS} {u v : Int32} (h : Ev w1 D s u) (g : ∀ s1, ch wrA s s1 → Ev w2 (K u s1) s1 v) : Ev (w1 ++ w2) (bv D K) s v := by
  obtain ⟨s1, h1, h2, h3⟩ := h
  obtain ⟨s2, k1, k2, k3⟩ := g s1 h2
  rw [h1]
  exact ⟨s2, k1, h2.trans k2, fun l k hl hn => by
    rw [List.length_append] at hn
    rw [← List.append_assoc]
    exact k3 _ k (h3 l k hl (by omega)) (by rw [List.length_append]; omega)⟩
set_option maxRecDepth 100000 in
theorem Ev.eq {w w1 : List Int32} {D : Option (Int32 × aS)} {s : aS} {v : Int32} (h : Ev w D s v) (e : w = w1) : Ev w1 D s v := by
  rw [← e]
  exact h
set_option maxRecDepth 100000 in
theorem e236 {s : aS} {f p : Nat} {rc : Int32 → Int32 → aS → Option (Int32 × aS)} {x3 v kd : Int32} {w : List Int32} (hp : p < 1152) (hk : sI s 128 p = kd) (h : ∀ s1, ch wrA s s1 → Ev w (rc (Int32.ofNat f) (Int32.ofNat p) s1) s1 v) : Ev (brT (rkM kd < x3) w) (dm236 rc (Int32.ofNat f) (Int32.ofNat p) x3 s) s v := by
  have hb : aB (Int32.ofNat p) 1152 := aB_of hp (by omega)
  unfold dm236 dm236_10 dm236_16 brT
  rw [if_pos hb, jN_of (by omega), hk, d191]
  simp only [bu_some]
  by_cases c : x3 ≤ rkM kd
  · have c2 : ¬ rkM kd < x3 := fun z => by
      have := iLt.mp z
      have := iLe.mp c
      omega
    rw [if_pos c, b01_f c2, if_pos rfl, if_pos trivial]
    refine Ev.eq (Ev.v (w2 := []) (h s (ch.refl _ s)) fun s1 c1 => ?_) (List.append_nil w)
    rw [if_pos trivial]
    exact Ev.n _ s1
  · have c2 : rkM kd < x3 := iLt.mpr (by
      have : ¬ x3.toInt ≤ (rkM kd).toInt := fun z => c (iLe.mpr z)
      omega)
    rw [if_neg c, b01_t c2, if_neg (show ¬ (1 : Int32) = 0 by decide), if_neg (show ¬ (1 : Int32) = 0 by decide)]
    refine (e235 40 s).v fun s1 c1 => ?_
    refine (h s1 c1).v fun s2 c2 => ?_
    rw [if_neg (show ¬ (1 : Int32) = 0 by decide)]
    exact Ev.eq ((e235 41 s2).v (w2 := []) fun s3 _ => Ev.n _ s3) rfl
set_option maxRecDepth 100000 in
theorem er_pos : ∀ e ∈ List.range 8, ∀ x ∈ erN e, 0 < x.toInt := by decide
set_option maxRecDepth 100000 in
theorem e117 {rc : Int32 → Int32 → aS → Option (Int32 × aS)} {p e : Nat} {v : Int32} (hp : p < 1152) (he : e < 8) (hv : ∀ x, dm204 v x = dm204 (Int32.ofNat e) x) : ∀ (m k N : Nat) (s : aS), sI s 136 p = v → k + m = (erN e).length → m < N → Ev ((erN e).drop k) (dm233_117 rc N (Int32.ofNat p) (Int32.ofNat k) s) s (Int32.ofNat (p + 1)) := by
  have hb : aB (Int32.ofNat p) 1152 := aB_of hp (by omega)
  have ej : jN (Int32.ofNat p) = p := jN_of (by omega)
  have hl := erN_len e
  intro m
  induction m with
  | zero =>
    intro k N s hs h1 h2
    obtain ⟨N, rfl⟩ : ∃ q, N = q + 1 := ⟨N - 1, by omega⟩
    rw [dm233_117]
    simp only [if_pos hb, ej, hs, hv]
    rw [d204 he (by omega), getD_out (by omega)]
    simp only [bu_some]
    rw [if_pos (by decide), List.drop_eq_nil_of_le (by omega)]
    unfold dm233_231
    rw [ofNat_succ (by omega)]
    exact Ev.n _ s
  | succ m ih =>
    intro k N s hs h1 h2
    obtain ⟨N, rfl⟩ : ∃ q, N = q + 1 := ⟨N - 1, by omega⟩
    have hk : k < (erN e).length := by omega
    have hx : (erN e).getD k 0 = (erN e)[k] := by rw [List.getD, List.getElem?_eq_getElem hk]; rfl
    have hp0 := er_pos e (List.mem_range.mpr he) _ (List.getElem_mem hk)
    rw [dm233_117]
    simp only [if_pos hb, ej, hs, hv]
    rw [d204 he (by omega), hx]
    simp only [bu_some]
    rw [if_neg (fun z => by have := iLe.mp z; have t0 : (0 : Int32).toInt = 0 := rfl; omega)]
    rw [List.drop_eq_getElem_cons hk]
    refine Er.v (w1 := [(erN e)[k]]) (w2 := (erN e).drop (k + 1)) (e235 _ s) fun s1 c1 => ?_
    rw [ofNat_succ (by omega)]
    exact ih (k + 1) N s1 ((c1.i (by unfold wrA; omega)).trans hs) (by omega) (by omega)
def byT (W : Int64) : Nat → List Int32
  | 0 => []
  | m + 1 => (((W >>> ((8 * Int32.ofNat m).toInt64 &&& 63)) &&& 255).toInt32) :: byT W m
set_option maxRecDepth 100000 in
theorem e158 {rc : Int32 → Int32 → aS → Option (Int32 × aS)} {p : Nat} {W : Int64} (hp : p < 1152) : ∀ (m N : Nat) (s : aS), m < 100 → m < N → Ev (byT W m) (dm233_158 rc N (Int32.ofNat p) W (Int32.ofNat m - 1) s) s (Int32.ofNat (p + 1))
  | 0, N, s, h1, h2 => by
    obtain ⟨N, rfl⟩ : ∃ q, N = q + 1 := ⟨N - 1, by omega⟩
    rw [dm233_158, if_pos (by decide)]
    unfold dm233_231
    rw [ofNat_succ (by omega)]
    exact Ev.n _ s
  | m + 1, N, s, h1, h2 => by
    obtain ⟨N, rfl⟩ : ∃ q, N = q + 1 := ⟨N - 1, by omega⟩
    have e : Int32.ofNat (m + 1) - 1 = Int32.ofNat m := by
      rw [ofNat_sub1 (by omega) (by omega)]
      rfl
    rw [e, dm233_158, if_neg (fun z => by have := iLt.mp z; rw [iOfNat (by omega)] at this; have t0 : (0 : Int32).toInt = 0 := rfl; omega)]
    refine Er.v (w1 := [_]) (w2 := byT W m) (e235 _ s) fun s1 _ => ?_
    have e2 : Int32.ofNat m + (-1) = Int32.ofNat m - 1 := by rw [Int32.sub_eq_add_neg]
    rw [e2]
    exact e158 hp m N s1 (by omega) (by omega)
set_option maxRecDepth 100000 in
theorem by_t : byT 1414681925 4 = trL ∧ byT 301743231813 5 = faL := by decide
set_option maxRecDepth 100000 in
theorem dbq_l : ∀ l : List Int32, dbq 34 l = dbl l
  | [] => rfl
  | x :: r => by
    show dq1 x 34 ++ dbq 34 r = if x = 34 then 34 :: 34 :: dbl r else x :: dbl r
    rw [dbq_l r]
    unfold dq1
    by_cases c : x = 34
    · rw [if_pos c, if_pos c, c]
      rfl
    · rw [if_neg c, if_neg c]
      rfl
end
section
/-! the reference writes the text of a formula -/
def WZ (s : aS) (f : Nat) (Z : List (Nd × List Int32)) (ns : List (List Int32)) : Prop := (∀ i n, Z[i]? = some n → (∀ w, w < 9 → sI s (128 + w) (128 * f + i) = n.1 w) ∧ NM s f (128 * f + i) (n.1 0) n.2) ∧ Z.length ≤ 128 ∧ SM s ns ∧ nsOk ns ∧ ∀ n ∈ Z, ndOk n.1 ∧ arOk n.1 ∧ (n.1 2).toInt < ns.length
set_option maxRecDepth 100000 in
theorem WZ.of {s s1 : aS} {f : Nat} {Z : List (Nd × List Int32)} {ns : List (List Int32)} (h : WZ s f Z ns) (g : ch wrA s s1) : WZ s1 f Z ns := ⟨fun i n q => ⟨fun w hw => (g.i (by unfold wrA; omega)).trans ((h.1 i n q).1 w hw), (h.1 i n q).2.wr g⟩, h.2.1, h.2.2.1.wr g, h.2.2.2⟩
set_option maxRecDepth 100000 in
theorem z_mid {A B : List (Nd × List Int32)} {n : Nd × List Int32} : (A ++ n :: B)[A.length]? = some n := by
  rw [List.getElem?_append_right (Nat.le_refl _), Nat.sub_self]
  rfl
set_option maxRecDepth 100000 in
theorem z_hk {T B : List (Nd × List Int32)} (h : fz T 1) : ∃ n T0, T = n :: T0 ∧ hk (T ++ B) = n.1 0 := by
  cases T with
  | nil => exact absurd h (by show ¬ (1 : Nat) = 0; decide)
  | cons n T0 => exact ⟨n, T0, rfl, rfl⟩
set_option maxRecDepth 100000 in
theorem op_w : ∀ k ∈ List.range 23, 11 ≤ k → ∃ c, dm237 (Int32.ofNat k) = some c ∧ opT k = [c] ++ ((if Int32.ofNat k = 18 then [62] else []) ++ (if Int32.ofNat k ≤ 20 then [] else [61])) := by
  intro k hk h11
  have hk := List.mem_range.mp hk
  match k, hk, h11 with
  | 11, _, _ => exact ⟨94, rfl, by decide⟩
  | 12, _, _ => exact ⟨42, rfl, by decide⟩
  | 13, _, _ => exact ⟨47, rfl, by decide⟩
  | 14, _, _ => exact ⟨43, rfl, by decide⟩
  | 15, _, _ => exact ⟨45, rfl, by decide⟩
  | 16, _, _ => exact ⟨38, rfl, by decide⟩
  | 17, _, _ => exact ⟨61, rfl, by decide⟩
  | 18, _, _ => exact ⟨60, rfl, by decide⟩
  | 19, _, _ => exact ⟨60, rfl, by decide⟩
  | 20, _, _ => exact ⟨62, rfl, by decide⟩
  | 21, _, _ => exact ⟨60, rfl, by decide⟩
  | 22, _, _ => exact ⟨62, rfl, by decide⟩
  | j + 23, h9, _ => exact absurd h9 (by omega)
set_option maxRecDepth 100000 in
theorem e233 {f : Nat} {Z : List (Nd × List Int32)} {ns : List (List Int32)} (hf : f < 8) : ∀ (m : Nat) (T A B : List (Nd × List Int32)) (s : aS), WZ s f Z ns → fz T 1 → T.length ≤ m → Z = A ++ (T ++ B) → Ev (txF ns m (T ++ B)).1 (dm233 m (Int32.ofNat f) (Int32.ofNat (128 * f + A.length)) s) s (Int32.ofNat (128 * f + A.length + T.length)) := by
  intro m
  induction m with
  | zero =>
    intro T A B s h hT hn hM
    cases T with
    | nil => exact absurd hT (by show ¬ (1 : Nat) = 0; decide)
    | cons d T => simp only [List.length_cons] at hn; omega
  | succ m ih =>
    intro T A B s h hT hn hM
    cases T with
    | nil => exact absurd hT (by show ¬ (1 : Nat) = 0; decide)
    | cons n R =>
      have hR : fz R (arN n.1) := by
        have := hT.2
        rw [show 1 - 1 + arN n.1 = arN n.1 by omega] at this
        exact this
      simp only [List.length_cons] at hn
      have hM1 : Z = A ++ (n :: (R ++ B)) := hM
      have hlen : Z.length = A.length + (R.length + 1) + B.length := by
        rw [hM1]
        simp only [List.length_append, List.length_cons]
        omega
      have h128 := h.2.1
      have hdM : n ∈ Z := by
        rw [hM1]
        exact List.mem_append_right _ List.mem_cons_self
      obtain ⟨hnd, har, hsh⟩ := h.2.2.2.2 n hdM
      have hZa : ∀ x ∈ Z, arOk x.1 := fun x hx => (h.2.2.2.2 x hx).2.1
      have hRZ : ∀ x ∈ R, x ∈ Z := fun x hx => by
        rw [hM1]
        exact List.mem_append_right _ (List.mem_cons_of_mem _ (List.mem_append_left _ hx))
      have rst : ∀ (T2 B2 : List (Nd × List Int32)), (∀ x ∈ T2, x ∈ R) → fz T2 1 → T2.length ≤ m → (txF ns m (T2 ++ B2)).2 = B2 := fun T2 B2 hx h2 h3 => txF_r m T2 B2 (fun x hx2 => hZa x (hRZ x (hx x hx2))) h2 h3
      have hb : aB (Int32.ofNat (128 * f + A.length)) 1152 := aB_of (by omega) (by omega)
      have ej : jN (Int32.ofNat (128 * f + A.length)) = 128 * f + A.length := jN_of (by omega)
      have hat : Z[A.length]? = some n := by rw [hM1]; exact z_mid
      have row : ∀ s1, ch wrA s s1 → ∀ w, w < 9 → sI s1 (128 + w) (128 * f + A.length) = n.1 w := fun s1 c1 w hw => ((h.of c1).1 _ n hat).1 w hw
      have r0 : ∀ s1, ch wrA s s1 → sI s1 128 (128 * f + A.length) = n.1 0 := fun s1 c1 => row s1 c1 0 (by decide)
      have hA1 : (A ++ [n]).length = A.length + 1 := by rw [List.length_append]; rfl
      have hM2 : Z = (A ++ [n]) ++ (R ++ B) := by rw [hM1, List.append_assoc]; rfl
      have eN : Int32.ofNat (128 * f + A.length) + 1 = Int32.ofNat (128 * f + (A ++ [n]).length) := by
        rw [hA1, ofNat_succ (by omega)]
        rfl
      have eE : 128 * f + A.length + (R.length + 1) = 128 * f + (A ++ [n]).length + R.length := by rw [hA1]; omega
      have hNM : NM s f (128 * f + A.length) (n.1 0) n.2 := (h.1 _ n hat).2
      -- the first node of a subtree that stands behind A2
      have k0 : ∀ (A2 T2 B2 : List (Nd × List Int32)) (s1 : aS), ch wrA s s1 → Z = A2 ++ (T2 ++ B2) → fz T2 1 → sI s1 128 (128 * f + A2.length) = hk (T2 ++ B2) := fun A2 T2 B2 s1 c1 e2 t2 => by
        obtain ⟨x, T0, e3, e4⟩ := z_hk (B := B2) t2
        rw [e4]
        have : Z[A2.length]? = some x := by rw [e2, e3]; exact z_mid
        exact ((h.of c1).1 _ x this).1 0 (by decide)
      simp only [List.length_cons]
      rw [eE, dm233, nx_eq, if_pos hb]
      simp only [ej, r0 s (ch.refl _ s)]
      show Ev (txF ns (m + 1) (n :: (R ++ B))).1 _ s _
      unfold txF
      by_cases c7 : n.1 0 = 7
      · rw [if_pos c7, if_pos c7]
        have eL : leT ns n.1 n.2 = n.2 ++ [40] := by
          unfold leT
          rw [c7, if_neg (by decide), if_neg (by decide), if_neg (by decide), if_neg (by decide), if_neg (by decide), if_neg (by decide), if_neg (by decide), if_pos rfl]
        show Ev (leT ns n.1 n.2 ++ ((tAr (txF ns m) (arN n.1) 0 (R ++ B)).1 ++ [41])) _ s _
        rw [eL, List.append_assoc]
        refine (e234 (by omega) (by omega) (hNM.1 (Or.inr (Or.inr c7)))).v fun s1 c1 => ?_
        refine (e235 _ s1).v fun s2 c2 => ?_
        have loop : ∀ (j k N : Nat) (A2 R2 : List (Nd × List Int32)) (s3 : aS), ch wrA s s3 → (∀ x ∈ R2, x ∈ R) → fz R2 j → k + j = arN n.1 → R2.length ≤ m → Z = A2 ++ (R2 ++ B) → j < N → Ev ((tAr (txF ns m) j k (R2 ++ B)).1 ++ [41]) (dm233_21 (dm233 m) N (Int32.ofNat f) (Int32.ofNat (128 * f + A.length)) (Int32.ofNat (128 * f + A2.length)) (Int32.ofNat k) s3) s3 (Int32.ofNat (128 * f + A2.length + R2.length)) := by
          have hk : n.1 1 = Int32.ofNat (arN n.1) := ofNat_of har.2.2.2.2.1
          have hk8 := har.2.2.2.2.2
          have hk9 : arN n.1 ≤ 128 := by unfold arN; omega
          intro j
          induction j with
          | zero =>
            intro k N A2 R2 s3 c3 hx hR2 hkm hn2 hM3 hN
            obtain ⟨N, rfl⟩ : ∃ q, N = q + 1 := ⟨N - 1, by omega⟩
            have e0 := fz_0 hR2
            subst e0
            have r1 : sI s3 129 (128 * f + A.length) = Int32.ofNat (arN n.1) := (row s3 c3 1 (by decide)).trans hk
            rw [dm233_21, if_pos hb, ej, r1, if_pos ((nle_iff (by omega) (by omega)).mpr (by omega))]
            exact Ev.eq ((e235 41 s3).v (w2 := []) fun s4 _ => Ev.n _ s4) rfl
          | succ j ihj =>
            intro k N A2 R2 s3 c3 hx hR2 hkm hn2 hM3 hN
            obtain ⟨N, rfl⟩ : ∃ q, N = q + 1 := ⟨N - 1, by omega⟩
            have r1 : sI s3 129 (128 * f + A.length) = Int32.ofNat (arN n.1) := (row s3 c3 1 (by decide)).trans hk
            obtain ⟨T1, R3, e1, t1, t2⟩ := fz_sp R2 1 j (by rw [Nat.add_comm]; exact hR2)
            subst e1
            simp only [List.length_append] at hn2
            have hr := rst T1 (R3 ++ B) (fun x q => hx x (List.mem_append_left _ q)) t1 (by omega)
            show Ev (((if k = 0 then [] else [44]) ++ ((txF ns m ((T1 ++ R3) ++ B)).1 ++ (tAr (txF ns m) j (k + 1) (txF ns m ((T1 ++ R3) ++ B)).2).1)) ++ [41]) _ s3 _
            rw [List.append_assoc T1, hr, List.append_assoc, List.append_assoc]
            have h32 : ∀ s4, ch wrA s s4 → Ev ((txF ns m (T1 ++ (R3 ++ B))).1 ++ ((tAr (txF ns m) j (k + 1) (R3 ++ B)).1 ++ [41])) (dm233_32 (dm233 m) (dm233_21 (dm233 m) N) (Int32.ofNat f) (Int32.ofNat (128 * f + A.length)) (Int32.ofNat (128 * f + A2.length)) (Int32.ofNat k) s4) s4 (Int32.ofNat (128 * f + A2.length + (T1 ++ R3).length)) := by
              intro s4 c4
              unfold dm233_32
              refine (ih T1 A2 (R3 ++ B) s4 (h.of c4) t1 (by omega) (by rw [hM3, List.append_assoc])).v fun s5 c5 => ?_
              have := ihj (k + 1) N (A2 ++ T1) R3 s5 (c4.trans c5) (fun x q => hx x (List.mem_append_right _ q)) t2 (by omega) (by omega) (by rw [hM3, List.append_assoc, List.append_assoc]) (by omega)
              rw [List.length_append, ← Nat.add_assoc] at this
              rw [ofNat_succ (by omega), List.length_append, ← Nat.add_assoc]
              exact this
            rw [dm233_21, if_pos hb, ej, r1, if_neg (show ¬ Int32.ofNat (arN n.1) ≤ Int32.ofNat k from fun q => by have := (nle_iff (by omega) (by omega)).mp q; omega)]
            by_cases ck : k = 0
            · rw [if_pos ck, if_pos (show Int32.ofNat k ≤ 0 by rw [ck]; decide)]
              exact h32 s3 c3
            · rw [if_neg ck, if_neg (show ¬ Int32.ofNat k ≤ 0 from fun z => ck (by have := (nle_iff (b := 0) (by omega) (by omega)).mp z; omega))]
              exact (e235 44 s3).v fun s4 c4 => h32 s4 (c3.trans c4)
        rw [eN]
        have hk8 := har.2.2.2.2.2
        exact loop (arN n.1) 0 5000 (A ++ [n]) R s2 (c1.trans c2) (fun x q => q) hR (by omega) (by omega) hM2 (by unfold arN; omega)
      · rw [if_neg c7, if_neg c7]
        have one : arN n.1 = 1 → ∀ x3 s1, ch wrA s s1 → Ev (brT (rkM (hk (R ++ B)) < x3) (txF ns m (R ++ B)).1) (dm236 (dm233 m) (Int32.ofNat f) (Int32.ofNat (128 * f + A.length) + 1) x3 s1) s1 (Int32.ofNat (128 * f + (A ++ [n]).length + R.length)) := by
          intro h1 x3 s1 c1
          rw [h1] at hR
          rw [eN]
          have hRl : 1 ≤ R.length := by
            cases R with
            | nil => exact absurd hR (by show ¬ (1 : Nat) = 0; decide)
            | cons a b => simp only [List.length_cons]; omega
          exact e236 (by rw [hA1]; omega) (k0 (A ++ [n]) R B s1 c1 hM2 hR) fun s2 c2 => ih R (A ++ [n]) B s2 (h.of (c1.trans c2)) hR (by omega) hM2
        by_cases c9 : n.1 0 = 9
        · rw [if_pos c9, if_pos c9]
          have h1 : arN n.1 = 1 := by unfold arN; rw [har.2.1 (Or.inl c9)]; rfl
          exact (one h1 7 s (ch.refl _ s)).v fun s1 c1 => Ev.eq ((e235 37 s1).v (w2 := []) fun s2 _ => Ev.n _ s2) rfl
        · rw [if_neg c9, if_neg c9]
          by_cases c10 : n.1 0 = 10
          · rw [if_pos c10, if_pos c10]
            have h1 : arN n.1 = 1 := by unfold arN; rw [har.2.1 (Or.inr c10)]; rfl
            refine (e235 45 s).v fun s1 c1 => ?_
            exact Ev.eq ((one h1 6 s1 c1).v (w2 := []) fun s2 _ => Ev.n _ s2) (List.append_nil _)
          · rw [if_neg c10, if_neg c10]
            have l11 : n.1 0 < 11 ↔ (n.1 0).toInt < 11 := iLt
            by_cases c11 : n.1 0 < 11
            · rw [if_pos c11, if_pos c11]
              have c11 := l11.mp c11
              have h1 : arN n.1 = 0 := by
                unfold arN
                rw [har.2.2.2.1 (by rintro (q | q | q | q); exact c7 q; exact c9 q; exact c10 q; omega)]
                rfl
              rw [h1] at hR
              have e0 := fz_0 hR
              subst e0
              have eE2 : 128 * f + (A ++ [n]).length + ([] : List (Nd × List Int32)).length = 128 * f + A.length + 1 := by rw [hA1]; rfl
              rw [eE2]
              show Ev (leT ns n.1 n.2) _ s _
              have fin : ∀ s1, Ev [] (dm233_231 (dm233 m) (Int32.ofNat (128 * f + A.length)) s1) s1 (Int32.ofNat (128 * f + A.length + 1)) := fun s1 => by
                unfold dm233_231
                rw [ofNat_succ (by omega)]
                exact Ev.n _ s1
              have r8 : sI s 136 (128 * f + A.length) = n.1 8 := row s (ch.refl _ s) 8 (by decide)
              by_cases c2 : n.1 0 = 2
              · have eL : leT ns n.1 n.2 = erW (n.1 8) := by
                  unfold leT
                  rw [if_neg (show ¬ n.1 0 = 0 by rw [c2]; decide), if_neg (show ¬ n.1 0 = 1 by rw [c2]; decide), if_pos c2]
                rw [if_pos c2, eL]
                obtain ⟨e, he, e1, -, e3⟩ := er_w (n.1 8)
                rw [e1]
                have := e117 (rc := dm233 m) (p := 128 * f + A.length) (by omega) he.2 e3 (erN e).length 0 5000 s r8 (by omega) (by have := erN_len e; omega)
                rw [List.drop_zero] at this
                exact this
              · rw [if_neg c2]
                by_cases c3 : n.1 0 = 3
                · have eL : leT ns n.1 n.2 = if n.1 8 = 1 then trL else faL := by
                    unfold leT
                    rw [if_neg (show ¬ n.1 0 = 0 by rw [c3]; decide), if_neg (show ¬ n.1 0 = 1 by rw [c3]; decide), if_neg c2, if_pos c3]
                  rw [if_pos c3, eL]
                  unfold dm233_147 dm233_157
                  simp only [if_pos hb, ej, r8]
                  by_cases q : n.1 8 = 1
                  · simp only [if_pos q]
                    exact Ev.eq (e158 (p := 128 * f + A.length) (W := 1414681925) (by omega) 4 5000 s (by omega) (by omega)) by_t.1
                  · simp only [if_neg q]
                    exact Ev.eq (e158 (p := 128 * f + A.length) (W := 301743231813) (by omega) 5 5000 s (by omega) (by omega)) by_t.2
                · rw [if_neg c3]
                  have cell : isRf n.1 → Ev (rfT ns n.1) (dm233_179 (dm233 m) (Int32.ofNat (128 * f + A.length)) (n.1 0) s) s (Int32.ofNat (128 * f + A.length + 1)) := by
                    intro hrf
                    obtain ⟨q1, q2, q3, q4, q5, q6, q7⟩ := hnd.2.2.2.1 hrf
                    have t20 : (1048576 : Int32).toInt = 1048576 := by decide
                    have t14 : (16384 : Int32).toInt = 16384 := by decide
                    have p3 : 1 ≤ (n.1 3).toInt ∧ (n.1 3).toInt ≤ 1048576 := by
                      have q2 : 1 ≤ (n.1 3).toInt ∧ (n.1 3).toInt ≤ (1048576 : Int32).toInt := q2
                      omega
                    have p5 : 1 ≤ (n.1 5).toInt ∧ (n.1 5).toInt ≤ 1048576 := by
                      have q3 : 1 ≤ (n.1 5).toInt ∧ (n.1 5).toInt ≤ (1048576 : Int32).toInt := q3
                      omega
                    have p4 : 1 ≤ (n.1 4).toInt ∧ (n.1 4).toInt ≤ 16384 := by
                      have q5 : 1 ≤ (n.1 4).toInt ∧ (n.1 4).toInt ≤ (16384 : Int32).toInt := q5
                      omega
                    have p6 : 1 ≤ (n.1 6).toInt ∧ (n.1 6).toInt ≤ 16384 := by
                      have q6 : 1 ≤ (n.1 6).toInt ∧ (n.1 6).toInt ≤ (16384 : Int32).toInt := q6
                      omega
                    unfold dm233_179 rfT
                    simp only [if_pos hb, ej]
                    rw [show sI s 130 (128 * f + A.length) = n.1 2 from row s (ch.refl _ s) 2 (by decide)]
                    refine (e238 h.2.2.1 h.2.2.2.1 ⟨hnd.1.1, hsh⟩).v fun s1 c1 => ?_
                    rw [show sI s1 131 (128 * f + A.length) = n.1 3 from row s1 c1 3 (by decide), show sI s1 132 (128 * f + A.length) = n.1 4 from row s1 c1 4 (by decide), show sI s1 135 (128 * f + A.length) = n.1 7 from row s1 c1 7 (by decide), (cr_eq p3 p4 hnd.2.1).1]
                    refine (e241 (by omega) _ _ s1).v fun s2 c2 => ?_
                    by_cases q : n.1 0 = 5
                    · rw [if_pos q, if_pos q]
                      refine (e235 58 s2).v fun s3 c3 => ?_
                      rw [show sI s3 133 (128 * f + A.length) = n.1 5 from row s3 ((c1.trans c2).trans c3) 5 (by decide), show sI s3 134 (128 * f + A.length) = n.1 6 from row s3 ((c1.trans c2).trans c3) 6 (by decide), show sI s3 135 (128 * f + A.length) = n.1 7 from row s3 ((c1.trans c2).trans c3) 7 (by decide), (cr_eq p5 p6 hnd.2.1).2]
                      exact Ev.eq ((e241 (by omega) _ _ s3).v (w2 := []) fun s4 _ => fin s4) (List.append_nil _)
                    · rw [if_neg q, if_neg q]
                      exact fin s2
                  by_cases c4 : n.1 0 = 4
                  · have eL : leT ns n.1 n.2 = rfT ns n.1 := by
                      unfold leT
                      rw [if_neg (show ¬ n.1 0 = 0 by rw [c4]; decide), if_neg (show ¬ n.1 0 = 1 by rw [c4]; decide), if_neg c2, if_neg c3, if_pos c4]
                    rw [if_pos c4, eL]
                    exact cell (Or.inl c4)
                  · rw [if_neg c4]
                    by_cases c5 : n.1 0 = 5
                    · have eL : leT ns n.1 n.2 = rfT ns n.1 := by
                        unfold leT
                        rw [if_neg (show ¬ n.1 0 = 0 by rw [c5]; decide), if_neg (show ¬ n.1 0 = 1 by rw [c5]; decide), if_neg c2, if_neg c3, if_neg c4, if_pos c5]
                      rw [if_pos c5, eL]
                      exact cell (Or.inr c5)
                    · rw [if_neg c5]
                      by_cases c8 : n.1 0 = 8
                      · have eL : leT ns n.1 n.2 = [] := by
                          unfold leT
                          rw [if_neg (show ¬ n.1 0 = 0 by rw [c8]; decide), if_neg (show ¬ n.1 0 = 1 by rw [c8]; decide), if_neg c2, if_neg c3, if_neg c4, if_neg c5, if_neg (show ¬ n.1 0 = 6 by rw [c8]; decide), if_neg c7, if_neg c10]
                        rw [if_pos c8, eL]
                        exact fin s
                      · rw [if_neg c8]
                        by_cases c1 : n.1 0 = 1
                        · have eL : leT ns n.1 n.2 = [34] ++ (dbl n.2 ++ [34]) := by
                            unfold leT
                            rw [if_neg (show ¬ n.1 0 = 0 by rw [c1]; decide), if_pos c1, dbq_l]
                          rw [eL]
                          exact Ev.eq ((e234 (by omega) (by omega) (hNM.2.1 c1)).v (w2 := []) fun s1 _ => fin s1) (List.append_nil _)
                        · have g1 := har.1
                          have t : ∀ k : Nat, k ≤ 10 → ¬ n.1 0 = Int32.ofNat k → ¬ (n.1 0).toInt = k := fun k hk q z => q (by rw [iEq, iOfNat (by omega)]; exact z)
                          have h06 : n.1 0 = 0 ∨ n.1 0 = 6 := by
                            by_cases c0 : n.1 0 = 0
                            · exact Or.inl c0
                            · by_cases c6 : n.1 0 = 6
                              · exact Or.inr c6
                              · exfalso
                                have := t 0 (by decide) c0
                                have := t 1 (by decide) c1
                                have := t 2 (by decide) c2
                                have := t 3 (by decide) c3
                                have := t 4 (by decide) c4
                                have := t 5 (by decide) c5
                                have := t 6 (by decide) c6
                                have := t 7 (by decide) c7
                                have := t 8 (by decide) c8
                                have := t 9 (by decide) c9
                                have := t 10 (by decide) c10
                                omega
                          have eL : leT ns n.1 n.2 = n.2 := by
                            unfold leT
                            rcases h06 with z | z
                            · rw [if_pos z]
                            · rw [if_neg (by rw [z]; decide), if_neg c1, if_neg c2, if_neg c3, if_neg c4, if_neg c5, if_pos z]
                          rw [eL]
                          exact Ev.eq ((e234 (by omega) (by omega) (hNM.1 (h06.elim Or.inl (fun z => Or.inr (Or.inl z))))).v (w2 := []) fun s1 _ => fin s1) (List.append_nil _)
            · rw [if_neg c11, if_neg c11, d191]
              have c11 : ¬ (n.1 0).toInt < 11 := fun q => c11 (l11.mpr q)
              have h2 : arN n.1 = 2 := by
                unfold arN
                rw [har.2.2.1 (by omega)]
                rfl
              rw [h2] at hR
              obtain ⟨T1, T2, e1, t1, t2⟩ := fz_sp R 1 1 hR
              subst e1
              simp only [List.length_append] at hn
              have hT1 : 1 ≤ T1.length := by
                cases T1 with
                | nil => exact absurd t1 (by show ¬ (1 : Nat) = 0; decide)
                | cons a b => simp only [List.length_cons]; omega
              have hT2 : 1 ≤ T2.length := by
                cases T2 with
                | nil => exact absurd t2 (by show ¬ (1 : Nat) = 0; decide)
                | cons a b => simp only [List.length_cons]; omega
              rw [List.length_append] at hlen
              have hr := rst T1 (T2 ++ B) (fun x q => List.mem_append_left _ q) t1 (by omega)
              obtain ⟨k, hk9⟩ : ∃ k, k = (n.1 0).toInt.toNat := ⟨_, rfl⟩
              have ek : n.1 0 = Int32.ofNat k := by rw [hk9]; exact ofNat_of (by omega)
              obtain ⟨v9, e9, e8⟩ := op_w k (List.mem_range.mpr (by have := har.1.2; omega)) (by omega)
              rw [← ek] at e9 e8
              rw [e9]
              simp only [bu_some]
              rw [eN]
              show Ev (brT (rkM (hk ((T1 ++ T2) ++ B)) < rkM (n.1 0)) (txF ns m ((T1 ++ T2) ++ B)).1 ++ (opT (n.1 0).toInt.toNat ++ brT (rkM (hk (txF ns m ((T1 ++ T2) ++ B)).2) < rkM (n.1 0) + 1) (txF ns m (txF ns m ((T1 ++ T2) ++ B)).2).1)) _ s _
              rw [List.append_assoc T1, hr, ← hk9, e8, List.append_assoc]
              refine (e236 (by rw [hA1]; omega) (k0 (A ++ [n]) T1 (T2 ++ B) s (ch.refl _ s) (by rw [hM2]; simp only [List.append_assoc]) t1) fun s2 c2 => ih T1 (A ++ [n]) (T2 ++ B) s2 (h.of c2) t1 (by omega) (by rw [hM2]; simp only [List.append_assoc])).v fun s1 c1 => ?_
              refine (e235 _ s1).v fun s2 c2 => ?_
              have h104 : ∀ s3, ch wrA s s3 → Ev (brT (rkM (hk (T2 ++ B)) < rkM (n.1 0) + 1) (txF ns m (T2 ++ B)).1) (dm233_104 (dm233 m) (Int32.ofNat f) (rkM (n.1 0)) (Int32.ofNat (128 * f + (A ++ [n]).length + T1.length)) s3) s3 (Int32.ofNat (128 * f + (A ++ [n]).length + (T1 ++ T2).length)) := by
                intro s3 c3
                unfold dm233_104
                have e2 : 128 * f + (A ++ [n]).length + T1.length = 128 * f + ((A ++ [n]) ++ T1).length := by
                  rw [List.length_append (as := A ++ [n])]
                  omega
                have e3 : 128 * f + (A ++ [n]).length + (T1 ++ T2).length = 128 * f + ((A ++ [n]) ++ T1).length + T2.length := by
                  rw [List.length_append (as := A ++ [n]), List.length_append (as := T1)]
                  omega
                rw [e2, e3]
                have hZ2 : Z = ((A ++ [n]) ++ T1) ++ (T2 ++ B) := by rw [hM2]; simp only [List.append_assoc]
                exact Ev.eq ((e236 (by rw [List.length_append (as := A ++ [n]), hA1]; omega) (k0 ((A ++ [n]) ++ T1) T2 B s3 c3 hZ2 t2) fun s4 c4 => ih T2 ((A ++ [n]) ++ T1) B s4 (h.of (c3.trans c4)) t2 (by omega) hZ2).v (w2 := []) fun s4 _ => Ev.n _ s4) (List.append_nil _)
              have h98 : ∀ s3, ch wrA s s3 → Ev ((if n.1 0 ≤ 20 then [] else [61]) ++ brT (rkM (hk (T2 ++ B)) < rkM (n.1 0) + 1) (txF ns m (T2 ++ B)).1) (dm233_98 (dm233 m) (Int32.ofNat f) (n.1 0) (rkM (n.1 0)) (Int32.ofNat (128 * f + (A ++ [n]).length + T1.length)) s3) s3 (Int32.ofNat (128 * f + (A ++ [n]).length + (T1 ++ T2).length)) := by
                intro s3 c3
                unfold dm233_98
                by_cases q : n.1 0 ≤ 20
                · rw [if_pos q, if_pos q]
                  exact h104 s3 c3
                · rw [if_neg q, if_neg q]
                  exact (e235 61 s3).v fun s4 c4 => h104 s4 (c3.trans c4)
              rw [List.append_assoc]
              by_cases q : n.1 0 = 18
              · rw [if_pos q, if_pos q]
                exact (e235 62 s2).v fun s3 c3 => h98 s3 ((c1.trans c2).trans c3)
              · rw [if_neg q, if_neg q]
                exact h98 s2 (c1.trans c2)
end
section
/-! the writer of FormulaTrees: its frames (the last first) -/
def Fr9 (s : aS) : List (Nat × Nat × Int32) → Prop
  | [] => True
  | q :: S => sI s 118 S.length = Int32.ofNat q.1 ∧ sI s 119 S.length = Int32.ofNat q.2.1 ∧ sI s 120 S.length = q.2.2 ∧ Fr9 s S
set_option maxRecDepth 100000 in
theorem Fr9.of {s s1 : aS} : ∀ (S : List (Nat × Nat × Int32)), (∀ k, k < S.length → sI s1 118 k = sI s 118 k ∧ sI s1 119 k = sI s 119 k ∧ sI s1 120 k = sI s 120 k) → Fr9 s S → Fr9 s1 S
  | [], _, _ => trivial
  | q :: S, e, h => ⟨(e S.length (Nat.lt_succ_self _)).1.trans h.1, (e S.length (Nat.lt_succ_self _)).2.1.trans h.2.1, (e S.length (Nat.lt_succ_self _)).2.2.trans h.2.2.1, Fr9.of S (fun k hk => e k (Nat.lt_succ_of_lt hk)) h.2.2.2⟩
/-- frames, next node, flag -/
def Cf (s : aS) (S : List (Nat × Nat × Int32)) (p : Nat) (g : Int32) : Prop := (sI s 117 4 = Int32.ofNat S.length ∧ S.length ≤ p ∧ p ≤ 128) ∧ sI s 117 6 = Int32.ofNat p ∧ sI s 117 7 = g ∧ Fr9 s S
section CW
variable {s s1 : aS} {S : List (Nat × Nat × Int32)} {p : Nat} {g : Int32}
set_option maxRecDepth 100000 in
theorem Cf.d (h : Cf s S p g) (c : ch wrD s s1) : Cf s1 S p g := ⟨⟨(c.i (by unfold wrD; omega)).trans h.1.1, h.1.2⟩, (c.i (by unfold wrD; omega)).trans h.2.1, (c.i (by unfold wrD; omega)).trans h.2.2.1, Fr9.of (s := s) S (fun k _ => ⟨c.i (by unfold wrD; omega), c.i (by unfold wrD; omega), c.i (by unfold wrD; omega)⟩) h.2.2.2⟩
set_option maxRecDepth 100000 in
theorem WC.of {A : Nat → Nat → Prop} {l : List Int32} {k : Int32} (h : WC s l k) (c : ch A s s1) (hA : ∀ a j, A a j → a ≠ 117 ∨ j < 8) : WC s1 l k := ⟨h.1, (c.i fun z => by have := hA _ _ z; omega).trans h.2.1, (c.i fun z => by have := hA _ _ z; omega).trans h.2.2.1, (c.i fun z => by have := hA _ _ z; omega).trans h.2.2.2⟩
def incF : List (Nat × Nat × Int32) → List (Nat × Nat × Int32)
  | [] => []
  | q :: S => (q.1, q.2.1 + 1, q.2.2) :: S
def wrF (a k : Nat) : Prop := (a = 117 ∧ (k = 4 ∨ k = 6 ∨ k = 7)) ∨ a = 118 ∨ a = 119 ∨ a = 120
set_option maxRecDepth 100000 in
theorem wrF_C {a k : Nat} (h : wrF a k) : wrC a k := by unfold wrF at h; unfold wrC; omega
set_option maxRecDepth 100000 in
theorem x140a {x : Int32} (h : Cf s S p g) (hp : p < 128) (hx : x = 0 ∨ x = 1) : ∃ s1, dm140_24 x s = some s1 ∧ Cf s1 ((p, 0, x) :: S) (p + 1) 1 ∧ ch wrF s s1 := by
  obtain ⟨⟨a1, a2, a3⟩, a4, a5, a6⟩ := h
  have b8 : aB (Int32.ofNat S.length) 128 := aB_of (by omega) (by omega)
  have j8 : jN (Int32.ofNat S.length) = S.length := jN_of (by omega)
  have hx1 : x &&& 1 = x := by
    rcases hx with z | z
    · rw [z]
      decide
    · rw [z]
      decide
  let t1 := wI s 118 S.length (Int32.ofNat p)
  let t2 := wI t1 119 S.length 0
  let t3 := wI t2 120 S.length x
  let t4 := wI t3 117 4 (Int32.ofNat (S.length + 1))
  let t5 := wI t4 117 6 (Int32.ofNat (p + 1))
  let t6 := wI t5 117 7 1
  have d1 : sI t1 117 4 = Int32.ofNat S.length := by
    show sI (wI s 118 S.length (Int32.ofNat p)) 117 4 = _
    rw [sI_wI, if_neg (by omega)]
    exact a1
  have d2 : sI t2 117 4 = Int32.ofNat S.length := by
    show sI (wI t1 119 S.length 0) 117 4 = _
    rw [sI_wI, if_neg (by omega)]
    exact d1
  have d3 : sI t3 117 4 = Int32.ofNat S.length := by
    show sI (wI t2 120 S.length x) 117 4 = _
    rw [sI_wI, if_neg (by omega)]
    exact d2
  have cc : ch wrF s t6 := ((((((ch.refl wrF s).wI (by unfold wrF; omega)).wI (by unfold wrF; omega)).wI (by unfold wrF; omega)).wI (by unfold wrF; omega)).wI (by unfold wrF; omega)).wI (by unfold wrF; omega)
  have c3 : ch (fun a k => (a = 118 ∨ a = 119 ∨ a = 120) ∧ k = S.length) s t3 := (((ch.refl _ s).wI ⟨Or.inl rfl, rfl⟩).wI ⟨Or.inr (Or.inl rfl), rfl⟩).wI ⟨Or.inr (Or.inr rfl), rfl⟩
  have c6 : ch (fun a k => a = 117 ∧ (k = 4 ∨ k = 6 ∨ k = 7)) t3 t6 := (((ch.refl _ t3).wI ⟨rfl, Or.inl rfl⟩).wI ⟨rfl, Or.inr (Or.inl rfl)⟩).wI ⟨rfl, Or.inr (Or.inr rfl)⟩
  refine ⟨t6, ?_, ⟨⟨?_, by rw [List.length_cons]; omega, by omega⟩, ?_, ?_, ?_, ?_, ?_, ?_⟩, cc⟩
  · unfold dm140_24
    rw [a1, if_pos b8, j8, a4]
    simp only [nx_eq]
    rw [show sI (wI s 118 S.length (Int32.ofNat p)) 117 4 = Int32.ofNat S.length from d1, if_pos b8, j8]
    rw [show sI (wI (wI s 118 S.length (Int32.ofNat p)) 119 S.length 0) 117 4 = Int32.ofNat S.length from d2, if_pos b8, j8, hx1]
    rw [show sI (wI (wI (wI s 118 S.length (Int32.ofNat p)) 119 S.length 0) 120 S.length x) 117 4 = Int32.ofNat S.length from d3, ofNat_succ (by omega)]
    have d6 : sI t4 117 6 = Int32.ofNat p := by
      show sI (wI t3 117 4 (Int32.ofNat (S.length + 1))) 117 6 = _
      rw [sI_wI, if_neg (by omega), c3.i (by omega)]
      exact a4
    rw [show sI (wI (wI (wI (wI s 118 S.length (Int32.ofNat p)) 119 S.length 0) 120 S.length x) 117 4 (Int32.ofNat (S.length + 1))) 117 6 = Int32.ofNat p from d6, ofNat_succ (by omega)]
  · show sI (wI (wI t4 117 6 (Int32.ofNat (p + 1))) 117 7 1) 117 4 = Int32.ofNat (S.length + 1)
    rw [sI_wI, if_neg (by omega), sI_wI, if_neg (by omega)]
    show sI (wI t3 117 4 (Int32.ofNat (S.length + 1))) 117 4 = _
    rw [sI_wI, if_pos ⟨rfl, rfl⟩]
  · show sI (wI (wI t4 117 6 (Int32.ofNat (p + 1))) 117 7 1) 117 6 = Int32.ofNat (p + 1)
    rw [sI_wI, if_neg (by omega), sI_wI, if_pos ⟨rfl, rfl⟩]
  · show sI (wI t5 117 7 1) 117 7 = 1
    rw [sI_wI, if_pos ⟨rfl, rfl⟩]
  · rw [c6.i (by omega)]
    show sI (wI (wI (wI s 118 S.length (Int32.ofNat p)) 119 S.length 0) 120 S.length x) 118 S.length = Int32.ofNat p
    rw [sI_wI, if_neg (by omega), sI_wI, if_neg (by omega), sI_wI, if_pos ⟨rfl, rfl⟩]
  · rw [c6.i (by omega)]
    show sI (wI (wI t1 119 S.length 0) 120 S.length x) 119 S.length = Int32.ofNat 0
    rw [sI_wI, if_neg (by omega), sI_wI, if_pos ⟨rfl, rfl⟩]
    rfl
  · rw [c6.i (by omega)]
    show sI (wI t2 120 S.length x) 120 S.length = x
    rw [sI_wI, if_pos ⟨rfl, rfl⟩]
  · exact Fr9.of (s := s) S (fun k hk => ⟨(c6.i (by omega)).trans (c3.i (by omega)), (c6.i (by omega)).trans (c3.i (by omega)), (c6.i (by omega)).trans (c3.i (by omega))⟩) a6
set_option maxRecDepth 100000 in
/-- a frame more, with a bracket or without -/
theorem x140 {x : Int32} (h : Cf s S p g) (hp : p < 128) (hx : x = 0 ∨ x = 1) (hd : ∀ q S0, S = q :: S0 → q.2.1 < 1000) : ∃ s1, dm140 x s = some s1 ∧ Cf s1 ((p, 0, x) :: incF S) (p + 1) 1 ∧ ch wrC s s1 ∧ ∀ l k, WC s l k → l.length + 1 < 900000 → WC s1 (l ++ (if x = 0 then [] else [40])) k := by
  have f19 : ∀ (s : aS) (S : List (Nat × Nat × Int32)), Cf s S p g → ∃ s1, dm140_19 x s = some s1 ∧ Cf s1 ((p, 0, x) :: S) (p + 1) 1 ∧ ch wrC s s1 ∧ ∀ l k, WC s l k → l.length + 1 < 900000 → WC s1 (l ++ (if x = 0 then [] else [40])) k := by
    intro s S h
    unfold dm140_19
    by_cases c : x = 0
    · rw [if_pos c]
      obtain ⟨s1, e1, e2, e3⟩ := x140a h hp hx
      refine ⟨s1, e1, e2, e3.mono fun a k z => wrF_C z, fun l k hl _ => ?_⟩
      rw [if_pos c, List.append_nil]
      exact hl.of e3 (fun a j z => by unfold wrF at z; omega)
    · rw [if_neg c]
      obtain ⟨s0, d1, d2, d3⟩ := x141 40 s
      rw [d1]
      simp only [bu_some]
      obtain ⟨s1, e1, e2, e3⟩ := x140a (h.d d2) hp hx
      refine ⟨s1, e1, e2, (dc d2).trans (e3.mono fun a k z => wrF_C z), fun l k hl hn => ?_⟩
      rw [if_neg c]
      exact (d3 l k hl hn).of e3 (fun a j z => by unfold wrF at z; omega)
  have hh := h
  obtain ⟨⟨a1, a2, a3⟩, a4, a5, a6⟩ := h
  unfold dm140
  rw [a1, if_pos (show Int32.ofNat S.length < 128 from (nlt_iff (b := 128) (by omega) (by omega)).mpr (by omega))]
  cases S with
  | nil =>
    rw [if_pos (by decide)]
    exact f19 s [] hh
  | cons q S0 =>
    have hq := hd q S0 rfl
    have a2 : S0.length + 1 ≤ p := a2
    have eln : (q :: S0).length = S0.length + 1 := rfl
    have e1 : Int32.ofNat (q :: S0).length - 1 = Int32.ofNat S0.length := by
      rw [List.length_cons, ofNat_sub1 (by omega) (by omega)]
      rfl
    rw [if_neg (fun z => by have := (nle_iff (b := 0) (by omega) (by omega)).mp z; omega), e1, if_pos (aB_of (by omega) (by omega)), if_pos (aB_of (by omega) (by omega)), jN_of (by omega), a6.2.1, ofNat_succ (by omega)]
    simp only [nx_eq]
    have c : ch (fun a k => a = 119 ∧ k = S0.length) s (wI s 119 S0.length (Int32.ofNat (q.2.1 + 1))) := (ch.refl _ s).wI ⟨rfl, rfl⟩
    obtain ⟨s1, k1, k2, k3, k4⟩ := f19 (wI s 119 S0.length (Int32.ofNat (q.2.1 + 1))) (incF (q :: S0)) ⟨⟨(c.i (by omega)).trans a1, by show S0.length + 1 ≤ p; omega, a3⟩, (c.i (by omega)).trans a4, (c.i (by omega)).trans a5, (c.i (by omega)).trans a6.1, by rw [sI_wI, if_pos ⟨rfl, rfl⟩], (c.i (by omega)).trans a6.2.2.1, Fr9.of (s := s) S0 (fun k hk => ⟨c.i (by omega), c.i (by omega), c.i (by omega)⟩) a6.2.2.2⟩
    exact ⟨s1, k1, k2, (c.mono fun a k z => by unfold wrC; omega).trans k3, fun l k hl hn => k4 l k (hl.of c (fun a j z => by omega)) hn⟩
set_option maxRecDepth 100000 in
/-- a frame less -/
theorem x156a {q : Nat × Nat × Int32} (h : Cf s (q :: S) p g) (hb : q.2.2 = 0 ∨ q.2.2 = 1) : ∃ s1, dm156_13 s = some s1 ∧ Cf s1 S p g ∧ ch wrC s s1 ∧ ∀ l k, WC s l k → l.length + 1 < 900000 → WC s1 (l ++ (if q.2.2 = 0 then [] else [41])) k := by
  obtain ⟨⟨a1, a2, a3⟩, a4, a5, a6⟩ := h
  rw [List.length_cons] at a1 a2
  have e1 : Int32.ofNat (S.length + 1) - 1 = Int32.ofNat S.length := by
    rw [ofNat_sub1 (by omega) (by omega)]
    rfl
  have c : ch (fun a k => a = 117 ∧ k = 4) s (wI s 117 4 (Int32.ofNat S.length)) := (ch.refl _ s).wI ⟨rfl, rfl⟩
  have hC : Cf (wI s 117 4 (Int32.ofNat S.length)) S p g := ⟨⟨by rw [sI_wI, if_pos ⟨rfl, rfl⟩], by omega, a3⟩, (c.i (by omega)).trans a4, (c.i (by omega)).trans a5, Fr9.of (s := s) S (fun k _ => ⟨c.i (by omega), c.i (by omega), c.i (by omega)⟩) a6.2.2.2⟩
  have e4 : sI (wI s 117 4 (Int32.ofNat S.length)) 117 4 = Int32.ofNat S.length := by rw [sI_wI, if_pos ⟨rfl, rfl⟩]
  have e5 : sI (wI s 117 4 (Int32.ofNat S.length)) 120 S.length = q.2.2 := (c.i (by omega)).trans a6.2.2.1
  unfold dm156_13
  rw [a1, if_neg (fun z => by have := (nle_iff (b := 0) (by omega) (by omega)).mp z; omega), e1]
  simp only [nx_eq]
  rw [e4, if_pos (aB_of (by omega) (by omega)), jN_of (by omega), e5]
  by_cases z : q.2.2 = 0
  · rw [if_pos z]
    refine ⟨_, rfl, hC, c.mono fun a k z => (by unfold wrC; omega), fun l k hl _ => ?_⟩
    rw [if_pos z, List.append_nil]
    exact hl.of c (fun a j z => by omega)
  · rw [if_neg z]
    obtain ⟨s0, d1, d2, d3⟩ := x141 41 (wI s 117 4 (Int32.ofNat S.length))
    rw [d1]
    refine ⟨s0, rfl, hC.d d2, (c.mono fun a k z => by unfold wrC; omega).trans (dc d2), fun l k hl hn => ?_⟩
    rw [if_neg z]
    exact d3 l k (hl.of c (fun a j z => by omega)) hn
end CW
end
section
/-! the writer of FormulaTrees: a child more; the end of a node -/
set_option maxRecDepth 100000 in
theorem k85 : ∀ k ∈ List.range 23, dm85 (Int32.ofNat k) = some (rkM (Int32.ofNat k)) := by decide
set_option maxRecDepth 100000 in
theorem kd_n {d : Nd} (h : arOk d) : ∃ k, k < 23 ∧ d 0 = Int32.ofNat k ∧ (d 0).toInt.toNat = k := ⟨(d 0).toInt.toNat, by have := h.1; omega, ofNat_of h.1.1, rfl⟩
set_option maxRecDepth 100000 in
theorem x85k {d : Nd} (h : arOk d) : dm85 (d 0) = some (rkM (d 0)) := by
  obtain ⟨k, h1, h2, -⟩ := kd_n h
  rw [h2]
  exact k85 k (List.mem_range.mpr h1)
set_option maxRecDepth 100000 in
theorem k157 {k : Nat} (h1 : 11 ≤ k) (h2 : k < 23) : dm157 (Int32.ofNat k) = some (.ref (25 + 2 * k)) := by
  match k, h2, h1 with
  | 11, _, _ => rfl
  | 12, _, _ => rfl
  | 13, _, _ => rfl
  | 14, _, _ => rfl
  | 15, _, _ => rfl
  | 16, _, _ => rfl
  | 17, _, _ => rfl
  | 18, _, _ => rfl
  | 19, _, _ => rfl
  | 20, _, _ => rfl
  | 21, _, _ => rfl
  | 22, _, _ => rfl
  | j + 23, h9, _ => exact absurd h9 (by omega)
set_option maxRecDepth 100000 in
theorem opT_p : ∀ e ∈ List.range 23, (opT e).length ≤ 2 ∧ ∀ x ∈ opT e, 0 ≤ x.toInt ∧ x.toInt ≤ 127 := by decide
/-- what stands before child j -/
def sepT (d : Nd) (j : Nat) : List Int32 := if j = 0 then [] else if d 0 = 7 then [44] else opT (d 0).toInt.toNat
/-- child j, of kind kd, stands in brackets -/
def brB (d : Nd) (kd : Int32) (j : Nat) : Prop := ¬ d 0 = 7 ∧ (rkM kd < rkM (d 0) ∨ (rkM kd = rkM (d 0) ∧ ¬ j = 0))
def clT (d : Nd) : List Int32 := if d 0 = 9 then [37] else if d 0 = 7 then [41] else []
section CW
variable {s : aS} {b : Nat} {ns : List (List Int32)} {L : List (Nd × List Int32)} {n c : Nd × List Int32} {i j p : Nat} {S : List (Nat × Nat × Int32)} {br : Int32}
set_option maxRecDepth 100000 in
theorem x158 {d : Nd} (h : FE s b ns L) (hp : L[p]? = some c) (h6 : sI s 117 6 = Int32.ofNat p) (hd : arOk d) (hc : arOk c.1) (hj : j < 1000) : dm158 (d 0) (Int32.ofNat j) s = some (b01 (brB d (c.1 0) j)) := by
  unfold dm158 dm158_24
  by_cases c7 : d 0 = 7
  · rw [if_pos c7, b01_f (fun z => z.1 c7)]
  · rw [if_neg c7, x85k hd]
    simp only [bu_some]
    rw [h.1.1, vN_ref, if_pos h.1.2.1, h6, show dm57 b (Int32.ofNat p) 0 s = some (c.1 0) from f57 (w := 0) h hp (by omega)]
    simp only [bu_some]
    rw [x85k hc]
    simp only [bu_some]
    by_cases q1 : rkM (c.1 0) < rkM (d 0)
    · rw [if_pos q1, b01_t ⟨c7, Or.inl q1⟩]
    · rw [if_neg q1]
      by_cases q2 : rkM (c.1 0) = rkM (d 0)
      · rw [if_pos q2]
        by_cases q3 : j = 0
        · rw [if_pos (by rw [q3]; decide), b01_f (fun z => z.2.elim q1 (fun y => y.2 q3))]
        · rw [if_neg (fun z => q3 (by have := (nle_iff (b := 0) (by omega) (by omega)).mp z; omega)), b01_t ⟨c7, Or.inr ⟨q2, q3⟩⟩]
      · rw [if_neg q2, b01_f (fun z => z.2.elim q1 (fun y => q2 y.1))]
set_option maxRecDepth 100000 in
/-- a child more -/
theorem x155p (h : FE s b ns L) (hn : L[i]? = some n) (hp : L[p]? = some c) (hd : arOk n.1) (hc : arOk c.1) (hC : Cf s ((i, j, br) :: S) p 0) (hj : j < arN n.1) : ∃ s1, dm155 (Int32.ofNat i) (Int32.ofNat j) s = some s1 ∧ ch wrC s s1 ∧ Cf s1 ((p, 0, b01 (brB n.1 (c.1 0) j)) :: (i, j + 1, br) :: S) (p + 1) 1 ∧ ∀ l k, WC s l k → l.length + (sepT n.1 j).length + 1 < 900000 → WC s1 (l ++ (sepT n.1 j ++ (if b01 (brB n.1 (c.1 0) j) = 0 then [] else [40]))) k := by
  have ar8 := hd.2.2.2.2
  have hj8 : j < 128 := by
    unfold arN at hj
    omega
  have hk : n.1 1 = Int32.ofNat (arN n.1) := ofNat_of ar8.1
  have hk9 : arN n.1 ≤ 128 := by
    unfold arN
    omega
  have hp8 : p < 128 := by
    have := fe_i hp
    have := h.2.2.1.2.1
    omega
  have f28 : ∀ s, FE s b ns L → Cf s ((i, j, br) :: S) p 0 → ∃ s1, dm155_28 (Int32.ofNat j) (n.1 0) s = some s1 ∧ ch wrC s s1 ∧ Cf s1 ((p, 0, b01 (brB n.1 (c.1 0) j)) :: (i, j + 1, br) :: S) (p + 1) 1 ∧ ∀ l k, WC s l k → l.length + 1 < 900000 → WC s1 (l ++ (if b01 (brB n.1 (c.1 0) j) = 0 then [] else [40])) k := by
    intro s h hC
    unfold dm155_28
    rw [x158 h hp hC.2.1 hd hc (by omega)]
    simp only [bu_some]
    obtain ⟨s1, e1, e2, e3, e4⟩ := x140 hC hp8 (b01_01 (brB n.1 (c.1 0) j)) (fun q S0 e => by
      cases e
      show j < 1000
      omega)
    rw [e1]
    exact ⟨s1, rfl, e3, e2, e4⟩
  have f27 : ∀ (a : Nat) (u : List Int32), a + 1 < 78 → ST s a u → u.length ≤ 100 → (∀ x ∈ u, 0 ≤ x.toInt ∧ x.toInt ≤ 127) → ∃ s1, dm155_27 (Int32.ofNat j) (n.1 0) a s = some s1 ∧ ch wrC s s1 ∧ Cf s1 ((p, 0, b01 (brB n.1 (c.1 0) j)) :: (i, j + 1, br) :: S) (p + 1) 1 ∧ ∀ l k, WC s l k → l.length + u.length + 1 < 900000 → WC s1 (l ++ (u ++ (if b01 (brB n.1 (c.1 0) j) = 0 then [] else [40]))) k := by
    intro a u ha hs hl hu
    unfold dm155_27
    obtain ⟨s0, d1, d2, d3⟩ := x147 ha hs hl hu
    rw [d1]
    simp only [bu_some]
    obtain ⟨s1, e1, e3, e2, e4⟩ := f28 s0 (h.d d2) (hC.d d2)
    exact ⟨s1, e1, (dc d2).trans e3, e2, fun l k hw hn => by
      rw [← List.append_assoc]
      exact e4 _ k (d3 l k hw (by omega)) (by rw [List.length_append]; omega)⟩
  unfold dm155
  rw [h.1.1, vN_ref, if_pos h.1.2.1, show dm57 b (Int32.ofNat i) 0 s = some (n.1 0) from f57 (w := 0) h hn (by omega)]
  simp only [bu_some, vN_ref]
  rw [if_pos h.1.2.1, show dm57 b (Int32.ofNat i) 1 s = some (n.1 1) from f57 (w := 1) h hn (by omega)]
  simp only [bu_some]
  rw [hk, if_pos ((nlt_iff (by omega) (by omega)).mpr hj)]
  unfold sepT
  by_cases j0 : j = 0
  · rw [if_pos (show Int32.ofNat j ≤ 0 by rw [j0]; decide), if_pos j0]
    obtain ⟨s1, e1, e3, e2, e4⟩ := f28 s h hC
    exact ⟨s1, e1, e3, e2, fun l k hw hn => e4 l k hw (by omega)⟩
  · rw [if_neg (show ¬ Int32.ofNat j ≤ 0 from fun z => j0 (by have := (nle_iff (b := 0) (by omega) (by omega)).mp z; omega)), if_neg j0]
    by_cases c7 : n.1 0 = 7
    · rw [if_pos c7, if_pos c7]
      exact f27 45 [44] (by decide) h.2.2.2.2.1.2.2 (by decide) (by decide)
    · rw [if_neg c7, if_neg c7]
      obtain ⟨k, k1, k2, k3⟩ := kd_n hd
      have k11 : 11 ≤ k := by
        have h9 : ¬ (n.1 0 = 9 ∨ n.1 0 = 10) := fun z => by
          have e := hd.2.1 z
          unfold arN at hj
          rw [e] at hj
          have t1 : (1 : Int32).toInt = 1 := rfl
          omega
        have h0 : n.1 0 = 7 ∨ n.1 0 = 9 ∨ n.1 0 = 10 ∨ 11 ≤ (n.1 0).toInt := Classical.byContradiction fun z => by
          have e := hd.2.2.2.1 z
          unfold arN at hj
          rw [e] at hj
          have t0 : (0 : Int32).toInt = 0 := rfl
          omega
        rcases h0 with z | z | z | z
        · exact absurd z c7
        · exact absurd (Or.inl z) h9
        · exact absurd (Or.inr z) h9
        · omega
      have hs := h.2.2.2.2.2 k k11 (by omega)
      have ho := opT_p k (List.mem_range.mpr k1)
      rw [k3, show dm157 (n.1 0) = some (.ref (25 + 2 * k)) by rw [k2]; exact k157 k11 k1]
      simp only [bu_some]
      show ∃ s1, (if aK s (25 + 2 * k) 70 then dm155_27 (Int32.ofNat j) (n.1 0) (25 + 2 * k) s else none) = some s1 ∧ _
      rw [if_pos hs.2]
      exact f27 (25 + 2 * k) (opT k) (by omega) hs.1 (by have := ho.1; omega) ho.2
set_option maxRecDepth 100000 in
/-- the end of a node -/
theorem x155c (h : FE s b ns L) (hn : L[i]? = some n) (hd : arOk n.1) (hC : Cf s ((i, j, br) :: S) p 0) (hb : br = 0 ∨ br = 1) (hj : arN n.1 ≤ j) (hj8 : j < 1000) : ∃ s1, dm155 (Int32.ofNat i) (Int32.ofNat j) s = some s1 ∧ ch wrC s s1 ∧ Cf s1 S p 0 ∧ ∀ l k, WC s l k → l.length + (clT n.1).length + 1 < 900000 → WC s1 (l ++ (clT n.1 ++ (if br = 0 then [] else [41]))) k := by
  have hk : n.1 1 = Int32.ofNat (arN n.1) := ofNat_of hd.2.2.2.2.1
  have one : ∀ x : Int32, ∃ s1, (bu (dm141 x s) fun s4 => dm156_13 s4) = some s1 ∧ ch wrC s s1 ∧ Cf s1 S p 0 ∧ ∀ l k, WC s l k → l.length + 1 + 1 < 900000 → WC s1 (l ++ ([x] ++ (if br = 0 then [] else [41]))) k := by
    intro x
    obtain ⟨s0, d1, d2, d3⟩ := x141 x s
    rw [d1]
    simp only [bu_some]
    obtain ⟨s1, e1, e2, e3, e4⟩ := x156a (hC.d d2) hb
    exact ⟨s1, e1, (dc d2).trans e3, e2, fun l k hw hn => by
      rw [← List.append_assoc]
      exact e4 _ k (d3 l k hw (by show l.length + 1 < 900000; omega)) (by rw [List.length_append]; show l.length + 1 + 1 < 900000; omega)⟩
  have f156 : ∃ s1, dm156 (n.1 0) s = some s1 ∧ ch wrC s s1 ∧ Cf s1 S p 0 ∧ ∀ l k, WC s l k → l.length + (clT n.1).length + 1 < 900000 → WC s1 (l ++ (clT n.1 ++ (if br = 0 then [] else [41]))) k := by
    unfold dm156 clT
    by_cases c9 : n.1 0 = 9
    · rw [if_pos c9, if_pos c9]
      exact one 37
    · rw [if_neg c9, if_neg c9]
      by_cases c7 : n.1 0 = 7
      · rw [if_pos c7, if_pos c7]
        exact one 41
      · rw [if_neg c7, if_neg c7]
        obtain ⟨s1, e1, e2, e3, e4⟩ := x156a hC hb
        exact ⟨s1, e1, e3, e2, fun l k hw hn => e4 l k hw (by omega)⟩
  unfold dm155
  rw [h.1.1, vN_ref, if_pos h.1.2.1, show dm57 b (Int32.ofNat i) 0 s = some (n.1 0) from f57 (w := 0) h hn (by omega)]
  simp only [bu_some, vN_ref]
  rw [if_pos h.1.2.1, show dm57 b (Int32.ofNat i) 1 s = some (n.1 1) from f57 (w := 1) h hn (by omega)]
  simp only [bu_some]
  rw [hk, if_neg (fun z => by have := (nlt_iff (by omega) (by omega)).mp z; omega)]
  obtain ⟨s1, e1, e2⟩ := f156
  rw [e1]
  exact ⟨s1, rfl, e2⟩
end CW
end
section
/-! the writer of FormulaTrees: its rounds -/
/-- from round r on: either it stops, and has told the letter that is wanted, or c rounds later it stands with w written -/
def Rn9 (N r : Nat) (s : aS) (l w : List Int32) (k : Int32) (c : Nat) (P : aS → Prop) : Prop := (∃ v s', dm139_23 N (Int32.ofNat r) s = some (v, s') ∧ ch wrC s s' ∧ ∀ z, v = ((l ++ w) ++ z).getD k.toInt.toNat (-1)) ∨ (∃ s', dm139_23 N (Int32.ofNat r) s = dm139_23 (N - c) (Int32.ofNat (r + c)) s' ∧ ch wrC s s' ∧ WC s' (l ++ w) k ∧ P s')
section CW
variable {s s1 : aS} {b : Nat} {ns : List (List Int32)} {L Z : List (Nd × List Int32)} {n c : Nd × List Int32} {i j p N r : Nat} {S : List (Nat × Nat × Int32)} {br g k : Int32} {q : Nat × Nat × Int32} {l w w1 w2 : List Int32} {P P1 P2 : aS → Prop} {c1 c2 : Nat}
set_option maxRecDepth 100000 in
theorem Rn9.nil (h : WC s l k) (hp : P s) : Rn9 N r s l [] k 0 P := Or.inr ⟨s, rfl, ch.refl _ s, by rw [List.append_nil]; exact h, hp⟩
set_option maxRecDepth 100000 in
theorem Rn9.bnd (h : Rn9 N r s l w1 k c1 P1) (g : ∀ s1, ch wrC s s1 → WC s1 (l ++ w1) k → P1 s1 → Rn9 (N - c1) (r + c1) s1 (l ++ w1) w2 k c2 P2) : Rn9 N r s l (w1 ++ w2) k (c1 + c2) P2 := by
  rcases h with ⟨v, s1, e1, e2, e3⟩ | ⟨s1, e1, e2, e3, e4⟩
  · refine Or.inl ⟨v, s1, e1, e2, fun z => ?_⟩
    rw [e3 (w2 ++ z)]
    simp only [List.append_assoc]
  · rcases g s1 e2 e3 e4 with ⟨v, s2, k1, k2, k3⟩ | ⟨s2, k1, k2, k3, k4⟩
    · refine Or.inl ⟨v, s2, e1.trans k1, e2.trans k2, fun z => ?_⟩
      rw [k3 z]
      simp only [List.append_assoc]
    · refine Or.inr ⟨s2, ?_, e2.trans k2, ?_, k4⟩
      · rw [e1, k1, Nat.sub_sub, Nat.add_assoc]
      · rw [← List.append_assoc]
        exact k3
set_option maxRecDepth 100000 in
theorem Rn9.equ (h : Rn9 N r s l w k c1 P) (e : w = w1) (e2 : c1 = c2) : Rn9 N r s l w1 k c2 P := by
  subst e
  subst e2
  exact h
set_option maxRecDepth 100000 in
theorem rn_g (hC : Cf s (q :: S) p g) (hW : WC s l k) (hk : 0 ≤ k.toInt) (hr : r < 384) : (k.toInt.toNat < l.length → dm139_23 (N + 1) (Int32.ofNat r) s = some (sI s 117 10, s)) ∧ (¬ k.toInt.toNat < l.length → g = 0 → ∀ s1, dm155 (Int32.ofNat q.1) (Int32.ofNat q.2.1) s = some s1 → dm139_23 (N + 1) (Int32.ofNat r) s = dm139_23 N (Int32.ofNat (r + 1)) s1) ∧ (¬ k.toInt.toNat < l.length → ¬ g = 0 → ∀ s1, dm142 (Int32.ofNat q.1) (wI s 117 7 0) = some s1 → dm139_23 (N + 1) (Int32.ofNat r) s = dm139_23 N (Int32.ofNat (r + 1)) s1) := by
  obtain ⟨⟨a1, a2, a3⟩, a4, a5, a6⟩ := hC
  rw [List.length_cons] at a1 a2
  have hr2 := iRange k
  have e1 : Int32.ofNat (S.length + 1) - 1 = Int32.ofNat S.length := by
    rw [ofNat_sub1 (by omega) (by omega)]
    rfl
  have hb : aB (Int32.ofNat S.length) 128 := aB_of (by omega) (by omega)
  have hj : jN (Int32.ofNat S.length) = S.length := jN_of (by omega)
  have h384 : ¬ 384 ≤ Int32.ofNat r := fun z => by
    have := (nle_iff (a := 384) (by omega) (by omega)).mp z
    omega
  have h0 : ¬ Int32.ofNat (S.length + 1) ≤ 0 := fun z => by
    have := (nle_iff (b := 0) (by omega) (by omega)).mp z
    omega
  have hc : sI s 117 9 < sI s 117 8 ↔ k.toInt.toNat < l.length := by
    have hl := hW.1
    rw [hW.2.1, hW.2.2.1, iLt, iOfNat (by omega)]
    omega
  refine ⟨fun c => ?_, fun c g0 s1 d1 => ?_, fun c g0 s1 d1 => ?_⟩
  · rw [dm139_23, if_neg h384, a1, if_neg h0, if_pos (hc.mpr c)]
  · rw [dm139_23, if_neg h384, a1, if_neg h0, if_neg (fun z => c (hc.mp z)), if_pos (a5.trans g0), e1, if_pos hb, if_pos hb, hj, a6.1, a6.2.1, d1]
    simp only [bu_some]
    unfold dm139_66
    rw [ofNat_succ (by omega)]
  · have cc : ch (fun a k => a = 117 ∧ k = 7) s (wI s 117 7 0) := (ch.refl _ s).wI ⟨rfl, rfl⟩
    rw [dm139_23, if_neg h384, a1, if_neg h0, if_neg (fun z => c (hc.mp z)), if_neg (fun z => g0 (a5.symm.trans z)), nx_eq, show sI (wI s 117 7 0) 117 4 = Int32.ofNat (S.length + 1) from (cc.i (by omega)).trans a1, e1, if_pos hb, hj, show sI (wI s 117 7 0) 118 S.length = Int32.ofNat q.1 from (cc.i (by omega)).trans a6.1, d1]
    simp only [bu_some]
    unfold dm139_66
    rw [ofNat_succ (by omega)]
set_option maxRecDepth 100000 in
/-- one round -/
theorem rn_r (hC : Cf s (q :: S) p g) (hW : WC s l k) (hk : 0 ≤ k.toInt) (hr : r < 384) (hN : 0 < N) (h0 : g = 0 → ∃ s1, dm155 (Int32.ofNat q.1) (Int32.ofNat q.2.1) s = some s1 ∧ ch wrC s s1 ∧ WC s1 (l ++ w) k ∧ P s1) (h1 : ¬ g = 0 → ∃ s1, dm142 (Int32.ofNat q.1) (wI s 117 7 0) = some s1 ∧ ch wrC s s1 ∧ WC s1 (l ++ w) k ∧ P s1) : Rn9 N r s l w k 1 P := by
  obtain ⟨N, rfl⟩ : ∃ q, N = q + 1 := ⟨N - 1, by omega⟩
  obtain ⟨g1, g2, g3⟩ := rn_g (N := N) hC hW hk hr
  by_cases c : k.toInt.toNat < l.length
  · refine Or.inl ⟨_, s, g1 c, ch.refl _ s, fun z => ?_⟩
    rw [hW.2.2.2, if_pos hk, getD_in c, List.append_assoc, getD_in (by rw [List.length_append]; omega), List.getElem_append_left c]
  · by_cases g0 : g = 0
    · obtain ⟨s1, d1, d2, d3, d4⟩ := h0 g0
      exact Or.inr ⟨s1, g2 c g0 s1 d1, d2, d3, d4⟩
    · obtain ⟨s1, d1, d2, d3, d4⟩ := h1 g0
      exact Or.inr ⟨s1, g3 c g0 s1 d1, d2, d3, d4⟩
set_option maxRecDepth 100000 in
/-- a node is opened -/
theorem rn_o (h : FE s b ns Z) (hn : Z[i]? = some n) (h2 : -1 ≤ (n.1 2).toInt ∧ (n.1 2).toInt < ns.length) (hC : Cf s ((i, j, br) :: S) p 1) (hW : WC s l k) (hk : 0 ≤ k.toInt) (hr : r < 384) (hN : 0 < N) (hl : l.length + (leT ns n.1 n.2).length < 900000) : Rn9 N r s l (leT ns n.1 n.2) k 1 (fun s' => Cf s' ((i, j, br) :: S) p 0) := by
  refine rn_r hC hW hk hr hN (fun z => absurd z (by decide)) (fun _ => ?_)
  have cc : ch (fun a k => a = 117 ∧ k = 7) s (wI s 117 7 0) := (ch.refl _ s).wI ⟨rfl, rfl⟩
  have c9 : ch wrC s (wI s 117 7 0) := cc.mono fun a k z => by unfold wrC; omega
  obtain ⟨s1, d1, d2, d3⟩ := x142 (h.of c9) hn h2
  have hC0 : Cf (wI s 117 7 0) ((i, j, br) :: S) p 0 := ⟨⟨(cc.i (by omega)).trans hC.1.1, hC.1.2⟩, (cc.i (by omega)).trans hC.2.1, by rw [sI_wI, if_pos ⟨rfl, rfl⟩], Fr9.of (s := s) _ (fun k _ => ⟨cc.i (by omega), cc.i (by omega), cc.i (by omega)⟩) hC.2.2.2⟩
  exact ⟨s1, d1, c9.trans (dc d2), d3 l k (hW.of cc (fun a j z => by omega)) hl, hC0.d d2⟩
set_option maxRecDepth 100000 in
/-- a child more -/
theorem rn_p (h : FE s b ns Z) (hn : Z[i]? = some n) (hp : Z[p]? = some c) (hd : arOk n.1) (hc : arOk c.1) (hC : Cf s ((i, j, br) :: S) p 0) (hj : j < arN n.1) (hW : WC s l k) (hk : 0 ≤ k.toInt) (hr : r < 384) (hN : 0 < N) (hl : l.length + (sepT n.1 j).length + 1 < 900000) : Rn9 N r s l (sepT n.1 j ++ (if b01 (brB n.1 (c.1 0) j) = 0 then [] else [40])) k 1 (fun s' => Cf s' ((p, 0, b01 (brB n.1 (c.1 0) j)) :: (i, j + 1, br) :: S) (p + 1) 1) := by
  refine rn_r hC hW hk hr hN (fun _ => ?_) (fun z => absurd rfl z)
  obtain ⟨s1, d1, d2, d3, d4⟩ := x155p h hn hp hd hc hC hj
  exact ⟨s1, d1, d2, d4 l k hW hl, d3⟩
set_option maxRecDepth 100000 in
/-- the end of a node -/
theorem rn_c (h : FE s b ns Z) (hn : Z[i]? = some n) (hd : arOk n.1) (hC : Cf s ((i, j, br) :: S) p 0) (hb : br = 0 ∨ br = 1) (hj : arN n.1 ≤ j) (hj8 : j < 1000) (hW : WC s l k) (hk : 0 ≤ k.toInt) (hr : r < 384) (hN : 0 < N) (hl : l.length + (clT n.1).length + 1 < 900000) : Rn9 N r s l (clT n.1 ++ (if br = 0 then [] else [41])) k 1 (fun s' => Cf s' S p 0) := by
  refine rn_r hC hW hk hr hN (fun _ => ?_) (fun z => absurd rfl z)
  obtain ⟨s1, d1, d2, d3, d4⟩ := x155c h hn hd hC hb hj hj8
  exact ⟨s1, d1, d2, d4 l k hW hl, d3⟩
end CW
set_option maxRecDepth 100000 in
theorem brT_len (p : Prop) (w : List Int32) : (brT p w).length = w.length + (if b01 p = 0 then 0 else 2) := by
  unfold brT
  by_cases c : b01 p = 0
  · rw [if_pos c, if_pos c]
    rfl
  · rw [if_neg c, if_neg c]
    simp only [List.length_append, List.length_cons, List.length_nil]
    omega
set_option maxRecDepth 100000 in
theorem brT_c {p q : Prop} (h : p ↔ q) (w : List Int32) : brT p w = brT q w := by rw [propext h]
set_option maxRecDepth 100000 in
theorem brT_s (p : Prop) (u w : List Int32) : u ++ brT p w = (u ++ (if b01 p = 0 then [] else [40])) ++ (w ++ (if b01 p = 0 then [] else [41])) := by
  unfold brT
  by_cases c : b01 p = 0
  · rw [if_pos c, if_pos c, if_pos c, List.append_nil, List.append_nil]
  · rw [if_neg c, if_neg c, if_neg c]
    simp only [List.append_assoc]
set_option maxRecDepth 100000 in
theorem rk_r (x : Int32) : 1 ≤ (rkM x).toInt ∧ (rkM x).toInt ≤ 8 := by
  unfold rkM
  repeat' split
  all_goals decide
set_option maxRecDepth 100000 in
theorem rk_s (x y : Int32) : (rkM x < rkM y + 1) ↔ (rkM x < rkM y ∨ rkM x = rkM y) := by
  have h1 := rk_r x
  have h2 := rk_r y
  have t1 : (1 : Int32).toInt = 1 := rfl
  rw [iLt, iLt, iEq, iAdd (by omega) (by omega)]
  omega
end
section
/-! the writer of FormulaTrees: a subtree -/
set_option maxRecDepth 100000 in
theorem x139m {b : Nat} {ns : List (List Int32)} {Z : List (Nd × List Int32)} {k : Int32} (hZ : ∀ n ∈ Z, arOk n.1 ∧ -1 ≤ (n.1 2).toInt ∧ (n.1 2).toInt < ns.length) (k0 : 0 ≤ k.toInt) : ∀ (m : Nat) (T A B : List (Nd × List Int32)) (s : aS) (N r : Nat) (l : List Int32) (S : List (Nat × Nat × Int32)) (br : Int32), FE s b ns Z → fz T 1 → T.length ≤ m → Z = A ++ (T ++ B) → Cf s ((A.length, 0, br) :: S) (A.length + 1) 1 → (br = 0 ∨ br = 1) → WC s l k → r + 3 * T.length ≤ 385 → 4000 ≤ r + N → l.length + (txF ns m (T ++ B)).1.length + 1 < 900000 → Rn9 N r s l ((txF ns m (T ++ B)).1 ++ (if br = 0 then [] else [41])) k (3 * T.length - 1) (fun s' => Cf s' S (A.length + T.length) 0) := by
  intro m
  induction m with
  | zero =>
    intro T A B s N r l S br h hT hn hM hC hbr hW hr hN hl
    cases T with
    | nil => exact absurd hT (by show ¬ (1 : Nat) = 0; decide)
    | cons d T => simp only [List.length_cons] at hn; omega
  | succ m ih =>
    intro T A B s N r l S br h hT hn hM hC hbr hW hr hN hl
    cases T with
    | nil => exact absurd hT (by show ¬ (1 : Nat) = 0; decide)
    | cons n R =>
      have hR : fz R (arN n.1) := by
        have := hT.2
        rw [show 1 - 1 + arN n.1 = arN n.1 by omega] at this
        exact this
      simp only [List.length_cons] at hn hr ⊢
      have hM1 : Z = A ++ (n :: (R ++ B)) := hM
      have hlen : Z.length = A.length + (R.length + 1) + B.length := by
        rw [hM1]
        simp only [List.length_append, List.length_cons]
        omega
      have h128 := h.2.2.1.2.1
      have hdM : n ∈ Z := by
        rw [hM1]
        exact List.mem_append_right _ List.mem_cons_self
      obtain ⟨har, hs1, hs2⟩ := hZ n hdM
      have hRZ : ∀ x ∈ R, x ∈ Z := fun x hx => by
        rw [hM1]
        exact List.mem_append_right _ (List.mem_cons_of_mem _ (List.mem_append_left _ hx))
      have rst : ∀ (T2 B2 : List (Nd × List Int32)), (∀ x ∈ T2, x ∈ R) → fz T2 1 → T2.length ≤ m → (txF ns m (T2 ++ B2)).2 = B2 := fun T2 B2 hx h2 h3 => txF_r m T2 B2 (fun x hx2 => (hZ x (hRZ x (hx x hx2))).1) h2 h3
      have hat : Z[A.length]? = some n := by rw [hM1]; exact z_mid
      have hA1 : (A ++ [n]).length = A.length + 1 := by rw [List.length_append]; rfl
      have hM2 : Z = (A ++ [n]) ++ (R ++ B) := by rw [hM1, List.append_assoc]; rfl
      have ar8 := har.2.2.2.2
      have hk9 : arN n.1 ≤ 128 := by
        unfold arN
        omega
      have pos : ∀ {T1 : List (Nd × List Int32)}, fz T1 1 → 1 ≤ T1.length := fun {T1} t1 => by
        cases T1 with
        | nil => exact absurd t1 (by show ¬ (1 : Nat) = 0; decide)
        | cons a b => simp only [List.length_cons]; omega
      -- it is opened
      have op : l.length + (leT ns n.1 n.2).length < 900000 → Rn9 N r s l (leT ns n.1 n.2) k 1 (fun s' => Cf s' ((A.length, 0, br) :: S) (A.length + 1) 0) := fun hq => rn_o h hat ⟨hs1, hs2⟩ hC hW k0 (by omega) (by omega) hq
      -- a child
      have chd : ∀ (j : Nat) (T1 A2 B2 : List (Nd × List Int32)) (s1 : aS) (N1 r1 : Nat) (l1 : List Int32), ch wrC s s1 → j < arN n.1 → fz T1 1 → T1.length ≤ m → Z = A2 ++ (T1 ++ B2) → Cf s1 ((A.length, j, br) :: S) A2.length 0 → WC s1 l1 k → r1 + 3 * T1.length ≤ 384 → 4000 ≤ r1 + N1 → l1.length + (sepT n.1 j ++ brT (brB n.1 (hk (T1 ++ B2)) j) (txF ns m (T1 ++ B2)).1).length + 1 < 900000 → Rn9 N1 r1 s1 l1 (sepT n.1 j ++ brT (brB n.1 (hk (T1 ++ B2)) j) (txF ns m (T1 ++ B2)).1) k (3 * T1.length) (fun s' => Cf s' ((A.length, j + 1, br) :: S) (A2.length + T1.length) 0) := by
        intro j T1 A2 B2 s1 N1 r1 l1 c1 hj t1 hm e2 hC1 hW1 hr1 hN1 hl1
        obtain ⟨c, T0, e3, e4⟩ := z_hk (B := B2) t1
        have hT1 := pos t1
        have hcat : Z[A2.length]? = some c := by rw [e2, e3]; exact z_mid
        have hcar := (hZ c (List.mem_of_getElem? hcat)).1
        have X01 := b01_01 (brB n.1 (c.1 0) j)
        rw [e4] at hl1 ⊢
        rw [List.length_append, brT_len] at hl1
        rw [brT_s]
        have hl2 : l1.length + (sepT n.1 j ++ (if b01 (brB n.1 (c.1 0) j) = 0 then [] else [40])).length + (txF ns m (T1 ++ B2)).1.length + 1 < 900000 := by
          rw [List.length_append]
          rcases X01 with z | z
          · rw [if_pos z] at hl1 ⊢
            simp only [List.length_nil]
            omega
          · rw [if_neg (by rw [z]; decide)] at hl1 ⊢
            simp only [List.length_cons, List.length_nil]
            omega
        refine Rn9.equ (Rn9.bnd (c2 := 3 * T1.length - 1) (rn_p (h.of c1) hat hcat har hcar hC1 hj hW1 k0 (by omega) (by omega) (by omega)) fun s2 c2 w2 p2 => ?_) rfl (by omega)
        exact ih T1 A2 B2 s2 (N1 - 1) (r1 + 1) _ ((A.length, j + 1, br) :: S) _ (h.of (c1.trans c2)) t1 hm e2 p2 X01 w2 (by omega) (by omega) (by rw [List.length_append]; omega)
      -- its end
      have cl : ∀ (j p : Nat) (s1 : aS) (N1 r1 : Nat) (l1 : List Int32), ch wrC s s1 → arN n.1 ≤ j → j < 1000 → Cf s1 ((A.length, j, br) :: S) p 0 → WC s1 l1 k → r1 < 384 → 4000 ≤ r1 + N1 → l1.length + (clT n.1).length + 1 < 900000 → Rn9 N1 r1 s1 l1 (clT n.1 ++ (if br = 0 then [] else [41])) k 1 (fun s' => Cf s' S p 0) := fun j p s1 N1 r1 l1 c1 hj hj8 hC1 hW1 hr1 hN1 hl1 => rn_c (h.of c1) hat har hC1 hbr hj hj8 hW1 k0 hr1 (by omega) hl1
      have eB : A.length + (R.length + 1) = (A ++ [n]).length + R.length := by rw [hA1]; omega
      rw [eB]
      rw [← hA1] at op
      have hl0 : l.length + (txF ns (m + 1) (n :: (R ++ B))).1.length + 1 < 900000 := hl
      show Rn9 N r s l ((txF ns (m + 1) (n :: (R ++ B))).1 ++ (if br = 0 then [] else [41])) k _ _
      unfold txF at hl0 ⊢
      by_cases c7 : n.1 0 = 7
      · rw [if_pos c7] at hl0 ⊢
        have eC : clT n.1 = [41] := by
          unfold clT
          rw [if_neg (by rw [c7]; decide), if_pos c7]
        replace hl0 : l.length + (leT ns n.1 n.2 ++ ((tAr (txF ns m) (arN n.1) 0 (R ++ B)).1 ++ [41])).length + 1 < 900000 := hl0
        show Rn9 N r s l ((leT ns n.1 n.2 ++ ((tAr (txF ns m) (arN n.1) 0 (R ++ B)).1 ++ [41])) ++ (if br = 0 then [] else [41])) k _ _
        have loop : ∀ (q j : Nat) (A2 R2 : List (Nd × List Int32)) (s1 : aS) (N1 r1 : Nat) (l1 : List Int32), ch wrC s s1 → (∀ x ∈ R2, x ∈ R) → fz R2 q → j + q = arN n.1 → R2.length ≤ m → Z = A2 ++ (R2 ++ B) → Cf s1 ((A.length, j, br) :: S) A2.length 0 → WC s1 l1 k → r1 + 3 * R2.length ≤ 384 → 4000 ≤ r1 + N1 → l1.length + (tAr (txF ns m) q j (R2 ++ B)).1.length + 1 < 900000 → Rn9 N1 r1 s1 l1 (tAr (txF ns m) q j (R2 ++ B)).1 k (3 * R2.length) (fun s' => Cf s' ((A.length, arN n.1, br) :: S) (A2.length + R2.length) 0) := by
          intro q
          induction q with
          | zero =>
            intro j A2 R2 s1 N1 r1 l1 c1 hx hR2 hq hm e2 hC1 hW1 hr1 hN1 hl1
            have e0 := fz_0 hR2
            subst e0
            have ej : j = arN n.1 := by omega
            subst ej
            exact Rn9.nil hW1 hC1
          | succ q ihq =>
            intro j A2 R2 s1 N1 r1 l1 c1 hx hR2 hq hm e2 hC1 hW1 hr1 hN1 hl1
            obtain ⟨T1, R3, e1, t1, t2⟩ := fz_sp R2 1 q (by rw [Nat.add_comm]; exact hR2)
            subst e1
            rw [List.length_append] at hm hr1
            have hr := rst T1 (R3 ++ B) (fun x q => hx x (List.mem_append_left _ q)) t1 (by omega)
            have eS : sepT n.1 j = if j = 0 then [] else [44] := by
              unfold sepT
              rw [if_pos c7]
            have eT : (tAr (txF ns m) (q + 1) j ((T1 ++ R3) ++ B)).1 = (sepT n.1 j ++ brT (brB n.1 (hk (T1 ++ (R3 ++ B))) j) (txF ns m (T1 ++ (R3 ++ B))).1) ++ (tAr (txF ns m) q (j + 1) (R3 ++ B)).1 := by
              have : brT (brB n.1 (hk (T1 ++ (R3 ++ B))) j) (txF ns m (T1 ++ (R3 ++ B))).1 = (txF ns m (T1 ++ (R3 ++ B))).1 := by
                unfold brT
                rw [if_pos (b01_f fun z => z.1 c7)]
              rw [this, eS]
              show (if j = 0 then [] else [44]) ++ ((txF ns m ((T1 ++ R3) ++ B)).1 ++ (tAr (txF ns m) q (j + 1) (txF ns m ((T1 ++ R3) ++ B)).2).1) = _
              rw [List.append_assoc T1, hr, List.append_assoc]
            rw [eT] at hl1 ⊢
            rw [List.length_append] at hl1
            have e3 : A2.length + (T1 ++ R3).length = (A2 ++ T1).length + R3.length := by
              simp only [List.length_append]
              omega
            rw [e3]
            refine Rn9.equ (Rn9.bnd (c2 := 3 * R3.length) (chd j T1 A2 (R3 ++ B) s1 N1 r1 l1 c1 (by omega) t1 (by omega) (by rw [e2, List.append_assoc]) hC1 hW1 (by omega) hN1 (by omega)) fun s2 c2 w2 p2 => ?_) rfl (by rw [List.length_append]; omega)
            rw [← List.length_append] at p2
            exact ihq (j + 1) (A2 ++ T1) R3 s2 (N1 - 3 * T1.length) (r1 + 3 * T1.length) _ (c1.trans c2) (fun x q => hx x (List.mem_append_right _ q)) t2 (by omega) (by omega) (by rw [e2, List.append_assoc, List.append_assoc]) p2 w2 (by omega) (by omega) (by rw [List.length_append]; omega)
        simp only [List.length_append, List.length_cons, List.length_nil] at hl0
        refine Rn9.equ (Rn9.bnd (c2 := 3 * R.length + 1) (w2 := (tAr (txF ns m) (arN n.1) 0 (R ++ B)).1 ++ (clT n.1 ++ (if br = 0 then [] else [41]))) (op (by omega)) fun s1 c1 w1 p1 => ?_) (by rw [eC]; simp only [List.append_assoc]) (by omega)
        refine Rn9.bnd (loop (arN n.1) 0 (A ++ [n]) R s1 (N - 1) (r + 1) _ c1 (fun x q => q) hR (by omega) (by omega) hM2 p1 w1 (by omega) (by omega) (by rw [List.length_append]; omega)) fun s2 c2 w2 p2 => ?_
        exact cl (arN n.1) _ s2 _ _ _ (c1.trans c2) (Nat.le_refl _) (by omega) p2 w2 (by omega) (by omega) (by rw [eC]; simp only [List.length_append, List.length_cons, List.length_nil]; omega)
      · rw [if_neg c7] at hl0 ⊢
        -- nodes with one child
        have one : ∀ (f : List Int32) (x3 : Int32), arN n.1 = 1 → rkM (n.1 0) = x3 → clT n.1 = f → l.length + (leT ns n.1 n.2 ++ (brT (rkM (hk (R ++ B)) < x3) (txF ns m (R ++ B)).1 ++ f)).length + 1 < 900000 → Rn9 N r s l ((leT ns n.1 n.2 ++ (brT (rkM (hk (R ++ B)) < x3) (txF ns m (R ++ B)).1 ++ f)) ++ (if br = 0 then [] else [41])) k (3 * (R.length + 1) - 1) (fun s' => Cf s' S ((A ++ [n]).length + R.length) 0) := by
          intro f x3 h1 ex ef hl1
          rw [h1] at hR
          have hRl := pos hR
          have eb : sepT n.1 0 ++ brT (brB n.1 (hk (R ++ B)) 0) (txF ns m (R ++ B)).1 = brT (rkM (hk (R ++ B)) < x3) (txF ns m (R ++ B)).1 := by
            show [] ++ _ = _
            rw [List.nil_append, ← ex]
            exact brT_c ⟨fun z => z.2.elim id (fun y => absurd rfl y.2), fun z => ⟨c7, Or.inl z⟩⟩ _
          rw [← eb] at hl1 ⊢
          rw [← ef] at hl1 ⊢
          rw [List.length_append, List.length_append (as := sepT n.1 0 ++ _)] at hl1
          refine Rn9.equ (Rn9.bnd (c2 := 3 * R.length + 1) (w2 := (sepT n.1 0 ++ brT (brB n.1 (hk (R ++ B)) 0) (txF ns m (R ++ B)).1) ++ (clT n.1 ++ (if br = 0 then [] else [41]))) (op (by omega)) fun s1 c1 w1 p1 => ?_) (by simp only [List.append_assoc]) (by omega)
          refine Rn9.bnd (chd 0 R (A ++ [n]) B s1 (N - 1) (r + 1) _ c1 (by omega) hR (by omega) hM2 p1 w1 (by omega) (by omega) (by rw [List.length_append (as := l)]; omega)) fun s2 c2 w2 p2 => ?_
          exact cl 1 _ s2 _ _ _ (c1.trans c2) (by omega) (by omega) p2 w2 (by omega) (by omega) (by rw [List.length_append (as := l ++ _), List.length_append (as := l)]; omega)
        by_cases c9 : n.1 0 = 9
        · rw [if_pos c9] at hl0 ⊢
          have h1 : arN n.1 = 1 := by unfold arN; rw [har.2.1 (Or.inl c9)]; rfl
          have eL : leT ns n.1 n.2 = [] := by
            unfold leT
            rw [c9]
            rfl
          have := one [37] 7 h1 (by rw [c9]; rfl) (by unfold clT; rw [if_pos c9]) (by rw [eL]; exact hl0)
          rw [eL] at this
          exact this
        · rw [if_neg c9] at hl0 ⊢
          by_cases c10 : n.1 0 = 10
          · rw [if_pos c10] at hl0 ⊢
            have h1 : arN n.1 = 1 := by unfold arN; rw [har.2.1 (Or.inr c10)]; rfl
            have eL : leT ns n.1 n.2 = [45] := by
              unfold leT
              rw [c10]
              rfl
            have := one [] 6 h1 (by rw [c10]; rfl) (by unfold clT; rw [if_neg c9, if_neg c7]) (by rw [eL, List.append_nil]; exact hl0)
            rw [eL, List.append_nil] at this
            exact this
          · rw [if_neg c10] at hl0 ⊢
            have eC : clT n.1 = [] := by
              unfold clT
              rw [if_neg c9, if_neg c7]
            have l11 : n.1 0 < 11 ↔ (n.1 0).toInt < 11 := iLt
            by_cases c11 : n.1 0 < 11
            · rw [if_pos c11] at hl0 ⊢
              have c11 := l11.mp c11
              have h1 : arN n.1 = 0 := by
                unfold arN
                rw [har.2.2.2.1 (by rintro (q | q | q | q); exact c7 q; exact c9 q; exact c10 q; omega)]
                rfl
              rw [h1] at hR
              have e0 := fz_0 hR
              subst e0
              replace hl0 : l.length + (leT ns n.1 n.2).length + 1 < 900000 := hl0
              show Rn9 N r s l (leT ns n.1 n.2 ++ (if br = 0 then [] else [41])) k _ _
              refine Rn9.equ (Rn9.bnd (c2 := 1) (w2 := clT n.1 ++ (if br = 0 then [] else [41])) (op (by omega)) fun s1 c1 w1 p1 => ?_) (by rw [eC]; rfl) (by rfl)
              exact cl 0 _ s1 _ _ _ c1 (by omega) (by omega) p1 w1 (by simp only [List.length_nil] at hr; omega) (by omega) (by rw [eC, List.length_append]; simp only [List.length_nil]; omega)
            · rw [if_neg c11] at hl0 ⊢
              have c11 : ¬ (n.1 0).toInt < 11 := fun q => c11 (l11.mpr q)
              have h2 : arN n.1 = 2 := by
                unfold arN
                rw [har.2.2.1 (by omega)]
                rfl
              rw [h2] at hR
              obtain ⟨T1, T2, e1, t1, t2⟩ := fz_sp R 1 1 hR
              subst e1
              rw [List.length_append] at hn hr
              have hT1 := pos t1
              have hT2 := pos t2
              have hr2 := rst T1 (T2 ++ B) (fun x q => List.mem_append_left _ q) t1 (by omega)
              have eL : leT ns n.1 n.2 = [] := by
                unfold leT
                have t : ∀ v : Int32, v.toInt < 11 → ¬ n.1 0 = v := fun v hv z => c11 (by rw [z]; exact hv)
                rw [if_neg (t 0 (by decide)), if_neg (t 1 (by decide)), if_neg (t 2 (by decide)), if_neg (t 3 (by decide)), if_neg (t 4 (by decide)), if_neg (t 5 (by decide)), if_neg (t 6 (by decide)), if_neg c7, if_neg c10]
              replace hl0 : l.length + (brT (rkM (hk ((T1 ++ T2) ++ B)) < rkM (n.1 0)) (txF ns m ((T1 ++ T2) ++ B)).1 ++ (opT (n.1 0).toInt.toNat ++ brT (rkM (hk (txF ns m ((T1 ++ T2) ++ B)).2) < rkM (n.1 0) + 1) (txF ns m (txF ns m ((T1 ++ T2) ++ B)).2).1)).length + 1 < 900000 := hl0
              show Rn9 N r s l ((brT (rkM (hk ((T1 ++ T2) ++ B)) < rkM (n.1 0)) (txF ns m ((T1 ++ T2) ++ B)).1 ++ (opT (n.1 0).toInt.toNat ++ brT (rkM (hk (txF ns m ((T1 ++ T2) ++ B)).2) < rkM (n.1 0) + 1) (txF ns m (txF ns m ((T1 ++ T2) ++ B)).2).1)) ++ (if br = 0 then [] else [41])) k _ _
              rw [List.append_assoc T1, hr2] at hl0 ⊢
              have b1 : brT (rkM (hk (T1 ++ (T2 ++ B))) < rkM (n.1 0)) (txF ns m (T1 ++ (T2 ++ B))).1 = sepT n.1 0 ++ brT (brB n.1 (hk (T1 ++ (T2 ++ B))) 0) (txF ns m (T1 ++ (T2 ++ B))).1 := by
                show _ = [] ++ _
                rw [List.nil_append]
                exact brT_c ⟨fun z => ⟨c7, Or.inl z⟩, fun z => z.2.elim id (fun y => absurd rfl y.2)⟩ _
              have b2 : opT (n.1 0).toInt.toNat ++ brT (rkM (hk (T2 ++ B)) < rkM (n.1 0) + 1) (txF ns m (T2 ++ B)).1 = sepT n.1 1 ++ brT (brB n.1 (hk (T2 ++ B)) 1) (txF ns m (T2 ++ B)).1 := by
                have : sepT n.1 1 = opT (n.1 0).toInt.toNat := by
                  unfold sepT
                  rw [if_neg (by decide), if_neg c7]
                rw [this]
                congr 1
                exact brT_c ((rk_s _ _).trans ⟨fun z => ⟨c7, z.elim Or.inl (fun y => Or.inr ⟨y, by decide⟩)⟩, fun z => z.2.elim Or.inl (fun y => Or.inr y.1)⟩) _
              rw [b1, b2] at hl0 ⊢
              rw [List.length_append] at hl0
              refine Rn9.equ (Rn9.bnd (c2 := 3 * T1.length + (3 * T2.length + 1)) (w2 := (sepT n.1 0 ++ brT (brB n.1 (hk (T1 ++ (T2 ++ B))) 0) (txF ns m (T1 ++ (T2 ++ B))).1) ++ ((sepT n.1 1 ++ brT (brB n.1 (hk (T2 ++ B)) 1) (txF ns m (T2 ++ B)).1) ++ (clT n.1 ++ (if br = 0 then [] else [41])))) (op (by rw [eL]; simp only [List.length_nil]; omega)) fun s1 c1 w1 p1 => ?_) (by rw [eL, eC]; simp only [List.append_assoc, List.nil_append]) (by rw [List.length_append]; omega)
              have hM3 : Z = (A ++ [n]) ++ (T1 ++ (T2 ++ B)) := by rw [hM2]; simp only [List.append_assoc]
              have hM4 : Z = ((A ++ [n]) ++ T1) ++ (T2 ++ B) := by rw [hM2]; simp only [List.append_assoc]
              rw [eL, List.append_nil] at w1 ⊢
              refine Rn9.bnd (chd 0 T1 (A ++ [n]) (T2 ++ B) s1 (N - 1) (r + 1) _ c1 (by omega) t1 (by omega) hM3 p1 w1 (by omega) (by omega) (by omega)) fun s2 c2 w2 p2 => ?_
              rw [← List.length_append] at p2
              have e5 : (A ++ [n]).length + (T1 ++ T2).length = ((A ++ [n]) ++ T1).length + T2.length := by
                rw [List.length_append (as := A ++ [n]), List.length_append (as := T1)]
                omega
              rw [e5]
              refine Rn9.bnd (chd 1 T2 ((A ++ [n]) ++ T1) B s2 _ _ _ (c1.trans c2) (by omega) t2 (by omega) hM4 p2 w2 (by omega) (by omega) (by rw [List.length_append (as := l)]; omega)) fun s3 c3 w3 p3 => ?_
              exact cl 2 _ s3 _ _ _ ((c1.trans c2).trans c3) (by omega) (by omega) p3 w3 (by omega) (by omega) (by rw [eC, List.length_append (as := l ++ _), List.length_append (as := l)]; simp only [List.length_nil]; omega)
end
section
/-! how long the text of a formula is -/
set_option maxRecDepth 100000 in
theorem dbq_len (q : Int32) : ∀ l : List Int32, (dbq q l).length ≤ 2 * l.length
  | [] => Nat.le_refl _
  | x :: r => by
    show (dq1 x q ++ dbq q r).length ≤ 2 * (r.length + 1)
    have := dbq_len q r
    have h1 : (dq1 x q).length ≤ 2 := by
      unfold dq1
      split
      · exact Nat.le_of_ble_eq_true rfl
      · exact Nat.le_of_ble_eq_true rfl
    rw [List.length_append]
    omega
set_option maxRecDepth 100000 in
theorem if_len (p : Prop) [Decidable p] (c : Int32) : (if p then [] else [c]).length ≤ 1 := by
  split
  · exact Nat.le_of_ble_eq_true rfl
  · exact Nat.le_of_ble_eq_true rfl
set_option maxRecDepth 100000 in
theorem coC_len (x : Int32) : (coC x).length ≤ 3 := by
  unfold coC
  have h1 := if_len ((x - 1) < 702) (65 + ((((x - 1) - 26) - 676) / 676))
  have h2 := if_len ((x - 1) < 26) (65 + ((((x - 1) - 26) / 26) - (((x - 1) - 26) / 26) / 26 * 26))
  rw [List.length_append, List.length_append]
  have h3 : [65 + ((x - 1) - (x - 1) / 26 * 26)].length = 1 := rfl
  omega
set_option maxRecDepth 100000 in
theorem deC_len (x : Int32) : ∀ m : Nat, (deC x m).length ≤ m
  | 0 => Nat.le_refl _
  | m + 1 => by
    show ((if x < Int32.ofNat (10 ^ m) then [] else [dgC x m]) ++ deC x m).length ≤ m + 1
    have h1 := if_len (x < Int32.ofNat (10 ^ m)) (dgC x m)
    have := deC_len x m
    rw [List.length_append]
    omega
set_option maxRecDepth 100000 in
theorem crC_len (w c f : Int32) : (crC w c f).length ≤ 12 := by
  unfold crC
  have h1 := if_len ((f &&& 2) = 0) 36
  have h2 := if_len ((f &&& 1) = 0) 36
  have h3 := coC_len c
  have h4 := deC_len w 7
  rw [List.length_append, List.length_append, List.length_append]
  omega
set_option maxRecDepth 100000 in
theorem rfT_len {ns : List (List Int32)} (hn : nsOk ns) (d : Nd) : (rfT ns d).length ≤ 100 := by
  have hp : (pfx ns (d 2)).length ≤ 65 := by
    unfold pfx
    by_cases c : d 2 = -1
    · rw [if_pos c]
      exact Nat.zero_le _
    · rw [if_neg c]
      have h31 : (ns.getD (d 2).toInt.toNat []).length ≤ 31 := by
        by_cases q : (d 2).toInt.toNat < ns.length
        · rw [List.getD, List.getElem?_eq_getElem q]
          exact (hn.2 _ (List.getElem_mem q)).2.1
        · rw [List.getD, List.getElem?_eq_none (by omega)]
          exact Nat.zero_le _
      unfold shT qtT
      have h1 := if_len (b01 (qtP (ns.getD (d 2).toInt.toNat [])) = 0) 39
      have h2 := dbq_len 39 (ns.getD (d 2).toInt.toNat [])
      rw [List.length_append, List.length_append, List.length_append]
      have h3 : ([33] : List Int32).length = 1 := rfl
      omega
  unfold rfT
  have h1 := crC_len (d 3) (d 4) (d 7)
  have h2 := crC_len (d 5) (d 6) (d 7 / 4)
  rw [List.length_append, List.length_append]
  by_cases c : d 0 = 5
  · rw [if_pos c, List.length_append]
    have h3 : ([58] : List Int32).length = 1 := rfl
    omega
  · rw [if_neg c]
    have h3 : ([] : List Int32).length = 0 := rfl
    omega
set_option maxRecDepth 100000 in
theorem leT_len {ns : List (List Int32)} (hn : nsOk ns) (d : Nd) {l : List Int32} (hl : l.length ≤ 256) : (leT ns d l).length ≤ 600 := by
  have hr := rfT_len hn d
  have l1 : ∀ x : Int32, [x].length = 1 := fun _ => rfl
  unfold leT
  by_cases c0 : d 0 = 0
  · rw [if_pos c0]
    omega
  rw [if_neg c0]
  by_cases c1 : d 0 = 1
  · rw [if_pos c1, List.length_append, List.length_append, l1]
    have := dbq_len 34 l
    omega
  rw [if_neg c1]
  by_cases c2 : d 0 = 2
  · rw [if_pos c2]
    obtain ⟨e, -, e1, -⟩ := er_w (d 8)
    rw [e1]
    have := erN_len e
    omega
  rw [if_neg c2]
  by_cases c3 : d 0 = 3
  · rw [if_pos c3]
    by_cases c8 : d 8 = 1
    · rw [if_pos c8]
      exact Nat.le_of_ble_eq_true rfl
    · rw [if_neg c8]
      exact Nat.le_of_ble_eq_true rfl
  rw [if_neg c3]
  by_cases c4 : d 0 = 4
  · rw [if_pos c4]
    omega
  rw [if_neg c4]
  by_cases c5 : d 0 = 5
  · rw [if_pos c5]
    omega
  rw [if_neg c5]
  by_cases c6 : d 0 = 6
  · rw [if_pos c6]
    omega
  rw [if_neg c6]
  by_cases c7 : d 0 = 7
  · rw [if_pos c7, List.length_append, l1]
    omega
  rw [if_neg c7]
  by_cases c10 : d 0 = 10
  · rw [if_pos c10]
    exact Nat.le_of_ble_eq_true rfl
  · rw [if_neg c10]
    exact Nat.le_of_ble_eq_true rfl
set_option maxRecDepth 100000 in
theorem brT_le (p : Prop) (w : List Int32) : (brT p w).length ≤ w.length + 2 := by
  rw [brT_len]
  split
  · omega
  · omega
set_option maxRecDepth 100000 in
theorem txF_len {ns : List (List Int32)} : ∀ (m : Nat) (T B : List (Nd × List Int32)), (∀ n ∈ T, arOk n.1 ∧ (leT ns n.1 n.2).length ≤ 600) → fz T 1 → T.length ≤ m → (txF ns m (T ++ B)).1.length + 5 ≤ 610 * T.length := by
  intro m
  induction m with
  | zero =>
    intro T B ha h hm
    cases T with
    | nil => exact absurd h (by show ¬ (1 : Nat) = 0; decide)
    | cons d T =>
      rw [List.length_cons] at hm
      omega
  | succ m ih =>
    intro T B ha h hm
    cases T with
    | nil => exact absurd h (by show ¬ (1 : Nat) = 0; decide)
    | cons n R =>
      rw [List.length_cons] at hm ⊢
      have hR : fz R (arN n.1) := by
        have := h.2
        rw [show 1 - 1 + arN n.1 = arN n.1 by omega] at this
        exact this
      obtain ⟨har, hle⟩ := ha n List.mem_cons_self
      have haR : ∀ x ∈ R, arOk x.1 ∧ (leT ns x.1 x.2).length ≤ 600 := fun x hx => ha x (List.mem_cons_of_mem _ hx)
      have sub : ∀ T2 B2 : List (Nd × List Int32), (∀ x ∈ T2, x ∈ R) → fz T2 1 → T2.length ≤ m → (txF ns m (T2 ++ B2)).1.length + 5 ≤ 610 * T2.length := fun T2 B2 hx h2 h3 => ih T2 B2 (fun x hx2 => haR x (hx x hx2)) h2 h3
      have rst : ∀ T2 B2 : List (Nd × List Int32), (∀ x ∈ T2, x ∈ R) → fz T2 1 → T2.length ≤ m → (txF ns m (T2 ++ B2)).2 = B2 := fun T2 B2 hx h2 h3 => txF_r m T2 B2 (fun x hx2 => (haR x (hx x hx2)).1) h2 h3
      have l1 : ∀ x : Int32, [x].length = 1 := fun _ => rfl
      show (txF ns (m + 1) (n :: (R ++ B))).1.length + 5 ≤ 610 * (R.length + 1)
      unfold txF
      by_cases c7 : n.1 0 = 7
      · rw [if_pos c7]
        have loop : ∀ (k c : Nat) (R2 : List (Nd × List Int32)), (∀ x ∈ R2, x ∈ R) → fz R2 k → R2.length ≤ m → (tAr (txF ns m) k c (R2 ++ B)).1.length ≤ 610 * R2.length := by
          intro k
          induction k with
          | zero =>
            intro c R2 hx h2 h3
            exact Nat.zero_le _
          | succ k ihk =>
            intro c R2 hx h2 h3
            obtain ⟨T, R3, e, t1, t2⟩ := fz_sp R2 1 k (by rw [Nat.add_comm]; exact h2)
            subst e
            rw [List.length_append] at h3
            show ((if c = 0 then [] else [44]) ++ ((txF ns m ((T ++ R3) ++ B)).1 ++ (tAr (txF ns m) k (c + 1) (txF ns m ((T ++ R3) ++ B)).2).1)).length ≤ 610 * (T ++ R3).length
            rw [List.append_assoc T, rst T (R3 ++ B) (fun x q => hx x (List.mem_append_left _ q)) t1 (by omega)]
            have q1 := if_len (c = 0) 44
            have q2 := sub T (R3 ++ B) (fun x q => hx x (List.mem_append_left _ q)) t1 (by omega)
            have q3 := ihk (c + 1) R3 (fun x q => hx x (List.mem_append_right _ q)) t2 (by omega)
            rw [List.length_append, List.length_append, List.length_append]
            omega
        have q := loop (arN n.1) 0 R (fun x q => q) hR (by omega)
        show (leT ns n.1 n.2 ++ ((tAr (txF ns m) (arN n.1) 0 (R ++ B)).1 ++ [41])).length + 5 ≤ 610 * (R.length + 1)
        rw [List.length_append, List.length_append, l1]
        omega
      · rw [if_neg c7]
        by_cases c9 : n.1 0 = 9
        · rw [if_pos c9]
          have h1 : arN n.1 = 1 := by unfold arN; rw [har.2.1 (Or.inl c9)]; rfl
          rw [h1] at hR
          have q := sub R B (fun x q => q) hR (by omega)
          have q2 := brT_le (rkM (hk (R ++ B)) < 7) (txF ns m (R ++ B)).1
          show (brT (rkM (hk (R ++ B)) < 7) (txF ns m (R ++ B)).1 ++ [37]).length + 5 ≤ 610 * (R.length + 1)
          rw [List.length_append, l1]
          omega
        · rw [if_neg c9]
          by_cases c10 : n.1 0 = 10
          · rw [if_pos c10]
            have h1 : arN n.1 = 1 := by unfold arN; rw [har.2.1 (Or.inr c10)]; rfl
            rw [h1] at hR
            have q := sub R B (fun x q => q) hR (by omega)
            have q2 := brT_le (rkM (hk (R ++ B)) < 6) (txF ns m (R ++ B)).1
            show ([45] ++ brT (rkM (hk (R ++ B)) < 6) (txF ns m (R ++ B)).1).length + 5 ≤ 610 * (R.length + 1)
            rw [List.length_append, l1]
            omega
          · rw [if_neg c10]
            have l11 : n.1 0 < 11 ↔ (n.1 0).toInt < 11 := iLt
            by_cases c11 : n.1 0 < 11
            · rw [if_pos c11]
              show (leT ns n.1 n.2).length + 5 ≤ 610 * (R.length + 1)
              omega
            · rw [if_neg c11]
              have c11 : ¬ (n.1 0).toInt < 11 := fun q => c11 (l11.mpr q)
              have h2 : arN n.1 = 2 := by
                unfold arN
                rw [har.2.2.1 (by omega)]
                rfl
              rw [h2] at hR
              obtain ⟨T1, T2, e, t1, t2⟩ := fz_sp R 1 1 hR
              subst e
              rw [List.length_append] at hm
              show (brT (rkM (hk ((T1 ++ T2) ++ B)) < rkM (n.1 0)) (txF ns m ((T1 ++ T2) ++ B)).1 ++ (opT (n.1 0).toInt.toNat ++ brT (rkM (hk (txF ns m ((T1 ++ T2) ++ B)).2) < rkM (n.1 0) + 1) (txF ns m (txF ns m ((T1 ++ T2) ++ B)).2).1)).length + 5 ≤ 610 * ((T1 ++ T2).length + 1)
              rw [List.length_append (as := T1)]
              rw [List.append_assoc T1, rst T1 (T2 ++ B) (fun x q => List.mem_append_left _ q) t1 (by omega)]
              have q1 := sub T1 (T2 ++ B) (fun x q => List.mem_append_left _ q) t1 (by omega)
              have q2 := sub T2 B (fun x q => List.mem_append_right _ q) t2 (by omega)
              have q3 := brT_le (rkM (hk (T1 ++ (T2 ++ B))) < rkM (n.1 0)) (txF ns m (T1 ++ (T2 ++ B))).1
              have q4 := brT_le (rkM (hk (T2 ++ B)) < rkM (n.1 0) + 1) (txF ns m (T2 ++ B)).1
              obtain ⟨k, k1, -, k3⟩ := kd_n har
              have q5 := (opT_p k (List.mem_range.mpr k1)).1
              rw [k3, List.length_append, List.length_append]
              omega
end
section
/-! form, whole, in both -/
set_option maxRecDepth 100000 in
/-- the letter that is told -/
noncomputable def fmV (ns : List (List Int32)) (Z : List (Nd × List Int32)) (x : Int32) : Int32 := if 0 ≤ x.toInt then (txF ns 400 Z).1.getD x.toInt.toNat (-1) else -1
set_option maxRecDepth 100000 in
theorem x139 {s : aS} {b : Nat} {ns : List (List Int32)} {Z : List (Nd × List Int32)} (hb : aK s b 3) (hb2 : b = 102 ∨ 149 ≤ b) (hT : (sT s (b + 3)).2 = 256) (hS : SQ s ns) (hn : nsOk ns) (hR : RC s) (hA : AS s) (hW : LWs s) (hZl : sI s b 2 = Int32.ofNat Z.length ∧ Z.length ≤ 128 ∧ ∃ u, TL s b u ∧ ∀ i n, Z[i]? = some n → CR s b i n.1 ∧ NL s b i u n.2) (hZ : ∀ n ∈ Z, arOk n.1 ∧ -1 ≤ (n.1 2).toInt ∧ (n.1 2).toInt < ns.length) (hf : fz Z 1) (hl : (txF ns 400 Z).1.length < 800000) (x : Int32) : ∃ s', dm139 b x s = some (fmV ns Z x, s') ∧ ch (fun a _ => 117 ≤ a ∧ a ≤ 120) s s' := by
  let s0 := wR s 117 5 (.ref b)
  have hN : ∃ N u, N ≤ 128 ∧ sI s b 2 = Int32.ofNat N ∧ TL s b u ∧ ∀ k, k < N → ∃ l, NL s b k u l := by
    obtain ⟨z1, z2, u, z3, z4⟩ := hZl
    exact ⟨Z.length, u, z2, z1, z3, fun k hk => ⟨Z[k].2, (z4 k Z[k] (List.getElem?_eq_getElem hk)).2⟩⟩
  have h0 : FS s0 b ns := ⟨by show sR (wR s 117 5 (.ref b)) 117 5 = .ref b; rw [sR_wR, if_pos ⟨rfl, rfl⟩], hb, hb2, hN, hT, hS.1, hn, hR, hA⟩
  have F0 : FE s0 b ns Z := ⟨h0, hS.2, hZl, hW⟩
  have c0 : ch (fun a _ => 117 ≤ a ∧ a ≤ 120) s s0 := (ch.refl _ s).wR ⟨by omega, by omega⟩
  let s1 := wI (wI (wI (wI (wI s0 117 4 0) 117 6 0) 117 8 0) 117 9 x) 117 10 (-1)
  have c1 : ch wrC s0 s1 := (((((ch.refl wrC s0).wI (by unfold wrC; omega)).wI (by unfold wrC; omega)).wI (by unfold wrC; omega)).wI (by unfold wrC; omega)).wI (by unfold wrC; omega)
  have e4 : sI s1 117 4 = Int32.ofNat 0 := by
    show sI (wI (wI (wI (wI (wI s0 117 4 0) 117 6 0) 117 8 0) 117 9 x) 117 10 (-1)) 117 4 = _
    rw [sI_wI, if_neg (by omega), sI_wI, if_neg (by omega), sI_wI, if_neg (by omega), sI_wI, if_neg (by omega), sI_wI, if_pos ⟨rfl, rfl⟩]
    rfl
  have e6 : sI s1 117 6 = Int32.ofNat 0 := by
    show sI (wI (wI (wI (wI (wI s0 117 4 0) 117 6 0) 117 8 0) 117 9 x) 117 10 (-1)) 117 6 = _
    rw [sI_wI, if_neg (by omega), sI_wI, if_neg (by omega), sI_wI, if_neg (by omega), sI_wI, if_pos ⟨rfl, rfl⟩]
    rfl
  have e8 : sI s1 117 8 = Int32.ofNat 0 := by
    show sI (wI (wI (wI (wI (wI s0 117 4 0) 117 6 0) 117 8 0) 117 9 x) 117 10 (-1)) 117 8 = _
    rw [sI_wI, if_neg (by omega), sI_wI, if_neg (by omega), sI_wI, if_pos ⟨rfl, rfl⟩]
    rfl
  have e9 : sI s1 117 9 = x := by
    show sI (wI (wI (wI (wI (wI s0 117 4 0) 117 6 0) 117 8 0) 117 9 x) 117 10 (-1)) 117 9 = _
    rw [sI_wI, if_neg (by omega), sI_wI, if_pos ⟨rfl, rfl⟩]
  have e10 : sI s1 117 10 = -1 := by
    show sI (wI (wI (wI (wI (wI s0 117 4 0) 117 6 0) 117 8 0) 117 9 x) 117 10 (-1)) 117 10 = _
    rw [sI_wI, if_pos ⟨rfl, rfl⟩]
  have C0 : Cf s1 [] 0 (sI s1 117 7) := ⟨⟨e4, Nat.le_refl _, by omega⟩, e6, rfl, trivial⟩
  have W0 : WC s1 [] x := ⟨by decide, e8, e9, by
    rw [e10]
    split
    · rfl
    · rfl⟩
  obtain ⟨s2, g1, g2, g3, g4⟩ := x140 (x := 0) C0 (by omega) (Or.inl rfl) (fun q S0 e => by cases e)
  have W2 : WC s2 [] x := by
    have := g4 [] x W0 (by decide)
    rw [if_pos rfl] at this
    exact this
  have F2 : FE s2 b ns Z := F0.of (c1.trans g3)
  have h128 := hZl.2.1
  unfold dm139
  simp only [nx_eq]
  show ∃ s', bu (dm140 0 s1) (fun s27 => dm139_23 5000 0 s27) = some (fmV ns Z x, s') ∧ _
  rw [g1]
  simp only [bu_some]
  have cA : ch (fun a _ => 117 ≤ a ∧ a ≤ 120) s s2 := c0.trans ((c1.trans g3).mono fun a k z => by unfold wrC at z; omega)
  unfold fmV
  by_cases k0 : 0 ≤ x.toInt
  · rw [if_pos k0]
    have hl9 : ([] : List Int32).length + (txF ns 400 (Z ++ [])).1.length + 1 < 900000 := by
      rw [List.append_nil]
      show 0 + _ + 1 < 900000
      omega
    rcases x139m hZ k0 400 Z [] [] s2 5000 0 [] [] 0 F2 hf (by omega) (by rw [List.append_nil]; rfl) g2 (Or.inl rfl) W2 (by omega) (by omega) hl9 with ⟨v, s3, y1, y2, y3⟩ | ⟨s3, y1, y2, y3, y4⟩
    · have y3 := y3 []
      rw [if_pos rfl, List.append_nil, List.append_nil, List.append_nil, List.nil_append] at y3
      rw [← y3]
      exact ⟨s3, y1, cA.trans (y2.mono fun a k z => by unfold wrC at z; omega)⟩
    · rw [if_pos rfl, List.append_nil, List.append_nil, List.nil_append] at y3
      have fin : ∀ M r, r < 384 → dm139_23 (M + 1) (Int32.ofNat r) s3 = some (sI s3 117 10, s3) := by
        intro M r hr
        rw [dm139_23, if_neg (fun z => by have := (nle_iff (a := 384) (by omega) (by omega)).mp z; omega), y4.1.1, if_pos (show Int32.ofNat ([] : List (Nat × Nat × Int32)).length ≤ 0 by decide)]
      have y5 := fin (5000 - (3 * Z.length - 1) - 1) (0 + (3 * Z.length - 1)) (by omega)
      rw [show 5000 - (3 * Z.length - 1) - 1 + 1 = 5000 - (3 * Z.length - 1) by omega] at y5
      rw [y3.2.2.2, if_pos k0] at y5
      exact ⟨s3, y1.trans y5, cA.trans (y2.mono fun a k z => by unfold wrC at z; omega)⟩
  · rw [if_neg k0]
    have st : dm139_23 (4999 + 1) (Int32.ofNat 0) s2 = some (sI s2 117 10, s2) := by
      have h4 : sI s2 117 4 = Int32.ofNat 1 := g2.1.1
      rw [dm139_23, if_neg (by decide), h4, if_neg (by decide), if_pos (by
        rw [W2.2.1, W2.2.2.1, iLt]
        have t0 : (Int32.ofNat ([] : List Int32).length).toInt = 0 := rfl
        omega)]
    rw [W2.2.2.2, if_neg k0] at st
    exact ⟨s2, st, cA⟩
set_option maxRecDepth 100000 in
/-- the reference's form -/
theorem x232 {s : aS} {t : List Int32} {ns : List (List Int32)} {fs : Nat → Option Fm} {lt : Nat → Nat → List Int32} (h : RV s t ns fs lt) (hn : nsOk ns) (x k : Int32) : (fAt fs x = none ∧ dm232 x k s = some (0, wI s 121 0 1)) ∨ ∃ ho L s', fAt fs x = some (ho, L) ∧ dm232 x k s = some (fmV ns (zipL (lt x.toInt.toNat) L 0) k, s') ∧ sI s' 121 0 = 0 ∧ (∀ q, sJ s' 148 q = sJ s 148 q) := by
  obtain ⟨-, hS, hM, hL, hlt, hok⟩ := h
  unfold dm232 dm232_8
  rcases d225 hM x with ⟨e1, e2⟩ | ⟨ho, L, e1, e2, e3, e4, e5⟩
  · left
    rw [e2]
    simp only [bu_some, nx_eq]
    rw [if_neg (by decide), if_neg (show ¬ sI (wI s 121 0 1) 121 0 ≤ 0 by rw [sI_wI, if_pos ⟨rfl, rfl⟩]; decide)]
    exact ⟨e1, rfl⟩
  · right
    rw [e3]
    simp only [bu_some, nx_eq]
    rw [if_pos trivial, if_pos (show sI (wI s 121 0 0) 121 0 ≤ 0 by rw [sI_wI, if_pos ⟨rfl, rfl⟩]; decide)]
    obtain ⟨f, hf⟩ : ∃ f, f = x.toInt.toNat := ⟨_, rfl⟩
    have ex : x = Int32.ofNat f := by rw [hf]; exact ofNat_of e2.1
    have hf8 : f < 8 := by omega
    have hfs : fs f = some (ho, L) := by rw [hf]; exact (fAt_s e1).2
    rw [← hf] at e4 ⊢
    obtain ⟨s4, hs4⟩ : ∃ s4, s4 = wI (wI (wI (wI s 121 0 0) 121 42 0) 121 43 k) 121 44 (-1) := ⟨_, rfl⟩
    have hc : ch (fun a q => a = 121 ∧ (q = 0 ∨ 42 ≤ q)) s s4 := by
      rw [hs4]
      exact ((((ch.refl _ s).wI ⟨rfl, Or.inl rfl⟩).wI ⟨rfl, by omega⟩).wI ⟨rfl, by omega⟩).wI ⟨rfl, by omega⟩
    obtain ⟨g1, g2⟩ := hok f ho L hfs
    have zl := zip_len (lt f) L 0
    have hWZ : WZ s4 f (zipL (lt f) L 0) ns := by
      refine ⟨fun i n q => ?_, by rw [zl]; exact e4.2.1, ⟨(hc.i (by omega)).trans hS.1, fun i hi => ⟨(hc.i (by omega)).trans (hS.2 i hi).1, fun j hj => (hc.i (by omega)).trans ((hS.2 i hi).2 j hj)⟩⟩, hn, fun n q => ?_⟩
      · obtain ⟨hi, en⟩ := zip_at (lt f) L 0 i n q
        rw [Nat.zero_add] at en
        subst en
        have := hL f hf8 ho L hfs i hi
        have rl : ∀ w, RL s f (128 * f + i) w → RL s4 f (128 * f + i) w := by
          rintro w ⟨st, b1, b2, b3, b4⟩
          exact ⟨st, (hc.i (by omega)).trans b1, (hc.i (by omega)).trans b2, b3, fun j hj => (hc.i (by omega)).trans (b4 j hj)⟩
        exact ⟨fun w hw => (hc.i (by omega)).trans (e4.2.2 i hi w hw), fun q => rl _ (this.1 q), fun q => rl _ (this.2.1 q), this.2.2⟩
      · obtain ⟨i, q⟩ := List.mem_iff_getElem?.mp q
        obtain ⟨hi, en⟩ := zip_at (lt f) L 0 i n q
        subst en
        exact g2 _ (List.getElem_mem hi)
    have hle : ∀ n ∈ zipL (lt f) L 0, arOk n.1 ∧ (leT ns n.1 n.2).length ≤ 600 := fun n q => by
      obtain ⟨i, q⟩ := List.mem_iff_getElem?.mp q
      obtain ⟨hi, en⟩ := zip_at (lt f) L 0 i n q
      rw [Nat.zero_add] at en
      subst en
      exact ⟨(g2 _ (List.getElem_mem hi)).2.1, leT_len hn _ (hlt f hf8 ho L hfs i hi).1⟩
    have hfz := zip_ft (lt f) L 0 1 g1
    have h128 := e4.2.1
    have hlen := txF_len 400 (zipL (lt f) L 0) [] hle hfz (by omega)
    have eM : (128 : Int32) * Int32.ofNat f = Int32.ofNat (128 * f + ([] : List (Nd × List Int32)).length) := by
      have := i128 (f := f) (i := 0) (by omega) (by omega)
      rw [show Int32.ofNat 0 = 0 from rfl, Int32.add_zero] at this
      exact this
    obtain ⟨s', d1, d2, d3⟩ := e233 hf8 400 (zipL (lt f) L 0) [] [] s4 hWZ hfz (by omega) (by rw [List.append_nil]; rfl)
    have W0 : WM s4 [] k := by
      rw [hs4]
      refine ⟨by decide, ?_, ?_, ?_⟩
      · rw [sI_wI, if_neg (by omega), sI_wI, if_neg (by omega), sI_wI, if_pos ⟨rfl, rfl⟩]
        rfl
      · rw [sI_wI, if_neg (by omega), sI_wI, if_pos ⟨rfl, rfl⟩]
      · rw [sI_wI, if_pos ⟨rfl, rfl⟩]
        split
        · rfl
        · rfl
    have W1 := d3 [] k W0 (by show 0 + _ < 800000; omega)
    rw [List.nil_append, List.append_nil] at W1
    rw [ex, eM, ← hs4, d1]
    simp only [bv_some]
    refine ⟨ho, L, s', ?_, ?_, ?_, ?_⟩
    · rw [← ex]
      exact e1
    · rw [W1.2.2.2]
      rfl
    · rw [d2.i (by unfold wrA; omega), hs4, sI_wI, if_neg (by omega), sI_wI, if_neg (by omega), sI_wI, if_neg (by omega), sI_wI, if_pos ⟨rfl, rfl⟩]
    · intro q
      exact (d2.2.2 148 q (by unfold wrA; omega)).2.2.trans (hc.2.2 148 q (by omega)).2.2
end
section
/-! form in both, compared -/
section SGs
variable {tt : Nat} {xs : List Int32} {s s1 s2 : aS} {t : List Int32} {ns : List (List Int32)} {fs : Nat → Option Fm} {lt : Nat → Nat → List Int32} {A : Nat → Nat → Prop}
set_option maxRecDepth 100000 in
theorem s_formT (h : SG tt xs s t ns fs lt) (x k : Int32) : PV tt xs s True (dm9 x k s) (dm232 x k) := by
  have h9 := h
  obtain ⟨⟨hl, hv, hr⟩, hc⟩ := h
  rcases d54 hc.1 x with ⟨c, e⟩ | ⟨ho, L, b, c, hx, e, e3, e4, e5, -⟩
  · have e1 : dm9 x k s = some (1, nw s 82 0) := by
      unfold dm9 dm138
      rw [e]
      rfl
    obtain ⟨l1, r1, f1, g1⟩ := h9.tw (y := 82) (by omega) 1
    rcases x232 r1 hv.2.1.2 x k with ⟨d, f⟩ | ⟨ho, L, s', d, -⟩
    · exact ⟨_, _, _, _, t, ns, fs, lt, e1, l1, f, fun _ => ⟨w120 _ 1, fun z => absurd z (by decide)⟩, f1, g1⟩
    · rw [c] at d
      cases d
  · have hfs := (fAt_s c).2
    have hf8 : x.toInt.toNat < 8 := by omega
    obtain ⟨g1, g2⟩ := hr.2.2.2.2.2 _ ho L hfs
    obtain ⟨u, u1, u2⟩ := hc.2 _ hf8 ho L hfs b e5
    have zl := zip_len (lt x.toInt.toNat) L 0
    have h128 := e4.2.1
    have hfz := zip_ft (lt x.toInt.toNat) L 0 1 g1
    have hle : ∀ n ∈ zipL (lt x.toInt.toNat) L 0, arOk n.1 ∧ (leT ns n.1 n.2).length ≤ 600 := fun n q => by
      obtain ⟨i, q⟩ := List.mem_iff_getElem?.mp q
      obtain ⟨hi, en⟩ := zip_at (lt x.toInt.toNat) L 0 i n q
      rw [Nat.zero_add] at en
      subst en
      exact ⟨(g2 _ (List.getElem_mem hi)).2.1, leT_len hv.2.1.2 _ (hr.2.2.2.2.1 _ hf8 ho L hfs i hi).1⟩
    have hlen := txF_len 400 (zipL (lt x.toInt.toNat) L 0) [] hle hfz (by omega)
    rw [List.append_nil] at hlen
    obtain ⟨s1, y1, y2⟩ := x139 (Z := zipL (lt x.toInt.toNat) L 0) e3 (tr_at hl e3) (by rw [(hl.tr e3).2.2.2.2.2.2.1]) hv.2.1.1 hv.2.1.2 (RC.ly hl) (AS.ly hl) (LWs.ly hl) ⟨by rw [zl]; exact e4.1, by rw [zl]; exact h128, u, u1, fun i n q => by
      obtain ⟨hi, en⟩ := zip_at (lt x.toInt.toNat) L 0 i n q
      rw [Nat.zero_add] at en
      subst en
      exact ⟨fun w hw => e4.2.2 i hi w hw, u2 i hi⟩⟩ (fun n q => by
      obtain ⟨i, q⟩ := List.mem_iff_getElem?.mp q
      obtain ⟨hi, en⟩ := zip_at (lt x.toInt.toNat) L 0 i n q
      subst en
      obtain ⟨n1, n2, n3⟩ := g2 _ (List.getElem_mem hi)
      exact ⟨n2, n1.1.1, n3⟩) hfz (by omega) k
    have l1 := (dt139 (sio := true) (d := 2000) (by decide) hl e3 y1).1
    have e6 : dm9 x k s = some (0, wJ s1 148 (jN 0) (fmV ns (zipL (lt x.toInt.toNat) L 0) k).toInt64) := by
      unfold dm9 dm138
      rw [e]
      simp only [bu_some, vN_ref]
      rw [if_pos e3, y1]
      simp only [bv_some]
      rw [zN_l, vI_int, if_pos a01, nx_eq]
    have r1 : RV (wJ s1 148 (jN 0) (fmV ns (zipL (lt x.toInt.toNat) L 0) k).toInt64) t ns fs lt := (hr.same fun a k h1 h2 => y2.i (by omega)).j9
    have v1 : CV (wJ s1 148 (jN 0) (fmV ns (zipL (lt x.toInt.toNat) L 0) k).toInt64) t ns := (hv.of hl y2 (fun a k z => Or.inr (by omega))).j
    have c1 : CG (wJ s1 148 (jN 0) (fmV ns (zipL (lt x.toInt.toNat) L 0) k).toInt64) fs lt := (hc.of9 hl y2 (fun a k z => by omega)).j
    have w1 : gw s (wJ s1 148 (jN 0) (fmV ns (zipL (lt x.toInt.toNat) L 0) k).toInt64) := (gw_ch y2).j
    have l2 : Ly tt (cCc xs) (wJ s1 148 (jN 0) (fmV ns (zipL (lt x.toInt.toNat) L 0) k).toInt64) := l1.wJd
    obtain ⟨b2, s2, f, f1, f2⟩ := r232 r1 hv.2.1.2 x k
    rcases x232 r1 hv.2.1.2 x k with ⟨d, -⟩ | ⟨ho2, L2, s3, d, f3, f4, f5⟩
    · rw [c] at d
      cases d
    · have eL : L2 = L := (Prod.mk.inj (Option.some.inj (d.symm.trans c))).2
      rw [eL] at f3
      have q := dt232 (sio := true) (d := 2000) (by decide) l2 f3
      have es : s3 = s2 := (Prod.mk.inj (Option.some.inj (f3.symm.trans f))).2
      subst es
      exact ⟨0, _, _, s3, t, ns, fs, lt, e6, l2, f3, fun _ => ⟨f4, fun _ => by rw [f5, sJ_wJ, if_pos ⟨rfl, rfl⟩]⟩, SG.m l2 v1 c1 q.1 f2 f1, w1.tr f2⟩
end SGs
end
section
/-! the law's loop -/
section LP
variable {xs : List Int32}
set_option maxRecDepth 100000 in
theorem lg_r (x : Int64) : lg_cmp x x = 0 := by
  unfold lg_cmp
  simp
set_option maxRecDepth 100000 in
theorem ly_T {s : aS} (h : Ly xs.length (cCc xs) s) : (sT s 0).2 = xs.length := by
  rw [h.lowT (show 0 < zK by decide)]
  rfl
set_option maxRecDepth 100000 in
theorem ly_I {tt k : Nat} {s s1 : aS} (h : Ly tt (cCc xs) s) (g : Ly tt (cCc xs) s1) : sI s1 0 k = sI s 0 k := (g.2.2.2.2.2.2.2.2 0 k (by decide)).trans (h.2.2.2.2.2.2.2.2 0 k (by decide)).symm
set_option maxRecDepth 100000 in
theorem lp (hN : xs.length ≤ 3072) : ∀ (m q n : Nat) (s : aS) (t : List Int32) (ns : List (List Int32)) (fs : Nat → Option Fm) (lt : Nat → Nat → List Int32), SG xs.length xs s t ns fs lt → q + m = 512 → m < n → ∃ s', dm0_13 n (Int32.ofNat (6 * q)) s = some (1, s') ∧ sL s' ≤ sL s + 8 * m ∧ aSz s' ≤ aSz s + 3000 * m := by
  have e6 : (6 : Int32).toInt = 6 := rfl
  have eL : (Int32.ofNat xs.length - 6).toInt = (xs.length : Int) - 6 := by
    rw [iSub (by rw [e6, iOfNat (by omega)]; omega) (by rw [e6, iOfNat (by omega)]; omega), e6, iOfNat (by omega)]
  intro m
  induction m with
  | zero =>
    intro q n s t ns fs lt h h1 h2
    obtain ⟨n, rfl⟩ : ∃ k, n = k + 1 := ⟨n - 1, by omega⟩
    rw [dm0_13, ly_T h.1.1, if_pos (by rw [iLt, eL, iOfNat (by omega)]; omega)]
    exact ⟨s, rfl, by omega, by omega⟩
  | succ m ih =>
    intro q n s t ns fs lt h h1 h2
    obtain ⟨n, rfl⟩ : ∃ k, n = k + 1 := ⟨n - 1, by omega⟩
    rw [dm0_13, ly_T h.1.1]
    by_cases c : 6 * q + 6 ≤ xs.length
    · rw [if_neg (by rw [iLt, eL, iOfNat (by omega)]; omega)]
      have nxt : ∀ s2 t2 ns2 fs2 lt2, SG xs.length xs s2 t2 ns2 fs2 lt2 → gw s s2 → ∃ s', dm0_457 (dm0_13 n) (Int32.ofNat (6 * q)) s2 = some (1, s') ∧ sL s' ≤ sL s + 8 * (m + 1) ∧ aSz s' ≤ aSz s + 3000 * (m + 1) := by
        intro s2 t2 ns2 fs2 lt2 k2 g2
        unfold dm0_457
        have e : Int32.ofNat (6 * q) + 6 = Int32.ofNat (6 * (q + 1)) := iSum (i := 6 * q) (j := 6) (by omega) (by omega)
        rw [e]
        obtain ⟨s', f1, f2, f3⟩ := ih (q + 1) n s2 t2 ns2 fs2 lt2 k2 (by omega) (by omega)
        exact ⟨s', f1, by have := g2.1; omega, by have := g2.2; omega⟩
      have B : ∀ j, j ≤ 5 → aB (Int32.ofNat (6 * q) + Int32.ofNat j) xs.length := fun j hj => by
        rw [iSum (by omega) (by omega)]
        exact aB_of (by omega) (by omega)
      have b0 : aB (Int32.ofNat (6 * q)) xs.length := aB_of (by omega) (by omega)
      have b1 : aB (Int32.ofNat (6 * q) + 1) xs.length := B 1 (by omega)
      have b2 : aB (Int32.ofNat (6 * q) + 2) xs.length := B 2 (by omega)
      have b3 : aB (Int32.ofNat (6 * q) + 3) xs.length := B 3 (by omega)
      have b4 : aB (Int32.ofNat (6 * q) + 4) xs.length := B 4 (by omega)
      have b5 : aB (Int32.ofNat (6 * q) + 5) xs.length := B 5 (by omega)
      rw [if_pos b0]
      by_cases c0 : ((sI s 0 (jN (Int32.ofNat (6 * q)))) &&& 15) = 0
      · rw [if_pos c0]
        rw [if_pos b1]
        obtain ⟨k, s1, b, s2, t1, ns1, fs1, lt1, e1, l1, e2, e3, e5, e6⟩ := s_type h (sI s 0 (jN (Int32.ofNat (6 * q) + 1)))
        rw [e1]
        simp only [bv_some]
        rw [ly_T l1, if_pos b1, ly_I h.1.1 l1, e2]
        simp only [bv_some]
        exact nxt s2 t1 ns1 fs1 lt1 e5 e6
      · rw [if_neg c0]
        by_cases c1 : ((sI s 0 (jN (Int32.ofNat (6 * q)))) &&& 15) = 1
        · rw [if_pos c1]
          obtain ⟨s1, s2, e1, e2, e5, e6⟩ := s_erase h
          rw [e1]
          simp only [bu_some]
          rw [e2]
          simp only [bu_some]
          exact nxt s2 [] ns fs lt e5 e6
        · rw [if_neg c1]
          by_cases c2 : ((sI s 0 (jN (Int32.ofNat (6 * q)))) &&& 15) = 2
          · rw [if_pos c2]
            obtain ⟨k, s1, b, s2, t1, ns1, fs1, lt1, e1, l1, e2, e3, e5, e6⟩ := s_sheet h 
            rw [e1]
            simp only [bv_some]
            rw [e2]
            simp only [bv_some]
            exact nxt s2 t1 ns1 fs1 lt1 e5 e6
          · rw [if_neg c2]
            by_cases c3 : ((sI s 0 (jN (Int32.ofNat (6 * q)))) &&& 15) = 3
            · rw [if_pos c3]
              rw [if_pos b1]
              obtain ⟨k, s1, s2, t1, ns1, fs1, lt1, e1, l1, e2, e3, e5, e6⟩ := s_rename h (sI s 0 (jN (Int32.ofNat (6 * q) + 1)))
              rw [e1]
              simp only [bv_some]
              rw [ly_T l1, if_pos b1, ly_I h.1.1 l1, e2]
              simp only [bu_some]
              exact nxt s2 t1 ns1 fs1 lt1 e5 e6
            · rw [if_neg c3]
              by_cases c4 : ((sI s 0 (jN (Int32.ofNat (6 * q)))) &&& 15) = 4
              · rw [if_pos c4]
                rw [if_pos b1]
                obtain ⟨k, s1, s2, t1, ns1, fs1, lt1, e1, l1, e2, e3, e5, e6⟩ := s_drop h (sI s 0 (jN (Int32.ofNat (6 * q) + 1)))
                rw [e1]
                simp only [bv_some]
                rw [ly_T l1, if_pos b1, ly_I h.1.1 l1, e2]
                simp only [bu_some]
                exact nxt s2 t1 ns1 fs1 lt1 e5 e6
              · rw [if_neg c4]
                by_cases c5 : ((sI s 0 (jN (Int32.ofNat (6 * q)))) &&& 15) = 5
                · rw [if_pos c5]
                  rw [if_pos b1, if_pos b2]
                  obtain ⟨k, s1, b, s2, t1, ns1, fs1, lt1, e1, l1, e2, e3, e5, e6⟩ := s_read h (sI s 0 (jN (Int32.ofNat (6 * q) + 1))) (sI s 0 (jN (Int32.ofNat (6 * q) + 2)))
                  rw [e1]
                  simp only [bv_some]
                  rw [ly_T l1, if_pos b1, if_pos b2, ly_I h.1.1 l1, ly_I h.1.1 l1, e2]
                  simp only [bv_some]
                  exact nxt s2 t1 ns1 fs1 lt1 e5 e6
                · rw [if_neg c5]
                  by_cases c6 : ((sI s 0 (jN (Int32.ofNat (6 * q)))) &&& 15) = 6
                  · rw [if_pos c6]
                    rw [if_pos b1, if_pos b2, if_pos b3, if_pos b4, if_pos b5]
                    obtain ⟨k, s1, s2, t1, ns1, fs1, lt1, e1, l1, e2, e3, e5, e6⟩ := s_move h (sI s 0 (jN (Int32.ofNat (6 * q) + 1))) (sI s 0 (jN (Int32.ofNat (6 * q) + 2))) (sI s 0 (jN (Int32.ofNat (6 * q) + 3))) (sI s 0 (jN (Int32.ofNat (6 * q) + 4))) (sI s 0 (jN (Int32.ofNat (6 * q) + 5)))
                    rw [e1]
                    simp only [bv_some]
                    rw [ly_T l1, if_pos b1, if_pos b2, if_pos b3, if_pos b4, if_pos b5, ly_I h.1.1 l1, ly_I h.1.1 l1, ly_I h.1.1 l1, ly_I h.1.1 l1, ly_I h.1.1 l1, e2]
                    simp only [bu_some]
                    exact nxt s2 t1 ns1 fs1 lt1 e5 e6
                  · rw [if_neg c6]
                    by_cases c7 : ((sI s 0 (jN (Int32.ofNat (6 * q)))) &&& 15) = 7
                    · rw [if_pos c7]
                      rw [if_pos b1, if_pos b2]
                      by_cases cy : (sI s 0 (jN (Int32.ofNat (6 * q) + 2))) = 0
                      · rw [if_pos cy]
                        unfold dm0_187 dm0_215
                        rw [ly_T h.1.1, if_pos b3, if_pos b4]
                        obtain ⟨k, s1, b, s2, t1, ns1, fs1, lt1, e1, l1, e2, e3, e5, e6⟩ := s_shift h (sI s 0 (jN (Int32.ofNat (6 * q) + 1))) 0 (sI s 0 (jN (Int32.ofNat (6 * q) + 3))) (sI s 0 (jN (Int32.ofNat (6 * q) + 4)))
                        rw [e1]
                        simp only [bv_some]
                        rw [ly_T l1, if_pos b1, if_pos b2, ly_I h.1.1 l1, ly_I h.1.1 l1, ly_I h.1.1 l1, ly_I h.1.1 l1, if_pos cy, if_pos b3, if_pos b4, e2]
                        simp only [bv_some]
                        exact nxt s2 t1 ns1 fs1 lt1 e5 e6
                      · rw [if_neg cy]
                        unfold dm0_187 dm0_215
                        rw [ly_T h.1.1, if_pos b3, if_pos b4]
                        obtain ⟨k, s1, b, s2, t1, ns1, fs1, lt1, e1, l1, e2, e3, e5, e6⟩ := s_shift h (sI s 0 (jN (Int32.ofNat (6 * q) + 1))) 1 (sI s 0 (jN (Int32.ofNat (6 * q) + 3))) (sI s 0 (jN (Int32.ofNat (6 * q) + 4)))
                        rw [e1]
                        simp only [bv_some]
                        rw [ly_T l1, if_pos b1, if_pos b2, ly_I h.1.1 l1, ly_I h.1.1 l1, ly_I h.1.1 l1, ly_I h.1.1 l1, if_neg cy, if_pos b3, if_pos b4, e2]
                        simp only [bv_some]
                        exact nxt s2 t1 ns1 fs1 lt1 e5 e6
                    · rw [if_neg c7]
                      by_cases c8 : ((sI s 0 (jN (Int32.ofNat (6 * q)))) &&& 15) = 8
                      · rw [if_pos c8]
                        rw [if_pos b1]
                        obtain ⟨k, s1, s2, t1, ns1, fs1, lt1, e1, l1, e2, e3, e5, e6⟩ := s_remove h (sI s 0 (jN (Int32.ofNat (6 * q) + 1)))
                        rw [e1]
                        simp only [bv_some]
                        rw [ly_T l1, if_pos b1, ly_I h.1.1 l1, e2]
                        simp only [bu_some]
                        exact nxt s2 t1 ns1 fs1 lt1 e5 e6
                      · rw [if_neg c8]
                        by_cases c9 : ((sI s 0 (jN (Int32.ofNat (6 * q)))) &&& 15) = 9
                        · rw [if_pos c9]
                          rw [if_pos b1, if_pos b2]
                          obtain ⟨k, s1, b, s2, t1, ns1, fs1, lt1, e1, l1, e2, e3, e5, e6⟩ := s_formT h (sI s 0 (jN (Int32.ofNat (6 * q) + 1))) (sI s 0 (jN (Int32.ofNat (6 * q) + 2)))
                          rw [e1]
                          simp only [bv_some]
                          rw [ly_T l1, if_pos b1, if_pos b2, ly_I h.1.1 l1, ly_I h.1.1 l1, e2]
                          simp only [bv_some]
                          obtain ⟨e7, e8⟩ := e3 trivial
                          unfold dm171 dm0_288
                          simp only [bu_some]
                          rw [e7, if_pos rfl]
                          by_cases ck : k = 0
                          · rw [if_pos ck, if_pos a01, show sJ s2 148 (jN 0) = b.toInt64 from e8 ck, if_pos (lg_r _)]
                            exact nxt s2 t1 ns1 fs1 lt1 e5 e6
                          · rw [if_neg ck]
                            exact nxt s2 t1 ns1 fs1 lt1 e5 e6
                        · rw [if_neg c9]
                          by_cases c10 : ((sI s 0 (jN (Int32.ofNat (6 * q)))) &&& 15) = 10
                          · rw [if_pos c10]
                            rw [if_pos b1]
                            obtain ⟨k, s1, b, s2, t1, ns1, fs1, lt1, e1, l1, e2, e3, e5, e6⟩ := s_size h (sI s 0 (jN (Int32.ofNat (6 * q) + 1)))
                            rw [e1]
                            simp only [bv_some]
                            rw [ly_T l1, if_pos b1, ly_I h.1.1 l1, e2]
                            simp only [bv_some]
                            exact nxt s2 t1 ns1 fs1 lt1 e5 e6
                          · rw [if_neg c10]
                            by_cases c11 : ((sI s 0 (jN (Int32.ofNat (6 * q)))) &&& 15) = 11
                            · rw [if_pos c11]
                              rw [if_pos b1, if_pos b2, if_pos b3]
                              obtain ⟨k, s1, b, s2, t1, ns1, fs1, lt1, e1, l1, e2, e3, e5, e6⟩ := s_node h (sI s 0 (jN (Int32.ofNat (6 * q) + 1))) (sI s 0 (jN (Int32.ofNat (6 * q) + 2))) (sI s 0 (jN (Int32.ofNat (6 * q) + 3)))
                              rw [e1]
                              simp only [bv_some]
                              rw [ly_T l1, if_pos b1, if_pos b2, if_pos b3, ly_I h.1.1 l1, ly_I h.1.1 l1, ly_I h.1.1 l1, e2]
                              simp only [bv_some]
                              exact nxt s2 t1 ns1 fs1 lt1 e5 e6
                            · rw [if_neg c11]
                              by_cases c12 : ((sI s 0 (jN (Int32.ofNat (6 * q)))) &&& 15) = 12
                              · rw [if_pos c12]
                                rw [if_pos b1, if_pos b2, if_pos b3]
                                obtain ⟨k, s1, b, s2, t1, ns1, fs1, lt1, e1, l1, e2, e3, e5, e6⟩ := s_letter h (sI s 0 (jN (Int32.ofNat (6 * q) + 1))) (sI s 0 (jN (Int32.ofNat (6 * q) + 2))) (sI s 0 (jN (Int32.ofNat (6 * q) + 3)))
                                rw [e1]
                                simp only [bv_some]
                                rw [ly_T l1, if_pos b1, if_pos b2, if_pos b3, ly_I h.1.1 l1, ly_I h.1.1 l1, ly_I h.1.1 l1, e2]
                                simp only [bv_some]
                                exact nxt s2 t1 ns1 fs1 lt1 e5 e6
                              · rw [if_neg c12]
                                by_cases c13 : ((sI s 0 (jN (Int32.ofNat (6 * q)))) &&& 15) = 13
                                · rw [if_pos c13]
                                  rw [if_pos b1, if_pos b2]
                                  obtain ⟨k, s1, b, s2, t1, ns1, fs1, lt1, e1, l1, e2, e3, e5, e6⟩ := s_same h (sI s 0 (jN (Int32.ofNat (6 * q) + 1))) (sI s 0 (jN (Int32.ofNat (6 * q) + 2)))
                                  rw [e1]
                                  simp only [bv_some]
                                  rw [ly_T l1, if_pos b1, if_pos b2, ly_I h.1.1 l1, ly_I h.1.1 l1, e2]
                                  simp only [bv_some]
                                  exact nxt s2 t1 ns1 fs1 lt1 e5 e6
                                · rw [if_neg c13]
                                  by_cases c14 : ((sI s 0 (jN (Int32.ofNat (6 * q)))) &&& 15) = 14
                                  · rw [if_pos c14]
                                    rw [if_pos b1]
                                    obtain ⟨k, s1, b, s2, t1, ns1, fs1, lt1, e1, l1, e2, e3, e5, e6⟩ := s_count h (sI s 0 (jN (Int32.ofNat (6 * q) + 1)))
                                    rw [e1]
                                    simp only [bv_some]
                                    rw [ly_T l1, if_pos b1, ly_I h.1.1 l1, e2]
                                    simp only [bv_some]
                                    exact nxt s2 t1 ns1 fs1 lt1 e5 e6
                                  · rw [if_neg c14]
                                    by_cases c15 : ((sI s 0 (jN (Int32.ofNat (6 * q)))) &&& 15) = 15
                                    · rw [if_pos c15]
                                      rw [if_pos b1, if_pos b2]
                                      obtain ⟨k, s1, b, s2, t1, ns1, fs1, lt1, e1, l1, e2, e3, e5, e6⟩ := s_name h (sI s 0 (jN (Int32.ofNat (6 * q) + 1))) (sI s 0 (jN (Int32.ofNat (6 * q) + 2)))
                                      rw [e1]
                                      simp only [bv_some]
                                      rw [ly_T l1, if_pos b1, if_pos b2, ly_I h.1.1 l1, ly_I h.1.1 l1, e2]
                                      simp only [bv_some]
                                      exact nxt s2 t1 ns1 fs1 lt1 e5 e6
                                    · rw [if_neg c15]
                                      exact nxt s t ns fs lt h (gw_ch (ch.refl (fun _ _ => False) s))
    · rw [if_pos (by rw [iLt, eL, iOfNat (by omega)]; omega)]
      exact ⟨s, rfl, by omega, by omega⟩
set_option maxRecDepth 100000 in
/-- a new object -/
theorem SS.st (xs : List Int32) : SS xs.length xs (csE xs) [] [] (fun _ => none) (fun _ _ => []) := by
  have hl := fin_ly xs
  obtain ⟨h1, h2, h3, h4, h5, h6, h7, h8⟩ := caE xs
  have hL : sL (csE xs) = 149 := h1.trans (by decide +kernel)
  have z0 : (0 : Int32) = Int32.ofNat 0 := rfl
  have kI : ∀ a k, a ≠ 0 → sI (csE []) a k = 0 → sI (csE xs) a k = Int32.ofNat 0 := fun a k ha e => (h5 a k ha).trans e
  have r0 : ∀ f : Fin 8, sR (csE []) 100 f.val = .null := by decide +kernel
  have m0 : ∀ f : Fin 8, sI (csE []) 125 f.val = 0 := by decide +kernel
  have k102 : aK (csE xs) 102 3 := hl.Kd (n := 3) 24 rfl rfl (by decide)
  have eN : ∀ f, f < 8 → sR (csE xs) 100 f = .null := fun f hf => (h4 100 f (by decide)).trans (r0 ⟨f, hf⟩)
  have ln : ∀ b, sI (csE xs) b 1 = Int32.ofNat 0 → LT (csE xs) b [] := fun b e => ⟨e, fun j hj => absurd hj (Nat.not_lt_zero j)⟩
  have ok0 : okT [] := fun y hy => (by cases hy)
  refine ⟨hl, ⟨⟨ln 79 (kI 79 1 (by decide) (by decide +kernel)), by decide, ok0⟩, ⟨⟨⟨kI 81 2 (by decide) (by decide +kernel), fun i hi => absurd hi (Nat.not_lt_zero i)⟩, fun i hi => absurd hi (Nat.not_lt_zero i)⟩, by decide, fun n hn => (by cases hn)⟩, ⟨fun f hf => Or.inl (eN f hf), fun f g b hf hg q1 q2 => ?_, 102, (h4 78 6 (by decide)).trans (by decide +kernel), k102, fun f hf q => ?_⟩, fun b hb => ?_, ⟨[], ln 107 (kI 107 1 (by decide) (by decide +kernel)), by decide, ok0⟩, ⟨0, by decide, kI 110 2 (by decide) (by decide +kernel)⟩, 0, by decide, kI 113 3 (by decide) (by decide +kernel)⟩, ⟨kI 121 1 (by decide) (by decide +kernel), fun j hj => absurd hj (Nat.not_lt_zero j)⟩, ⟨kI 121 3 (by decide) (by decide +kernel), fun i hi => absurd hi (Nat.not_lt_zero i)⟩, fun f hf => ⟨fun _ => (h5 125 f (by decide)).trans (m0 ⟨f, hf⟩), fun h9 L q => (by cases q)⟩, fun f hf h9 L q => (by cases q), fun f hf h9 L q => (by cases q), fun f h9 L q => (by cases q)⟩
  · rw [eN f hf] at q1
    cases q1
  · rw [eN f hf] at q
    cases q
  · have hb3 := tr_at hl hb
    have hbl := (hl.tr hb).2.2.2.1
    rw [hL] at hbl
    have e : b = 102 := by omega
    subst e
    exact ⟨0, [], by decide, kI 102 2 (by decide) (by decide +kernel), ⟨ln 104 (kI 104 1 (by decide) (by decide +kernel)), by decide, ok0⟩, fun k hk => absurd hk (Nat.not_lt_zero k)⟩
set_option maxRecDepth 100000 in
theorem SG.st (xs : List Int32) : SG xs.length xs (csE xs) [] [] (fun _ => none) (fun _ _ => []) := by
  obtain ⟨h1, h2, h3, h4, h5, h6, h7, h8⟩ := caE xs
  have m0 : ∀ f : Fin 8, sI (csE []) 101 f.val = -1 := by decide +kernel
  exact ⟨SS.st xs, fun f hf => ⟨fun _ => (h5 101 f (by decide)).trans (m0 ⟨f, hf⟩), fun h9 L q => (by cases q)⟩, fun f hf h9 L q => (by cases q)⟩
set_option maxRecDepth 100000 in
theorem zPure_ok : zPure 3072 := zPure_of fun xs hx => by
  obtain ⟨s', e1, e2, e3⟩ := lp hx 512 0 5000 (csE xs) [] [] (fun _ => none) (fun _ _ => []) (SG.st xs) (by omega) (by omega)
  have hL : sL (csE xs) = 149 := (caE xs).1.trans (by decide +kernel)
  have hz := aSz_csE xs
  have e1 : dm0 0 (csE xs) = some (1, s') := e1
  exact ⟨s', e1, by omega, by omega⟩
end LP
end
