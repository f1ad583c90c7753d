section
/-! the reader of FormulaTrees, exactly: the whole of it, beside the reference's -/
def RES (b : Nat) (R : Nat ⊕ (List Fw × List NN)) (D : Option (Int32 × aS)) : Prop := ∀ v s', D = some (v, s') → match R with
  | .inl _ => v ≠ -1
  | .inr q => v = -1 ∧ TR s' b 256 (flC q.1 ++ q.2)
section XX
variable {s s1 : aS} {b i : Nat} {t : List Int32} {ns : List (List Int32)} {F : List Fw} {cur M : List NN} {fr : Int32} {lc : Nat}
set_option maxRecDepth 100000 in
theorem RES.l {R : Nat ⊕ (List Fw × List NN)} {D : Option (Int32 × aS)} (hR : ∃ p, R = .inl p) (h : ∀ v s', D = some (v, s') → v ≠ -1) : RES b R D := by
  obtain ⟨p, rfl⟩ := hR
  exact h
set_option maxRecDepth 100000 in
theorem RES.z {R : Nat ⊕ (List Fw × List NN)} {x : Int32} : RES b R (dm63_26 0 x s) := fun v s' h => (by cases h)
set_option maxRecDepth 100000 in
theorem sp8 : ∀ (n : Nat) (s s4 : aS), dm67_0 n s = some s4 → sI s4 106 8 = sI s 106 8
  | 0, s, s4, h => by cases h
  | n + 1, s, s4, h => by
    rw [dm67_0] at h
    unfold dm28 at h
    simp only [bu_some] at h
    split at h
    · cases h
      rfl
    · obtain ⟨r, -, h⟩ := bu_so h
      split at h
      · have := sp8 n _ s4 h
        rw [this, sI_wI, if_neg (by omega)]
      · cases h
        rfl
set_option maxRecDepth 100000 in
theorem wr26 {n : Nat} {x v : Int32} {s' : aS} (h8 : sI s 106 8 ≠ -1) (h : dm63_26 n x s = some (v, s')) : v ≠ -1 := by
  cases n with
  | zero => cases h
  | succ n =>
    have e : dm63_80 s = some (sI s 106 8, s) := by
      unfold dm63_80
      rw [if_neg h8]
    rw [dm63_26] at h
    unfold dm28 at h
    simp only [bu_some] at h
    have key : dm63_80 s = some (v, s') := by
      split at h
      · exact h
      · split at h
        · exact h
        · exact h
    rw [e] at key
    cases key
    exact h8
set_option maxRecDepth 100000 in
theorem wr72 {n : Nat} {x v : Int32} {s' : aS} (h8 : sI s 106 8 ≠ -1) (h : dm63_72 (dm63_26 n) x s = some (v, s')) : v ≠ -1 := by
  unfold dm63_72 dm63_78 at h
  split at h
  · exact wr26 h8 h
  · obtain ⟨s4, e, h⟩ := bu_so h
    have e8 := sp8 5000 s s4 e
    exact wr26 (by rw [e8]; exact h8) h
set_option maxRecDepth 100000 in
theorem sk_n {e : Nat} (h : ¬ t.getD e 0 = 32) : skS t e = e := by
  unfold skS
  rw [cnt_n (p := spP) (d := 0) h, Nat.add_zero]
set_option maxRecDepth 100000 in
theorem mBeh_b {e : Nat} (h : t.getD e 0 = 36 ∨ bad (t.getD e 0)) : mBeh t e F cur lc = .inl e := by
  have ne : ∀ k : Int32, ¬ (k = 36 ∨ bad k) → ¬ t.getD e 0 = k := fun k hk z => hk (z ▸ h)
  have n58 : ¬ t.getD e 0 = 58 := ne 58 (by unfold bad gW isL isD; decide)
  have n41 : ¬ t.getD e 0 = 41 := ne 41 (by unfold bad gW isL isD; decide)
  have n44 : ¬ t.getD e 0 = 44 := ne 44 (by unfold bad gW isL isD; decide)
  have n37 : ¬ t.getD e 0 = 37 := ne 37 (by unfold bad gW isL isD; decide)
  unfold mBeh
  rw [if_neg (fun z => n58 z.1), if_neg (fun z => n41 z.1), if_neg (fun z => n44 z.1), if_neg (fun z => n37 z.1), if_neg (fun z => z.1 (opk_n (h.elim (fun q => by rw [q]; exact Or.inr (Or.inr (Or.inr (Or.inr (Or.inl rfl))))) (fun q => Or.inr (Or.inr (Or.inr (Or.inr (Or.inr q))))))))]
set_option maxRecDepth 100000 in
/-- what comes of a step -/
noncomputable def nxR (t : List Int32) (ns : List (List Int32)) (m : Nat) (X : Nat ⊕ St) : Nat ⊕ (List Fw × List NN) := match X with
  | .inl p => .inl p
  | .inr z => mRun t ns m z
set_option maxRecDepth 100000 in
theorem dead_l {X : Nat ⊕ St} (h : dead t X) (m : Nat) : ∃ p, nxR t ns m X = .inl p := by
  rcases h with ⟨p, rfl⟩ | ⟨e, F, n, lc, rfl, hb⟩
  · exact ⟨p, rfl⟩
  · cases m with
    | zero => exact ⟨0, rfl⟩
    | succ m =>
      have h32 : ¬ t.getD e 0 = 32 := fun z => by
        rw [z] at hb
        unfold bad gW isL isD at hb
        exact absurd hb (by decide)
      have hin : e < t.length := in_of (p := bad) bad_0 hb
      refine ⟨e, ?_⟩
      show mRun t ns (m + 1) (e, F, [n], 0, lc) = .inl e
      rw [mRun]
      show (if t.length ≤ skS t e then _ else _) = _
      rw [sk_n h32, if_neg (by omega)]
      show (match (if ([n] : List NN).isEmpty = true then mOpd t ns e F 0 else mBeh t e F [n] lc) with | .inl p => (.inl p : Nat ⊕ (List Fw × List NN)) | .inr z' => mRun t ns m z') = .inl e
      rw [if_neg (show ¬ ([n] : List NN).isEmpty = true from Bool.false_ne_true), mBeh_b (Or.inr hb)]
set_option maxRecDepth 100000 in
/-- spaces behind a step -/
theorem go72 {e q n : Nat} (h : XI s b t ns e F cur fr lc) (he : e ≤ t.length) (hq : q < 1000) : ∃ s2, dm63_72 (dm63_26 n) (Int32.ofNat q) s = dm63_26 n (Int32.ofNat (q + 1)) s2 ∧ XI s2 b t ns (skS t e) F cur fr lc := by
  obtain ⟨K, T, B, h7, h8, h9, h10⟩ := h
  have hb := xb K
  obtain ⟨s2, a1, a2, a3⟩ := x67 K he h7
  have hw : ¬ sI s 106 9 = 2 := by
    rw [h9]
    unfold wn
    split
    · split <;> decide
    · split <;> decide
  have hsk := sk_b he
  refine ⟨s2, ?_, K.of (b := b) (a3.mono fun a k z => a7C z), (trM T hb a3 (fun a k z => by unfold a7 at z; omega)).up hsk.1, B.of a3 (fun a k z => by unfold a7 at z; omega), a2, (a3.i (by unfold a7; omega)).trans h8, (a3.i (by unfold a7; omega)).trans h9, fun z => (a3.i (by unfold a7; omega)).trans (h10 z)⟩
  unfold dm63_72 dm63_78
  rw [if_neg hw, a1]
  simp only [bu_some]
  rw [ofNat_succ (by omega)]
set_option maxRecDepth 100000 in
/-- the text is at its end -/
theorem e80 {j q n : Nat} (K : KS s b t ns) (h7 : sI s 106 7 = Int32.ofNat j) (hj : t.length ≤ j) (hj2 : j ≤ 1000) : dm63_26 (n + 1) (Int32.ofNat q) s = dm63_80 s := by
  have hl := K.1.2.1
  rw [dm63_26, x28 K]
  simp only [bu_some]
  rw [h7, if_pos ((nle_iff (by omega) (by omega)).mpr hj), ite_self]
set_option maxRecDepth 100000 in
theorem e92 (K : KS s b t ns) (h8 : sI s 106 8 = -1) (h9 : sI s 106 9 < 4) : ∃ s', dm63_80 s = some (Int32.ofNat t.length, s') := by
  unfold dm63_80
  rw [if_pos h8, if_pos h9]
  unfold dm63_92
  rw [x28 K]
  simp only [bu_some, nx_eq]
  exact ⟨_, by rw [sI_wI, if_pos ⟨rfl, rfl⟩]⟩
set_option maxRecDepth 100000 in
/-- one round of the loop -/
theorem e26 {j q n : Nat} (K : KS s b t ns) (h7 : sI s 106 7 = Int32.ofNat j) (hj : j < t.length) (h8 : sI s 106 8 = -1) (hq : q < 512) : dm63_26 (n + 1) (Int32.ofNat q) s = if sI s 106 9 < 4 then (if sI s 106 9 = 2 then bu (dm88 s) fun s11 => dm63_72 (dm63_26 n) (Int32.ofNat q) s11 else if sI s 106 9 = 3 then bu (dm99 s) fun s15 => dm63_72 (dm63_26 n) (Int32.ofNat q) s15 else bu (dm103 (t.getD j (-1)) s) fun s21 => dm63_72 (dm63_26 n) (Int32.ofNat q) s21) else bu (dm68 (t.getD j (-1)) s) fun s27 => dm63_72 (dm63_26 n) (Int32.ofNat q) s27 := by
  have hl := K.1.2.1
  rw [dm63_26, if_neg (fun z => by have := (nle_iff (a := 512) (by omega) (by omega)).mp z; omega), x28 K]
  simp only [bu_some]
  rw [h7, if_neg (fun z => by have := (nle_iff (by omega) (by omega)).mp z; omega), if_pos h8, x34 K (by omega)]
  simp only [bu_some]
set_option maxRecDepth 100000 in
/-- where the next sign is wrong -/
theorem goB {e q n : Nat} {R : Nat ⊕ (List Fw × List NN)} (h : XI s b t ns e F cur 0 lc) (hF : ∀ f ∈ F, gdF ns f) (hcur : cur ≠ []) (he : e < t.length) (hq : q < 512) (hc : t.getD e 0 = 36) (hR : ∃ p, R = .inl p) : RES b R (dm63_26 n (Int32.ofNat q) s) := by
  cases n with
  | zero => exact RES.z
  | succ n =>
    refine RES.l hR fun v s' hv => ?_
    have hw : ¬ sI s 106 9 < 4 := by
      rw [h.2.2.2.2.2.1]
      unfold wn
      have : cur.isEmpty = false := by
        cases cur with
        | nil => exact absurd rfl hcur
        | cons a r => rfl
      rw [this, if_neg (by decide)]
      split <;> decide
    rw [e26 h.1 h.2.2.2.1 he h.2.2.2.2.1 hq, if_neg hw] at hv
    obtain ⟨s2, a1, a2⟩ := x68 h hF hcur he
    rw [a1] at hv
    simp only [bu_some] at hv
    rw [mBeh_b (Or.inl hc)] at a2
    rcases a2 with ⟨a2, -⟩ | ⟨z, a2, -⟩ | ⟨a2, -⟩
    · exact wr72 a2 hv
    · cases a2
    · rw [hc] at a2
      exact absurd a2 (by decide)
set_option maxRecDepth 100000 in
/-- a reference is wanted -/
theorem goR {j q n : Nat} {x : Int32} {R : Nat ⊕ (List Fw × List NN)} (h : XR s b t ns j F x) (hj : j ≤ t.length) (hq : j < t.length → q < 512) (hbad : (flC F).length = 128 ∨ ¬ cOk t j ∨ bad (t.getD (cE t j) 0) → ∃ p, R = .inl p) (hgood : (flC F).length < 128 → cOk t j → ¬ bad (t.getD (cE t j) 0) → ∀ n s2, XI s2 b t ns (skS t (cE t j)) F [((fl F).length, clD x (Int32.ofNat (cW t j)) (Int32.ofNat (cK t j).2.1) (Int32.ofNat (cFl t j)), [])] 0 1 → RES b R (dm63_26 n (Int32.ofNat (q + 1)) s2)) : RES b R (dm63_26 n (Int32.ofNat q) s) := by
  cases n with
  | zero => exact RES.z
  | succ n =>
    have hl := h.1.1.2.1
    have h9 : sI s 106 9 = 2 := h.2.2.2.2.2.1
    by_cases he : t.length ≤ j
    · have hR := hbad (Or.inr (Or.inl fun z => by have := (cOk_b hj z).2.2.2; omega))
      rw [e80 h.1 h.2.2.2.1 he (by omega)]
      obtain ⟨s', e⟩ := e92 h.1 h.2.2.2.2.1 (by rw [h9]; decide)
      refine RES.l hR fun v s9 hv => ?_
      rw [e] at hv
      cases hv
      exact nm1 (by omega)
    · rw [e26 h.1 h.2.2.2.1 (by omega) h.2.2.2.2.1 (hq (by omega)), h9, if_pos (by decide), if_pos rfl]
      obtain ⟨s2, a1, a2⟩ := x88 h hj
      rw [a1]
      simp only [bu_some]
      rcases a2 with ⟨a2, a3⟩ | ⟨a2, a3, a4, a5⟩
      · exact RES.l (hbad a3) fun v s9 hv => wr72 a2 hv
      · have hE := (cOk_b hj a3).2.2.2.2
        obtain ⟨s3, c1, c2⟩ := go72 (n := n) (q := q) a5 hE (by have := hq (by omega); omega)
        rw [c1]
        exact hgood a2 a3 a4 n s3 c2
set_option maxRecDepth 100000 in
/-- the other end of a range is wanted -/
theorem goG {j q n : Nat} {m : NN} {R : Nat ⊕ (List Fw × List NN)} (h : XG s b t ns j F [m]) (hj : j ≤ t.length) (h4 : m.2.1 0 = 4) (hn : m.2.2 = []) (h7n : 0 ≤ (m.2.1 7).toInt ∧ (m.2.1 7).toInt ≤ 3) (hq : j < t.length → q < 512) (hbad : ¬ cOk t j ∨ bad (t.getD (cE t j) 0) → ∃ p, R = .inl p) (hgood : cOk t j → ¬ bad (t.getD (cE t j) 0) → ∀ n s2, XI s2 b t ns (skS t (cE t j)) F [rgN m (Int32.ofNat (cW t j)) (Int32.ofNat (cK t j).2.1) (Int32.ofNat (cFl t j))] 0 0 → RES b R (dm63_26 n (Int32.ofNat (q + 1)) s2)) : RES b R (dm63_26 n (Int32.ofNat q) s) := by
  cases n with
  | zero => exact RES.z
  | succ n =>
    have hl := h.1.1.2.1
    have h9 : sI s 106 9 = 3 := h.2.2.2.2.2.1
    by_cases he : t.length ≤ j
    · have hR := hbad (Or.inl fun z => by have := (cOk_b hj z).2.2.2; omega)
      rw [e80 h.1 h.2.2.2.1 he (by omega)]
      obtain ⟨s', e⟩ := e92 h.1 h.2.2.2.2.1 (by rw [h9]; decide)
      refine RES.l hR fun v s9 hv => ?_
      rw [e] at hv
      cases hv
      exact nm1 (by omega)
    · rw [e26 h.1 h.2.2.2.1 (by omega) h.2.2.2.2.1 (hq (by omega)), h9, if_pos (by decide), if_neg (by decide), if_pos rfl]
      obtain ⟨s2, a1, a2⟩ := x99 h hj h4 hn h7n
      rw [a1]
      simp only [bu_some]
      rcases a2 with ⟨a2, a3⟩ | ⟨a3, a4, a5⟩
      · exact RES.l (hbad a3) fun v s9 hv => wr72 a2 hv
      · have hE := (cOk_b hj a3).2.2.2.2
        obtain ⟨s3, c1, c2⟩ := go72 (n := n) (q := q) a5 hE (by have := hq (by omega); omega)
        rw [c1]
        exact hgood a3 a4 n s3 c2
def IV (t : List Int32) (ns : List (List Int32)) (z : St) : Prop := z.1 ≤ t.length ∧ MI ns z.2.1 z.2.2.1 ∧ (z.2.2.1 = [] → z.2.2.2.2 = 0 ∧ frI z.2.2.2.1 z.2.1) ∧ (z.2.2.1 ≠ [] → z.2.2.2.1 = 0) ∧ (z.2.2.2.2 = 1 → ∃ n, z.2.2.1 = [n] ∧ n.2.1 0 = 4 ∧ n.2.2 = [])
set_option maxRecDepth 100000 in
theorem IV.of {j : Nat} {bb : Bool} {z : St} (h1 : stOk t j bb (.inr z)) (h2 : gdX ns (.inr z)) (h3 : goX (.inr z)) : IV t ns z := by
  obtain ⟨a1, a2, a3, a4, a5, a6⟩ := h1
  refine ⟨a2, h2, fun q => ⟨(a5 (by rw [q]; rfl)).1, h3.1 q⟩, fun q => a4 (nE_of fun y => q (emp_iff.mp y)), fun q => ?_⟩
  obtain ⟨n, n1, n2⟩ := a6 q
  exact ⟨n, n1, n2, h3.2 q n (by rw [n1]; exact List.mem_singleton.mpr rfl)⟩
set_option maxRecDepth 100000 in
theorem mOpd_f {t : List Int32} {ns : List (List Int32)} {F : List Fw} {i : Nat} {fr : Int32} (ho : okT t) (hi : i < t.length) (hno : ¬ ((t.getD i 0 = 41 ∨ t.getD i 0 = 44) ∧ ¬ fr = 0 ∧ ¬ (t.getD i 0 = 41 ∧ fr = 1))) : stOk t i false (mOpd t ns i F fr) := by
  unfold mOpd
  by_cases c1 : t.getD i 0 = 43
  · rw [if_pos c1]
    exact stOk.emp (by omega) hi (by decide)
  · rw [if_neg c1]
    by_cases c2 : t.getD i 0 = 45
    · rw [if_pos c2]
      by_cases g : (fl F).length = 128
      · rw [if_pos g]
        exact Nat.le_of_lt hi
      · rw [if_neg g]
        exact stOk.emp (by omega) hi (by decide)
    · rw [if_neg c2]
      by_cases c3 : t.getD i 0 = 40
      · rw [if_pos c3]
        by_cases g : nO F = 32
        · rw [if_pos g]
          exact Nat.le_of_lt hi
        · rw [if_neg g]
          exact stOk.emp (by omega) hi (by decide)
      · rw [if_neg c3]
        by_cases c4 : t.getD i 0 = 41 ∧ fr = 1
        · rw [if_pos c4]
          cases F with
          | nil => exact Nat.le_of_lt hi
          | cons f F0 => exact stOk.cur (by omega) hi rfl
        · rw [if_neg c4, if_neg (fun c5 => hno ⟨c5.1, fun z => c5.2 (by rw [z]; decide), c4⟩)]
          unfold mPrim
          by_cases g : b01 (prB (t.getD i 0)) = 0 ∨ (fl F).length = 128
          · rw [if_pos g]
            exact Nat.le_of_lt hi
          · rw [if_neg g]
            exact mTok_ok ho hi (Classical.byContradiction fun q => g (Or.inl (b01_ne.mpr q)))
set_option maxRecDepth 100000 in
theorem sim : ∀ (m : Nat) (z : St) (q n : Nat) (s : aS), XI s b t ns (skS t z.1) z.2.1 z.2.2.1 z.2.2.2.1 z.2.2.2.2 → IV t ns z → muS t z ≤ m → q + 2 * (t.length - skS t z.1) ≤ 512 → RES b (mRun t ns (m + 1) z) (dm63_26 n (Int32.ofNat q) s) := by
  intro m
  induction m using Nat.strongRecOn with
  | _ m ih =>
    rintro ⟨i0, F, cur, fr, lc⟩ q n s h hI hm hq
    obtain ⟨hi0, hMI, hE, hN, hL⟩ := hI
    have h : XI s b t ns (skS t i0) F cur fr lc := h
    have hi0 : i0 ≤ t.length := hi0
    have hMI : MI ns F cur := hMI
    have hE : cur = [] → lc = 0 ∧ frI fr F := hE
    have hN : cur ≠ [] → fr = 0 := hN
    have hL : lc = 1 → ∃ n, cur = [n] ∧ n.2.1 0 = 4 ∧ n.2.2 = [] := hL
    have hq : q + 2 * (t.length - skS t i0) ≤ 512 := hq
    have hm : 2 * (t.length - i0) + (if cur.isEmpty = true then 1 else 0) ≤ m := hm
    cases n with
    | zero => exact RES.z
    | succ n =>
      have hl := h.1.1.2.1
      have hok := h.1.1.2.2.1
      have hns := h.1.2.2.2.1
      have hsk := sk_b hi0
      obtain ⟨j, hj⟩ : ∃ j, j = skS t i0 := ⟨_, rfl⟩
      rw [← hj] at h hq hsk
      have hR : mRun t ns (m + 1) (i0, F, cur, fr, lc) = if t.length ≤ j then (if cur.isEmpty = true ∨ ¬ nO F = 0 then .inl t.length else .inr (F, cur)) else nxR t ns m (if cur.isEmpty = true then mOpd t ns j F fr else mBeh t j F cur lc) := by
        rw [mRun]
        show (if t.length ≤ skS t i0 then _ else _) = _
        rw [← hj]
        rfl
      rw [hR]
      by_cases he : t.length ≤ j
      · rw [if_pos he, e80 h.1 h.2.2.2.1 he (by omega)]
        by_cases hc : cur = []
        · rw [if_pos (Or.inl (emp_iff.mpr hc))]
          obtain ⟨s', e⟩ := e92 h.1 h.2.2.2.2.1 (by
            rw [h.2.2.2.2.2.1, hc]
            unfold wn
            rw [if_pos (show ([] : List NN).isEmpty = true from rfl)]
            split <;> decide)
          refine RES.l ⟨_, rfl⟩ fun v s9 hv => ?_
          rw [e] at hv
          cases hv
          exact nm1 (by omega)
        · have hw : ¬ sI s 106 9 < 4 := by
            rw [h.2.2.2.2.2.1]
            unfold wn
            rw [if_neg (fun z => hc (emp_iff.mp z))]
            split <;> decide
          unfold dm63_80
          rw [if_pos h.2.2.2.2.1, if_neg hw, x82 h.2.2.1, bO_len]
          simp only [bu_some]
          have hO32 := h.2.2.1.2.2.1
          rw [bO_len] at hO32
          by_cases hO : nO F = 0
          · rw [if_neg (fun z => z.elim (fun y => hc (emp_iff.mp y)) (fun y => y hO)), if_pos (by rw [hO]; decide)]
            intro v s9 hv
            have hv := Option.some.inj hv
            have e1 : v = sI s 106 8 := (congrArg Prod.fst hv).symm
            have e2 : s9 = s := (congrArg Prod.snd hv).symm
            rw [e1, e2]
            exact ⟨h.2.2.2.2.1, h.2.1.up (by omega)⟩
          · rw [if_pos (Or.inr hO), if_neg (fun z => by have := (nle_iff (b := 0) (by omega) (by omega)).mp z; omega)]
            unfold dm63_92
            rw [x28 h.1]
            simp only [bu_some, nx_eq]
            refine RES.l ⟨_, rfl⟩ fun v s9 hv => ?_
            rw [sI_wI, if_pos ⟨rfl, rfl⟩] at hv
            cases hv
            exact nm1 (by omega)
      · rw [if_neg he]
        have hjl : j < t.length := by omega
        have hq5 : q < 512 := by omega
        rw [e26 h.1 h.2.2.2.1 hjl h.2.2.2.2.1 hq5]
        -- the next state of both
        have next : ∀ (z : St) (s2 : aS) (m2 : Nat), XI s2 b t ns z.1 z.2.1 z.2.2.1 z.2.2.2.1 z.2.2.2.2 → IV t ns z → j < z.1 → m2 + 1 ≤ m → 2 * (t.length - z.1) + 1 ≤ m2 → RES b (mRun t ns (m2 + 1) z) (dm63_72 (dm63_26 n) (Int32.ofNat q) s2) := by
          intro z s2 m2 hx hz hjz hm2 hmu
          obtain ⟨s3, c1, c2⟩ := go72 (n := n) (q := q) hx hz.1 (by omega)
          rw [c1]
          have hz1 := hz.1
          have := sk_b hz1
          refine ih m2 (by omega) z (q + 1) n s3 c2 hz ?_ (by omega)
          unfold muS
          split <;> omega
        by_cases hc : cur = []
        · subst hc
          obtain ⟨hlc, hfr⟩ := hE rfl
          subst hlc
          have hm : 2 * (t.length - i0) + 1 ≤ m := hm
          have hw : sI s 106 9 = if fr = 0 then 1 else 0 := h.2.2.2.2.2.1
          rw [if_pos (show sI s 106 9 < 4 by rw [hw]; split <;> decide), if_neg (show ¬ sI s 106 9 = 2 by rw [hw]; split <;> decide), if_neg (show ¬ sI s 106 9 = 3 by rw [hw]; split <;> decide)]
          show RES b (nxR t ns m (mOpd t ns j F fr)) _
          have hF := hMI.1
          have hfr1 : fr = 1 → ∃ f F0, F = f :: F0 ∧ f.1 = 7 := fun z => by
            rcases hfr with y | ⟨-, f, F0, y1, y2, -⟩ | ⟨y, -⟩
            · rw [z] at y
              exact absurd y (by decide)
            · exact ⟨f, F0, y1, y2⟩
            · rw [z] at y
              exact absurd y (by decide)
          by_cases hno : (t.getD j 0 = 41 ∨ t.getD j 0 = 44) ∧ ¬ fr = 0 ∧ ¬ (t.getD j 0 = 41 ∧ fr = 1)
          · -- an argument that is nothing
            have hfl := flC_len F
            have h0 : ¬ fr ≤ 0 := by
              rcases hfr with z | ⟨z, -⟩ | ⟨z, -⟩
              · exact absurd z hno.2.1
              · rw [z]; decide
              · rw [z]; decide
            have n43 : ¬ t.getD j 0 = 43 := fun z => by rcases hno.1 with y | y <;> rw [z] at y <;> exact absurd y (by decide)
            have n45 : ¬ t.getD j 0 = 45 := fun z => by rcases hno.1 with y | y <;> rw [z] at y <;> exact absurd y (by decide)
            have n40 : ¬ t.getD j 0 = 40 := fun z => by rcases hno.1 with y | y <;> rw [z] at y <;> exact absurd y (by decide)
            have n32 : ¬ t.getD j 0 = 32 := fun z => by rcases hno.1 with y | y <;> rw [z] at y <;> exact absurd y (by decide)
            have eM : mOpd t ns j F fr = if (fl F).length = 128 then .inl j else .inr (j, F, [((fl F).length, plF 8 0, [])], 0, 0) := by
              unfold mOpd
              rw [if_neg n43, if_neg n45, if_neg n40, if_neg hno.2.2, if_pos ⟨hno.1, h0⟩]
            have eD : ∃ v, ((t.getD j 0 = 41 ∧ v = 1) ∨ (t.getD j 0 = 44 ∧ v = (0 : Int32))) ∧ dm103 (t.getD j (-1)) s = bu (dm119 v s) fun s3 => some s3 := by
              rw [gd_in hjl]
              rcases hno.1 with y | y
              · refine ⟨1, Or.inl ⟨y, rfl⟩, ?_⟩
                unfold dm103 dm103_44
                rw [y]
                rfl
              · refine ⟨0, Or.inr ⟨y, rfl⟩, ?_⟩
                unfold dm103 dm103_44
                rw [y]
                rfl
            obtain ⟨v, hv, eD⟩ := eD
            obtain ⟨s2, a1, a2⟩ := x119 (c := t.getD j 0) (v := v) h hF hfr hjl rfl hv
            rw [eD, a1]
            simp only [bu_some]
            rcases a2 with ⟨a2, -⟩ | ⟨a2, a3, -⟩ | ⟨-, -, a2⟩
            · exact absurd a2 hno.2.1
            · exact absurd ⟨a2, a3⟩ hno.2.2
            · rcases a2 with ⟨a2, a3⟩ | ⟨a2, a3⟩
              · rw [eM, if_pos (by omega)]
                exact RES.l ⟨_, rfl⟩ fun v s9 hv => wr72 a3 hv
              · rw [eM, if_neg (by omega)]
                obtain ⟨m2, rfl⟩ : ∃ k, m = k + 2 := ⟨m - 2, by omega⟩
                have e2 : nxR t ns (m2 + 2) (.inr (j, F, [((fl F).length, plF 8 0, [])], 0, 0)) = nxR t ns (m2 + 1) (mBeh t j F [((fl F).length, plF 8 0, [])] 0) := by
                  show mRun t ns (m2 + 1 + 1) (j, F, [((fl F).length, plF 8 0, [])], 0, 0) = _
                  rw [mRun]
                  show (if t.length ≤ skS t j then _ else _) = _
                  rw [sk_n n32, if_neg (by omega)]
                  rfl
                rw [e2]
                rcases a3 with ⟨a3, p, a4⟩ | ⟨z, a3, a4⟩
                · rw [a4]
                  exact RES.l ⟨_, rfl⟩ fun v s9 hv => wr72 a3 hv
                · have hg8 : gdN ns ((fl F).length, plF 8 0, []) := gd_leaf (by decide) (by decide) (by decide) (Nat.zero_le _) (fun y hy => (by cases hy))
                  have hs := mBeh_ok (t := t) (F := F) (i := j) (lc := 0) (cur := [((fl F).length, plF 8 0, [])]) hjl (fun z => by cases z)
                  have hg := mBeh_gd (t := t) (ns := ns) (F := F) (i := j) (lc := 0) (cur := [((fl F).length, plF 8 0, [])]) ⟨hF, fun n hn => by rw [List.mem_singleton.mp hn]; exact hg8⟩ hjl (fun z => absurd z (by decide))
                  have hx := mBeh_x (t := t) (i := j) (F := F) (lc := 0) (cur := [((fl F).length, plF 8 0, [])]) (fun z => by cases z)
                  rw [a3] at hs hg hx ⊢
                  have hjz : j < z.1 := by
                    have := hs.1
                    by_cases y : z.1 = j
                    · have := (hs.2.2.1 y).1
                      cases this
                    · omega
                  exact next z s2 m2 a4 (IV.of hs hg hx) hjz (by omega) (by omega)
          · obtain ⟨s2, a1, a2⟩ := x103 h hF hfr hjl hno
            have hs := mOpd_f (t := t) (ns := ns) (F := F) (i := j) (fr := fr) hok hjl hno
            have hg := mOpd_gd (t := t) (ns := ns) (F := F) (i := j) (fr := fr) hns hl hok hF hjl hfr1
            have hx := mOpd_x (t := t) (ns := ns) (F := F) (i := j) (fr := fr)
            obtain ⟨X, hX⟩ : ∃ X, X = mOpd t ns j F fr := ⟨_, rfl⟩
            rw [← hX] at hs hg hx a2 ⊢
            rw [a1]
            simp only [bu_some]
            obtain ⟨m2, rfl⟩ : ∃ k, m = k + 1 := ⟨m - 1, by omega⟩
            rcases a2 with ⟨a2, a3⟩ | ⟨z, a2, a3⟩ | ⟨j2, x, a2, a3, a4, a5⟩ | ⟨e, nd, a2, a3, a4, a5⟩
            · exact RES.l (dead_l a3 _) fun v s9 hv => wr72 a2 hv
            · subst a2
              have hjz : j < z.1 := by
                have := hs.1
                by_cases y : z.1 = j
                · have := (hs.2.2.1 y).1
                  cases this
                · omega
              exact next z s2 m2 a3 (IV.of hs hg hx) hjz (by omega) (by omega)
            · have h2 : dm63_72 (dm63_26 n) (Int32.ofNat q) s2 = dm63_26 n (Int32.ofNat (q + 1)) s2 := by
                unfold dm63_72 dm63_78
                rw [if_pos a2.2.2.2.2.2.1, ofNat_succ (by omega)]
              rw [h2]
              rcases a5 with ⟨a5, a6⟩ | ⟨a5, a6⟩
              · subst a5
                refine goR a2 a4 (fun _ => by omega) (fun y => ?_) (fun y1 y2 y3 n2 s3 y4 => ?_)
                · refine dead_l ?_ _
                  unfold mCell
                  rcases y with y | y | y
                  · omega
                  · rw [if_pos (b01_ne.mpr y)]
                    exact dead.l
                  · by_cases ho : cOk t j2
                    · rw [if_neg (fun w => b01_ne.mp w ho)]
                      exact Or.inr ⟨_, _, _, _, rfl, y⟩
                    · rw [if_pos (b01_ne.mpr ho)]
                      exact dead.l
                · have eC : mCell t F (fl F).length x j2 = .inr (cE t j2, F, [((fl F).length, clD x (Int32.ofNat (cW t j2)) (Int32.ofNat (cK t j2).2.1) (Int32.ofNat (cFl t j2)), [])], 0, 1) := by
                    unfold mCell
                    rw [if_neg (fun w => b01_ne.mp w y2)]
                  have hEb := (cOk_b a4 y2).2.2.2
                  rw [eC] at hs hg hx ⊢
                  have hIv := IV.of hs hg hx
                  show RES b (mRun t ns (m2 + 1) _) _
                  have hsE := sk_b hEb.2
                  refine ih m2 (by omega) _ (q + 1 + 1) n2 s3 y4 hIv ?_ ?_
                  · show 2 * (t.length - cE t j2) + (if ([((fl F).length, clD x (Int32.ofNat (cW t j2)) (Int32.ofNat (cK t j2).2.1) (Int32.ofNat (cFl t j2)), [])] : List NN).isEmpty = true then 1 else 0) ≤ m2
                    rw [if_neg (show ¬ ([((fl F).length, clD x (Int32.ofNat (cW t j2)) (Int32.ofNat (cK t j2).2.1) (Int32.ofNat (cFl t j2)), [])] : List NN).isEmpty = true from Bool.false_ne_true)]
                    omega
                  · show q + 1 + 1 + 2 * (t.length - skS t (cE t j2)) ≤ 512
                    omega
              · obtain ⟨p, a5⟩ := a5
                subst a5
                refine goR a2 a4 (fun _ => by omega) (fun _ => ⟨p, rfl⟩) (fun y1 y2 y3 n2 s3 y4 => ?_)
                have h36 := (a6.resolve_left (by omega)) y2 y3
                have hEb := (cOk_b a4 y2).2.2.2
                have hin : cE t j2 < t.length := in_of (p := fun x => x = 36) (d := 0) (by decide) h36
                rw [sk_n (by rw [h36]; decide)] at y4
                exact goB y4 hF (fun z => by cases z) hin (by omega) h36 ⟨p, rfl⟩
            · obtain ⟨p, a5⟩ := a5
              subst a5
              have hin : e < t.length := in_of (p := fun x => x = 36) (d := 0) (by decide) a4
              obtain ⟨s3, c1, c2⟩ := go72 (n := n) (q := q) a2 a3 (by omega)
              rw [c1]
              rw [sk_n (by rw [a4]; decide)] at c2
              exact goB c2 hF (fun z => by cases z) hin (by omega) a4 ⟨p, rfl⟩
        · have hfr := hN hc
          subst hfr
          have hce : cur.isEmpty = false := nE_of (fun y => hc (emp_iff.mp y))
          have hw : ¬ sI s 106 9 < 4 := by
            rw [h.2.2.2.2.2.1]
            unfold wn
            rw [hce, if_neg (by decide)]
            split <;> decide
          have hm : 2 * (t.length - i0) ≤ m := by
            have hm : 2 * (t.length - i0) + (if cur.isEmpty = true then 1 else 0) ≤ m := hm
            rw [hce, if_neg (show ¬ false = true from Bool.false_ne_true)] at hm
            omega
          rw [if_neg hw, if_neg (by rw [hce]; decide)]
          have hF := hMI.1
          obtain ⟨s2, a1, a2⟩ := x68 h hF hc hjl
          have hlc4 : lc = 1 → ∃ n, cur = [n] ∧ n.2.1 0 = 4 := fun y => by
            obtain ⟨n, n1, n2, -⟩ := hL y
            exact ⟨n, n1, n2⟩
          have hs := mBeh_ok (t := t) (F := F) (i := j) (lc := lc) (cur := cur) hjl hc
          have hg := mBeh_gd (t := t) (ns := ns) (F := F) (i := j) (lc := lc) (cur := cur) hMI hjl hlc4
          have hx := mBeh_x (t := t) (i := j) (F := F) (lc := lc) (cur := cur) hc
          rw [a1]
          simp only [bu_some]
          obtain ⟨m2, rfl⟩ : ∃ k, m = k + 1 := ⟨m - 1, by omega⟩
          rcases a2 with ⟨a2, p, a3⟩ | ⟨z, a2, a3⟩ | ⟨a2, a3, a4⟩
          · rw [a3]
            exact RES.l ⟨p, rfl⟩ fun v s9 hv => wr72 a2 hv
          · rw [a2] at hs hg hx ⊢
            have hjz : j < z.1 := by
              have := hs.1
              by_cases y : z.1 = j
              · have := (hs.2.2.1 y).1
                cases this
              · omega
            exact next z s2 m2 a3 (IV.of hs hg hx) hjz (by omega) (by omega)
          · obtain ⟨nd, n1, n2, n3⟩ := hL a3
            subst n1
            have hjs := sk_b (t := t) (i := j + 1) (by omega)
            obtain ⟨K, T, B, h7, h8, h9, h10⟩ := a4
            have hb := xb K
            obtain ⟨s3, c1, c2, c3⟩ := x67 K (show j + 1 ≤ t.length by omega) h7
            have h2 : dm63_72 (dm63_26 n) (Int32.ofNat q) s2 = dm63_26 n (Int32.ofNat (q + 1)) s3 := by
              unfold dm63_72 dm63_78
              rw [if_neg (by rw [h9]; decide), c1]
              simp only [bu_some]
              rw [ofNat_succ (by omega)]
            have hG : XG s3 b t ns (skS t (j + 1)) F [nd] := ⟨K.of (b := b) (c3.mono fun a k z => a7C z), (trM T hb c3 (fun a k z => by unfold a7 at z; omega)).up hjs.1, B.of c3 (fun a k z => by unfold a7 at z; omega), c2, (c3.i (by unfold a7; omega)).trans h8, (c3.i (by unfold a7; omega)).trans h9, (c3.i (by unfold a7; omega)).trans h10⟩
            rw [h2]
            have eM : mBeh t j F [nd] lc = if b01 (cOk t (skS t (j + 1))) = 0 then .inl (cB t (skS t (j + 1))) else .inr (cE t (skS t (j + 1)), F, [rgN nd (Int32.ofNat (cW t (skS t (j + 1)))) (Int32.ofNat (cK t (skS t (j + 1))).2.1) (Int32.ofNat (cFl t (skS t (j + 1))))], 0, 0) := by
              unfold mBeh
              rw [if_pos ⟨a2, a3⟩]
            have hnd := hMI.2 nd (List.mem_singleton.mpr rfl)
            refine goG hG hjs.2 n2 n3 ⟨hnd.1.2.1.1, hnd.2.2.2.1 n2⟩ (fun _ => by omega) (fun y => ?_) (fun y2 y3 n9 s4 y4 => ?_)
            · refine dead_l ?_ _
              rw [eM]
              rcases y with y | y
              · rw [if_pos (b01_ne.mpr y)]
                exact dead.l
              · by_cases ho : cOk t (skS t (j + 1))
                · rw [if_neg (fun w => b01_ne.mp w ho)]
                  exact Or.inr ⟨_, _, _, _, rfl, y⟩
                · rw [if_pos (b01_ne.mpr ho)]
                  exact dead.l
            · rw [eM, if_neg (fun w => b01_ne.mp w y2)] at hs hg hx ⊢
              have hEb := (cOk_b hjs.2 y2).2.2.2
              have hIv := IV.of hs hg hx
              have hsE := sk_b hEb.2
              show RES b (mRun t ns (m2 + 1) _) _
              refine ih m2 (by omega) _ (q + 1 + 1) n9 s4 y4 hIv ?_ ?_
              · show 2 * (t.length - cE t (skS t (j + 1))) + (if ([rgN nd (Int32.ofNat (cW t (skS t (j + 1)))) (Int32.ofNat (cK t (skS t (j + 1))).2.1) (Int32.ofNat (cFl t (skS t (j + 1))))] : List NN).isEmpty = true then 1 else 0) ≤ m2
                rw [if_neg (show ¬ ([rgN nd (Int32.ofNat (cW t (skS t (j + 1)))) (Int32.ofNat (cK t (skS t (j + 1))).2.1) (Int32.ofNat (cFl t (skS t (j + 1))))] : List NN).isEmpty = true from Bool.false_ne_true)]
                omega
              · show q + 1 + 1 + 2 * (t.length - skS t (cE t (skS t (j + 1)))) ≤ 512
                omega
end XX
end
section
/-! read in FormulaTrees is the reference's, but for where a text is wrong -/
set_option maxRecDepth 100000 in
theorem mRun_o {t : List Int32} {ns : List (List Int32)} : ∀ (m : Nat) (z : St) (q : List Fw × List NN), mRun t ns m z = .inr q → nO q.1 = 0
  | 0, z, q, h => by cases h
  | m + 1, z, q, h => by
    rw [mRun] at h
    split at h
    · split at h
      · cases h
      · rename_i c
        cases h
        exact Classical.byContradiction fun y => c (Or.inr y)
    · split at h
      · cases h
      · exact mRun_o m _ q h
section XX
variable {s : aS} {b : Nat} {t : List Int32} {ns : List (List Int32)}
set_option maxRecDepth 100000 in
theorem rdC {v : Int32} {s' : aS} (hT : LT s 79 t) (hl : t.length ≤ 256) (hok : okT t) (hS : SC s ns) (hn : nsOk ns) (hP : KP s b) (he : dm63 b s = some (v, s')) : match mRd t ns with
    | .inl _ => v ≠ -1
    | .inr L => v = -1 ∧ TR s' b 256 L := by
  obtain ⟨p1, p2, p3, p4, ⟨p5, p6, p7, p8⟩, -, m, m1, m2⟩ := hP
  let s0 := wR s 106 6 (.ref b)
  have h0 : KS s0 b t ns := ⟨⟨hT, hl, hok, p5⟩, ⟨sR_at s b, p1, p2, p3, p4⟩, hS, hn, p6, p7, p8⟩
  unfold dm63 dm64 dm65 dm66 dm26 at he
  simp only [nx_eq] at he
  rw [sR_at, vN_ref, if_pos (show aK (wR s 106 6 (.ref b)) b 3 from p1)] at he
  simp only [bu_some] at he
  let sa := wI (wI s0 b 2 0) (b + 2) 1 0
  have ea : sI sa 110 2 = Int32.ofNat m := by
    show sI (wI (wI s0 b 2 0) (b + 2) 1 0) 110 2 = _
    rw [sI_wI, if_neg (by omega), sI_wI, if_neg (by omega)]
    exact m2
  obtain ⟨sb, cb, eb2, eb3⟩ : ∃ sb, ((if (0 : Int32) < 0 then some sa else if sI sa 110 2 ≤ 0 then some sa else some (wI sa 110 2 0)) = some sb) ∧ sI sb 110 2 = Int32.ofNat 0 ∧ ch (fun a k => a = 110 ∧ k = 2) sa sb := by
    rw [if_neg (by decide), ea]
    by_cases c : m = 0
    · subst c
      rw [if_pos (by decide)]
      exact ⟨sa, rfl, ea, ch.refl _ sa⟩
    · rw [if_neg (fun z => by have := (nle_iff (b := 0) (by omega) (by omega)).mp z; omega)]
      exact ⟨_, rfl, by rw [sI_wI, if_pos ⟨rfl, rfl⟩]; rfl, (ch.refl _ sa).wI ⟨rfl, rfl⟩⟩
  have he : bu (if (0 : Int32) < 0 then some sa else if sI sa 110 2 ≤ 0 then some sa else some (wI sa 110 2 0)) (fun s15 => bu (dm67 (wI (wI (wI (wI s15 113 3 0) 106 7 0) 106 8 (-1)) 106 9 1)) fun s40 => dm63_26 5000 0 s40) = some (v, s') := he
  rw [cb] at he
  simp only [bu_some] at he
  let sc := wI (wI (wI (wI sb 113 3 0) 106 7 0) 106 8 (-1)) 106 9 1
  have cc : ch (fun a k => (a = 113 ∧ k = 3) ∨ (a = 106 ∧ 7 ≤ k)) sb sc := ((((ch.refl (fun a k => (a = 113 ∧ k = 3) ∨ (a = 106 ∧ 7 ≤ k)) sb).wI (Or.inl ⟨rfl, rfl⟩)).wI (Or.inr ⟨rfl, by omega⟩)).wI (Or.inr ⟨rfl, by omega⟩)).wI (Or.inr ⟨rfl, by omega⟩)
  have cab : ch (AC b) s0 sc := ((((ch.refl (AC b) s0).wI (by unfold AC; omega)).wI (by unfold AC; omega)).trans (eb3.mono fun a k z => by unfold AC; omega)).trans (cc.mono fun a k z => by unfold AC; omega)
  have Kc := h0.of cab
  have eN : sI sc b 2 = Int32.ofNat 0 := by
    rw [cc.i (by omega), eb3.i (by omega)]
    show sI (wI (wI s0 b 2 0) (b + 2) 1 0) b 2 = _
    rw [sI_wI, if_neg (by omega), sI_wI, if_pos ⟨rfl, rfl⟩]
    rfl
  have eU : sI sc (b + 2) 1 = Int32.ofNat 0 := by
    rw [cc.i (by omega), eb3.i (by omega)]
    show sI (wI (wI s0 b 2 0) (b + 2) 1 0) (b + 2) 1 = _
    rw [sI_wI, if_pos ⟨rfl, rfl⟩]
    rfl
  have e7 : sI sc 106 7 = Int32.ofNat 0 := by
    show sI (wI (wI (wI (wI sb 113 3 0) 106 7 0) 106 8 (-1)) 106 9 1) 106 7 = _
    rw [sI_wI, if_neg (by omega), sI_wI, if_neg (by omega), sI_wI, if_pos ⟨rfl, rfl⟩]
    rfl
  have e8 : sI sc 106 8 = -1 := by
    show sI (wI (wI (wI (wI sb 113 3 0) 106 7 0) 106 8 (-1)) 106 9 1) 106 8 = _
    rw [sI_wI, if_neg (by omega), sI_wI, if_pos ⟨rfl, rfl⟩]
  have e9 : sI sc 106 9 = 1 := by
    show sI (wI (wI (wI (wI sb 113 3 0) 106 7 0) 106 8 (-1)) 106 9 1) 106 9 = _
    rw [sI_wI, if_pos ⟨rfl, rfl⟩]
  have e3 : sI sc 113 3 = Int32.ofNat 0 := by
    show sI (wI (wI (wI (wI sb 113 3 0) 106 7 0) 106 8 (-1)) 106 9 1) 113 3 = _
    rw [sI_wI, if_neg (by omega), sI_wI, if_neg (by omega), sI_wI, if_neg (by omega), sI_wI, if_pos ⟨rfl, rfl⟩]
    rfl
  have e2 : sI sc 110 2 = Int32.ofNat 0 := (cc.i (by omega)).trans eb2
  have Tc : TR sc b 0 [] := ⟨eN, Nat.zero_le _, [], ⟨⟨eU, fun j hj => absurd hj (Nat.not_lt_zero j)⟩, Nat.zero_le _, fun y hy => (by cases hy)⟩, Nat.zero_le _, fun k n hk => (by simp at hk)⟩
  obtain ⟨s1, d1, d2, d3⟩ := x67 Kc (Nat.zero_le _) e7
  have he : bu (dm67 sc) (fun s40 => dm63_26 5000 0 s40) = some (v, s') := he
  rw [d1] at he
  simp only [bu_some] at he
  have X1 : XI s1 b t ns (skS t 0) [] [] 0 0 := ⟨Kc.of (b := b) (d3.mono fun a k z => a7C z), (trM Tc p2 d3 (fun a k z => by unfold a7 at z; omega)).up (Nat.zero_le _), ⟨⟨(d3.i (by unfold a7; omega)).trans e2, Nat.zero_le _, trivial⟩, (d3.i (by unfold a7; omega)).trans e3, Nat.zero_le _, trivial⟩, d2, (d3.i (by unfold a7; omega)).trans e8, (d3.i (by unfold a7; omega)).trans e9, fun z => absurd rfl z⟩
  have hMI : MI ns [] [] := ⟨fun f hf => (by cases hf), fun n hn => (by cases hn)⟩
  have hIV : IV t ns (0, [], [], 0, 0) := ⟨Nat.zero_le _, hMI, fun _ => ⟨rfl, Or.inl rfl⟩, fun z => absurd rfl z, fun z => absurd z (by decide : ¬ (0 : Nat) = 1)⟩
  have hs := sim (b := b) (ns := ns) 599 (0, [], [], 0, 0) 0 5000 s1 X1 hIV (by
    unfold muS
    show 2 * (t.length - 0) + 1 ≤ 599
    omega) (by
    show 0 + 2 * (t.length - skS t 0) ≤ 512
    omega) v s' he
  unfold mRd
  cases hr : mRun t ns 600 (0, [], [], 0, 0) with
  | inl p =>
    rw [hr] at hs
    exact hs
  | inr q =>
    rw [hr] at hs
    have hs : v = -1 ∧ TR s' b 256 (flC q.1 ++ q.2) := hs
    refine ⟨hs.1, ?_⟩
    have hq := mRun_gd hn hl hok 600 (0, [], [], 0, 0) q (Nat.zero_le _) (fun _ => ⟨rfl, fun z => absurd z (by decide)⟩) (fun z => absurd z (by decide : ¬ (0 : Nat) = 1)) hMI hr
    have e := rd_fl (x := 0) q.1 q.2 hq.1
    have h0 := mRun_o 600 _ q hr
    rcases rd_in q.1 q.2 with ⟨z1, -⟩ | ⟨f, F0, -, -, -, -, z5⟩
    · rw [z1] at e
      have e : (rdF 0 q.1 q.2).2 = flC q.1 ++ q.2 := e
      show TR s' b 256 (rdF 0 q.1 q.2).2
      rw [e]
      exact hs.2
    · omega
end XX
end
section
/-! letters of nodes through drop, move and shift in FormulaTrees -/
/-- where letters of a node lie: as before, or nowhere (a cell or a range that is lost) -/
def LZ (s s1 : aS) (b i : Nat) (d : Nd) : Prop := (sI s1 (b + 1) (11 * i + 9) = sI s (b + 1) (11 * i + 9) ∧ sI s1 (b + 1) (11 * i + 10) = sI s (b + 1) (11 * i + 10)) ∨ (isRf d ∧ sI s1 (b + 1) (11 * i + 9) = 0 ∧ sI s1 (b + 1) (11 * i + 10) = 0)
set_option maxRecDepth 100000 in
theorem LZ.tr {s s1 s2 : aS} {b i : Nat} {d : Nd} (h : LZ s s1 b i d) (g : LZ s1 s2 b i d) : LZ s s2 b i d := by
  rcases g with g | g
  · rcases h with h | h
    · exact Or.inl ⟨g.1.trans h.1, g.2.trans h.2⟩
    · exact Or.inr ⟨h.1, g.1.trans h.2.1, g.2.trans h.2.2⟩
  · exact Or.inr g
set_option maxRecDepth 100000 in
theorem LZ.rf (s : aS) (b i : Nat) (d : Nd) : LZ s s b i d := Or.inl ⟨rfl, rfl⟩
set_option maxRecDepth 100000 in
theorem LZ.on {s s1 : aS} {b j : Nat} {F : Nat → Nd} (hc : ch (fun a q => a = b + 1 ∧ 11 * j ≤ q ∧ q < 11 * j + 11) s s1) (h : LZ s s1 b j (F j)) (i : Nat) : LZ s s1 b i (F i) := by
  by_cases e : i = j
  · rw [e]
    exact h
  · exact Or.inl ⟨hc.i (by omega), hc.i (by omega)⟩
set_option maxRecDepth 100000 in
theorem NL.lz {s s1 : aS} {b i : Nat} {d : Nd} {u l : List Int32} (h : NL s b i u l) (g : LZ s s1 b i d) (he : isRf d → l = []) : NL s1 b i u l := by
  rcases g with g | g
  · obtain ⟨st, e1, e2, e3⟩ := h
    exact ⟨st, g.1.trans e1, g.2.trans e2, e3⟩
  · rw [he g.1]
    exact ⟨0, g.2.1, g.2.2, Nat.zero_le _, fun j hj => absurd hj (Nat.not_lt_zero j)⟩
set_option maxRecDepth 100000 in
theorem d136x {s : aS} {b N i : Nat} {d : Nd} {t k n : Int32} (hn : sI s b 2 = Int32.ofNat N) (h8 : N ≤ 128) (hi : i < N) (h : CR s b i d) : ∃ s', dm136 b (Int32.ofNat i) t k n s = some (b01 (¬ lastT t < pA (d (wA t)) k n), s') ∧ CR s' b i (setN (setN d (wA t) (pA (d (wA t)) k n)) (wB t) (pB (d (wB t)) k n (lastT t))) ∧ ch (fun a q => a = b + 1 ∧ 11 * i ≤ q ∧ q < 11 * i + 9) s s' := by
  -- the chain with both places named
  have chain : ∀ u v : Nat, u < 9 → v < 9 → (∀ r, (if t = 0 then dm136_16 b (Int32.ofNat i) t k n r b (Int32.ofNat i) 6 s else dm136_16 b (Int32.ofNat i) t k n r b (Int32.ofNat i) 5 s) = dm136_16 b (Int32.ofNat i) t k n r b (Int32.ofNat i) (Int32.ofNat v) s) → (∀ x5 x6, (if t = 0 then dm136_43 b (Int32.ofNat i) t x5 x6 b (Int32.ofNat i) 4 s else dm136_43 b (Int32.ofNat i) t x5 x6 b (Int32.ofNat i) 3 s) = dm136_43 b (Int32.ofNat i) t x5 x6 b (Int32.ofNat i) (Int32.ofNat u) s) → (∀ x5 x6 s1, (if t = 0 then dm136_52 t x5 x6 b (Int32.ofNat i) 6 s1 else dm136_52 t x5 x6 b (Int32.ofNat i) 5 s1) = dm136_52 t x5 x6 b (Int32.ofNat i) (Int32.ofNat v) s1) → u ≠ v → ∃ s', dm136_7 b (Int32.ofNat i) t k n b (Int32.ofNat i) (Int32.ofNat u) s = some (b01 (¬ lastT t < pA (d u) k n), s') ∧ CR s' b i (setN (setN d u (pA (d u) k n)) v (pB (d v) k n (lastT t))) ∧ ch (fun a q => a = b + 1 ∧ 11 * i ≤ q ∧ q < 11 * i + 9) s s' := by
    intro u v hu hv e1 e2 e3 huv
    have n1 : sI (wI s (b + 1) (11 * i + u) (pA (d u) k n)) b 2 = Int32.ofNat N := (sI_wI _ _ _ _ _ _).trans ((if_neg (by omega)).trans hn)
    have h1 : CR (wI s (b + 1) (11 * i + u) (pA (d u) k n)) b i (setN d u (pA (d u) k n)) := h.set (by omega)
    have p52 : dm136_52 t (pA (d u) k n) (pA (d v) k n) b (Int32.ofNat i) (Int32.ofNat v) (wI s (b + 1) (11 * i + u) (pA (d u) k n)) = some (b01 (¬ lastT t < pA (d u) k n), wI (wI s (b + 1) (11 * i + u) (pA (d u) k n)) (b + 1) (11 * i + v) (pB (d v) k n (lastT t))) := by
      unfold dm136_52
      rw [d132]
      simp only [bu_some]
      rw [d60 n1 h8 hi (by omega)]
      simp only [bu_some]
      by_cases q : lastT t < pA (d u) k n
      · rw [if_pos q, b01_f (fun z => z q)]
        rfl
      · rw [if_neg q, b01_t q]
        rfl
    refine ⟨_, ?_, h1.set (by omega), ((ch.refl _ s).wI (by omega)).wI (by omega)⟩
    unfold dm136_7
    rw [CR.f hn h8 hi h hu]
    simp only [bu_some]
    rw [e1]
    unfold dm136_16
    rw [CR.f hn h8 hi h hv]
    simp only [bu_some]
    have p34 : dm136_34 b (Int32.ofNat i) t (pA (d u) k n) (d v) (if d v < k then 0 else n) s = some (b01 (¬ lastT t < pA (d u) k n), wI (wI s (b + 1) (11 * i + u) (pA (d u) k n)) (b + 1) (11 * i + v) (pB (d v) k n (lastT t))) := by
      unfold dm136_34
      have ev : d v + (if d v < k then 0 else n) = pA (d v) k n := by
        unfold pA
        split <;> rfl
      rw [ev, e2]
      unfold dm136_43
      rw [d60 hn h8 hi (by omega)]
      simp only [bu_some]
      rw [e3, p52]
    have p25 : dm136_25 b (Int32.ofNat i) t k n (d v) (d u) (if d u < k then 0 else n) s = some (b01 (¬ lastT t < pA (d u) k n), wI (wI s (b + 1) (11 * i + u) (pA (d u) k n)) (b + 1) (11 * i + v) (pB (d v) k n (lastT t))) := by
      unfold dm136_25
      have eu : d u + (if d u < k then 0 else n) = pA (d u) k n := by
        unfold pA
        split <;> rfl
      rw [eu, ← p34]
      split <;> rfl
    rw [← p25]
    split <;> rfl
  unfold dm136
  by_cases ht : t = 0
  · have eA : wA t = 4 := if_pos ht
    have eB : wB t = 6 := if_pos ht
    rw [if_pos ht, eA, eB]
    exact chain 4 6 (by omega) (by omega) (fun r => by rw [if_pos ht]; rfl) (fun _ _ => by rw [if_pos ht]; rfl) (fun _ _ _ => by rw [if_pos ht]; rfl) (by omega)
  · have eA : wA t = 3 := if_neg ht
    have eB : wB t = 5 := if_neg ht
    rw [if_neg ht, eA, eB]
    exact chain 3 5 (by omega) (by omega) (fun r => by rw [if_neg ht]; rfl) (fun _ _ => by rw [if_neg ht]; rfl) (fun _ _ _ => by rw [if_neg ht]; rfl) (by omega)
set_option maxRecDepth 100000 in
theorem d135x {s : aS} {b N i : Nat} {d : Nd} {t k n : Int32} (hn : sI s b 2 = Int32.ofNat N) (h8 : N ≤ 128) (hi : i < N) (h : CR s b i d) : ∃ s', dm135 b (Int32.ofNat i) t k n s = some (b01 (¬ (¬ d (wA t) < k ∧ d (wB t) < k + n)), s') ∧ CR s' b i (setN (setN d (wA t) (tA (d (wA t)) k n)) (wB t) (tB (d (wB t)) k n)) ∧ ch (fun a q => a = b + 1 ∧ 11 * i ≤ q ∧ q < 11 * i + 9) s s' := by
  have chain : ∀ u v : Nat, u < 9 → v < 9 → (∀ r, (if t = 0 then dm135_16 b (Int32.ofNat i) t k n r b (Int32.ofNat i) 6 s else dm135_16 b (Int32.ofNat i) t k n r b (Int32.ofNat i) 5 s) = dm135_16 b (Int32.ofNat i) t k n r b (Int32.ofNat i) (Int32.ofNat v) s) → (∀ x5 x6 x8, (if t = 0 then dm135_59 b (Int32.ofNat i) t x5 x6 x8 b (Int32.ofNat i) 4 s else dm135_59 b (Int32.ofNat i) t x5 x6 x8 b (Int32.ofNat i) 3 s) = dm135_59 b (Int32.ofNat i) t x5 x6 x8 b (Int32.ofNat i) (Int32.ofNat u) s) → (∀ x6 x8 s1, (if t = 0 then dm135_68 x6 x8 b (Int32.ofNat i) 6 s1 else dm135_68 x6 x8 b (Int32.ofNat i) 5 s1) = dm135_68 x6 x8 b (Int32.ofNat i) (Int32.ofNat v) s1) → ∃ s', dm135_7 b (Int32.ofNat i) t k n b (Int32.ofNat i) (Int32.ofNat u) s = some (b01 (¬ (¬ d u < k ∧ d v < k + n)), s') ∧ CR s' b i (setN (setN d u (tA (d u) k n)) v (tB (d v) k n)) ∧ ch (fun a q => a = b + 1 ∧ 11 * i ≤ q ∧ q < 11 * i + 9) s s' := by
    intro u v hu hv e1 e2 e3
    have n1 : ∀ y, sI (wI s (b + 1) (11 * i + u) y) b 2 = Int32.ofNat N := fun y => (sI_wI _ _ _ _ _ _).trans ((if_neg (by omega)).trans hn)
    have p52 : ∀ x5 x6 x8 : Int32, (x8 = 0 ∨ x8 = 1) → dm135_52 b (Int32.ofNat i) t x5 x6 x8 s = some (x8, wI (wI s (b + 1) (11 * i + u) x5) (b + 1) (11 * i + v) x6) := by
      intro x5 x6 x8 h01
      unfold dm135_52
      rw [e2]
      unfold dm135_59
      rw [d60 hn h8 hi (by omega)]
      simp only [bu_some]
      rw [e3]
      unfold dm135_68
      rw [d60 (n1 _) h8 hi (by omega)]
      simp only [bu_some]
      rw [if_pos h01]
    have p41 : ∀ x5 x8 : Int32, (x8 = 0 ∨ x8 = 1) → dm135_41 b (Int32.ofNat i) t k n x5 (d v) x8 s = some (x8, wI (wI s (b + 1) (11 * i + u) x5) (b + 1) (11 * i + v) (tB (d v) k n)) := by
      intro x5 x8 h01
      unfold dm135_41 tB
      by_cases q : d v < k
      · rw [if_pos q, if_pos q, p52 _ _ _ h01]
      · rw [if_neg q, if_neg q, p52 _ _ _ h01]
    have p31 : ∀ x8 : Int32, (x8 = 0 ∨ x8 = 1) → dm135_31 b (Int32.ofNat i) t k n (d u) (d v) x8 s = some (x8, wI (wI s (b + 1) (11 * i + u) (tA (d u) k n)) (b + 1) (11 * i + v) (tB (d v) k n)) := by
      intro x8 h01
      unfold dm135_31 tA
      by_cases q : d u < k
      · rw [if_pos q, if_pos q, p41 _ _ h01]
      · rw [if_neg q, if_neg q, p41 _ _ h01]
    refine ⟨wI (wI s (b + 1) (11 * i + u) (tA (d u) k n)) (b + 1) (11 * i + v) (tB (d v) k n), ?_, (h.set (by omega)).set (by omega), ((ch.refl _ s).wI (by omega)).wI (by omega)⟩
    unfold dm135_7
    rw [CR.f hn h8 hi h hu]
    simp only [bu_some]
    rw [e1]
    unfold dm135_16 dm135_28
    rw [CR.f hn h8 hi h hv]
    simp only [bu_some]
    rw [p31 1 (Or.inr rfl), p31 0 (Or.inl rfl)]
    by_cases q1 : d u < k
    · rw [if_pos q1, b01_t]
      exact fun z => z.1 q1
    · rw [if_neg q1]
      by_cases q2 : d v < k + n
      · rw [if_pos q2, b01_f]
        exact fun z => z ⟨q1, q2⟩
      · rw [if_neg q2, b01_t]
        exact fun z => q2 z.2
  unfold dm135
  by_cases ht : t = 0
  · have eA : wA t = 4 := if_pos ht
    have eB : wB t = 6 := if_pos ht
    rw [if_pos ht, eA, eB]
    exact chain 4 6 (by omega) (by omega) (fun r => by rw [if_pos ht]; rfl) (fun _ _ _ => by rw [if_pos ht]; rfl) (fun _ _ _ => by rw [if_pos ht]; rfl)
  · have eA : wA t = 3 := if_neg ht
    have eB : wB t = 5 := if_neg ht
    rw [if_neg ht, eA, eB]
    exact chain 3 5 (by omega) (by omega) (fun r => by rw [if_neg ht]; rfl) (fun _ _ _ => by rw [if_neg ht]; rfl) (fun _ _ _ => by rw [if_neg ht]; rfl)
set_option maxRecDepth 100000 in
theorem d134y {s : aS} {b N i : Nat} {d : Nd} {x y t k n c : Int32} {k4 : Nat → Int32 → Int32 → Int32 → Int32 → Int32 → Int32 → Int32 → aS → Option (Int32 × aS)} (hn : sI s b 2 = Int32.ofNat N) (h8 : N ≤ 128) (hi : i < N) (h : CR s b i d) (hf : isRf d) : ∃ s', dm134_25 k4 b x y t k n c (Int32.ofNat i) s = k4 b x y t k n (shK t k n d c) (Int32.ofNat (i + 1)) s' ∧ CR s' b i (shN t k n d) ∧ ch (fun a q => a = b + 1 ∧ 11 * i ≤ q ∧ q < 11 * i + 11) s s' ∧ LZ s s' b i d := by
  have fin : ∀ (s1 : aS) (e : Nd) (p : Prop), CR s1 b i e → ch (fun a q => a = b + 1 ∧ 11 * i ≤ q ∧ q < 11 * i + 9) s s1 → ∃ s', dm134_41 k4 b x y t k n c (Int32.ofNat i) (b01 p) s1 = k4 b x y t k n (if b01 p = 0 then c + 1 else c) (Int32.ofNat (i + 1)) s' ∧ CR s' b i (if b01 p = 0 then loF else e) ∧ ch (fun a q => a = b + 1 ∧ 11 * i ≤ q ∧ q < 11 * i + 11) s s' ∧ LZ s s' b i d := by
    intro s1 e p h1 hc
    unfold dm134_41 dm134_48
    rw [ofNat_succ (by omega)]
    by_cases q : b01 p = 0
    · rw [if_pos q, if_pos q, if_pos q]
      obtain ⟨s', g1, g2, g3⟩ := d58 ((hc.i (by omega)).trans hn) h8 hi
      rw [g1]
      exact ⟨s', rfl, fun w hw => g2 w (by omega), (hc.mono fun a q z => by omega).trans g3, Or.inr ⟨hf, g2 9 (by omega), g2 10 (by omega)⟩⟩
    · rw [if_neg q, if_neg q, if_neg q]
      exact ⟨s1, rfl, h1, hc.mono fun a q z => (by omega), Or.inl ⟨hc.i (by omega), hc.i (by omega)⟩⟩
  unfold dm134_25 shK shN
  by_cases q : 0 ≤ n
  · rw [if_pos q, if_pos q, if_pos q]
    obtain ⟨s1, g1, g2, g3⟩ := d136x (t := t) (k := k) (n := n) hn h8 hi h
    rw [g1]
    simp only [bv_some]
    exact fin s1 _ _ g2 g3
  · rw [if_neg q, if_neg q, if_neg q]
    obtain ⟨s1, g1, g2, g3⟩ := d135x (t := t) (k := k) (n := -n) hn h8 hi h
    rw [g1]
    simp only [bv_some]
    exact fin s1 _ _ g2 g3
set_option maxRecDepth 100000 in
theorem d130y {s : aS} {b n i : Nat} {d : Nd} {r c : Int32} (hn : sI s b 2 = Int32.ofNat n) (h8 : n ≤ 128) (hi : i < n) (h : CR s b i d) (hf : isRf d) : ∃ s', dm130 b (Int32.ofNat i) r c s = some s' ∧ CR s' b i (mvC r c d) ∧ ch (fun a q => a = b + 1 ∧ 11 * i ≤ q ∧ q < 11 * i + 11) s s' ∧ LZ s s' b i d := by
  have lost : ∀ (k w : Nat) (s1 : aS), w < 100 → sI s1 b 2 = Int32.ofNat n → ch (fun a q => a = b + 1 ∧ 11 * i ≤ q ∧ q < 11 * i + 9) s s1 → ∃ s', dm130_4 (k + 1) b (Int32.ofNat i) r c 0 (Int32.ofNat w) s1 = some s' ∧ CR s' b i loF ∧ ch (fun a q => a = b + 1 ∧ 11 * i ≤ q ∧ q < 11 * i + 11) s s' ∧ LZ s s' b i d := by
    intro k w s1 hw h1 hc
    obtain ⟨s', g1, g2, g3⟩ := d58 h1 h8 hi
    have e55 : dm130_55 b (Int32.ofNat i) 0 s1 = some s' := by
      unfold dm130_55
      rw [if_pos rfl, g1]
      rfl
    refine ⟨s', ?_, fun w hw => g2 w (by omega), (hc.mono fun a q z => by omega).trans g3, Or.inr ⟨hf, g2 9 (by omega), g2 10 (by omega)⟩⟩
    rw [dm130_4, if_pos rfl, e55]
    split <;> rfl
  have st : ∀ (s1 : aS) (w : Nat) (v : Int32), w < 9 → sI s1 b 2 = Int32.ofNat n → ch (fun a q => a = b + 1 ∧ 11 * i ≤ q ∧ q < 11 * i + 9) s s1 → sI (wI s1 (b + 1) (11 * i + w) v) b 2 = Int32.ofNat n ∧ ch (fun a q => a = b + 1 ∧ 11 * i ≤ q ∧ q < 11 * i + 9) s (wI s1 (b + 1) (11 * i + w) v) := by
    intro s1 w v hw h1 hc
    exact ⟨(sI_wI _ _ _ _ _ _).trans ((if_neg (by omega)).trans h1), hc.wI (by omega)⟩
  unfold dm130 mvC
  rw [show dm130_4 5000 b (Int32.ofNat i) r c 1 3 s = dm130_4 (4999 + 1) b (Int32.ofNat i) r c 1 (Int32.ofNat 3) s from rfl, d130s hn h8 hi h (by omega)]
  obtain ⟨n1, c1⟩ := st s 3 (cvW r c d 3) (by omega) hn (ch.refl _ s)
  have h1 := h.set (w := 3) (v := cvW r c d 3) (by omega)
  by_cases q1 : okW (cvW r c d 3) 3 = 0
  · rw [if_pos q1, q1]
    exact lost 4998 4 _ (by omega) n1 c1
  · rw [if_neg q1, okW_1 q1]
    generalize setN d 3 (cvW r c d 3) = e1 at h1 ⊢
    generalize wI s (b + 1) (11 * i + 3) (cvW r c d 3) = s1 at h1 n1 c1 ⊢
    rw [show dm130_4 4999 b (Int32.ofNat i) r c 1 (Int32.ofNat (3 + 1)) s1 = dm130_4 (4998 + 1) b (Int32.ofNat i) r c 1 (Int32.ofNat 4) s1 from rfl, d130s n1 h8 hi h1 (by omega)]
    obtain ⟨n2, c2⟩ := st s1 4 (cvW r c e1 4) (by omega) n1 c1
    have h2 := h1.set (w := 4) (v := cvW r c e1 4) (by omega)
    by_cases q2 : okW (cvW r c e1 4) 4 = 0
    · rw [if_pos q2, q2]
      exact lost 4997 5 _ (by omega) n2 c2
    · rw [if_neg q2, okW_1 q2]
      generalize setN e1 4 (cvW r c e1 4) = e2 at h2 ⊢
      generalize wI s1 (b + 1) (11 * i + 4) (cvW r c e1 4) = s2 at h2 n2 c2 ⊢
      rw [show dm130_4 4998 b (Int32.ofNat i) r c 1 (Int32.ofNat (4 + 1)) s2 = dm130_4 (4997 + 1) b (Int32.ofNat i) r c 1 (Int32.ofNat 5) s2 from rfl, d130s n2 h8 hi h2 (by omega)]
      obtain ⟨n3, c3⟩ := st s2 5 (cvW r c e2 5) (by omega) n2 c2
      have h3 := h2.set (w := 5) (v := cvW r c e2 5) (by omega)
      by_cases q3 : okW (cvW r c e2 5) 5 = 0
      · rw [if_pos q3, q3]
        exact lost 4996 6 _ (by omega) n3 c3
      · rw [if_neg q3, okW_1 q3]
        generalize setN e2 5 (cvW r c e2 5) = e3 at h3 ⊢
        generalize wI s2 (b + 1) (11 * i + 5) (cvW r c e2 5) = s3 at h3 n3 c3 ⊢
        rw [show dm130_4 4997 b (Int32.ofNat i) r c 1 (Int32.ofNat (5 + 1)) s3 = dm130_4 (4996 + 1) b (Int32.ofNat i) r c 1 (Int32.ofNat 6) s3 from rfl, d130s n3 h8 hi h3 (by omega)]
        obtain ⟨n4, c4⟩ := st s3 6 (cvW r c e3 6) (by omega) n3 c3
        have h4 := h3.set (w := 6) (v := cvW r c e3 6) (by omega)
        by_cases q4 : okW (cvW r c e3 6) 6 = 0
        · rw [if_pos q4, q4]
          exact lost 4995 7 _ (by omega) n4 c4
        · rw [if_neg q4, okW_1 q4]
          generalize setN e3 6 (cvW r c e3 6) = e4 at h4 ⊢
          generalize wI s3 (b + 1) (11 * i + 6) (cvW r c e3 6) = s4 at h4 n4 c4 ⊢
          obtain ⟨s', g1, g2, g3⟩ := d101x n4 h8 hi h4
          have c5 := c4.trans g3
          refine ⟨s', ?_, g2, c5.mono fun a q z => (by omega), Or.inl ⟨c5.i (by omega), c5.i (by omega)⟩⟩
          rw [show dm130_4 4996 b (Int32.ofNat i) r c 1 (Int32.ofNat (6 + 1)) s4 = dm130_4 (4995 + 1) b (Int32.ofNat i) r c 1 (Int32.ofNat 7) s4 from rfl, dm130_4, if_pos (by decide)]
          unfold dm130_55
          rw [if_neg (by decide), g1]
          rfl
set_option maxRecDepth 100000 in
theorem d128v {b n : Nat} {r c : Int32} {F : Nat → Nd} : ∀ (m j k : Nat) (s : aS), j + m = n → m < k → TF9 s b n (fun i => if i < j then onRf (mvC r c) (F i) else F i) → ∃ s', dm128_2 k b r c (Int32.ofNat j) s = some s' ∧ TF9 s' b n (fun i => onRf (mvC r c) (F i)) ∧ ch (fun a _ => a = b + 1) s s' ∧ ∀ i, LZ s s' b i (F i) := by
  intro m
  induction m with
  | zero =>
    intro j k s hj hk h
    obtain ⟨k, rfl⟩ : ∃ q, k = q + 1 := ⟨k - 1, by omega⟩
    have h8 := h.2.1
    rw [dm128_2, h.1, if_pos (by rw [iLe, iOfNat (by omega), iOfNat (by omega)]; omega)]
    exact ⟨s, rfl, h.cg fun i hi w hw => by show (if i < j then onRf (mvC r c) (F i) else F i) w = _; rw [if_pos (by omega)], ch.refl _ s, fun i => LZ.rf s b i _⟩
  | succ m ih =>
    intro j k s hj hk h
    obtain ⟨k, rfl⟩ : ∃ q, k = q + 1 := ⟨k - 1, by omega⟩
    have h8 := h.2.1
    have hr : CR s b j (F j) := by
      have := h.row (i := j) (by omega)
      have : CR s b j (if j < j then onRf (mvC r c) (F j) else F j) := this
      rw [if_neg (by omega)] at this
      exact this
    rw [dm128_2, h.1, if_neg (by rw [iLe, iOfNat (by omega), iOfNat (by omega)]; omega), d129 h.1 h8 (by omega) hr]
    simp only [bu_some]
    unfold dm128_15
    rw [ofNat_succ (by omega)]
    have next : ∀ s1, TF9 s1 b n (fun i => if i = j then onRf (mvC r c) (F j) else if i < j then onRf (mvC r c) (F i) else F i) → ch (fun a _ => a = b + 1) s s1 → (∀ i, LZ s s1 b i (F i)) → ∃ s', dm128_2 k b r c (Int32.ofNat (j + 1)) s1 = some s' ∧ TF9 s' b n (fun i => onRf (mvC r c) (F i)) ∧ ch (fun a _ => a = b + 1) s s' ∧ ∀ i, LZ s s' b i (F i) := by
      intro s1 t1 c1 z1
      obtain ⟨s', a1, a2, a3, a4⟩ := ih (j + 1) k s1 (by omega) (by omega) (t1.cg fun i hi w hw => by
        show (if i = j then onRf (mvC r c) (F j) else if i < j then onRf (mvC r c) (F i) else F i) w = (if i < j + 1 then onRf (mvC r c) (F i) else F i) w
        by_cases e : i = j
        · subst e
          rw [if_pos rfl, if_pos (by omega)]
        · rw [if_neg e]
          by_cases e2 : i < j
          · rw [if_pos e2, if_pos (by omega)]
          · rw [if_neg e2, if_neg (by omega)])
      exact ⟨s', a1, a2, c1.trans a3, fun i => (z1 i).tr (a4 i)⟩
    by_cases q : isRf (F j)
    · rw [b01_t q, if_neg (by decide)]
      obtain ⟨s1, g1, g2, g3, g4⟩ := d130y (r := r) (c := c) h.1 h8 (by omega : j < n) hr q
      rw [g1]
      simp only [bu_some]
      refine next s1 (h.up (g := onRf (mvC r c) (F j)) (by omega) (fun w hw => ?_) g3) (g3.mono fun a q z => z.1) (LZ.on g3 g4)
      rw [onRf_t q]
      exact g2 w hw
    · rw [b01_f q, if_pos rfl]
      refine next s (h.cg fun i hi w hw => ?_) (ch.refl _ s) (fun i => LZ.rf s b i _)
      show (if i < j then onRf (mvC r c) (F i) else F i) w = (if i = j then onRf (mvC r c) (F j) else if i < j then onRf (mvC r c) (F i) else F i) w
      by_cases e : i = j
      · subst e
        rw [if_neg (by omega), if_pos rfl, onRf_f q]
      · rw [if_neg e]
set_option maxRecDepth 100000 in
theorem d128y {s : aS} {b : Nat} {L : List Nd} {r c : Int32} (h : TC s b L) : ∃ s', dm128 b r c s = some s' ∧ TC s' b (L.map (onRf (mvC r c))) ∧ ch (fun a _ => a = b + 1) s s' ∧ ∀ i (g : i < L.length), LZ s s' b i L[i] := by
  have h8 := h.2.1
  obtain ⟨s', g1, g2, g3, g4⟩ := d128v (b := b) (r := r) (c := c) (F := fun i => L.getD i (fun _ => 0)) L.length 0 5000 s (by omega) (by omega) (h.f.cg fun i hi w hw => by
    show L.getD i (fun _ => 0) w = (if i < 0 then _ else L.getD i (fun _ => 0)) w
    rw [if_neg (by omega)])
  refine ⟨s', g1, g2.c (by rw [List.length_map]) fun i hi w hw => ?_, g3, fun i hi => by have := g4 i; rw [getD_nd hi] at this; exact this⟩
  rw [List.length_map] at hi
  show onRf (mvC r c) (L.getD i (fun _ => 0)) w = _
  rw [List.getElem_map, List.getD, List.getElem?_eq_getElem hi]
  rfl
set_option maxRecDepth 100000 in
theorem d134v {b N : Nat} {x y t k n : Int32} {F : Nat → Nd} : ∀ (q j z : Nat) (c : Int32) (s : aS), j + q = N → q < z → TF9 s b N (fun i => if i < j then shF x y t k n (F i) else F i) → ∃ s', dm134_4 z b x y t k n c (Int32.ofNat j) s = some (scC x y t k n F q j c, s') ∧ TF9 s' b N (fun i => shF x y t k n (F i)) ∧ ch (fun a _ => a = b + 1) s s' ∧ ∀ i, LZ s s' b i (F i) := by
  intro q
  induction q with
  | zero =>
    intro j z c s hj hz h
    obtain ⟨z, rfl⟩ : ∃ a, z = a + 1 := ⟨z - 1, by omega⟩
    have h8 := h.2.1
    rw [dm134_4, h.1, if_pos (by rw [iLe, iOfNat (by omega), iOfNat (by omega)]; omega)]
    exact ⟨s, rfl, h.cg fun i hi w hw => by show (if i < j then shF x y t k n (F i) else F i) w = _; rw [if_pos (by omega)], ch.refl _ s, fun i => LZ.rf s b i _⟩
  | succ q ih =>
    intro j z c s hj hz h
    obtain ⟨z, rfl⟩ : ∃ a, z = a + 1 := ⟨z - 1, by omega⟩
    have h8 := h.2.1
    have hr : CR s b j (F j) := by
      have := h.row (i := j) (by omega)
      have : CR s b j (if j < j then shF x y t k n (F j) else F j) := this
      rw [if_neg (by omega)] at this
      exact this
    have f2 : dm57 b (Int32.ofNat j) 2 s = some (F j 2) := CR.f (w := 2) h.1 h8 (by omega) hr (by omega)
    have next : ∀ (s1 : aS) (c1 : Int32), c1 = shG x y t k n (F j) c → TF9 s1 b N (fun i => if i = j then shF x y t k n (F j) else if i < j then shF x y t k n (F i) else F i) → ch (fun a _ => a = b + 1) s s1 → (∀ i, LZ s s1 b i (F i)) → ∃ s', dm134_4 z b x y t k n c1 (Int32.ofNat (j + 1)) s1 = some (scC x y t k n F q (j + 1) (shG x y t k n (F j) c), s') ∧ TF9 s' b N (fun i => shF x y t k n (F i)) ∧ ch (fun a _ => a = b + 1) s s' ∧ ∀ i, LZ s s' b i (F i) := by
      intro s1 c1 hc1 t1 cc1 z1
      subst hc1
      obtain ⟨s', a1, a2, a3, a4⟩ := ih (j + 1) z (shG x y t k n (F j) c) s1 (by omega) (by omega) (t1.cg fun i hi w hw => by
        show (if i = j then shF x y t k n (F j) else if i < j then shF x y t k n (F i) else F i) w = (if i < j + 1 then shF x y t k n (F i) else F i) w
        by_cases e : i = j
        · subst e
          rw [if_pos rfl, if_pos (by omega)]
        · rw [if_neg e]
          by_cases e2 : i < j
          · rw [if_pos e2, if_pos (by omega)]
          · rw [if_neg e2, if_neg (by omega)])
      exact ⟨s', a1, a2, cc1.trans a3, fun i => (z1 i).tr (a4 i)⟩
    have no : ¬ onC x y (F j) → ∃ s', dm134_48 (dm134_4 z) b x y t k n c (Int32.ofNat j) s = some (scC x y t k n F q (j + 1) (shG x y t k n (F j) c), s') ∧ TF9 s' b N (fun i => shF x y t k n (F i)) ∧ ch (fun a _ => a = b + 1) s s' ∧ ∀ i, LZ s s' b i (F i) := by
      intro hq
      unfold dm134_48
      rw [ofNat_succ (by omega)]
      refine next s c (by unfold shG; rw [b01_f hq, if_pos rfl]) (h.cg fun i hi w hw => ?_) (ch.refl _ s) (fun i => LZ.rf s b i _)
      show (if i < j then shF x y t k n (F i) else F i) w = (if i = j then shF x y t k n (F j) else if i < j then shF x y t k n (F i) else F i) w
      by_cases e : i = j
      · subst e
        rw [if_neg (by omega), if_pos rfl]
        unfold shF
        rw [b01_f hq, if_pos rfl]
      · rw [if_neg e]
    have yes : onC x y (F j) → ∃ s', dm134_25 (dm134_4 z) b x y t k n c (Int32.ofNat j) s = some (scC x y t k n F q (j + 1) (shG x y t k n (F j) c), s') ∧ TF9 s' b N (fun i => shF x y t k n (F i)) ∧ ch (fun a _ => a = b + 1) s s' ∧ ∀ i, LZ s s' b i (F i) := by
      intro hq
      obtain ⟨s1, g1, g2, g3, g4⟩ := d134y (x := x) (y := y) (t := t) (k := k) (n := n) (c := c) (k4 := dm134_4 z) h.1 h8 (by omega : j < N) hr hq.1
      rw [g1]
      refine next s1 _ (by unfold shG; rw [b01_t hq, if_neg (by decide)]) (h.up (g := shF x y t k n (F j)) (by omega) (fun w hw => ?_) g3) (g3.mono fun a q z => z.1) (LZ.on g3 g4)
      unfold shF
      rw [b01_t hq, if_neg (by decide)]
      exact g2 w hw
    rw [dm134_4, h.1, if_neg (by rw [iLe, iOfNat (by omega), iOfNat (by omega)]; omega), f2, d129 h.1 h8 (by omega) hr]
    simp only [bu_some]
    show ∃ s', _ = some (scC x y t k n F q (j + 1) (shG x y t k n (F j) c), s') ∧ _
    by_cases hf : isRf (F j)
    · rw [b01_t hf, if_neg (by decide)]
      by_cases c1 : F j 2 = x
      · rw [if_pos c1]
        exact yes ⟨hf, Or.inl c1⟩
      · rw [if_neg c1]
        by_cases c2 : F j 2 = -1
        · rw [if_pos c2]
          by_cases c3 : y = 0
          · rw [if_pos c3]
            refine no fun z => ?_
            rcases z.2 with q | q
            · exact c1 q
            · exact q.2 c3
          · rw [if_neg c3]
            exact yes ⟨hf, Or.inr ⟨c2, c3⟩⟩
        · rw [if_neg c2]
          refine no fun z => ?_
          rcases z.2 with q | q
          · exact c1 q
          · exact c2 q.1
    · rw [b01_f hf, if_pos rfl]
      exact no fun z => hf z.1
set_option maxRecDepth 100000 in
theorem d134z {s : aS} {b : Nat} {L : List Nd} {x y t k n : Int32} (h : TC s b L) : ∃ s', dm134 b x y t k n s = some (scC x y t k n (fun i => L.getD i (fun _ => 0)) L.length 0 0, s') ∧ TC s' b (L.map (shF x y t k n)) ∧ ch (fun a _ => a = b + 1) s s' ∧ ∀ i (g : i < L.length), LZ s s' b i L[i] := by
  have h8 := h.2.1
  obtain ⟨s', g1, g2, g3, g4⟩ := d134v (b := b) (x := x) (y := y) (t := t) (k := k) (n := n) (F := fun i => L.getD i (fun _ => 0)) L.length 0 5000 0 s (by omega) (by omega) (h.f.cg fun i hi w hw => by
    show L.getD i (fun _ => 0) w = (if i < 0 then _ else L.getD i (fun _ => 0)) w
    rw [if_neg (by omega)])
  refine ⟨s', g1, g2.c (by rw [List.length_map]) fun i hi w hw => ?_, g3, fun i hi => by have := g4 i; rw [getD_nd hi] at this; exact this⟩
  rw [List.length_map] at hi
  show shF x y t k n (L.getD i (fun _ => 0)) w = _
  rw [List.getElem_map, List.getD, List.getElem?_eq_getElem hi]
  rfl
set_option maxRecDepth 100000 in
theorem d56v {b n : Nat} {x : Int32} {F : Nat → Nd} (hR : ∀ i, i < n → F i 2 = x → isRf (F i)) : ∀ (m j k : Nat) (s : aS), j + m = n → m < k → TF9 s b n (fun i => if i < j then lsN x (F i) else F i) → ∃ s', dm56_2 k b x (Int32.ofNat j) s = some s' ∧ TF9 s' b n (fun i => lsN x (F i)) ∧ ch (fun a _ => a = b + 1) s s' ∧ ∀ i, LZ s s' b i (F i) := by
  intro m
  induction m with
  | zero =>
    intro j k s hj hk h
    obtain ⟨k, rfl⟩ : ∃ q, k = q + 1 := ⟨k - 1, by omega⟩
    have h8 := h.2.1
    rw [dm56_2, h.1, if_pos (by rw [iLe, iOfNat (by omega), iOfNat (by omega)]; omega)]
    exact ⟨s, rfl, h.cg fun i hi w hw => by show (if i < j then lsN x (F i) else F i) w = _; rw [if_pos (by omega)], ch.refl _ s, fun i => LZ.rf s b i _⟩
  | succ m ih =>
    intro j k s hj hk h
    obtain ⟨k, rfl⟩ : ∃ q, k = q + 1 := ⟨k - 1, by omega⟩
    have h8 := h.2.1
    have ef : sI s (b + 1) (11 * j + 2) = F j 2 := by
      have := h.2.2 j (by omega) 2 (by omega)
      have : sI s (b + 1) (11 * j + 2) = (if j < j then lsN x (F j) else F j) 2 := this
      rw [if_neg (by omega)] at this
      exact this
    have q2 : dm57 b (Int32.ofNat j) 2 s = some (F j 2) := by
      have := d57 (s := s) (b := b) (i := j) (w := 2) h.1 h8 (by omega) (by omega)
      rw [ef] at this
      exact this
    rw [dm56_2, h.1, if_neg (by rw [iLe, iOfNat (by omega), iOfNat (by omega)]; omega), q2]
    simp only [bu_some]
    unfold dm56_28
    rw [ofNat_succ (by omega)]
    have next : ∀ s1, TF9 s1 b n (fun i => if i = j then lsN x (F j) else if i < j then lsN x (F i) else F i) → ch (fun a _ => a = b + 1) s s1 → (∀ i, LZ s s1 b i (F i)) → ∃ s', dm56_2 k b x (Int32.ofNat (j + 1)) s1 = some s' ∧ TF9 s' b n (fun i => lsN x (F i)) ∧ ch (fun a _ => a = b + 1) s s' ∧ ∀ i, LZ s s' b i (F i) := by
      intro s1 t1 c1 z1
      obtain ⟨s', a1, a2, a3, a4⟩ := ih (j + 1) k s1 (by omega) (by omega) (t1.cg fun i hi w hw => by
        show (if i = j then lsN x (F j) else if i < j then lsN x (F i) else F i) w = (if i < j + 1 then lsN x (F i) else F i) w
        by_cases e : i = j
        · subst e
          rw [if_pos rfl, if_pos (by omega)]
        · rw [if_neg e]
          by_cases e2 : i < j
          · rw [if_pos e2, if_pos (by omega)]
          · rw [if_neg e2, if_neg (by omega)])
      exact ⟨s', a1, a2, c1.trans a3, fun i => (z1 i).tr (a4 i)⟩
    by_cases c1 : F j 2 = x
    · rw [if_pos c1]
      obtain ⟨s1, g1, g2, g3⟩ := d58 h.1 h8 (by omega : j < n)
      rw [g1]
      simp only [bu_some]
      refine next s1 (h.up (g := lsN x (F j)) (by omega) (fun w hw => ?_) g3) (g3.mono fun a q z => z.1) (LZ.on g3 (Or.inr ⟨hR j (by omega) c1, g2 9 (by omega), g2 10 (by omega)⟩))
      unfold lsN
      rw [if_pos c1]
      exact g2 w (by omega)
    · rw [if_neg c1]
      by_cases c2 : F j 2 ≤ x
      · rw [if_pos c2]
        refine next s (h.cg fun i hi w hw => ?_) (ch.refl _ s) (fun i => LZ.rf s b i _)
        show (if i < j then lsN x (F i) else F i) w = (if i = j then lsN x (F j) else if i < j then lsN x (F i) else F i) w
        by_cases e : i = j
        · subst e
          rw [if_neg (by omega), if_pos rfl]
          unfold lsN
          rw [if_neg c1, if_pos c2]
        · rw [if_neg e]
      · rw [if_neg c2]
        have q3 : dm60 b (Int32.ofNat j) 2 (F j 2 - 1) s = some (wI s (b + 1) (11 * j + 2) (F j 2 - 1)) := d60 (w := 2) h.1 h8 (by omega) (by omega)
        rw [q3]
        simp only [bu_some]
        have hc : ch (fun a q => a = b + 1 ∧ 11 * j ≤ q ∧ q < 11 * j + 11) s (wI s (b + 1) (11 * j + 2) (F j 2 - 1)) := (ch.refl _ s).wI (by omega)
        refine next _ (h.up (g := lsN x (F j)) (by omega) (fun w hw => ?_) hc) (hc.mono fun a q z => z.1) (LZ.on hc (Or.inl ⟨by rw [sI_wI, if_neg (by omega)], by rw [sI_wI, if_neg (by omega)]⟩))
        unfold lsN
        rw [if_neg c1, if_neg c2, sI_wI]
        by_cases e : w = 2
        · rw [if_pos ⟨rfl, by omega⟩, if_pos e]
        · rw [if_neg (by omega), if_neg e]
          have := h.2.2 j (by omega) w hw
          have : sI s (b + 1) (11 * j + w) = (if j < j then lsN x (F j) else F j) w := this
          rw [if_neg (by omega)] at this
          exact this
set_option maxRecDepth 100000 in
theorem d56y {s : aS} {b : Nat} {L : List Nd} {x : Int32} (h : TC s b L) (hR : ∀ d ∈ L, d 2 = x → isRf d) : ∃ s', dm56 b x s = some s' ∧ TC s' b (L.map (lsN x)) ∧ ch (fun a _ => a = b + 1) s s' ∧ ∀ i (g : i < L.length), LZ s s' b i L[i] := by
  have h8 := h.2.1
  obtain ⟨s', g1, g2, g3, g4⟩ := d56v (b := b) (n := L.length) (x := x) (F := fun i => L.getD i (fun _ => 0)) (fun i hi q => by
    have e : L.getD i (fun _ => 0) = L[i] := getD_nd hi
    rw [e] at q ⊢
    exact hR _ (List.getElem_mem hi) q) L.length 0 5000 s (by omega) (by omega) (h.f.cg fun i hi w hw => by
    show L.getD i (fun _ => 0) w = (if i < 0 then _ else L.getD i (fun _ => 0)) w
    rw [if_neg (by omega)])
  refine ⟨s', g1, g2.c (by rw [List.length_map]) fun i hi w hw => ?_, g3, fun i hi => by have := g4 i; rw [getD_nd hi] at this; exact this⟩
  rw [List.length_map] at hi
  show lsN x (L.getD i (fun _ => 0)) w = _
  rw [List.getElem_map, List.getD, List.getElem?_eq_getElem hi]
  rfl
end
section
/-! letters of formulas through drop, shift and move in FormulaTrees -/
set_option maxRecDepth 100000 in
theorem CLt.go {s s1 : aS} {fs : Nat → Option Fm} {lt : Nat → Nat → List Int32} (hc : CF s fs) (h : CLt s fs lt) (hr : ∀ f, f < 8 → fs f ≠ none → sR s1 100 f = sR s 100 f) (hi : ∀ f b, f < 8 → fs f ≠ none → sR s 100 f = .ref b → aK s b 3 → (∀ k, sI s1 (b + 1) k = sI s (b + 1) k) ∧ sI s1 (b + 2) 1 = sI s (b + 2) 1 ∧ ∀ k, sI s1 (b + 3) k = sI s (b + 3) k) : CLt s1 fs lt := fun f hf ho L q b hb => by
  have hn : fs f ≠ none := by
    rw [q]
    exact Option.some_ne_none _
  obtain ⟨-, -, c, a3, a4, -⟩ := (hc f hf).2 ho L q
  rw [hr f hf hn, a3] at hb
  injection hb with e
  rw [← e]
  obtain ⟨u, u1, u2⟩ := h f hf ho L q c a3
  obtain ⟨i1, i2, i3⟩ := hi f c hf hn a3 a4
  exact ⟨u, ⟨⟨i2.trans u1.1.1, fun j hj => (i3 j).trans (u1.1.2 j hj)⟩, u1.2⟩, fun i hi => by
    obtain ⟨st, e1, e2, e3⟩ := u2 i hi
    exact ⟨st, (i1 _).trans e1, (i1 _).trans e2, e3⟩⟩
set_option maxRecDepth 100000 in
theorem CLt.len {s : aS} {fs fs1 : Nat → Option Fm} {lt : Nat → Nat → List Int32} (h : CLt s fs lt) (e : ∀ f h1 L1, fs1 f = some (h1, L1) → ∃ h0 L0, fs f = some (h0, L0) ∧ L1.length = L0.length) : CLt s fs1 lt := fun f hf ho L q b hb => by
  obtain ⟨h0, L0, q1, q2⟩ := e f ho L q
  obtain ⟨u, u1, u2⟩ := h f hf h0 L0 q1 b hb
  exact ⟨u, u1, fun i hi => u2 i (by omega)⟩
set_option maxRecDepth 100000 in
theorem clt_key {tt : Nat} {cc : Nat → Nat → Int32} {s0 s s1 : aS} {b f : Nat} {fs : Nat → Option Fm} {lt : Nat → Nat → List Int32} {ho : Int32} {L : List Nd} (hl : Ly tt cc s0) (h0 : ∀ c, aK s c 3 → aK s0 c 3) (hb : aK s0 b 3) (hf : sR s 100 f = .ref b) (hff : f < 8) (ht : TD s) (hc : ch (fun a _ => a = 101 ∨ a = b + 1) s s1) (hu : CLt s fs lt) (hL : fs f = some (ho, L)) (hz : ∀ i (g : i < L.length), LZ s s1 b i L[i]) (hE : ∀ i (g : i < L.length), isRf L[i] → lt f i = []) : CLt s1 fs lt := fun g hg h9 L9 q c hr => by
  have hat := tr_at hl hb
  rw [hc.r (by omega)] at hr
  obtain ⟨u, u1, u2⟩ := hu g hg h9 L9 q c hr
  by_cases e : g = f
  · subst e
    rw [hL] at q
    cases q
    rw [hf] at hr
    injection hr with hr
    subst hr
    exact ⟨u, u1.of hc (by omega) (fun _ => by omega), fun i hi => (u2 i hi).lz (hz i hi) (hE i hi)⟩
  · have hcb : c ≠ b := fun z => e (ht.2.1 g f b hg hff (by rw [← z]; exact hr) hf)
    have hk : aK s c 3 := by
      rcases ht.1 g hg with z | ⟨d, z1, z2⟩
      · rw [z] at hr
        cases hr
      · rw [z1] at hr
        injection hr with hr
        rw [← hr]
        exact z2
    have hac := tr_at hl (h0 c hk)
    have ap := tr_ne hl (h0 c hk) hb hcb
    exact ⟨u, u1.of hc (by omega) (fun _ => by omega), fun i hi => by
      obtain ⟨st, e1, e2, e3⟩ := u2 i hi
      exact ⟨st, (hc.i (by omega)).trans e1, (hc.i (by omega)).trans e2, e3⟩⟩
set_option maxRecDepth 100000 in
theorem d52v {tt : Nat} {cc : Nat → Nat → Int32} {s0 : aS} {x : Int32} {fs : Nat → Option Fm} {lt : Nat → Nat → List Int32} (hl : Ly tt cc s0) (hx : 0 ≤ x.toInt) (hE : ∀ f, f < 8 → ∀ h L, fs f = some (h, L) → (∀ d ∈ L, d 2 = x → isRf d) ∧ ∀ i (g : i < L.length), isRf L[i] → lt f i = []) : ∀ (m f n : Nat) (s : aS), f + m = 8 → m < n → CF s (fun g => if g < f then fsDrop x fs g else fs g) → TD s → CLt s fs lt → ch (fun a k => a = 101 ∨ ∃ b, aK s0 b 3 ∧ a = b + 1) s0 s → ∃ s', dm52_16 n x (Int32.ofNat f) s = some (.inl none, s') ∧ CF s' (fsDrop x fs) ∧ TD s' ∧ CLt s' fs lt ∧ ch (fun a k => a = 101 ∨ ∃ b, aK s0 b 3 ∧ a = b + 1) s0 s' := by
  intro m
  induction m with
  | zero =>
    intro f n s hf hn h ht hu hc
    obtain ⟨n, rfl⟩ : ∃ k, n = k + 1 := ⟨n - 1, by omega⟩
    rw [dm52_16, if_pos (by rw [iLe, iOfNat (by omega)]; show (8 : Int) ≤ f; omega)]
    refine ⟨s, rfl, fun g hg => ?_, ht, hu, hc⟩
    have := h g hg
    simp only [if_pos (show g < f by omega)] at this
    exact this
  | succ m ih =>
    intro f n s hf hn h ht hu hc
    obtain ⟨n, rfl⟩ : ∃ k, n = k + 1 := ⟨n - 1, by omega⟩
    have hff := h f (by omega)
    simp only [if_neg (Nat.lt_irrefl f)] at hff
    have step : ∀ s1, CF s1 (fun g => if g < f + 1 then fsDrop x fs g else fs g) → TD s1 → CLt s1 fs lt → ch (fun a k => a = 101 ∨ ∃ b, aK s0 b 3 ∧ a = b + 1) s0 s1 → ∃ s', dm52_16 n x (Int32.ofNat (f + 1)) s1 = some (.inl none, s') ∧ CF s' (fsDrop x fs) ∧ TD s' ∧ CLt s' fs lt ∧ ch (fun a k => a = 101 ∨ ∃ b, aK s0 b 3 ∧ a = b + 1) s0 s' := fun s1 q1 q2 q4 q3 => ih (f + 1) n s1 (by omega) (by omega) q1 q2 q4 q3
    have ej : jN (Int32.ofNat f) = f := jN_of (by omega)
    have hbf : aB (Int32.ofNat f) 8 := by rw [aB_iff, iOfNat (by omega)]; omega
    rw [dm52_16, if_neg (by rw [iLe, iOfNat (by omega)]; show ¬ (8 : Int) ≤ f; omega)]
    rcases d54 h (Int32.ofNat f) with ⟨e1, e2⟩ | ⟨ho, L, b, e1, -, e2, e3, e4, e5, e6⟩
    · rw [fAt_n (by omega)] at e1
      simp only [if_neg (Nat.lt_irrefl f)] at e1
      rw [e2]
      simp only [bu_some, vN_null]
      unfold dm52_38
      rw [ofNat_succ (by omega)]
      refine step s (fun g hg => ?_) ht hu hc
      by_cases e : g = f
      · subst e
        simp only [if_pos (Nat.lt_succ_self g)]
        have : fsDrop x fs g = none := by unfold fsDrop; rw [e1]
        refine ⟨fun _ => hff.1 e1, fun h9 L9 q => ?_⟩
        rw [this] at q
        cases q
      · have := h g hg
        by_cases e7 : g < f
        · simp only [if_pos e7] at this
          simp only [if_pos (show g < f + 1 by omega)]
          exact this
        · simp only [if_neg e7] at this
          simp only [if_neg (show ¬ g < f + 1 by omega)]
          exact this
    · rw [fAt_n (by omega)] at e1
      simp only [if_neg (Nat.lt_irrefl f)] at e1
      rw [iOfNat (by omega)] at e5 e6
      have e5 : sR s 100 f = .ref b := e5
      have e6 : sI s 101 f = ho := e6
      have e30 : aK s0 b 3 := hc.k.mp e3
      have hlo := tr_lo hl e30
      rw [e2]
      simp only [bu_some, vN_ref]
      rw [if_pos e3]
      obtain ⟨s1, g1, g2, g3, g4⟩ := d56y (x := x) e4 (hE f (by omega) ho L e1).1
      rw [g1]
      simp only [bu_some]
      rw [if_pos hbf]
      have e61 : sI s1 101 (jN (Int32.ofNat f)) = ho := by rw [ej]; exact (g3.i (by omega)).trans e6
      rw [e61]
      have q61 : ∃ v, dm61 ho x = some v ∧ ((ho = x ∧ v = -1) ∨ (ho ≠ x ∧ v = (if ho ≤ x then ho else ho - 1))) := by
        unfold dm61
        by_cases c1 : ho = x
        · rw [if_pos c1]; exact ⟨_, rfl, Or.inl ⟨c1, rfl⟩⟩
        · rw [if_neg c1]
          by_cases c2 : ho ≤ x
          · rw [if_pos c2]; exact ⟨_, rfl, Or.inr ⟨c1, by rw [if_pos c2]⟩⟩
          · rw [if_neg c2]; exact ⟨_, rfl, Or.inr ⟨c1, by rw [if_neg c2]⟩⟩
      obtain ⟨v, v1, v2⟩ := q61
      rw [v1]
      simp only [bu_some]
      rw [if_pos hbf, nx_eq, ej]
      unfold dm52_38
      rw [ofNat_succ (by omega)]
      have hc2 : ch (fun a k => (a = 101 ∧ k = f) ∨ a = b + 1) s (wI s1 101 f v) := (g3.mono fun a k q => Or.inr q).wI (Or.inl ⟨rfl, rfl⟩)
      have hu2 : CLt (wI s1 101 f v) fs lt := clt_key (fs := fs) hl (fun _ q => hc.k.mp q) e30 e5 (by omega) ht (hc2.mono fun a k q => by omega) hu e1 (fun i hi => by
        have hat := tr_at hl e30
        rcases g4 i hi with z | z
        · exact Or.inl ⟨by rw [sI_wI, if_neg (by omega)]; exact z.1, by rw [sI_wI, if_neg (by omega)]; exact z.2⟩
        · exact Or.inr ⟨z.1, by rw [sI_wI, if_neg (by omega)]; exact z.2.1, by rw [sI_wI, if_neg (by omega)]; exact z.2.2⟩) (hE f (by omega) ho L e1).2
      refine step _ (fun g hg => ?_) (ht.of hc2 (by omega) (by omega)) hu2 (hc.trans (hc2.mono fun a k q => by
        rcases q with q | q
        · exact Or.inl q.1
        · exact Or.inr ⟨b, e30, q⟩))
      by_cases e : g = f
      · subst e
        simp only [if_pos (Nat.lt_succ_self g)]
        have hv : sI (wI s1 101 g v) 101 g = v := by rw [sI_wI, if_pos ⟨rfl, rfl⟩]
        rcases v2 with ⟨c1, c2⟩ | ⟨c1, c2⟩
        · have : fsDrop x fs g = none := by unfold fsDrop; rw [e1]; simp only [if_pos c1]
          refine ⟨fun _ => hv.trans c2, fun h9 L9 q => ?_⟩
          rw [this] at q
          cases q
        · have : fsDrop x fs g = some (v, L.map (lsN x)) := by unfold fsDrop; rw [e1]; simp only [if_neg c1]; rw [c2]
          refine ⟨fun q => (by rw [this] at q; cases q), fun h9 L9 q => ?_⟩
          rw [this] at q
          cases q
          refine ⟨hv, ?_, b, (hc2.r (by omega)).trans e5, hc2.k.mpr e3, g2.of ((ch.refl (fun a k => a = 101) s1).wI rfl) (by have := (hl.tr e30).1; intro q; rw [q, hl.T (a := 101) (p := (100, 8)) 23 rfl rfl] at this; cases this) (fun _ => by omega)⟩
          have hne := (hff.2 ho L e1).2.1
          rw [c2]
          by_cases c3 : ho ≤ x
          · rw [if_pos c3]; exact hne
          · rw [if_neg c3]
            intro q
            have r1 := iRange ho
            rw [iLe] at c3
            have : (ho - 1).toInt = ho.toInt - 1 := iSub (y := 1) (by show _ ≤ ho.toInt - 1; omega) (by show ho.toInt - 1 ≤ _; omega)
            rw [iEq, this] at q
            have q : ho.toInt - 1 = -1 := q
            omega
      · have hgg := h g hg
        have key : ∀ F : Option Fm, ((F = none → sI s 101 g = -1) ∧ ∀ h9 L9, F = some (h9, L9) → sI s 101 g = h9 ∧ h9 ≠ -1 ∧ ∃ b, sR s 100 g = .ref b ∧ aK s b 3 ∧ TC s b L9) → ((F = none → sI (wI s1 101 f v) 101 g = -1) ∧ ∀ h9 L9, F = some (h9, L9) → sI (wI s1 101 f v) 101 g = h9 ∧ h9 ≠ -1 ∧ ∃ b, sR (wI s1 101 f v) 100 g = .ref b ∧ aK (wI s1 101 f v) b 3 ∧ TC (wI s1 101 f v) b L9) := by
          intro F q
          refine ⟨fun z => (hc2.i (by omega)).trans (q.1 z), fun h9 L9 z => ?_⟩
          obtain ⟨z1, z2, c, z3, z4, z5⟩ := q.2 h9 L9 z
          have hbc : b ≠ c := by
            rintro rfl
            exact e (ht.2.1 g f b hg (by omega) z3 e5)
          have z40 : aK s0 c 3 := hc.k.mp z4
          have ap := tr_ne hl e30 z40 hbc
          have lo := tr_lo hl z40
          have l3 := (hl.tr z40).1
          refine ⟨(hc2.i (by omega)).trans z1, z2, c, (hc2.r (by omega)).trans z3, hc2.k.mpr z4, z5.of hc2 ?_ (fun k => by omega)⟩
          rintro (q9 | q9)
          · rw [q9.1, hl.T (a := 101) (p := (100, 8)) 23 rfl rfl] at l3; cases l3
          · exact ap.1 q9.symm
        by_cases e7 : g < f
        · simp only [if_pos e7] at hgg
          simp only [if_pos (show g < f + 1 by omega)]
          exact key _ hgg
        · simp only [if_neg e7] at hgg
          simp only [if_neg (show ¬ g < f + 1 by omega)]
          exact key _ hgg
set_option maxRecDepth 100000 in
theorem d52y {tt : Nat} {xs : List Int32} {s s9 : aS} {ns : List (List Int32)} {fs : Nat → Option Fm} {lt : Nat → Nat → List Int32} {x : Int32} (hl : Ly tt (cCc xs) s) (hs : SQ s ns) (hn : nsOk ns) (h : CF s fs) (ht : TD s) (hu : CLt s fs lt) (hx : 0 ≤ x.toInt ∧ x.toInt < ns.length) (hE : ∀ f, f < 8 → ∀ h L, fs f = some (h, L) → (∀ d ∈ L, d 2 = x → isRf d) ∧ ∀ i (g : i < L.length), isRf L[i] → lt f i = []) (he : dm52 x s = some (.inl none, s9)) : CLt s9 fs lt := by
  have h8 := hn.1
  unfold dm52 at he
  rw [d40 hs.1 h8] at he
  simp only [bu_some] at he
  rw [b01_t hx, if_neg (by decide)] at he
  obtain ⟨s1, g1, g2, g3⟩ := d53 (i := x.toInt.toNat) hs (RC.ly hl) hn (TF.ly hl) (by omega)
  rw [← ofNat_of (x := x) hx.1] at g1
  have hl1 : Ly tt (cCc xs) s1 := (dt53 (sio := true) (d := 2000) (by decide) hl g1).1
  rw [g1] at he
  simp only [bu_some] at he
  have h1 : CF s1 fs := fun f hf => ⟨fun q => (g3.i (by omega)).trans ((h f hf).1 q), fun ho L q => by
    obtain ⟨a1, a2, b, a3, a4, a5⟩ := (h f hf).2 ho L q
    have hb := tr_at hl a4
    exact ⟨(g3.i (by omega)).trans a1, a2, b, (g3.r (by omega)).trans a3, g3.k.mpr a4, a5.of g3 (by omega) (fun _ => by omega)⟩⟩
  have u1 : CLt s1 fs lt := CLt.go h hu (fun f _ _ => g3.r (by omega)) (fun f b _ _ _ hk => by
    have hb := tr_at hl hk
    exact ⟨fun k => g3.i (by omega), g3.i (by omega), fun k => g3.i (by omega)⟩)
  obtain ⟨s2, k1, -, -, k5, -⟩ := d52v (fs := fs) (lt := lt) (x := x) hl1 hx.1 hE 8 0 5000 s1 (by omega) (by omega) (fun f hf => by
    simp only [if_neg (Nat.not_lt_zero f)]
    exact h1 f hf) (ht.of g3 (by omega) (by omega)) u1 (ch.refl _ s1)
  have k1 : dm52_16 5000 x 0 s1 = some (.inl none, s2) := k1
  rw [k1] at he
  have e : s2 = s9 := (Prod.mk.inj (Option.some.inj he)).2
  rw [← e]
  exact k5
set_option maxRecDepth 100000 in
theorem d133v {tt : Nat} {cc : Nat → Nat → Int32} {s0 : aS} {x t k n : Int32} {fs : Nat → Option Fm} {lt : Nat → Nat → List Int32} (hl : Ly tt cc s0) (hE : ∀ f, f < 8 → ∀ h L, fs f = some (h, L) → ∀ i (g : i < L.length), isRf L[i] → lt f i = []) : ∀ (m f z : Nat) (c : Int32) (s : aS), f + m = 8 → m < z → CF s (fun g => if g < f then fsShC x t k n fs g else fs g) → TD s → CLt s fs lt → ch (fun a _ => a = 103 ∨ 149 ≤ a) s0 s → ∃ s', dm133_29 z x t k n c (Int32.ofNat f) s = some (.inl (some (.int (caC x t k n fs m f c))), s') ∧ CF s' (fsShC x t k n fs) ∧ TD s' ∧ CLt s' fs lt ∧ ch (fun a _ => a = 103 ∨ 149 ≤ a) s0 s' := by
  intro m
  induction m with
  | zero =>
    intro f z c s hf hz h ht hu hc
    obtain ⟨z, rfl⟩ : ∃ q, z = q + 1 := ⟨z - 1, by omega⟩
    rw [dm133_29, if_pos (by rw [iLe, iOfNat (by omega)]; show (8 : Int) ≤ f; omega)]
    refine ⟨s, rfl, fun g hg => ?_, ht, hu, hc⟩
    have := h g hg
    simp only [if_pos (show g < f by omega)] at this
    exact this
  | succ m ih =>
    intro f z c s hf hz h ht hu hc
    obtain ⟨z, rfl⟩ : ∃ q, z = q + 1 := ⟨z - 1, by omega⟩
    have hff := h f (by omega)
    simp only [if_neg (Nat.lt_irrefl f)] at hff
    have ej : jN (Int32.ofNat f) = f := jN_of (by omega)
    have hbf : aB (Int32.ofNat f) 8 := by rw [aB_iff, iOfNat (by omega)]; omega
    rw [dm133_29, if_neg (by rw [iLe, iOfNat (by omega)]; show ¬ (8 : Int) ≤ f; omega)]
    have ec : caC x t k n fs (m + 1) f c = caC x t k n fs m (f + 1) (match fs f with | none => c | some (h, L) => c + scC x (hmY h x) t k n (fun i => L.getD i (fun _ => 0)) L.length 0 0) := rfl
    rw [ec]
    rcases d54 h (Int32.ofNat f) with ⟨e1, e2⟩ | ⟨ho, L, b, e1, -, e2, e3, e4, e5, e6⟩
    · rw [fAt_n (by omega)] at e1
      simp only [if_neg (Nat.lt_irrefl f)] at e1
      rw [e2, e1]
      simp only [bu_some, vN_null]
      unfold dm133_56
      rw [ofNat_succ (by omega)]
      refine ih (f + 1) z c s (by omega) (by omega) (fun g hg => ?_) ht hu hc
      by_cases e : g = f
      · subst e
        simp only [if_pos (Nat.lt_succ_self g)]
        have : fsShC x t k n fs g = none := by unfold fsShC; rw [e1]
        rw [this]
        exact ⟨fun _ => hff.1 e1, fun h9 L9 q => by cases q⟩
      · have := h g hg
        by_cases e7 : g < f
        · simp only [if_pos e7] at this
          simp only [if_pos (show g < f + 1 by omega)]
          exact this
        · simp only [if_neg e7] at this
          simp only [if_neg (show ¬ g < f + 1 by omega)]
          exact this
    · rw [fAt_n (by omega)] at e1
      simp only [if_neg (Nat.lt_irrefl f)] at e1
      rw [iOfNat (by omega)] at e5 e6
      have e5 : sR s 100 f = .ref b := e5
      have e6 : sI s 101 f = ho := e6
      have e30 : aK s0 b 3 := hc.k.mp e3
      have hat := tr_at hl e30
      rw [e2, e1]
      simp only [bu_some, vN_ref]
      rw [if_pos e3, if_pos hbf, ej, e6]
      obtain ⟨s1, g1, g2, g3, g4⟩ := d134z (x := x) (y := hmY ho x) (t := t) (k := k) (n := n) e4
      have e50 : dm133_50 (dm133_29 z) x t k n (Int32.ofNat f) c b x (hmY ho x) s = dm133_29 z x t k n (c + scC x (hmY ho x) t k n (fun i => L.getD i (fun _ => 0)) L.length 0 0) (Int32.ofNat (f + 1)) s1 := by
        unfold dm133_50 dm133_56
        rw [g1]
        simp only [bv_some]
        rw [ofNat_succ (by omega)]
      have ey : (if ho = x then dm133_50 (dm133_29 z) x t k n (Int32.ofNat f) c b x 1 s else dm133_50 (dm133_29 z) x t k n (Int32.ofNat f) c b x 0 s) = dm133_50 (dm133_29 z) x t k n (Int32.ofNat f) c b x (hmY ho x) s := by
        unfold hmY
        split <;> rfl
      rw [ey, e50]
      refine ih (f + 1) z _ s1 (by omega) (by omega) (fun g hg => ?_) (ht.of g3 (fun _ => by omega) (by omega)) (clt_key (fs := fs) hl (fun _ q => hc.k.mp q) e30 e5 (by omega) ht (g3.mono fun a k q => Or.inr q) hu e1 g4 (hE f (by omega) ho L e1)) (hc.trans (g3.mono fun a k q => by omega))
      by_cases e : g = f
      · subst e
        simp only [if_pos (Nat.lt_succ_self g)]
        have : fsShC x t k n fs g = some (ho, L.map (shF x (hmY ho x) t k n)) := by unfold fsShC; rw [e1]
        rw [this]
        refine ⟨fun q => (by cases q), fun h9 L9 q => ?_⟩
        cases q
        exact ⟨(g3.i (by omega)).trans e6, (hff.2 ho L e1).2.1, b, (g3.r (by omega)).trans e5, g3.k.mpr e3, g2⟩
      · have hgg := h g hg
        by_cases e7 : g < f
        · simp only [if_pos e7] at hgg
          simp only [if_pos (show g < f + 1 by omega)]
          exact cf_key hl (fun _ q => hc.k.mp q) e30 e5 (by omega) hg e ht g3 hgg
        · simp only [if_neg e7] at hgg
          simp only [if_neg (show ¬ g < f + 1 by omega)]
          exact cf_key hl (fun _ q => hc.k.mp q) e30 e5 (by omega) hg e ht g3 hgg
set_option maxRecDepth 100000 in
theorem d133y {tt : Nat} {cc : Nat → Nat → Int32} {s s9 : aS} {ns : List (List Int32)} {fs : Nat → Option Fm} {lt : Nat → Nat → List Int32} {x t k n : Int32} {o : xZ} (hl : Ly tt cc s) (hs : SC s ns) (hn : nsOk ns) (h : CF s fs) (ht : TD s) (hu : CLt s fs lt) (hE : ∀ f, f < 8 → ∀ h L, fs f = some (h, L) → ∀ i (g : i < L.length), isRf L[i] → lt f i = []) (hx : 0 ≤ x.toInt ∧ x.toInt < ns.length) (hk : ¬ bey k (lastT t) ∧ wayP n) (he : dm133 x t k n s = some (o, s9)) : CLt s9 fs lt := by
  have h8 := hn.1
  unfold dm133 dm133_20 at he
  rw [d40 hs h8, d132, d126] at he
  simp only [bu_some] at he
  have a1 : k < 1 ↔ k.toInt < 1 := iLt
  have c1 : ¬ k < 1 := fun q => hk.1 (by
    have := a1.mp q
    unfold bey
    omega)
  have c2 : ¬ lastT t < k := fun q => hk.1 (by
    rw [iLt] at q
    unfold bey
    omega)
  rw [b01_t hx, if_neg (by decide), if_neg c1, if_neg c2, b01_t hk.2, if_neg (by decide)] at he
  obtain ⟨s2, k1, -, -, k5, -⟩ := d133v (x := x) (t := t) (k := k) (n := n) (fs := fs) (lt := lt) hl hE 8 0 5000 0 s (by omega) (by omega) (fun f hf => by
    simp only [if_neg (Nat.not_lt_zero f)]
    exact h f hf) ht hu (ch.refl _ s)
  have k1 : dm133_29 5000 x t k n 0 0 s = some (.inl (some (.int (caC x t k n fs 8 0 0))), s2) := k1
  rw [k1] at he
  have e : s2 = s9 := (Prod.mk.inj (Option.some.inj he)).2
  rw [← e]
  exact k5
set_option maxRecDepth 100000 in
theorem d127y {tt : Nat} {cc : Nat → Nat → Int32} {s : aS} {b c : Nat} {L : List Nd} {u : List Int32} (hl : Ly tt cc s) (hb : aK s b 3) (hc : aK s c 3) (hbc : b ≠ c) (h : TC s c L) (hu : TL s c u) : ∃ s', dm127 b c s = some s' ∧ TC s' b L ∧ TL s' b u ∧ ch (fun a _ => a = b ∨ a = b + 1 ∨ a = b + 2 ∨ a = b + 3) s s' ∧ ∀ k, k < 1408 → sI s' (b + 1) k = sI s (c + 1) k := by
  have ap := tr_ne hl hb hc hbc
  have b3 := (hl.tr hb).2.2.2.2.2.2.1
  have c3 := (hl.tr hc).2.2.2.2.2.2.1
  have b0 := (hl.tr hb).1
  have j0 : jN 0 = 0 := rfl
  have j1 : jN 1408 = 1408 := rfl
  have n1 : b ≠ c + 1 := by
    rintro e
    have := (hl.tr hc).2.2.2.2.1
    rw [← e, b0] at this
    cases this
  have n2 : b ≠ c + 2 := by
    rintro e
    have := (hl.tr hc).2.2.2.2.2.1
    rw [← e, b0] at this
    cases this
  have n3 : b ≠ c + 3 := by
    rintro e
    rw [← e, b0] at c3
    cases c3
  have hc1 : ch (fun a _ => a = b ∨ a = b + 1 ∨ a = b + 2 ∨ a = b + 3) s (cpI (wI s b 2 (sI s c 2)) (c + 1) 0 (b + 1) 0 1408) := ch_cp ((ch.refl _ s).wI (Or.inl rfl)) (fun _ => Or.inr (Or.inl rfl))
  have hu1 : LT (cpI (wI s b 2 (sI s c 2)) (c + 1) 0 (b + 1) 0 1408) (c + 2) u := hu.1.of hc1 (by omega) (fun _ => by omega)
  obtain ⟨s', g1, g2, g3⟩ := d41 (b0 := b + 2) (m := 256) hu1 (by omega) (by rw [hc1.2.1, show b + 2 + 1 = b + 3 from rfl, b3]) (by rw [hc1.2.1, show c + 2 + 1 = c + 3 from rfl, c3]; exact hu.2.1) (by decide) hu.2.1 hu.2.2
  refine ⟨s', ?_, ⟨?_, h.2.1, fun i hi w hw => ?_⟩, ⟨g2, hu.2⟩, hc1.trans (g3.mono fun a k q => by omega), fun k hk => ?_⟩
  · unfold dm127
    rw [nx_eq, if_pos ⟨by omega, by decide, by decide, by decide, by decide, by decide⟩, nx_eq, j0, j1, g1]
    rfl
  · rw [g3.i (by omega), sI_cp, if_neg (by omega), sI_wI, if_pos ⟨rfl, rfl⟩]
    exact h.1
  · have h8 := h.2.1
    rw [g3.i (by omega), sI_cp, if_pos ⟨rfl, by omega, by omega⟩, Nat.zero_add, Nat.sub_zero, sI_wI, if_neg (by omega)]
    exact h.2.2 i hi w hw
  · rw [g3.i (by omega), sI_cp, if_pos ⟨rfl, by omega, by omega⟩, Nat.zero_add, Nat.sub_zero, sI_wI, if_neg (by omega)]
set_option maxRecDepth 100000 in
theorem d125n {tt : Nat} {cc : Nat → Nat → Int32} {s s9 : aS} {fs : Nat → Option Fm} {lt : Nat → Nat → List Int32} {x y b c : Nat} {h0 r q ho : Int32} {L : List Nd} {o : xZ} (hl : Ly tt cc s) (h : CF s fs) (ht : TD s) (hu : CLt s fs lt) (hx : x < 8) (hy : y < 8) (hL : fs x = some (h0, L)) (hb : sR s 100 x = .ref b) (hc : sR s 100 y = .ref c) (hbk : aK s b 3) (hck : aK s c 3) (hT : TC s b L) (hE : ∀ i (g : i < L.length), isRf L[i] → lt x i = []) (he : dm125_46 (Int32.ofNat x) r q ho (Int32.ofNat y) b c s = some (o, s9)) : CLt s9 (fsMove x y r q ho (fun r q => onRf (mvC r q)) L fs) (ltMv lt x y) := by
  have hac := tr_at hl hck
  obtain ⟨u, hub, hnl⟩ := hu x hx h0 L hL b hb
  have exy : Int32.ofNat y = Int32.ofNat x ↔ y = x := by
    rw [iEq, iOfNat (by omega), iOfNat (by omega)]
    omega
  have pre : ∃ s1, dm125_46 (Int32.ofNat x) r q ho (Int32.ofNat y) b c s = dm125_52 r q ho (Int32.ofNat y) c s1 ∧ TC s1 c L ∧ TL s1 c u ∧ (∀ i, i < L.length → NL s1 c i u (lt x i)) ∧ ch (fun a _ => a = c ∨ a = c + 1 ∨ a = c + 2 ∨ a = c + 3) s s1 := by
    unfold dm125_46
    by_cases e : y = x
    · subst e
      rw [hb] at hc
      cases hc
      rw [if_pos rfl]
      exact ⟨s, rfl, hT, hub, hnl, ch.refl _ s⟩
    · have hbc : c ≠ b := by
        rintro rfl
        exact e (ht.2.1 y x c hy hx hc hb)
      obtain ⟨s1, g1, g2, g3, g4, g5⟩ := d127y hl hck hbk hbc hT hub
      have h128 := hT.2.1
      rw [if_neg (fun z => e (exy.mp z)), g1]
      exact ⟨s1, rfl, g2, g3, fun i hi => by
        obtain ⟨st, e1, e2, e3⟩ := hnl i hi
        exact ⟨st, (g5 _ (by omega)).trans e1, (g5 _ (by omega)).trans e2, e3⟩, g4⟩
  obtain ⟨s1, e1, t1, l1, n1, c1⟩ := pre
  obtain ⟨s2, g1, g2, g3, g4⟩ := d128y (r := r) (c := q) t1
  have ejy : jN (Int32.ofNat y) = y := jN_of (by omega)
  have hby : aB (Int32.ofNat y) 8 := by rw [aB_iff, iOfNat (by omega)]; omega
  have e2 : dm125_52 r q ho (Int32.ofNat y) c s1 = some (.inl none, wI s2 101 y ho) := by
    unfold dm125_52
    rw [g1]
    simp only [bu_some]
    rw [if_pos hby, nx_eq, ejy]
  have hA : ch (fun a k => (a = 101 ∧ k = y) ∨ a = c ∨ a = c + 1 ∨ a = c + 2 ∨ a = c + 3) s (wI s2 101 y ho) := ((c1.mono fun a k z => Or.inr z).trans (g3.mono fun a k z => Or.inr (Or.inr (Or.inl z)))).wI (Or.inl ⟨rfl, rfl⟩)
  have oth : ∀ f b9, f < 8 → f ≠ y → sR s 100 f = .ref b9 → aK s b9 3 → (∀ k, ¬ ((b9 = 101 ∧ k = y) ∨ b9 = c ∨ b9 = c + 1 ∨ b9 = c + 2 ∨ b9 = c + 3)) ∧ (∀ k, ¬ ((b9 + 1 = 101 ∧ k = y) ∨ b9 + 1 = c ∨ b9 + 1 = c + 1 ∨ b9 + 1 = c + 2 ∨ b9 + 1 = c + 3)) ∧ (∀ k, ¬ ((b9 + 2 = 101 ∧ k = y) ∨ b9 + 2 = c ∨ b9 + 2 = c + 1 ∨ b9 + 2 = c + 2 ∨ b9 + 2 = c + 3)) ∧ (∀ k, ¬ ((b9 + 3 = 101 ∧ k = y) ∨ b9 + 3 = c ∨ b9 + 3 = c + 1 ∨ b9 + 3 = c + 2 ∨ b9 + 3 = c + 3)) := by
    intro f b9 hf hfy hr9 hk9
    have hne : b9 ≠ c := by
      rintro rfl
      exact hfy (ht.2.1 f y b9 hf hy hr9 hc)
    obtain ⟨p1, p2, p3, p4, p5, p6, p7, p8, p9, p10⟩ := tr_ne hl hk9 hck hne
    obtain ⟨q1, -, -, -, q5, -, -, q8, -, -⟩ := tr_ne hl hck hk9 (fun z => hne z.symm)
    have a3 := tr_at hl hk9
    refine ⟨fun k => nt5 (by omega) hne (fun z => q1 z.symm) (fun z => q5 z.symm) (fun z => q8 z.symm), fun k => nt5 (by omega) p1 p2 p3 p4, fun k => nt5 (by omega) p5 p6 (by omega) p7, fun k => nt5 (by omega) p8 p9 p10 (by omega)⟩
  rw [e1, e2] at he
  have e9 : wI s2 101 y ho = s9 := (Prod.mk.inj (Option.some.inj he)).2
  rw [← e9]
  intro f hf h9 L9 q9 b9 hr9
  have hr0 : sR s 100 f = .ref b9 := by rw [← hA.r (a := 100) (k := f) (by omega)]; exact hr9
  unfold fsMove at q9
  unfold ltMv
  by_cases e : f = y
  · rw [if_pos e] at q9
    have eL : L9 = L.map (onRf (mvC r q)) := (Prod.mk.inj (Option.some.inj q9)).2.symm
    rw [e, hc] at hr0
    injection hr0 with hr0
    have h2 : ch (fun a k => a = 101) s2 (wI s2 101 y ho) := (ch.refl _ s2).wI rfl
    rw [← hr0]
    refine ⟨u, (l1.of g3 (by omega) (fun _ => by omega)).of h2 (by omega) (fun _ => by omega), fun i hi => ?_⟩
    rw [eL, List.length_map] at hi
    rw [if_pos e]
    obtain ⟨st, z1, z2, z3⟩ := (n1 i hi).lz (g4 i hi) (hE i hi)
    exact ⟨st, (h2.i (by omega)).trans z1, (h2.i (by omega)).trans z2, z3⟩
  · rw [if_neg e] at q9
    obtain ⟨u9, l9, n9⟩ := hu f hf h9 L9 q9 b9 hr0
    rcases ht.1 f hf with z | ⟨b8, z1, z2⟩
    · rw [z] at hr0
      cases hr0
    · rw [hr0] at z1
      injection z1 with z1
      have o := oth f b9 hf e hr0 (by rw [z1]; exact z2)
      refine ⟨u9, l9.of hA (o.2.2.1 1) o.2.2.2, fun i hi => ?_⟩
      rw [if_neg e]
      obtain ⟨st, z1, z2, z3⟩ := n9 i hi
      exact ⟨st, (hA.i (o.2.1 _)).trans z1, (hA.i (o.2.1 _)).trans z2, z3⟩
set_option maxRecDepth 100000 in
theorem d125y {tt : Nat} {cc : Nat → Nat → Int32} {s s9 : aS} {ns : List (List Int32)} {fs : Nat → Option Fm} {lt : Nat → Nat → List Int32} {x1 x2 x3 x4 x5 h0 : Int32} {L : List Nd} {o : xZ} (hl : Ly tt cc s) (hs : SC s ns) (hn : nsOk ns) (h : CF s fs) (ht : TD s) (hu : CLt s fs lt) (hV : mvV ns fs x1 x4 x5) (hW : wayP x2 ∧ wayP x3) (e0 : fAt fs x1 = some (h0, L)) (hE : ∀ i (g : i < L.length), isRf L[i] → lt x1.toInt.toNat i = []) (he : dm125 x1 x2 x3 x4 x5 s = some (o, s9)) : CLt s9 (fsMove x1.toInt.toNat x5.toInt.toNat x2 x3 x4 (fun r c => onRf (mvC r c)) L fs) (ltMv lt x1.toInt.toNat x5.toInt.toNat) := by
  have h8 := hn.1
  obtain ⟨c1, -, c2⟩ := hV
  obtain ⟨hx, hL⟩ := fAt_s e0
  have e55 : dm55 x5 = some 1 := by
    rcases y55 x5 with ⟨z, -⟩ | ⟨-, z⟩
    · exact absurd c1 z
    · exact z
  unfold dm125 dm125_14 dm125_25 at he
  rcases d54 h x1 with ⟨e1, -⟩ | ⟨h9, L9, b, e1, -, e2, e3, e4, e5, -⟩
  · rw [e0] at e1
    cases e1
  · have eq := (Prod.mk.inj (Option.some.inj (e1.symm.trans e0))).2
    rw [eq] at e4
    have hb5 : aB x5 8 := aB_iff.mpr c1
    have ex1 := ofNat_of (x := x1) hx.1
    have ex5 := ofNat_of (x := x5) c1.1
    rw [e2, e55, d40 hs h8, d126, d126] at he
    simp only [bu_some, vN_ref] at he
    rw [if_pos e3, if_neg (by decide), b01_t c2, if_neg (by decide), b01_t hW.1, if_neg (by decide), b01_t hW.2, if_neg (by decide)] at he
    simp only [if_pos hb5] at he
    rcases ht.1 x5.toInt.toNat (by omega) with z | ⟨c, z1, z2⟩
    · have z0 : sR s 100 (jN x5) = .null := z
      rw [z0] at he
      simp only [vN_null, nx_eq] at he
      have cl : CL s fs := fun f hf hs9 b9 hb9 => by
        cases hq : fs f with
        | none => exact absurd hq hs9
        | some v =>
          obtain ⟨h7, L7⟩ := v
          obtain ⟨u, u1, -⟩ := hu f hf h7 L7 hq b9 hb9
          exact ⟨u, u1⟩
      obtain ⟨n1, n2, n3, -, n5⟩ := nT_all (y := x5.toInt.toNat) hl h ht cl (by omega) z
      have hbl := (hl.tr e3).2.2.2.1
      have hL0 : 149 ≤ sL s := hl.1
      have hne : x1.toInt.toNat ≠ x5.toInt.toNat := by
        intro q
        rw [q, z] at e5
        cases e5
      have nY : fs x5.toInt.toNat = none := by
        cases hq : fs x5.toInt.toNat with
        | none => rfl
        | some v =>
          obtain ⟨h7, L7⟩ := v
          obtain ⟨-, -, b7, b1, -⟩ := (h x5.toInt.toNat (by omega)).2 h7 L7 hq
          rw [z] at b1
          cases b1
      have n4 : CLt (wR (nTree s) 100 x5.toInt.toNat (.ref (sL s))) fs lt := CLt.go h hu (fun f hf q => by
        rw [sR_wR, if_neg (fun z => q (by rw [z.2]; exact nY)), nT_R (by omega)]) (fun f b7 _ _ _ hk => by
        have hb := (hl.tr hk).2.2.2.1
        exact ⟨fun k => nT_I (by omega), nT_I (by omega), fun k => nT_I (by omega)⟩)
      have he : dm125_46 (Int32.ofNat x1.toInt.toNat) x2 x3 x4 (Int32.ofNat x5.toInt.toNat) b (sL s) (wR (nTree s) 100 x5.toInt.toNat (.ref (sL s))) = some (o, s9) := by
        rw [← ex1, ← ex5]
        exact he
      exact d125n (x := x1.toInt.toNat) (y := x5.toInt.toNat) (b := b) (c := sL s) (r := x2) (q := x3) (ho := x4) n1 n2 n3 n4 (by omega) (by omega) hL (by rw [sR_wR, if_neg (by omega), nT_R (by omega)]; exact e5) (by rw [sR_wR, if_pos ⟨rfl, rfl⟩]) (nT_K e3) n5 ⟨(nT_I (by omega)).trans e4.1, e4.2.1, fun i hi w hw => (nT_I (by omega)).trans (e4.2.2 i hi w hw)⟩ hE he
    · have z0 : sR s 100 (jN x5) = .ref c := z1
      rw [z0] at he
      simp only [vN_ref] at he
      rw [if_pos z2] at he
      have he : dm125_46 (Int32.ofNat x1.toInt.toNat) x2 x3 x4 (Int32.ofNat x5.toInt.toNat) b c s = some (o, s9) := by
        rw [← ex1, ← ex5]
        exact he
      exact d125n (x := x1.toInt.toNat) (y := x5.toInt.toNat) (b := b) (c := c) (r := x2) (q := x3) (ho := x4) hl h ht hu (by omega) (by omega) hL e5 z1 e3 z2 e4 hE he
end
section
/-! what the reference leaves, told exactly -/
section RVs
variable {s s1 : aS} {t : List Int32} {ns : List (List Int32)} {fs : Nat → Option Fm} {lt : Nat → Nat → List Int32} {A : Nat → Nat → Prop}
set_option maxRecDepth 100000 in
theorem w120 (s : aS) (v : Int32) : sI (wI s 121 0 v) 121 0 = v := by rw [sI_wI, if_pos ⟨rfl, rfl⟩]
set_option maxRecDepth 100000 in
theorem R231 (h : RV s t ns fs lt) (x : Int32) : (fAt fs x = none ∧ ∃ s', dm231 x s = some s' ∧ sI s' 121 0 = 1 ∧ RV s' t ns fs lt ∧ ch mA s s') ∨ (fAt fs x ≠ none ∧ ∃ s', dm231 x s = some s' ∧ sI s' 121 0 = 0 ∧ RV s' t ns (fsDel fs x.toInt.toNat) lt ∧ ch mA s s') := by
  rcases d231 h.2.2.1 x with ⟨z, e⟩ | ⟨ho, L, e0, e⟩
  · exact Or.inl ⟨z, _, e, w120 s 1, (h.t0 1).1, (h.t0 1).2⟩
  · obtain ⟨f1, f2⟩ := fAt_s e0
    have g : ch (fun a k => (a = 121 ∧ k = 0) ∨ (a = 125 ∧ k = x.toInt.toNat)) s (wI (wI s 121 0 0) 125 x.toInt.toNat 0) := ((ch.refl _ s).wI (Or.inl ⟨rfl, rfl⟩)).wI (Or.inr ⟨rfl, rfl⟩)
    have hfs : ∀ f v, fsDel fs x.toInt.toNat f = some v → f ≠ x.toInt.toNat ∧ fs f = some v := fun f v q => by
      unfold fsDel at q
      by_cases e : f = x.toInt.toNat
      · rw [if_pos e] at q
        cases q
      · rw [if_neg e] at q
        exact ⟨e, q⟩
    refine Or.inr ⟨by rw [e0]; exact Option.some_ne_none _, _, e, by rw [sI_wI, if_neg (by omega)]; exact w120 s 0, ⟨h.1.of g (by omega) (fun j => by omega), h.2.1.of g (fun a k q => by omega), fun f hf => ⟨fun q => ?_, fun h9 L9 q => ?_⟩, fun f hf h9 L9 q i hi => ?_, fun f hf h9 L9 q i hi => ?_, fun f h9 L9 q => ?_⟩, g.mono fun a k z => by unfold mA; omega⟩
    · by_cases e : f = x.toInt.toNat
      · rw [e, sI_wI, if_pos ⟨rfl, rfl⟩]
      · unfold fsDel at q
        rw [if_neg e] at q
        exact (g.i (by omega)).trans ((h.2.2.1 f hf).1 q)
    · obtain ⟨n1, n2⟩ := hfs f _ q
      obtain ⟨b1, b2, b3, b4, b5⟩ := (h.2.2.1 f hf).2 h9 L9 n2
      exact ⟨(g.i (by omega)).trans b1, (g.i (by omega)).trans b2, (g.i (by omega)).trans b3, b4, fun i hi w hw => (g.i (by omega)).trans (b5 i hi w hw)⟩
    · obtain ⟨n1, n2⟩ := hfs f _ q
      exact (h.2.2.2.1 f hf h9 L9 n2 i hi).go (fun w hw => hw.of g (fun a k z => by omega)) (Or.inl rfl)
    · exact h.2.2.2.2.1 f hf h9 L9 (hfs f _ q).2 i hi
    · exact h.2.2.2.2.2 f h9 L9 (hfs f _ q).2
set_option maxRecDepth 100000 in
theorem R184 (h : RV s t ns fs lt) (hl : t.length ≤ 256) (hok : okT t) (hn : nsOk ns) (h147 : (sT s 147).2 = 256) (h122 : (sT s 122).2 = 256) (x1 x2 : Int32) : (¬ ((0 ≤ x1.toInt ∧ x1.toInt < 8) ∧ 0 ≤ x2.toInt ∧ x2.toInt < ns.length) ∧ ∃ s', dm184 x1 x2 s = some (0, s') ∧ sI s' 121 0 = 1 ∧ RV s' t ns fs lt ∧ ch mA s s') ∨ (((0 ≤ x1.toInt ∧ x1.toInt < 8) ∧ 0 ≤ x2.toInt ∧ x2.toInt < ns.length) ∧ ((∃ p s', mRd t ns = .inl p ∧ dm184 x1 x2 s = some (Int32.ofNat p, s') ∧ sI s' 121 0 = 0 ∧ RV s' t ns fs lt ∧ ch mA s s') ∨ ∃ L s', mRd t ns = .inr L ∧ L.length ≤ 128 ∧ dm184 x1 x2 s = some (-1, s') ∧ sI s' 121 0 = 0 ∧ RV s' t ns (fsRd fs x1.toInt.toNat x2 L) (ltRd lt x1.toInt.toNat L) ∧ ch mA s s')) := by
  have rm : ∀ a k, rdA x1.toInt.toNat a k → (a = 121 ∧ (k = 0 ∨ 21 ≤ k)) ∨ (125 ≤ a ∧ a ≤ 147) := fun a k z => by
    unfold rdA scr at z
    omega
  rcases d184 h.1 hl hok h.2.1 hn h.2.2.1 h.2.2.2.1 h147 h122 x1 x2 with ⟨cx, e⟩ | ⟨cx, ⟨p, s', ep, -, e, e0, e2, e3, e4⟩ | ⟨L, s', eL, eF, e8, e, e0, e2, e3, e4⟩⟩
  · exact Or.inl ⟨cx, _, e, w120 s 1, h.t0 _⟩
  · exact Or.inr ⟨cx, Or.inl ⟨p, s', ep, e, e0, ⟨h.1.of e4 (fun q => by have := rm _ _ q; omega) (fun j q => by have := rm _ _ q; omega), h.2.1.of e4 (fun a k q => by have := rm _ _ q; omega), e2, e3, h.2.2.2.2⟩, e4.mono fun a k z => by have := rm _ _ z; unfold mA; omega⟩⟩
  · have gd := mRd_gd hn hl hok eL
    refine Or.inr ⟨cx, Or.inr ⟨L, s', eL, e8, e, e0, ⟨h.1.of e4 (fun q => by have := rm _ _ q; omega) (fun j q => by have := rm _ _ q; omega), h.2.1.of e4 (fun a k q => by have := rm _ _ q; omega), e2, e3, fun f hf h9 L9 q i hi => ?_, fun f h9 L9 q => ?_⟩, e4.mono fun a k z => by have := rm _ _ z; unfold mA; omega⟩⟩
    · unfold fsRd at q
      unfold ltRd
      by_cases c : f = x1.toInt.toNat
      · rw [if_pos c] at q
        rw [if_pos c]
        cases q
        rw [List.length_map] at hi
        have hm : L.getD i dN ∈ L := by
          rw [List.getD, List.getElem?_eq_getElem hi]
          exact List.getElem_mem hi
        have := gd _ hm
        exact ⟨this.2.2.2.2.1, fun y hy => by have := this.2.2.2.2.2 y hy; omega⟩
      · rw [if_neg c] at q
        rw [if_neg c]
        exact h.2.2.2.2.1 f hf h9 L9 q i hi
    · unfold fsRd at q
      by_cases c : f = x1.toInt.toNat
      · rw [if_pos c] at q
        cases q
        refine ⟨eF, fun d hd => ?_⟩
        obtain ⟨n, n1, n2⟩ := List.mem_map.mp hd
        subst n2
        have := gd n n1
        exact ⟨this.1, this.2.1, this.2.2.1⟩
      · rw [if_neg c] at q
        exact h.2.2.2.2.2 f h9 L9 q
set_option maxRecDepth 100000 in
theorem R224 (h : RV s t ns fs lt) (hn : nsOk ns) (x1 x2 x3 x4 x5 : Int32) : (¬ mvV ns fs x1 x4 x5 ∧ ∃ s', dm224 x1 x2 x3 x4 x5 s = some s' ∧ sI s' 121 0 = 1 ∧ RV s' t ns fs lt ∧ ch mA s s') ∨ (mvV ns fs x1 x4 x5 ∧ ¬ (wayP x2 ∧ wayP x3) ∧ ∃ s', dm224 x1 x2 x3 x4 x5 s = some s' ∧ sI s' 121 0 = 2 ∧ RV s' t ns fs lt ∧ ch mA s s') ∨ (mvV ns fs x1 x4 x5 ∧ (wayP x2 ∧ wayP x3) ∧ ∃ h0 L s', fAt fs x1 = some (h0, L) ∧ dm224 x1 x2 x3 x4 x5 s = some s' ∧ sI s' 121 0 = 0 ∧ RV s' t ns (fsMove x1.toInt.toNat x5.toInt.toNat x2 x3 x4 (fun r c => onRf (mvM r c)) L fs) (ltMv lt x1.toInt.toNat x5.toInt.toNat) ∧ ch mA s s') := by
  rcases d224x h.2.1 hn h.2.2.1 h.2.2.2.1 x1 x2 x3 x4 x5 with ⟨cV, e⟩ | ⟨cV, cW, e⟩ | ⟨cV, cW, h0, L, s', e0, e, e2, e3, e9, e4⟩
  · exact Or.inl ⟨cV, _, e, w120 s 1, h.t0 _⟩
  · exact Or.inr (Or.inl ⟨cV, cW, _, e, w120 s 2, h.t0 _⟩)
  · obtain ⟨f1, f2⟩ := fAt_s e0
    refine Or.inr (Or.inr ⟨cV, cW, h0, L, s', e0, e, e9, ⟨h.1.of e4 (by omega) (fun j => by omega), h.2.1.of e4 (fun a k q => by omega), e2, e3, fun f hf h9 L9 q i hi => ?_, fun f h9 L9 q => ?_⟩, e4.mono fun a k z => by unfold mA; omega⟩)
    · unfold fsMove at q
      unfold ltMv
      by_cases c : f = x5.toInt.toNat
      · rw [if_pos c] at q
        rw [if_pos c]
        cases q
        rw [List.length_map] at hi
        exact h.2.2.2.2.1 _ (by omega) h0 L f2 i hi
      · rw [if_neg c] at q
        rw [if_neg c]
        exact h.2.2.2.2.1 f hf h9 L9 q i hi
    · unfold fsMove at q
      by_cases c : f = x5.toInt.toNat
      · rw [if_pos c] at q
        cases q
        obtain ⟨o1, o2⟩ := h.2.2.2.2.2 _ h0 L f2
        refine ⟨ft_map (fun d => (mv_map d).2) L 1 o1, fun d hd => ?_⟩
        obtain ⟨n, n1, n2⟩ := List.mem_map.mp hd
        subst n2
        obtain ⟨p1, p2, p3⟩ := o2 n n1
        exact ⟨mv_okd p1, ar_map p2 (mv_map n).1 (mv_map n).2, mv_s2 p3⟩
      · rw [if_neg c] at q
        exact h.2.2.2.2.2 f h9 L9 q
set_option maxRecDepth 100000 in
theorem R228 (h : RV s t ns fs lt) (hn : nsOk ns) (x y k n : Int32) : (¬ (0 ≤ x.toInt ∧ x.toInt < ns.length) ∧ ∃ s', dm228 x y k n s = some (0, s') ∧ sI s' 121 0 = 1 ∧ RV s' t ns fs lt ∧ ch mA s s') ∨ ((0 ≤ x.toInt ∧ x.toInt < ns.length) ∧ ¬ (¬ bey k (lastT y) ∧ wayP n) ∧ ∃ s', dm228 x y k n s = some (0, s') ∧ sI s' 121 0 = 2 ∧ RV s' t ns fs lt ∧ ch mA s s') ∨ ((0 ≤ x.toInt ∧ x.toInt < ns.length) ∧ (¬ bey k (lastT y) ∧ wayP n) ∧ ∃ s', dm228 x y k n s = some (caM x y k n (lastT y) fs 8 0 0, s') ∧ sI s' 121 0 = 0 ∧ RV s' t ns (fsShM x y k n (lastT y) fs) lt ∧ ch mA s s') := by
  rcases d228 h.2.1 hn h.2.2.1 x y k n with ⟨cx, e⟩ | ⟨cx, cn, e⟩ | ⟨cx, cn, s', e, e2, e9, e4⟩
  · exact Or.inl ⟨cx, _, e, w120 s 1, h.t0 _⟩
  · exact Or.inr (Or.inl ⟨cx, cn, _, e, w120 s 2, h.t0 _⟩)
  · have hfs : ∀ f h9 L9, fsShM x y k n (lastT y) fs f = some (h9, L9) → ∃ L, fs f = some (h9, L) ∧ L9 = L.map (shM x y k n (lastT y) h9) := fun f h9 L9 q => by
      unfold fsShM at q
      cases hq : fs f with
      | none =>
        rw [hq] at q
        cases q
      | some v =>
        obtain ⟨h0, L⟩ := v
        rw [hq] at q
        cases q
        exact ⟨L, rfl, rfl⟩
    refine Or.inr (Or.inr ⟨cx, cn, s', e, e9, ⟨h.1.of e4 (by omega) (fun j => by omega), h.2.1.of e4 (fun a k q => by omega), e2, fun f hf h9 L9 q i hi => ?_, fun f hf h9 L9 q i hi => ?_, fun f h9 L9 q => ?_⟩, e4.mono fun a k z => by unfold mA; omega⟩)
    · obtain ⟨L, q1, q2⟩ := hfs f h9 L9 q
      subst q2
      have hi2 : i < L.length := by rw [List.length_map] at hi; exact hi
      rw [List.getElem_map]
      exact (h.2.2.2.1 f hf h9 L q1 i hi2).go (fun w hw => hw.of e4 (fun a k z => by omega)) (sh_map L[i]).1
    · obtain ⟨L, q1, q2⟩ := hfs f h9 L9 q
      subst q2
      rw [List.length_map] at hi
      exact h.2.2.2.2.1 f hf h9 L q1 i hi
    · obtain ⟨L, q1, q2⟩ := hfs f h9 L9 q
      subst q2
      obtain ⟨o1, o2⟩ := h.2.2.2.2.2 f h9 L q1
      refine ⟨ft_map (fun d => (sh_map d).2) L 1 o1, fun d hd => ?_⟩
      obtain ⟨m, n1, n2⟩ := List.mem_map.mp hd
      subst n2
      obtain ⟨p1, p2, p3⟩ := o2 m n1
      exact ⟨sh_ok p1 (bey_rg cn.1) cn.2, ar_map p2 (sh_map m).1 (sh_map m).2, sh_2 p3⟩
set_option maxRecDepth 100000 in
theorem R182 (h : RV s t ns fs lt) (hn : nsOk ns) (x : Int32) : (¬ (0 ≤ x.toInt ∧ x.toInt < ns.length) ∧ ∃ s', dm182 x s = some s' ∧ sI s' 121 0 = 1 ∧ RV s' t ns fs lt ∧ ch mA s s') ∨ ((0 ≤ x.toInt ∧ x.toInt < ns.length) ∧ ∃ s', dm182 x s = some s' ∧ sI s' 121 0 = 0 ∧ RV s' t (ns.eraseIdx x.toInt.toNat) (fsDropM x fs) lt ∧ ch mA s s') := by
  rcases d182 h.2.1 hn h.2.2.1 x with ⟨c, e⟩ | ⟨c, s', e, e1, e2, e3, e4⟩
  · exact Or.inl ⟨c, _, e, (by rw [sI_wI, if_pos ⟨rfl, rfl⟩]), h.t0 _⟩
  · refine Or.inr ⟨c, s', e, e3, ?_, e4.mono fun a k z => by unfold mA; omega⟩
    have hfs : ∀ f h9 L9, fsDropM x fs f = some (h9, L9) → ∃ h0 L, fs f = some (h0, L) ∧ L9 = L.map (lsM x) := fun f h9 L9 q => by
      unfold fsDropM at q
      cases hq : fs f with
      | none =>
        rw [hq] at q
        cases q
      | some v =>
        obtain ⟨h0, L⟩ := v
        rw [hq] at q
        have q : (if h0 = x then none else some (if h0 ≤ x then h0 else h0 - 1, L.map (lsM x))) = some (h9, L9) := q
        by_cases c : h0 = x
        · rw [if_pos c] at q
          cases q
        · rw [if_neg c] at q
          cases q
          exact ⟨h0, L, rfl, rfl⟩
    refine ⟨h.1.of e4 (by omega) (fun j => by omega), e1, e2, fun f hf h9 L9 q i hi => ?_, fun f hf h9 L9 q i hi => ?_, fun f h9 L9 q => ?_⟩
    · obtain ⟨h0, L, q1, q2⟩ := hfs f h9 L9 q
      subst q2
      have hi2 : i < L.length := by rw [List.length_map] at hi; exact hi
      rw [List.getElem_map]
      exact (h.2.2.2.1 f hf h0 L q1 i hi2).go (fun w hw => hw.of e4 (fun a k z => by omega)) (ls_map c.1 ((h.2.2.2.2.2 f h0 L q1).2 L[i] (List.getElem_mem hi2)).1).1
    · obtain ⟨h0, L, q1, q2⟩ := hfs f h9 L9 q
      subst q2
      rw [List.length_map] at hi
      exact h.2.2.2.2.1 f hf h0 L q1 i hi
    · obtain ⟨h0, L, q1, q2⟩ := hfs f h9 L9 q
      subst q2
      obtain ⟨o1, o2⟩ := h.2.2.2.2.2 f h0 L q1
      refine ⟨?_, fun d hd => ?_⟩
      · have key : ∀ (M : List Nd) (k : Nat), (∀ d ∈ M, ndOk d) → ft M k → ft (M.map (lsM x)) k := by
          intro M
          induction M with
          | nil => exact fun k _ z => z
          | cons d M ih =>
            intro k hM hz
            obtain ⟨z1, z2⟩ := hz
            have e : arN (lsM x d) = arN d := by unfold arN; rw [(ls_map c.1 (hM d List.mem_cons_self)).2]
            refine ⟨z1, ?_⟩
            rw [e]
            exact ih _ (fun d hd => hM d (List.mem_cons_of_mem _ hd)) z2
        exact key L 1 (fun d hd => (o2 d hd).1) o1
      · obtain ⟨m, n1, n2⟩ := List.mem_map.mp hd
        subst n2
        obtain ⟨p1, p2, p3⟩ := o2 m n1
        refine ⟨by rw [ls_eq c.1 p1]; exact ls_ok c.1 p1, ar_map p2 (ls_map c.1 p1).1 (ls_map c.1 p1).2, ?_⟩
        have := ls_2 c p1 p3
        rw [List.length_eraseIdx_of_lt (by omega)]
        omega
end RVs
end
section
/-! both sides together, with the formulas: means -/
/-- a call that tells: nothing is changed, or something is thrown -/
def Cn (s : aS) (p : xZ → Prop) (D : Option (xZ × aS)) : Prop := ∃ o s1, D = some (o, s1) ∧ p o ∧ (s1 = s ∨ s1 = nw s 82 0)
section CVs
variable {tt : Nat} {xs : List Int32} {s : aS} {t : List Int32} {ns : List (List Int32)} {b : Nat} {p : xZ → Prop}
set_option maxRecDepth 100000 in
theorem Cn.x (hp : p (.inr 2)) (_hy : (82 : Nat) ≠ 3) : Cn s p (some (.inr 2, nw s 82 0)) := ⟨_, _, rfl, hp, Or.inr rfl⟩
set_option maxRecDepth 100000 in
theorem Cn.v {o : xZ} (hp : p o) : Cn s p (some (o, s)) := ⟨_, _, rfl, hp, Or.inl rfl⟩
set_option maxRecDepth 100000 in
theorem z162 (h : CV s t ns) (hl : Ly tt (cCc xs) s) (x y z : Int32) : Cn s pI (dm162 x y z s) := by
  unfold dm162 dm162_10
  rcases y54 h.2.2.1 x with e | ⟨b, e, e2, e3, e4⟩
  · rw [e]
    simp only [bu_some, vN_null]
    exact Cn.x (Or.inr rfl) (by decide)
  · rw [e]
    simp only [bu_some, vN_ref]
    obtain ⟨r, er⟩ := y161 b y s
    rw [if_pos e2, er]
    simp only [bu_some]
    split
    · exact Cn.x (Or.inr rfl) (by decide)
    · obtain ⟨v, ev⟩ := y144 (h.2.2.2.1 b e2) (by rw [(hl.tr e2).2.2.2.2.2.2.1]) y z
      rw [ev]
      simp only [bu_some]
      exact Cn.v (Or.inl ⟨v, rfl⟩)
set_option maxRecDepth 100000 in
theorem z163 (h : CV s t ns) (hl : Ly tt (cCc xs) s) (x y : Int32) : Cn s pI (dm163 x y s) := by
  unfold dm163 dm163_12
  rcases y54 h.2.2.1 x with e | ⟨b, e, e2, e3, e4⟩
  · rw [e]
    simp only [bu_some, vN_null]
    rcases y54 h.2.2.1 y with f | ⟨c, f, f2, f3, f4⟩
    · rw [f]
      simp only [bu_some, vN_null]
      exact Cn.x (Or.inr rfl) (by decide)
    · rw [f]
      simp only [bu_some, vN_ref]
      rw [if_pos f2]
      exact Cn.x (Or.inr rfl) (by decide)
  · rw [e]
    simp only [bu_some, vN_ref]
    rw [if_pos e2]
    rcases y54 h.2.2.1 y with f | ⟨c, f, f2, f3, f4⟩
    · rw [f]
      simp only [bu_some, vN_null]
      exact Cn.x (Or.inr rfl) (by decide)
    · rw [f]
      simp only [bu_some, vN_ref]
      obtain ⟨v, ev, hv⟩ := y164 (h.2.2.2.1 b e2) (h.2.2.2.1 c f2) (by rw [(hl.tr e2).2.2.2.2.2.2.1]) (by rw [(hl.tr f2).2.2.2.2.2.2.1])
      rw [if_pos f2, ev]
      simp only [bu_some]
      rw [if_pos hv]
      exact Cn.v (Or.inl ⟨v, rfl⟩)
end CVs
/-- formulas with their letters -/
def CG (s : aS) (fs : Nat → Option Fm) (lt : Nat → Nat → List Int32) : Prop := CF s fs ∧ CLt s fs lt
def SG (tt : Nat) (xs : List Int32) (s : aS) (t : List Int32) (ns : List (List Int32)) (fs : Nat → Option Fm) (lt : Nat → Nat → List Int32) : Prop := SS tt xs s t ns fs lt ∧ CG s fs lt
section SGs
variable {tt : Nat} {xs : List Int32} {s s1 s2 : aS} {t : List Int32} {ns : List (List Int32)} {fs : Nat → Option Fm} {lt : Nat → Nat → List Int32} {A : Nat → Nat → Prop}
set_option maxRecDepth 100000 in
theorem CF.of9 (h : CF s fs) (hl : Ly tt (cCc xs) s) (g : ch A s s1) (hA : ∀ a k, A a k → a < 100 ∨ (106 ≤ a ∧ a ≤ 148)) : CF s1 fs := fun f hf => ⟨fun q => (g.i fun z => by have := hA _ _ z; omega).trans ((h f hf).1 q), fun ho L q => by
  obtain ⟨a1, a2, b, a3, a4, a5⟩ := (h f hf).2 ho L q
  have hb := tr_at hl a4
  exact ⟨(g.i fun z => by have := hA _ _ z; omega).trans a1, a2, b, (g.r fun z => by have := hA _ _ z; omega).trans a3, g.k.mpr a4, a5.of g (fun z => by have := hA _ _ z; omega) (fun k z => by have := hA _ _ z; omega)⟩⟩
set_option maxRecDepth 100000 in
theorem CF.gx (h : CF s fs) (hl : Ly tt (cCc xs) s) (g : gx s s1) : CF s1 fs := fun f hf => by
  have hL : 149 ≤ sL s := hl.1
  refine ⟨fun q => ((g.2 101 (by omega)).2.1 f).trans ((h f hf).1 q), fun ho L q => ?_⟩
  obtain ⟨a1, a2, b, a3, a4, a5⟩ := (h f hf).2 ho L q
  have hb := (hl.tr a4).2.2.2.1
  exact ⟨((g.2 101 (by omega)).2.1 f).trans a1, a2, b, ((g.2 100 (by omega)).2.2 f).trans a3, g.k a4, ((g.2 b (by omega)).2.1 2).trans a5.1, a5.2.1, fun i hi w hw => ((g.2 (b + 1) (by omega)).2.1 _).trans (a5.2.2 i hi w hw)⟩
set_option maxRecDepth 100000 in
theorem CF.j {k : Nat} {v : Int64} (h : CF s fs) : CF (wJ s 148 k v) fs := h
set_option maxRecDepth 100000 in
theorem CG.of9 (h : CG s fs lt) (hl : Ly tt (cCc xs) s) (g : ch A s s1) (hA : ∀ a k, A a k → a < 100 ∨ (106 ≤ a ∧ a ≤ 148)) : CG s1 fs lt := ⟨h.1.of9 hl g hA, CLt.go h.1 h.2 (fun f _ _ => g.r fun z => by have := hA _ _ z; omega) (fun f b _ _ _ hk => by
  have hb := tr_at hl hk
  exact ⟨fun k => g.i fun z => (by have := hA _ _ z; omega), g.i fun z => (by have := hA _ _ z; omega), fun k => g.i fun z => (by have := hA _ _ z; omega)⟩)⟩
set_option maxRecDepth 100000 in
theorem CG.gx (h : CG s fs lt) (hl : Ly tt (cCc xs) s) (g : gx s s1) : CG s1 fs lt := ⟨h.1.gx hl g, CLt.go h.1 h.2 (fun f _ _ => (g.2 100 (by have : 149 ≤ sL s := hl.1; omega)).2.2 f) (fun f b _ _ _ hk => by
  have hb := (hl.tr hk).2.2.2.1
  exact ⟨fun k => (g.2 (b + 1) (by omega)).2.1 k, (g.2 (b + 2) (by omega)).2.1 1, fun k => (g.2 (b + 3) (by omega)).2.1 k⟩)⟩
set_option maxRecDepth 100000 in
theorem CG.j {k : Nat} {v : Int64} (h : CG s fs lt) : CG (wJ s 148 k v) fs lt := ⟨h.1.j, h.2⟩
set_option maxRecDepth 100000 in
/-- cells and ranges have no letters -/
theorem RV.em (h : RV s t ns fs lt) : ∀ f, f < 8 → ∀ h9 L, fs f = some (h9, L) → ∀ i (g : i < L.length), isRf L[i] → lt f i = [] := fun f hf h9 L q i g z => (h.2.2.2.1 f hf h9 L q i g).2.2 (fun y => by
  rcases z with z | z
  · rw [z] at y
    revert y
    decide
  · rw [z] at y
    revert y
    decide)
set_option maxRecDepth 100000 in
theorem ly_nw {y : Nat} (hl : Ly tt (cCc xs) s) (hy : y ≠ 1 ∧ y ≠ 3 ∧ y ≠ 70) : Ly tt (cCc xs) (nw s y 0) := hl.nwd lay_sm1 lay_sm2 hy
set_option maxRecDepth 100000 in
theorem RV.nw9 {y : Nat} (h : RV s t ns fs lt) (hl : Ly tt (cCc xs) s) : RV (nw s y 0) t ns fs lt := h.same fun a k h1 h2 => sI_nw (by have : 149 ≤ sL s := hl.1; omega)
set_option maxRecDepth 100000 in
theorem RV.j9 {k : Nat} {v : Int64} (h : RV s t ns fs lt) : RV (wJ s 148 k v) t ns fs lt := h.same fun _ _ _ _ => rfl
set_option maxRecDepth 100000 in
/-- the reference has had its turn -/
theorem SG.m (h1 : Ly tt (cCc xs) s1) (hv : CV s1 t ns) (hc : CG s1 fs lt) (l2 : Ly tt (cCc xs) s2) (g : ch mA s1 s2) (hr : RV s2 t ns fs lt) : SG tt xs s2 t ns fs lt := ⟨⟨l2, hv.m h1 g, hr⟩, hc.of9 h1 g (fun a k z => by unfold mA at z; omega)⟩
set_option maxRecDepth 100000 in
/-- something was thrown, and the reference says so -/
theorem SG.tw (h : SG tt xs s t ns fs lt) {y : Nat} (hy : y = 80 ∨ y = 81 ∨ y = 82) (w : Int32) : Ly tt (cCc xs) (nw s y 0) ∧ RV (nw s y 0) t ns fs lt ∧ SG tt xs (wI (nw s y 0) 121 0 w) t ns fs lt ∧ gw s (wI (nw s y 0) 121 0 w) := by
  obtain ⟨⟨hl, hv, hr⟩, hc⟩ := h
  have l1 : Ly tt (cCc xs) (nw s y 0) := ly_nw hl (by omega)
  have r1 := hr.nw9 (y := y) hl
  exact ⟨l1, r1, SG.m l1 (hv.thr hl (by omega)) (hc.gx hl (gx_nw s y 0)) (l1.wId (by decide)) (r1.t0 w).2 (r1.t0 w).1, (gw_nw s).tr (r1.t0 w).2⟩
set_option maxRecDepth 100000 in
/-- an answer, and the reference's -/
theorem SG.a (h : SG tt xs s t ns fs lt) (k : Nat) (v : Int64) (w : Int32) : Ly tt (cCc xs) (wJ s 148 k v) ∧ RV (wJ s 148 k v) t ns fs lt ∧ SG tt xs (wI (wJ s 148 k v) 121 0 w) t ns fs lt ∧ gw s (wI (wJ s 148 k v) 121 0 w) := by
  obtain ⟨⟨hl, hv, hr⟩, hc⟩ := h
  have l1 : Ly tt (cCc xs) (wJ s 148 k v) := hl.wJd
  have r1 := hr.j9 (k := k) (v := v)
  exact ⟨l1, r1, SG.m l1 hv.j hc.j (l1.wId (by decide)) (r1.t0 w).2 (r1.t0 w).1, ((gw_ch (ch.refl (fun _ _ => False) s)).j (k := k) (v := v)).tr (r1.t0 w).2⟩
end SGs
end
section
/-! each call in both, with the formulas: the calls that tell -/
section SGs
variable {tt : Nat} {xs : List Int32} {s s1 s2 : aS} {t : List Int32} {ns : List (List Int32)} {fs : Nat → Option Fm} {lt : Nat → Nat → List Int32} {A : Nat → Nat → Prop}
/-- how a call that answers ends in both: c says what is compared -/
def PV (tt : Nat) (xs : List Int32) (s : aS) (c : Prop) (D1 : Option (Int32 × aS)) (D2 : aS → Option (Int32 × aS)) : Prop := ∃ k s1 b s2 t1 ns1 fs1 lt1, D1 = some (k, s1) ∧ Ly tt (cCc xs) s1 ∧ D2 s1 = some (b, s2) ∧ (c → sI s2 121 0 = k ∧ (k = 0 → sJ s2 148 0 = b.toInt64)) ∧ SG tt xs s2 t1 ns1 fs1 lt1 ∧ gw s s2
def PN (tt : Nat) (xs : List Int32) (s : aS) (D1 : Option (Int32 × aS)) (D2 : aS → Option aS) : Prop := ∃ k s1 s2 t1 ns1 fs1 lt1, D1 = some (k, s1) ∧ Ly tt (cCc xs) s1 ∧ D2 s1 = some s2 ∧ sI s2 121 0 = k ∧ SG tt xs s2 t1 ns1 fs1 lt1 ∧ gw s s2
set_option maxRecDepth 100000 in
theorem s_size (h : SG tt xs s t ns fs lt) (x : Int32) : PV tt xs s True (dm10 x s) (dm243 x) := by
  rcases d159 h.2.1 x with ⟨c, e⟩ | ⟨ho, L, c, e⟩
  · have e1 : dm10 x s = some (1, nw s 82 0) := by
      unfold dm10
      rw [e]
      rfl
    obtain ⟨l1, r1, f1, g1⟩ := h.tw (y := 82) (by omega) 1
    rcases d243 r1.2.2.1 x with ⟨d, f⟩ | ⟨ho, L, d, f⟩
    · exact ⟨_, _, _, _, t, ns, fs, lt, e1, l1, f, fun _ => ⟨w120 _ 1, fun z => absurd z (by decide)⟩, f1, g1⟩
    · rw [c] at d
      cases d
  · have e3 : dm10 x s = some (0, wJ s 148 (jN 0) (Int32.ofNat L.length).toInt64) := by
      unfold dm10
      rw [e]
      simp only [bv_some]
      rw [zN_l, vI_int, if_pos a01, nx_eq]
    obtain ⟨l1, r1, f1, g1⟩ := h.a (jN 0) (Int32.ofNat L.length).toInt64 0
    rcases d243 r1.2.2.1 x with ⟨d, f⟩ | ⟨ho2, L2, d, f⟩
    · rw [c] at d
      cases d
    · rw [c] at d
      cases d
      exact ⟨_, _, _, _, t, ns, fs, lt, e3, l1, f, fun _ => ⟨w120 _ 0, fun _ => by rw [sJ_wI, sJ_wJ, if_pos ⟨rfl, rfl⟩]⟩, f1, g1⟩
set_option maxRecDepth 100000 in
theorem s_node (h : SG tt xs s t ns fs lt) (x y z : Int32) : PV tt xs s True (dm11 x y z s) (dm244 x y z) := by
  rcases d160 h.2.1 x y z with ⟨c, e⟩ | ⟨ho, L, c, cy, ⟨cz, e⟩ | ⟨cz, e⟩⟩
  · have e1 : dm11 x y z s = some (1, nw s 82 0) := by
      unfold dm11
      rw [e]
      rfl
    obtain ⟨l1, r1, f1, g1⟩ := h.tw (y := 82) (by omega) 1
    rcases d244 r1.2.2.1 x y z with ⟨d, f⟩ | ⟨ho, L, d, dy, -⟩
    · exact ⟨_, _, _, _, t, ns, fs, lt, e1, l1, f, fun _ => ⟨w120 _ 1, fun z => absurd z (by decide)⟩, f1, g1⟩
    · rcases c with c | ⟨ho2, L2, c, cy⟩
      · rw [c] at d
        cases d
      · rw [c] at d
        cases d
        exact absurd dy cy
  · have e1 : dm11 x y z s = some (2, nw s 80 0) := by
      unfold dm11
      rw [e]
      rfl
    obtain ⟨l1, r1, f1, g1⟩ := h.tw (y := 80) (by omega) 2
    rcases d244 r1.2.2.1 x y z with ⟨d, -⟩ | ⟨ho2, L2, d, dy, ⟨dz, f⟩ | ⟨dz, -⟩⟩
    · rcases d with d | ⟨ho2, L2, d, dy⟩
      · rw [c] at d
        cases d
      · rw [c] at d
        cases d
        exact absurd cy dy
    · exact ⟨_, _, _, _, t, ns, fs, lt, e1, l1, f, fun _ => ⟨w120 _ 2, fun z => absurd z (by decide)⟩, f1, g1⟩
    · exact absurd dz cz
  · have e3 : dm11 x y z s = some (0, wJ s 148 (jN 0) ((L.getD y.toInt.toNat (fun _ => 0)) z.toInt.toNat).toInt64) := by
      unfold dm11
      rw [e]
      simp only [bv_some]
      rw [zN_l, vI_int, if_pos a01, nx_eq]
    obtain ⟨l1, r1, f1, g1⟩ := h.a (jN 0) ((L.getD y.toInt.toNat (fun _ => 0)) z.toInt.toNat).toInt64 0
    rcases d244 r1.2.2.1 x y z with ⟨d, -⟩ | ⟨ho2, L2, d, dy, ⟨dz, -⟩ | ⟨dz, f⟩⟩
    · rcases d with d | ⟨ho2, L2, d, dy⟩
      · rw [c] at d
        cases d
      · rw [c] at d
        cases d
        exact absurd cy dy
    · exact absurd cz dz
    · rw [c] at d
      cases d
      exact ⟨_, _, _, _, t, ns, fs, lt, e3, l1, f, fun _ => ⟨w120 _ 0, fun _ => by rw [sJ_wI, sJ_wJ, if_pos ⟨rfl, rfl⟩]⟩, f1, g1⟩
set_option maxRecDepth 100000 in
theorem s_count (h : SG tt xs s t ns fs lt) (x : Int32) : PV tt xs s True (dm14 x s) (dm249 x) := by
  rcases d166 h.1.2.1.2.1.1.1 h.2.1 x with ⟨c, e⟩ | ⟨c, e⟩
  · have e1 : dm14 x s = some (1, nw s 80 0) := by
      unfold dm14
      rw [e]
      rfl
    obtain ⟨l1, r1, f1, g1⟩ := h.tw (y := 80) (by omega) 1
    rcases d249 r1.2.1 r1.2.2.1 x with ⟨d, f⟩ | ⟨d, -⟩
    · exact ⟨_, _, _, _, t, ns, fs, lt, e1, l1, f, fun _ => ⟨w120 _ 1, fun z => absurd z (by decide)⟩, f1, g1⟩
    · exact absurd d c
  · have e3 : dm14 x s = some (0, wJ s 148 (jN 0) (cntV ns fs x).toInt64) := by
      unfold dm14
      rw [e]
      simp only [bv_some]
      rw [zN_l, vI_int, if_pos a01, nx_eq]
    obtain ⟨l1, r1, f1, g1⟩ := h.a (jN 0) (cntV ns fs x).toInt64 0
    rcases d249 r1.2.1 r1.2.2.1 x with ⟨d, -⟩ | ⟨d, f⟩
    · exact absurd c d
    · exact ⟨_, _, _, _, t, ns, fs, lt, e3, l1, f, fun _ => ⟨w120 _ 0, fun _ => by rw [sJ_wI, sJ_wJ, if_pos ⟨rfl, rfl⟩]⟩, f1, g1⟩
set_option maxRecDepth 100000 in
theorem s_name (h : SG tt xs s t ns fs lt) (x y : Int32) : PV tt xs s True (dm15 x y s) (dm250 x y) := by
  rcases d169 h.1.2.1.2.1.1.1 (RC.ly h.1.1) h.1.2.1.2.1.2 x y with ⟨c, e⟩ | ⟨c, e⟩
  · have e1 : dm15 x y s = some (1, nw s 82 0) := by
      unfold dm15
      rw [e]
      rfl
    obtain ⟨l1, r1, f1, g1⟩ := h.tw (y := 82) (by omega) 1
    rcases d250 r1.2.1 h.1.2.1.2.1.2 x y with ⟨d, f⟩ | ⟨d, -⟩
    · exact ⟨_, _, _, _, t, ns, fs, lt, e1, l1, f, fun _ => ⟨w120 _ 1, fun z => absurd z (by decide)⟩, f1, g1⟩
    · exact absurd d c
  · have e3 : dm15 x y s = some (0, wJ s 148 (jN 0) (if y.toInt < 0 then -1 else (ns.getD x.toInt.toNat []).getD y.toInt.toNat (-1) : Int32).toInt64) := by
      unfold dm15
      rw [e]
      simp only [bv_some]
      rw [zN_l, vI_int, if_pos a01, nx_eq]
    obtain ⟨l1, r1, f1, g1⟩ := h.a (jN 0) (if y.toInt < 0 then -1 else (ns.getD x.toInt.toNat []).getD y.toInt.toNat (-1) : Int32).toInt64 0
    rcases d250 r1.2.1 h.1.2.1.2.1.2 x y with ⟨d, -⟩ | ⟨d, f⟩
    · exact absurd c d
    · exact ⟨_, _, _, _, t, ns, fs, lt, e3, l1, f, fun _ => ⟨w120 _ 0, fun _ => by rw [sJ_wI, sJ_wJ, if_pos ⟨rfl, rfl⟩]⟩, f1, g1⟩
set_option maxRecDepth 100000 in
theorem s_letter (h : SG tt xs s t ns fs lt) (x y z : Int32) : PV tt xs s True (dm12 x y z s) (dm246 x y z) := by
  rcases d162 h.1.1 h.2.1 h.2.2 x y z with ⟨c, e⟩ | ⟨ho, L, c, cy, e⟩
  · have e1 : dm12 x y z s = some (1, nw s 82 0) := by
      unfold dm12
      rw [e]
      rfl
    obtain ⟨l1, r1, f1, g1⟩ := h.tw (y := 82) (by omega) 1
    rcases d246 r1.2.2.1 r1.2.2.2.1 x y z with ⟨d, f⟩ | ⟨ho, L, d, dy, -⟩
    · exact ⟨_, _, _, _, t, ns, fs, lt, e1, l1, f, fun _ => ⟨w120 _ 1, fun z => absurd z (by decide)⟩, f1, g1⟩
    · rcases c with c | ⟨ho2, L2, c, cy⟩
      · rw [c] at d
        cases d
      · rw [c] at d
        cases d
        exact absurd dy cy
  · have e3 : dm12 x y z s = some (0, wJ s 148 (jN 0) (if z.toInt < 0 then -1 else (lt x.toInt.toNat y.toInt.toNat).getD z.toInt.toNat (-1) : Int32).toInt64) := by
      unfold dm12
      rw [e]
      simp only [bv_some]
      rw [zN_l, vI_int, if_pos a01, nx_eq]
    obtain ⟨l1, r1, f1, g1⟩ := h.a (jN 0) (if z.toInt < 0 then -1 else (lt x.toInt.toNat y.toInt.toNat).getD z.toInt.toNat (-1) : Int32).toInt64 0
    rcases d246 r1.2.2.1 r1.2.2.2.1 x y z with ⟨d, -⟩ | ⟨ho2, L2, d, dy, f⟩
    · rcases d with d | ⟨ho2, L2, d, dy⟩
      · rw [c] at d
        cases d
      · rw [c] at d
        cases d
        exact absurd cy dy
    · exact ⟨_, _, _, _, t, ns, fs, lt, e3, l1, f, fun _ => ⟨w120 _ 0, fun _ => by rw [sJ_wI, sJ_wJ, if_pos ⟨rfl, rfl⟩]⟩, f1, g1⟩
set_option maxRecDepth 100000 in
theorem s_same (h : SG tt xs s t ns fs lt) (x y : Int32) : PV tt xs s True (dm13 x y s) (dm248 x y) := by
  rcases d163 h.1.1 h.2.1 h.2.2 h.1.2.2.2.2.2.2.1 x y with ⟨c, e⟩ | ⟨h1, L, h2, M, c1, c2, e⟩
  · have e1 : dm13 x y s = some (1, nw s 82 0) := by
      unfold dm13
      rw [e]
      rfl
    obtain ⟨l1, r1, f1, g1⟩ := h.tw (y := 82) (by omega) 1
    rcases d248 r1.2.2.1 r1.2.2.2.1 r1.2.2.2.2.1 x y with ⟨d, f⟩ | ⟨h1, L, h2, M, d1, d2, -⟩
    · exact ⟨_, _, _, _, t, ns, fs, lt, e1, l1, f, fun _ => ⟨w120 _ 1, fun z => absurd z (by decide)⟩, f1, g1⟩
    · rcases c with c | c
      · rw [c] at d1
        cases d1
      · rw [c] at d2
        cases d2
  · have e3 : dm13 x y s = some (0, wJ s 148 (jN 0) (b01 (samF L M (lt x.toInt.toNat) (lt y.toInt.toNat))).toInt64) := by
      unfold dm13 dm13_10
      rw [e]
      simp only [bv_some]
      rw [zN_l, vI_int, if_pos a01, if_pos a01]
      simp only [nx_eq]
      have e10 : (1 : Int32).toInt64 = 1 := by decide
      have e00 : (0 : Int32).toInt64 = 0 := by decide
      by_cases p : samF L M (lt x.toInt.toNat) (lt y.toInt.toNat)
      · rw [b01_t p, if_neg (by decide), e10]
      · rw [b01_f p, if_pos rfl, e00]
    obtain ⟨l1, r1, f1, g1⟩ := h.a (jN 0) (b01 (samF L M (lt x.toInt.toNat) (lt y.toInt.toNat))).toInt64 0
    rcases d248 r1.2.2.1 r1.2.2.2.1 r1.2.2.2.2.1 x y with ⟨d, -⟩ | ⟨h3, L3, h4, M4, d1, d2, f⟩
    · rcases d with d | d
      · rw [c1] at d
        cases d
      · rw [c2] at d
        cases d
    · have eL : L3 = L := (Prod.mk.inj (Option.some.inj (d1.symm.trans c1))).2
      have eM : M4 = M := (Prod.mk.inj (Option.some.inj (d2.symm.trans c2))).2
      rw [eL, eM] at f
      exact ⟨_, _, _, _, t, ns, fs, lt, e3, l1, f, fun _ => ⟨w120 _ 0, fun _ => by rw [sJ_wI, sJ_wJ, if_pos ⟨rfl, rfl⟩]⟩, f1, g1⟩
set_option maxRecDepth 100000 in
/-- a call of which only the end is shown here -/
theorem s_form (h : SG tt xs s t ns fs lt) (x k : Int32) : PV tt xs s False (dm9 x k s) (dm232 x k) := by
  have ref : ∀ v s1, dm9 x k s = some (v, s1) → Ly tt (cCc xs) s1 → CV s1 t ns → CG s1 fs lt → RV s1 t ns fs lt → gw s s1 → PV tt xs s False (dm9 x k s) (dm232 x k) := by
    intro v s1 e l1 v1 c1 r1 g1
    obtain ⟨b, s2, f, f1, f2⟩ := r232 r1 v1.2.1.2 x k
    have q := dt232 (sio := true) (d := 2000) (by decide) l1 f
    exact ⟨v, s1, b, s2, t, ns, fs, lt, e, l1, f, fun z => z.elim, SG.m l1 v1 c1 q.1 f2 f1, g1.tr f2⟩
  obtain ⟨⟨hl, hv, hr⟩, hc⟩ := h
  rcases y54 hv.2.2.1 x with e | ⟨b, e, e2, e3, e4⟩
  · have e5 : dm9 x k s = some (1, nw s 82 0) := by
      unfold dm9 dm138
      rw [e]
      rfl
    exact ref _ _ e5 (ly_nw hl (by decide)) (hv.thr hl (by decide)) (hc.gx hl (gx_nw s 82 0)) (hr.nw9 hl) (gw_nw s)
  · obtain ⟨N, u, w1, w2, w3, w4⟩ := hv.2.2.2.1 b e2
    obtain ⟨v, s1, g1, g2⟩ := c139 (ns := ns) e2 (tr_at hl e2) ⟨N, u, w1, w2, w3, fun k hk => by
      obtain ⟨l, q, -⟩ := w4 k hk
      exact ⟨l, q⟩⟩ (by rw [(hl.tr e2).2.2.2.2.2.2.1]) hv.2.1.1.1 hv.2.1.2 (RC.ly hl) (AS.ly hl) k
    have l1 := (dt139 (sio := true) (d := 2000) (by decide) hl e2 g1).1
    have e5 : dm9 x k s = some (0, wJ s1 148 (jN 0) v.toInt64) := by
      unfold dm9 dm138
      rw [e]
      simp only [bu_some, vN_ref]
      rw [if_pos e2, g1]
      simp only [bv_some]
      rw [zN_l, vI_int, if_pos a01, nx_eq]
    exact ref _ _ e5 l1.wJd (hv.of hl g2 (fun a k z => Or.inr (by omega))).j (hc.of9 hl g2 (fun a k z => by omega)).j ((hr.same fun a k h1 h2 => g2.i (by omega)).j9) ((gw_ch g2).j)
set_option maxRecDepth 100000 in
theorem s_remove (h : SG tt xs s t ns fs lt) (x : Int32) : PN tt xs s (dm8 x s) (dm231 x) := by
  have h0 := h
  obtain ⟨⟨hl, hv, hr⟩, hc⟩ := h
  rcases d137 hc.1 x with ⟨c, e⟩ | ⟨ho, L, c, e⟩
  · have e1 : dm8 x s = some (1, nw s 82 0) := by
      unfold dm8
      rw [e]
      rfl
    obtain ⟨l1, r1, f1, g1⟩ := h0.tw (y := 82) (by omega) 1
    rcases d231 r1.2.2.1 x with ⟨d, f⟩ | ⟨ho, L, d, f⟩
    · exact ⟨_, _, _, t, ns, fs, lt, e1, l1, f, w120 _ 1, f1, g1⟩
    · rw [c] at d
      cases d
  · have e1 : dm8 x s = some (0, wI s 101 x.toInt.toNat (-1)) := by
      unfold dm8
      rw [e]
      rfl
    obtain ⟨f1, f2⟩ := fAt_s c
    have g : ch (fun a k => a = 101 ∧ k = x.toInt.toNat) s (wI s 101 x.toInt.toNat (-1)) := (ch.refl _ s).wI ⟨rfl, rfl⟩
    have l1 : Ly tt (cCc xs) (wI s 101 x.toInt.toNat (-1)) := hl.wId (by decide)
    have r1 : RV (wI s 101 x.toInt.toNat (-1)) t ns fs lt := hr.same fun a k h1 h2 => g.i (by omega)
    have v1 : CV (wI s 101 x.toInt.toNat (-1)) t ns := hv.of hl g (fun a k z => Or.inl z.1)
    have u1 : CLt (wI s 101 x.toInt.toNat (-1)) (fsDel fs x.toInt.toNat) lt := (CLt.go hc.1 hc.2 (fun f _ _ => g.r (by omega)) (fun f b _ _ _ hk => by
      have hb := tr_at hl hk
      exact ⟨fun k => g.i (by omega), g.i (by omega), fun k => g.i (by omega)⟩)).len (fun f h9 L9 q => by
      unfold fsDel at q
      by_cases ef : f = x.toInt.toNat
      · rw [if_pos ef] at q
        cases q
      · rw [if_neg ef] at q
        exact ⟨h9, L9, q, rfl⟩)
    have c1 : CF (wI s 101 x.toInt.toNat (-1)) (fsDel fs x.toInt.toNat) := fun f hf => by
      unfold fsDel
      by_cases ef : f = x.toInt.toNat
      · rw [if_pos ef]
        exact ⟨fun _ => by rw [sI_wI, if_pos ⟨rfl, ef⟩], fun h9 L9 q => (by cases q)⟩
      · rw [if_neg ef]
        refine ⟨fun q => (g.i (by omega)).trans ((hc.1 f hf).1 q), fun h9 L9 q => ?_⟩
        obtain ⟨a1, a2, b, a3, a4, a5⟩ := (hc.1 f hf).2 h9 L9 q
        have hb := tr_at hl a4
        exact ⟨(g.i (by omega)).trans a1, a2, b, (g.r (by omega)).trans a3, g.k.mpr a4, a5.of g (by omega) (fun k => by omega)⟩
    rcases R231 r1 x with ⟨d, -⟩ | ⟨d, s2, f, f3, f4, f5⟩
    · rw [c] at d
      cases d
    · have q := dt231 (sio := true) (d := 2000) (by decide) l1 f
      exact ⟨_, _, s2, t, ns, _, lt, e1, l1, f, f3, SG.m l1 v1 ⟨c1, u1⟩ q.1 f5 f4, (gw_ch g).tr f5⟩
end SGs
end
section
/-! each call in both, with the formulas: text and names -/
section SGs
variable {tt : Nat} {xs : List Int32} {s s1 s2 : aS} {t : List Int32} {ns : List (List Int32)} {fs : Nat → Option Fm} {lt : Nat → Nat → List Int32} {A : Nat → Nat → Prop}
set_option maxRecDepth 100000 in
theorem s_type (h : SG tt xs s t ns fs lt) (x : Int32) : PV tt xs s True (dm1 x s) (dm172 x) := by
  obtain ⟨⟨hl, hv, hr⟩, hc⟩ := h
  have T80 : (sT s 80).2 = 256 := (RC.ly hl).1
  have fin : ∀ k s1, dm1 x s = some (k, s1) → Ly tt (cCc xs) s1 ∧ RV s1 t ns fs lt := fun k s1 e => by
    have q := dt1 (sio := true) (d := 2000) (by decide) hl e
    exact ⟨q.1, hr.ex hl q.2.1⟩
  rcases t27 (x := x) hv.1.1 T80 hv.1.2.1 with ⟨c, e⟩ | ⟨c, c2, e⟩ | ⟨c, c2, s1, e, e1, e2⟩
  · have e1 : dm1 x s = some (1, nw s 80 0) := by
      unfold dm1
      rw [e]
      rfl
    obtain ⟨l1, v1⟩ := fin _ _ e1
    rcases t172 (x := x) v1.1 hv.1.2.1 with ⟨d, f⟩ | ⟨d, -⟩ | ⟨d, -⟩
    · have q := dt172 (sio := true) (d := 2000) (by decide) l1 f
      exact ⟨_, _, _, _, t, ns, fs, lt, e1, l1, f, fun _ => ⟨by rw [sI_wI, if_pos ⟨rfl, rfl⟩], fun z => absurd z (by decide)⟩, SG.m l1 (hv.thr hl (by decide)) (hc.gx hl (gx_nw s 80 0)) q.1 (v1.t0 1).2 (v1.t0 1).1, (gw_nw s).tr (v1.t0 1).2⟩
    · exact absurd d c
    · exact absurd d c
  · have e1 : dm1 x s = some (2, nw s 81 0) := by
      unfold dm1
      rw [e]
      rfl
    obtain ⟨l1, v1⟩ := fin _ _ e1
    rcases t172 (x := x) v1.1 hv.1.2.1 with ⟨d, f⟩ | ⟨d, -, f⟩ | ⟨d, d2, -⟩
    · exact absurd c d
    · have q := dt172 (sio := true) (d := 2000) (by decide) l1 f
      exact ⟨_, _, _, _, t, ns, fs, lt, e1, l1, f, fun _ => ⟨by rw [sI_wI, if_pos ⟨rfl, rfl⟩], fun z => absurd z (by decide)⟩, SG.m l1 (hv.thr hl (by decide)) (hc.gx hl (gx_nw s 81 0)) q.1 (v1.t0 2).2 (v1.t0 2).1, (gw_nw s).tr (v1.t0 2).2⟩
    · omega
  · have e3 : dm1 x s = some (0, wJ s1 148 (jN 0) (Int32.ofNat (t ++ nzF x 4 0).length).toInt64) := by
      unfold dm1
      rw [e]
      simp only [bv_some]
      rw [zN_l, vI_int, if_pos a01, nx_eq]
    obtain ⟨l1, v1⟩ := fin _ _ e3
    have hlen : (t ++ nzF x 4 0).length ≤ 256 := by rw [List.length_append, nzF_len]; exact c2
    have hok : okT (t ++ nzF x 4 0) := okT_ap hv.1.2.2 (nzF_ok x 4 0 c)
    have w1 : CV (wJ s1 148 (jN 0) (Int32.ofNat (t ++ nzF x 4 0).length).toInt64) (t ++ nzF x 4 0) ns := (hv.tx hl (e2.mono fun a k z => by omega) e1 ⟨hlen, hok⟩).j
    rcases t172 (x := x) v1.1 hv.1.2.1 with ⟨d, -⟩ | ⟨d, d2, -⟩ | ⟨d, d2, s2, f, f1, f2, f3⟩
    · exact absurd c d
    · omega
    · have q := dt172 (sio := true) (d := 2000) (by decide) l1 f
      have g : ch mA (wJ s1 148 (jN 0) (Int32.ofNat (t ++ nzF x 4 0).length).toInt64) s2 := f3.mono fun a k z => by unfold mA; omega
      refine ⟨_, _, _, s2, t ++ nzF x 4 0, ns, fs, lt, e3, l1, f, fun _ => ⟨f2, fun _ => ?_⟩, SG.m l1 w1 (hc.of9 hl e2 (fun a k z => by omega)).j q.1 g ⟨f1, v1.2.1.of f3 (fun a k z => by omega), v1.2.2.1.of f3 (fun a k z => by omega), v1.2.2.2.1.of f3 (fun a k z => by omega), v1.2.2.2.2⟩, ?_⟩
      · rw [jj f3 (by omega), sJ_wJ, if_pos ⟨rfl, rfl⟩]
      · exact ((gw_ch e2).j (k := jN 0) (v := (Int32.ofNat (t ++ nzF x 4 0).length).toInt64)).tr f3
set_option maxRecDepth 100000 in
theorem s_erase (h : SG tt xs s t ns fs lt) : ∃ s1 s2, dm25 s = some s1 ∧ dm173 s1 = some s2 ∧ SG tt xs s2 [] ns fs lt ∧ gw s s2 := by
  obtain ⟨⟨hl, hv, hr⟩, hc⟩ := h
  have e : dm25 s = some (wI s 79 1 0) := rfl
  have g1 : ch (fun a _ => a = 79 ∨ a = 80) s (wI s 79 1 0) := (ch.refl _ s).wI (Or.inl rfl)
  have q := dt25 (sio := true) (d := 2000) (by decide) hl e
  have w1 : CV (wI s 79 1 0) [] ns := hv.tx hl g1 ⟨by rw [sI_wI, if_pos ⟨rfl, rfl⟩]; rfl, fun j hj => absurd hj (Nat.not_lt_zero j)⟩ ⟨Nat.zero_le _, fun y hy => (by cases hy)⟩
  obtain ⟨s2, f, f1, f2⟩ := r173 (hr.ex hl q.2.1)
  have q2 := dt173 (sio := true) (d := 2000) (by decide) q.1 f
  exact ⟨_, s2, e, f, SG.m q.1 w1 (hc.of9 hl g1 (fun a k z => by omega)) q2.1 f2 f1, (gw_ch g1).tr f2⟩
set_option maxRecDepth 100000 in
theorem s_sheet (h : SG tt xs s t ns fs lt) : PV tt xs s True (dm2 s) dm174 := by
  obtain ⟨⟨hl, hv, hr⟩, hc⟩ := h
  have fin : ∀ k s1, dm2 s = some (k, s1) → Ly tt (cCc xs) s1 ∧ RV s1 t ns fs lt := fun k s1 e => by
    have q := dt2 (sio := true) (d := 2000) (by decide) hl e
    exact ⟨q.1, hr.ex hl q.2.1⟩
  have T122 : ∀ s1, Ly tt (cCc xs) s1 → (sT s1 122).2 = 256 := fun s1 l1 => by rw [l1.T (a := 122) (p := (100, 256)) 44 rfl rfl]
  rcases d30 hv.2.1.1 (RC.ly hl) hv.2.1.2 (FB.ly hl) (TF.ly hl) hv.1.1 hv.1.2.1 hv.1.2.2 with ⟨c, e⟩ | ⟨c, c2, e⟩ | ⟨c, c2, s1, e, e1, e2⟩
  · have e1 : dm2 s = some (1, nw s 80 0) := by
      unfold dm2
      rw [e]
      rfl
    obtain ⟨l1, v1⟩ := fin _ _ e1
    rcases d174 v1.2.1 hv.2.1.2 v1.1 hv.1.2.1 (T122 _ l1) with ⟨d, f⟩ | ⟨d, -⟩ | ⟨d, -⟩
    · have q := dt174 (sio := true) (d := 2000) (by decide) l1 f
      exact ⟨_, _, _, _, t, ns, fs, lt, e1, l1, f, fun _ => ⟨by rw [sI_wI, if_pos ⟨rfl, rfl⟩], fun z => absurd z (by decide)⟩, SG.m l1 (hv.thr hl (by decide)) (hc.gx hl (gx_nw s 80 0)) q.1 (v1.t0 1).2 (v1.t0 1).1, (gw_nw s).tr (v1.t0 1).2⟩
    · exact absurd d c
    · exact absurd d c
  · have e1 : dm2 s = some (2, nw s 81 0) := by
      unfold dm2
      rw [e]
      rfl
    obtain ⟨l1, v1⟩ := fin _ _ e1
    rcases d174 v1.2.1 hv.2.1.2 v1.1 hv.1.2.1 (T122 _ l1) with ⟨d, f⟩ | ⟨d, -, f⟩ | ⟨d, d2, -⟩
    · exact absurd c d
    · have q := dt174 (sio := true) (d := 2000) (by decide) l1 f
      exact ⟨_, _, _, _, t, ns, fs, lt, e1, l1, f, fun _ => ⟨by rw [sI_wI, if_pos ⟨rfl, rfl⟩], fun z => absurd z (by decide)⟩, SG.m l1 (hv.thr hl (by decide)) (hc.gx hl (gx_nw s 81 0)) q.1 (v1.t0 2).2 (v1.t0 2).1, (gw_nw s).tr (v1.t0 2).2⟩
    · omega
  · have e3 : dm2 s = some (0, wJ s1 148 (jN 0) (Int32.ofNat ns.length).toInt64) := by
      unfold dm2
      rw [e]
      simp only [bv_some]
      rw [zN_l, vI_int, if_pos a01, nx_eq]
    obtain ⟨l1, v1⟩ := fin _ _ e3
    have w1 : CV (wJ s1 148 (jN 0) (Int32.ofNat ns.length).toInt64) t (ns ++ [t]) := (hv.nm hl e2 e1 (ok_ap hv.2.1.2 c2 c.1 hv.1.2.2)).j
    rcases d174 v1.2.1 hv.2.1.2 v1.1 hv.1.2.1 (T122 _ l1) with ⟨d, -⟩ | ⟨d, d2, -⟩ | ⟨d, d2, s2, f, f1, f2, f3⟩
    · exact absurd c d
    · omega
    · have q := dt174 (sio := true) (d := 2000) (by decide) l1 f
      have g : ch mA (wJ s1 148 (jN 0) (Int32.ofNat ns.length).toInt64) s2 := f3.mono fun a k z => by unfold mA; omega
      refine ⟨_, _, _, s2, t, ns ++ [t], fs, lt, e3, l1, f, fun _ => ⟨f2, fun _ => ?_⟩, SG.m l1 w1 (hc.of9 hl e2 (fun a k z => by omega)).j q.1 g ⟨v1.1.of f3 (by omega) (fun j => by omega), f1, v1.2.2.1.of f3 (fun a k z => by omega), v1.2.2.2.1.of f3 (fun a k z => by omega), v1.2.2.2.2.1, v1.2.2.2.2.2.len (by rw [List.length_append]; omega)⟩, ?_⟩
      · rw [jj f3 (by omega), sJ_wJ, if_pos ⟨rfl, rfl⟩]
      · exact ((gw_ch e2).j (k := jN 0) (v := (Int32.ofNat ns.length).toInt64)).tr f3
set_option maxRecDepth 100000 in
theorem s_rename (h : SG tt xs s t ns fs lt) (x : Int32) : PN tt xs s (dm3 x s) (dm180 x) := by
  obtain ⟨⟨hl, hv, hr⟩, hc⟩ := h
  have fin : ∀ k s1, dm3 x s = some (k, s1) → Ly tt (cCc xs) s1 ∧ RV s1 t ns fs lt := fun k s1 e => by
    have q := dt3 (sio := true) (d := 2000) (by decide) hl e
    exact ⟨q.1, hr.ex hl q.2.1⟩
  have T122 : ∀ s1, Ly tt (cCc xs) s1 → (sT s1 122).2 = 256 := fun s1 l1 => by rw [l1.T (a := 122) (p := (100, 256)) 44 rfl rfl]
  rcases d51 hv.2.1.1 (RC.ly hl) hv.2.1.2 (FB.ly hl) (TF.ly hl) hv.1.1 hv.1.2.1 hv.1.2.2 x with ⟨c, e⟩ | ⟨c, c2, e⟩ | ⟨c, c2, s1, e, e1, e2⟩
  · have e1 : dm3 x s = some (1, nw s 82 0) := by
      unfold dm3
      rw [e]
      rfl
    obtain ⟨l1, v1⟩ := fin _ _ e1
    rcases d180 v1.2.1 hv.2.1.2 v1.1 hv.1.2.1 (T122 _ l1) x with ⟨d, f⟩ | ⟨d, -⟩ | ⟨d, -⟩
    · have q := dt180 (sio := true) (d := 2000) (by decide) l1 f
      exact ⟨_, _, _, t, ns, fs, lt, e1, l1, f, by rw [sI_wI, if_pos ⟨rfl, rfl⟩], SG.m l1 (hv.thr hl (by decide)) (hc.gx hl (gx_nw s 82 0)) q.1 (v1.t0 1).2 (v1.t0 1).1, (gw_nw s).tr (v1.t0 1).2⟩
    · exact absurd d c
    · exact absurd d c
  · have e1 : dm3 x s = some (2, nw s 80 0) := by
      unfold dm3
      rw [e]
      rfl
    obtain ⟨l1, v1⟩ := fin _ _ e1
    rcases d180 v1.2.1 hv.2.1.2 v1.1 hv.1.2.1 (T122 _ l1) x with ⟨d, f⟩ | ⟨d, -, f⟩ | ⟨d, d2, -⟩
    · exact absurd c d
    · have q := dt180 (sio := true) (d := 2000) (by decide) l1 f
      exact ⟨_, _, _, t, ns, fs, lt, e1, l1, f, by rw [sI_wI, if_pos ⟨rfl, rfl⟩], SG.m l1 (hv.thr hl (by decide)) (hc.gx hl (gx_nw s 80 0)) q.1 (v1.t0 2).2 (v1.t0 2).1, (gw_nw s).tr (v1.t0 2).2⟩
    · exact absurd d2 c2
  · have e3 : dm3 x s = some (0, s1) := by
      unfold dm3
      rw [e]
      rfl
    obtain ⟨l1, v1⟩ := fin _ _ e3
    have w1 : CV s1 t (ns.set x.toInt.toNat t) := hv.nm hl e2 e1 (ok_set hv.2.1.2 c2.1 hv.1.2.2)
    rcases d180 v1.2.1 hv.2.1.2 v1.1 hv.1.2.1 (T122 _ l1) x with ⟨d, -⟩ | ⟨d, d2, -⟩ | ⟨d, d2, s2, f, f1, f2, f3⟩
    · exact absurd c d
    · exact absurd c2 d2
    · have q := dt180 (sio := true) (d := 2000) (by decide) l1 f
      have g : ch mA s1 s2 := f3.mono fun a k z => by unfold mA; omega
      exact ⟨_, _, s2, t, _, fs, lt, e3, l1, f, f2, SG.m l1 w1 (hc.of9 hl e2 (fun a k z => by omega)) q.1 g ⟨v1.1.of f3 (by omega) (fun j => by omega), f1, v1.2.2.1.of f3 (fun a k z => by omega), v1.2.2.2.1.of f3 (fun a k z => by omega), v1.2.2.2.2.1, v1.2.2.2.2.2.len (by rw [List.length_set]; omega)⟩, (gw_ch e2).tr f3⟩
end SGs
end
section
/-! each call in both, with the formulas: drop, shift, move -/
section SGs
variable {tt : Nat} {xs : List Int32} {s s1 s2 : aS} {t : List Int32} {ns : List (List Int32)} {fs : Nat → Option Fm} {lt : Nat → Nat → List Int32} {A : Nat → Nat → Prop}
set_option maxRecDepth 100000 in
theorem s_drop (h : SG tt xs s t ns fs lt) (x : Int32) : PN tt xs s (dm4 x s) (dm182 x) := by
  have h0 := h
  obtain ⟨⟨hl, hv, hr⟩, hc⟩ := h
  rcases d52 hl hv.2.1.1 hv.2.1.2 hc.1 hv.2.2.1 x with ⟨c, e⟩ | ⟨c, s1, e, -, e2, -, -⟩
  · have e1 : dm4 x s = some (1, nw s 82 0) := by
      unfold dm4
      rw [e]
      rfl
    obtain ⟨l1, r1, -, -⟩ := h0.tw (y := 82) (by omega) 1
    rcases R182 r1 hv.2.1.2 x with ⟨d, s2, f, f1, f2, f3⟩ | ⟨d, -⟩
    · have q := dt182 (sio := true) (d := 2000) (by decide) l1 f
      exact ⟨_, _, s2, t, ns, fs, lt, e1, l1, f, f1, SG.m l1 (hv.thr hl (by decide)) (hc.gx hl (gx_nw s 82 0)) q.1 f3 f2, (gw_nw s).tr f3⟩
    · exact absurd d c
  · have e3 : dm4 x s = some (0, s1) := by
      unfold dm4
      rw [e]
      rfl
    have q1 := dt4 (sio := true) (d := 2000) (by decide) hl e3
    have r1 := hr.ex hl q1.2.1
    rcases y52 hv hl x with ⟨c9, -⟩ | ⟨-, s9, z1, z2, z3⟩
    · exact absurd c c9
    · have es : s9 = s1 := (Prod.mk.inj (Option.some.inj (z1.symm.trans e))).2
      rw [es] at z2 z3
      have ef : fsDrop x fs = fsDropM x fs := fsDrop_eq fun f h9 L9 q9 d hd z => ((hr.2.2.2.2.2 f h9 L9 q9).2 d hd).1.c c.1 z
      rw [ef] at e2
      have u2 : CLt s1 fs lt := d52y hl hv.2.1.1 hv.2.1.2 hc.1 hv.2.2.1 hc.2 c (fun f hf h9 L9 q9 => ⟨fun d hd z => Classical.byContradiction fun y => by
        have := ((hr.2.2.2.2.2 f h9 L9 q9).2 d hd).1.2.2.1 y
        rw [z, iEq] at this
        have : x.toInt = -1 := this
        omega, hr.em f hf h9 L9 q9⟩) e
      have u3 : CLt s1 (fsDropM x fs) lt := u2.len (fun f h9 L9 q => by
        unfold fsDropM at q
        cases hq : fs f with
        | none =>
          rw [hq] at q
          cases q
        | some v =>
          obtain ⟨h0, L⟩ := v
          rw [hq] at q
          have q : (if h0 = x then none else some (if h0 ≤ x then h0 else h0 - 1, L.map (lsM x))) = some (h9, L9) := q
          by_cases c : h0 = x
          · rw [if_pos c] at q
            cases q
          · rw [if_neg c] at q
            have e := (Prod.mk.inj (Option.some.inj q)).2
            exact ⟨h0, L, rfl, by rw [← e, List.length_map]⟩)
      rcases R182 r1 hv.2.1.2 x with ⟨d, -⟩ | ⟨-, s2, f, f1, f2, f3⟩
      · exact absurd c d
      · have q := dt182 (sio := true) (d := 2000) (by decide) q1.1 f
        exact ⟨_, _, s2, t, _, _, lt, e3, q1.1, f, f1, SG.m q1.1 z2 ⟨e2, u3⟩ q.1 f3 f2, z3.tr f3⟩
set_option maxRecDepth 100000 in
theorem s_shift (h : SG tt xs s t ns fs lt) (x y k n : Int32) : PV tt xs s True (dm7 x y k n s) (dm228 x y k n) := by
  have h0 := h
  obtain ⟨⟨hl, hv, hr⟩, hc⟩ := h
  rcases d133 hl hv.2.1.1.1 hv.2.1.2 hc.1 hv.2.2.1 x y k n with ⟨c, e⟩ | ⟨c, c2, e⟩ | ⟨c, c2, s1, e, e2, -, -⟩
  · have e1 : dm7 x y k n s = some (1, nw s 82 0) := by
      unfold dm7
      rw [e]
      rfl
    obtain ⟨l1, r1, -, -⟩ := h0.tw (y := 82) (by omega) 1
    rcases R228 r1 hv.2.1.2 x y k n with ⟨d, s2, f, f1, f2, f3⟩ | ⟨d, -⟩ | ⟨d, -⟩
    · have q := dt228 (sio := true) (d := 2000) (by decide) l1 f
      exact ⟨_, _, _, s2, t, ns, fs, lt, e1, l1, f, fun _ => ⟨f1, fun z => absurd z (by decide)⟩, SG.m l1 (hv.thr hl (by decide)) (hc.gx hl (gx_nw s 82 0)) q.1 f3 f2, (gw_nw s).tr f3⟩
    · exact absurd d c
    · exact absurd d c
  · have e1 : dm7 x y k n s = some (2, nw s 80 0) := by
      unfold dm7
      rw [e]
      rfl
    obtain ⟨l1, r1, -, -⟩ := h0.tw (y := 80) (by omega) 1
    rcases R228 r1 hv.2.1.2 x y k n with ⟨d, -⟩ | ⟨-, -, s2, f, f1, f2, f3⟩ | ⟨-, d2, -⟩
    · exact absurd c d
    · have q := dt228 (sio := true) (d := 2000) (by decide) l1 f
      exact ⟨_, _, _, s2, t, ns, fs, lt, e1, l1, f, fun _ => ⟨f1, fun z => absurd z (by decide)⟩, SG.m l1 (hv.thr hl (by decide)) (hc.gx hl (gx_nw s 80 0)) q.1 f3 f2, (gw_nw s).tr f3⟩
    · exact absurd d2 c2
  · have all : fsAll ndS fs := fun f h9 L9 q9 d hd => ((hr.2.2.2.2.2 f h9 L9 q9).2 d hd).1.s
    have hk : rgP k (lastT y) := bey_rg c2.1
    have ev := ca_eq c.1 hk c2.2 all 8 0 0
    have ef := fsSh_eq c.1 hk c2.2 all
    have u2 : CLt s1 fs lt := d133y hl hv.2.1.1.1 hv.2.1.2 hc.1 hv.2.2.1 hc.2 hr.em c c2 e
    have u3 : CLt s1 (fsShM x y k n (lastT y) fs) lt := u2.len (fun f h9 L9 q => by
      unfold fsShM at q
      cases hq : fs f with
      | none =>
        rw [hq] at q
        cases q
      | some v =>
        obtain ⟨h0, L⟩ := v
        rw [hq] at q
        have e := (Prod.mk.inj (Option.some.inj q)).2
        exact ⟨h0, L, rfl, by rw [← e, List.length_map]⟩)
    rw [ev] at e
    rw [ef] at e2
    have c9 : CG s1 (fsShM x y k n (lastT y) fs) lt := ⟨e2, u3⟩
    have e3 : dm7 x y k n s = some (0, wJ s1 148 (jN 0) (caM x y k n (lastT y) fs 8 0 0).toInt64) := by
      unfold dm7
      rw [e]
      simp only [bv_some]
      rw [zN_l, vI_int, if_pos a01, nx_eq]
    have q1 := dt7 (sio := true) (d := 2000) (by decide) hl e3
    have r1 := hr.ex hl q1.2.1
    obtain ⟨o, s9, z1, -, z2, z3⟩ := y133 hv hl x y k n
    have es : s9 = s1 := (Prod.mk.inj (Option.some.inj (z1.symm.trans e))).2
    rw [es] at z2 z3
    rcases R228 r1 hv.2.1.2 x y k n with ⟨d, -⟩ | ⟨-, d2, -⟩ | ⟨-, -, s2, f, f1, f2, f3⟩
    · exact absurd c d
    · exact absurd c2 d2
    · have q := dt228 (sio := true) (d := 2000) (by decide) q1.1 f
      refine ⟨_, _, _, s2, t, ns, _, lt, e3, q1.1, f, fun _ => ⟨f1, fun _ => ?_⟩, SG.m q1.1 z2.j c9.j q.1 f3 f2, z3.j.tr f3⟩
      rw [jj f3 (by unfold mA; omega), sJ_wJ, if_pos ⟨rfl, rfl⟩]
set_option maxRecDepth 100000 in
theorem CV.cl (h : CV s t ns) : CL s fs := fun f hf _ b hb => by
  rcases h.2.2.1.1 f hf with z | ⟨c, z1, z2⟩
  · rw [z] at hb
    cases hb
  · rw [z1] at hb
    injection hb with hb
    rw [← hb]
    obtain ⟨N, u, -, -, a, -⟩ := h.2.2.2.1 c z2
    exact ⟨u, a⟩
set_option maxRecDepth 100000 in
theorem s_move (h : SG tt xs s t ns fs lt) (x1 x2 x3 x4 x5 : Int32) : PN tt xs s (dm6 x1 x2 x3 x4 x5 s) (dm224 x1 x2 x3 x4 x5) := by
  have h0 := h
  obtain ⟨⟨hl, hv, hr⟩, hc⟩ := h
  rcases d125 hl hv.2.1.1.1 hv.2.1.2 hc.1 hv.2.2.1 hv.cl x1 x2 x3 x4 x5 with ⟨c, e⟩ | ⟨c, c2, e⟩ | ⟨c, c2, h9, L, s1, e0, e, e2, -, -⟩
  · have e1 : dm6 x1 x2 x3 x4 x5 s = some (1, nw s 82 0) := by
      unfold dm6
      rw [e]
      rfl
    obtain ⟨l1, r1, -, -⟩ := h0.tw (y := 82) (by omega) 1
    rcases R224 r1 hv.2.1.2 x1 x2 x3 x4 x5 with ⟨d, s2, f, f1, f2, f3⟩ | ⟨d, -⟩ | ⟨d, -⟩
    · have q := dt224 (sio := true) (d := 2000) (by decide) l1 f
      exact ⟨_, _, s2, t, ns, fs, lt, e1, l1, f, f1, SG.m l1 (hv.thr hl (by decide)) (hc.gx hl (gx_nw s 82 0)) q.1 f3 f2, (gw_nw s).tr f3⟩
    · exact absurd d c
    · exact absurd d c
  · have e1 : dm6 x1 x2 x3 x4 x5 s = some (2, nw s 80 0) := by
      unfold dm6
      rw [e]
      rfl
    obtain ⟨l1, r1, -, -⟩ := h0.tw (y := 80) (by omega) 1
    rcases R224 r1 hv.2.1.2 x1 x2 x3 x4 x5 with ⟨d, -⟩ | ⟨-, -, s2, f, f1, f2, f3⟩ | ⟨-, d2, -⟩
    · exact absurd c d
    · have q := dt224 (sio := true) (d := 2000) (by decide) l1 f
      exact ⟨_, _, s2, t, ns, fs, lt, e1, l1, f, f1, SG.m l1 (hv.thr hl (by decide)) (hc.gx hl (gx_nw s 80 0)) q.1 f3 f2, (gw_nw s).tr f3⟩
    · exact absurd d2 c2
  · have ef := fsMove_eq (x := x1.toInt.toNat) (y := x5.toInt.toNat) (r := x2) (c := x3) (ho := x4) (L := L) (fs := fs) (fun d hd q => ((hr.2.2.2.2.2 _ h9 L (fAt_s e0).2).2 d hd).1.r q)
    have u3 := d125y hl hv.2.1.1.1 hv.2.1.2 hc.1 hv.2.2.1 hc.2 c c2 e0 (hr.em _ (by have := (fAt_s e0).1; omega) h9 L (fAt_s e0).2) e
    rw [ef] at e2 u3
    have e3 : dm6 x1 x2 x3 x4 x5 s = some (0, s1) := by
      unfold dm6
      rw [e]
      rfl
    have q1 := dt6 (sio := true) (d := 2000) (by decide) hl e3
    have r1 := hr.ex hl q1.2.1
    obtain ⟨o, s9, z1, -, z2, z3⟩ := y125 hv hl x1 x2 x3 x4 x5
    have es : s9 = s1 := (Prod.mk.inj (Option.some.inj (z1.symm.trans e))).2
    rw [es] at z2 z3
    rcases R224 r1 hv.2.1.2 x1 x2 x3 x4 x5 with ⟨d, -⟩ | ⟨-, d2, -⟩ | ⟨-, -, h8, L8, s2, f0, f, f1, f2, f3⟩
    · exact absurd c d
    · exact absurd c2 d2
    · have q := dt224 (sio := true) (d := 2000) (by decide) q1.1 f
      have eL : L8 = L := (Prod.mk.inj (Option.some.inj (f0.symm.trans e0))).2
      rw [eL] at f2
      exact ⟨_, _, s2, t, ns, _, _, e3, q1.1, f, f1, SG.m q1.1 z2 ⟨e2, u3⟩ q.1 f3 f2, z3.tr f3⟩
end SGs
end
section
/-! each call in both, with the formulas: read -/
section SGs
variable {tt : Nat} {xs : List Int32} {s s1 s2 : aS} {t : List Int32} {ns : List (List Int32)} {fs : Nat → Option Fm} {lt : Nat → Nat → List Int32} {A : Nat → Nat → Prop} {b : Nat}
set_option maxRecDepth 100000 in
/-- the spare tree is written: no formula's -/
theorem CF.rd (h : CF s fs) (hl : Ly tt (cCc xs) s) (hb : aK s b 3) (hn : ∀ f, f < 8 → sR s 100 f ≠ .ref b) (g : ch A s s1) (hA : ∀ a k, A a k → a = b ∨ a = b + 1 ∨ a = b + 2 ∨ a = b + 3 ∨ (106 ≤ a ∧ a ≤ 116)) : CF s1 fs := by
  have hb3 := tr_at hl hb
  refine fun f hf => ⟨fun q => (g.i fun z => by have := hA _ _ z; omega).trans ((h f hf).1 q), fun ho L q => ?_⟩
  obtain ⟨a1, a2, d, a3, a4, a5⟩ := (h f hf).2 ho L q
  have hd := tr_at hl a4
  have e : d ≠ b := fun z => hn f hf (by rw [← z]; exact a3)
  have p := tr_ne hl a4 hb e
  have r := tr_ne hl hb a4 (fun z => e z.symm)
  exact ⟨(g.i fun z => by have := hA _ _ z; omega).trans a1, a2, d, (g.r fun z => by have := hA _ _ z; omega).trans a3, g.k.mpr a4, a5.of g (fun z => by have := hA _ _ z; omega) (fun k z => by have := hA _ _ z; omega)⟩
set_option maxRecDepth 100000 in
theorem CF.put {f : Nat} {v : Int32} {L : List Nd} (h : CF s fs) (hl : Ly tt (cCc xs) s) (hb : aK s b 3) (hT : TC s b L) (hv : v ≠ -1) : CF (wI (wR s 100 f (.ref b)) 101 f v) (fun g => if g = f then some (v, L) else fs g) := by
  have c : ch (fun a k => (a = 100 ∨ a = 101) ∧ k = f) s (wI (wR s 100 f (.ref b)) 101 f v) := ((ch.refl _ s).wR ⟨Or.inl rfl, rfl⟩).wI ⟨Or.inr rfl, rfl⟩
  have hb3 := tr_at hl hb
  intro g hg
  by_cases e : g = f
  · refine ⟨fun q => ?_, fun ho M q => ?_⟩
    · have q : (if g = f then some (v, L) else fs g) = none := q
      rw [if_pos e] at q
      cases q
    · have q : (if g = f then some (v, L) else fs g) = some (ho, M) := q
      rw [if_pos e] at q
      cases q
      exact ⟨by rw [sI_wI, if_pos ⟨rfl, e⟩], hv, b, by rw [sR_wI, sR_wR, if_pos ⟨rfl, e⟩], c.k.mpr hb, hT.of c (by omega) (fun k => by omega)⟩
  · refine ⟨fun q => ?_, fun ho M q => ?_⟩
    · have q : (if g = f then some (v, L) else fs g) = none := q
      rw [if_neg e] at q
      exact (c.i (by omega)).trans ((h g hg).1 q)
    · have q : (if g = f then some (v, L) else fs g) = some (ho, M) := q
      rw [if_neg e] at q
      obtain ⟨a1, a2, d, a3, a4, a5⟩ := (h g hg).2 ho M q
      have hd := tr_at hl a4
      exact ⟨(c.i (by omega)).trans a1, a2, d, (c.r (by omega)).trans a3, c.k.mpr a4, a5.of c (by omega) (fun k => by omega)⟩
set_option maxRecDepth 100000 in
theorem TR.tc {z : Nat} {M : List NN} (h : TR s b z M) : TC s b (M.map (fun n => n.2.1)) := by
  obtain ⟨a1, a2, u, a3, a4, a5⟩ := h
  refine ⟨by rw [List.length_map]; exact a1, by rw [List.length_map]; exact a2, fun i hi w hw => ?_⟩
  have hi2 : i < M.length := by rw [List.length_map] at hi; exact hi
  rw [List.getElem_map]
  exact (a5 i M[i] (List.getElem?_eq_getElem hi2)).1 w hw
set_option maxRecDepth 100000 in
theorem CG.rd (h : CG s fs lt) (hl : Ly tt (cCc xs) s) (hb : aK s b 3) (hn : ∀ f, f < 8 → sR s 100 f ≠ .ref b) (g : ch A s s1) (hA : ∀ a k, A a k → a = b ∨ a = b + 1 ∨ a = b + 2 ∨ a = b + 3 ∨ (106 ≤ a ∧ a ≤ 116)) : CG s1 fs lt := by
  have hb3 := tr_at hl hb
  refine ⟨h.1.rd hl hb hn g hA, CLt.go h.1 h.2 (fun f _ _ => g.r fun z => by have := hA _ _ z; omega) (fun f d hf _ hd hk => ?_)⟩
  have hd3 := tr_at hl hk
  have e : d ≠ b := fun z => hn f hf (by rw [← z]; exact hd)
  have p := tr_ne hl hk hb e
  have r := tr_ne hl hb hk (fun z => e z.symm)
  exact ⟨fun k => g.i fun z => (by have := hA _ _ z; omega), g.i fun z => (by have := hA _ _ z; omega), fun k => g.i fun z => (by have := hA _ _ z; omega)⟩
set_option maxRecDepth 100000 in
theorem CG.put {f z : Nat} {v : Int32} {M : List NN} (h : CG s fs lt) (hl : Ly tt (cCc xs) s) (hb : aK s b 3) (hT : TR s b z M) (hv : v ≠ -1) : CG (wI (wR s 100 f (.ref b)) 101 f v) (fsRd fs f v M) (ltRd lt f M) := by
  refine ⟨h.1.put hl hb hT.tc hv, fun g hg ho L q b9 hb9 => ?_⟩
  have c : ch (fun a k => (a = 100 ∨ a = 101) ∧ k = f) s (wI (wR s 100 f (.ref b)) 101 f v) := ((ch.refl _ s).wR ⟨Or.inl rfl, rfl⟩).wI ⟨Or.inr rfl, rfl⟩
  have hb3 := tr_at hl hb
  unfold fsRd at q
  unfold ltRd
  by_cases e : g = f
  · rw [if_pos e] at q
    have eL : L = M.map (fun n => n.2.1) := (Prod.mk.inj (Option.some.inj q)).2.symm
    rw [sR_wI, sR_wR, if_pos ⟨rfl, e⟩] at hb9
    injection hb9 with hb9
    rw [← hb9]
    obtain ⟨-, -, u, a3, -, a5⟩ := hT
    refine ⟨u, a3.of c (by omega) (fun k => by omega), fun i hi => ?_⟩
    rw [eL, List.length_map] at hi
    rw [if_pos e, List.getD, List.getElem?_eq_getElem hi]
    obtain ⟨-, st, e1, e2, e3⟩ := a5 i M[i] (List.getElem?_eq_getElem hi)
    exact ⟨st, (c.i (by omega)).trans e1, (c.i (by omega)).trans e2, e3⟩
  · rw [if_neg e] at q
    obtain ⟨-, -, d, a3, a4, -⟩ := (h.1 g hg).2 ho L q
    have hd := tr_at hl a4
    rw [c.r (by omega), a3] at hb9
    injection hb9 with hb9
    rw [← hb9]
    obtain ⟨u, u1, u2⟩ := h.2 g hg ho L q d a3
    refine ⟨u, u1.of c (by omega) (fun k => by omega), fun i hi => ?_⟩
    rw [if_neg e]
    obtain ⟨st, e1, e2, e3⟩ := u2 i hi
    exact ⟨st, (c.i (by omega)).trans e1, (c.i (by omega)).trans e2, e3⟩
set_option maxRecDepth 100000 in
theorem x62 (h : CV s t ns) (hl : Ly tt (cCc xs) s) (hc : CG s fs lt) (x1 x2 : Int32) : (¬ ((0 ≤ x1.toInt ∧ x1.toInt < 8) ∧ 0 ≤ x2.toInt ∧ x2.toInt < ns.length) ∧ dm62 x1 x2 s = some (.inr 2, nw s 82 0)) ∨ (((0 ≤ x1.toInt ∧ x1.toInt < 8) ∧ 0 ≤ x2.toInt ∧ x2.toInt < ns.length) ∧ ∃ v s1, dm62 x1 x2 s = some (.inl (some (.int v)), s1) ∧ ((∃ p, mRd t ns = .inl p ∧ v ≠ -1 ∧ CG s1 fs lt) ∨ ∃ L, mRd t ns = .inr L ∧ v = -1 ∧ CG s1 (fsRd fs x1.toInt.toNat x2 L) (ltRd lt x1.toInt.toNat L))) := by
  unfold dm62 dm62_8
  rcases y55 x1 with ⟨hx, e⟩ | ⟨hx, e⟩
  · left
    rw [e]
    simp only [bu_some]
    rw [if_pos trivial]
    exact ⟨fun q => hx q.1, rfl⟩
  · rw [e, d40 h.2.1.1.1 h.2.1.2.1]
    simp only [bu_some]
    rw [if_neg (by decide)]
    by_cases c : 0 ≤ x2.toInt ∧ x2.toInt < ns.length
    · right
      refine ⟨⟨hx, c⟩, ?_⟩
      rw [b01_t c, if_neg (by decide)]
      obtain ⟨b, b1, b2, b3⟩ := h.2.2.1.2.2
      rw [b1, vN_ref, if_pos b2]
      have h3 := tr_at hl b2
      have k108 : (sT s 108).2 = 256 := by rw [hl.T (a := 108) (p := (102, 256)) 30 rfl rfl]
      have hP : KP s b := ⟨b2, h3, by rw [(hl.tr b2).2.2.2.2.2.2.1], k108, ⟨(RC.ly hl).1, RC.ly hl, TF.ly hl, ES.ly hl⟩, h.2.2.2.2.1, h.2.2.2.2.2.1⟩
      obtain ⟨v, s1, j, g1, g2, g3⟩ := k63 h.1.1 h.1.2.1 h.1.2.2 h.2.1.1.1 h.2.1.2 hP
      have hr := rdC h.1.1 h.1.2.1 h.1.2.2 h.2.1.1.1 h.2.1.2 hP g1
      have hl1 := (dt63 (sio := true) (d := 2000) (by decide) hl b2 g1).1
      rw [g1]
      simp only [bv_some]
      have hc1 : ch (fun a k => AC b a k ∨ (a = 106 ∧ k = 6)) s s1 := ((ch.refl _ s).wR (Or.inr ⟨rfl, rfl⟩)).trans (g2.1.mono fun a k z => Or.inl z)
      have c1 : CG s1 fs lt := hc.rd hl b2 b3 hc1 (fun a k z => by unfold AC at z; omega)
      have hV : CV s1 t ns := h.rd hl b2 hc1 (fun a k z => by unfold AC at z; omega) g2.2.2.w g2.2.2.2
      have e78 : sR s1 78 6 = .ref b := (hc1.r (by unfold AC; omega)).trans b1
      have hb1 : aK s1 b 3 := hc1.k.mpr b2
      have hx8 : x1.toInt.toNat < 8 := by omega
      have hx2 : x2 ≠ -1 := fun q => by
        rw [iEq] at q
        have q : x2.toInt = -1 := q
        omega
      cases hm : mRd t ns with
      | inl p =>
        rw [hm] at hr
        have hr : v ≠ -1 := hr
        rw [if_neg hr]
        exact ⟨v, s1, rfl, Or.inl ⟨p, rfl, hr, c1⟩⟩
      | inr L =>
        rw [hm] at hr
        obtain ⟨hv1, hT⟩ : v = -1 ∧ TR s1 b 256 L := hr
        have c2 : CG (wI (wR s1 100 x1.toInt.toNat (.ref b)) 101 x1.toInt.toNat x2) (fsRd fs x1.toInt.toNat x2 L) (ltRd lt x1.toInt.toNat L) := c1.put hl1 hb1 hT hx2
        have l1 : Ly tt (cCc xs) (wI (wR s1 100 (jN x1) (.ref b)) 101 (jN x1) x2) := (ly_100 hl1).wId (by decide)
        rw [if_pos hv1, if_pos (aB_iff.mpr hx)]
        rcases hV.2.2.1.1 x1.toInt.toNat hx8 with z | ⟨d, z1, z2⟩
        · rw [show sR s1 100 (jN x1) = .null from z, vN_null, e78, vN_ref, if_pos hb1, if_pos (aB_iff.mpr hx)]
          simp only [nx_eq]
          rw [if_pos (aB_iff.mpr hx)]
          unfold dm62_46
          simp only [nx_eq]
          have c3 := CG.gx c2 l1 (gx_nT _)
          have l2 := (lay_tree l1.gL l1).1
          have c4 := c3.of9 l2 (A := fun a _ => a = 78) ((ch.refl _ _).wR (k := 6) (v := .ref (sL s1)) rfl) (fun a k z => by omega)
          exact ⟨v, _, rfl, Or.inr ⟨L, rfl, hv1, c4⟩⟩
        · rw [show sR s1 100 (jN x1) = .ref d from z1, vN_ref, if_pos z2, e78, vN_ref, if_pos hb1, if_pos (aB_iff.mpr hx)]
          simp only [nx_eq]
          rw [if_pos (aB_iff.mpr hx)]
          unfold dm62_46
          simp only [nx_eq]
          have c4 := c2.of9 l1 (A := fun a _ => a = 78) ((ch.refl _ _).wR (k := 6) (v := .ref d) rfl) (fun a k z => by omega)
          exact ⟨v, _, rfl, Or.inr ⟨L, rfl, hv1, c4⟩⟩
    · left
      rw [b01_f c, if_pos rfl]
      exact ⟨fun q => c q.2, rfl⟩
set_option maxRecDepth 100000 in
theorem s_read (h : SG tt xs s t ns fs lt) (x1 x2 : Int32) : PV tt xs s False (dm5 x1 x2 s) (dm184 x1 x2) := by
  have h0 := h
  obtain ⟨⟨hl, hv, hr⟩, hc⟩ := h
  have T147 : ∀ s1, Ly tt (cCc xs) s1 → (sT s1 147).2 = 256 := fun s1 l1 => by rw [l1.T (a := 147) (p := (100, 256)) 69 rfl rfl]
  have T122 : ∀ s1, Ly tt (cCc xs) s1 → (sT s1 122).2 = 256 := fun s1 l1 => by rw [l1.T (a := 122) (p := (100, 256)) 44 rfl rfl]
  rcases x62 hv hl hc x1 x2 with ⟨c, e⟩ | ⟨c, v, s1, e, w⟩
  · have e1 : dm5 x1 x2 s = some (1, nw s 82 0) := by
      unfold dm5
      rw [e]
      rfl
    obtain ⟨l1, r1, -, -⟩ := h0.tw (y := 82) (by omega) 1
    rcases R184 r1 hv.1.2.1 hv.1.2.2 hv.2.1.2 (T147 _ l1) (T122 _ l1) x1 x2 with ⟨d, s2, f, f1, f2, f3⟩ | ⟨d, -⟩
    · have q := dt184 (sio := true) (d := 2000) (by decide) l1 f
      exact ⟨_, _, _, s2, t, ns, fs, lt, e1, l1, f, fun z => z.elim, SG.m l1 (hv.thr hl (by decide)) (hc.gx hl (gx_nw s 82 0)) q.1 f3 f2, (gw_nw s).tr f3⟩
    · exact absurd d c
  · have e3 : dm5 x1 x2 s = some (0, wJ s1 148 (jN 0) v.toInt64) := by
      unfold dm5
      rw [e]
      simp only [bv_some]
      rw [zN_l, vI_int, if_pos a01, nx_eq]
    have q1 := dt5 (sio := true) (d := 2000) (by decide) hl e3
    have r1 := hr.ex hl q1.2.1
    obtain ⟨o, s9, z1, -, z2, z3⟩ := y62 hv hl x1 x2
    have es : s9 = s1 := (Prod.mk.inj (Option.some.inj (z1.symm.trans e))).2
    rw [es] at z2 z3
    rcases R184 r1 hv.1.2.1 hv.1.2.2 hv.2.1.2 (T147 _ q1.1) (T122 _ q1.1) x1 x2 with ⟨d, -⟩ | ⟨-, ⟨p, s2, f0, f, f1, f2, f3⟩ | ⟨L, s2, f0, -, f, f1, f2, f3⟩⟩
    · exact absurd c d
    · have q := dt184 (sio := true) (d := 2000) (by decide) q1.1 f
      rcases w with ⟨p9, w1, w2, w3⟩ | ⟨L9, w1, -⟩
      · exact ⟨_, _, _, s2, t, ns, fs, lt, e3, q1.1, f, fun z => z.elim, SG.m q1.1 z2.j w3.j q.1 f3 f2, z3.j.tr f3⟩
      · rw [w1] at f0
        cases f0
    · have q := dt184 (sio := true) (d := 2000) (by decide) q1.1 f
      rcases w with ⟨p9, w1, -⟩ | ⟨L9, w1, w2, w3⟩
      · rw [w1] at f0
        cases f0
      · have eL : L9 = L := Sum.inr.inj (w1.symm.trans f0)
        rw [eL] at w3
        exact ⟨_, _, _, s2, t, ns, _, _, e3, q1.1, f, fun z => z.elim, SG.m q1.1 z2.j w3.j q.1 f3 f2, z3.j.tr f3⟩
end SGs
end
section
/-! the law's loop -/
section LP
variable {xs : List Int32}
set_option maxRecDepth 100000 in
theorem lg_r (x : Int64) : lg_cmp x x = 0 := by
  unfold lg_cmp
  simp
set_option maxRecDepth 100000 in
theorem ly_T {s : aS} (h : Ly xs.length (cCc xs) s) : (sT s 0).2 = xs.length := by
  rw [h.lowT (show 0 < zK by decide)]
  rfl
set_option maxRecDepth 100000 in
theorem ly_I {tt k : Nat} {s s1 : aS} (h : Ly tt (cCc xs) s) (g : Ly tt (cCc xs) s1) : sI s1 0 k = sI s 0 k := (g.2.2.2.2.2.2.2.2 0 k (by decide)).trans (h.2.2.2.2.2.2.2.2 0 k (by decide)).symm
set_option maxRecDepth 100000 in
theorem lp (hN : xs.length ≤ 3072) : ∀ (m q n : Nat) (s : aS) (t : List Int32) (ns : List (List Int32)) (fs : Nat → Option Fm) (lt : Nat → Nat → List Int32), SG xs.length xs s t ns fs lt → q + m = 512 → m < n → ∃ s', dm0_13 n (Int32.ofNat (6 * q)) s = some (1, s') ∧ sL s' ≤ sL s + 8 * m ∧ aSz s' ≤ aSz s + 3000 * m := by
  have e6 : (6 : Int32).toInt = 6 := rfl
  have eL : (Int32.ofNat xs.length - 6).toInt = (xs.length : Int) - 6 := by
    rw [iSub (by rw [e6, iOfNat (by omega)]; omega) (by rw [e6, iOfNat (by omega)]; omega), e6, iOfNat (by omega)]
  intro m
  induction m with
  | zero =>
    intro q n s t ns fs lt h h1 h2
    obtain ⟨n, rfl⟩ : ∃ k, n = k + 1 := ⟨n - 1, by omega⟩
    rw [dm0_13, ly_T h.1.1, if_pos (by rw [iLt, eL, iOfNat (by omega)]; omega)]
    exact ⟨s, rfl, by omega, by omega⟩
  | succ m ih =>
    intro q n s t ns fs lt h h1 h2
    obtain ⟨n, rfl⟩ : ∃ k, n = k + 1 := ⟨n - 1, by omega⟩
    rw [dm0_13, ly_T h.1.1]
    by_cases c : 6 * q + 6 ≤ xs.length
    · rw [if_neg (by rw [iLt, eL, iOfNat (by omega)]; omega)]
      have nxt : ∀ s2 t2 ns2 fs2 lt2, SG xs.length xs s2 t2 ns2 fs2 lt2 → gw s s2 → ∃ s', dm0_457 (dm0_13 n) (Int32.ofNat (6 * q)) s2 = some (1, s') ∧ sL s' ≤ sL s + 8 * (m + 1) ∧ aSz s' ≤ aSz s + 3000 * (m + 1) := by
        intro s2 t2 ns2 fs2 lt2 k2 g2
        unfold dm0_457
        have e : Int32.ofNat (6 * q) + 6 = Int32.ofNat (6 * (q + 1)) := iSum (i := 6 * q) (j := 6) (by omega) (by omega)
        rw [e]
        obtain ⟨s', f1, f2, f3⟩ := ih (q + 1) n s2 t2 ns2 fs2 lt2 k2 (by omega) (by omega)
        exact ⟨s', f1, by have := g2.1; omega, by have := g2.2; omega⟩
      have B : ∀ j, j ≤ 5 → aB (Int32.ofNat (6 * q) + Int32.ofNat j) xs.length := fun j hj => by
        rw [iSum (by omega) (by omega)]
        exact aB_of (by omega) (by omega)
      have b0 : aB (Int32.ofNat (6 * q)) xs.length := aB_of (by omega) (by omega)
      have b1 : aB (Int32.ofNat (6 * q) + 1) xs.length := B 1 (by omega)
      have b2 : aB (Int32.ofNat (6 * q) + 2) xs.length := B 2 (by omega)
      have b3 : aB (Int32.ofNat (6 * q) + 3) xs.length := B 3 (by omega)
      have b4 : aB (Int32.ofNat (6 * q) + 4) xs.length := B 4 (by omega)
      have b5 : aB (Int32.ofNat (6 * q) + 5) xs.length := B 5 (by omega)
      rw [if_pos b0]
      by_cases c0 : ((sI s 0 (jN (Int32.ofNat (6 * q)))) &&& 15) = 0
      · rw [if_pos c0]
        rw [if_pos b1]
        obtain ⟨k, s1, b, s2, t1, ns1, fs1, lt1, e1, l1, e2, e3, e5, e6⟩ := s_type h (sI s 0 (jN (Int32.ofNat (6 * q) + 1)))
        rw [e1]
        simp only [bv_some]
        rw [ly_T l1, if_pos b1, ly_I h.1.1 l1, e2]
        simp only [bv_some]
        exact nxt s2 t1 ns1 fs1 lt1 e5 e6
      · rw [if_neg c0]
        by_cases c1 : ((sI s 0 (jN (Int32.ofNat (6 * q)))) &&& 15) = 1
        · rw [if_pos c1]
          obtain ⟨s1, s2, e1, e2, e5, e6⟩ := s_erase h
          rw [e1]
          simp only [bu_some]
          rw [e2]
          simp only [bu_some]
          exact nxt s2 [] ns fs lt e5 e6
        · rw [if_neg c1]
          by_cases c2 : ((sI s 0 (jN (Int32.ofNat (6 * q)))) &&& 15) = 2
          · rw [if_pos c2]
            obtain ⟨k, s1, b, s2, t1, ns1, fs1, lt1, e1, l1, e2, e3, e5, e6⟩ := s_sheet h 
            rw [e1]
            simp only [bv_some]
            rw [e2]
            simp only [bv_some]
            exact nxt s2 t1 ns1 fs1 lt1 e5 e6
          · rw [if_neg c2]
            by_cases c3 : ((sI s 0 (jN (Int32.ofNat (6 * q)))) &&& 15) = 3
            · rw [if_pos c3]
              rw [if_pos b1]
              obtain ⟨k, s1, s2, t1, ns1, fs1, lt1, e1, l1, e2, e3, e5, e6⟩ := s_rename h (sI s 0 (jN (Int32.ofNat (6 * q) + 1)))
              rw [e1]
              simp only [bv_some]
              rw [ly_T l1, if_pos b1, ly_I h.1.1 l1, e2]
              simp only [bu_some]
              exact nxt s2 t1 ns1 fs1 lt1 e5 e6
            · rw [if_neg c3]
              by_cases c4 : ((sI s 0 (jN (Int32.ofNat (6 * q)))) &&& 15) = 4
              · rw [if_pos c4]
                rw [if_pos b1]
                obtain ⟨k, s1, s2, t1, ns1, fs1, lt1, e1, l1, e2, e3, e5, e6⟩ := s_drop h (sI s 0 (jN (Int32.ofNat (6 * q) + 1)))
                rw [e1]
                simp only [bv_some]
                rw [ly_T l1, if_pos b1, ly_I h.1.1 l1, e2]
                simp only [bu_some]
                exact nxt s2 t1 ns1 fs1 lt1 e5 e6
              · rw [if_neg c4]
                by_cases c5 : ((sI s 0 (jN (Int32.ofNat (6 * q)))) &&& 15) = 5
                · rw [if_pos c5]
                  rw [if_pos b1, if_pos b2]
                  obtain ⟨k, s1, b, s2, t1, ns1, fs1, lt1, e1, l1, e2, e3, e5, e6⟩ := s_read h (sI s 0 (jN (Int32.ofNat (6 * q) + 1))) (sI s 0 (jN (Int32.ofNat (6 * q) + 2)))
                  rw [e1]
                  simp only [bv_some]
                  rw [ly_T l1, if_pos b1, if_pos b2, ly_I h.1.1 l1, ly_I h.1.1 l1, e2]
                  simp only [bv_some]
                  exact nxt s2 t1 ns1 fs1 lt1 e5 e6
                · rw [if_neg c5]
                  by_cases c6 : ((sI s 0 (jN (Int32.ofNat (6 * q)))) &&& 15) = 6
                  · rw [if_pos c6]
                    rw [if_pos b1, if_pos b2, if_pos b3, if_pos b4, if_pos b5]
                    obtain ⟨k, s1, s2, t1, ns1, fs1, lt1, e1, l1, e2, e3, e5, e6⟩ := s_move h (sI s 0 (jN (Int32.ofNat (6 * q) + 1))) (sI s 0 (jN (Int32.ofNat (6 * q) + 2))) (sI s 0 (jN (Int32.ofNat (6 * q) + 3))) (sI s 0 (jN (Int32.ofNat (6 * q) + 4))) (sI s 0 (jN (Int32.ofNat (6 * q) + 5)))
                    rw [e1]
                    simp only [bv_some]
                    rw [ly_T l1, if_pos b1, if_pos b2, if_pos b3, if_pos b4, if_pos b5, ly_I h.1.1 l1, ly_I h.1.1 l1, ly_I h.1.1 l1, ly_I h.1.1 l1, ly_I h.1.1 l1, e2]
                    simp only [bu_some]
                    exact nxt s2 t1 ns1 fs1 lt1 e5 e6
                  · rw [if_neg c6]
                    by_cases c7 : ((sI s 0 (jN (Int32.ofNat (6 * q)))) &&& 15) = 7
                    · rw [if_pos c7]
                      rw [if_pos b1, if_pos b2]
                      by_cases cy : (sI s 0 (jN (Int32.ofNat (6 * q) + 2))) = 0
                      · rw [if_pos cy]
                        unfold dm0_187 dm0_215
                        rw [ly_T h.1.1, if_pos b3, if_pos b4]
                        obtain ⟨k, s1, b, s2, t1, ns1, fs1, lt1, e1, l1, e2, e3, e5, e6⟩ := s_shift h (sI s 0 (jN (Int32.ofNat (6 * q) + 1))) 0 (sI s 0 (jN (Int32.ofNat (6 * q) + 3))) (sI s 0 (jN (Int32.ofNat (6 * q) + 4)))
                        rw [e1]
                        simp only [bv_some]
                        rw [ly_T l1, if_pos b1, if_pos b2, ly_I h.1.1 l1, ly_I h.1.1 l1, ly_I h.1.1 l1, ly_I h.1.1 l1, if_pos cy, if_pos b3, if_pos b4, e2]
                        simp only [bv_some]
                        exact nxt s2 t1 ns1 fs1 lt1 e5 e6
                      · rw [if_neg cy]
                        unfold dm0_187 dm0_215
                        rw [ly_T h.1.1, if_pos b3, if_pos b4]
                        obtain ⟨k, s1, b, s2, t1, ns1, fs1, lt1, e1, l1, e2, e3, e5, e6⟩ := s_shift h (sI s 0 (jN (Int32.ofNat (6 * q) + 1))) 1 (sI s 0 (jN (Int32.ofNat (6 * q) + 3))) (sI s 0 (jN (Int32.ofNat (6 * q) + 4)))
                        rw [e1]
                        simp only [bv_some]
                        rw [ly_T l1, if_pos b1, if_pos b2, ly_I h.1.1 l1, ly_I h.1.1 l1, ly_I h.1.1 l1, ly_I h.1.1 l1, if_neg cy, if_pos b3, if_pos b4, e2]
                        simp only [bv_some]
                        exact nxt s2 t1 ns1 fs1 lt1 e5 e6
                    · rw [if_neg c7]
                      by_cases c8 : ((sI s 0 (jN (Int32.ofNat (6 * q)))) &&& 15) = 8
                      · rw [if_pos c8]
                        rw [if_pos b1]
                        obtain ⟨k, s1, s2, t1, ns1, fs1, lt1, e1, l1, e2, e3, e5, e6⟩ := s_remove h (sI s 0 (jN (Int32.ofNat (6 * q) + 1)))
                        rw [e1]
                        simp only [bv_some]
                        rw [ly_T l1, if_pos b1, ly_I h.1.1 l1, e2]
                        simp only [bu_some]
                        exact nxt s2 t1 ns1 fs1 lt1 e5 e6
                      · rw [if_neg c8]
                        by_cases c9 : ((sI s 0 (jN (Int32.ofNat (6 * q)))) &&& 15) = 9
                        · rw [if_pos c9]
                          rw [if_pos b1, if_pos b2]
                          obtain ⟨k, s1, b, s2, t1, ns1, fs1, lt1, e1, l1, e2, e3, e5, e6⟩ := s_form h (sI s 0 (jN (Int32.ofNat (6 * q) + 1))) (sI s 0 (jN (Int32.ofNat (6 * q) + 2)))
                          rw [e1]
                          simp only [bv_some]
                          rw [ly_T l1, if_pos b1, if_pos b2, ly_I h.1.1 l1, ly_I h.1.1 l1, e2]
                          simp only [bv_some]
                          exact nxt s2 t1 ns1 fs1 lt1 e5 e6
                        · rw [if_neg c9]
                          by_cases c10 : ((sI s 0 (jN (Int32.ofNat (6 * q)))) &&& 15) = 10
                          · rw [if_pos c10]
                            rw [if_pos b1]
                            obtain ⟨k, s1, b, s2, t1, ns1, fs1, lt1, e1, l1, e2, e3, e5, e6⟩ := s_size h (sI s 0 (jN (Int32.ofNat (6 * q) + 1)))
                            rw [e1]
                            simp only [bv_some]
                            rw [ly_T l1, if_pos b1, ly_I h.1.1 l1, e2]
                            simp only [bv_some]
                            exact nxt s2 t1 ns1 fs1 lt1 e5 e6
                          · rw [if_neg c10]
                            by_cases c11 : ((sI s 0 (jN (Int32.ofNat (6 * q)))) &&& 15) = 11
                            · rw [if_pos c11]
                              rw [if_pos b1, if_pos b2, if_pos b3]
                              obtain ⟨k, s1, b, s2, t1, ns1, fs1, lt1, e1, l1, e2, e3, e5, e6⟩ := s_node h (sI s 0 (jN (Int32.ofNat (6 * q) + 1))) (sI s 0 (jN (Int32.ofNat (6 * q) + 2))) (sI s 0 (jN (Int32.ofNat (6 * q) + 3)))
                              rw [e1]
                              simp only [bv_some]
                              rw [ly_T l1, if_pos b1, if_pos b2, if_pos b3, ly_I h.1.1 l1, ly_I h.1.1 l1, ly_I h.1.1 l1, e2]
                              simp only [bv_some]
                              exact nxt s2 t1 ns1 fs1 lt1 e5 e6
                            · rw [if_neg c11]
                              by_cases c12 : ((sI s 0 (jN (Int32.ofNat (6 * q)))) &&& 15) = 12
                              · rw [if_pos c12]
                                rw [if_pos b1, if_pos b2, if_pos b3]
                                obtain ⟨k, s1, b, s2, t1, ns1, fs1, lt1, e1, l1, e2, e3, e5, e6⟩ := s_letter h (sI s 0 (jN (Int32.ofNat (6 * q) + 1))) (sI s 0 (jN (Int32.ofNat (6 * q) + 2))) (sI s 0 (jN (Int32.ofNat (6 * q) + 3)))
                                rw [e1]
                                simp only [bv_some]
                                rw [ly_T l1, if_pos b1, if_pos b2, if_pos b3, ly_I h.1.1 l1, ly_I h.1.1 l1, ly_I h.1.1 l1, e2]
                                simp only [bv_some]
                                exact nxt s2 t1 ns1 fs1 lt1 e5 e6
                              · rw [if_neg c12]
                                by_cases c13 : ((sI s 0 (jN (Int32.ofNat (6 * q)))) &&& 15) = 13
                                · rw [if_pos c13]
                                  rw [if_pos b1, if_pos b2]
                                  obtain ⟨k, s1, b, s2, t1, ns1, fs1, lt1, e1, l1, e2, e3, e5, e6⟩ := s_same h (sI s 0 (jN (Int32.ofNat (6 * q) + 1))) (sI s 0 (jN (Int32.ofNat (6 * q) + 2)))
                                  rw [e1]
                                  simp only [bv_some]
                                  rw [ly_T l1, if_pos b1, if_pos b2, ly_I h.1.1 l1, ly_I h.1.1 l1, e2]
                                  simp only [bv_some]
                                  exact nxt s2 t1 ns1 fs1 lt1 e5 e6
                                · rw [if_neg c13]
                                  by_cases c14 : ((sI s 0 (jN (Int32.ofNat (6 * q)))) &&& 15) = 14
                                  · rw [if_pos c14]
                                    rw [if_pos b1]
                                    obtain ⟨k, s1, b, s2, t1, ns1, fs1, lt1, e1, l1, e2, e3, e5, e6⟩ := s_count h (sI s 0 (jN (Int32.ofNat (6 * q) + 1)))
                                    rw [e1]
                                    simp only [bv_some]
                                    rw [ly_T l1, if_pos b1, ly_I h.1.1 l1, e2]
                                    simp only [bv_some]
                                    obtain ⟨e7, e8⟩ := e3 trivial
                                    unfold dm171 dm0_428
                                    simp only [bu_some]
                                    rw [e7, if_pos rfl]
                                    by_cases ck : k = 0
                                    · rw [if_pos ck, if_pos a01, show sJ s2 148 (jN 0) = b.toInt64 from e8 ck, if_pos (lg_r _)]
                                      exact nxt s2 t1 ns1 fs1 lt1 e5 e6
                                    · rw [if_neg ck]
                                      exact nxt s2 t1 ns1 fs1 lt1 e5 e6
                                  · rw [if_neg c14]
                                    by_cases c15 : ((sI s 0 (jN (Int32.ofNat (6 * q)))) &&& 15) = 15
                                    · rw [if_pos c15]
                                      rw [if_pos b1, if_pos b2]
                                      obtain ⟨k, s1, b, s2, t1, ns1, fs1, lt1, e1, l1, e2, e3, e5, e6⟩ := s_name h (sI s 0 (jN (Int32.ofNat (6 * q) + 1))) (sI s 0 (jN (Int32.ofNat (6 * q) + 2)))
                                      rw [e1]
                                      simp only [bv_some]
                                      rw [ly_T l1, if_pos b1, if_pos b2, ly_I h.1.1 l1, ly_I h.1.1 l1, e2]
                                      simp only [bv_some]
                                      exact nxt s2 t1 ns1 fs1 lt1 e5 e6
                                    · rw [if_neg c15]
                                      exact nxt s t ns fs lt h (gw_ch (ch.refl (fun _ _ => False) s))
    · rw [if_pos (by rw [iLt, eL, iOfNat (by omega)]; omega)]
      exact ⟨s, rfl, by omega, by omega⟩
set_option maxRecDepth 100000 in
/-- a new object -/
theorem SS.st (xs : List Int32) : SS xs.length xs (csE xs) [] [] (fun _ => none) (fun _ _ => []) := by
  have hl := fin_ly xs
  obtain ⟨h1, h2, h3, h4, h5, h6, h7, h8⟩ := caE xs
  have hL : sL (csE xs) = 149 := h1.trans (by decide +kernel)
  have z0 : (0 : Int32) = Int32.ofNat 0 := rfl
  have kI : ∀ a k, a ≠ 0 → sI (csE []) a k = 0 → sI (csE xs) a k = Int32.ofNat 0 := fun a k ha e => (h5 a k ha).trans e
  have r0 : ∀ f : Fin 8, sR (csE []) 100 f.val = .null := by decide +kernel
  have m0 : ∀ f : Fin 8, sI (csE []) 125 f.val = 0 := by decide +kernel
  have k102 : aK (csE xs) 102 3 := hl.Kd (n := 3) 24 rfl rfl (by decide)
  have eN : ∀ f, f < 8 → sR (csE xs) 100 f = .null := fun f hf => (h4 100 f (by decide)).trans (r0 ⟨f, hf⟩)
  have ln : ∀ b, sI (csE xs) b 1 = Int32.ofNat 0 → LT (csE xs) b [] := fun b e => ⟨e, fun j hj => absurd hj (Nat.not_lt_zero j)⟩
  have ok0 : okT [] := fun y hy => (by cases hy)
  refine ⟨hl, ⟨⟨ln 79 (kI 79 1 (by decide) (by decide +kernel)), by decide, ok0⟩, ⟨⟨⟨kI 81 2 (by decide) (by decide +kernel), fun i hi => absurd hi (Nat.not_lt_zero i)⟩, fun i hi => absurd hi (Nat.not_lt_zero i)⟩, by decide, fun n hn => (by cases hn)⟩, ⟨fun f hf => Or.inl (eN f hf), fun f g b hf hg q1 q2 => ?_, 102, (h4 78 6 (by decide)).trans (by decide +kernel), k102, fun f hf q => ?_⟩, fun b hb => ?_, ⟨[], ln 107 (kI 107 1 (by decide) (by decide +kernel)), by decide, ok0⟩, ⟨0, by decide, kI 110 2 (by decide) (by decide +kernel)⟩, 0, by decide, kI 113 3 (by decide) (by decide +kernel)⟩, ⟨kI 121 1 (by decide) (by decide +kernel), fun j hj => absurd hj (Nat.not_lt_zero j)⟩, ⟨kI 121 3 (by decide) (by decide +kernel), fun i hi => absurd hi (Nat.not_lt_zero i)⟩, fun f hf => ⟨fun _ => (h5 125 f (by decide)).trans (m0 ⟨f, hf⟩), fun h9 L q => (by cases q)⟩, fun f hf h9 L q => (by cases q), fun f hf h9 L q => (by cases q), fun f h9 L q => (by cases q)⟩
  · rw [eN f hf] at q1
    cases q1
  · rw [eN f hf] at q
    cases q
  · have hb3 := tr_at hl hb
    have hbl := (hl.tr hb).2.2.2.1
    rw [hL] at hbl
    have e : b = 102 := by omega
    subst e
    exact ⟨0, [], by decide, kI 102 2 (by decide) (by decide +kernel), ⟨ln 104 (kI 104 1 (by decide) (by decide +kernel)), by decide, ok0⟩, fun k hk => absurd hk (Nat.not_lt_zero k)⟩
set_option maxRecDepth 100000 in
theorem SG.st (xs : List Int32) : SG xs.length xs (csE xs) [] [] (fun _ => none) (fun _ _ => []) := by
  obtain ⟨h1, h2, h3, h4, h5, h6, h7, h8⟩ := caE xs
  have m0 : ∀ f : Fin 8, sI (csE []) 101 f.val = -1 := by decide +kernel
  exact ⟨SS.st xs, fun f hf => ⟨fun _ => (h5 101 f (by decide)).trans (m0 ⟨f, hf⟩), fun h9 L q => (by cases q)⟩, fun f hf h9 L q => (by cases q)⟩
set_option maxRecDepth 100000 in
theorem zPure_ok : zPure 3072 := zPure_of fun xs hx => by
  obtain ⟨s', e1, e2, e3⟩ := lp hx 512 0 5000 (csE xs) [] [] (fun _ => none) (fun _ _ => []) (SG.st xs) (by omega) (by omega)
  have hL : sL (csE xs) = 149 := (caE xs).1.trans (by decide +kernel)
  have hz := aSz_csE xs
  have e1 : dm0 0 (csE xs) = some (1, s') := e1
  exact ⟨s', e1, by omega, by omega⟩
end LP
end
