/-! the reader of FormulaTrees, exactly: the whole of it, beside the reference's -/
def RES (b : Nat) (R : Nat ⊕ (List Fw × List NN)) (D : Option (Int32 × aS)) : Prop := ∀ v s', D = some (v, s') → match R with
  | .inl _ => v ≠ -1
  | .inr q => v = -1 ∧ TR s' b 256 (flC q.1 ++ q.2)
section XX
variable {s s1 : aS} {b i : Nat} {t : List Int32} {ns : List (List Int32)} {F : List Fw} {cur M : List NN} {fr : Int32} {lc : Nat}
set_option maxRecDepth 100000 in
theorem RES.l {R : Nat ⊕ (List Fw × List NN)} {D : Option (Int32 × aS)} (hR : ∃ p, R = .inl p) (h : ∀ v s', D = some (v, s') → v ≠ -1) : RES b R D := by
  obtain ⟨p, rfl⟩ := hR
  exact h
set_option maxRecDepth 100000 in
theorem RES.z {R : Nat ⊕ (List Fw × List NN)} {x : Int32} : RES b R (dm63_26 0 x s) := fun v s' h => (by cases h)
set_option maxRecDepth 100000 in
theorem sp8 : ∀ (n : Nat) (s s4 : aS), dm67_0 n s = some s4 → sI s4 106 8 = sI s 106 8
  | 0, s, s4, h => by cases h
  | n + 1, s, s4, h => by
    rw [dm67_0] at h
    unfold dm28 at h
    simp only [bu_some] at h
    split at h
    · cases h
      rfl
    · obtain ⟨r, -, h⟩ := bu_so h
      split at h
      · have := sp8 n _ s4 h
        rw [this, sI_wI, if_neg (by omega)]
      · cases h
        rfl
set_option maxRecDepth 100000 in
theorem wr26 {n : Nat} {x v : Int32} {s' : aS} (h8 : sI s 106 8 ≠ -1) (h : dm63_26 n x s = some (v, s')) : v ≠ -1 := by
  cases n with
  | zero => cases h
  | succ n =>
    have e : dm63_80 s = some (sI s 106 8, s) := by
      unfold dm63_80
      rw [if_neg h8]
    rw [dm63_26] at h
    unfold dm28 at h
    simp only [bu_some] at h
    have key : dm63_80 s = some (v, s') := by
      split at h
      · exact h
      · split at h
        · exact h
        · exact h
    rw [e] at key
    cases key
    exact h8
set_option maxRecDepth 100000 in
theorem wr72 {n : Nat} {x v : Int32} {s' : aS} (h8 : sI s 106 8 ≠ -1) (h : dm63_72 (dm63_26 n) x s = some (v, s')) : v ≠ -1 := by
  unfold dm63_72 dm63_78 at h
  split at h
  · exact wr26 h8 h
  · obtain ⟨s4, e, h⟩ := bu_so h
    have e8 := sp8 5000 s s4 e
    exact wr26 (by rw [e8]; exact h8) h
set_option maxRecDepth 100000 in
theorem sk_n {e : Nat} (h : ¬ t.getD e 0 = 32) : skS t e = e := by
  unfold skS
  rw [cnt_n (p := spP) (d := 0) h, Nat.add_zero]
set_option maxRecDepth 100000 in
theorem mBeh_b {e : Nat} (h : t.getD e 0 = 36 ∨ bad (t.getD e 0)) : mBeh t e F cur lc = .inl e := by
  have ne : ∀ k : Int32, ¬ (k = 36 ∨ bad k) → ¬ t.getD e 0 = k := fun k hk z => hk (z ▸ h)
  have n58 : ¬ t.getD e 0 = 58 := ne 58 (by unfold bad gW isL isD; decide)
  have n41 : ¬ t.getD e 0 = 41 := ne 41 (by unfold bad gW isL isD; decide)
  have n44 : ¬ t.getD e 0 = 44 := ne 44 (by unfold bad gW isL isD; decide)
  have n37 : ¬ t.getD e 0 = 37 := ne 37 (by unfold bad gW isL isD; decide)
  unfold mBeh
  rw [if_neg (fun z => n58 z.1), if_neg (fun z => n41 z.1), if_neg (fun z => n44 z.1), if_neg (fun z => n37 z.1), if_neg (fun z => z.1 (opk_n (h.elim (fun q => by rw [q]; exact Or.inr (Or.inr (Or.inr (Or.inr (Or.inl rfl))))) (fun q => Or.inr (Or.inr (Or.inr (Or.inr (Or.inr q))))))))]
set_option maxRecDepth 100000 in
/-- what comes of a step -/
noncomputable def nxR (t : List Int32) (ns : List (List Int32)) (m : Nat) (X : Nat ⊕ St) : Nat ⊕ (List Fw × List NN) := match X with
  | .inl p => .inl p
  | .inr z => mRun t ns m z
set_option maxRecDepth 100000 in
theorem dead_l {X : Nat ⊕ St} (h : dead t X) (m : Nat) : ∃ p, nxR t ns m X = .inl p := by
  rcases h with ⟨p, rfl⟩ | ⟨e, F, n, lc, rfl, hb⟩
  · exact ⟨p, rfl⟩
  · cases m with
    | zero => exact ⟨0, rfl⟩
    | succ m =>
      have h32 : ¬ t.getD e 0 = 32 := fun z => by
        rw [z] at hb
        unfold bad gW isL isD at hb
        exact absurd hb (by decide)
      have hin : e < t.length := in_of (p := bad) bad_0 hb
      refine ⟨e, ?_⟩
      show mRun t ns (m + 1) (e, F, [n], 0, lc) = .inl e
      rw [mRun]
      show (if t.length ≤ skS t e then _ else _) = _
      rw [sk_n h32, if_neg (by omega)]
      show (match (if ([n] : List NN).isEmpty = true then mOpd t ns e F 0 else mBeh t e F [n] lc) with | .inl p => (.inl p : Nat ⊕ (List Fw × List NN)) | .inr z' => mRun t ns m z') = .inl e
      rw [if_neg (show ¬ ([n] : List NN).isEmpty = true from Bool.false_ne_true), mBeh_b (Or.inr hb)]
set_option maxRecDepth 100000 in
/-- spaces behind a step -/
theorem go72 {e q n : Nat} (h : XI s b t ns e F cur fr lc) (he : e ≤ t.length) (hq : q < 1000) : ∃ s2, dm63_72 (dm63_26 n) (Int32.ofNat q) s = dm63_26 n (Int32.ofNat (q + 1)) s2 ∧ XI s2 b t ns (skS t e) F cur fr lc := by
  obtain ⟨K, T, B, h7, h8, h9, h10⟩ := h
  have hb := xb K
  obtain ⟨s2, a1, a2, a3⟩ := x67 K he h7
  have hw : ¬ sI s 106 9 = 2 := by
    rw [h9]
    unfold wn
    split
    · split <;> decide
    · split <;> decide
  have hsk := sk_b he
  refine ⟨s2, ?_, K.of (b := b) (a3.mono fun a k z => a7C z), (trM T hb a3 (fun a k z => by unfold a7 at z; omega)).up hsk.1, B.of a3 (fun a k z => by unfold a7 at z; omega), a2, (a3.i (by unfold a7; omega)).trans h8, (a3.i (by unfold a7; omega)).trans h9, fun z => (a3.i (by unfold a7; omega)).trans (h10 z)⟩
  unfold dm63_72 dm63_78
  rw [if_neg hw, a1]
  simp only [bu_some]
  rw [ofNat_succ (by omega)]
set_option maxRecDepth 100000 in
/-- the text is at its end -/
theorem e80 {j q n : Nat} (K : KS s b t ns) (h7 : sI s 106 7 = Int32.ofNat j) (hj : t.length ≤ j) (hj2 : j ≤ 1000) : dm63_26 (n + 1) (Int32.ofNat q) s = dm63_80 s := by
  have hl := K.1.2.1
  rw [dm63_26, x28 K]
  simp only [bu_some]
  rw [h7, if_pos ((nle_iff (by omega) (by omega)).mpr hj), ite_self]
set_option maxRecDepth 100000 in
theorem e92 (K : KS s b t ns) (h8 : sI s 106 8 = -1) (h9 : sI s 106 9 < 4) : ∃ s', dm63_80 s = some (Int32.ofNat t.length, s') := by
  unfold dm63_80
  rw [if_pos h8, if_pos h9]
  unfold dm63_92
  rw [x28 K]
  simp only [bu_some, nx_eq]
  exact ⟨_, by rw [sI_wI, if_pos ⟨rfl, rfl⟩]⟩
set_option maxRecDepth 100000 in
/-- one round of the loop -/
theorem e26 {j q n : Nat} (K : KS s b t ns) (h7 : sI s 106 7 = Int32.ofNat j) (hj : j < t.length) (h8 : sI s 106 8 = -1) (hq : q < 512) : dm63_26 (n + 1) (Int32.ofNat q) s = if sI s 106 9 < 4 then (if sI s 106 9 = 2 then bu (dm88 s) fun s11 => dm63_72 (dm63_26 n) (Int32.ofNat q) s11 else if sI s 106 9 = 3 then bu (dm99 s) fun s15 => dm63_72 (dm63_26 n) (Int32.ofNat q) s15 else bu (dm103 (t.getD j (-1)) s) fun s21 => dm63_72 (dm63_26 n) (Int32.ofNat q) s21) else bu (dm68 (t.getD j (-1)) s) fun s27 => dm63_72 (dm63_26 n) (Int32.ofNat q) s27 := by
  have hl := K.1.2.1
  rw [dm63_26, if_neg (fun z => by have := (nle_iff (a := 512) (by omega) (by omega)).mp z; omega), x28 K]
  simp only [bu_some]
  rw [h7, if_neg (fun z => by have := (nle_iff (by omega) (by omega)).mp z; omega), if_pos h8, x34 K (by omega)]
  simp only [bu_some]
set_option maxRecDepth 100000 in
/-- where the next sign is wrong -/
theorem goB {e q n : Nat} {R : Nat ⊕ (List Fw × List NN)} (h : XI s b t ns e F cur 0 lc) (hF : ∀ f ∈ F, gdF ns f) (hcur : cur ≠ []) (he : e < t.length) (hq : q < 512) (hc : t.getD e 0 = 36) (hR : ∃ p, R = .inl p) : RES b R (dm63_26 n (Int32.ofNat q) s) := by
  cases n with
  | zero => exact RES.z
  | succ n =>
    refine RES.l hR fun v s' hv => ?_
    have hw : ¬ sI s 106 9 < 4 := by
      rw [h.2.2.2.2.2.1]
      unfold wn
      have : cur.isEmpty = false := by
        cases cur with
        | nil => exact absurd rfl hcur
        | cons a r => rfl
      rw [this, if_neg (by decide)]
      split <;> decide
    rw [e26 h.1 h.2.2.2.1 he h.2.2.2.2.1 hq, if_neg hw] at hv
    obtain ⟨s2, a1, a2⟩ := x68 h hF hcur he
    rw [a1] at hv
    simp only [bu_some] at hv
    rw [mBeh_b (Or.inl hc)] at a2
    rcases a2 with ⟨a2, -⟩ | ⟨z, a2, -⟩ | ⟨a2, -⟩
    · exact wr72 a2 hv
    · cases a2
    · rw [hc] at a2
      exact absurd a2 (by decide)
set_option maxRecDepth 100000 in
/-- a reference is wanted -/
theorem goR {j q n : Nat} {x : Int32} {R : Nat ⊕ (List Fw × List NN)} (h : XR s b t ns j F x) (hj : j ≤ t.length) (hq : j < t.length → q < 512) (hbad : (flC F).length = 128 ∨ ¬ cOk t j ∨ bad (t.getD (cE t j) 0) → ∃ p, R = .inl p) (hgood : (flC F).length < 128 → cOk t j → ¬ bad (t.getD (cE t j) 0) → ∀ n s2, XI s2 b t ns (skS t (cE t j)) F [((fl F).length, clD x (Int32.ofNat (cW t j)) (Int32.ofNat (cK t j).2.1) (Int32.ofNat (cFl t j)), [])] 0 1 → RES b R (dm63_26 n (Int32.ofNat (q + 1)) s2)) : RES b R (dm63_26 n (Int32.ofNat q) s) := by
  cases n with
  | zero => exact RES.z
  | succ n =>
    have hl := h.1.1.2.1
    have h9 : sI s 106 9 = 2 := h.2.2.2.2.2.1
    by_cases he : t.length ≤ j
    · have hR := hbad (Or.inr (Or.inl fun z => by have := (cOk_b hj z).2.2.2; omega))
      rw [e80 h.1 h.2.2.2.1 he (by omega)]
      obtain ⟨s', e⟩ := e92 h.1 h.2.2.2.2.1 (by rw [h9]; decide)
      refine RES.l hR fun v s9 hv => ?_
      rw [e] at hv
      cases hv
      exact nm1 (by omega)
    · rw [e26 h.1 h.2.2.2.1 (by omega) h.2.2.2.2.1 (hq (by omega)), h9, if_pos (by decide), if_pos rfl]
      obtain ⟨s2, a1, a2⟩ := x88 h hj
      rw [a1]
      simp only [bu_some]
      rcases a2 with ⟨a2, a3⟩ | ⟨a2, a3, a4, a5⟩
      · exact RES.l (hbad a3) fun v s9 hv => wr72 a2 hv
      · have hE := (cOk_b hj a3).2.2.2.2
        obtain ⟨s3, c1, c2⟩ := go72 (n := n) (q := q) a5 hE (by have := hq (by omega); omega)
        rw [c1]
        exact hgood a2 a3 a4 n s3 c2
set_option maxRecDepth 100000 in
/-- the other end of a range is wanted -/
theorem goG {j q n : Nat} {m : NN} {R : Nat ⊕ (List Fw × List NN)} (h : XG s b t ns j F [m]) (hj : j ≤ t.length) (h4 : m.2.1 0 = 4) (hn : m.2.2 = []) (h7n : 0 ≤ (m.2.1 7).toInt ∧ (m.2.1 7).toInt ≤ 3) (hq : j < t.length → q < 512) (hbad : ¬ cOk t j ∨ bad (t.getD (cE t j) 0) → ∃ p, R = .inl p) (hgood : cOk t j → ¬ bad (t.getD (cE t j) 0) → ∀ n s2, XI s2 b t ns (skS t (cE t j)) F [rgN m (Int32.ofNat (cW t j)) (Int32.ofNat (cK t j).2.1) (Int32.ofNat (cFl t j))] 0 0 → RES b R (dm63_26 n (Int32.ofNat (q + 1)) s2)) : RES b R (dm63_26 n (Int32.ofNat q) s) := by
  cases n with
  | zero => exact RES.z
  | succ n =>
    have hl := h.1.1.2.1
    have h9 : sI s 106 9 = 3 := h.2.2.2.2.2.1
    by_cases he : t.length ≤ j
    · have hR := hbad (Or.inl fun z => by have := (cOk_b hj z).2.2.2; omega)
      rw [e80 h.1 h.2.2.2.1 he (by omega)]
      obtain ⟨s', e⟩ := e92 h.1 h.2.2.2.2.1 (by rw [h9]; decide)
      refine RES.l hR fun v s9 hv => ?_
      rw [e] at hv
      cases hv
      exact nm1 (by omega)
    · rw [e26 h.1 h.2.2.2.1 (by omega) h.2.2.2.2.1 (hq (by omega)), h9, if_pos (by decide), if_neg (by decide), if_pos rfl]
      obtain ⟨s2, a1, a2⟩ := x99 h hj h4 hn h7n
      rw [a1]
      simp only [bu_some]
      rcases a2 with ⟨a2, a3⟩ | ⟨a3, a4, a5⟩
      · exact RES.l (hbad a3) fun v s9 hv => wr72 a2 hv
      · have hE := (cOk_b hj a3).2.2.2.2
        obtain ⟨s3, c1, c2⟩ := go72 (n := n) (q := q) a5 hE (by have := hq (by omega); omega)
        rw [c1]
        exact hgood a3 a4 n s3 c2
def IV (t : List Int32) (ns : List (List Int32)) (z : St) : Prop := z.1 ≤ t.length ∧ MI ns z.2.1 z.2.2.1 ∧ (z.2.2.1 = [] → z.2.2.2.2 = 0 ∧ frI z.2.2.2.1 z.2.1) ∧ (z.2.2.1 ≠ [] → z.2.2.2.1 = 0) ∧ (z.2.2.2.2 = 1 → ∃ n, z.2.2.1 = [n] ∧ n.2.1 0 = 4 ∧ n.2.2 = [])
set_option maxRecDepth 100000 in
theorem IV.of {j : Nat} {bb : Bool} {z : St} (h1 : stOk t j bb (.inr z)) (h2 : gdX ns (.inr z)) (h3 : goX (.inr z)) : IV t ns z := by
  obtain ⟨a1, a2, a3, a4, a5, a6⟩ := h1
  refine ⟨a2, h2, fun q => ⟨(a5 (by rw [q]; rfl)).1, h3.1 q⟩, fun q => a4 (nE_of fun y => q (emp_iff.mp y)), fun q => ?_⟩
  obtain ⟨n, n1, n2⟩ := a6 q
  exact ⟨n, n1, n2, h3.2 q n (by rw [n1]; exact List.mem_singleton.mpr rfl)⟩
set_option maxRecDepth 100000 in
theorem mOpd_f {t : List Int32} {ns : List (List Int32)} {F : List Fw} {i : Nat} {fr : Int32} (ho : okT t) (hi : i < t.length) (hno : ¬ ((t.getD i 0 = 41 ∨ t.getD i 0 = 44) ∧ ¬ fr = 0 ∧ ¬ (t.getD i 0 = 41 ∧ fr = 1))) : stOk t i false (mOpd t ns i F fr) := by
  unfold mOpd
  by_cases c1 : t.getD i 0 = 43
  · rw [if_pos c1]
    exact stOk.emp (by omega) hi (by decide)
  · rw [if_neg c1]
    by_cases c2 : t.getD i 0 = 45
    · rw [if_pos c2]
      by_cases g : (fl F).length = 128
      · rw [if_pos g]
        exact Nat.le_of_lt hi
      · rw [if_neg g]
        exact stOk.emp (by omega) hi (by decide)
    · rw [if_neg c2]
      by_cases c3 : t.getD i 0 = 40
      · rw [if_pos c3]
        by_cases g : nO F = 32
        · rw [if_pos g]
          exact Nat.le_of_lt hi
        · rw [if_neg g]
          exact stOk.emp (by omega) hi (by decide)
      · rw [if_neg c3]
        by_cases c4 : t.getD i 0 = 41 ∧ fr = 1
        · rw [if_pos c4]
          cases F with
          | nil => exact Nat.le_of_lt hi
          | cons f F0 => exact stOk.cur (by omega) hi rfl
        · rw [if_neg c4, if_neg (fun c5 => hno ⟨c5.1, fun z => c5.2 (by rw [z]; decide), c4⟩)]
          unfold mPrim
          by_cases g : b01 (prB (t.getD i 0)) = 0 ∨ (fl F).length = 128
          · rw [if_pos g]
            exact Nat.le_of_lt hi
          · rw [if_neg g]
            exact mTok_ok ho hi (Classical.byContradiction fun q => g (Or.inl (b01_ne.mpr q)))
set_option maxRecDepth 100000 in
theorem sim : ∀ (m : Nat) (z : St) (q n : Nat) (s : aS), XI s b t ns (skS t z.1) z.2.1 z.2.2.1 z.2.2.2.1 z.2.2.2.2 → IV t ns z → muS t z ≤ m → q + 2 * (t.length - skS t z.1) ≤ 512 → RES b (mRun t ns (m + 1) z) (dm63_26 n (Int32.ofNat q) s) := by
  intro m
  induction m using Nat.strongRecOn with
  | _ m ih =>
    rintro ⟨i0, F, cur, fr, lc⟩ q n s h hI hm hq
    obtain ⟨hi0, hMI, hE, hN, hL⟩ := hI
    have h : XI s b t ns (skS t i0) F cur fr lc := h
    have hi0 : i0 ≤ t.length := hi0
    have hMI : MI ns F cur := hMI
    have hE : cur = [] → lc = 0 ∧ frI fr F := hE
    have hN : cur ≠ [] → fr = 0 := hN
    have hL : lc = 1 → ∃ n, cur = [n] ∧ n.2.1 0 = 4 ∧ n.2.2 = [] := hL
    have hq : q + 2 * (t.length - skS t i0) ≤ 512 := hq
    have hm : 2 * (t.length - i0) + (if cur.isEmpty = true then 1 else 0) ≤ m := hm
    cases n with
    | zero => exact RES.z
    | succ n =>
      have hl := h.1.1.2.1
      have hok := h.1.1.2.2.1
      have hns := h.1.2.2.2.1
      have hsk := sk_b hi0
      obtain ⟨j, hj⟩ : ∃ j, j = skS t i0 := ⟨_, rfl⟩
      rw [← hj] at h hq hsk
      have hR : mRun t ns (m + 1) (i0, F, cur, fr, lc) = if t.length ≤ j then (if cur.isEmpty = true ∨ ¬ nO F = 0 then .inl t.length else .inr (F, cur)) else nxR t ns m (if cur.isEmpty = true then mOpd t ns j F fr else mBeh t j F cur lc) := by
        rw [mRun]
        show (if t.length ≤ skS t i0 then _ else _) = _
        rw [← hj]
        rfl
      rw [hR]
      by_cases he : t.length ≤ j
      · rw [if_pos he, e80 h.1 h.2.2.2.1 he (by omega)]
        by_cases hc : cur = []
        · rw [if_pos (Or.inl (emp_iff.mpr hc))]
          obtain ⟨s', e⟩ := e92 h.1 h.2.2.2.2.1 (by
            rw [h.2.2.2.2.2.1, hc]
            unfold wn
            rw [if_pos (show ([] : List NN).isEmpty = true from rfl)]
            split <;> decide)
          refine RES.l ⟨_, rfl⟩ fun v s9 hv => ?_
          rw [e] at hv
          cases hv
          exact nm1 (by omega)
        · have hw : ¬ sI s 106 9 < 4 := by
            rw [h.2.2.2.2.2.1]
            unfold wn
            rw [if_neg (fun z => hc (emp_iff.mp z))]
            split <;> decide
          unfold dm63_80
          rw [if_pos h.2.2.2.2.1, if_neg hw, x82 h.2.2.1, bO_len]
          simp only [bu_some]
          have hO32 := h.2.2.1.2.2.1
          rw [bO_len] at hO32
          by_cases hO : nO F = 0
          · rw [if_neg (fun z => z.elim (fun y => hc (emp_iff.mp y)) (fun y => y hO)), if_pos (by rw [hO]; decide)]
            intro v s9 hv
            have hv := Option.some.inj hv
            have e1 : v = sI s 106 8 := (congrArg Prod.fst hv).symm
            have e2 : s9 = s := (congrArg Prod.snd hv).symm
            rw [e1, e2]
            exact ⟨h.2.2.2.2.1, h.2.1.up (by omega)⟩
          · rw [if_pos (Or.inr hO), if_neg (fun z => by have := (nle_iff (b := 0) (by omega) (by omega)).mp z; omega)]
            unfold dm63_92
            rw [x28 h.1]
            simp only [bu_some, nx_eq]
            refine RES.l ⟨_, rfl⟩ fun v s9 hv => ?_
            rw [sI_wI, if_pos ⟨rfl, rfl⟩] at hv
            cases hv
            exact nm1 (by omega)
      · rw [if_neg he]
        have hjl : j < t.length := by omega
        have hq5 : q < 512 := by omega
        rw [e26 h.1 h.2.2.2.1 hjl h.2.2.2.2.1 hq5]
        -- the next state of both
        have next : ∀ (z : St) (s2 : aS) (m2 : Nat), XI s2 b t ns z.1 z.2.1 z.2.2.1 z.2.2.2.1 z.2.2.2.2 → IV t ns z → j < z.1 → m2 + 1 ≤ m → 2 * (t.length - z.1) + 1 ≤ m2 → RES b (mRun t ns (m2 + 1) z) (dm63_72 (dm63_26 n) (Int32.ofNat q) s2) := by
          intro z s2 m2 hx hz hjz hm2 hmu
          obtain ⟨s3, c1, c2⟩ := go72 (n := n) (q := q) hx hz.1 (by omega)
          rw [c1]
          have hz1 := hz.1
          have := sk_b hz1
          refine ih m2 (by omega) z (q + 1) n s3 c2 hz ?_ (by omega)
          unfold muS
          split <;> omega
        by_cases hc : cur = []
        · subst hc
          obtain ⟨hlc, hfr⟩ := hE rfl
          subst hlc
          have hm : 2 * (t.length - i0) + 1 ≤ m := hm
          have hw : sI s 106 9 = if fr = 0 then 1 else 0 := h.2.2.2.2.2.1
          rw [if_pos (show sI s 106 9 < 4 by rw [hw]; split <;> decide), if_neg (show ¬ sI s 106 9 = 2 by rw [hw]; split <;> decide), if_neg (show ¬ sI s 106 9 = 3 by rw [hw]; split <;> decide)]
          show RES b (nxR t ns m (mOpd t ns j F fr)) _
          have hF := hMI.1
          have hfr1 : fr = 1 → ∃ f F0, F = f :: F0 ∧ f.1 = 7 := fun z => by
            rcases hfr with y | ⟨-, f, F0, y1, y2, -⟩ | ⟨y, -⟩
            · rw [z] at y
              exact absurd y (by decide)
            · exact ⟨f, F0, y1, y2⟩
            · rw [z] at y
              exact absurd y (by decide)
          by_cases hno : (t.getD j 0 = 41 ∨ t.getD j 0 = 44) ∧ ¬ fr = 0 ∧ ¬ (t.getD j 0 = 41 ∧ fr = 1)
          · -- an argument that is nothing
            have hfl := flC_len F
            have h0 : ¬ fr ≤ 0 := by
              rcases hfr with z | ⟨z, -⟩ | ⟨z, -⟩
              · exact absurd z hno.2.1
              · rw [z]; decide
              · rw [z]; decide
            have n43 : ¬ t.getD j 0 = 43 := fun z => by rcases hno.1 with y | y <;> rw [z] at y <;> exact absurd y (by decide)
            have n45 : ¬ t.getD j 0 = 45 := fun z => by rcases hno.1 with y | y <;> rw [z] at y <;> exact absurd y (by decide)
            have n40 : ¬ t.getD j 0 = 40 := fun z => by rcases hno.1 with y | y <;> rw [z] at y <;> exact absurd y (by decide)
            have n32 : ¬ t.getD j 0 = 32 := fun z => by rcases hno.1 with y | y <;> rw [z] at y <;> exact absurd y (by decide)
            have eM : mOpd t ns j F fr = if (fl F).length = 128 then .inl j else .inr (j, F, [((fl F).length, plF 8 0, [])], 0, 0) := by
              unfold mOpd
              rw [if_neg n43, if_neg n45, if_neg n40, if_neg hno.2.2, if_pos ⟨hno.1, h0⟩]
            have eD : ∃ v, ((t.getD j 0 = 41 ∧ v = 1) ∨ (t.getD j 0 = 44 ∧ v = (0 : Int32))) ∧ dm103 (t.getD j (-1)) s = bu (dm119 v s) fun s3 => some s3 := by
              rw [gd_in hjl]
              rcases hno.1 with y | y
              · refine ⟨1, Or.inl ⟨y, rfl⟩, ?_⟩
                unfold dm103 dm103_44
                rw [y]
                rfl
              · refine ⟨0, Or.inr ⟨y, rfl⟩, ?_⟩
                unfold dm103 dm103_44
                rw [y]
                rfl
            obtain ⟨v, hv, eD⟩ := eD
            obtain ⟨s2, a1, a2⟩ := x119 (c := t.getD j 0) (v := v) h hF hfr hjl rfl hv
            rw [eD, a1]
            simp only [bu_some]
            rcases a2 with ⟨a2, -⟩ | ⟨a2, a3, -⟩ | ⟨-, -, a2⟩
            · exact absurd a2 hno.2.1
            · exact absurd ⟨a2, a3⟩ hno.2.2
            · rcases a2 with ⟨a2, a3⟩ | ⟨a2, a3⟩
              · rw [eM, if_pos (by omega)]
                exact RES.l ⟨_, rfl⟩ fun v s9 hv => wr72 a3 hv
              · rw [eM, if_neg (by omega)]
                obtain ⟨m2, rfl⟩ : ∃ k, m = k + 2 := ⟨m - 2, by omega⟩
                have e2 : nxR t ns (m2 + 2) (.inr (j, F, [((fl F).length, plF 8 0, [])], 0, 0)) = nxR t ns (m2 + 1) (mBeh t j F [((fl F).length, plF 8 0, [])] 0) := by
                  show mRun t ns (m2 + 1 + 1) (j, F, [((fl F).length, plF 8 0, [])], 0, 0) = _
                  rw [mRun]
                  show (if t.length ≤ skS t j then _ else _) = _
                  rw [sk_n n32, if_neg (by omega)]
                  rfl
                rw [e2]
                rcases a3 with ⟨a3, p, a4⟩ | ⟨z, a3, a4⟩
                · rw [a4]
                  exact RES.l ⟨_, rfl⟩ fun v s9 hv => wr72 a3 hv
                · have hg8 : gdN ns ((fl F).length, plF 8 0, []) := gd_leaf (by decide) (by decide) (by decide) (Nat.zero_le _) (fun y hy => (by cases hy))
                  have hs := mBeh_ok (t := t) (F := F) (i := j) (lc := 0) (cur := [((fl F).length, plF 8 0, [])]) hjl (fun z => by cases z)
                  have hg := mBeh_gd (t := t) (ns := ns) (F := F) (i := j) (lc := 0) (cur := [((fl F).length, plF 8 0, [])]) ⟨hF, fun n hn => by rw [List.mem_singleton.mp hn]; exact hg8⟩ hjl (fun z => absurd z (by decide))
                  have hx := mBeh_x (t := t) (i := j) (F := F) (lc := 0) (cur := [((fl F).length, plF 8 0, [])]) (fun z => by cases z)
                  rw [a3] at hs hg hx ⊢
                  have hjz : j < z.1 := by
                    have := hs.1
                    by_cases y : z.1 = j
                    · have := (hs.2.2.1 y).1
                      cases this
                    · omega
                  exact next z s2 m2 a4 (IV.of hs hg hx) hjz (by omega) (by omega)
          · obtain ⟨s2, a1, a2⟩ := x103 h hF hfr hjl hno
            have hs := mOpd_f (t := t) (ns := ns) (F := F) (i := j) (fr := fr) hok hjl hno
            have hg := mOpd_gd (t := t) (ns := ns) (F := F) (i := j) (fr := fr) hns hl hok hF hjl hfr1
            have hx := mOpd_x (t := t) (ns := ns) (F := F) (i := j) (fr := fr)
            obtain ⟨X, hX⟩ : ∃ X, X = mOpd t ns j F fr := ⟨_, rfl⟩
            rw [← hX] at hs hg hx a2 ⊢
            rw [a1]
            simp only [bu_some]
            obtain ⟨m2, rfl⟩ : ∃ k, m = k + 1 := ⟨m - 1, by omega⟩
            rcases a2 with ⟨a2, a3⟩ | ⟨z, a2, a3⟩ | ⟨j2, x, a2, a3, a4, a5⟩ | ⟨e, nd, a2, a3, a4, a5⟩
            · exact RES.l (dead_l a3 _) fun v s9 hv => wr72 a2 hv
            · subst a2
              have hjz : j < z.1 := by
                have := hs.1
                by_cases y : z.1 = j
                · have := (hs.2.2.1 y).1
                  cases this
                · omega
              exact next z s2 m2 a3 (IV.of hs hg hx) hjz (by omega) (by omega)
            · have h2 : dm63_72 (dm63_26 n) (Int32.ofNat q) s2 = dm63_26 n (Int32.ofNat (q + 1)) s2 := by
                unfold dm63_72 dm63_78
                rw [if_pos a2.2.2.2.2.2.1, ofNat_succ (by omega)]
              rw [h2]
              rcases a5 with ⟨a5, a6⟩ | ⟨a5, a6⟩
              · subst a5
                refine goR a2 a4 (fun _ => by omega) (fun y => ?_) (fun y1 y2 y3 n2 s3 y4 => ?_)
                · refine dead_l ?_ _
                  unfold mCell
                  rcases y with y | y | y
                  · omega
                  · rw [if_pos (b01_ne.mpr y)]
                    exact dead.l
                  · by_cases ho : cOk t j2
                    · rw [if_neg (fun w => b01_ne.mp w ho)]
                      exact Or.inr ⟨_, _, _, _, rfl, y⟩
                    · rw [if_pos (b01_ne.mpr ho)]
                      exact dead.l
                · have eC : mCell t F (fl F).length x j2 = .inr (cE t j2, F, [((fl F).length, clD x (Int32.ofNat (cW t j2)) (Int32.ofNat (cK t j2).2.1) (Int32.ofNat (cFl t j2)), [])], 0, 1) := by
                    unfold mCell
                    rw [if_neg (fun w => b01_ne.mp w y2)]
                  have hEb := (cOk_b a4 y2).2.2.2
                  rw [eC] at hs hg hx ⊢
                  have hIv := IV.of hs hg hx
                  show RES b (mRun t ns (m2 + 1) _) _
                  have hsE := sk_b hEb.2
                  refine ih m2 (by omega) _ (q + 1 + 1) n2 s3 y4 hIv ?_ ?_
                  · show 2 * (t.length - cE t j2) + (if ([((fl F).length, clD x (Int32.ofNat (cW t j2)) (Int32.ofNat (cK t j2).2.1) (Int32.ofNat (cFl t j2)), [])] : List NN).isEmpty = true then 1 else 0) ≤ m2
                    rw [if_neg (show ¬ ([((fl F).length, clD x (Int32.ofNat (cW t j2)) (Int32.ofNat (cK t j2).2.1) (Int32.ofNat (cFl t j2)), [])] : List NN).isEmpty = true from Bool.false_ne_true)]
                    omega
                  · show q + 1 + 1 + 2 * (t.length - skS t (cE t j2)) ≤ 512
                    omega
              · obtain ⟨p, a5⟩ := a5
                subst a5
                refine goR a2 a4 (fun _ => by omega) (fun _ => ⟨p, rfl⟩) (fun y1 y2 y3 n2 s3 y4 => ?_)
                have h36 := (a6.resolve_left (by omega)) y2 y3
                have hEb := (cOk_b a4 y2).2.2.2
                have hin : cE t j2 < t.length := in_of (p := fun x => x = 36) (d := 0) (by decide) h36
                rw [sk_n (by rw [h36]; decide)] at y4
                exact goB y4 hF (fun z => by cases z) hin (by omega) h36 ⟨p, rfl⟩
            · obtain ⟨p, a5⟩ := a5
              subst a5
              have hin : e < t.length := in_of (p := fun x => x = 36) (d := 0) (by decide) a4
              obtain ⟨s3, c1, c2⟩ := go72 (n := n) (q := q) a2 a3 (by omega)
              rw [c1]
              rw [sk_n (by rw [a4]; decide)] at c2
              exact goB c2 hF (fun z => by cases z) hin (by omega) a4 ⟨p, rfl⟩
        · have hfr := hN hc
          subst hfr
          have hce : cur.isEmpty = false := nE_of (fun y => hc (emp_iff.mp y))
          have hw : ¬ sI s 106 9 < 4 := by
            rw [h.2.2.2.2.2.1]
            unfold wn
            rw [hce, if_neg (by decide)]
            split <;> decide
          have hm : 2 * (t.length - i0) ≤ m := by
            have hm : 2 * (t.length - i0) + (if cur.isEmpty = true then 1 else 0) ≤ m := hm
            rw [hce, if_neg (show ¬ false = true from Bool.false_ne_true)] at hm
            omega
          rw [if_neg hw, if_neg (by rw [hce]; decide)]
          have hF := hMI.1
          obtain ⟨s2, a1, a2⟩ := x68 h hF hc hjl
          have hlc4 : lc = 1 → ∃ n, cur = [n] ∧ n.2.1 0 = 4 := fun y => by
            obtain ⟨n, n1, n2, -⟩ := hL y
            exact ⟨n, n1, n2⟩
          have hs := mBeh_ok (t := t) (F := F) (i := j) (lc := lc) (cur := cur) hjl hc
          have hg := mBeh_gd (t := t) (ns := ns) (F := F) (i := j) (lc := lc) (cur := cur) hMI hjl hlc4
          have hx := mBeh_x (t := t) (i := j) (F := F) (lc := lc) (cur := cur) hc
          rw [a1]
          simp only [bu_some]
          obtain ⟨m2, rfl⟩ : ∃ k, m = k + 1 := ⟨m - 1, by omega⟩
          rcases a2 with ⟨a2, p, a3⟩ | ⟨z, a2, a3⟩ | ⟨a2, a3, a4⟩
          · rw [a3]
            exact RES.l ⟨p, rfl⟩ fun v s9 hv => wr72 a2 hv
          · rw [a2] at hs hg hx ⊢
            have hjz : j < z.1 := by
              have := hs.1
              by_cases y : z.1 = j
              · have := (hs.2.2.1 y).1
                cases this
              · omega
            exact next z s2 m2 a3 (IV.of hs hg hx) hjz (by omega) (by omega)
          · obtain ⟨nd, n1, n2, n3⟩ := hL a3
            subst n1
            have hjs := sk_b (t := t) (i := j + 1) (by omega)
            obtain ⟨K, T, B, h7, h8, h9, h10⟩ := a4
            have hb := xb K
            obtain ⟨s3, c1, c2, c3⟩ := x67 K (show j + 1 ≤ t.length by omega) h7
            have h2 : dm63_72 (dm63_26 n) (Int32.ofNat q) s2 = dm63_26 n (Int32.ofNat (q + 1)) s3 := by
              unfold dm63_72 dm63_78
              rw [if_neg (by rw [h9]; decide), c1]
              simp only [bu_some]
              rw [ofNat_succ (by omega)]
            have hG : XG s3 b t ns (skS t (j + 1)) F [nd] := ⟨K.of (b := b) (c3.mono fun a k z => a7C z), (trM T hb c3 (fun a k z => by unfold a7 at z; omega)).up hjs.1, B.of c3 (fun a k z => by unfold a7 at z; omega), c2, (c3.i (by unfold a7; omega)).trans h8, (c3.i (by unfold a7; omega)).trans h9, (c3.i (by unfold a7; omega)).trans h10⟩
            rw [h2]
            have eM : mBeh t j F [nd] lc = if b01 (cOk t (skS t (j + 1))) = 0 then .inl (cB t (skS t (j + 1))) else .inr (cE t (skS t (j + 1)), F, [rgN nd (Int32.ofNat (cW t (skS t (j + 1)))) (Int32.ofNat (cK t (skS t (j + 1))).2.1) (Int32.ofNat (cFl t (skS t (j + 1))))], 0, 0) := by
              unfold mBeh
              rw [if_pos ⟨a2, a3⟩]
            have hnd := hMI.2 nd (List.mem_singleton.mpr rfl)
            refine goG hG hjs.2 n2 n3 ⟨hnd.1.2.1.1, hnd.2.2.2.1 n2⟩ (fun _ => by omega) (fun y => ?_) (fun y2 y3 n9 s4 y4 => ?_)
            · refine dead_l ?_ _
              rw [eM]
              rcases y with y | y
              · rw [if_pos (b01_ne.mpr y)]
                exact dead.l
              · by_cases ho : cOk t (skS t (j + 1))
                · rw [if_neg (fun w => b01_ne.mp w ho)]
                  exact Or.inr ⟨_, _, _, _, rfl, y⟩
                · rw [if_pos (b01_ne.mpr ho)]
                  exact dead.l
            · rw [eM, if_neg (fun w => b01_ne.mp w y2)] at hs hg hx ⊢
              have hEb := (cOk_b hjs.2 y2).2.2.2
              have hIv := IV.of hs hg hx
              have hsE := sk_b hEb.2
              show RES b (mRun t ns (m2 + 1) _) _
              refine ih m2 (by omega) _ (q + 1 + 1) n9 s4 y4 hIv ?_ ?_
              · show 2 * (t.length - cE t (skS t (j + 1))) + (if ([rgN nd (Int32.ofNat (cW t (skS t (j + 1)))) (Int32.ofNat (cK t (skS t (j + 1))).2.1) (Int32.ofNat (cFl t (skS t (j + 1))))] : List NN).isEmpty = true then 1 else 0) ≤ m2
                rw [if_neg (show ¬ ([rgN nd (Int32.ofNat (cW t (skS t (j + 1)))) (Int32.ofNat (cK t (skS t (j + 1))).2.1) (Int32.ofNat (cFl t (skS t (j + 1))))] : List NN).isEmpty = true from Bool.false_ne_true)]
                omega
              · show q + 1 + 1 + 2 * (t.length - skS t (cE t (skS t (j + 1)))) ≤ 512
                omega
end XX
