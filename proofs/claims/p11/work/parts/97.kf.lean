/-! the reader of FormulaTrees, exactly: errors -/
def mE (t : List Int32) (o e m : Nat) : Prop := m ≤ (erN e).length ∧ spQ t (erN e) o m 0
set_option maxRecDepth 100000 in
theorem mE_iff {t : List Int32} {o e m : Nat} (ho : okT t) (he : 1 ≤ e ∧ e < 8) (hm : 1 ≤ m) : mE t o e m ↔ sameE t o (m - 1) e := by
  constructor
  · rintro ⟨h1, h2⟩
    have hl := sp_in h2 hm h1 (erN_p e (List.mem_range.mpr he.2))
    refine ⟨by omega, fun q hq => ?_⟩
    have := h2 q (Nat.zero_le _) (by omega)
    rw [gd_in (show o + q < t.length by omega)] at this
    exact this.symm
  · rintro ⟨h1, h2⟩
    have hlen : m ≤ (erN e).length := by
      refine Classical.byContradiction fun z => ?_
      have := h2 (erN e).length (by omega)
      rw [getD_out (Nat.le_refl _), getD_in (show o + (erN e).length < t.length by omega)] at this
      exact gr_pos (ho _ (List.getElem_mem _)) this.symm
    refine ⟨hlen, fun k _ hk => ?_⟩
    rw [gd_in (show o + k < t.length by omega)]
    exact (h2 k (by omega)).symm
set_option maxRecDepth 100000 in
theorem fdE_c {t : List Int32} {f k : Nat} : ∀ (m e : Nat) (x : Int32), (fdE t f k m e x = x ∧ ∀ e', e ≤ e' → e' < e + m → ¬ (sameE t f k e' ∧ (erN e').getD (k + 1) 0 = 0)) ∨ ∃ e', e ≤ e' ∧ e' < e + m ∧ sameE t f k e' ∧ (erN e').getD (k + 1) 0 = 0 ∧ fdE t f k m e x = Int32.ofNat e'
  | 0, e, x => Or.inl ⟨rfl, fun e' h1 h2 => by omega⟩
  | m + 1, e, x => by
    rw [fdE]
    by_cases c : sameE t f k e
    · rw [if_neg (fun q => b01_ne.mp q c)]
      by_cases c2 : (erN e).getD (k + 1) 0 = 0
      · rw [if_pos c2]
        rcases fdE_c (t := t) (f := f) (k := k) m (e + 1) (Int32.ofNat e) with ⟨h1, h2⟩ | ⟨e', h1, h2, h3⟩
        · exact Or.inr ⟨e, Nat.le_refl _, by omega, c, c2, h1⟩
        · exact Or.inr ⟨e', by omega, by omega, h3⟩
      · rw [if_neg c2]
        rcases fdE_c (t := t) (f := f) (k := k) m (e + 1) x with ⟨h1, h2⟩ | ⟨e', h1, h2, h3⟩
        · refine Or.inl ⟨h1, fun e' q1 q2 z => ?_⟩
          by_cases e0 : e' = e
          · subst e0
            exact c2 z.2
          · exact h2 e' (by omega) (by omega) z
        · exact Or.inr ⟨e', by omega, by omega, h3⟩
    · rw [if_pos (b01_ne.mpr c)]
      rcases fdE_c (t := t) (f := f) (k := k) m (e + 1) x with ⟨h1, h2⟩ | ⟨e', h1, h2, h3⟩
      · refine Or.inl ⟨h1, fun e' q1 q2 z => ?_⟩
        by_cases e0 : e' = e
        · subst e0
          exact c z.1
        · exact h2 e' (by omega) (by omega) z
      · exact Or.inr ⟨e', by omega, by omega, h3⟩
set_option maxRecDepth 100000 in
theorem er_u : ∀ e ∈ List.range 8, ∀ e' ∈ List.range 8, 1 ≤ e → 1 ≤ e' → (∀ q, q < (erN e').length → (erN e).getD q 0 = (erN e').getD q 0) → e = e' := by decide
set_option maxRecDepth 100000 in
/-- an error that ends here is the one that was found -/
theorem er_1 {t : List Int32} {f k r e : Nat} (hr : 1 ≤ r ∧ r < 8) (he : 1 ≤ e ∧ e < 8) (h1 : sameE t f k r) (h2 : sameE t f k e) (h0 : (erN e).getD (k + 1) 0 = 0) (hk : k + 1 ≤ (erN e).length) : r = e := by
  have hl : (erN e).length = k + 1 := by
    refine Classical.byContradiction fun z => ?_
    have hp : ∀ e ∈ List.range 8, ∀ x ∈ erN e, x ≠ 0 := by decide
    rw [getD_in (show k + 1 < (erN e).length by omega)] at h0
    exact hp e (List.mem_range.mpr he.2) _ (List.getElem_mem _) h0
  refine er_u r (List.mem_range.mpr hr.2) e (List.mem_range.mpr he.2) hr.1 he.1 fun q hq => ?_
  rw [h1.2 q (by omega), h2.2 q (by omega)]
section XX
variable {s s1 : aS} {b z i : Nat} {t : List Int32} {ns : List (List Int32)} {M : List NN}
set_option maxRecDepth 100000 in
theorem x49 {e m o : Nat} (h : KS s b t ns) (he : 1 ≤ e ∧ e < 8) (hm : 1 ≤ m ∧ m ≤ 7) (ho : o ≤ 300) : ∃ v, dm49 79 (19 + 2 * e) (Int32.ofNat m) (Int32.ofNat o) s = some (v, s) ∧ (v = 0 ↔ ¬ mE t o e m) := by
  have hl := h.1.2.1
  have hST := (h.2.2.2.2.2.2 e he.1 he.2).1
  have hlen := erN_l e (List.mem_range.mpr he.2)
  by_cases c : m ≤ (erN e).length
  · refine ⟨b01 (spQ t (erN e) o m 0), d49 h.1.1 (by show t.length ≤ (sT s 80).2; rw [h.1.2.2.2]; exact hl) (by omega) hST (by omega) c (by omega) (erN_p e (List.mem_range.mpr he.2)), ?_⟩
    rw [b01_ne]
    exact ⟨fun q z => q z.2, fun q z => q ⟨c, z⟩⟩
  · refine ⟨0, ?_, ⟨fun _ z => c z.1, fun _ => rfl⟩⟩
    unfold dm49 dm49_7
    rw [d254 hST (by omega)]
    simp only [bu_some]
    rw [if_pos ((nlt_iff (by omega) (by omega)).mpr (by omega)), dm49_10, if_neg (fun q => by have := (nle_iff (b := 0) (by omega) (by omega)).mp q; omega), if_pos rfl, if_pos (Or.inl rfl)]
set_option maxRecDepth 100000 in
theorem x109 {m o : Nat} (h : KS s b t ns) (hm : 1 ≤ m ∧ m ≤ 7) (ho : o ≤ 300) : ∃ e, dm109 (Int32.ofNat o) (Int32.ofNat m) s = some (Int32.ofNat e, s) ∧ ((e = 0 ∧ ∀ e', 1 ≤ e' → e' < 8 → ¬ mE t o e' m) ∨ ((1 ≤ e ∧ e < 8) ∧ mE t o e m)) := by
  have loop : ∀ (q e n : Nat), e + q = 8 → 1 ≤ e → q < n → (∀ e', 1 ≤ e' → e' < e → ¬ mE t o e' m) → ∃ r, dm109_2 n (Int32.ofNat o) (Int32.ofNat m) (Int32.ofNat e) s = some (Int32.ofNat r, s) ∧ ((r = 0 ∧ ∀ e', 1 ≤ e' → e' < 8 → ¬ mE t o e' m) ∨ ((1 ≤ r ∧ r < 8) ∧ mE t o r m)) := by
    intro q
    induction q with
    | zero =>
      intro e n h1 h2 h3 h4
      obtain ⟨n, rfl⟩ : ∃ q, n = q + 1 := ⟨n - 1, by omega⟩
      have : e = 8 := by omega
      subst this
      rw [dm109_2, if_pos (by decide)]
      exact ⟨0, rfl, Or.inl ⟨rfl, h4⟩⟩
    | succ q ih =>
      intro e n h1 h2 h3 h4
      obtain ⟨n, rfl⟩ : ∃ q, n = q + 1 := ⟨n - 1, by omega⟩
      have he : 1 ≤ e ∧ e < 8 := by omega
      rw [dm109_2, if_neg (fun z => by have := (nlt_iff (a := 7) (by omega) (by omega)).mp z; omega), k110 he]
      simp only [bu_some]
      show ∃ r, (if aK s (19 + 2 * e) 70 then bv (dm49 79 (19 + 2 * e) (Int32.ofNat m) (Int32.ofNat o) s) fun r11 s10 => if r11 = 0 then dm109_2 n (Int32.ofNat o) (Int32.ofNat m) (Int32.ofNat e + 1) s10 else some (Int32.ofNat e, s10) else none) = some (Int32.ofNat r, s) ∧ _
      rw [if_pos (h.2.2.2.2.2.2 e he.1 he.2).2]
      obtain ⟨v, e1, e2⟩ := x49 h he hm ho
      rw [e1]
      simp only [bv_some]
      by_cases c : v = 0
      · rw [if_pos c, ofNat_succ (by omega)]
        refine ih (e + 1) n (by omega) (by omega) (by omega) fun e' q1 q2 => ?_
        by_cases e0 : e' = e
        · subst e0
          exact e2.mp c
        · exact h4 e' q1 (by omega)
      · rw [if_neg c]
        exact ⟨e, rfl, Or.inr ⟨he, Classical.byContradiction fun z => c (e2.mpr z)⟩⟩
  exact loop 7 1 5000 (by omega) (by omega) (by omega) (fun e' q1 q2 => by omega)
set_option maxRecDepth 100000 in
/-- an error -/
theorem x108 {q : Nat} (h : KS s b t ns) (hT : TR s b i M) (hi : i < t.length) (h7 : sI s 106 7 = Int32.ofNat i) (hw : sI s 106 8 = -1) : Tk b s M (¬ (erG t i 8 0).1 = 0) (erG t i 8 0).2 (q, setN (plF 2 0) 8 (erG t i 8 0).1, []) (dm108 s) := by
  have hl := h.1.2.1
  have hok := h.1.2.2.1
  have hb := xb h
  have f38 : ∀ e, (1 ≤ e ∧ e < 8) → i + (erN e).length ≤ t.length → ∀ X : Prop, X → Tk b s M X (i + (erN e).length) (q, setN (plF 2 0) 8 (Int32.ofNat e), []) (dm108_38 (Int32.ofNat i) (Int32.ofNat e) s) := by
    intro e he hle X hX
    unfold dm108_38
    rw [k110 he]
    simp only [bu_some]
    show Tk b s M X (i + (erN e).length) (q, setN (plF 2 0) 8 (Int32.ofNat e), []) (if aK s (19 + 2 * e) 70 then bu (dm254 (19 + 2 * e) s) fun r9 => nx (wI s 106 7 (Int32.ofNat i + r9)) fun s10 => bu (dm111 2 (Int32.ofNat e) (Int32.ofNat i) s10) fun s16 => some s16 else none)
    rw [if_pos (h.2.2.2.2.2.2 e he.1 he.2).2, d254 (h.2.2.2.2.2.2 e he.1 he.2).1 (by omega)]
    simp only [bu_some, nx_eq]
    rw [iSum (by omega) (by omega)]
    have g : ch a7 s (wI s 106 7 (Int32.ofNat (i + (erN e).length))) := (ch.refl _ s).wI ⟨rfl, rfl⟩
    exact ((kv (h.of (b := b) (g.mono fun a k z => a7C z)) (trO hT hb g (fun a k z => by unfold a7 at z; omega)) (by omega) (by rw [sI_wI, if_pos ⟨rfl, rfl⟩]) ((g.i (by unfold a7; omega)).trans hw) 2 (Int32.ofNat e) (by omega) hX).bk (g.mono fun a k z => a7O z)).bx
  have loop : ∀ (m k n : Nat), k + m = 8 → k ≤ 6 → m + 1 < n → Tk b s M (¬ (erG t i m k).1 = 0) (erG t i m k).2 (q, setN (plF 2 0) 8 (erG t i m k).1, []) (dm108_7 n (Int32.ofNat i) 0 (Int32.ofNat (k + 1)) s) := by
    intro m
    induction m with
    | zero => intro k n h1 h2; omega
    | succ m ih =>
      intro k n h1 h2 h3
      obtain ⟨n, rfl⟩ : ∃ q, n = q + 2 := ⟨n - 2, by omega⟩
      rw [dm108_7, if_neg (fun z => by have := (nlt_iff (a := 7) (by omega) (by omega)).mp z; omega), if_pos rfl]
      obtain ⟨r, e1, e2⟩ := x109 (m := k + 1) (o := i) h (by omega) (by omega)
      rw [e1]
      simp only [bv_some]
      rcases e2 with ⟨r0, e2⟩ | ⟨hr, e2⟩
      · subst r0
        rw [if_pos (show Int32.ofNat 0 = 0 from rfl), nx_eq]
        have ns : ¬ someE t i k := fun ⟨e, q1, q2, q3⟩ => e2 e q1 q2 ((mE_iff hok ⟨q1, q2⟩ (by omega)).mpr q3)
        have ee : erG t i (m + 1) k = (0, i + k) := by rw [erG, if_pos (b01_ne.mpr ns)]
        rw [ee]
        refine Or.inl ⟨Or.inl (fun z => z rfl), _, rfl, ?_, (ch.refl _ s).wI (by unfold aO; omega)⟩
        rw [sI_wI, if_pos ⟨rfl, rfl⟩, iSum (by omega) (by omega), ofNat_sub1 (by omega) (by omega)]
        exact nm1 (by omega)
      · have hlen := erN_l r (List.mem_range.mpr hr.2)
        have hs := (mE_iff hok hr (by omega)).mp e2
        rw [Nat.add_sub_cancel] at hs
        have se : someE t i k := ⟨r, hr.1, hr.2, hs⟩
        have e3 := e2.1
        rw [if_neg (show ¬ Int32.ofNat r = 0 from fun z => by have := (neq_iff (b := 0) (by omega) (by omega)).mp z; omega), k110 hr]
        simp only [bu_some]
        show Tk b s M (¬ (erG t i (m + 1) k).1 = 0) (erG t i (m + 1) k).2 (q, setN (plF 2 0) 8 (erG t i (m + 1) k).1, []) (if aK s (19 + 2 * r) 70 then bu (dm254 (19 + 2 * r) s) fun r19 => if r19 = Int32.ofNat (k + 1) then dm108_35 (dm108_7 (n + 1)) (Int32.ofNat i) (Int32.ofNat (k + 1)) (Int32.ofNat r) s else dm108_35 (dm108_7 (n + 1)) (Int32.ofNat i) (Int32.ofNat (k + 1)) 0 s else none)
        rw [if_pos (h.2.2.2.2.2.2 r hr.1 hr.2).2, d254 (h.2.2.2.2.2.2 r hr.1 hr.2).1 (by omega)]
        simp only [bu_some]
        unfold dm108_35
        rw [ofNat_succ (by omega)]
        by_cases c2 : (erN r).length = k + 1
        · rw [if_pos (by rw [c2])]
          have h0 : (erN r).getD (k + 1) 0 = 0 := getD_out (by omega)
          have ef : fdE t i k 7 1 0 = Int32.ofNat r := by
            rcases fdE_c (t := t) (f := i) (k := k) 7 1 0 with ⟨-, q2⟩ | ⟨e', q1, q2, q3, q4, q5⟩
            · exact absurd ⟨hs, h0⟩ (q2 r hr.1 (by omega))
            · have hk' : k + 1 ≤ (erN e').length := ((mE_iff (m := k + 1) hok ⟨q1, by omega⟩ (by omega)).mpr (by rw [Nat.add_sub_cancel]; exact q3)).1
              rw [q5, er_1 hr ⟨q1, by omega⟩ hs q3 q4 hk']
          have nz : ¬ Int32.ofNat r = 0 := fun z => by have := (neq_iff (b := 0) (by omega) (by omega)).mp z; omega
          have ee : erG t i (m + 1) k = (Int32.ofNat r, i + k + 1) := by rw [erG, if_neg (fun q => b01_ne.mp q se), ef, if_neg nz]
          have hin := hs.1
          have := f38 r hr (by omega) (¬ Int32.ofNat r = 0) nz
          rw [c2] at this
          rw [ee, dm108_7]
          split
          · exact this
          · exact this
        · rw [if_neg (fun z => c2 ((neq_iff (by omega) (by omega)).mp z))]
          have ef : fdE t i k 7 1 0 = 0 := by
            rcases fdE_c (t := t) (f := i) (k := k) 7 1 0 with ⟨q1, -⟩ | ⟨e', q1, q2, q3, q4, q5⟩
            · exact q1
            · exfalso
              have hk' : k + 1 ≤ (erN e').length := ((mE_iff (m := k + 1) hok ⟨q1, by omega⟩ (by omega)).mpr (by rw [Nat.add_sub_cancel]; exact q3)).1
              have := er_1 hr ⟨q1, by omega⟩ hs q3 q4 hk'
              subst this
              have hp : ∀ e ∈ List.range 8, ∀ x ∈ erN e, x ≠ 0 := by decide
              rw [getD_in (show k + 1 < (erN r).length by omega)] at q4
              exact hp r (List.mem_range.mpr hr.2) _ (List.getElem_mem _) q4
          have ee : erG t i (m + 1) k = erG t i m (k + 1) := by rw [erG, if_neg (fun q => b01_ne.mp q se), if_pos ef]
          rw [ee]
          exact ih (k + 1) (n + 1) (by omega) (by omega) (by omega)
  unfold dm108
  rw [h7]
  exact loop 8 0 5000 (by omega) (by omega) (by omega)
end XX
