/-! form, whole, in both -/
set_option maxRecDepth 100000 in
/-- the letter that is told -/
noncomputable def fmV (ns : List (List Int32)) (Z : List (Nd × List Int32)) (x : Int32) : Int32 := if 0 ≤ x.toInt then (txF ns 400 Z).1.getD x.toInt.toNat (-1) else -1
set_option maxRecDepth 100000 in
theorem x139 {s : aS} {b : Nat} {ns : List (List Int32)} {Z : List (Nd × List Int32)} (hb : aK s b 3) (hb2 : b = 102 ∨ 149 ≤ b) (hT : (sT s (b + 3)).2 = 256) (hS : SQ s ns) (hn : nsOk ns) (hR : RC s) (hA : AS s) (hW : LWs s) (hZl : sI s b 2 = Int32.ofNat Z.length ∧ Z.length ≤ 128 ∧ ∃ u, TL s b u ∧ ∀ i n, Z[i]? = some n → CR s b i n.1 ∧ NL s b i u n.2) (hZ : ∀ n ∈ Z, arOk n.1 ∧ -1 ≤ (n.1 2).toInt ∧ (n.1 2).toInt < ns.length) (hf : fz Z 1) (hl : (txF ns 400 Z).1.length < 800000) (x : Int32) : ∃ s', dm139 b x s = some (fmV ns Z x, s') ∧ ch (fun a _ => 117 ≤ a ∧ a ≤ 120) s s' := by
  let s0 := wR s 117 5 (.ref b)
  have hN : ∃ N u, N ≤ 128 ∧ sI s b 2 = Int32.ofNat N ∧ TL s b u ∧ ∀ k, k < N → ∃ l, NL s b k u l := by
    obtain ⟨z1, z2, u, z3, z4⟩ := hZl
    exact ⟨Z.length, u, z2, z1, z3, fun k hk => ⟨Z[k].2, (z4 k Z[k] (List.getElem?_eq_getElem hk)).2⟩⟩
  have h0 : FS s0 b ns := ⟨by show sR (wR s 117 5 (.ref b)) 117 5 = .ref b; rw [sR_wR, if_pos ⟨rfl, rfl⟩], hb, hb2, hN, hT, hS.1, hn, hR, hA⟩
  have F0 : FE s0 b ns Z := ⟨h0, hS.2, hZl, hW⟩
  have c0 : ch (fun a _ => 117 ≤ a ∧ a ≤ 120) s s0 := (ch.refl _ s).wR ⟨by omega, by omega⟩
  let s1 := wI (wI (wI (wI (wI s0 117 4 0) 117 6 0) 117 8 0) 117 9 x) 117 10 (-1)
  have c1 : ch wrC s0 s1 := (((((ch.refl wrC s0).wI (by unfold wrC; omega)).wI (by unfold wrC; omega)).wI (by unfold wrC; omega)).wI (by unfold wrC; omega)).wI (by unfold wrC; omega)
  have e4 : sI s1 117 4 = Int32.ofNat 0 := by
    show sI (wI (wI (wI (wI (wI s0 117 4 0) 117 6 0) 117 8 0) 117 9 x) 117 10 (-1)) 117 4 = _
    rw [sI_wI, if_neg (by omega), sI_wI, if_neg (by omega), sI_wI, if_neg (by omega), sI_wI, if_neg (by omega), sI_wI, if_pos ⟨rfl, rfl⟩]
    rfl
  have e6 : sI s1 117 6 = Int32.ofNat 0 := by
    show sI (wI (wI (wI (wI (wI s0 117 4 0) 117 6 0) 117 8 0) 117 9 x) 117 10 (-1)) 117 6 = _
    rw [sI_wI, if_neg (by omega), sI_wI, if_neg (by omega), sI_wI, if_neg (by omega), sI_wI, if_pos ⟨rfl, rfl⟩]
    rfl
  have e8 : sI s1 117 8 = Int32.ofNat 0 := by
    show sI (wI (wI (wI (wI (wI s0 117 4 0) 117 6 0) 117 8 0) 117 9 x) 117 10 (-1)) 117 8 = _
    rw [sI_wI, if_neg (by omega), sI_wI, if_neg (by omega), sI_wI, if_pos ⟨rfl, rfl⟩]
    rfl
  have e9 : sI s1 117 9 = x := by
    show sI (wI (wI (wI (wI (wI s0 117 4 0) 117 6 0) 117 8 0) 117 9 x) 117 10 (-1)) 117 9 = _
    rw [sI_wI, if_neg (by omega), sI_wI, if_pos ⟨rfl, rfl⟩]
  have e10 : sI s1 117 10 = -1 := by
    show sI (wI (wI (wI (wI (wI s0 117 4 0) 117 6 0) 117 8 0) 117 9 x) 117 10 (-1)) 117 10 = _
    rw [sI_wI, if_pos ⟨rfl, rfl⟩]
  have C0 : Cf s1 [] 0 (sI s1 117 7) := ⟨⟨e4, Nat.le_refl _, by omega⟩, e6, rfl, trivial⟩
  have W0 : WC s1 [] x := ⟨by decide, e8, e9, by
    rw [e10]
    split
    · rfl
    · rfl⟩
  obtain ⟨s2, g1, g2, g3, g4⟩ := x140 (x := 0) C0 (by omega) (Or.inl rfl) (fun q S0 e => by cases e)
  have W2 : WC s2 [] x := by
    have := g4 [] x W0 (by decide)
    rw [if_pos rfl] at this
    exact this
  have F2 : FE s2 b ns Z := F0.of (c1.trans g3)
  have h128 := hZl.2.1
  unfold dm139
  simp only [nx_eq]
  show ∃ s', bu (dm140 0 s1) (fun s27 => dm139_23 5000 0 s27) = some (fmV ns Z x, s') ∧ _
  rw [g1]
  simp only [bu_some]
  have cA : ch (fun a _ => 117 ≤ a ∧ a ≤ 120) s s2 := c0.trans ((c1.trans g3).mono fun a k z => by unfold wrC at z; omega)
  unfold fmV
  by_cases k0 : 0 ≤ x.toInt
  · rw [if_pos k0]
    have hl9 : ([] : List Int32).length + (txF ns 400 (Z ++ [])).1.length + 1 < 900000 := by
      rw [List.append_nil]
      show 0 + _ + 1 < 900000
      omega
    rcases x139m hZ k0 400 Z [] [] s2 5000 0 [] [] 0 F2 hf (by omega) (by rw [List.append_nil]; rfl) g2 (Or.inl rfl) W2 (by omega) (by omega) hl9 with ⟨v, s3, y1, y2, y3⟩ | ⟨s3, y1, y2, y3, y4⟩
    · have y3 := y3 []
      rw [if_pos rfl, List.append_nil, List.append_nil, List.append_nil, List.nil_append] at y3
      rw [← y3]
      exact ⟨s3, y1, cA.trans (y2.mono fun a k z => by unfold wrC at z; omega)⟩
    · rw [if_pos rfl, List.append_nil, List.append_nil, List.nil_append] at y3
      have fin : ∀ M r, r < 384 → dm139_23 (M + 1) (Int32.ofNat r) s3 = some (sI s3 117 10, s3) := by
        intro M r hr
        rw [dm139_23, if_neg (fun z => by have := (nle_iff (a := 384) (by omega) (by omega)).mp z; omega), y4.1.1, if_pos (show Int32.ofNat ([] : List (Nat × Nat × Int32)).length ≤ 0 by decide)]
      have y5 := fin (5000 - (3 * Z.length - 1) - 1) (0 + (3 * Z.length - 1)) (by omega)
      rw [show 5000 - (3 * Z.length - 1) - 1 + 1 = 5000 - (3 * Z.length - 1) by omega] at y5
      rw [y3.2.2.2, if_pos k0] at y5
      exact ⟨s3, y1.trans y5, cA.trans (y2.mono fun a k z => by unfold wrC at z; omega)⟩
  · rw [if_neg k0]
    have st : dm139_23 (4999 + 1) (Int32.ofNat 0) s2 = some (sI s2 117 10, s2) := by
      have h4 : sI s2 117 4 = Int32.ofNat 1 := g2.1.1
      rw [dm139_23, if_neg (by decide), h4, if_neg (by decide), if_pos (by
        rw [W2.2.1, W2.2.2.1, iLt]
        have t0 : (Int32.ofNat ([] : List Int32).length).toInt = 0 := rfl
        omega)]
    rw [W2.2.2.2, if_neg k0] at st
    exact ⟨s2, st, cA⟩
set_option maxRecDepth 100000 in
/-- the reference's form -/
theorem x232 {s : aS} {t : List Int32} {ns : List (List Int32)} {fs : Nat → Option Fm} {lt : Nat → Nat → List Int32} (h : RV s t ns fs lt) (hn : nsOk ns) (x k : Int32) : (fAt fs x = none ∧ dm232 x k s = some (0, wI s 121 0 1)) ∨ ∃ ho L s', fAt fs x = some (ho, L) ∧ dm232 x k s = some (fmV ns (zipL (lt x.toInt.toNat) L 0) k, s') ∧ sI s' 121 0 = 0 ∧ (∀ q, sJ s' 148 q = sJ s 148 q) := by
  obtain ⟨-, hS, hM, hL, hlt, hok⟩ := h
  unfold dm232 dm232_8
  rcases d225 hM x with ⟨e1, e2⟩ | ⟨ho, L, e1, e2, e3, e4, e5⟩
  · left
    rw [e2]
    simp only [bu_some, nx_eq]
    rw [if_neg (by decide), if_neg (show ¬ sI (wI s 121 0 1) 121 0 ≤ 0 by rw [sI_wI, if_pos ⟨rfl, rfl⟩]; decide)]
    exact ⟨e1, rfl⟩
  · right
    rw [e3]
    simp only [bu_some, nx_eq]
    rw [if_pos trivial, if_pos (show sI (wI s 121 0 0) 121 0 ≤ 0 by rw [sI_wI, if_pos ⟨rfl, rfl⟩]; decide)]
    obtain ⟨f, hf⟩ : ∃ f, f = x.toInt.toNat := ⟨_, rfl⟩
    have ex : x = Int32.ofNat f := by rw [hf]; exact ofNat_of e2.1
    have hf8 : f < 8 := by omega
    have hfs : fs f = some (ho, L) := by rw [hf]; exact (fAt_s e1).2
    rw [← hf] at e4 ⊢
    obtain ⟨s4, hs4⟩ : ∃ s4, s4 = wI (wI (wI (wI s 121 0 0) 121 42 0) 121 43 k) 121 44 (-1) := ⟨_, rfl⟩
    have hc : ch (fun a q => a = 121 ∧ (q = 0 ∨ 42 ≤ q)) s s4 := by
      rw [hs4]
      exact ((((ch.refl _ s).wI ⟨rfl, Or.inl rfl⟩).wI ⟨rfl, by omega⟩).wI ⟨rfl, by omega⟩).wI ⟨rfl, by omega⟩
    obtain ⟨g1, g2⟩ := hok f ho L hfs
    have zl := zip_len (lt f) L 0
    have hWZ : WZ s4 f (zipL (lt f) L 0) ns := by
      refine ⟨fun i n q => ?_, by rw [zl]; exact e4.2.1, ⟨(hc.i (by omega)).trans hS.1, fun i hi => ⟨(hc.i (by omega)).trans (hS.2 i hi).1, fun j hj => (hc.i (by omega)).trans ((hS.2 i hi).2 j hj)⟩⟩, hn, fun n q => ?_⟩
      · obtain ⟨hi, en⟩ := zip_at (lt f) L 0 i n q
        rw [Nat.zero_add] at en
        subst en
        have := hL f hf8 ho L hfs i hi
        have rl : ∀ w, RL s f (128 * f + i) w → RL s4 f (128 * f + i) w := by
          rintro w ⟨st, b1, b2, b3, b4⟩
          exact ⟨st, (hc.i (by omega)).trans b1, (hc.i (by omega)).trans b2, b3, fun j hj => (hc.i (by omega)).trans (b4 j hj)⟩
        exact ⟨fun w hw => (hc.i (by omega)).trans (e4.2.2 i hi w hw), fun q => rl _ (this.1 q), fun q => rl _ (this.2.1 q), this.2.2⟩
      · obtain ⟨i, q⟩ := List.mem_iff_getElem?.mp q
        obtain ⟨hi, en⟩ := zip_at (lt f) L 0 i n q
        subst en
        exact g2 _ (List.getElem_mem hi)
    have hle : ∀ n ∈ zipL (lt f) L 0, arOk n.1 ∧ (leT ns n.1 n.2).length ≤ 600 := fun n q => by
      obtain ⟨i, q⟩ := List.mem_iff_getElem?.mp q
      obtain ⟨hi, en⟩ := zip_at (lt f) L 0 i n q
      rw [Nat.zero_add] at en
      subst en
      exact ⟨(g2 _ (List.getElem_mem hi)).2.1, leT_len hn _ (hlt f hf8 ho L hfs i hi).1⟩
    have hfz := zip_ft (lt f) L 0 1 g1
    have h128 := e4.2.1
    have hlen := txF_len 400 (zipL (lt f) L 0) [] hle hfz (by omega)
    have eM : (128 : Int32) * Int32.ofNat f = Int32.ofNat (128 * f + ([] : List (Nd × List Int32)).length) := by
      have := i128 (f := f) (i := 0) (by omega) (by omega)
      rw [show Int32.ofNat 0 = 0 from rfl, Int32.add_zero] at this
      exact this
    obtain ⟨s', d1, d2, d3⟩ := e233 hf8 400 (zipL (lt f) L 0) [] [] s4 hWZ hfz (by omega) (by rw [List.append_nil]; rfl)
    have W0 : WM s4 [] k := by
      rw [hs4]
      refine ⟨by decide, ?_, ?_, ?_⟩
      · rw [sI_wI, if_neg (by omega), sI_wI, if_neg (by omega), sI_wI, if_pos ⟨rfl, rfl⟩]
        rfl
      · rw [sI_wI, if_neg (by omega), sI_wI, if_pos ⟨rfl, rfl⟩]
      · rw [sI_wI, if_pos ⟨rfl, rfl⟩]
        split
        · rfl
        · rfl
    have W1 := d3 [] k W0 (by show 0 + _ < 800000; omega)
    rw [List.nil_append, List.append_nil] at W1
    rw [ex, eM, ← hs4, d1]
    simp only [bv_some]
    refine ⟨ho, L, s', ?_, ?_, ?_, ?_⟩
    · rw [← ex]
      exact e1
    · rw [W1.2.2.2]
      rfl
    · rw [d2.i (by unfold wrA; omega), hs4, sI_wI, if_neg (by omega), sI_wI, if_neg (by omega), sI_wI, if_neg (by omega), sI_wI, if_pos ⟨rfl, rfl⟩]
    · intro q
      exact (d2.2.2 148 q (by unfold wrA; omega)).2.2.trans (hc.2.2 148 q (by omega)).2.2
