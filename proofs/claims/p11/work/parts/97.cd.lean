/-! the reference's reader whole -/
def arN (d : Nd) : Nat := (d 1).toInt.toNat
def ft : List Nd → Nat → Prop
  | [], k => k = 0
  | d :: L, k => 1 ≤ k ∧ ft L (k - 1 + arN d)
set_option maxRecDepth 100000 in
theorem HF.ftt {s : aS} {e : Nat} : ∀ (L : List NN) (ids : List Nat), HF s e L ids → ids.length ≤ 128 → L.length ≤ 128 → ft (L.map (fun n => n.2.1)) ids.length
  | [], ids, h, _, _ => by
    have h : ids = [] := h
    rw [h]
    rfl
  | n :: L, ids, h, h1, h2 => by
    obtain ⟨r, ks, e1, e2, e3, e4, e5, e6⟩ := h
    have hl := HF.len L _ e6
    simp only [List.length_cons] at h2
    have := HF.ftt L _ e6 (by omega) (by omega)
    rw [e1]
    rw [List.length_append] at this hl
    refine ⟨by simp, ?_⟩
    have ea : arN n.2.1 = ks.length := by
      unfold arN
      rw [e5, iOfNat (by omega)]
      omega
    show ft (L.map (fun n => n.2.1)) ((n.1 :: r).length - 1 + arN n.2.1)
    rw [ea, List.length_cons, show r.length + 1 - 1 + ks.length = ks.length + r.length by omega]
    exact this
set_option maxRecDepth 100000 in
noncomputable def mRd (t : List Int32) (ns : List (List Int32)) : Nat ⊕ List NN := match mRun t ns 600 (0, [], [], 0, 0) with
  | .inl p => .inl p
  | .inr q => .inr (rdF 0 q.1 q.2).2
def fsRd (fs : Nat → Option Fm) (f : Nat) (h : Int32) (L : List NN) : Nat → Option Fm := fun g => if g = f then some (h, L.map (fun n => n.2.1)) else fs g
def ltRd (lt : Nat → Nat → List Int32) (f : Nat) (L : List NN) : Nat → Nat → List Int32 := fun g i => if g = f then (L.getD i dN).2.2 else lt g i
def rdA (f : Nat) (a k : Nat) : Prop := scr a k ∨ (a = 121 ∧ (k = 0 ∨ 21 ≤ k)) ∨ ((a = 125 ∨ a = 126 ∨ a = 127) ∧ k = f) ∨ ((128 ≤ a ∧ a ≤ 138) ∧ 128 * f ≤ k ∧ k < 128 * f + 128) ∨ (a = 139 ∧ 256 * f ≤ k ∧ k < 256 * f + 256)
set_option maxRecDepth 100000 in
theorem ch_wF {A : Nat → Nat → Prop} {s s' : aS} {r : Nat → Int32} {i : Nat} (h : ch scr s s') (hr : ∀ k, k ≤ 20 → k ≠ 0 → r k = sI s 121 k) (hA1 : ∀ a k, scr a k → A a k) (hA2 : ∀ k, k = 0 ∨ 21 ≤ k → A 121 k) : ch A s (wP s' r i) := by
  refine ⟨h.1, h.2.1, fun a k hk => ?_⟩
  have hns : ¬ scr a k := fun q => hk (hA1 a k q)
  refine ⟨?_, (h.2.2 a k hns).2⟩
  by_cases ha : a = 121
  · subst ha
    have k1 : ¬ (k = 0 ∨ 21 ≤ k) := fun q => hk (hA2 k q)
    rw [wP_f (by omega)]
    exact hr k (by omega) (by omega)
  · rw [wP_n ha]
    exact h.i hns
set_option maxRecDepth 100000 in
theorem HF.NR {s : aS} {e : Nat} : ∀ (L : List NN) (ids : List Nat), HF s e L ids → ∀ n ∈ L, n = n ∧ NR s e n
  | [], _, _, n, hn => by cases hn
  | m :: L, ids, h, n, hn => by
    obtain ⟨r, ks, e1, e2, e3, e4, e5, e6⟩ := h
    rcases List.mem_cons.mp hn with q | q
    · exact ⟨rfl, q ▸ e3⟩
    · exact HF.NR L _ e6 n q
set_option maxRecDepth 100000 in
theorem d184 {s : aS} {t : List Int32} {ns : List (List Int32)} {fs : Nat → Option Fm} {lt : Nat → Nat → List Int32} (hT : MT s t) (hl : t.length ≤ 256) (hok : okT t) (hS : SM s ns) (hn : nsOk ns) (hM : MM s fs) (hLt : MLt s fs lt) (h147 : (sT s 147).2 = 256) (h122 : (sT s 122).2 = 256) (x1 x2 : Int32) :
    (¬ ((0 ≤ x1.toInt ∧ x1.toInt < 8) ∧ 0 ≤ x2.toInt ∧ x2.toInt < ns.length) ∧ dm184 x1 x2 s = some (0, wI s 121 0 1)) ∨
    (((0 ≤ x1.toInt ∧ x1.toInt < 8) ∧ 0 ≤ x2.toInt ∧ x2.toInt < ns.length) ∧ ((∃ p s', mRd t ns = .inl p ∧ p ≤ t.length ∧ dm184 x1 x2 s = some (Int32.ofNat p, s') ∧ sI s' 121 0 = 0 ∧ MM s' fs ∧ MLt s' fs lt ∧ ch (rdA x1.toInt.toNat) s s') ∨ ∃ L s', mRd t ns = .inr L ∧ ft (L.map (fun n => n.2.1)) 1 ∧ L.length ≤ 128 ∧ dm184 x1 x2 s = some (-1, s') ∧ sI s' 121 0 = 0 ∧ MM s' (fsRd fs x1.toInt.toNat x2 L) ∧ MLt s' (fsRd fs x1.toInt.toNat x2 L) (ltRd lt x1.toInt.toNat L) ∧ ch (rdA x1.toInt.toNat) s s')) := by
  have l1 : x1 < 0 ↔ x1.toInt < 0 := iLt
  have l2 : 7 < x1 ↔ 7 < x1.toInt := iLt
  have bad : dm184_10 x1 x2 s = some (0, wI s 121 0 1) := by
    unfold dm184_10 dm184_13
    simp only [nx_eq]
    rw [if_neg (show ¬ sI (wI s 121 0 1) 121 0 ≤ 0 by rw [sI_wI, if_pos ⟨rfl, rfl⟩]; decide)]
  unfold dm184
  by_cases c1 : x1 < 0
  · left
    rw [if_pos c1]
    exact ⟨fun q => by have := l1.mp c1; omega, bad⟩
  · rw [if_neg c1]
    have c1 : ¬ x1.toInt < 0 := fun q => c1 (l1.mpr q)
    by_cases c2 : 7 < x1
    · left
      rw [if_pos c2]
      exact ⟨fun q => by have := l2.mp c2; omega, bad⟩
    · rw [if_neg c2]
      have c2 : ¬ 7 < x1.toInt := fun q => c2 (l2.mpr q)
      rw [d181 hS hn.1 x2]
      simp only [bu_some]
      by_cases c3 : 0 ≤ x2.toInt ∧ x2.toInt < ns.length
      · right
        refine ⟨⟨⟨by omega, by omega⟩, c3⟩, ?_⟩
        rw [b01_f (fun q => q c3), if_pos (show (0 : Int32) = 0 from rfl)]
        obtain ⟨f, hf⟩ : ∃ f, f = x1.toInt.toNat := ⟨_, rfl⟩
        have hf8 : f < 8 := by omega
        have ex1 : x1 = Int32.ofNat f := by rw [hf]; exact ofNat_of (by omega)
        rw [← hf]
        let R : Nat → Int32 := setN (setN (setN (setN (setN (setN (setN (setN (setN (setN (fun k => sI s 121 k) 0 0) 21 0) 29 0) 32 0) 33 0) 34 (-1)) 35 0) 36 1) 27 0) 26 0
        have e0 : dm184_13 x1 x2 0 s = dm184_48 5000 x1 x2 1 (wP s R 0) := by
          unfold dm184_13
          simp only [nx_eq]
          rw [if_pos (show sI (wI s 121 0 0) 121 0 ≤ 0 by rw [sI_wI, if_pos ⟨rfl, rfl⟩]; decide)]
          congr 1
          have : s = wF s (fun k => sI s 121 k) := (wF_id s).symm
          have e9 : wP s R 0 = wF s R := by
            unfold wP
            rw [setN_id (show R 26 = Int32.ofNat 0 from rfl)]
          rw [e9]
          conv => lhs; rw [this]
          rw [wI_wF, wI_wF, wI_wF, wI_wF, wI_wF, wI_wF, wI_wF, wI_wF, wI_wF, wI_wF]
        have hR : ∀ k, k ≤ 20 → k ≠ 0 → R k = sI s 121 k := by
          intro k h1 h2
          show setN (setN (setN (setN (setN (setN (setN (setN (setN (setN (fun k => sI s 121 k) 0 0) 21 0) 29 0) 32 0) 33 0) 34 (-1)) 35 0) 36 1) 27 0) 26 0 k = _
          unfold setN
          rw [if_neg (by omega), if_neg (by omega), if_neg (by omega), if_neg (by omega), if_neg (by omega), if_neg (by omega), if_neg (by omega), if_neg (by omega), if_neg (by omega), if_neg (by omega)]
        have hTX : TX s R t := ⟨hl, (hR 1 (by decide) (by decide)).trans hT.1, hT.2⟩
        have hG0 : GM s R 0 [] [] := ⟨⟨rfl, by decide⟩, rfl, ⟨rfl, by decide⟩, trivial, trivial, fun g hg => (by cases hg), ⟨List.nodup_nil, fun k hk => (by cases hk)⟩, Or.inl ⟨rfl, rfl⟩⟩
        have hLI : LI s R t ns (0, [], [], 0, 0) := ⟨hTX, hG0, hok, Nat.zero_le _, rfl, rfl, rfl, rfl, h147, ⟨⟨(hR 3 (by decide) (by decide)).trans hS.1, hS.2⟩, hn, h122⟩, fun q => (by cases q), fun _ => ⟨rfl, fun q => absurd q (by decide)⟩, fun q => (by cases q)⟩
        have main := d184r (x1 := x1) (x2 := x2) 599 (0, [], [], 0, 0) 5000 s R hLI (by unfold muS; show 2 * (t.length - 0) + 1 ≤ 599; omega) (by omega)
        rw [e0]
        unfold mRd
        cases hq : mRun t ns 600 (0, [], [], 0, 0) with
        | inl p =>
          rw [hq] at main
          obtain ⟨s', r', d1, d2, d3, d4⟩ := main
          left
          have hc : ch (rdA f) s (wP s' r' p) := ch_wF d3 (fun k h1 h2 => (d2 k h1).trans (hR k h1 h2)) (fun a k z => Or.inl z) (fun k z => Or.inr (Or.inl ⟨rfl, z⟩))
          have hc2 : ch (fun a k => scr a k ∨ (a = 121 ∧ (k = 0 ∨ 21 ≤ k))) s (wP s' r' p) := ch_wF d3 (fun k h1 h2 => (d2 k h1).trans (hR k h1 h2)) (fun a k z => Or.inl z) (fun k z => Or.inr ⟨rfl, z⟩)
          refine ⟨p, wP s' r' p, rfl, d4, d1, (wP_f (by decide)).trans (d2 0 (by decide)), fun g hg => ⟨fun z => (hc2.i (by unfold scr; omega)).trans ((hM g hg).1 z), fun h L z => ?_⟩, fun g hg h L z i hi => ?_, hc⟩
          · obtain ⟨m1, m2, m3, m4, m5⟩ := (hM g hg).2 h L z
            exact ⟨(hc2.i (by unfold scr; omega)).trans m1, (hc2.i (by unfold scr; omega)).trans m2, (hc2.i (by unfold scr; omega)).trans m3, m4, fun i hi w hw => (hc2.i (by unfold scr; omega)).trans (m5 i hi w hw)⟩
          · have := hLt g hg h L z i hi
            have hlen := ((hM g hg).2 h L z).2.2.2.1
            have rl : ∀ w, RL s g (128 * g + i) w → RL (wP s' r' p) g (128 * g + i) w := by
              rintro w ⟨st, b1, b2, b3, b4⟩
              exact ⟨st, (hc2.i (by unfold scr; omega)).trans b1, (hc2.i (by unfold scr; omega)).trans b2, b3, fun j hj => (hc2.i (by unfold scr; omega)).trans (b4 j hj)⟩
            exact ⟨fun q => rl _ (this.1 q), fun q => rl _ (this.2.1 q), this.2.2⟩
        | inr q =>
          rw [hq] at main
          obtain ⟨s1, r1, j, d1, d2, d3, d4, d5, d6, d7, d8⟩ := main
          right
          obtain ⟨s2, r2, b1, b2, b3, b4, b5⟩ := d190 (i := j) (x1 := 0) d2 d3
          have hF0 : (rdF 0 q.1 q.2).1 = [] := by
            rcases rd_in q.1 q.2 with ⟨y, -, -⟩ | ⟨f9, F0, -, -, -, -, y⟩
            · exact y
            · omega
          rw [hF0] at b2
          obtain ⟨c, w1, w2, w3, w4⟩ := b2.2.2.2.2.2.2.2.resolve_left (fun y => b3 y.1)
          have w3 : sI s2 144 0 = Int32.ofNat c := w3
          have hnd : (idL (rdF 0 q.1 q.2).2).Nodup := b2.2.2.2.2.2.2.1.1
          have h8 : (rdF 0 q.1 q.2).2.length ≤ 128 := b2.1.2
          generalize hLq : (rdF 0 q.1 q.2).2 = L at *
          have hs1 : sI (wP s2 r2 j) 121 1 = Int32.ofNat t.length := (wP_f (by decide)).trans ((b4 1 (by decide) (by decide)).trans ((d7 1 (by decide)).trans hTX.2.1))
          have pzW : PZ s2 (wP s2 r2 j) j (idL L) := ⟨fun _ _ => wP_n (by decide), fun k _ => ⟨⟨fun w hw => wP_n (by omega), wP_n (by decide)⟩, wP_n (by decide), wP_n (by decide)⟩⟩
          obtain ⟨s3, g1, g2, g3, g4, g5⟩ := d222 (c := c) (tl := t.length) hf8 hl hs1 (pzW.hf (Nat.le_refl _) w1 hnd) hnd h8
          have hsc : ch scr s s2 := d8.trans (rch_scr b5)
          have hcW : ch (rdA f) s (wP s2 r2 j) := ch_wF hsc (fun k h1 h2 => (b4 k (by omega) (by omega)).trans ((d7 k h1).trans (hR k h1 h2))) (fun a k z => Or.inl z) (fun k z => Or.inr (Or.inl ⟨rfl, z⟩))
          have hc3 : ch (rdA f) s s3 := hcW.trans (g5.mono fun a k z => by unfold rdA scr; omega)
          have e1a : (1 : Int32) &&& 1 = 1 := by decide
          have hcE : ch (rdA f) s (wI (wI s3 125 f 1) 126 f x2) := (hc3.wI (by unfold rdA; omega)).wI (by unfold rdA; omega)
          have far : ∀ g, g < 8 → g ≠ f → ∀ a k, (a = 125 ∧ k = g) ∨ (a = 126 ∧ k = g) ∨ (a = 127 ∧ k = g) ∨ ((128 ≤ a ∧ a ≤ 138) ∧ 128 * g ≤ k ∧ k < 128 * g + 128) ∨ (a = 139 ∧ 256 * g ≤ k ∧ k < 256 * g + 256) → sI (wI (wI s3 125 f 1) 126 f x2) a k = sI s a k := by
            intro g hg hgf a k hk
            refine hcE.i ?_
            unfold rdA scr
            omega
          refine ⟨L, wI (wI s3 125 f 1) 126 f x2, by show (Sum.inr (rdF 0 q.1 q.2).2 : Nat ⊕ List NN) = .inr L; rw [hLq], HF.ftt L [c] w1 (by show 1 ≤ 128; decide) h8, h8, ?_, ?_, fun g hg => ⟨fun z => ?_, fun h M z => ?_⟩, fun g hg h M z i hi => ?_, hcE⟩
          · rw [d1]
            unfold dm184_101
            rw [wP_f (by decide), d6, if_pos rfl, b1]
            simp only [bu_some]
            rw [if_pos (by decide), show jN 0 = 0 from rfl, wP_n (by decide), w3, ex1, g1]
            simp only [bu_some, if_pos (aB_of (n := 8) hf8 (by decide)), jN_of (show f < 2147483648 by omega), nx_eq, e1a]
          · rw [sI_wI, if_neg (by omega), sI_wI, if_neg (by omega), g5.i (by omega), wP_f (by decide), b4 0 (by decide) (by decide), d7 0 (by decide)]
            rfl
          · have z : (if g = f then some (x2, L.map (fun n => n.2.1)) else fs g) = none := z
            by_cases gf : g = f
            · rw [if_pos gf] at z; cases z
            · rw [if_neg gf] at z
              rw [far g hg gf 125 g (by omega)]
              exact (hM g hg).1 z
          · have z : (if g = f then some (x2, L.map (fun n => n.2.1)) else fs g) = some (h, M) := z
            by_cases gf : g = f
            · rw [if_pos gf] at z
              cases z
              subst gf
              refine ⟨by rw [sI_wI, if_neg (by omega), sI_wI, if_pos ⟨rfl, rfl⟩], by rw [sI_wI, if_pos ⟨rfl, rfl⟩], ?_, by rw [List.length_map]; exact h8, fun i hi w hw => ?_⟩
              · rw [sI_wI, if_neg (by omega), sI_wI, if_neg (by omega), List.length_map]
                exact g2
              · rw [List.length_map] at hi
                rw [sI_wI, if_neg (by omega), sI_wI, if_neg (by omega), g3 i hi w (by omega), wP_n (by omega), List.getElem_map]
                exact (HF.NR L _ w1 L[i] (List.getElem_mem hi)).2.1 w hw
            · rw [if_neg gf] at z
              obtain ⟨m1, m2, m3, m4, m5⟩ := (hM g hg).2 h M z
              exact ⟨(far g hg gf 125 g (by omega)).trans m1, (far g hg gf 126 g (by omega)).trans m2, (far g hg gf 127 g (by omega)).trans m3, m4, fun i hi w hw => (far g hg gf (128 + w) (128 * g + i) (by omega)).trans (m5 i hi w hw)⟩
          · have z : (if g = f then some (x2, L.map (fun n => n.2.1)) else fs g) = some (h, M) := z
            by_cases gf : g = f
            · rw [if_pos gf] at z
              cases z
              subst gf
              rw [List.length_map] at hi
              have elt : ltRd lt g L g i = L[i].2.2 := by
                show (if g = g then (L.getD i dN).2.2 else lt g i) = _
                rw [if_pos rfl, List.getD, List.getElem?_eq_getElem hi]
                rfl
              rw [elt, List.getElem_map]
              have hN := (HF.NR L _ w1 L[i] (List.getElem_mem hi)).2.2
              have rl : ∀ w, RLe s2 j (1024 + L[i].1) w → RL (wI (wI s3 125 g 1) 126 g x2) g (128 * g + i) w := by
                rintro w ⟨st, y1, y2, y3, y4⟩
                refine ⟨st, ?_, ?_, by omega, fun k hk => ?_⟩
                · rw [sI_wI, if_neg (by omega), sI_wI, if_neg (by omega)]
                  have := g3 i hi 9 (by decide)
                  rw [this, wP_n (by omega)]
                  exact y1
                · rw [sI_wI, if_neg (by omega), sI_wI, if_neg (by omega)]
                  have := g3 i hi 10 (by decide)
                  rw [this, wP_n (by omega)]
                  exact y2
                · rw [sI_wI, if_neg (by omega), sI_wI, if_neg (by omega), show 256 * g + st + k = 256 * g + (st + k) by omega, g4 (st + k) (by omega), wP_n (by decide), show 2048 + (st + k) = 2048 + st + k by omega]
                  exact y4 k hk
              exact ⟨fun y => rl _ (hN.1 y), fun y => rl _ (hN.2.1 y), hN.2.2⟩
            · rw [if_neg gf] at z
              have hlen := ((hM g hg).2 h M z).2.2.2.1
              have := hLt g hg h M z i hi
              have elt : ltRd lt f L g i = lt g i := if_neg gf
              rw [elt]
              have rl : ∀ w, RL s g (128 * g + i) w → RL (wI (wI s3 125 f 1) 126 f x2) g (128 * g + i) w := by
                rintro w ⟨st, y1, y2, y3, y4⟩
                exact ⟨st, (far g hg gf 137 _ (by omega)).trans y1, (far g hg gf 138 _ (by omega)).trans y2, y3, fun k hk => (far g hg gf 139 _ (by omega)).trans (y4 k hk)⟩
              exact ⟨fun y => rl _ (this.1 y), fun y => rl _ (this.2.1 y), this.2.2⟩
      · left
        refine ⟨fun q => c3 q.2, ?_⟩
        rw [b01_t c3, if_neg (by decide)]
        exact bad
