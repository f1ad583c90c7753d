section
/-! percent, commas, brackets closed, in the reference -/
set_option maxRecDepth 100000 in
theorem GM.wrap {s s2 : aS} {r r' : Nat → Int32} {e m : Nat} {F : List Fw} {cur : List NN} {U : NN} (h : GM s r e F cur) (hm : (fl F ++ cur).length = m) (h8 : m < 128) (hU : U.1 = m) (hH : HF s2 e (U :: cur) [m]) (hp : PZ s s2 e (idL (fl F))) (h2 : sI s2 142 m = -1) (hst : ∀ a, 144 ≤ a → a ≤ 146 → ∀ q, sI s2 a q = sI s a q) (h21 : r' 21 = Int32.ofNat (m + 1)) (h32 : r' 32 = r 32) (h33 : r' 33 = r 33) (h29 : r' 29 = Int32.ofNat (nT F + 1)) : GM (wI s2 144 (nT F) (Int32.ofNat m)) r' e F (U :: cur) := by
  obtain ⟨q1, q2, q3⟩ := h.fresh hm
  obtain ⟨a1, a2, a3, a4, a5, a6, a7, a8⟩ := h
  have hnn := a7.1
  rw [idL_ap, List.nodup_append] at hnn
  have el : (fl F ++ (U :: cur)).length = m + 1 := by
    rw [← hm]
    simp only [List.length_append, List.length_cons]
    omega
  have ei : idL (fl F ++ (U :: cur)) = idL (fl F) ++ m :: idL cur := by rw [idL_ap, ← hU]; rfl
  have hnd : (idL (U :: cur)).Nodup := by
    show (U.1 :: idL cur).Nodup
    rw [hU, List.nodup_cons]
    exact ⟨fun q => q3 m q rfl, hnn.2.1⟩
  have pz : ∀ I, PZ s2 (wI s2 144 (nT F) (Int32.ofNat m)) e I := fun I => PZ.st (by decide)
  refine ⟨⟨by rw [el]; exact h21, by rw [el]; omega⟩, h32.trans a2, ⟨h33.trans a3.1, a3.2⟩, WS.of F a4 (fun q _ => ⟨?_, ?_⟩), TS.of F a5 (fun q hq => ?_), FrAll.of a6 hnn.1 (hp.trans (pz _)) (Nat.le_refl _), ⟨?_, ?_⟩, Or.inr ⟨m, (pz _).hf (Nat.le_refl _) hH hnd, ?_, ?_, h29⟩⟩
  · rw [sI_wI, if_neg (by omega)]
    exact hst 145 (by decide) (by decide) q
  · rw [sI_wI, if_neg (by omega)]
    exact hst 146 (by decide) (by decide) q
  · rw [sI_wI, if_neg (by omega)]
    exact hst 144 (by decide) (by decide) q
  · rw [ei]
    refine nodup_ins (by rw [← idL_ap]; exact a7.1) ?_
    rw [← idL_ap]
    exact q1
  · rw [ei, el]
    intro k hk
    rcases List.mem_append.mp hk with z | z
    · have := a7.2 k (by rw [idL_ap]; exact List.mem_append_left _ z)
      omega
    · rcases List.mem_cons.mp z with z | z
      · omega
      · have := a7.2 k (by rw [idL_ap]; exact List.mem_append_right _ z)
        omega
  · rw [sI_wI, if_neg (by omega)]
    exact h2
  · rw [sI_wI, if_pos ⟨rfl, rfl⟩]
set_option maxRecDepth 100000 in
theorem mk_new (s : aS) (e m : Nat) (x : Int32) : ch (newA e m) s (mkN s m x) := (mk_c s m x).mono fun a k z => by unfold newA; omega
set_option maxRecDepth 100000 in
theorem mk_NR {s : aS} {e m : Nat} {x : Int32} (hx : ¬ (x = 0 ∨ x = 1 ∨ x = 6 ∨ x = 7)) : NR (mkN s m x) e (m, plF x 0, []) := by
  refine ⟨fun w hw => mk_w (by omega), ?_, ?_, fun _ => rfl⟩
  · intro q
    have q : x = 0 ∨ x = 6 ∨ x = 7 := q
    exact absurd (by rcases q with q | q | q; exact Or.inl q; exact Or.inr (Or.inr (Or.inl q)); exact Or.inr (Or.inr (Or.inr q))) hx
  · intro q
    have q : x = 1 := q
    exact absurd (Or.inr (Or.inl q)) hx
/-- the node of a percent -/
def pcN (m : Nat) : NN := (m, setN (plF 9 0) 1 (Int32.ofNat 1), [])
set_option maxRecDepth 100000 in
theorem d216p {s : aS} {r : Nat → Int32} {e i m : Nat} {F : List Fw} {cur : List NN} (h : GM s r e F cur) (hcur : cur ≠ []) (hm : (fl F ++ cur).length = m) (h8 : m < 128) : ∃ s' r', (∀ (K : aS → Option aS), (bv (dm187 9 (wP s r i)) fun r6 s5 => bv (dm192 s5) fun r10 s9 => bu (dm193 r6 r10 s9) fun s13 => bu (dm194 r6 s13) K) = K (wP s' r' i)) ∧ GM s' r' e F (pcN m :: cur) ∧ (∀ k, k ≠ 21 → k ≠ 29 → r' k = r k) ∧ ch (fun a k => ((128 ≤ a ∧ a ≤ 138) ∧ 1024 ≤ k) ∨ (140 ≤ a ∧ a ≤ 147)) s s' := by
  obtain ⟨q1, q2, q3⟩ := h.fresh hm
  have hG := h
  obtain ⟨a1, a2, a3, a4, a5, a6, a7, a8⟩ := h
  obtain ⟨c, c1, c2, c3, c4⟩ := a8.resolve_left (fun q => hcur q.1)
  have hnn := a7.1
  rw [idL_ap, List.nodup_append] at hnn
  have hcm : c ∈ idL cur := HF.sub _ _ c1 c List.mem_cons_self
  have hcl : c < 128 := by
    have := a7.2 c (by rw [idL_ap]; exact List.mem_append_right _ hcm)
    omega
  have hcc : c ≠ m := q3 c hcm
  have hfb := fl_b F
  have hlc : (fl F ++ cur).length = (fl F).length + cur.length := List.length_append
  have pz1 : PZ s (mkN s m 9) e (idL (fl F)) := PZ.new (mk_new s e m 9) q2
  have pz2 : PZ s (mkN s m 9) e (idL cur) := PZ.new (mk_new s e m 9) q3
  have k144 : sI (mkN s m 9) 144 (nT F) = sI s 144 (nT F) := (mk_c s m 9).i (by omega)
  obtain ⟨s1, d1, d2, d3, d4, d5, d6⟩ := d193 (s := mkN s m 9) (roots := []) h8 hcl (mk_k (Or.inl rfl)) (fun ks q z => by cases ks <;> cases z) (mk_w (w := 1) (by decide)) (by simp) List.nodup_nil (by simp) (((pz2.2 c hcm).2.2).trans c2)
  have d6 : ch (attA m []) (mkN s m 9) s1 := d6
  have hH := (HF.att (C := []) (roots := []) (l := []) h8 (mk_NR (s := s) (e := e) (m := m) (x := 9) (by decide)) (rfl : HF (mkN s m 9) e [] []) (pz2.hf (Nat.le_refl _) c1 hnn.2.1) (by rw [List.nodup_cons]; exact ⟨fun q => q3 m q rfl, hnn.2.1⟩) d6 d4 d2).1
  refine ⟨wI s1 144 (nT F) (Int32.ofNat m), setN (setN (setN r 21 (Int32.ofNat (m + 1))) 29 (Int32.ofNat (nT F))) 29 (Int32.ofNat (nT F + 1)), fun K => ?_, ?_, fun k k1 k2 => ?_, ?_⟩
  · rw [d187 (m := m) (by rw [← hm]; exact a1.1) h8]
    simp only [bv_some]
    rw [d192 (c := nT F) (show setN r 21 (Int32.ofNat (m + 1)) 29 = Int32.ofNat (nT F + 1) from c4) (by omega), k144, c3]
    simp only [bv_some]
    rw [d1]
    simp only [bu_some]
    rw [d194 (c := nT F) rfl (by omega)]
    rfl
  · refine GM.wrap (U := pcN m) hG hm h8 rfl hH (pz1.trans (PZ.att d6 fun k hk => ⟨q2 k hk, by simp⟩)) ((att_n d6 (by simp)).trans (mk_k (Or.inr (Or.inr rfl)))) (fun a b1 b2 q => (att_st d6 (by omega)).trans ((mk_c s m 9).i (by omega))) rfl rfl rfl rfl
  · unfold setN
    rw [if_neg k2, if_neg k2, if_neg k1]
  · exact (((mk_c s m 9).mono fun a k z => by omega).trans (d6.mono fun a k z => by unfold attA at z; omega)).wI (by omega)
set_option maxRecDepth 100000 in
theorem rk0 (x : Int32) : ¬ rkM x < 0 := by
  unfold rkM
  repeat' split
  all_goals decide
def inM : List Fw → Int32
  | [] => -1
  | f :: F => if f.1 = 100 ∨ f.1 = 7 then f.1 else inM F
set_option maxRecDepth 100000 in
theorem rd_in : ∀ (F : List Fw) (cur : List NN), ((rdF 0 F cur).1 = [] ∧ inM F = -1 ∧ nO F = 0) ∨ ∃ f F0, (rdF 0 F cur).1 = f :: F0 ∧ (f.1 = 100 ∨ f.1 = 7) ∧ inM F = f.1 ∧ f ∈ F ∧ nO F = nO F0 + 1
  | [], cur => Or.inl ⟨rfl, rfl, rfl⟩
  | f :: F, cur => by
    by_cases g : f.1 = 100 ∨ f.1 = 7
    · right
      refine ⟨f, F, ?_, g, if_pos g, List.mem_cons_self, ?_⟩
      · have : rdF 0 (f :: F) cur = (f :: F, cur) := if_pos (by rcases g with q | q; exact Or.inl q; exact Or.inr (Or.inl q))
        rw [this]
      · show nO F + (if f.1 = 100 ∨ f.1 = 7 then 1 else 0) = nO F + 1
        rw [if_pos g]
    · have e : rdF 0 (f :: F) cur = rdF 0 F (upN f :: (f.2.2.1 ++ cur)) := if_neg (by
        rintro (q | q | q)
        · exact g (Or.inl q)
        · exact g (Or.inr q)
        · exact rk0 _ q)
      have e2 : inM (f :: F) = inM F := if_neg g
      have e3 : nO (f :: F) = nO F := by
        show nO F + (if f.1 = 100 ∨ f.1 = 7 then 1 else 0) = nO F
        rw [if_neg g]
        rfl
      rw [e, e2, e3]
      rcases rd_in F (upN f :: (f.2.2.1 ++ cur)) with q | ⟨f', F0, q1, q2, q3, q4, q5⟩
      · exact Or.inl q
      · exact Or.inr ⟨f', F0, q1, q2, q3, List.mem_cons_of_mem _ q4, q5⟩
set_option maxRecDepth 100000 in
theorem d220l {s : aS} {r : Nat → Int32} {i : Nat} : ∀ (F : List Fw) (n : Nat), WS s F → F.length < 300 → F.length < n → dm220_5 n (Int32.ofNat F.length - 1) (wP s r i) = some (inM F) := by
  intro F
  induction F with
  | nil =>
    intro n h h3 hn
    obtain ⟨n, rfl⟩ : ∃ q, n = q + 1 := ⟨n - 1, by simp only [List.length_nil] at hn; omega⟩
    show dm220_5 (n + 1) (-1) (wP s r i) = some (-1)
    rw [dm220_5, if_pos (by decide)]
    unfold dm220_21
    rw [if_neg (by decide)]
  | cons f F ih =>
    intro n h h3 hn
    obtain ⟨n, rfl⟩ : ∃ q, n = q + 1 := ⟨n - 1, by simp only [List.length_cons] at hn; omega⟩
    simp only [List.length_cons] at hn h3
    have bF : aB (Int32.ofNat F.length) 300 := aB_of (by omega) (by omega)
    have jF : jN (Int32.ofNat F.length) = F.length := jN_of (by omega)
    have es : Int32.ofNat (F.length + 1) - 1 = Int32.ofNat F.length := ofNat_sub1 (n := F.length + 1) (by omega) (by omega)
    have p0 : ¬ Int32.ofNat F.length < 0 := fun q => by
      have := (nlt_iff (b := 0) (by omega) (by omega)).mp q
      omega
    have p1 : (0 : Int32) ≤ Int32.ofNat F.length := (nle_iff (a := 0) (by omega) (by omega)).mpr (Nat.zero_le _)
    have w1 : sI s 145 F.length = f.1 := h.1
    show dm220_5 (n + 1) (Int32.ofNat (F.length + 1) - 1) (wP s r i) = some (if f.1 = 100 ∨ f.1 = 7 then f.1 else inM F)
    rw [dm220_5, es]
    unfold dm220_21
    simp only [if_neg p0, if_pos p1, if_pos bF, jF, wP_n (show (145 : Nat) ≠ 121 by decide), w1]
    by_cases g1 : f.1 = 100
    · rw [if_pos g1, if_pos (Or.inl g1)]
    · rw [if_neg g1]
      by_cases g2 : f.1 = 7
      · rw [if_pos g2, if_pos (Or.inr g2)]
      · rw [if_neg g2, if_neg (by rintro (q | q); exact g1 q; exact g2 q)]
        have e2 : Int32.ofNat F.length + (-1) = Int32.ofNat F.length - 1 := by rw [Int32.sub_eq_add_neg]
        rw [e2]
        exact ih n h.2.2 (by omega) (by omega)
set_option maxRecDepth 100000 in
theorem GM.fb {s : aS} {r : Nat → Int32} {e : Nat} {F : List Fw} {cur : List NN} (h : GM s r e F cur) : F.length ≤ 160 ∧ nT F ≤ 128 ∧ (fl F ++ cur).length ≤ 128 := by
  have hfb := fl_b F
  have a1 := h.1.2
  have hlc : (fl F ++ cur).length = (fl F).length + cur.length := List.length_append
  have hO := h.2.2.1.2
  omega
set_option maxRecDepth 100000 in
theorem d220 {s : aS} {r : Nat → Int32} {i e : Nat} {F : List Fw} {cur : List NN} (h : GM s r e F cur) : dm220 (wP s r i) = some (inM F) := by
  have hb := h.fb
  have a2 : r 32 = Int32.ofNat F.length := h.2.1
  unfold dm220
  rw [wP_f (by decide), a2]
  exact d220l F 5000 h.2.2.2.1 (by omega) (by omega)
end
section
/-! commas and closed brackets, in the reference -/
def scr (a k : Nat) : Prop := ((128 ≤ a ∧ a ≤ 138) ∧ 1024 ≤ k) ∨ (a = 139 ∧ 2048 ≤ k) ∨ (140 ≤ a ∧ a ≤ 147)
def hdI : List NN → Nat
  | [] => 0
  | n :: _ => n.1
set_option maxRecDepth 100000 in
theorem hf_hd {s : aS} {e c : Nat} : ∀ (L : List NN), HF s e L [c] → hdI L = c
  | [], h => by
    have h : ([c] : List Nat) = [] := h
    cases h
  | n :: L, h => by
    obtain ⟨r, ks, e1, -⟩ := h
    cases e1
    rfl
def cmF (f : Fw) (cur : List NN) : Fw := (f.1, upN f, f.2.2.1 ++ cur, f.2.2.2 ++ [hdI cur])
set_option maxRecDepth 100000 in
/-- a further argument of a call -/
theorem d221c {s : aS} {r : Nat → Int32} {e i : Nat} {F : List Fw} {f : Fw} {cur : List NN} (h : GM s r e (f :: F) cur) (hc : cur ≠ []) (h7 : f.1 = 7) : ∃ c s', r 29 = Int32.ofNat (nT F + 1) ∧ sI s 144 (nT F) = Int32.ofNat c ∧ sI s 146 F.length = Int32.ofNat f.2.1.1 ∧ f.2.1.1 < 128 ∧ sI s 129 (1024 + f.2.1.1) = Int32.ofNat f.2.2.2.length ∧ f.2.2.2.length ≤ 128 ∧ (∀ r2, dm193 (Int32.ofNat f.2.1.1) (Int32.ofNat c) (wP s r2 i) = some (wP s' r2 i)) ∧ HF s' e (upN f :: (f.2.2.1 ++ cur)) [f.2.1.1] ∧ PZ s s' e (idL (fl F)) ∧ sI s' 142 f.2.1.1 = -1 ∧ (∀ a, 143 ≤ a → ∀ q, sI s' a q = sI s a q) ∧ ch scr s s' ∧ (∀ r', r' 21 = r 21 → r' 29 = Int32.ofNat (nT F) → r' 32 = Int32.ofNat (F.length + 1) → r' 33 = r 33 → GM s' r' e (cmF f cur :: F) []) := by
  have h100 : f.1 ≠ 100 := by rw [h7]; decide
  obtain ⟨n1, n2, n3⟩ := h.ids h100
  have hG := h
  obtain ⟨a1, a2, a3, a4, a5, a6, a7, a8⟩ := h
  obtain ⟨-, f1, f2, f3, f4, f5, f6⟩ : f.1 ≠ 100 ∧ f.2.1.2.1 0 = f.1 ∧ f.2.1.1 < 128 ∧ NR s e f.2.1 ∧ HF s e f.2.2.1 f.2.2.2 ∧ sI s 142 f.2.1.1 = -1 ∧ _ := (a6 f List.mem_cons_self).resolve_left (fun q => h100 q.1)
  obtain ⟨c, c1, c2, c3, c4⟩ : ∃ c, HF s e cur [c] ∧ sI s 142 c = -1 ∧ sI s 144 (nT (f :: F)) = Int32.ofNat c ∧ r 29 = Int32.ofNat (nT (f :: F) + 1) := a8.resolve_left (fun q => hc q.1)
  obtain ⟨-, g2, g3, g4⟩ : f.1 = 7 ∧ f.2.1.2.1 1 = Int32.ofNat f.2.2.2.length ∧ nch s (sI s 140 f.2.1.1) f.2.2.2 ∧ ∀ ks q, f.2.2.2 = ks ++ [q] → sI s 141 f.2.1.1 = Int32.ofNat q := by
    rcases f6 with q | ⟨q, -⟩ | ⟨q, -⟩
    · exact q
    · rw [h7] at q; exact absurd q (by decide)
    · rw [h7] at q; unfold isB at q; exact absurd q (by decide)
  have nB : ¬ isB f.1 := by rw [h7]; unfold isB; decide
  have nt : nT (f :: F) = nT F := by
    show nT F + (if b01 (isB f.1) = 0 then 0 else 1) = nT F
    rw [if_pos (b01_ne.mpr nB)]
    rfl
  rw [nt] at c3 c4
  have n2b := n2
  rw [List.nodup_cons] at n2b
  have n2c := List.nodup_append.mp n2b.2
  have hcm : c ∈ idL cur := HF.sub _ _ c1 c List.mem_cons_self
  have hcl : c < 128 := by
    have : c ∈ idL (fl (f :: F) ++ cur) := by rw [idL_ap]; exact List.mem_append_right _ hcm
    have := a7.2 c this
    omega
  have hnr : f.2.2.2.Nodup := HF.nd _ _ f4 n2c.1
  have hcr : c ∉ f.2.2.2 := fun q => n2c.2.2 c (HF.sub _ _ f4 c q) c hcm rfl
  have hlen : f.2.2.2.length ≤ 128 := by
    have hsub : f.2.2.2.length ≤ (idL f.2.2.1).length := by
      have key : ∀ (L : List NN) (ids : List Nat), HF s e L ids → ids.length ≤ L.length := by
        intro L
        induction L with
        | nil =>
          intro ids q
          have q : ids = [] := q
          rw [q]
          exact Nat.le_refl _
        | cons n L ih =>
          intro ids q
          obtain ⟨r, ks, e1, e2, e3, e4, e5, e6⟩ := q
          have := ih _ e6
          rw [e1]
          simp only [List.length_append, List.length_cons] at this ⊢
          omega
      unfold idL
      rw [List.length_map]
      exact key _ _ f4
    have e1 : (fl (f :: F) ++ cur).length = (fl F).length + (f.2.2.1.length + 1) + cur.length := by
      rw [fl_c h100]
      simp only [List.length_append, List.length_cons]
    have e2 : (idL f.2.2.1).length = f.2.2.1.length := List.length_map ..
    omega
  have hkd : sI s 129 (1024 + f.2.1.1) = Int32.ofNat f.2.2.2.length := (f3.1 1 (by decide)).trans g2
  have hpr : f.2.1.1 ∉ f.2.2.2 := fun q => n2b.1 (List.mem_append_left _ (HF.sub _ _ f4 _ q))
  obtain ⟨s', d1, d2, d3, d4, d5, d6⟩ := d193 f2 hcl g3 g4 hkd (by omega) hnr hcr c2
  have d6 : ch (attA f.2.1.1 f.2.2.2) s s' := d6
  have hH := HF.att (l := f.2.1.2.2) f2 f3 f4 c1 n2 d6 d4 d2
  have hnp : ∀ k ∈ idL (fl F), k ≠ f.2.1.1 := fun k hk q => n3 k hk (q ▸ List.mem_cons_self)
  have hnC : ∀ k ∈ idL (fl F), k ∉ f.2.2.2 := fun k hk q => n3 k hk (List.mem_cons_of_mem _ (List.mem_append_left _ (HF.sub _ _ f4 k q)))
  have pz : PZ s s' e (idL (fl F)) := PZ.att d6 fun k hk => ⟨hnp k hk, hnC k hk⟩
  have h142 : sI s' 142 f.2.1.1 = -1 := (att_n d6 hpr).trans f5
  refine ⟨c, s', c4, c3, a4.2.1 h100, f2, hkd, hlen, fun r2 => d1 r2 i, hH.1, pz, h142, fun a b1 q => att_st d6 b1, d6.mono fun a k z => by unfold attA at z; unfold scr; omega, fun r' r21 r29 r32 r33 => ?_⟩
  have ehd : hdI cur = c := hf_hd cur c1
  have ecm : cmF f cur = (f.1, upN f, f.2.2.1 ++ cur, f.2.2.2 ++ [c]) := by unfold cmF; rw [ehd]
  rw [ecm]
  have efl : fl ((f.1, upN f, f.2.2.1 ++ cur, f.2.2.2 ++ [c]) :: F) = fl F ++ (upN f :: (f.2.2.1 ++ cur)) := fl_c (f := (f.1, upN f, f.2.2.1 ++ cur, f.2.2.2 ++ [c])) h100
  have el : (fl ((f.1, upN f, f.2.2.1 ++ cur, f.2.2.2 ++ [c]) :: F) ++ []).length = (fl (f :: F) ++ cur).length := by
    rw [efl, fl_c h100]
    simp only [List.length_append, List.length_cons, List.length_nil]
    omega
  have ei : idL (fl ((f.1, upN f, f.2.2.1 ++ cur, f.2.2.2 ++ [c]) :: F) ++ []) = idL (fl (f :: F) ++ cur) := by
    rw [efl, fl_c h100, List.append_nil, List.append_assoc, idL_ap, idL_ap]
    rfl
  refine ⟨⟨by rw [el]; exact r21.trans a1.1, by rw [el]; exact a1.2⟩, r32, ⟨r33.trans a3.1, a3.2⟩, ⟨(att_st d6 (by decide)).trans a4.1, fun z => (att_st d6 (by decide)).trans (a4.2.1 z), WS.of F a4.2.2 (fun q _ => ⟨att_st d6 (by decide), att_st d6 (by decide)⟩)⟩, ⟨fun z => absurd z nB, TS.of F a5.2 (fun q _ => att_st d6 (by decide))⟩, ?_, ⟨by rw [ei]; exact a7.1, by rw [ei, el]; exact a7.2⟩, Or.inl ⟨rfl, ?_⟩⟩
  · intro g hg
    rcases List.mem_cons.mp hg with q | q
    · subst q
      refine Or.inr ⟨h100, f1, f2, f3.att d6 d4, hH.2, h142, Or.inl ⟨h7, ?_, d2, fun ks q z => ?_⟩⟩
      · show setN f.2.1.2.1 1 (Int32.ofNat (f.2.2.2.length + 1)) 1 = Int32.ofNat (f.2.2.2 ++ [c]).length
        rw [List.length_append]
        exact if_pos rfl
      · have z : f.2.2.2 ++ [c] = ks ++ [q] := z
        have := (List.append_inj' z rfl).2
        cases this
        exact d3
    · exact FrAll.of (fun g hg => a6 g (List.mem_cons_of_mem _ hg)) n1 pz (Nat.le_refl _) g q
  · show r' 29 = Int32.ofNat (nT F + (if b01 (isB f.1) = 0 then 0 else 1))
    rw [if_pos (b01_ne.mpr nB)]
    exact r29
end
section
/-! commas and closed brackets whole, ranges, in the reference -/
set_option maxRecDepth 100000 in
theorem rch_scr {s s' : aS} (h : ch (fun a k => (a = 129 ∧ 1024 ≤ k) ∨ (140 ≤ a ∧ a ≤ 147)) s s') : ch scr s s' := h.mono fun a k z => by unfold scr; omega
set_option maxRecDepth 100000 in
theorem d221 {s : aS} {r : Nat → Int32} {e i : Nat} {F : List Fw} {cur : List NN} (h : GM s r e F cur) (hc : cur ≠ []) (h7 : inM F = 7) (hi : i < 1000) : ∃ f F0 cur1, rdF 0 F cur = (f :: F0, cur1) ∧ f.1 = 7 ∧ ((f.2.2.2.length = 29 ∧ ∃ s' r', dm221 (wP s r i) = some (wP s' (setN r' 27 1) i) ∧ (∀ k, k ≠ 29 → k ≠ 32 → r' k = r k) ∧ ch scr s s') ∨ (¬ f.2.2.2.length = 29 ∧ ∃ s' r', dm221 (wP s r i) = some (wP s' r' (i + 1)) ∧ GM s' r' e (cmF f cur1 :: F0) [] ∧ r' 36 = 1 ∧ r' 35 = 2 ∧ (∀ k, k ≠ 29 → k ≠ 32 → k ≠ 35 → k ≠ 36 → r' k = r k) ∧ ch scr s s')) := by
  obtain ⟨s1, r1, b1, b2, b3, b4, b5⟩ := d190 (i := i) (x1 := 0) h hc
  rcases rd_in F cur with ⟨q1, q2, q3⟩ | ⟨f, F0, q1, q2, q3, q4, q5⟩
  · rw [h7] at q2
    exact absurd q2 (by decide)
  have f7 : f.1 = 7 := by rw [← q3]; exact h7
  have er : rdF 0 F cur = (f :: F0, (rdF 0 F cur).2) := by rw [← q1]
  refine ⟨f, F0, (rdF 0 F cur).2, er, f7, ?_⟩
  rw [q1] at b2
  have hb := b2.fb
  have hF : (f :: F0).length = F0.length + 1 := rfl
  have hnT : nT F0 ≤ nT (f :: F0) := Nat.le_add_right _ _
  obtain ⟨c, s2, c1, c2, c3, c4, c5, c6, c7, c8, c9, c10, c11, c12, c13⟩ := d221c (i := i) b2 b3 f7
  have a2 : r1 32 = Int32.ofNat (F0.length + 1) := b2.2.1
  have bF : aB (Int32.ofNat F0.length) 300 := aB_of (by omega) (by omega)
  have jF : jN (Int32.ofNat F0.length) = F0.length := jN_of (by omega)
  have es : Int32.ofNat (F0.length + 1) - 1 = Int32.ofNat F0.length := ofNat_sub1 (n := F0.length + 1) (by omega) (by omega)
  have bP : aB (Int32.ofNat (1024 + f.2.1.1)) 1152 := aB_of (by omega) (by omega)
  have jP : jN (Int32.ofNat (1024 + f.2.1.1)) = 1024 + f.2.1.1 := jN_of (by omega)
  have eP : (1024 : Int32) + Int32.ofNat f.2.1.1 = Int32.ofNat (1024 + f.2.1.1) := iSum (i := 1024) (j := f.2.1.1) (by omega) (by omega)
  unfold dm221
  rw [b1]
  simp only [bu_some, wP_f (show (32 : Nat) ≠ 26 by decide), a2, es, if_pos bF, jF, wP_n (show (146 : Nat) ≠ 121 by decide), c3, eP, if_pos bP, jP, wP_n (show (129 : Nat) ≠ 121 by decide), c5, wP_at, d186]
  by_cases g : f.2.2.2.length = 29
  · left
    refine ⟨g, s1, r1, ?_, b4, rch_scr b5⟩
    rw [if_pos (show Int32.ofNat f.2.2.2.length = 29 by rw [g]; rfl)]
  · right
    refine ⟨g, s2, setN (setN (setN r1 29 (Int32.ofNat (nT F0))) 36 1) 35 2, ?_, ?_, rfl, rfl, fun k k1 k2 k3 k4 => ?_, (rch_scr b5).trans c12⟩
    · rw [if_neg (show ¬ Int32.ofNat f.2.2.2.length = 29 from fun q => g ((neq_iff (b := 29) (by omega) (by omega)).mp q)), d192 (c := nT F0) c1 (by omega), c2]
      simp only [bv_some]
      rw [c7]
      simp only [bu_some, nx_eq]
      rw [wP_set (by decide), wP_set (by decide), wP_at, ofNat_succ (by omega), wP_go]
    · exact c13 _ rfl rfl a2 rfl
    · unfold setN
      rw [if_neg k3, if_neg k4, if_neg k1]
      exact b4 k k1 k2
set_option maxRecDepth 100000 in
/-- an open bracket that is closed -/
theorem GM.opo {s : aS} {r r' : Nat → Int32} {e : Nat} {F : List Fw} {f : Fw} {cur : List NN} (h : GM s r e (f :: F) cur) (hf : f.1 = 100) (h21 : r' 21 = r 21) (h29 : r' 29 = r 29) (h32 : r' 32 = Int32.ofNat F.length) (h33 : r' 33 = Int32.ofNat (nO F)) : GM s r' e F cur := by
  obtain ⟨a1, a2, a3, a4, a5, a6, a7, a8⟩ := h
  have efl : fl (f :: F) = fl F := by
    show fl F ++ frl f = fl F
    have : frl f = [] := if_pos hf
    rw [this, List.append_nil]
  have nB : ¬ isB f.1 := by rw [hf]; unfold isB; decide
  have nt : nT (f :: F) = nT F := by
    show nT F + (if b01 (isB f.1) = 0 then 0 else 1) = nT F
    rw [if_pos (b01_ne.mpr nB)]
    rfl
  have hO : nO F ≤ nO (f :: F) := Nat.le_add_right _ _
  rw [efl] at a1 a7
  rw [nt] at a8
  refine ⟨⟨h21.trans a1.1, a1.2⟩, h32, ⟨h33, Nat.le_trans hO a3.2⟩, a4.2.2, a5.2, fun g hg => a6 g (List.mem_cons_of_mem _ hg), a7, ?_⟩
  rcases a8 with ⟨b1, b2⟩ | ⟨c, b1, b2, b3, b4⟩
  · exact Or.inl ⟨b1, h29.trans b2⟩
  · exact Or.inr ⟨c, b1, b2, b3, h29.trans b4⟩
def clC (f : Fw) (cur : List NN) : List NN := if f.1 = 7 then upN f :: (f.2.2.1 ++ cur) else cur
set_option maxRecDepth 100000 in
theorem d189 {s : aS} {r : Nat → Int32} {e i : Nat} {F : List Fw} {cur : List NN} (h : GM s r e F cur) (hc : cur ≠ []) (h36 : r 36 = 0) (hO : nO F ≠ 0) (hi : i < 1000) : ∃ f F0 cur1 s' r', rdF 0 F cur = (f :: F0, cur1) ∧ dm189 (wP s r i) = some (wP s' r' (i + 1)) ∧ GM s' r' e F0 (clC f cur1) ∧ clC f cur1 ≠ [] ∧ r' 36 = 0 ∧ r' 35 = 0 ∧ (∀ k, k ≠ 29 → k ≠ 32 → k ≠ 33 → k ≠ 35 → k ≠ 36 → r' k = r k) ∧ ch scr s s' := by
  obtain ⟨s1, r1, b1, b2, b3, b4, b5⟩ := d190 (i := i) (x1 := 0) h hc
  rcases rd_in F cur with ⟨q1, q2, q3⟩ | ⟨f, F0, q1, q2, q3, q4, q5⟩
  · exact absurd q3 hO
  have er : rdF 0 F cur = (f :: F0, (rdF 0 F cur).2) := by rw [← q1]
  refine ⟨f, F0, (rdF 0 F cur).2, ?_⟩
  rw [q1] at b2
  have hb := b2.fb
  have hF : (f :: F0).length = F0.length + 1 := rfl
  have hnT : nT F0 ≤ nT (f :: F0) := Nat.le_add_right _ _
  have a2 : r1 32 = Int32.ofNat (F0.length + 1) := b2.2.1
  have a3 : r1 33 = Int32.ofNat (nO F0 + 1) := by
    rw [← q5]
    exact (b4 33 (by decide) (by decide)).trans h.2.2.1.1
  have hO8 := h.2.2.1.2
  have r36 : r1 36 = 0 := (b4 36 (by decide) (by decide)).trans h36
  have bF : aB (Int32.ofNat F0.length) 300 := aB_of (by omega) (by omega)
  have jF : jN (Int32.ofNat F0.length) = F0.length := jN_of (by omega)
  have es : Int32.ofNat (F0.length + 1) - 1 = Int32.ofNat F0.length := ofNat_sub1 (n := F0.length + 1) (by omega) (by omega)
  have es2 : Int32.ofNat (nO F0 + 1) - 1 = Int32.ofNat (nO F0) := ofNat_sub1 (n := nO F0 + 1) (by omega) (by omega)
  have w1 : sI s1 145 F0.length = f.1 := b2.2.2.2.1.1
  have e32 : ∀ v w, setN (setN r1 32 v) 33 w 32 = v := fun v w => rfl
  have e36 : ∀ v w, setN (setN r1 32 v) 33 w 36 = r1 36 := fun v w => rfl
  unfold dm189 dm189_36 dm189_39
  rw [b1]
  simp only [bu_some, nx_eq]
  rw [wP_f (show (32 : Nat) ≠ 26 by decide), a2, es, wP_set (by decide), wP_f (show (33 : Nat) ≠ 26 by decide), show setN r1 32 (Int32.ofNat F0.length) 33 = r1 33 from rfl, a3, es2, wP_set (by decide)]
  simp only [wP_f (show (32 : Nat) ≠ 26 by decide), wP_f (show (36 : Nat) ≠ 26 by decide), e32, e36, r36, if_pos bF, jF, wP_n (show (145 : Nat) ≠ 121 by decide), wP_n (show (146 : Nat) ≠ 121 by decide), w1]
  by_cases f7 : f.1 = 7
  · obtain ⟨c, s2, c1, c2, c3, c4, c5, c6, c7, c8, c9, c10, c11, c12, c13⟩ := d221c (i := i) b2 b3 f7
    have ec : clC f (rdF 0 F cur).2 = upN f :: (f.2.2.1 ++ (rdF 0 F cur).2) := if_pos f7
    refine ⟨wI s2 144 (nT F0) (Int32.ofNat f.2.1.1), setN (setN (setN (setN (setN (setN r1 32 (Int32.ofNat F0.length)) 33 (Int32.ofNat (nO F0))) 29 (Int32.ofNat (nT F0))) 29 (Int32.ofNat (nT F0 + 1))) 36 0) 35 0, er, ?_, ?_, by rw [ec]; simp, rfl, rfl, fun k k1 k2 k3 k4 k5 => ?_, ((rch_scr b5).trans c12).wI (by unfold scr; omega)⟩
    · rw [if_pos f7, if_pos trivial, d192 (c := nT F0) (show setN (setN r1 32 (Int32.ofNat F0.length)) 33 (Int32.ofNat (nO F0)) 29 = Int32.ofNat (nT F0 + 1) from c1) (by omega), c2]
      simp only [bv_some]
      rw [c3, c7]
      simp only [bu_some]
      rw [d194 (c := nT F0) rfl (by omega)]
      simp only [bu_some]
      rw [wP_set (by decide), wP_set (by decide), wP_at, ofNat_succ (by omega), wP_go]
    · rw [ec]
      exact GM.epi (U := upN f) b2 (by rw [f7]; decide) rfl c8 c9 c10 (fun a x1 x2 q => c11 a (by omega) q) rfl rfl rfl rfl
    · unfold setN
      rw [if_neg k4, if_neg k5, if_neg k1, if_neg k1, if_neg k3, if_neg k2]
      exact b4 k k1 k2
  · have f100 : f.1 = 100 := by
      rcases q2 with q | q
      · exact q
      · exact absurd q f7
    have ec : clC f (rdF 0 F cur).2 = (rdF 0 F cur).2 := if_neg f7
    refine ⟨s1, setN (setN (setN (setN r1 32 (Int32.ofNat F0.length)) 33 (Int32.ofNat (nO F0))) 36 0) 35 0, er, ?_, ?_, by rw [ec]; exact b3, rfl, rfl, fun k k1 k2 k3 k4 k5 => ?_, rch_scr b5⟩
    · rw [if_neg f7, wP_set (by decide), wP_set (by decide), wP_at, ofNat_succ (by omega), wP_go]
    · rw [ec]
      exact b2.opo f100 rfl rfl rfl rfl
    · unfold setN
      rw [if_neg k4, if_neg k5, if_neg k3, if_neg k2]
      exact b4 k k1 k2
set_option maxRecDepth 100000 in
/-- a call without arguments is closed -/
theorem d189e {s : aS} {r : Nat → Int32} {e i : Nat} {F : List Fw} {f : Fw} (h : GM s r e (f :: F) []) (f7 : f.1 = 7) (h36 : r 36 = 1) (hi : i < 1000) : ∃ s' r', dm189 (wP s r i) = some (wP s' r' (i + 1)) ∧ GM s' r' e F (f.2.1 :: (f.2.2.1 ++ [])) ∧ r' 36 = 0 ∧ r' 35 = 0 ∧ (∀ k, k ≠ 29 → k ≠ 32 → k ≠ 33 → k ≠ 35 → k ≠ 36 → r' k = r k) ∧ ch scr s s' := by
  have hb := h.fb
  have hF : (f :: F).length = F.length + 1 := rfl
  have h100 : f.1 ≠ 100 := by rw [f7]; decide
  have a2 : r 32 = Int32.ofNat (F.length + 1) := h.2.1
  have hO : nO (f :: F) = nO F + 1 := by
    show nO F + (if f.1 = 100 ∨ f.1 = 7 then 1 else 0) = nO F + 1
    rw [if_pos (Or.inr f7)]
  have a3 : r 33 = Int32.ofNat (nO F + 1) := by rw [← hO]; exact h.2.2.1.1
  have hO8 := h.2.2.1.2
  have bF : aB (Int32.ofNat F.length) 300 := aB_of (by omega) (by omega)
  have jF : jN (Int32.ofNat F.length) = F.length := jN_of (by omega)
  have es : Int32.ofNat (F.length + 1) - 1 = Int32.ofNat F.length := ofNat_sub1 (n := F.length + 1) (by omega) (by omega)
  have es2 : Int32.ofNat (nO F + 1) - 1 = Int32.ofNat (nO F) := ofNat_sub1 (n := nO F + 1) (by omega) (by omega)
  have p0 : ¬ Int32.ofNat (F.length + 1) ≤ 0 := fun q => by
    have := (nle_iff (b := 0) (by omega) (by omega)).mp q
    omega
  have w1 : sI s 145 F.length = f.1 := h.2.2.2.1.1
  have w2 : sI s 146 F.length = Int32.ofNat f.2.1.1 := h.2.2.2.1.2.1 h100
  have nB : ¬ isB f.1 := by rw [f7]; unfold isB; decide
  have nt : nT (f :: F) = nT F := by
    show nT F + (if b01 (isB f.1) = 0 then 0 else 1) = nT F
    rw [if_pos (b01_ne.mpr nB)]
    rfl
  have c8 : r 29 = Int32.ofNat (nT F) := by
    rcases h.2.2.2.2.2.2.2 with ⟨-, q⟩ | ⟨c, q, -⟩
    · rw [← nt]; exact q
    · have q : ([c] : List Nat) = [] := q
      cases q
  have e190 : dm190 0 (wP s r i) = some (wP s r i) := by
    show dm190_0 (4999 + 1) 0 (wP s r i) = _
    rw [dm190_0]
    simp only [wP_f (show (32 : Nat) ≠ 26 by decide), a2, es, if_neg p0, if_pos bF, jF, wP_n (show (145 : Nat) ≠ 121 by decide), w1]
    rw [if_neg h100, if_pos f7]
  obtain ⟨-, f1, f2, f3, f4, f5, f6⟩ : f.1 ≠ 100 ∧ f.2.1.2.1 0 = f.1 ∧ f.2.1.1 < 128 ∧ NR s e f.2.1 ∧ HF s e f.2.2.1 f.2.2.2 ∧ sI s 142 f.2.1.1 = -1 ∧ _ := (h.2.2.2.2.2.1 f List.mem_cons_self).resolve_left (fun q => h100 q.1)
  obtain ⟨-, g2, g3, g4⟩ : f.1 = 7 ∧ f.2.1.2.1 1 = Int32.ofNat f.2.2.2.length ∧ nch s (sI s 140 f.2.1.1) f.2.2.2 ∧ ∀ ks q, f.2.2.2 = ks ++ [q] → sI s 141 f.2.1.1 = Int32.ofNat q := by
    rcases f6 with q | ⟨q, -⟩ | ⟨q, -⟩
    · exact q
    · rw [f7] at q; exact absurd q (by decide)
    · rw [f7] at q; unfold isB at q; exact absurd q (by decide)
  have hH : HF s e (f.2.1 :: (f.2.2.1 ++ [])) [f.2.1.1] := ⟨[], f.2.2.2, rfl, f2, f3, g3, g2, by rw [List.append_nil, List.append_nil]; exact f4⟩
  have e32 : ∀ v w, setN (setN r 32 v) 33 w 32 = v := fun v w => rfl
  have e36 : ∀ v w, setN (setN r 32 v) 33 w 36 = r 36 := fun v w => rfl
  have e29 : ∀ v w, setN (setN r 32 v) 33 w 29 = Int32.ofNat (nT F) := fun v w => c8
  refine ⟨wI s 144 (nT F) (Int32.ofNat f.2.1.1), setN (setN (setN (setN (setN r 32 (Int32.ofNat F.length)) 33 (Int32.ofNat (nO F))) 29 (Int32.ofNat (nT F + 1))) 36 0) 35 0, ?_, ?_, rfl, rfl, fun k k1 k2 k3 k4 k5 => ?_, (ch.refl _ s).wI (by unfold scr; omega)⟩
  · unfold dm189 dm189_36 dm189_39
    rw [e190]
    simp only [bu_some, nx_eq]
    rw [wP_f (show (32 : Nat) ≠ 26 by decide), a2, es, wP_set (by decide), wP_f (show (33 : Nat) ≠ 26 by decide), show setN r 32 (Int32.ofNat F.length) 33 = r 33 from rfl, a3, es2, wP_set (by decide)]
    simp only [wP_f (show (32 : Nat) ≠ 26 by decide), wP_f (show (36 : Nat) ≠ 26 by decide), e32, e36, h36, if_pos bF, jF, wP_n (show (145 : Nat) ≠ 121 by decide), wP_n (show (146 : Nat) ≠ 121 by decide), w1, w2]
    rw [if_pos f7, if_neg (by decide), d194 (c := nT F) (e29 _ _) (by omega)]
    simp only [bu_some]
    rw [wP_set (by decide), wP_set (by decide), wP_at, ofNat_succ (by omega), wP_go]
  · exact GM.epi (U := f.2.1) h h100 rfl hH ⟨fun _ _ => rfl, fun _ _ => ⟨⟨fun _ _ => rfl, rfl⟩, rfl, rfl⟩⟩ f5 (fun _ _ _ _ => rfl) rfl rfl rfl rfl
  · unfold setN
    rw [if_neg k4, if_neg k5, if_neg k1, if_neg k3, if_neg k2]
end
section
/-! ranges, in the reference; new operands -/
set_option maxRecDepth 100000 in
theorem wP_of {s : aS} {r : Nat → Int32} {i : Nat} (h : ∀ k, sI s 121 k = setN r 26 (Int32.ofNat i) k) : wP s r i = s := by
  have e : setN r 26 (Int32.ofNat i) = fun k => sI s 121 k := by
    funext k
    exact (h k).symm
  unfold wP
  rw [e]
  exact wF_id s
set_option maxRecDepth 100000 in
theorem cnt_end {p : Int32 → Prop} {t : List Int32} {d : Int32} (h0 : ¬ p d) : ∀ (m i : Nat), t.length ≤ i + m → ¬ p (t.getD (i + cntF p (t.drop i)) d) := by
  intro m
  induction m with
  | zero =>
    intro i h
    rw [getD_out (by omega)]
    exact h0
  | succ m ih =>
    intro i h
    by_cases g : p (t.getD i d)
    · obtain ⟨g1, g2⟩ := cnt_y h0 g
      rw [g2, show i + (cntF p (t.drop (i + 1)) + 1) = i + 1 + cntF p (t.drop (i + 1)) by omega]
      exact ih (i + 1) (by omega)
    · rw [cnt_n g]
      exact g
set_option maxRecDepth 100000 in
theorem sk_ne (t : List Int32) (i : Nat) : ¬ t.getD (skS t i) 0 = 32 := cnt_end (p := spP) (d := 0) (by unfold spP; decide) t.length i (by omega)
set_option maxRecDepth 100000 in
theorem sk_b {t : List Int32} {i : Nat} (hi : i ≤ t.length) : i ≤ skS t i ∧ skS t i ≤ t.length := by
  have := cnt_b (p := spP) (t := t) (i := i)
  unfold skS
  omega
set_option maxRecDepth 100000 in
theorem d218l {s : aS} {r : Nat → Int32} {t : List Int32} {x : Int32} (h : TX s r t) : ∀ (m i n : Nat), t.length ≤ i + m → i ≤ 300 → m < n → ∃ n', dm218_11 n x (wP s r i) = dm218_11 (n' + 1) x (wP s r (skS t i)) := by
  have hl := h.1
  intro m
  induction m with
  | zero =>
    intro i n h1 h2 h3
    obtain ⟨n, rfl⟩ : ∃ q, n = q + 1 := ⟨n - 1, by omega⟩
    have e : skS t i = i := by
      unfold skS
      rw [cnt_n (p := spP) (d := 0) (by rw [getD_out (by omega)]; unfold spP; decide)]
      rfl
    exact ⟨n, by rw [e]⟩
  | succ m ih =>
    intro i n h1 h2 h3
    obtain ⟨n, rfl⟩ : ∃ q, n = q + 1 := ⟨n - 1, by omega⟩
    by_cases c : t.getD i 0 = 32
    · obtain ⟨g1, g2⟩ := cnt_y (p := spP) (d := 0) (by unfold spP; decide) c
      obtain ⟨n', e1⟩ := ih (i + 1) n (by omega) (by omega) (by omega)
      have e : skS t (i + 1) = skS t i := by unfold skS; omega
      refine ⟨n', ?_⟩
      rw [← e, ← e1, dm218_11, wP_at, rch h (by omega)]
      simp only [bu_some]
      rw [if_pos c, nx_eq, ofNat_succ (by omega), wP_go]
    · have e : skS t i = i := by
        unfold skS
        rw [cnt_n (p := spP) c]
        rfl
      exact ⟨n, by rw [e]⟩
def rgN (n : NN) (row col f : Int32) : NN := (n.1, srC (srR (setN (setN (setN (setN n.2.1 0 5) 5 row) 6 col) 7 (n.2.1 7 ||| (f <<< ((2 : Int32) &&& 31))))), [])
set_option maxRecDepth 100000 in
theorem RI_P {s : aS} {r : Nat → Int32} {i p : Nat} {d : Nd} (h : RI s p d) : RI (wP s r i) p d := fun w hw => (wP_n (by omega)).trans (h w hw)
set_option maxRecDepth 100000 in
theorem GM.chg {s s' : aS} {r r' : Nat → Int32} {e e' : Nat} {F : List Fw} {n n' : NN} (h : GM s r e F [n]) (hid : n'.1 = n.1) (hc : ch (fun a k => (128 ≤ a ∧ a ≤ 136) ∧ k = 1024 + n.1) s s') (hNR : NR s' e' n') (hk : n'.2.1 1 = n.2.1 1) (he : e ≤ e') (h21 : r' 21 = r 21) (h29 : r' 29 = r 29) (h32 : r' 32 = r 32) (h33 : r' 33 = r 33) : GM s' r' e' F [n'] := by
  obtain ⟨a1, a2, a3, a4, a5, a6, a7, a8⟩ := h
  have hnn := a7.1
  rw [idL_ap, List.nodup_append] at hnn
  have q2 : ∀ k ∈ idL (fl F), k ≠ n.1 := fun k hk q => hnn.2.2 k hk n.1 (by show n.1 ∈ [n.1]; exact List.mem_cons_self) q
  have el : (fl F ++ [n']).length = (fl F ++ [n]).length := by rw [List.length_append, List.length_append]; rfl
  have ei : idL (fl F ++ [n']) = idL (fl F ++ [n]) := by
    rw [idL_ap, idL_ap]
    show idL (fl F) ++ [n'.1] = idL (fl F) ++ [n.1]
    rw [hid]
  have pz : PZ s s' e (idL (fl F)) := PZ.new (m := n.1) (hc.mono fun a k z => by unfold newA; omega) q2
  obtain ⟨c, c1, c2, c3, c4⟩ := a8.resolve_left (fun q => by cases q.1)
  obtain ⟨r9, ks, e1, e2, e3, e4, e5, e6⟩ := c1
  cases e1
  have e6 : ks ++ [] = [] := e6
  rw [List.append_nil] at e6
  subst e6
  refine ⟨⟨by rw [el]; exact h21.trans a1.1, by rw [el]; exact a1.2⟩, h32.trans a2, ⟨h33.trans a3.1, a3.2⟩, WS.of F a4 (fun q _ => ⟨hc.i (by omega), hc.i (by omega)⟩), TS.of F a5 (fun q _ => hc.i (by omega)), FrAll.of a6 hnn.1 pz he, ⟨by rw [ei]; exact a7.1, by rw [ei, el]; exact a7.2⟩, Or.inr ⟨n.1, ⟨[], [], by rw [hid], by rw [hid]; exact e2, hNR, ?_, ?_, rfl⟩, (hc.i (by omega)).trans c2, (hc.i (by omega)).trans c3, h29.trans c4⟩⟩
  · rw [hid]
    exact (hc.i (by omega)).trans e4
  · rw [hk]
    exact e5
set_option maxRecDepth 100000 in
theorem d218 {s : aS} {r : Nat → Int32} {t : List Int32} {e i : Nat} {F : List Fw} {n : NN} (h : TX s r t) (hG : GM s r e F [n]) (hn0 : n.2.1 0 = 4) (h27 : r 27 = 0) (h34 : r 34 = Int32.ofNat n.1) (hei : e ≤ i) (hi : i < t.length) : (¬ cOk t (skS t (i + 1)) ∧ ∃ r', dm218 (wP s r i) = some (wP s r' (cB t (skS t (i + 1)))) ∧ r' 27 = 1 ∧ ∀ k, k ≤ 20 → r' k = r k) ∨ (cOk t (skS t (i + 1)) ∧ ∃ s' r', dm218 (wP s r i) = some (wP s' r' (cE t (skS t (i + 1)))) ∧ GM s' r' (cE t (skS t (i + 1))) F [rgN n (Int32.ofNat (cW t (skS t (i + 1)))) (Int32.ofNat (cK t (skS t (i + 1))).2.1) (Int32.ofNat (cFl t (skS t (i + 1))))] ∧ r' 34 = -1 ∧ (∀ k, k ≠ 34 → k ≠ 39 → k ≠ 40 → k ≠ 41 → r' k = r k) ∧ ch scr s s') := by
  have hl := h.1
  have hb := sk_b (t := t) (i := i + 1) (by omega)
  have hidb : n.1 < 128 := by
    have := hG.2.2.2.2.2.2.1.2 n.1 (by rw [idL_ap]; exact List.mem_append_right _ (by show n.1 ∈ [n.1]; exact List.mem_cons_self))
    have := hG.1.2
    omega
  have e0 : ∃ n', dm218 (wP s r i) = dm218_11 (n' + 1) (Int32.ofNat (1024 + n.1)) (wP s r (skS t (i + 1))) := by
    obtain ⟨n', q⟩ := d218l (x := Int32.ofNat (1024 + n.1)) h t.length (i + 1) 5000 (by omega) (by omega) (by omega)
    refine ⟨n', ?_⟩
    rw [← q]
    unfold dm218
    rw [nx_eq, wP_at, ofNat_succ (by omega), wP_go, wP_f (by decide), h34, show (1024 : Int32) + Int32.ofNat n.1 = Int32.ofNat (1024 + n.1) from iSum (i := 1024) (j := n.1) (by omega) (by omega)]
  obtain ⟨n', e0⟩ := e0
  generalize hj : skS t (i + 1) = j at *
  have hne : ¬ t.getD j 0 = 32 := by rw [← hj]; exact sk_ne t (i + 1)
  rw [e0, dm218_11, wP_at, rch h (by omega)]
  simp only [bu_some]
  rw [if_neg hne]
  rcases d207 (i := j) h hb.2 with ⟨g, c, f, q⟩ | ⟨g, q⟩
  · left
    refine ⟨g, setN (cR r 0 c f) 27 1, ?_, rfl, fun k hk => ?_⟩
    · rw [q]
      simp only [bu_some]
      rw [wP_f (by decide), show setN (cR r 0 c f) 27 1 27 = 1 from rfl, if_neg (by decide)]
    · unfold setN
      rw [if_neg (by omega)]
      exact cR_n (by omega)
  · right
    refine ⟨g, ?_⟩
    obtain ⟨o1, o2, o3, o4, o5⟩ := cOk_b hb.2 g
    have bP : aB (Int32.ofNat (1024 + n.1)) 1152 := aB_of (by omega) (by omega)
    have jP : jN (Int32.ofNat (1024 + n.1)) = 1024 + n.1 := jN_of (by omega)
    obtain ⟨c, c1, -⟩ := hG.2.2.2.2.2.2.2.resolve_left (fun q => by cases q.1)
    obtain ⟨r9, ks, x1, x2, x3, x4, x5, x6⟩ := c1
    have hRI : RI s (1024 + n.1) n.2.1 := x3.1
    let R := cR r (Int32.ofNat (cW t j)) (Int32.ofNat (cK t j).2.1) (Int32.ofNat (cFl t j))
    have R27 : R 27 = 0 := (cR_n (by decide)).trans h27
    let s4 := wI (wI (wI (wI s 128 (1024 + n.1) 5) 133 (1024 + n.1) (Int32.ofNat (cW t j))) 134 (1024 + n.1) (Int32.ofNat (cK t j).2.1)) 135 (1024 + n.1) (n.2.1 7 ||| (Int32.ofNat (cFl t j) <<< ((2 : Int32) &&& 31)))
    have hRI4 : RI s4 (1024 + n.1) (setN (setN (setN (setN n.2.1 0 5) 5 (Int32.ofNat (cW t j))) 6 (Int32.ofNat (cK t j).2.1)) 7 (n.2.1 7 ||| (Int32.ofNat (cFl t j) <<< ((2 : Int32) &&& 31)))) := (((hRI.set (w := 0)).set (w := 5)).set (w := 6)).set (w := 7)
    obtain ⟨s5, d1, d2, d3⟩ := d219 (s := wP s4 R (cE t j)) (by omega) (RI_P hRI4)
    have h5 : wP s5 R (cE t j) = s5 := wP_of fun k => (d3.i (by omega)).trans (by unfold wP; rw [wF_t])
    have hc5 : ch (fun a k => (128 ≤ a ∧ a ≤ 136) ∧ k = 1024 + n.1) s s5 ∨ True := Or.inr trivial
    have s5i : ∀ a k, a ≠ 121 → ¬ ((128 ≤ a ∧ a ≤ 136) ∧ k = 1024 + n.1) → sI s5 a k = sI s a k := by
      intro a k ha hk
      rw [d3.i hk, wP_n ha]
      show sI (wI (wI (wI (wI s 128 (1024 + n.1) 5) 133 (1024 + n.1) (Int32.ofNat (cW t j))) 134 (1024 + n.1) (Int32.ofNat (cK t j).2.1)) 135 (1024 + n.1) (n.2.1 7 ||| (Int32.ofNat (cFl t j) <<< ((2 : Int32) &&& 31)))) a k = sI s a k
      rw [sI_wI, if_neg (by omega), sI_wI, if_neg (by omega), sI_wI, if_neg (by omega), sI_wI, if_neg (by omega)]
    have s6c : ch (fun a k => (128 ≤ a ∧ a ≤ 136) ∧ k = 1024 + n.1) s (wF s5 (fun k => sI s 121 k)) := by
      refine ⟨d3.1, d3.2.1, fun a k hk => ⟨?_, (d3.2.2 a k hk).2.1, (d3.2.2 a k hk).2.2⟩⟩
      by_cases ha : a = 121
      · subst ha
        rw [wF_t]
      · rw [wF_n ha]
        exact s5i a k ha hk
    have wPF : ∀ (r1 : Nat → Int32) (i1 : Nat), wP s5 r1 i1 = wP (wF s5 (fun k => sI s 121 k)) r1 i1 := by
      intro r1 i1
      unfold wP
      have : (fun a k => if a = 121 then setN r1 26 (Int32.ofNat i1) k else s5.2.2.1 a k) = fun a k => if a = 121 then setN r1 26 (Int32.ofNat i1) k else (if a = 121 then sI s 121 k else s5.2.2.1 a k) := by
        funext a k
        by_cases ha : a = 121
        · rw [if_pos ha, if_pos ha]
        · rw [if_neg ha, if_neg ha, if_neg ha]
      show ((s5.1, s5.2.1, (fun a k => if a = 121 then setN r1 26 (Int32.ofNat i1) k else s5.2.2.1 a k), s5.2.2.2) : aS) = (s5.1, s5.2.1, (fun a k => if a = 121 then setN r1 26 (Int32.ofNat i1) k else (if a = 121 then sI s 121 k else s5.2.2.1 a k)), s5.2.2.2)
      rw [this]
    refine ⟨wF s5 (fun k => sI s 121 k), setN R 34 (-1), ?_, ?_, rfl, fun k k1 k2 k3 k4 => ?_, s6c.mono fun a k z => by unfold scr; omega⟩
    · rw [q]
      simp only [bu_some]
      rw [wP_f (by decide)]
      show (if R 27 = 0 then _ else _) = _
      rw [R27, if_pos rfl]
      simp only [if_pos bP, jP, nx_eq]
      rw [wP_wI (by decide), wP_f (by decide), show cR r (Int32.ofNat (cW t j)) (Int32.ofNat (cK t j).2.1) (Int32.ofNat (cFl t j)) 39 = Int32.ofNat (cW t j) from rfl, wP_wI (by decide), wP_f (by decide), show cR r (Int32.ofNat (cW t j)) (Int32.ofNat (cK t j).2.1) (Int32.ofNat (cFl t j)) 40 = Int32.ofNat (cK t j).2.1 from rfl, wP_wI (by decide), wP_f (by decide), show cR r (Int32.ofNat (cW t j)) (Int32.ofNat (cK t j).2.1) (Int32.ofNat (cFl t j)) 41 = Int32.ofNat (cFl t j) from rfl, wP_n (by decide), sI_wI, if_neg (by omega), sI_wI, if_neg (by omega), sI_wI, if_neg (by omega), hRI 7 (by decide), wP_wI (by decide)]
      have d1 : dm219 (Int32.ofNat (1024 + n.1)) (wP s4 R (cE t j)) = some s5 := d1
      show bu (dm219 (Int32.ofNat (1024 + n.1)) (wP s4 R (cE t j))) _ = _
      rw [d1]
      simp only [bu_some]
      rw [← wPF, ← wP_set (by decide), h5]
    · refine GM.chg hG rfl s6c ⟨fun w hw => ?_, ?_, ?_, fun _ => rfl⟩ ?_ (by omega) ((show setN R 34 (-1) 21 = R 21 from rfl).trans (cR_n (by decide))) ((show setN R 34 (-1) 29 = R 29 from rfl).trans (cR_n (by decide))) ((show setN R 34 (-1) 32 = R 32 from rfl).trans (cR_n (by decide))) ((show setN R 34 (-1) 33 = R 33 from rfl).trans (cR_n (by decide)))
      · rw [wF_n (by omega)]
        exact d2 w hw
      · intro z
        have e5 : (rgN n (Int32.ofNat (cW t j)) (Int32.ofNat (cK t j).2.1) (Int32.ofNat (cFl t j))).2.1 0 = 5 := (srC_k (by decide)).trans (srR_k (by decide))
        rw [e5] at z
        exact absurd z (by decide)
      · intro z
        have e5 : (rgN n (Int32.ofNat (cW t j)) (Int32.ofNat (cK t j).2.1) (Int32.ofNat (cFl t j))).2.1 0 = 5 := (srC_k (by decide)).trans (srR_k (by decide))
        rw [e5] at z
        exact absurd z (by decide)
      · exact (srC_k (by decide)).trans (srR_k (by decide))
    · show setN R 34 (-1) k = r k
      unfold setN
      rw [if_neg k1]
      exact cR_n ⟨k2, k3, k4⟩
end
section
/-! tokens become nodes, in the reference -/
def newB (e m : Nat) (a k : Nat) : Prop := ((128 ≤ a ∧ a ≤ 138) ∧ k = 1024 + m) ∨ ((140 ≤ a ∧ a ≤ 142) ∧ k = m) ∨ (a = 139 ∧ 2048 + e ≤ k) ∨ a = 147
set_option maxRecDepth 100000 in
theorem newB_scr {e m a k : Nat} (h : newB e m a k) : scr a k := by
  unfold newB at h
  unfold scr
  omega
set_option maxRecDepth 100000 in
theorem GM.leaf2 {s s2 : aS} {r r' : Nat → Int32} {e e' m : Nat} {F : List Fw} {n : NN} (h : GM s r e F []) (hm : (fl F).length = m) (h8 : m < 128) (hid : n.1 = m) (hc : ch (newB e m) s s2) (hNR : NR s2 e' n) (hk : n.2.1 1 = 0) (h0 : sI s2 140 m = -1) (h2 : sI s2 142 m = -1) (he : e ≤ e') (h21 : r' 21 = Int32.ofNat (m + 1)) (h29 : r' 29 = Int32.ofNat (nT F + 1)) (h32 : r' 32 = r 32) (h33 : r' 33 = r 33) : GM (wI s2 144 (nT F) (Int32.ofNat m)) r' e' F [n] := by
  refine GM.leaf h hm h8 hid ((hc.mono fun a k z => ?_).wI ?_) (fun q => ⟨?_, ?_⟩) (fun q hq => ?_) (hNR.of ?_ (fun q _ => ?_) (Nat.le_refl _)) hk ?_ ?_ ?_ he h21 h29 h32 h33
  · unfold newB at z
    unfold newA
    omega
  · unfold newA
    omega
  · rw [sI_wI, if_neg (by omega)]
    exact hc.i (by unfold newB; omega)
  · rw [sI_wI, if_neg (by omega)]
    exact hc.i (by unfold newB; omega)
  · rw [sI_wI, if_neg (by omega)]
    exact hc.i (by unfold newB; omega)
  · exact ⟨fun w hw => by rw [sI_wI, if_neg (by omega)], by rw [sI_wI, if_neg (by omega)]⟩
  · rw [sI_wI, if_neg (by omega)]
  · rw [sI_wI, if_neg (by omega)]
    exact h0
  · rw [sI_wI, if_neg (by omega)]
    exact h2
  · rw [sI_wI, if_pos ⟨rfl, rfl⟩]
set_option maxRecDepth 100000 in
theorem TX.fr {A : Nat → Nat → Prop} {s s' : aS} {r : Nat → Int32} {t : List Int32} (h : TX s r t) (g : ch A s s') (hA : ∀ k, ¬ A 122 k) : TX s' r t := ⟨h.1, h.2.1, fun j hj => (g.i (hA j)).trans (h.2.2 j hj)⟩
def sl (t : List Int32) (a b : Nat) : List Int32 := (t.drop a).take (b - a)
set_option maxRecDepth 100000 in
theorem sl_len {t : List Int32} {a b : Nat} (hab : a ≤ b) (hb : b ≤ t.length) : (sl t a b).length = b - a := by
  unfold sl
  rw [List.length_take, List.length_drop]
  omega
set_option maxRecDepth 100000 in
theorem sl_get {t : List Int32} {a b j : Nat} (h : j < (sl t a b).length) (hb : b ≤ t.length) : (sl t a b)[j] = t.getD (a + j) 0 := by
  have h2 : j < b - a := by
    unfold sl at h
    rw [List.length_take] at h
    omega
  have e : (sl t a b)[j]? = some (t.getD (a + j) 0) := by
    unfold sl
    rw [List.getElem?_take, if_pos h2, List.getElem?_drop, List.getElem?_eq_getElem (by omega), getD_in (by omega)]
  rw [List.getElem?_eq_getElem h] at e
  exact Option.some.inj e
set_option maxRecDepth 100000 in
theorem sl_c {t : List Int32} {a b : Nat} (hab : a < b) (hb : b ≤ t.length) : sl t a b = t.getD a 0 :: sl t (a + 1) b := by
  unfold sl
  rw [List.drop_eq_getElem_cons (by omega), show b - a = (b - (a + 1)) + 1 by omega, List.take_succ_cons, getD_in (by omega)]
set_option maxRecDepth 100000 in
theorem sl_n (t : List Int32) (a : Nat) : sl t a a = [] := by
  unfold sl
  rw [Nat.sub_self, List.take_zero]
set_option maxRecDepth 100000 in
theorem mkK {s : aS} {r : Nat → Int32} {t : List Int32} {a b e m : Nat} {kd g : Int32} (h : TX s r t) (h8 : m < 128) (hea : e ≤ a) (hab : a ≤ b) (hb : b ≤ t.length) : ∃ s2, dm200 (Int32.ofNat m) (Int32.ofNat a) g (wP (mkN s m kd) r b) = some (wP s2 r b) ∧ (∀ w, w < 9 → sI s2 (128 + w) (1024 + m) = plF kd 0 w) ∧ RLe s2 b (1024 + m) ((sl t a b).map (kpF g)) ∧ sI s2 140 m = -1 ∧ sI s2 142 m = -1 ∧ ch (newB e m) s s2 := by
  have hT : TX (mkN s m kd) r t := ⟨h.1, h.2.1, fun j hj => ((mk_c s m kd).i (by omega)).trans (h.2.2 j hj)⟩
  obtain ⟨s2, d1, d2, d3, d4, d5⟩ := d200 (g := g) hT h8 hab hb
  have hl := sl_len hab hb
  refine ⟨s2, d1, fun w hw => (d5.i (by omega)).trans (mk_w (by omega)), ⟨a, d2, by rw [List.length_map, hl]; exact d3, by rw [List.length_map, hl]; omega, fun j hj => ?_⟩, (d5.i (by omega)).trans (mk_k (Or.inl rfl)), (d5.i (by omega)).trans (mk_k (Or.inr (Or.inr rfl))), ((mk_c s m kd).mono fun x k z => ?_).trans (d5.mono fun x k z => ?_)⟩
  · rw [List.length_map] at hj
    rw [show 2048 + a + j = 2048 + (a + j) by omega, d4 (a + j) (by omega) (by omega), List.getElem_map, sl_get hj hb]
  · unfold newB; omega
  · unfold newB; omega
set_option maxRecDepth 100000 in
theorem kpF1 : kpF 1 = gr := by
  funext x
  unfold kpF
  rw [if_neg (by decide)]
set_option maxRecDepth 100000 in
theorem kpF0 (l : List Int32) : l.map (kpF 0) = l := by
  have : kpF 0 = fun x => x := by
    funext x
    unfold kpF
    rw [if_pos rfl]
  rw [this, List.map_id']
set_option maxRecDepth 100000 in
theorem NMe.no {s : aS} {e p : Nat} {kd : Int32} (h : ¬ (kd = 0 ∨ kd = 1 ∨ kd = 6 ∨ kd = 7)) : NMe s e p kd [] := by
  refine ⟨fun q => ?_, fun q => absurd (Or.inr (Or.inl q)) h, fun _ => rfl⟩
  rcases q with q | q | q
  · exact absurd (Or.inl q) h
  · exact absurd (Or.inr (Or.inr (Or.inl q))) h
  · exact absurd (Or.inr (Or.inr (Or.inr q))) h
set_option maxRecDepth 100000 in
theorem NMe.le {s : aS} {e p : Nat} {kd : Int32} {l : List Int32} (h : kd = 0 ∨ kd = 6 ∨ kd = 7) (g : RLe s e p l) : NMe s e p kd l := by
  refine ⟨fun _ => g, fun q => ?_, fun q => absurd ?_ q⟩
  · subst q
    exact absurd h (by decide)
  · rcases h with q | q | q
    · exact Or.inl q
    · exact Or.inr (Or.inr (Or.inl q))
    · exact Or.inr (Or.inr (Or.inr q))
set_option maxRecDepth 100000 in
/-- a number -/
theorem d199n {s : aS} {r : Nat → Int32} {t : List Int32} {e a b m : Nat} {F : List Fw} (h : TX s r t) (hG : GM s r e F []) (hm : (fl F).length = m) (h8 : m < 128) (hea : e ≤ a) (hab : a ≤ b) (hb : b ≤ t.length) : ∃ s' r', dm199_116 (Int32.ofNat a) (wP s r b) = some (wP s' r' b) ∧ GM s' r' b F [(m, plF 0 0, (sl t a b).map gr)] ∧ (∀ k, k ≠ 21 → k ≠ 29 → r' k = r k) ∧ ch scr s s' := by
  have hfb := hG.fb
  have m1 : r 21 = Int32.ofNat m := by
    have := hG.1.1
    rw [List.append_nil, hm] at this
    exact this
  have c8 : r 29 = Int32.ofNat (nT F) := by
    rcases hG.2.2.2.2.2.2.2 with ⟨-, q⟩ | ⟨c, q, -⟩
    · exact q
    · have q : ([c] : List Nat) = [] := q
      cases q
  obtain ⟨s2, d1, d2, d3, d4, d5, d6⟩ := mkK (e := e) (kd := 0) (g := 1) (h.set 21 (Int32.ofNat (m + 1)) (by decide)) h8 hea hab hb
  rw [kpF1] at d3
  refine ⟨wI s2 144 (nT F) (Int32.ofNat m), setN (setN r 21 (Int32.ofNat (m + 1))) 29 (Int32.ofNat (nT F + 1)), ?_, ?_, fun k k1 k2 => ?_, (d6.mono fun a k z => newB_scr z).wI (by unfold scr; omega)⟩
  · unfold dm199_116
    rw [d187 m1 h8]
    simp only [bv_some]
    rw [d1]
    simp only [bu_some]
    rw [d194 (c := nT F) (show setN r 21 (Int32.ofNat (m + 1)) 29 = Int32.ofNat (nT F) from c8) (by omega)]
    rfl
  · exact GM.leaf2 hG hm h8 rfl d6 ⟨d2, NMe.le (kd := 0) (Or.inl rfl) d3⟩ rfl d4 d5 (by omega) rfl rfl rfl rfl
  · unfold setN
    rw [if_neg k2, if_neg k1]
set_option maxRecDepth 100000 in
/-- a node with a value -/
theorem d203v {s : aS} {r : Nat → Int32} {e b m : Nat} {F : List Fw} {x : Int32} (hG : GM s r e F []) (hm : (fl F).length = m) (h8 : m < 128) (heb : e ≤ b) (h27 : r 27 = 0) : ∃ s' r', dm203_90 x (wP s r b) = some (wP s' r' b) ∧ GM s' r' b F [(m, setN (plF 2 0) 8 x, [])] ∧ (∀ k, k ≠ 21 → k ≠ 29 → r' k = r k) ∧ ch scr s s' := by
  have hfb := hG.fb
  have m1 : r 21 = Int32.ofNat m := by
    have := hG.1.1
    rw [List.append_nil, hm] at this
    exact this
  have c8 : r 29 = Int32.ofNat (nT F) := by
    rcases hG.2.2.2.2.2.2.2 with ⟨-, q⟩ | ⟨c, q, -⟩
    · exact q
    · have q : ([c] : List Nat) = [] := q
      cases q
  have bP : aB (Int32.ofNat (1024 + m)) 1152 := aB_of (by omega) (by omega)
  have jP : jN (Int32.ofNat (1024 + m)) = 1024 + m := jN_of (by omega)
  have eP : (1024 : Int32) + Int32.ofNat m = Int32.ofNat (1024 + m) := iSum (i := 1024) (j := m) (by omega) (by omega)
  have hc : ch (newB e m) s (wI (mkN s m 2) 136 (1024 + m) x) := ((mk_c s m 2).mono fun a k z => by unfold newB; omega).wI (by unfold newB; omega)
  refine ⟨wI (wI (mkN s m 2) 136 (1024 + m) x) 144 (nT F) (Int32.ofNat m), setN (setN r 21 (Int32.ofNat (m + 1))) 29 (Int32.ofNat (nT F + 1)), ?_, ?_, fun k k1 k2 => ?_, (hc.mono fun a k z => newB_scr z).wI (by unfold scr; omega)⟩
  · unfold dm203_90
    rw [wP_f (by decide), h27, if_pos rfl, d187 m1 h8]
    simp only [bv_some, eP, if_pos bP, jP, nx_eq]
    rw [wP_wI (by decide), d194 (c := nT F) (show setN r 21 (Int32.ofNat (m + 1)) 29 = Int32.ofNat (nT F) from c8) (by omega)]
    rfl
  · refine GM.leaf2 hG hm h8 rfl hc ⟨fun w hw => ?_, NMe.no (kd := 2) (by decide)⟩ rfl ?_ ?_ heb rfl rfl rfl rfl
    · show sI (wI (mkN s m 2) 136 (1024 + m) x) (128 + w) (1024 + m) = setN (plF 2 0) 8 x w
      rw [sI_wI]
      unfold setN
      by_cases z : w = 8
      · rw [if_pos (by omega), if_pos z]
      · rw [if_neg (by omega), if_neg z]
        exact mk_w (by omega)
    · rw [sI_wI, if_neg (by omega)]
      exact mk_k (Or.inl rfl)
    · rw [sI_wI, if_neg (by omega)]
      exact mk_k (Or.inr (Or.inr rfl))
  · unfold setN
    rw [if_neg k2, if_neg k1]
def clD (x w c f : Int32) : Nd := setN (setN (setN (setN (setN (setN (plF 4 0) 2 x) 3 w) 4 c) 5 w) 6 c) 7 f
set_option maxRecDepth 100000 in
/-- a cell -/
theorem d209 {s : aS} {r : Nat → Int32} {e b m : Nat} {F : List Fw} {x : Int32} (hG : GM s r e F []) (hm : (fl F).length = m) (h8 : m < 128) (heb : e ≤ b) : ∃ s' r', dm209 x (wP s r b) = some (wP s' r' b) ∧ GM s' r' b F [(m, clD x (r 39) (r 40) (r 41), [])] ∧ r' 34 = Int32.ofNat m ∧ (∀ k, k ≠ 21 → k ≠ 29 → k ≠ 34 → r' k = r k) ∧ ch scr s s' := by
  have hfb := hG.fb
  have m1 : r 21 = Int32.ofNat m := by
    have := hG.1.1
    rw [List.append_nil, hm] at this
    exact this
  have c8 : r 29 = Int32.ofNat (nT F) := by
    rcases hG.2.2.2.2.2.2.2 with ⟨-, q⟩ | ⟨c, q, -⟩
    · exact q
    · have q : ([c] : List Nat) = [] := q
      cases q
  have bP : aB (Int32.ofNat (1024 + m)) 1152 := aB_of (by omega) (by omega)
  have jP : jN (Int32.ofNat (1024 + m)) = 1024 + m := jN_of (by omega)
  have eP : (1024 : Int32) + Int32.ofNat m = Int32.ofNat (1024 + m) := iSum (i := 1024) (j := m) (by omega) (by omega)
  have hRI : RI (mkN s m 4) (1024 + m) (plF 4 0) := fun w hw => mk_w (by omega)
  have hRI2 := (((((hRI.set (w := 2) (v := x)).set (w := 3) (v := r 39)).set (w := 4) (v := r 40)).set (w := 5) (v := r 39)).set (w := 6) (v := r 40)).set (w := 7) (v := r 41)
  let s2 := wI (wI (wI (wI (wI (wI (mkN s m 4) 130 (1024 + m) x) 131 (1024 + m) (r 39)) 132 (1024 + m) (r 40)) 133 (1024 + m) (r 39)) 134 (1024 + m) (r 40)) 135 (1024 + m) (r 41)
  have hc : ch (newB e m) s s2 := ((((((((mk_c s m 4).mono fun a k z => by unfold newB; omega).wI (by unfold newB; omega)).wI (by unfold newB; omega)).wI (by unfold newB; omega)).wI (by unfold newB; omega)).wI (by unfold newB; omega)).wI (by unfold newB; omega))
  have h140 : ∀ a, 140 ≤ a → sI s2 a m = sI (mkN s m 4) a m := fun a ha => by
    show sI (wI (wI (wI (wI (wI (wI (mkN s m 4) 130 (1024 + m) x) 131 (1024 + m) (r 39)) 132 (1024 + m) (r 40)) 133 (1024 + m) (r 39)) 134 (1024 + m) (r 40)) 135 (1024 + m) (r 41)) a m = _
    rw [sI_wI, if_neg (by omega), sI_wI, if_neg (by omega), sI_wI, if_neg (by omega), sI_wI, if_neg (by omega), sI_wI, if_neg (by omega), sI_wI, if_neg (by omega)]
  refine ⟨wI s2 144 (nT F) (Int32.ofNat m), setN (setN (setN r 21 (Int32.ofNat (m + 1))) 29 (Int32.ofNat (nT F + 1))) 34 (Int32.ofNat m), ?_, ?_, rfl, fun k k1 k2 k3 => ?_, (hc.mono fun a k z => newB_scr z).wI (by unfold scr; omega)⟩
  · unfold dm209
    rw [d187 m1 h8]
    have q39 : setN r 21 (Int32.ofNat (m + 1)) 39 = r 39 := rfl
    have q40 : setN r 21 (Int32.ofNat (m + 1)) 40 = r 40 := rfl
    have q41 : setN r 21 (Int32.ofNat (m + 1)) 41 = r 41 := rfl
    simp only [bv_some, eP, if_pos bP, jP, nx_eq]
    rw [wP_wI (by decide), wP_f (by decide), q39, wP_wI (by decide), wP_f (by decide), q40, wP_wI (by decide), wP_f (by decide), q39, wP_wI (by decide), wP_f (by decide), q40, wP_wI (by decide), wP_f (by decide), q41, wP_wI (by decide), d194 (c := nT F) (show setN r 21 (Int32.ofNat (m + 1)) 29 = Int32.ofNat (nT F) from c8) (by omega)]
    simp only [bu_some]
    rw [wP_set (by decide)]
  · exact GM.leaf2 hG hm h8 rfl hc ⟨hRI2, NMe.no (kd := 4) (by decide)⟩ rfl ((h140 140 (by decide)).trans (mk_k (Or.inl rfl))) ((h140 142 (by decide)).trans (mk_k (Or.inr (Or.inr rfl)))) heb rfl rfl rfl rfl
  · unfold setN
    rw [if_neg k3, if_neg k2, if_neg k1]
end
section
/-! what a step of reading comes to: a wrong place, or a further state (place, what waits, operand, whether nothing may stand, whether a cell was last) -/
abbrev St : Type := Nat × List Fw × List NN × Int32 × Nat
def OUT (s : aS) (r : Nat → Int32) (D : Option aS) (X : Nat ⊕ St) : Prop := match X with
  | .inl p => ∃ s' r', D = some (wP s' r' p) ∧ r' 27 = 1 ∧ (∀ k, k ≤ 20 → r' k = r k) ∧ ch scr s s'
  | .inr z => ∃ s' r', D = some (wP s' r' z.1) ∧ GM s' r' z.1 z.2.1 z.2.2.1 ∧ r' 27 = 0 ∧ r' 35 = z.2.2.2.1 ∧ r' 36 = (if z.2.2.1.isEmpty = true then 1 else 0) ∧ r' 34 = (if z.2.2.2.2 = 1 then Int32.ofNat (hdI z.2.2.1) else -1) ∧ (∀ k, k ≤ 20 → r' k = r k) ∧ ch scr s s'
/-- what is so while an operand is read -/
def PR (s : aS) (r : Nat → Int32) (t : List Int32) (e : Nat) (F : List Fw) (m : Nat) : Prop := TX s r t ∧ GM s r e F [] ∧ (fl F).length = m ∧ m < 128 ∧ e ≤ t.length ∧ r 27 = 0 ∧ r 35 = 0 ∧ r 36 = 0 ∧ r 34 = -1 ∧ (sT s 147).2 = 256
set_option maxRecDepth 100000 in
theorem qt_sl {t : List Int32} : ∀ (m i : Nat) (u : List Int32) (e : Nat), qtG t 34 m i = some (u, e) → i < e ∧ e ≤ t.length ∧ sl t i e = dbl u ++ [34]
  | 0, i, u, e, h => by cases h
  | m + 1, i, u, e, h => by
    rw [qtG] at h
    by_cases c1 : t.length ≤ i
    · rw [if_pos c1] at h; cases h
    · rw [if_neg c1] at h
      by_cases c2 : t.getD i 0 = 34
      · rw [if_pos c2] at h
        by_cases c3 : t.getD (i + 1) 0 = 34
        · rw [if_pos c3] at h
          cases q : qtG t 34 m (i + 2) with
          | none => rw [q] at h; cases h
          | some p =>
            rw [q] at h
            have h : some (34 :: p.1, p.2) = some (u, e) := h
            cases h
            obtain ⟨a1, a2, a3⟩ := qt_sl m (i + 2) p.1 p.2 q
            refine ⟨by omega, a2, ?_⟩
            rw [sl_c (by omega) a2, sl_c (by omega) a2, c2, c3, a3]
            show _ = (if (34 : Int32) = 34 then 34 :: 34 :: dbl p.1 else 34 :: dbl p.1) ++ [34]
            rw [if_pos rfl]
            rfl
        · rw [if_neg c3] at h
          cases h
          refine ⟨by omega, by omega, ?_⟩
          rw [sl_c (by omega) (by omega), sl_n, c2]
          rfl
      · rw [if_neg c2] at h
        cases q : qtG t 34 m (i + 1) with
        | none => rw [q] at h; cases h
        | some p =>
          rw [q] at h
          have h : some (t.getD i 0 :: p.1, p.2) = some (u, e) := h
          cases h
          obtain ⟨a1, a2, a3⟩ := qt_sl m (i + 1) p.1 p.2 q
          refine ⟨by omega, a2, ?_⟩
          rw [sl_c (by omega) a2, a3]
          show _ = (if t.getD i 0 = 34 then 34 :: 34 :: dbl p.1 else t.getD i 0 :: dbl p.1) ++ [34]
          rw [if_neg c2]
          rfl
set_option maxRecDepth 100000 in
theorem scr147 {s s' : aS} (h : ch (fun a _ => a = 147) s s') : ch scr s s' := h.mono fun a k z => by unfold scr; omega
set_option maxRecDepth 100000 in
theorem PR.m1 {s : aS} {r : Nat → Int32} {t : List Int32} {e m : Nat} {F : List Fw} (h : PR s r t e F m) : r 21 = Int32.ofNat m ∧ r 29 = Int32.ofNat (nT F) ∧ nT F ≤ 128 := by
  obtain ⟨h1, hG, hm, -⟩ := h
  refine ⟨?_, ?_, hG.fb.2.1⟩
  · have := hG.1.1
    rw [List.append_nil, hm] at this
    exact this
  · rcases hG.2.2.2.2.2.2.2 with ⟨-, q⟩ | ⟨c, q, -⟩
    · exact q
    · have q : ([c] : List Nat) = [] := q
      cases q
set_option maxRecDepth 100000 in
/-- a text -/
theorem d201 {s : aS} {r : Nat → Int32} {t : List Int32} {e i m : Nat} {F : List Fw} (h : PR s r t e F m) (hei : e ≤ i) (hi : i < t.length) (hc : t.getD i 0 = 34) : OUT s r (dm201 (wP s r i)) (match qtA t 34 i with
    | none => .inl t.length
    | some (u, e2) => .inr (e2, F, [(m, plF 1 0, u)], 0, 0)) := by
  obtain ⟨m1, c8, hnT⟩ := h.m1
  obtain ⟨hT, hG, hm, h8, het, h27, h35, h36, h34, h147⟩ := h
  unfold dm201
  rw [wP_at]
  rcases d202 (q := 34) (by decide) hT h147 hi with ⟨a1, s1, v, a2, a3⟩ | ⟨u, e2, s1, a1, a2, a3, a4, a5, a6⟩
  · rw [a1]
    refine ⟨s1, setN (setN r 38 v) 27 1, ?_, rfl, fun k hk => ?_, scr147 a3⟩
    · rw [a2]
      simp only [bu_some]
      rw [wP_f (by decide), show setN (setN r 38 v) 27 1 27 = 1 from rfl, if_neg (by decide)]
    · unfold setN
      rw [if_neg (by omega), if_neg (by omega)]
  · rw [a1]
    obtain ⟨b1, b2, b3⟩ := qt_sl 300 (i + 1) u e2 a1
    have hsl : sl t i e2 = 34 :: (dbl u ++ [34]) := by rw [sl_c (by omega) b2, hc, b3]
    have hT1 : TX s1 (setN (setN r 38 (Int32.ofNat u.length)) 21 (Int32.ofNat (m + 1))) t := (((hT.fr a6 (fun k => by decide)).set 38 _ (by decide)).set 21 _ (by decide))
    obtain ⟨s2, d1, d2, d3, d4, d5, d6⟩ := mkK (e := e) (kd := 1) (g := 0) hT1 h8 hei (by omega) b2
    rw [kpF0, hsl] at d3
    have hcs : ch (newB e m) s s2 := (a6.mono fun a k z => by unfold newB; omega).trans d6
    refine ⟨wI s2 144 (nT F) (Int32.ofNat m), setN (setN (setN r 38 (Int32.ofNat u.length)) 21 (Int32.ofNat (m + 1))) 29 (Int32.ofNat (nT F + 1)), ?_, ?_, h27, h35, h36, h34, fun k hk => ?_, (hcs.mono fun a k z => newB_scr z).wI (by unfold scr; omega)⟩
    · rw [a4]
      simp only [bu_some]
      rw [wP_f (by decide), show setN r 38 (Int32.ofNat u.length) 27 = r 27 from rfl, h27, if_pos rfl, d187 (m := m) (show setN r 38 (Int32.ofNat u.length) 21 = Int32.ofNat m from m1) h8]
      simp only [bv_some]
      rw [d1]
      simp only [bu_some]
      rw [d194 (c := nT F) (show setN (setN r 38 (Int32.ofNat u.length)) 21 (Int32.ofNat (m + 1)) 29 = Int32.ofNat (nT F) from c8) (by omega)]
      rfl
    · refine GM.leaf2 hG hm h8 rfl hcs ⟨d2, fun q => ?_, fun _ => d3, fun q => ?_⟩ rfl d4 d5 (by omega) rfl rfl rfl rfl
      · have q : (1 : Int32) = 0 ∨ (1 : Int32) = 6 ∨ (1 : Int32) = 7 := q
        exact absurd q (by decide)
      · have q : ¬ ((1 : Int32) = 0 ∨ (1 : Int32) = 1 ∨ (1 : Int32) = 6 ∨ (1 : Int32) = 7) := q
        exact absurd (by decide) q
    · unfold setN
      rw [if_neg (by omega), if_neg (by omega), if_neg (by omega)]
set_option maxRecDepth 100000 in
/-- a cell that must come at place j -/
noncomputable def mCell (t : List Int32) (F : List Fw) (m : Nat) (x : Int32) (j : Nat) : Nat ⊕ St := if b01 (cOk t j) = 0 then .inl (cB t j) else .inr (cE t j, F, [(m, clD x (Int32.ofNat (cW t j)) (Int32.ofNat (cK t j).2.1) (Int32.ofNat (cFl t j)), [])], 0, 1)
set_option maxRecDepth 100000 in
theorem OUT.c {s s1 : aS} {r r1 : Nat → Int32} {D D' : Option aS} {X : Nat ⊕ St} (h : OUT s1 r1 D X) (hc : ch scr s s1) (hr : ∀ k, k ≤ 20 → r1 k = r k) (hD : D' = D) : OUT s r D' X := by
  subst hD
  cases X with
  | inl p =>
    obtain ⟨s', r', a1, a2, a3, a4⟩ := h
    exact ⟨s', r', a1, a2, fun k hk => (a3 k hk).trans (hr k hk), hc.trans a4⟩
  | inr z =>
    obtain ⟨s', r', a1, a2, a3, a4, a5, a6, a7, a8⟩ := h
    exact ⟨s', r', a1, a2, a3, a4, a5, a6, fun k hk => (a7 k hk).trans (hr k hk), hc.trans a8⟩
set_option maxRecDepth 100000 in
theorem d207c {s : aS} {r : Nat → Int32} {t : List Int32} {e j m : Nat} {F : List Fw} {x : Int32} {K : aS → Option aS} (h : PR s r t e F m) (hej : e ≤ j) (hj : j ≤ t.length) (hK : ∀ s1 r1 i1, r1 27 = 0 → K (wP s1 r1 i1) = bu (dm209 x (wP s1 r1 i1)) some) (hK1 : ∀ s1 r1 i1, r1 27 = 1 → K (wP s1 r1 i1) = some (wP s1 r1 i1)) : OUT s r (bu (dm207 (wP s r j)) K) (mCell t F m x j) := by
  obtain ⟨hT, hG, hm, h8, het, h27, h35, h36, h34, h147⟩ := h
  unfold mCell
  rcases d207 hT hj with ⟨g, c, f, q⟩ | ⟨g, q⟩
  · rw [if_pos (b01_ne.mpr g)]
    refine ⟨s, setN (cR r 0 c f) 27 1, ?_, rfl, fun k hk => ?_, ch.refl _ s⟩
    · rw [q]
      simp only [bu_some]
      rw [hK1 _ _ _ rfl]
    · unfold setN
      rw [if_neg (by omega)]
      exact cR_n (by omega)
  · rw [if_neg (fun z => b01_ne.mp z g)]
    obtain ⟨o1, o2, o3, o4, o5⟩ := cOk_b hj g
    have hG2 : GM s (cR r (Int32.ofNat (cW t j)) (Int32.ofNat (cK t j).2.1) (Int32.ofNat (cFl t j))) e F [] := hG.at (Nat.le_refl _) (cR_n (by decide)) (cR_n (by decide)) (cR_n (by decide)) (cR_n (by decide))
    obtain ⟨s', r', d1, d2, d3, d4, d5⟩ := d209 (x := x) (b := cE t j) hG2 hm h8 (by omega)
    refine ⟨s', r', ?_, d2, (d4 27 (by decide) (by decide) (by decide)).trans ((cR_n (by decide)).trans h27), (d4 35 (by decide) (by decide) (by decide)).trans ((cR_n (by decide)).trans h35), (d4 36 (by decide) (by decide) (by decide)).trans ((cR_n (by decide)).trans h36), d3, fun k hk => (d4 k (by omega) (by omega) (by omega)).trans (cR_n (by omega)), d5⟩
    rw [q]
    simp only [bu_some]
    rw [hK _ _ _ ((cR_n (by decide)).trans h27), d1]
    rfl
end
section
/-! prefixes and words, in the reference -/
def SX (s : aS) (r : Nat → Int32) (ns : List (List Int32)) : Prop := (r 3 = Int32.ofNat ns.length ∧ ∀ i (h : i < ns.length), sI s 123 i = Int32.ofNat ns[i].length ∧ ∀ j (g : j < ns[i].length), sI s 124 (32 * i + j) = ns[i][j]) ∧ nsOk ns ∧ (sT s 122).2 = 256
set_option maxRecDepth 100000 in
theorem SX.sm {s : aS} {r : Nat → Int32} {ns : List (List Int32)} (h : SX s r ns) (i : Nat) : SM (wP s r i) ns := ⟨(wP_f (by decide)).trans h.1.1, fun k hk => ⟨(wP_n (by decide)).trans (h.1.2 k hk).1, fun j hj => (wP_n (by decide)).trans ((h.1.2 k hk).2 j hj)⟩⟩
set_option maxRecDepth 100000 in
theorem SX.of {A : Nat → Nat → Prop} {s s' : aS} {r r' : Nat → Int32} {ns : List (List Int32)} (h : SX s r ns) (g : ch A s s') (hA : ∀ a k, A a k → a ≠ 123 ∧ a ≠ 124) (hr : r' 3 = r 3) : SX s' r' ns := ⟨⟨hr.trans h.1.1, fun k hk => ⟨(g.i fun q => (hA _ _ q).1 rfl).trans (h.1.2 k hk).1, fun j hj => (g.i fun q => (hA _ _ q).2 rfl).trans ((h.1.2 k hk).2 j hj)⟩⟩, h.2.1, by rw [g.2.1]; exact h.2.2⟩
def mSh (t : List Int32) (F : List Fw) (m : Nat) (x : Int32) (f e : Nat) (c : Nat ⊕ St) : Nat ⊕ St := if 0 ≤ x then c else .inl f
set_option maxRecDepth 100000 in
theorem d206 {s : aS} {r : Nat → Int32} {t : List Int32} {e i f m : Nat} {F : List Fw} {x : Int32} (h : PR s r t e F m) (hei : e ≤ i) (hi : i < t.length) : OUT s r (dm206 x (Int32.ofNat f) (wP s r i)) (mSh t F m x f i (mCell t F m x (i + 1))) := by
  have hl := h.1.1
  unfold dm206 mSh
  by_cases c : 0 ≤ x
  · rw [if_pos c, if_pos c, nx_eq, wP_at, ofNat_succ (by omega), wP_go]
    refine d207c h (by omega) (by omega) (fun s1 r1 i1 q => ?_) (fun s1 r1 i1 q => ?_)
    · rw [wP_f (by decide), q, if_pos rfl]
    · rw [wP_f (by decide), q, if_neg (by decide)]
  · rw [if_neg c, if_neg c, d186]
    refine ⟨s, setN r 27 1, rfl, rfl, fun k hk => ?_, ch.refl _ s⟩
    unfold setN
    rw [if_neg (by omega)]
set_option maxRecDepth 100000 in
noncomputable def mPre (t : List Int32) (ns : List (List Int32)) (F : List Fw) (m i : Nat) : Nat ⊕ St := match qtA t 39 i with
  | none => .inl t.length
  | some (u, e2) => if t.getD e2 0 = 33 then mSh t F m (fndF u ns 0) i e2 (mCell t F m (fndF u ns 0) (e2 + 1)) else .inl e2
set_option maxRecDepth 100000 in
theorem PR.of {A : Nat → Nat → Prop} {s s' : aS} {r r' : Nat → Int32} {t : List Int32} {e m : Nat} {F : List Fw} (h : PR s r t e F m) (g : ch A s s') (hA : ∀ a k, A a k → a = 147) (hr : ∀ k, k ≠ 38 → k ≠ 39 → k ≠ 40 → k ≠ 41 → r' k = r k) : PR s' r' t e F m := by
  obtain ⟨hT, hG, hm, h8, het, h27, h35, h36, h34, h147⟩ := h
  have pz : ∀ I, PZ s s' e I := fun I => ⟨fun q _ => g.i fun z => by have := hA _ _ z; omega, fun k _ => ⟨⟨fun w hw => g.i fun z => by have := hA _ _ z; omega, g.i fun z => by have := hA _ _ z; omega⟩, g.i fun z => by have := hA _ _ z; omega, g.i fun z => by have := hA _ _ z; omega⟩⟩
  obtain ⟨a1, a2, a3, a4, a5, a6, a7, a8⟩ := hG
  have hnF : (idL (fl F)).Nodup := by
    have := a7.1
    rw [List.append_nil] at this
    exact this
  refine ⟨⟨hT.1, (hr 1 (by decide) (by decide) (by decide) (by decide)).trans hT.2.1, fun j hj => (g.i fun z => by have := hA _ _ z; omega).trans (hT.2.2 j hj)⟩, ⟨⟨(hr 21 (by decide) (by decide) (by decide) (by decide)).trans a1.1, a1.2⟩, (hr 32 (by decide) (by decide) (by decide) (by decide)).trans a2, ⟨(hr 33 (by decide) (by decide) (by decide) (by decide)).trans a3.1, a3.2⟩, WS.of F a4 (fun q _ => ⟨g.i fun z => by have := hA _ _ z; omega, g.i fun z => by have := hA _ _ z; omega⟩), TS.of F a5 (fun q _ => g.i fun z => by have := hA _ _ z; omega), FrAll.of a6 hnF (pz _) (Nat.le_refl _), a7, ?_⟩, hm, h8, het, (hr 27 (by decide) (by decide) (by decide) (by decide)).trans h27, (hr 35 (by decide) (by decide) (by decide) (by decide)).trans h35, (hr 36 (by decide) (by decide) (by decide) (by decide)).trans h36, (hr 34 (by decide) (by decide) (by decide) (by decide)).trans h34, by rw [g.2.1]; exact h147⟩
  rcases a8 with ⟨b1, b2⟩ | ⟨c, b1, -⟩
  · exact Or.inl ⟨b1, (hr 29 (by decide) (by decide) (by decide) (by decide)).trans b2⟩
  · have b1 : ([c] : List Nat) = [] := b1
    cases b1
set_option maxRecDepth 100000 in
theorem d205 {s : aS} {r : Nat → Int32} {t : List Int32} {ns : List (List Int32)} {e i m : Nat} {F : List Fw} (h : PR s r t e F m) (hS : SX s r ns) (hei : e ≤ i) (hi : i < t.length) : OUT s r (dm205 (wP s r i)) (mPre t ns F m i) := by
  have hl := h.1.1
  have h27 := h.2.2.2.2.2.1
  unfold dm205 mPre
  rw [wP_at]
  rcases d202 (q := 39) (by decide) h.1 h.2.2.2.2.2.2.2.2.2 hi with ⟨a1, s1, v, a2, a3⟩ | ⟨u, e2, s1, a1, a2, a3, a4, a5, a6⟩
  · rw [a1]
    refine ⟨s1, setN (setN r 38 v) 27 1, ?_, rfl, fun k hk => ?_, scr147 a3⟩
    · rw [a2]
      simp only [bu_some]
      rw [wP_f (by decide), show setN (setN r 38 v) 27 1 27 = 1 from rfl, if_neg (by decide)]
    · unfold setN
      rw [if_neg (by omega), if_neg (by omega)]
  · rw [a1]
    have hP1 : PR s1 (setN r 38 (Int32.ofNat u.length)) t e F m := h.of a6 (fun a k z => z) (fun k k1 _ _ _ => if_neg k1)
    have hS1 : SX s1 (setN r 38 (Int32.ofNat u.length)) ns := hS.of a6 (fun a k z => by omega) rfl
    have hul : u.length ≤ 256 := by
      have := a5.1
      rw [hP1.2.2.2.2.2.2.2.2.2] at this
      omega
    rw [a4]
    simp only [bu_some]
    rw [wP_f (by decide), show setN r 38 (Int32.ofNat u.length) 27 = r 27 from rfl, h27, if_pos rfl, wP_at, rch hP1.1 (by omega)]
    simp only [bu_some]
    by_cases c : t.getD e2 0 = 33
    · simp only [if_pos c]
      have he2 : e2 < t.length := in_of (p := fun x => x = 33) (d := 0) (by decide) c
      have hRW : RW (wP s1 (setN r 38 (Int32.ofNat u.length)) e2) 147 0 u := ⟨a5.1, fun j hj => (wP_n (by decide)).trans (a5.2 j hj)⟩
      have e177 := d177 (hS1.sm e2) hS1.2.1 hRW (by omega)
      rw [wP_f (by decide), show setN r 38 (Int32.ofNat u.length) 38 = Int32.ofNat u.length from rfl, show (0 : Int32) = Int32.ofNat 0 from rfl, e177]
      simp only [bu_some]
      have := d206 (f := i) (x := fndF u ns 0) hP1 (by omega) he2
      refine this.c (scr147 a6) (fun k hk => if_neg (by omega)) ?_
      cases dm206 (fndF u ns 0) (Int32.ofNat i) (wP s1 (setN r 38 (Int32.ofNat u.length)) e2) <;> rfl
    · simp only [if_neg c]
      rw [d186]
      refine ⟨s1, setN (setN r 38 (Int32.ofNat u.length)) 27 1, rfl, rfl, fun k hk => ?_, scr147 a6⟩
      unfold setN
      rw [if_neg (by omega), if_neg (by omega)]
set_option maxRecDepth 100000 in
/-- where the word that begins at i ends -/
noncomputable def wdE (t : List Int32) (i : Nat) : Nat := i + cntF gW (t.drop i)
set_option maxRecDepth 100000 in
theorem gW0 : ¬ gW 0 := by unfold gW isL isD; decide
set_option maxRecDepth 100000 in
theorem d210l {s : aS} {r : Nat → Int32} {t : List Int32} {x : Int32} (h : TX s r t) : ∀ (m i n : Nat), t.length ≤ i + m → i ≤ 300 → m < n → ∃ n', dm210_3 n x (wP s r i) = dm210_3 (n' + 1) x (wP s r (wdE t i)) := by
  have hl := h.1
  intro m
  induction m with
  | zero =>
    intro i n h1 h2 h3
    obtain ⟨n, rfl⟩ : ∃ q, n = q + 1 := ⟨n - 1, by omega⟩
    have e : wdE t i = i := by
      unfold wdE
      rw [cnt_n (p := gW) (d := 0) (by rw [getD_out (by omega)]; exact gW0)]
      rfl
    exact ⟨n, by rw [e]⟩
  | succ m ih =>
    intro i n h1 h2 h3
    obtain ⟨n, rfl⟩ : ∃ q, n = q + 1 := ⟨n - 1, by omega⟩
    by_cases c : gW (t.getD i 0)
    · obtain ⟨g1, g2⟩ := cnt_y gW0 c
      obtain ⟨n', e1⟩ := ih (i + 1) n (by omega) (by omega) (by omega)
      have e : wdE t (i + 1) = wdE t i := by unfold wdE; omega
      refine ⟨n', ?_⟩
      rw [← e, ← e1, dm210_3, wP_at, rch h (by omega)]
      simp only [bu_some, d211]
      rw [if_neg (fun q => b01_ne.mp q c), nx_eq, ofNat_succ (by omega), wP_go]
    · have e : wdE t i = i := by
        unfold wdE
        rw [cnt_n (p := gW) c]
        rfl
      exact ⟨n, by rw [e]⟩
set_option maxRecDepth 100000 in
theorem wd_b {t : List Int32} {i : Nat} (hi : i ≤ t.length) : i ≤ wdE t i ∧ wdE t i ≤ t.length ∧ ¬ gW (t.getD (wdE t i) 0) := by
  have := cnt_b (p := gW) (t := t) (i := i)
  refine ⟨?_, ?_, cnt_end gW0 t.length i (by omega)⟩
  all_goals
    unfold wdE
    omega
end
section
/-! words whole, in the reference -/
set_option maxRecDepth 100000 in
/-- a word with $ behind it -/
noncomputable def mDol (t : List Int32) (F : List Fw) (m i e : Nat) : Nat ⊕ St := if lo t i e < e - i ∨ 3 < lo t i e ∨ 16384 < cv4 t (lo t i e) i then .inl e else if b01 (rowB t (e + dlR t e)) = 0 then .inl (e + dlR t e) else .inr ((rwG t 300 (e + dlR t e) 0).2, F, [(m, clD (-1) (Int32.ofNat (rwG t 300 (e + dlR t e) 0).1) (Int32.ofNat (cv4 t (lo t i e) i)) (Int32.ofNat (0 + dlR t e)), [])], 0, 1)
set_option maxRecDepth 100000 in
theorem d210d {s : aS} {r : Nat → Int32} {t : List Int32} {e0 i e m : Nat} {F : List Fw} (h : PR s r t e0 F m) (hei : e0 ≤ i) (hie : i ≤ e) (he : e ≤ t.length) : OUT s r (bu (dm212 (Int32.ofNat i) (Int32.ofNat e) (wP s r e)) fun r14 =>
        nx (wI (wP s r e) 121 41 0) fun s15 =>
        nx (wI s15 121 39 0) fun s18 =>
        bu (dm213 (Int32.ofNat i) r14 s18) fun r23 =>
        nx (wI s18 121 40 r23) fun s24 =>
        if r14 < (Int32.ofNat e - Int32.ofNat i) then
          dm210_53 (Int32.ofNat e) s24
        else
          if 3 < r14 then
            dm210_53 (Int32.ofNat e) s24
          else
            if (sI s24 121 40) ≤ 16384 then
              bu (dm208 s24) fun s32 =>
              if (sI s32 121 27) = 0 then
                bu (dm209 (-1) s32) fun s36 =>
                dm210_65 s36
              else
                dm210_65 s32
            else
              dm210_53 (Int32.ofNat e) s24) (mDol t F m i e) := by
  obtain ⟨hT, hG, hm, h8, het, h27, h35, h36, h34, h147⟩ := h
  have hl := hT.1
  have hb := lo_b t i e
  have hL : ∀ q, q < lo t i e → isL (t.getD (i + q) 0) := fun q hq => lo_is (e := e) hq
  have hcb := cv4_b hL
  have hT2 : TX s (setN (setN r 41 0) 39 0) t := (hT.set 41 _ (by decide)).set 39 _ (by decide)
  have es : Int32.ofNat e - Int32.ofNat i = Int32.ofNat (e - i) := by
    rw [iEq, iSub (by rw [iOfNat (by omega), iOfNat (by omega)]; omega) (by rw [iOfNat (by omega), iOfNat (by omega)]; omega), iOfNat (by omega), iOfNat (by omega), iOfNat (by omega)]
    omega
  have eR : setN (setN (setN r 41 0) 39 0) 40 (Int32.ofNat (cv4 t (lo t i e) i)) = cR r 0 (Int32.ofNat (cv4 t (lo t i e) i)) (Int32.ofNat 0) := by
    unfold cR
    rw [setN_c (by decide)]
    rfl
  rw [d212 hT hie he]
  simp only [bu_some, nx_eq]
  rw [wP_set (by decide), wP_set (by decide), d213 hT2 hL (by omega)]
  simp only [bu_some, nx_eq]
  rw [wP_set (by decide), eR, es]
  have k1 : Int32.ofNat (lo t i e) < Int32.ofNat (e - i) ↔ lo t i e < e - i := nlt_iff (by omega) (by omega)
  have k2 : 3 < Int32.ofNat (lo t i e) ↔ 3 < lo t i e := nlt_iff (a := 3) (by omega) (by omega)
  have k3 : Int32.ofNat (cv4 t (lo t i e) i) ≤ 16384 ↔ cv4 t (lo t i e) i ≤ 16384 := nle_iff (b := 16384) (by omega) (by omega)
  have bad : OUT s r (dm210_53 (Int32.ofNat e) (wP s (cR r 0 (Int32.ofNat (cv4 t (lo t i e) i)) (Int32.ofNat 0)) e)) (.inl e) := by
    unfold dm210_53
    rw [d186]
    refine ⟨s, setN (cR r 0 (Int32.ofNat (cv4 t (lo t i e) i)) (Int32.ofNat 0)) 27 1, rfl, rfl, fun k hk => ?_, ch.refl _ s⟩
    unfold setN
    rw [if_neg (by omega)]
    exact cR_n (by omega)
  unfold mDol
  by_cases c1 : lo t i e < e - i
  · rw [if_pos (k1.mpr c1), if_pos (Or.inl c1)]
    exact bad
  · rw [if_neg (fun q => c1 (k1.mp q))]
    by_cases c2 : 3 < lo t i e
    · rw [if_pos (k2.mpr c2), if_pos (Or.inr (Or.inl c2))]
      exact bad
    · rw [if_neg (fun q => c2 (k2.mp q)), wP_f (by decide), cR_c]
      by_cases c3 : 16384 < cv4 t (lo t i e) i
      · rw [if_neg (fun q => by have := k3.mp q; omega), if_pos (Or.inr (Or.inr c3))]
        exact bad
      · rw [if_pos (k3.mpr (by omega)), if_neg (by rintro (q | q | q); exact c1 q; exact c2 q; exact c3 q), d208 hT he (by omega)]
        simp only [bu_some]
        have hd := dlR_b he
        by_cases g : rowB t (e + dlR t e)
        · simp only [if_neg (fun q => b01_ne.mp q g)]
          obtain ⟨w1, w2, w3⟩ := rw_pos g
          obtain ⟨v1, v2, v3, v4⟩ := rwG_b (t := t) 300 (e + dlR t e) 0 (by omega) (by omega)
          have hG2 : GM s (cR r (Int32.ofNat (rwG t 300 (e + dlR t e) 0).1) (Int32.ofNat (cv4 t (lo t i e) i)) (Int32.ofNat (0 + dlR t e))) e0 F [] := hG.at (Nat.le_refl _) (cR_n (by decide)) (cR_n (by decide)) (cR_n (by decide)) (cR_n (by decide))
          obtain ⟨s', r', d1, d2, d3, d4, d5⟩ := d209 (x := -1) (b := (rwG t 300 (e + dlR t e) 0).2) hG2 hm h8 (by omega)
          refine ⟨s', r', ?_, d2, (d4 27 (by decide) (by decide) (by decide)).trans ((cR_n (by decide)).trans h27), (d4 35 (by decide) (by decide) (by decide)).trans ((cR_n (by decide)).trans h35), (d4 36 (by decide) (by decide) (by decide)).trans ((cR_n (by decide)).trans h36), d3, fun k hk => (d4 k (by omega) (by omega) (by omega)).trans (cR_n (by omega)), d5⟩
          rw [wP_f (by decide), cR_n (by decide), h27, if_pos rfl, d1]
          rfl
        · simp only [if_pos (b01_ne.mpr g)]
          refine ⟨s, setN (cR r 0 (Int32.ofNat (cv4 t (lo t i e) i)) (Int32.ofNat (0 + dlR t e))) 27 1, ?_, rfl, fun k hk => ?_, ch.refl _ s⟩
          · rw [wP_f (by decide), show setN (cR r 0 (Int32.ofNat (cv4 t (lo t i e) i)) (Int32.ofNat (0 + dlR t e))) 27 1 27 = 1 from rfl, if_neg (by decide)]
            rfl
          · unfold setN
            rw [if_neg (by omega)]
            exact cR_n (by omega)
/-- a call's word -/
def mCal (t : List Int32) (F : List Fw) (m i e : Nat) : Nat ⊕ St := if nO F = 32 then .inl e else .inr (e + 1, (7, (m, plF 7 0, (sl t i e).map gr), [], []) :: F, [], 1, 0)
set_option maxRecDepth 100000 in
theorem d210c {s : aS} {r : Nat → Int32} {t : List Int32} {e0 i e m : Nat} {F : List Fw} (h : PR s r t e0 F m) (hei : e0 ≤ i) (hie : i ≤ e) (he : e ≤ t.length) : OUT s r (bv (dm187 7 (wP s r e)) fun r54 s53 =>
            bu (dm200 r54 (Int32.ofNat i) 1 s53) fun s57 =>
            if (sI s57 121 33) = 32 then
              bu (dm186 (Int32.ofNat e) s57) fun s61 =>
              some s61
            else
              bu (dm188 7 r54 s57) fun s64 =>
              nx (wI s64 121 33 ((sI s64 121 33) + 1)) fun s65 =>
              nx (wI s65 121 26 ((sI s65 121 26) + 1)) fun s68 =>
              nx (wI s68 121 35 1) fun s71 =>
              nx (wI s71 121 36 1) fun s74 =>
              some s74) (mCal t F m i e) := by
  obtain ⟨m1, c8, hnT⟩ := h.m1
  obtain ⟨hT, hG, hm, h8, het, h27, h35, h36, h34, h147⟩ := h
  have hl := hT.1
  have hfb := hG.fb
  have a3 : r 33 = Int32.ofNat (nO F) := hG.2.2.1.1
  have hO := hG.2.2.1.2
  have a2 : r 32 = Int32.ofNat F.length := hG.2.1
  obtain ⟨s2, d1, d2, d3, d4, d5, d6⟩ := mkK (e := e0) (kd := 7) (g := 1) (hT.set 21 (Int32.ofNat (m + 1)) (by decide)) h8 hei hie he
  rw [kpF1] at d3
  rw [d187 m1 h8]
  simp only [bv_some]
  rw [d1]
  simp only [bu_some]
  rw [wP_f (by decide), show setN r 21 (Int32.ofNat (m + 1)) 33 = r 33 from rfl, a3]
  unfold mCal
  by_cases c : nO F = 32
  · rw [if_pos (show Int32.ofNat (nO F) = 32 by rw [c]; rfl), if_pos c, d186]
    refine ⟨s2, setN (setN r 21 (Int32.ofNat (m + 1))) 27 1, rfl, rfl, fun k hk => ?_, d6.mono fun a k z => newB_scr z⟩
    unfold setN
    rw [if_neg (by omega), if_neg (by omega)]
  · rw [if_neg (show ¬ Int32.ofNat (nO F) = 32 from fun q => c ((neq_iff (b := 32) (by omega) (by omega)).mp q)), if_neg c, d188 (w := F.length) (show setN r 21 (Int32.ofNat (m + 1)) 32 = Int32.ofNat F.length from a2) (by omega)]
    simp only [bu_some, nx_eq]
    rw [wP_f (show (33 : Nat) ≠ 26 by decide), show setN (setN r 21 (Int32.ofNat (m + 1))) 32 (Int32.ofNat (F.length + 1)) 33 = r 33 from rfl, a3, ofNat_succ (n := nO F) (by omega), wP_set (by decide), wP_at, ofNat_succ (n := e) (by omega), wP_go, wP_set (by decide), wP_set (by decide)]
    refine ⟨wI (wI s2 145 F.length 7) 146 F.length (Int32.ofNat m), setN (setN (setN (setN (setN r 21 (Int32.ofNat (m + 1))) 32 (Int32.ofNat (F.length + 1))) 33 (Int32.ofNat (nO F + 1))) 35 1) 36 1, rfl, ?_, h27, rfl, rfl, h34, fun k hk => ?_, ((d6.mono fun a k z => newB_scr z).wI (by unfold scr; omega)).wI (by unfold scr; omega)⟩
    · refine GM.hnd hG hm h8 rfl (Or.inl rfl) rfl (fun _ => by omega) (((d6.mono fun a k z => ?_).wI ?_).wI ?_) (fun q hq => ⟨?_, ?_⟩) ?_ ?_ (fun q hq => ?_) (NR.of (s := s2) ⟨d2, NMe.le (kd := 7) (Or.inr (Or.inr rfl)) d3⟩ ⟨fun w hw => ?_, ?_⟩ (fun q _ => ?_) (show e ≤ e + 1 by omega)) rfl ?_ ?_ (by omega) rfl rfl rfl ?_
      · unfold newB at z
        unfold newA
        omega
      · unfold newA
        omega
      · unfold newA
        omega
      · rw [sI_wI, if_neg (by omega), sI_wI, if_neg (by omega)]
        exact d6.i (by unfold newB; omega)
      · rw [sI_wI, if_neg (by omega), sI_wI, if_neg (by omega)]
        exact d6.i (by unfold newB; omega)
      · rw [sI_wI, if_neg (by omega), sI_wI, if_pos ⟨rfl, rfl⟩]
      · rw [sI_wI, if_pos ⟨rfl, rfl⟩]
      · rw [sI_wI, if_neg (by omega), sI_wI, if_neg (by omega)]
        exact d6.i (by unfold newB; omega)
      · rw [sI_wI, if_neg (by omega), sI_wI, if_neg (by omega)]
      · rw [sI_wI, if_neg (by omega), sI_wI, if_neg (by omega)]
      · rw [sI_wI, if_neg (by omega), sI_wI, if_neg (by omega)]
      · rw [sI_wI, if_neg (by omega), sI_wI, if_neg (by omega)]
        exact d4
      · rw [sI_wI, if_neg (by omega), sI_wI, if_neg (by omega)]
        exact d5
      · show Int32.ofNat (nO F + 1) = Int32.ofNat (nO F + (if (7 : Int32) = 100 ∨ (7 : Int32) = 7 then 1 else 0))
        rw [if_pos (Or.inr rfl)]
    · unfold setN
      rw [if_neg (by omega), if_neg (by omega), if_neg (by omega), if_neg (by omega), if_neg (by omega)]
set_option maxRecDepth 100000 in
/-- truths and names -/
noncomputable def mNam (t : List Int32) (F : List Fw) (m i e : Nat) : Nat ⊕ St := .inr (e, F, [if b01 (e = i + 4 ∧ spQ t trL i 4 0) = 0 then (if b01 (e = i + 5 ∧ spQ t faL i 5 0) = 0 then (m, plF 6 0, (sl t i e).map gr) else (m, setN (plF 3 0) 8 0, [])) else (m, setN (plF 3 0) 8 1, [])], 0, 0)
set_option maxRecDepth 100000 in
theorem d210n {s : aS} {r : Nat → Int32} {t : List Int32} {e0 i e m : Nat} {F : List Fw} (h : PR s r t e0 F m) (hei : e0 ≤ i) (hie : i ≤ e) (he : e ≤ t.length) : OUT s r (bu (dm215 (Int32.ofNat i) (Int32.ofNat e) 1414681925 4 (wP s r e)) fun r84 =>
              bu (dm215 (Int32.ofNat i) (Int32.ofNat e) 301743231813 5 (wP s r e)) fun r87 =>
              if r84 = 0 then
                if r87 = 0 then
                  dm210_161 (Int32.ofNat i) r84 r87 6 (wP s r e)
                else
                  dm210_158 (Int32.ofNat i) r84 r87 (wP s r e)
              else
                dm210_158 (Int32.ofNat i) r84 r87 (wP s r e)) (mNam t F m i e) := by
  obtain ⟨m1, c8, hnT⟩ := h.m1
  obtain ⟨hT, hG, hm, h8, het, h27, h35, h36, h34, h147⟩ := h
  have hl := hT.1
  have bP : aB (Int32.ofNat (1024 + m)) 1152 := aB_of (by omega) (by omega)
  have jP : jN (Int32.ofNat (1024 + m)) = 1024 + m := jN_of (by omega)
  have eP : (1024 : Int32) + Int32.ofNat m = Int32.ofNat (1024 + m) := iSum (i := 1024) (j := m) (by omega) (by omega)
  rw [d215t hT hie he, d215f hT hie he]
  simp only [bu_some]
  unfold mNam dm210_158 dm210_161 dm210_173 dm210_183
  have truth : ∀ v : Int32, OUT s r (some (wP (wI (wI (mkN s m 3) 136 (1024 + m) v) 144 (nT F) (Int32.ofNat m)) (setN (setN r 21 (Int32.ofNat (m + 1))) 29 (Int32.ofNat (nT F + 1))) e)) (.inr (e, F, [(m, setN (plF 3 0) 8 v, [])], 0, 0)) := by
    intro v
    have hc : ch (newB e0 m) s (wI (mkN s m 3) 136 (1024 + m) v) := ((mk_c s m 3).mono fun a k z => by unfold newB; omega).wI (by unfold newB; omega)
    refine ⟨_, _, rfl, ?_, h27, h35, h36, h34, fun k hk => ?_, (hc.mono fun a k z => newB_scr z).wI (by unfold scr; omega)⟩
    · refine GM.leaf2 hG hm h8 rfl hc ⟨fun w hw => ?_, NMe.no (kd := 3) (by decide)⟩ rfl ?_ ?_ (show e0 ≤ e by omega) rfl rfl rfl rfl
      · show sI (wI (mkN s m 3) 136 (1024 + m) v) (128 + w) (1024 + m) = setN (plF 3 0) 8 v w
        rw [sI_wI]
        unfold setN
        by_cases z : w = 8
        · rw [if_pos (by omega), if_pos z]
        · rw [if_neg (by omega), if_neg z]
          exact mk_w (by omega)
      · rw [sI_wI, if_neg (by omega)]
        exact mk_k (Or.inl rfl)
      · rw [sI_wI, if_neg (by omega)]
        exact mk_k (Or.inr (Or.inr rfl))
    · unfold setN
      rw [if_neg (by omega), if_neg (by omega)]
  have e29 : setN r 21 (Int32.ofNat (m + 1)) 29 = Int32.ofNat (nT F) := c8
  by_cases g1 : e = i + 4 ∧ spQ t trL i 4 0
  · simp only [b01_t g1]
    rw [if_neg (by decide), if_neg (by decide), d187 m1 h8]
    simp only [bv_some, eP]
    rw [if_neg (by decide)]
    simp only [if_pos bP, jP, nx_eq]
    rw [wP_wI (by decide), if_neg (by decide), d194 (c := nT F) e29 (by omega)]
    exact truth 1
  · simp only [b01_f g1]
    rw [if_pos trivial, if_pos trivial]
    by_cases g2 : e = i + 5 ∧ spQ t faL i 5 0
    · simp only [b01_t g2]
      rw [if_neg (by decide), if_neg (by decide), d187 m1 h8]
      simp only [bv_some, eP]
      rw [if_pos trivial]
      simp only [if_pos bP, jP, nx_eq]
      rw [wP_wI (by decide), if_pos trivial, if_neg (by decide), d194 (c := nT F) e29 (by omega)]
      exact truth 0
    · simp only [b01_f g2]
      rw [if_pos trivial, if_pos trivial, d187 m1 h8]
      simp only [bv_some, eP]
      rw [if_pos trivial]
      simp only [if_pos bP, jP, nx_eq]
      rw [wP_wI (by decide), if_pos trivial, if_pos trivial]
      have same : wI (mkN s m 6) 136 (1024 + m) 0 = mkN s m 6 := by
        have z : sI (mkN s m 6) 136 (1024 + m) = 0 := mk_w (w := 8) (by decide)
        have : fu (mkN s m 6).2.2.1 136 (1024 + m) 0 = (mkN s m 6).2.2.1 := by
          funext a k
          show (if a = 136 ∧ k = 1024 + m then 0 else (mkN s m 6).2.2.1 a k) = (mkN s m 6).2.2.1 a k
          by_cases q : a = 136 ∧ k = 1024 + m
          · rw [if_pos q, q.1, q.2]
            exact z.symm
          · rw [if_neg q]
        show (((mkN s m 6).1, (mkN s m 6).2.1, fu (mkN s m 6).2.2.1 136 (1024 + m) 0, (mkN s m 6).2.2.2) : aS) = mkN s m 6
        rw [this]
      rw [same]
      obtain ⟨s2, d1, d2, d3, d4, d5, d6⟩ := mkK (e := e0) (kd := 6) (g := 1) (hT.set 21 (Int32.ofNat (m + 1)) (by decide)) h8 hei hie he
      rw [kpF1] at d3
      rw [d1]
      simp only [bu_some]
      rw [d194 (c := nT F) e29 (by omega)]
      refine ⟨wI s2 144 (nT F) (Int32.ofNat m), _, rfl, ?_, h27, h35, h36, h34, fun k hk => ?_, (d6.mono fun a k z => newB_scr z).wI (by unfold scr; omega)⟩
      · exact GM.leaf2 hG hm h8 rfl d6 ⟨d2, NMe.le (kd := 6) (Or.inr (Or.inl rfl)) d3⟩ rfl d4 d5 (show e0 ≤ e by omega) rfl rfl rfl rfl
      · unfold setN
        rw [if_neg (by omega), if_neg (by omega)]
end
section
/-! operands, in the reference -/
set_option maxRecDepth 100000 in
noncomputable def mWord (t : List Int32) (ns : List (List Int32)) (F : List Fw) (m i : Nat) : Nat ⊕ St := if t.getD (wdE t i) 0 = 36 then mDol t F m i (wdE t i) else if t.getD (wdE t i) 0 = 33 then mSh t F m (fndF (sl t i (wdE t i)) ns 0) i (wdE t i) (mCell t F m (fndF (sl t i (wdE t i)) ns 0) (wdE t i + 1)) else if t.getD (wdE t i) 0 = 40 then mCal t F m i (wdE t i) else match icR t i (wdE t i) with
  | some (w, c) => .inr (wdE t i, F, [(m, clD (-1) (Int32.ofNat w) (Int32.ofNat c) 0, [])], 0, 1)
  | none => mNam t F m i (wdE t i)
set_option maxRecDepth 100000 in
theorem d210 {s : aS} {r : Nat → Int32} {t : List Int32} {ns : List (List Int32)} {e i m : Nat} {F : List Fw} (h : PR s r t e F m) (hS : SX s r ns) (hei : e ≤ i) (hi : i < t.length) : OUT s r (dm210 (wP s r i)) (mWord t ns F m i) := by
  have hl := h.1.1
  obtain ⟨w1, w2, w3⟩ := wd_b (t := t) (i := i) (by omega)
  obtain ⟨n', q⟩ := d210l (x := Int32.ofNat i) h.1 t.length i 5000 (by omega) (by omega) (by omega)
  unfold dm210
  rw [wP_at, q]
  unfold mWord
  generalize wdE t i = e2 at *
  rw [dm210_3]
  simp only [wP_at, rch h.1 (show e2 < 100000 by omega), bu_some, d211]
  rw [if_pos (b01_ne.mpr w3)]
  by_cases c1 : t.getD e2 0 = 36
  · rw [if_pos c1, if_pos c1]
    exact d210d h hei w1 w2
  · rw [if_neg c1, if_neg c1]
    by_cases c2 : t.getD e2 0 = 33
    · rw [if_pos c2, if_pos c2]
      have he2 : e2 < t.length := in_of (p := fun x => x = 33) (d := 0) (by decide) c2
      have es : Int32.ofNat e2 - Int32.ofNat i = Int32.ofNat (sl t i e2).length := by
        rw [sl_len w1 w2, iEq, iSub (by rw [iOfNat (by omega), iOfNat (by omega)]; omega) (by rw [iOfNat (by omega), iOfNat (by omega)]; omega), iOfNat (by omega), iOfNat (by omega), iOfNat (by omega)]
        omega
      have hsl := sl_len w1 w2
      have hRW : RW (wP s r e2) 122 i (sl t i e2) := ⟨by show i + (sl t i e2).length ≤ (sT s 122).2; rw [hsl, hS.2.2]; omega, fun j hj => by
        rw [tx_at h.1 (by omega), sl_get hj w2]⟩
      rw [es, d177 (hS.sm e2) hS.2.1 hRW (by omega)]
      simp only [bu_some]
      refine (d206 (f := i) (x := fndF (sl t i e2) ns 0) h (by omega) he2).c (ch.refl _ s) (fun _ _ => rfl) ?_
      cases dm206 (fndF (sl t i e2) ns 0) (Int32.ofNat i) (wP s r e2) <;> rfl
    · rw [if_neg c2, if_neg c2]
      by_cases c3 : t.getD e2 0 = 40
      · rw [if_pos c3, if_pos c3]
        exact d210c h hei w1 w2
      · rw [if_neg c3, if_neg c3]
        rcases d214 (k := e2) h.1 w1 w2 with ⟨a1, w, c, f, a2⟩ | ⟨w, c, a1, a2⟩
        · rw [a1, a2]
          simp only [bv_some]
          rw [if_pos trivial]
          have hP : PR s (cR r w c f) t e F m := h.of (ch.refl (fun _ _ => False) s) (fun a k z => z.elim) (fun k _ k1 k2 k3 => cR_n ⟨k1, k2, k3⟩)
          exact (d210n hP hei w1 w2).c (ch.refl _ s) (fun k hk => cR_n (by omega)) rfl
        · rw [a1, a2]
          simp only [bv_some]
          rw [if_neg (by decide)]
          have hP : PR s (cR r (Int32.ofNat w) (Int32.ofNat c) 0) t e F m := h.of (ch.refl (fun _ _ => False) s) (fun a k z => z.elim) (fun k _ k1 k2 k3 => cR_n ⟨k1, k2, k3⟩)
          obtain ⟨hT, hG, hm, h8, het, h27, h35, h36, h34, h147⟩ := hP
          obtain ⟨s', r', d1, d2, d3, d4, d5⟩ := d209 (x := -1) (b := e2) hG hm h8 (by omega)
          refine ⟨s', r', by rw [d1]; rfl, d2, (d4 27 (by decide) (by decide) (by decide)).trans h27, (d4 35 (by decide) (by decide) (by decide)).trans h35, (d4 36 (by decide) (by decide) (by decide)).trans h36, d3, fun k hk => (d4 k (by omega) (by omega) (by omega)).trans (cR_n (by omega)), d5⟩
def prB (c : Int32) : Prop := isD c ∨ c = 46 ∨ c = 34 ∨ c = 35 ∨ bW c ∨ c = 36 ∨ c = 39
set_option maxRecDepth 100000 in
noncomputable def mTok (t : List Int32) (ns : List (List Int32)) (F : List Fw) (m i : Nat) : Nat ⊕ St := if b01 (isD (t.getD i 0) ∨ t.getD i 0 = 46) = 1 then (if (lexN t i).1 = 0 then .inl (lexN t i).2 else .inr ((lexN t i).2, F, [(m, plF 0 0, (sl t i (lexN t i).2).map gr)], 0, 0)) else if t.getD i 0 = 34 then (match qtA t 34 i with
    | none => .inl t.length
    | some (u, e2) => .inr (e2, F, [(m, plF 1 0, u)], 0, 0)) else if t.getD i 0 = 35 then (if (erG t i 8 0).1 = 0 then .inl (erG t i 8 0).2 else .inr ((erG t i 8 0).2, F, [(m, setN (plF 2 0) 8 (erG t i 8 0).1, [])], 0, 0)) else if t.getD i 0 = 39 then mPre t ns F m i else if t.getD i 0 = 36 then mCell t F m (-1) i else mWord t ns F m i
set_option maxRecDepth 100000 in
noncomputable def mPrim (t : List Int32) (ns : List (List Int32)) (F : List Fw) (m i : Nat) : Nat ⊕ St := if b01 (prB (t.getD i 0)) = 0 ∨ m = 128 then .inl i else mTok t ns F m i
set_option maxRecDepth 100000 in
theorem nm_b {t : List Int32} {i : Nat} (hi : i < t.length) (hc : isD (t.getD i 0) ∨ t.getD i 0 = 46) : i < (lexN t i).2 ∧ (lexN t i).2 ≤ t.length := by
  have hE := nmE_b (t := t) (i := i) (by omega)
  have hgt : i < nmE t i := by
    unfold nmE
    rcases hc with q | q
    · obtain ⟨g1, g2⟩ := cnt_y isD0 q
      have e1 : nd1 t i = nd1 t (i + 1) + 1 := g2
      split <;> omega
    · have e1 : nd1 t i = 0 := cnt_n (by rw [q]; exact isD46)
      rw [e1, Nat.add_zero, if_pos q]
      omega
  unfold lexN
  by_cases c0 : nmC t i = 0
  · rw [if_pos c0]
    exact ⟨hgt, hE.2⟩
  · rw [if_neg c0]
    by_cases c1 : gr (t.getD (nmE t i) 0) = 69
    · rw [if_pos c1]
      have h1 : nmE t i < t.length := by
        by_cases q : nmE t i < t.length
        · exact q
        · rw [getD_out (by omega)] at c1
          exact absurd c1 (by decide)
      have h2 : nmE t i < nmS t (nmE t i) ∧ nmS t (nmE t i) ≤ t.length := by
        unfold nmS
        by_cases c2 : sgP (t.getD (nmE t i + 1) 0)
        · rw [if_neg (fun q => b01_ne.mp q c2)]
          have := in_of (p := sgP) (d := 0) (by unfold sgP; decide) c2
          omega
        · rw [if_pos (b01_ne.mpr c2)]
          omega
      have h3 := nd1_b t (nmS t (nmE t i))
      have h4 : nd3 t (nmS t (nmE t i)) 0 ≤ nd1 t (nmS t (nmE t i)) := by
        unfold nd3
        split <;> omega
      exact ⟨by show i < nmS t (nmE t i) + nd3 t (nmS t (nmE t i)) 0; omega, by show nmS t (nmE t i) + nd3 t (nmS t (nmE t i)) 0 ≤ t.length; omega⟩
    · rw [if_neg c1]
      exact ⟨hgt, hE.2⟩
set_option maxRecDepth 100000 in
theorem OUT.f {s : aS} {r : Nat → Int32} {i p : Nat} : OUT s r (bu (dm186 (Int32.ofNat p) (wP s r i)) some) (.inl p) := by
  rw [d186]
  refine ⟨s, setN r 27 1, rfl, rfl, fun k hk => ?_, ch.refl _ s⟩
  unfold setN
  rw [if_neg (by omega)]
/-- while an operand is wanted -/
def OP (s : aS) (r : Nat → Int32) (t : List Int32) (ns : List (List Int32)) (e : Nat) (F : List Fw) (fr : Int32) : Prop := TX s r t ∧ GM s r e F [] ∧ okT t ∧ e ≤ t.length ∧ r 27 = 0 ∧ r 35 = fr ∧ r 36 = 1 ∧ r 34 = -1 ∧ (sT s 147).2 = 256 ∧ SX s r ns
set_option maxRecDepth 100000 in
theorem d195 {s : aS} {r : Nat → Int32} {t : List Int32} {ns : List (List Int32)} {e i : Nat} {F : List Fw} {fr : Int32} (h : OP s r t ns e F fr) (hei : e ≤ i) (hi : i < t.length) : OUT s r (dm195 (wP s r i)) (mPrim t ns F (fl F).length i) := by
  obtain ⟨hT, hG, hok, het, h27, h35, h36, h34, h147, hS⟩ := h
  have hl := hT.1
  have hfb := hG.fb
  have m1 : r 21 = Int32.ofNat (fl F).length := by
    have := hG.1.1
    rw [List.append_nil] at this
    exact this
  have hml : (fl F).length ≤ 128 := by
    have := hG.1.2
    rw [List.append_nil] at this
    exact this
  have main : b01 (prB (t.getD i 0)) = 1 → OUT s r (dm195_29 (t.getD i 0) 1 (wP s r i)) (mPrim t ns F (fl F).length i) := by
    intro hp
    have hp : prB (t.getD i 0) := by
      by_cases q : prB (t.getD i 0)
      · exact q
      · rw [b01_f q] at hp
        exact absurd hp (by decide)
    unfold dm195_29 mPrim
    rw [if_neg (show ¬ (1 : Int32) = 0 by decide), wP_f (by decide), m1]
    by_cases c8 : (fl F).length = 128
    · rw [if_pos (show Int32.ofNat (fl F).length = 128 by rw [c8]; rfl), if_pos (Or.inr c8)]
      unfold dm195_36
      rw [wP_at]
      exact OUT.f
    · rw [if_neg (show ¬ Int32.ofNat (fl F).length = 128 from fun q => c8 ((neq_iff (b := 128) (by omega) (by omega)).mp q)), if_neg (by rintro (q | q); exact b01_ne.mp q hp; exact c8 q)]
      simp only [nx_eq]
      rw [wP_set (by decide), wP_set (by decide)]
      have hP : PR s (setN (setN r 36 0) 35 0) t e F (fl F).length := ⟨(hT.set 36 _ (by decide)).set 35 _ (by decide), hG.at (Nat.le_refl _) rfl rfl rfl rfl, rfl, by omega, het, h27, rfl, rfl, h34, h147⟩
      have hS2 : SX s (setN (setN r 36 0) 35 0) ns := hS.of (ch.refl (fun _ _ => False) s) (fun a k z => z.elim) rfl
      have hr : ∀ k, k ≤ 20 → setN (setN r 36 0) 35 0 k = r k := fun k hk => by
        unfold setN
        rw [if_neg (by omega), if_neg (by omega)]
      rw [d196]
      simp only [bu_some]
      unfold mTok
      have num : (isD (t.getD i 0) ∨ t.getD i 0 = 46) → OUT s r (dm195_53 (wP s (setN (setN r 36 0) 35 0) i)) (if (lexN t i).1 = 0 then .inl (lexN t i).2 else .inr ((lexN t i).2, F, [((fl F).length, plF 0 0, (sl t i (lexN t i).2).map gr)], 0, 0)) := by
        intro hc
        have hb := nm_b hi hc
        unfold dm195_53
        rw [d199 hP.1 (by omega)]
        by_cases g : (lexN t i).1 = 0
        · rw [if_pos g, if_pos g]
          refine ⟨s, setN (setN (setN r 36 0) 35 0) 27 1, rfl, rfl, fun k hk => ?_, ch.refl _ s⟩
          rw [← hr k hk]
          exact if_neg (by omega)
        · rw [if_neg g, if_neg g]
          obtain ⟨s', r', d1, d2, d3, d4⟩ := d199n (a := i) (b := (lexN t i).2) hP.1 hP.2.1 rfl hP.2.2.2.1 hei (by omega) hb.2
          exact ⟨s', r', by rw [d1]; rfl, d2, (d3 27 (by decide) (by decide)).trans h27, d3 35 (by decide) (by decide), d3 36 (by decide) (by decide), (d3 34 (by decide) (by decide)).trans h34, fun k hk => (d3 k (by omega) (by omega)).trans (hr k hk), d4⟩
      by_cases c1 : isD (t.getD i 0)
      · rw [if_neg (fun q => b01_ne.mp q c1), if_pos (b01_t (Or.inl c1))]
        exact num (Or.inl c1)
      · rw [if_pos (b01_ne.mpr c1)]
        by_cases c2 : t.getD i 0 = 46
        · rw [if_pos c2, if_pos (b01_t (Or.inr c2))]
          exact num (Or.inr c2)
        · have c12 : ¬ b01 (isD (t.getD i 0) ∨ t.getD i 0 = 46) = 1 := by
            rw [b01_f (by rintro (q | q); exact c1 q; exact c2 q)]
            decide
          rw [if_neg c2, if_neg c12]
          by_cases c3 : t.getD i 0 = 34
          · rw [if_pos c3, if_pos c3]
            refine (d201 hP hei hi c3).c (ch.refl _ s) hr ?_
            cases dm201 (wP s (setN (setN r 36 0) 35 0) i) <;> rfl
          · rw [if_neg c3, if_neg c3]
            by_cases c4 : t.getD i 0 = 35
            · rw [if_pos c4, if_pos c4]
              have e203 : dm203 (wP s (setN (setN r 36 0) 35 0) i) = if (erG t i 8 0).1 = 0 then some (wP s (setN (setN (setN r 36 0) 35 0) 27 1) (erG t i 8 0).2) else dm203_90 (erG t i 8 0).1 (wP s (setN (setN r 36 0) 35 0) (erG t i 8 0).2) := by
                unfold dm203
                rw [wP_at]
                exact d203l (f := i) hP.1 hok (by omega) h27 8 0 5000 (by omega) (by omega) (by omega)
              have hb := erG_b (f := i) hok 8 0 (by omega)
              rw [e203]
              by_cases g : (erG t i 8 0).1 = 0
              · rw [if_pos g, if_pos g]
                refine ⟨s, setN (setN (setN r 36 0) 35 0) 27 1, rfl, rfl, fun k hk => ?_, ch.refl _ s⟩
                rw [← hr k hk]
                exact if_neg (by omega)
              · rw [if_neg g, if_neg g]
                have := hb.2 g
                obtain ⟨s', r', d1, d2, d3, d4⟩ := d203v (b := (erG t i 8 0).2) (x := (erG t i 8 0).1) hP.2.1 rfl hP.2.2.2.1 (by omega) h27
                exact ⟨s', r', by rw [d1]; rfl, d2, (d3 27 (by decide) (by decide)).trans h27, d3 35 (by decide) (by decide), d3 36 (by decide) (by decide), (d3 34 (by decide) (by decide)).trans h34, fun k hk => (d3 k (by omega) (by omega)).trans (hr k hk), d4⟩
            · rw [if_neg c4, if_neg c4]
              by_cases c5 : t.getD i 0 = 39
              · rw [if_pos c5, if_pos c5]
                refine (d205 hP hS2 hei hi).c (ch.refl _ s) hr ?_
                cases dm205 (wP s (setN (setN r 36 0) 35 0) i) <;> rfl
              · rw [if_neg c5, if_neg c5]
                by_cases c6 : t.getD i 0 = 36
                · rw [if_pos c6, if_pos c6]
                  refine (d207c hP hei (by omega) (fun s1 r1 i1 q => ?_) (fun s1 r1 i1 q => ?_)).c (ch.refl _ s) hr rfl
                  · rw [wP_f (by decide), q, if_pos rfl]
                  · rw [wP_f (by decide), q, if_neg (by decide)]
                · rw [if_neg c6, if_neg c6]
                  refine (d210 hP hS2 hei hi).c (ch.refl _ s) hr ?_
                  cases dm210 (wP s (setN (setN r 36 0) 35 0) i) <;> rfl
  unfold dm195 dm195_26
  rw [wP_at, rch hT (by omega)]
  simp only [bu_some, d196, d197]
  by_cases c1 : isD (t.getD i 0)
  · rw [if_neg (fun q => b01_ne.mp q c1)]
    exact main (b01_t (Or.inl c1))
  · rw [if_pos (b01_ne.mpr c1)]
    by_cases c2 : t.getD i 0 = 46
    · rw [if_pos c2]
      exact main (b01_t (Or.inr (Or.inl c2)))
    · rw [if_neg c2]
      by_cases c3 : t.getD i 0 = 34
      · rw [if_pos c3]
        exact main (b01_t (Or.inr (Or.inr (Or.inl c3))))
      · rw [if_neg c3]
        by_cases c4 : t.getD i 0 = 35
        · rw [if_pos c4]
          exact main (b01_t (Or.inr (Or.inr (Or.inr (Or.inl c4)))))
        · rw [if_neg c4]
          by_cases c5 : bW (t.getD i 0)
          · rw [if_neg (fun q => b01_ne.mp q c5)]
            exact main (b01_t (Or.inr (Or.inr (Or.inr (Or.inr (Or.inl c5))))))
          · rw [if_pos (b01_ne.mpr c5)]
            by_cases c6 : t.getD i 0 = 36
            · rw [if_pos c6]
              exact main (b01_t (Or.inr (Or.inr (Or.inr (Or.inr (Or.inr (Or.inl c6)))))))
            · rw [if_neg c6]
              by_cases c7 : t.getD i 0 = 39
              · rw [if_pos c7]
                exact main (b01_t (Or.inr (Or.inr (Or.inr (Or.inr (Or.inr (Or.inr c7)))))))
              · rw [if_neg c7]
                unfold dm195_29 dm195_36 mPrim
                have np : ¬ prB (t.getD i 0) := by
                  rintro (q | q | q | q | q | q | q)
                  · exact c1 q
                  · exact c2 q
                  · exact c3 q
                  · exact c4 q
                  · exact c5 q
                  · exact c6 q
                  · exact c7 q
                rw [if_pos rfl, if_pos (Or.inl (b01_ne.mpr np)), wP_at]
                exact OUT.f
end
section
/-! a step at an operand, a step behind one, in the reference -/
def dN : NN := (0, fun _ => 0, [])
set_option maxRecDepth 100000 in
noncomputable def mOpd (t : List Int32) (ns : List (List Int32)) (i : Nat) (F : List Fw) (fr : Int32) : Nat ⊕ St := if t.getD i 0 = 43 then .inr (i + 1, F, [], 0, 0) else if t.getD i 0 = 45 then (if (fl F).length = 128 then .inl i else .inr (i + 1, (10, ((fl F).length, plF 10 0, []), [], []) :: F, [], 0, 0)) else if t.getD i 0 = 40 then (if nO F = 32 then .inl i else .inr (i + 1, (100, dN, [], []) :: F, [], 0, 0)) else if t.getD i 0 = 41 ∧ fr = 1 then (match F with
    | [] => .inl i
    | f :: F0 => .inr (i + 1, F0, f.2.1 :: (f.2.2.1 ++ []), 0, 0)) else if (t.getD i 0 = 41 ∨ t.getD i 0 = 44) ∧ ¬ fr ≤ 0 then (if (fl F).length = 128 then .inl i else .inr (i, F, [((fl F).length, plF 8 0, [])], 0, 0)) else mPrim t ns F (fl F).length i
set_option maxRecDepth 100000 in
theorem d185n {s : aS} {r : Nat → Int32} {t : List Int32} {ns : List (List Int32)} {e i : Nat} {F : List Fw} {fr : Int32} (h : OP s r t ns e F fr) (hei : e ≤ i) (h8 : (fl F).length < 128) : OUT s r (bv (dm187 8 (wP s r i)) fun r9 s8 => bu (dm194 r9 s8) fun s12 => nx (wI s12 121 35 0) fun s13 => nx (wI s13 121 36 0) fun s16 => some s16) (.inr (i, F, [((fl F).length, plF 8 0, [])], 0, 0)) := by
  obtain ⟨hT, hG, hok, het, h27, h35, h36, h34, h147, hS⟩ := h
  have hfb := hG.fb
  have m1 : r 21 = Int32.ofNat (fl F).length := by
    have := hG.1.1
    rw [List.append_nil] at this
    exact this
  have c8 : r 29 = Int32.ofNat (nT F) := by
    rcases hG.2.2.2.2.2.2.2 with ⟨-, q⟩ | ⟨c, q, -⟩
    · exact q
    · have q : ([c] : List Nat) = [] := q
      cases q
  have hc : ch (newB e (fl F).length) s (mkN s (fl F).length 8) := (mk_c s (fl F).length 8).mono fun a k z => by unfold newB; omega
  rw [d187 m1 h8]
  simp only [bv_some]
  rw [d194 (c := nT F) (show setN r 21 (Int32.ofNat ((fl F).length + 1)) 29 = Int32.ofNat (nT F) from c8) (by omega)]
  simp only [bu_some, nx_eq]
  rw [wP_set (by decide), wP_set (by decide)]
  refine ⟨_, _, rfl, ?_, h27, rfl, rfl, h34, fun k hk => ?_, (hc.mono fun a k z => newB_scr z).wI (by unfold scr; omega)⟩
  · exact GM.leaf2 hG rfl h8 rfl hc (mk_NR (x := 8) (by decide)) rfl (mk_k (Or.inl rfl)) (mk_k (Or.inr (Or.inr rfl))) hei rfl rfl rfl rfl
  · unfold setN
    rw [if_neg (by omega), if_neg (by omega), if_neg (by omega), if_neg (by omega)]
set_option maxRecDepth 100000 in
theorem d185 {s : aS} {r : Nat → Int32} {t : List Int32} {ns : List (List Int32)} {e i : Nat} {F : List Fw} {fr : Int32} (h : OP s r t ns e F fr) (hei : e ≤ i) (hi : i < t.length) (hfr : fr = 1 → ∃ f F0, F = f :: F0 ∧ f.1 = 7) : OUT s r (dm185 (wP s r i)) (mOpd t ns i F fr) := by
  have hO := h
  obtain ⟨hT, hG, hok, het, h27, h35, h36, h34, h147, hS⟩ := h
  have hl := hT.1
  have hfb := hG.fb
  have m1 : r 21 = Int32.ofNat (fl F).length := by
    have := hG.1.1
    rw [List.append_nil] at this
    exact this
  have hml : (fl F).length ≤ 128 := by
    have := hG.1.2
    rw [List.append_nil] at this
    exact this
  have a3 : r 33 = Int32.ofNat (nO F) := hG.2.2.1.1
  have hO8 := hG.2.2.1.2
  have a2 : r 32 = Int32.ofNat F.length := hG.2.1
  have k8 : Int32.ofNat (fl F).length = 128 ↔ (fl F).length = 128 := neq_iff (b := 128) (by omega) (by omega)
  unfold dm185 mOpd
  rw [wP_at, rch hT (by omega)]
  simp only [bu_some]
  by_cases c1 : t.getD i 0 = 43
  · rw [if_pos c1, if_pos c1]
    simp only [nx_eq]
    rw [wP_set (by decide), wP_at, ofNat_succ (by omega), wP_go]
    refine ⟨s, setN r 35 0, rfl, hG.at (by omega) rfl rfl rfl rfl, h27, rfl, h36, h34, fun k hk => if_neg (by omega), ch.refl _ s⟩
  · rw [if_neg c1, if_neg c1]
    by_cases c2 : t.getD i 0 = 45
    · rw [if_pos c2, if_pos c2, wP_f (by decide), m1]
      by_cases g : (fl F).length = 128
      · rw [if_pos (k8.mpr g), if_pos g]
        exact OUT.f
      · rw [if_neg (fun q => g (k8.mp q)), if_neg g, d187 m1 (by omega)]
        simp only [bv_some]
        rw [d188 (w := F.length) (show setN r 21 (Int32.ofNat ((fl F).length + 1)) 32 = Int32.ofNat F.length from a2) (by omega)]
        simp only [bu_some, nx_eq]
        rw [wP_set (by decide), wP_at, ofNat_succ (n := i) (by omega), wP_go]
        have hc := mk_c s (fl F).length 10
        refine ⟨_, _, rfl, ?_, h27, rfl, h36, h34, fun k hk => ?_, ((hc.mono fun a k z => by unfold scr; omega).wI (by unfold scr; omega)).wI (by unfold scr; omega)⟩
        · refine GM.hnd hG rfl (by omega) rfl (Or.inr rfl) rfl (fun q => absurd q (by decide)) (((hc.mono fun a k z => ?_).wI ?_).wI ?_) (fun q hq => ⟨?_, ?_⟩) ?_ ?_ (fun q hq => ?_) (NR.of (mk_NR (s := s) (e := e) (x := 10) (by decide)) ⟨fun w hw => ?_, ?_⟩ (fun q _ => ?_) (show e ≤ i + 1 by omega)) rfl ?_ ?_ (by omega) rfl rfl rfl ?_
          · unfold newA
            omega
          · unfold newA
            omega
          · unfold newA
            omega
          · rw [sI_wI, if_neg (by omega), sI_wI, if_neg (by omega)]
            exact hc.i (by omega)
          · rw [sI_wI, if_neg (by omega), sI_wI, if_neg (by omega)]
            exact hc.i (by omega)
          · rw [sI_wI, if_neg (by omega), sI_wI, if_pos ⟨rfl, rfl⟩]
          · rw [sI_wI, if_pos ⟨rfl, rfl⟩]
          · rw [sI_wI, if_neg (by omega), sI_wI, if_neg (by omega)]
            exact hc.i (by omega)
          · rw [sI_wI, if_neg (by omega), sI_wI, if_neg (by omega)]
          · rw [sI_wI, if_neg (by omega), sI_wI, if_neg (by omega)]
          · rw [sI_wI, if_neg (by omega), sI_wI, if_neg (by omega)]
          · rw [sI_wI, if_neg (by omega), sI_wI, if_neg (by omega)]
            exact mk_k (Or.inl rfl)
          · rw [sI_wI, if_neg (by omega), sI_wI, if_neg (by omega)]
            exact mk_k (Or.inr (Or.inr rfl))
          · show r 33 = Int32.ofNat (nO F + (if (10 : Int32) = 100 ∨ (10 : Int32) = 7 then 1 else 0))
            rw [if_neg (by decide)]
            exact a3
        · unfold setN
          rw [if_neg (by omega), if_neg (by omega), if_neg (by omega)]
    · rw [if_neg c2, if_neg c2]
      by_cases c3 : t.getD i 0 = 40
      · rw [if_pos c3, if_pos c3, wP_f (by decide), a3]
        by_cases g : nO F = 32
        · rw [if_pos (show Int32.ofNat (nO F) = 32 by rw [g]; rfl), if_pos g]
          exact OUT.f
        · rw [if_neg (show ¬ Int32.ofNat (nO F) = 32 from fun q => g ((neq_iff (b := 32) (by omega) (by omega)).mp q)), if_neg g, d188 (w := F.length) a2 (by omega)]
          simp only [bu_some, nx_eq]
          rw [wP_f (by decide), show setN r 32 (Int32.ofNat (F.length + 1)) 33 = r 33 from rfl, a3, ofNat_succ (n := nO F) (by omega), wP_set (by decide), wP_set (by decide), wP_at, ofNat_succ (n := i) (by omega), wP_go]
          refine ⟨_, _, rfl, (GM.hop (n := dN) hG (by omega)).at (show e ≤ i + 1 by omega) rfl rfl rfl rfl, h27, rfl, h36, h34, fun k hk => ?_, ((ch.refl _ s).wI (by unfold scr; omega)).wI (by unfold scr; omega)⟩
          unfold setN
          rw [if_neg (by omega), if_neg (by omega), if_neg (by omega)]
      · rw [if_neg c3, if_neg c3]
        have rest : OUT s r (dm185_88 (t.getD i 0) (wP s r i)) (if (t.getD i 0 = 41 ∨ t.getD i 0 = 44) ∧ ¬ fr ≤ 0 then (if (fl F).length = 128 then .inl i else .inr (i, F, [((fl F).length, plF 8 0, [])], 0, 0)) else mPrim t ns F (fl F).length i) := by
          have prim : OUT s r (dm185_118 (wP s r i)) (mPrim t ns F (fl F).length i) := by
            unfold dm185_118
            refine (d195 hO hei hi).c (ch.refl _ s) (fun _ _ => rfl) ?_
            cases dm195 (wP s r i) <;> rfl
          have noth : (t.getD i 0 = 41 ∨ t.getD i 0 = 44) → OUT s r (dm185_94 (wP s r i)) (if (t.getD i 0 = 41 ∨ t.getD i 0 = 44) ∧ ¬ fr ≤ 0 then (if (fl F).length = 128 then .inl i else .inr (i, F, [((fl F).length, plF 8 0, [])], 0, 0)) else mPrim t ns F (fl F).length i) := by
            intro hc
            unfold dm185_94
            rw [wP_f (by decide), h35]
            by_cases g : fr ≤ 0
            · rw [if_pos g, if_neg (fun q => q.2 g)]
              exact prim
            · rw [if_neg g, if_pos (show (t.getD i 0 = 41 ∨ t.getD i 0 = 44) ∧ ¬ fr ≤ 0 from ⟨hc, g⟩), wP_f (show (21 : Nat) ≠ 26 by decide), m1]
              by_cases g2 : (fl F).length = 128
              · rw [if_pos (k8.mpr g2), if_pos g2, wP_at]
                exact OUT.f
              · rw [if_neg (fun q => g2 (k8.mp q)), if_neg g2]
                exact d185n hO hei (by omega)
          unfold dm185_88
          by_cases g1 : t.getD i 0 = 41
          · rw [if_pos g1]
            exact noth (Or.inl g1)
          · rw [if_neg g1]
            by_cases g2 : t.getD i 0 = 44
            · rw [if_pos g2]
              exact noth (Or.inr g2)
            · rw [if_neg g2, if_neg (by rintro ⟨q | q, -⟩; exact g1 q; exact g2 q)]
              exact prim
        by_cases c4 : t.getD i 0 = 41
        · rw [if_pos c4, wP_f (by decide), h35]
          by_cases g : fr = 1
          · rw [if_pos g, if_pos ⟨c4, g⟩]
            obtain ⟨f, F0, rfl, f7⟩ := hfr g
            obtain ⟨s', r', b1, b2, b3, b4, b5, b6⟩ := d189e hG f7 h36 (show i < 1000 by omega)
            rw [b1]
            refine ⟨s', r', rfl, b2.at (show e ≤ i + 1 by omega) rfl rfl rfl rfl, (b5 27 (by decide) (by decide) (by decide) (by decide) (by decide)).trans h27, b4, b3, (b5 34 (by decide) (by decide) (by decide) (by decide) (by decide)).trans h34, fun k hk => b5 k (by omega) (by omega) (by omega) (by omega) (by omega), b6⟩
          · rw [if_neg g, if_neg (fun q => g q.2)]
            exact rest
        · rw [if_neg c4, if_neg (fun q => c4 q.1)]
          exact rest
end
section
/-! a step behind an operand, in the reference -/
def opk (c d : Int32) : Nat × Nat := if c = 38 then (16, 1) else if c = 42 then (12, 1) else if c = 43 then (14, 1) else if c = 45 then (15, 1) else if c = 47 then (13, 1) else if c = 60 then (if d = 62 then (18, 2) else if d = 61 then (21, 2) else (19, 1)) else if c = 61 then (17, 1) else if c = 62 then (if d = 61 then (22, 2) else (20, 1)) else if c = 94 then (11, 1) else (0, 0)
def opL : List (Nat × Nat) := [(16, 1), (12, 1), (14, 1), (15, 1), (13, 1), (18, 2), (21, 2), (19, 1), (17, 1), (22, 2), (20, 1), (11, 1)]
set_option maxRecDepth 100000 in
theorem opk_in (c d : Int32) : opk c d = (0, 0) ∨ opk c d ∈ opL := by
  unfold opk opL
  repeat' split
  all_goals first
    | exact Or.inl rfl
    | exact Or.inr (by decide)
def opX (p : Nat × Nat) : Int32 := Int32.ofNat (100 * p.2 + p.1)
set_option maxRecDepth 100000 in
theorem opX_f : ∀ p ∈ opL, ¬ opX p ≤ 0 ∧ opX p / 100 = Int32.ofNat p.2 ∧ opX p - opX p / 100 * 100 = Int32.ofNat p.1 ∧ isB (Int32.ofNat p.1) ∧ p.2 ≤ 2 ∧ ¬ p.1 = 0 ∧ 1 ≤ p.2 ∧ ¬ (Int32.ofNat p.1 = 0 ∨ Int32.ofNat p.1 = 1 ∨ Int32.ofNat p.1 = 6 ∨ Int32.ofNat p.1 = 7) := by
  unfold isB
  decide
set_option maxRecDepth 100000 in
theorem d217 {s : aS} {r : Nat → Int32} {t : List Int32} {i : Nat} (h : TX s r t) (hi : i < t.length) : dm217 (wP s r i) = some (opX (opk (t.getD i 0) (t.getD (i + 1) 0))) := by
  have hl := h.1
  unfold dm217
  rw [wP_at, rch h (by omega), ofNat_succ (by omega), rch h (by omega)]
  simp only [bu_some]
  unfold opk
  repeat' split
  all_goals first
    | rfl
    | (exfalso; simp_all)
set_option maxRecDepth 100000 in
noncomputable def mBeh (t : List Int32) (i : Nat) (F : List Fw) (cur : List NN) (lc : Nat) : Nat ⊕ St := if t.getD i 0 = 58 ∧ lc = 1 then (match cur with
    | [] => .inl i
    | n :: _ => if b01 (cOk t (skS t (i + 1))) = 0 then .inl (cB t (skS t (i + 1))) else .inr (cE t (skS t (i + 1)), F, [rgN n (Int32.ofNat (cW t (skS t (i + 1)))) (Int32.ofNat (cK t (skS t (i + 1))).2.1) (Int32.ofNat (cFl t (skS t (i + 1))))], 0, 0)) else if t.getD i 0 = 41 ∧ ¬ nO F = 0 then (match (rdF 0 F cur).1 with
    | [] => .inl i
    | f :: F0 => .inr (i + 1, F0, clC f (rdF 0 F cur).2, 0, 0)) else if t.getD i 0 = 44 ∧ inM F = 7 then (match (rdF 0 F cur).1 with
    | [] => .inl i
    | f :: F0 => if f.2.2.2.length = 29 then .inl i else .inr (i + 1, cmF f (rdF 0 F cur).2 :: F0, [], 2, 0)) else if t.getD i 0 = 37 ∧ (fl F ++ cur).length < 128 then .inr (i + 1, F, pcN (fl F ++ cur).length :: cur, 0, 0) else if ¬ (opk (t.getD i 0) (t.getD (i + 1) 0)).1 = 0 ∧ (fl F ++ cur).length < 128 then .inr (i + (opk (t.getD i 0) (t.getD (i + 1) 0)).2, (Int32.ofNat (opk (t.getD i 0) (t.getD (i + 1) 0)).1, ((fl F ++ cur).length, plF (Int32.ofNat (opk (t.getD i 0) (t.getD (i + 1) 0)).1) 0, []), (rdF (rkM (Int32.ofNat (opk (t.getD i 0) (t.getD (i + 1) 0)).1)) F cur).2, [hdI (rdF (rkM (Int32.ofNat (opk (t.getD i 0) (t.getD (i + 1) 0)).1)) F cur).2]) :: (rdF (rkM (Int32.ofNat (opk (t.getD i 0) (t.getD (i + 1) 0)).1)) F cur).1, [], 0, 0) else .inl i
/-- while an operand is there -/
def BH (s : aS) (r : Nat → Int32) (t : List Int32) (ns : List (List Int32)) (e : Nat) (F : List Fw) (cur : List NN) (lc : Nat) : Prop := TX s r t ∧ GM s r e F cur ∧ cur ≠ [] ∧ okT t ∧ e ≤ t.length ∧ r 27 = 0 ∧ r 35 = 0 ∧ r 36 = 0 ∧ r 34 = (if lc = 1 then Int32.ofNat (hdI cur) else -1) ∧ (lc = 1 → ∃ n, cur = [n] ∧ n.2.1 0 = 4) ∧ (sT s 147).2 = 256 ∧ SX s r ns
set_option maxRecDepth 100000 in
theorem d216b {s : aS} {r : Nat → Int32} {t : List Int32} {e i : Nat} {F : List Fw} {cur : List NN} {p : Nat × Nat} (hT : TX s r t) (hG : GM s r e F cur) (hc : cur ≠ []) (h27 : r 27 = 0) (h34 : r 34 = -1) (hei : e ≤ i) (hi : i < t.length) (hp : p ∈ opL) (h8 : (fl F ++ cur).length < 128) : OUT s r (bu (dm191 (opX p - opX p / 100 * 100)) fun r5 =>
      bu (dm190 r5 (wP s r i)) fun s8 =>
      bv (dm187 (opX p - opX p / 100 * 100) s8) fun r12 s11 =>
      bu (dm188 (opX p - opX p / 100 * 100) r12 s11) fun s15 =>
      nx (wI s15 121 36 1) fun s16 =>
      nx (wI s16 121 35 0) fun s19 =>
      nx (wI s19 121 26 ((sI s19 121 26) + (opX p / 100))) fun s22 =>
      some s22) (.inr (i + p.2, (Int32.ofNat p.1, ((fl F ++ cur).length, plF (Int32.ofNat p.1) 0, []), (rdF (rkM (Int32.ofNat p.1)) F cur).2, [hdI (rdF (rkM (Int32.ofNat p.1)) F cur).2]) :: (rdF (rkM (Int32.ofNat p.1)) F cur).1, [], 0, 0)) := by
  have hl := hT.1
  obtain ⟨o1, o2, o3, o4, o5, o6, o7, o8⟩ := opX_f p hp
  rw [o3, o2, d191]
  simp only [bu_some]
  obtain ⟨s1, r1, b1, b2, b3, b4, b5⟩ := d190 (i := i) (x1 := rkM (Int32.ofNat p.1)) hG hc
  have hfb := b2.fb
  have hm : (fl (rdF (rkM (Int32.ofNat p.1)) F cur).1 ++ (rdF (rkM (Int32.ofNat p.1)) F cur).2).length = (fl F ++ cur).length := by
    have z1 := b2.1.1
    rw [b4 21 (by decide) (by decide), hG.1.1] at z1
    exact ((neq_iff (by omega) (by omega)).mp z1).symm
  rw [b1]
  generalize rdF (rkM (Int32.ofNat p.1)) F cur = Q at *
  obtain ⟨F1, cur1⟩ := Q
  simp only at b2 b3 hm hfb ⊢
  have m1 : r1 21 = Int32.ofNat (fl F ++ cur).length := (b4 21 (by decide) (by decide)).trans hG.1.1
  have a2 : r1 32 = Int32.ofNat F1.length := b2.2.1
  simp only [bu_some]
  rw [d187 m1 h8]
  simp only [bv_some]
  rw [d188 (w := F1.length) (show setN r1 21 (Int32.ofNat ((fl F ++ cur).length + 1)) 32 = Int32.ofNat F1.length from a2) (by omega)]
  simp only [bu_some, nx_eq]
  rw [wP_set (by decide), wP_set (by decide), wP_at, iSum (by omega) (by omega), wP_go]
  have hcc := mk_c s1 (fl F ++ cur).length (Int32.ofNat p.1)
  obtain ⟨c, hB⟩ := GM.bin (s' := wI (wI (mkN s1 (fl F ++ cur).length (Int32.ofNat p.1)) 145 F1.length (Int32.ofNat p.1)) 146 F1.length (Int32.ofNat (fl F ++ cur).length)) (r' := setN (setN (setN (setN r1 21 (Int32.ofNat ((fl F ++ cur).length + 1))) 32 (Int32.ofNat (F1.length + 1))) 36 1) 35 0) (n := ((fl F ++ cur).length, plF (Int32.ofNat p.1) 0, [])) (x := Int32.ofNat p.1) b2 b3 hm h8 rfl o4 rfl (((hcc.mono fun a k z => by unfold newA; omega).wI (by unfold newA; omega)).wI (by unfold newA; omega)) (fun q hq => ⟨by rw [sI_wI, if_neg (by omega), sI_wI, if_neg (by omega)]; exact hcc.i (by omega), by rw [sI_wI, if_neg (by omega), sI_wI, if_neg (by omega)]; exact hcc.i (by omega)⟩) (by rw [sI_wI, if_neg (by omega), sI_wI, if_pos ⟨rfl, rfl⟩]) (by rw [sI_wI, if_pos ⟨rfl, rfl⟩]) (fun q => by rw [sI_wI, if_neg (by omega), sI_wI, if_neg (by omega)]; exact hcc.i (by omega)) (NR.of (mk_NR (s := s1) (e := e) o8) ⟨fun w hw => by rw [sI_wI, if_neg (by omega), sI_wI, if_neg (by omega)], by rw [sI_wI, if_neg (by omega), sI_wI, if_neg (by omega)]⟩ (fun q _ => by rw [sI_wI, if_neg (by omega), sI_wI, if_neg (by omega)]) (Nat.le_refl _)) rfl (by rw [sI_wI, if_neg (by omega), sI_wI, if_neg (by omega)]; exact mk_k (Or.inl rfl)) (by rw [sI_wI, if_neg (by omega), sI_wI, if_neg (by omega)]; exact mk_k (Or.inr (Or.inr rfl))) rfl rfl rfl rfl
  have hcd : hdI cur1 = c := by
    have := hB.2.2.2.2.2.1 _ List.mem_cons_self
    rcases this with q | ⟨-, -, -, -, q, -⟩
    · have q1 : Int32.ofNat p.1 = 100 := q.1
      rw [q1] at o4
      unfold isB at o4
      exact absurd o4 (by decide)
    · exact hf_hd cur1 q
  rw [hcd]
  refine ⟨_, _, rfl, hB.at (show e ≤ i + p.2 by omega) rfl rfl rfl rfl, (b4 27 (by decide) (by decide)).trans h27, rfl, rfl, (b4 34 (by decide) (by decide)).trans h34, fun k hk => ?_, (((rch_scr b5).trans (hcc.mono fun a k z => by unfold scr; omega)).wI (by unfold scr; omega)).wI (by unfold scr; omega)⟩
  unfold setN
  rw [if_neg (by omega), if_neg (by omega), if_neg (by omega), if_neg (by omega)]
  exact b4 k (by omega) (by omega)
set_option maxRecDepth 100000 in
theorem d216 {s : aS} {r : Nat → Int32} {t : List Int32} {ns : List (List Int32)} {e i lc : Nat} {F : List Fw} {cur : List NN} (h : BH s r t ns e F cur lc) (hei : e ≤ i) (hi : i < t.length) : OUT s r (dm216 (wP s r i)) (mBeh t i F cur lc) := by
  obtain ⟨hT, hG, hcur, hok, het, h27, h35, h36, h34, hlc, h147, hS⟩ := h
  have hl := hT.1
  have hfb := hG.fb
  unfold dm216 mBeh
  rw [wP_at, rch hT (by omega), d217 hT hi]
  simp only [bu_some, nx_eq]
  rw [wP_set (by decide)]
  have hT2 : TX s (setN r 34 (-1)) t := hT.set 34 _ (by decide)
  have hG2 : GM s (setN r 34 (-1)) e F cur := hG.at (Nat.le_refl _) rfl rfl rfl rfl
  have a3 : r 33 = Int32.ofNat (nO F) := hG.2.2.1.1
  have hO8 := hG.2.2.1.2
  have m1 : r 21 = Int32.ofNat (fl F ++ cur).length := hG.1.1
  have hr : ∀ k, k ≤ 20 → setN r 34 (-1) k = r k := fun k hk => if_neg (by omega)
  have rest : OUT s r (dm216_25 (t.getD i 0) (opX (opk (t.getD i 0) (t.getD (i + 1) 0))) (wP s (setN r 34 (-1)) i)) (if t.getD i 0 = 41 ∧ ¬ nO F = 0 then (match (rdF 0 F cur).1 with
    | [] => .inl i
    | f :: F0 => .inr (i + 1, F0, clC f (rdF 0 F cur).2, 0, 0)) else if t.getD i 0 = 44 ∧ inM F = 7 then (match (rdF 0 F cur).1 with
    | [] => .inl i
    | f :: F0 => if f.2.2.2.length = 29 then .inl i else .inr (i + 1, cmF f (rdF 0 F cur).2 :: F0, [], 2, 0)) else if t.getD i 0 = 37 ∧ (fl F ++ cur).length < 128 then .inr (i + 1, F, pcN (fl F ++ cur).length :: cur, 0, 0) else if ¬ (opk (t.getD i 0) (t.getD (i + 1) 0)).1 = 0 ∧ (fl F ++ cur).length < 128 then .inr (i + (opk (t.getD i 0) (t.getD (i + 1) 0)).2, (Int32.ofNat (opk (t.getD i 0) (t.getD (i + 1) 0)).1, ((fl F ++ cur).length, plF (Int32.ofNat (opk (t.getD i 0) (t.getD (i + 1) 0)).1) 0, []), (rdF (rkM (Int32.ofNat (opk (t.getD i 0) (t.getD (i + 1) 0)).1)) F cur).2, [hdI (rdF (rkM (Int32.ofNat (opk (t.getD i 0) (t.getD (i + 1) 0)).1)) F cur).2]) :: (rdF (rkM (Int32.ofNat (opk (t.getD i 0) (t.getD (i + 1) 0)).1)) F cur).1, [], 0, 0) else .inl i) := by
    have k8 : (128 : Int32) ≤ Int32.ofNat (fl F ++ cur).length ↔ 128 ≤ (fl F ++ cur).length := nle_iff (a := 128) (by omega) (by omega)
    have ops : OUT s r (dm216_70 (opX (opk (t.getD i 0) (t.getD (i + 1) 0))) (wP s (setN r 34 (-1)) i)) (if ¬ (opk (t.getD i 0) (t.getD (i + 1) 0)).1 = 0 ∧ (fl F ++ cur).length < 128 then .inr (i + (opk (t.getD i 0) (t.getD (i + 1) 0)).2, (Int32.ofNat (opk (t.getD i 0) (t.getD (i + 1) 0)).1, ((fl F ++ cur).length, plF (Int32.ofNat (opk (t.getD i 0) (t.getD (i + 1) 0)).1) 0, []), (rdF (rkM (Int32.ofNat (opk (t.getD i 0) (t.getD (i + 1) 0)).1)) F cur).2, [hdI (rdF (rkM (Int32.ofNat (opk (t.getD i 0) (t.getD (i + 1) 0)).1)) F cur).2]) :: (rdF (rkM (Int32.ofNat (opk (t.getD i 0) (t.getD (i + 1) 0)).1)) F cur).1, [], 0, 0) else .inl i) := by
      unfold dm216_70 dm216_107
      rw [wP_at, wP_f (show (21 : Nat) ≠ 26 by decide), show setN r 34 (-1) 21 = r 21 from rfl, m1]
      have fail : OUT s r (bu (dm186 (Int32.ofNat i) (wP s (setN r 34 (-1)) i)) some) (.inl i) := (OUT.f (s := s) (r := setN r 34 (-1)) (i := i) (p := i)).c (ch.refl _ s) hr rfl
      rcases opk_in (t.getD i 0) (t.getD (i + 1) 0) with q | q
      · rw [q, if_pos (show opX (0, 0) ≤ 0 by decide), if_neg (fun z => z.1 rfl)]
        exact fail
      · have o := opX_f _ q
        rw [if_neg o.1]
        by_cases g : 128 ≤ (fl F ++ cur).length
        · rw [if_pos (k8.mpr g), if_neg (fun z => by have := z.2; omega)]
          exact fail
        · rw [if_neg (fun z => g (k8.mp z)), if_pos ⟨o.2.2.2.2.2.1, by omega⟩]
          exact (d216b hT2 hG2 hcur h27 rfl hei hi q (by omega)).c (ch.refl _ s) hr rfl
    have pct : OUT s r (dm216_44 (t.getD i 0) (opX (opk (t.getD i 0) (t.getD (i + 1) 0))) (wP s (setN r 34 (-1)) i)) (if t.getD i 0 = 37 ∧ (fl F ++ cur).length < 128 then .inr (i + 1, F, pcN (fl F ++ cur).length :: cur, 0, 0) else if ¬ (opk (t.getD i 0) (t.getD (i + 1) 0)).1 = 0 ∧ (fl F ++ cur).length < 128 then .inr (i + (opk (t.getD i 0) (t.getD (i + 1) 0)).2, (Int32.ofNat (opk (t.getD i 0) (t.getD (i + 1) 0)).1, ((fl F ++ cur).length, plF (Int32.ofNat (opk (t.getD i 0) (t.getD (i + 1) 0)).1) 0, []), (rdF (rkM (Int32.ofNat (opk (t.getD i 0) (t.getD (i + 1) 0)).1)) F cur).2, [hdI (rdF (rkM (Int32.ofNat (opk (t.getD i 0) (t.getD (i + 1) 0)).1)) F cur).2]) :: (rdF (rkM (Int32.ofNat (opk (t.getD i 0) (t.getD (i + 1) 0)).1)) F cur).1, [], 0, 0) else .inl i) := by
      unfold dm216_44
      by_cases g : t.getD i 0 = 37
      · rw [if_pos g, wP_f (show (21 : Nat) ≠ 26 by decide), show setN r 34 (-1) 21 = r 21 from rfl, m1]
        by_cases g2 : 128 ≤ (fl F ++ cur).length
        · rw [if_pos (k8.mpr g2), if_neg (show ¬ (t.getD i 0 = 37 ∧ (fl F ++ cur).length < 128) from fun z => by have := z.2; omega)]
          exact ops
        · rw [if_neg (fun z => g2 (k8.mp z)), if_pos (show t.getD i 0 = 37 ∧ (fl F ++ cur).length < 128 from ⟨g, by omega⟩)]
          obtain ⟨s', r', b1, b2, b3, b4⟩ := d216p (i := i) hG2 hcur rfl (by omega)
          rw [b1]
          simp only [nx_eq]
          rw [wP_at, ofNat_succ (by omega), wP_go]
          refine ⟨s', r', rfl, b2.at (show e ≤ i + 1 by omega) rfl rfl rfl rfl, (b3 27 (by decide) (by decide)).trans h27, (b3 35 (by decide) (by decide)).trans h35, (b3 36 (by decide) (by decide)).trans h36, b3 34 (by decide) (by decide), fun k hk => (b3 k (by omega) (by omega)).trans (hr k hk), b4.mono fun a k z => by unfold scr; omega⟩
      · rw [if_neg g, if_neg (show ¬ (t.getD i 0 = 37 ∧ (fl F ++ cur).length < 128) from fun z => g z.1)]
        exact ops
    have com : OUT s r (dm216_34 (t.getD i 0) (opX (opk (t.getD i 0) (t.getD (i + 1) 0))) (wP s (setN r 34 (-1)) i)) (if t.getD i 0 = 44 ∧ inM F = 7 then (match (rdF 0 F cur).1 with
    | [] => .inl i
    | f :: F0 => if f.2.2.2.length = 29 then .inl i else .inr (i + 1, cmF f (rdF 0 F cur).2 :: F0, [], 2, 0)) else if t.getD i 0 = 37 ∧ (fl F ++ cur).length < 128 then .inr (i + 1, F, pcN (fl F ++ cur).length :: cur, 0, 0) else if ¬ (opk (t.getD i 0) (t.getD (i + 1) 0)).1 = 0 ∧ (fl F ++ cur).length < 128 then .inr (i + (opk (t.getD i 0) (t.getD (i + 1) 0)).2, (Int32.ofNat (opk (t.getD i 0) (t.getD (i + 1) 0)).1, ((fl F ++ cur).length, plF (Int32.ofNat (opk (t.getD i 0) (t.getD (i + 1) 0)).1) 0, []), (rdF (rkM (Int32.ofNat (opk (t.getD i 0) (t.getD (i + 1) 0)).1)) F cur).2, [hdI (rdF (rkM (Int32.ofNat (opk (t.getD i 0) (t.getD (i + 1) 0)).1)) F cur).2]) :: (rdF (rkM (Int32.ofNat (opk (t.getD i 0) (t.getD (i + 1) 0)).1)) F cur).1, [], 0, 0) else .inl i) := by
      unfold dm216_34
      by_cases g : t.getD i 0 = 44
      · rw [if_pos g, d220 hG2]
        simp only [bu_some]
        by_cases g2 : inM F = 7
        · rw [if_pos g2, if_pos (show t.getD i 0 = 44 ∧ inM F = 7 from ⟨g, g2⟩)]
          obtain ⟨f, F0, cur1, q1, q2, q3⟩ := d221 (i := i) hG2 hcur g2 (by omega)
          rw [q1]
          rcases q3 with ⟨q4, s', r', b1, b2, b3⟩ | ⟨q4, s', r', b1, b2, b3, b4, b5, b6⟩
          · simp only [if_pos q4]
            rw [b1]
            refine ⟨s', setN r' 27 1, rfl, rfl, fun k hk => ?_, b3⟩
            unfold setN
            rw [if_neg (by omega)]
            exact (b2 k (by omega) (by omega)).trans (hr k hk)
          · simp only [if_neg q4]
            rw [b1]
            exact ⟨s', r', rfl, b2.at (show e ≤ i + 1 by omega) rfl rfl rfl rfl, (b5 27 (by decide) (by decide) (by decide) (by decide)).trans h27, b4, b3, b5 34 (by decide) (by decide) (by decide) (by decide), fun k hk => (b5 k (by omega) (by omega) (by omega) (by omega)).trans (hr k hk), b6⟩
        · rw [if_neg g2, if_neg (show ¬ (t.getD i 0 = 44 ∧ inM F = 7) from fun z => g2 z.2)]
          exact pct
      · rw [if_neg g, if_neg (show ¬ (t.getD i 0 = 44 ∧ inM F = 7) from fun z => g z.1)]
        exact pct
    unfold dm216_25
    by_cases g : t.getD i 0 = 41
    · rw [if_pos g, wP_f (show (33 : Nat) ≠ 26 by decide), show setN r 34 (-1) 33 = r 33 from rfl, a3]
      have k0 : Int32.ofNat (nO F) ≤ 0 ↔ nO F ≤ 0 := nle_iff (b := 0) (by omega) (by omega)
      by_cases g2 : nO F = 0
      · rw [if_pos (k0.mpr (by omega)), if_neg (show ¬ (t.getD i 0 = 41 ∧ ¬ nO F = 0) from fun z => z.2 g2)]
        exact com
      · rw [if_neg (fun z => by have := k0.mp z; omega), if_pos (show t.getD i 0 = 41 ∧ ¬ nO F = 0 from ⟨g, g2⟩)]
        obtain ⟨f, F0, cur1, s', r', q1, b1, b2, b3, b4, b5, b6, b7⟩ := d189 (i := i) hG2 hcur h36 g2 (by omega)
        rw [q1, b1]
        have hne : (clC f cur1).isEmpty = false := by
          cases hq : clC f cur1 with
          | nil => exact absurd hq b3
          | cons a b => rfl
        refine ⟨s', r', rfl, b2.at (show e ≤ i + 1 by omega) rfl rfl rfl rfl, (b6 27 (by decide) (by decide) (by decide) (by decide) (by decide)).trans h27, b5, ?_, b6 34 (by decide) (by decide) (by decide) (by decide) (by decide), fun k hk => (b6 k (by omega) (by omega) (by omega) (by omega) (by omega)).trans (hr k hk), b7⟩
        show r' 36 = if (clC f cur1).isEmpty = true then 1 else 0
        rw [hne, b4]
        rfl
    · rw [if_neg g, if_neg (show ¬ (t.getD i 0 = 41 ∧ ¬ nO F = 0) from fun z => g z.1)]
      exact com
  by_cases c1 : t.getD i 0 = 58
  · rw [if_pos c1, wP_f (by decide), h34]
    by_cases c2 : lc = 1
    · obtain ⟨n, rfl, hn4⟩ := hlc c2
      rw [if_pos c2, if_pos (show t.getD i 0 = 58 ∧ lc = 1 from ⟨c1, c2⟩)]
      have hidb : n.1 < 128 := by
        have := hG.2.2.2.2.2.2.1.2 n.1 (by rw [idL_ap]; exact List.mem_append_right _ (by show n.1 ∈ [n.1]; exact List.mem_cons_self))
        omega
      have hd : hdI [n] = n.1 := rfl
      rw [if_neg (show ¬ Int32.ofNat (hdI [n]) < 0 from fun q => by have := (nlt_iff (b := 0) (by omega) (by omega)).mp q; omega), wP_set (by decide), setN_2]
      have hG3 : GM s (setN r 34 (Int32.ofNat (hdI [n]))) e F [n] := hG.at (Nat.le_refl _) rfl rfl rfl rfl
      rcases d218 (hT.set 34 (Int32.ofNat (hdI [n])) (by decide)) hG3 hn4 h27 rfl hei hi with ⟨g, r', b1, b2, b3⟩ | ⟨g, s', r', b1, b2, b3, b4, b5⟩
      · simp only [if_pos (b01_ne.mpr g)]
        rw [b1]
        exact ⟨s, r', rfl, b2, fun k hk => (b3 k hk).trans (if_neg (by omega)), ch.refl _ s⟩
      · simp only [if_neg (fun z => b01_ne.mp z g)]
        rw [b1]
        exact ⟨s', r', rfl, b2, (b4 27 (by decide) (by decide) (by decide) (by decide)).trans h27, (b4 35 (by decide) (by decide) (by decide) (by decide)).trans h35, (b4 36 (by decide) (by decide) (by decide) (by decide)).trans h36, b3, fun k hk => (b4 k (by omega) (by omega) (by omega) (by omega)).trans (if_neg (by omega)), b5⟩
    · rw [if_neg c2, if_pos (by decide), if_neg (show ¬ (t.getD i 0 = 58 ∧ lc = 1) from fun z => c2 z.2)]
      exact rest
  · rw [if_neg c1, if_neg (show ¬ (t.getD i 0 = 58 ∧ lc = 1) from fun z => c1 z.1)]
    exact rest
end
section
/-! steps go on -/
def stOk (t : List Int32) (j : Nat) (b : Bool) (X : Nat ⊕ St) : Prop := match X with
  | .inl p => p ≤ t.length
  | .inr z => j ≤ z.1 ∧ z.1 ≤ t.length ∧ (z.1 = j → b = true ∧ z.2.2.1.isEmpty = false) ∧ (z.2.2.1.isEmpty = false → z.2.2.2.1 = 0) ∧ (z.2.2.1.isEmpty = true → z.2.2.2.2 = 0 ∧ (z.2.2.2.1 = 1 → ∃ f F0, z.2.1 = f :: F0 ∧ f.1 = 7)) ∧ (z.2.2.2.2 = 1 → ∃ n, z.2.2.1 = [n] ∧ n.2.1 0 = 4)
set_option maxRecDepth 100000 in
/-- a new operand of one node -/
theorem stOk.one {t : List Int32} {j e lc : Nat} {b : Bool} {F : List Fw} {n : NN} (h1 : j < e) (h2 : e ≤ t.length) (hl : lc = 1 → n.2.1 0 = 4) : stOk t j b (.inr (e, F, [n], 0, lc)) := ⟨by show j ≤ e; omega, h2, fun q => (by have q : e = j := q; omega), fun _ => rfl, fun q => (by cases q), fun q => ⟨n, rfl, hl q⟩⟩
set_option maxRecDepth 100000 in
theorem stOk.emp {t : List Int32} {j e : Nat} {b : Bool} {F : List Fw} {fr : Int32} (h1 : j < e) (h2 : e ≤ t.length) (hf : ¬ fr = 1) : stOk t j b (.inr (e, F, [], fr, 0)) := ⟨by show j ≤ e; omega, h2, fun q => (by have q : e = j := q; omega), fun q => (by cases q), fun _ => ⟨rfl, fun q => absurd q hf⟩, fun q => (by cases q)⟩
set_option maxRecDepth 100000 in
theorem stOk.cur {t : List Int32} {j e : Nat} {b : Bool} {F : List Fw} {L : List NN} (h1 : j < e) (h2 : e ≤ t.length) (hL : L.isEmpty = false) : stOk t j b (.inr (e, F, L, 0, 0)) := ⟨by show j ≤ e; omega, h2, fun q => (by have q : e = j := q; omega), fun _ => rfl, fun q => (by have q : L.isEmpty = true := q; rw [hL] at q; cases q), fun q => (by cases q)⟩
set_option maxRecDepth 100000 in
theorem mCell_ok {t : List Int32} {F : List Fw} {m j i : Nat} {x : Int32} {b : Bool} (hij : i ≤ j) (hj : j ≤ t.length) : stOk t i b (mCell t F m x j) := by
  unfold mCell
  by_cases g : cOk t j
  · rw [if_neg (fun z => b01_ne.mp z g)]
    obtain ⟨o1, o2, o3, o4, o5⟩ := cOk_b hj g
    exact stOk.one (by omega) o5 (fun _ => rfl)
  · rw [if_pos (b01_ne.mpr g)]
    exact cB_b hj
set_option maxRecDepth 100000 in
theorem mSh_ok {t : List Int32} {F : List Fw} {m f e i : Nat} {x : Int32} {b : Bool} {c : Nat ⊕ St} (hf : f ≤ t.length) (h : stOk t i b c) : stOk t i b (mSh t F m x f e c) := by
  unfold mSh
  by_cases g : 0 ≤ x
  · rw [if_pos g]
    exact h
  · rw [if_neg g]
    exact hf
set_option maxRecDepth 100000 in
theorem qtG_b {t : List Int32} {q : Int32} (h0 : ¬ q = 0) : ∀ (m i : Nat) (u : List Int32) (e : Nat), qtG t q m i = some (u, e) → i < e ∧ e ≤ t.length
  | 0, i, u, e, h => by cases h
  | m + 1, i, u, e, h => by
    rw [qtG] at h
    by_cases c1 : t.length ≤ i
    · rw [if_pos c1] at h; cases h
    · rw [if_neg c1] at h
      by_cases c2 : t.getD i 0 = q
      · rw [if_pos c2] at h
        by_cases c3 : t.getD (i + 1) 0 = q
        · rw [if_pos c3] at h
          cases z : qtG t q m (i + 2) with
          | none => rw [z] at h; cases h
          | some p =>
            rw [z] at h
            have h : some (q :: p.1, p.2) = some (u, e) := h
            cases h
            have := qtG_b h0 m (i + 2) p.1 p.2 z
            omega
        · rw [if_neg c3] at h
          cases h
          omega
      · rw [if_neg c2] at h
        cases z : qtG t q m (i + 1) with
        | none => rw [z] at h; cases h
        | some p =>
          rw [z] at h
          have h : some (t.getD i 0 :: p.1, p.2) = some (u, e) := h
          cases h
          have := qtG_b h0 m (i + 1) p.1 p.2 z
          omega
set_option maxRecDepth 100000 in
theorem mTok_ok {t : List Int32} {ns : List (List Int32)} {F : List Fw} {m i : Nat} {b : Bool} (ho : okT t) (hi : i < t.length) (hp : prB (t.getD i 0)) : stOk t i b (mTok t ns F m i) := by
  unfold mTok
  by_cases c1 : isD (t.getD i 0) ∨ t.getD i 0 = 46
  · rw [if_pos (b01_t c1)]
    have hb := nm_b hi c1
    by_cases g : (lexN t i).1 = 0
    · rw [if_pos g]
      exact hb.2
    · rw [if_neg g]
      exact stOk.one hb.1 hb.2 (fun q => by cases q)
  · rw [if_neg (by rw [b01_f c1]; decide)]
    by_cases c2 : t.getD i 0 = 34
    · rw [if_pos c2]
      cases z : qtA t 34 i with
      | none => exact Nat.le_refl _
      | some p =>
        obtain ⟨u, e⟩ := p
        have := qtG_b (by decide) _ _ _ _ z
        exact stOk.one (by omega) this.2 (fun q => by cases q)
    · rw [if_neg c2]
      by_cases c3 : t.getD i 0 = 35
      · rw [if_pos c3]
        have hb := erG_b (f := i) ho 8 0 (by omega)
        by_cases g : (erG t i 8 0).1 = 0
        · rw [if_pos g]
          exact hb.1
        · rw [if_neg g]
          exact stOk.one (by have := hb.2 g; omega) hb.1 (fun q => by cases q)
      · rw [if_neg c3]
        by_cases c4 : t.getD i 0 = 39
        · rw [if_pos c4]
          unfold mPre
          cases z : qtA t 39 i with
          | none => exact Nat.le_refl _
          | some p =>
            obtain ⟨u, e⟩ := p
            have hb := qtG_b (by decide) _ _ _ _ z
            by_cases g : t.getD e 0 = 33
            · simp only [if_pos g]
              have he : e < t.length := in_of (p := fun x => x = 33) (d := 0) (by decide) g
              exact mSh_ok (by omega) (mCell_ok (by omega) (by omega))
            · simp only [if_neg g]
              exact hb.2
        · rw [if_neg c4]
          by_cases c5 : t.getD i 0 = 36
          · rw [if_pos c5]
            exact mCell_ok (Nat.le_refl _) (by omega)
          · rw [if_neg c5]
            have hw : gW (t.getD i 0) := by
              rcases hp with q | q | q | q | q | q | q
              · exact absurd (Or.inl q) c1
              · exact absurd (Or.inr q) c1
              · exact absurd q c2
              · exact absurd q c3
              · rcases q with q | q
                · exact Or.inl q
                · exact Or.inr (Or.inr (Or.inl q))
              · exact absurd q c5
              · exact absurd q c4
            obtain ⟨w1, w2, w3⟩ := wd_b (t := t) (i := i) (by omega)
            have w0 : i < wdE t i := by
              obtain ⟨g1, g2⟩ := cnt_y gW0 hw
              unfold wdE
              omega
            unfold mWord
            by_cases d1 : t.getD (wdE t i) 0 = 36
            · rw [if_pos d1]
              unfold mDol
              have hd := dlR_b w2
              by_cases g : lo t i (wdE t i) < wdE t i - i ∨ 3 < lo t i (wdE t i) ∨ 16384 < cv4 t (lo t i (wdE t i)) i
              · rw [if_pos g]
                exact w2
              · rw [if_neg g]
                by_cases g2 : rowB t (wdE t i + dlR t (wdE t i))
                · rw [if_neg (fun z => b01_ne.mp z g2)]
                  obtain ⟨x1, x2, x3⟩ := rw_pos g2
                  obtain ⟨v1, v2, v3, v4⟩ := rwG_b (t := t) 300 (wdE t i + dlR t (wdE t i)) 0 (by omega) (by omega)
                  exact stOk.one (by omega) v4 (fun _ => rfl)
                · rw [if_pos (b01_ne.mpr g2)]
                  exact hd.1
            · rw [if_neg d1]
              by_cases d2 : t.getD (wdE t i) 0 = 33
              · rw [if_pos d2]
                have he : wdE t i < t.length := in_of (p := fun x => x = 33) (d := 0) (by decide) d2
                exact mSh_ok (by omega) (mCell_ok (by omega) (by omega))
              · rw [if_neg d2]
                by_cases d3 : t.getD (wdE t i) 0 = 40
                · rw [if_pos d3]
                  have he : wdE t i < t.length := in_of (p := fun x => x = 40) (d := 0) (by decide) d3
                  unfold mCal
                  by_cases g : nO F = 32
                  · rw [if_pos g]
                    exact w2
                  · rw [if_neg g]
                    exact ⟨by show i ≤ wdE t i + 1; omega, by show wdE t i + 1 ≤ t.length; omega, fun q => by have q : wdE t i + 1 = i := q; omega, fun q => (by cases q), fun _ => ⟨rfl, fun _ => ⟨_, _, rfl, rfl⟩⟩, fun q => (by cases q)⟩
                · rw [if_neg d3]
                  cases z : icR t i (wdE t i) with
                  | some p =>
                    obtain ⟨w, c⟩ := p
                    exact stOk.one w0 w2 (fun _ => rfl)
                  | none =>
                    show stOk t i b (mNam t F m i (wdE t i))
                    unfold mNam
                    exact stOk.one w0 w2 (fun q => by cases q)
set_option maxRecDepth 100000 in
theorem mOpd_ok {t : List Int32} {ns : List (List Int32)} {F : List Fw} {i : Nat} {fr : Int32} (ho : okT t) (hi : i < t.length) : stOk t i true (mOpd t ns i F fr) := by
  unfold mOpd
  by_cases c1 : t.getD i 0 = 43
  · rw [if_pos c1]
    exact stOk.emp (by omega) hi (by decide)
  · rw [if_neg c1]
    by_cases c2 : t.getD i 0 = 45
    · rw [if_pos c2]
      by_cases g : (fl F).length = 128
      · rw [if_pos g]
        exact Nat.le_of_lt hi
      · rw [if_neg g]
        exact stOk.emp (by omega) hi (by decide)
    · rw [if_neg c2]
      by_cases c3 : t.getD i 0 = 40
      · rw [if_pos c3]
        by_cases g : nO F = 32
        · rw [if_pos g]
          exact Nat.le_of_lt hi
        · rw [if_neg g]
          exact stOk.emp (by omega) hi (by decide)
      · rw [if_neg c3]
        by_cases c4 : t.getD i 0 = 41 ∧ fr = 1
        · rw [if_pos c4]
          cases F with
          | nil => exact Nat.le_of_lt hi
          | cons f F0 => exact stOk.cur (by omega) hi rfl
        · rw [if_neg c4]
          by_cases c5 : (t.getD i 0 = 41 ∨ t.getD i 0 = 44) ∧ ¬ fr ≤ 0
          · rw [if_pos c5]
            by_cases g : (fl F).length = 128
            · rw [if_pos g]
              exact Nat.le_of_lt hi
            · rw [if_neg g]
              exact ⟨Nat.le_refl _, Nat.le_of_lt hi, fun _ => ⟨rfl, rfl⟩, fun _ => rfl, fun q => (by cases q), fun q => (by cases q)⟩
          · rw [if_neg c5]
            unfold mPrim
            by_cases g : b01 (prB (t.getD i 0)) = 0 ∨ (fl F).length = 128
            · rw [if_pos g]
              exact Nat.le_of_lt hi
            · rw [if_neg g]
              exact mTok_ok ho hi (Classical.byContradiction fun q => g (Or.inl (b01_ne.mpr q)))
set_option maxRecDepth 100000 in
theorem mBeh_ok {t : List Int32} {F : List Fw} {i lc : Nat} {cur : List NN} (hi : i < t.length) (hcur : cur ≠ []) : stOk t i false (mBeh t i F cur lc) := by
  unfold mBeh
  by_cases c1 : t.getD i 0 = 58 ∧ lc = 1
  · rw [if_pos c1]
    cases cur with
    | nil => exact absurd rfl hcur
    | cons n L =>
      have hb := sk_b (t := t) (i := i + 1) (by omega)
      by_cases g : cOk t (skS t (i + 1))
      · simp only [if_neg (fun z => b01_ne.mp z g)]
        obtain ⟨o1, o2, o3, o4, o5⟩ := cOk_b hb.2 g
        exact stOk.one (by omega) o5 (fun q => by cases q)
      · simp only [if_pos (b01_ne.mpr g)]
        exact cB_b hb.2
  · rw [if_neg c1]
    by_cases c2 : t.getD i 0 = 41 ∧ ¬ nO F = 0
    · rw [if_pos c2]
      cases hq : (rdF 0 F cur).1 with
      | nil => exact Nat.le_of_lt hi
      | cons f F0 =>
        have hne : (rdF 0 F cur).2 ≠ [] := by
          have key : ∀ (G : List Fw) (L : List NN), L ≠ [] → (rdF 0 G L).2 ≠ [] := by
            intro G
            induction G with
            | nil => intro L h; exact h
            | cons g G ih =>
              intro L h
              by_cases z : g.1 = 100 ∨ g.1 = 7 ∨ rkM g.1 < 0
              · have : rdF 0 (g :: G) L = (g :: G, L) := if_pos z
                rw [this]
                exact h
              · have : rdF 0 (g :: G) L = rdF 0 G (upN g :: (g.2.2.1 ++ L)) := if_neg z
                rw [this]
                exact ih _ (by simp)
          exact key F cur hcur
        have hn2 : (clC f (rdF 0 F cur).2).isEmpty = false := by
          unfold clC
          by_cases z : f.1 = 7
          · rw [if_pos z]
            rfl
          · rw [if_neg z]
            cases hz : (rdF 0 F cur).2 with
            | nil => exact absurd hz hne
            | cons a b => rfl
        exact stOk.cur (by omega) hi hn2
    · rw [if_neg c2]
      by_cases c3 : t.getD i 0 = 44 ∧ inM F = 7
      · rw [if_pos c3]
        cases hq : (rdF 0 F cur).1 with
        | nil => exact Nat.le_of_lt hi
        | cons f F0 =>
          by_cases g : f.2.2.2.length = 29
          · simp only [if_pos g]
            exact Nat.le_of_lt hi
          · simp only [if_neg g]
            exact stOk.emp (by omega) hi (by decide)
      · rw [if_neg c3]
        by_cases c4 : t.getD i 0 = 37 ∧ (fl F ++ cur).length < 128
        · rw [if_pos c4]
          exact stOk.cur (by omega) hi rfl
        · rw [if_neg c4]
          by_cases c5 : ¬ (opk (t.getD i 0) (t.getD (i + 1) 0)).1 = 0 ∧ (fl F ++ cur).length < 128
          · rw [if_pos c5]
            have hb : 1 ≤ (opk (t.getD i 0) (t.getD (i + 1) 0)).2 ∧ i + (opk (t.getD i 0) (t.getD (i + 1) 0)).2 ≤ t.length := by
              have hd : ∀ x : Int32, ¬ x = 0 → t.getD (i + 1) 0 = x → i + 1 < t.length := by
                intro x hx hq
                by_cases z : i + 1 < t.length
                · exact z
                · rw [getD_out (by omega)] at hq
                  exact absurd hq.symm hx
              have h5 := c5.1
              have e62 := hd 62 (by decide)
              have e61 := hd 61 (by decide)
              clear c5 c4 c3 c2 c1 hd
              revert h5
              unfold opk
              repeat' split
              all_goals
                intro h5
                first
                  | (exact ⟨Nat.le_refl _, hi⟩)
                  | (rename_i z; have := e62 z; exact ⟨by decide, by omega⟩)
                  | (rename_i z; have := e61 z; exact ⟨by decide, by omega⟩)
                  | exact absurd rfl h5
            exact stOk.emp (by omega) hb.2 (by decide)
          · rw [if_neg c5]
            exact Nat.le_of_lt hi
end
section
/-! a tree laid out as a formula, in the reference -/
set_option maxRecDepth 100000 in
theorem d223k {s : aS} {p q : Nat} (hp : p < 1152) (hq : q < 1152) : ∃ s', dm223 (Int32.ofNat p) (Int32.ofNat q) s = some s' ∧ (∀ w, w < 11 → sI s' (128 + w) q = sI s (128 + w) p) ∧ ch (fun a k => (128 ≤ a ∧ a ≤ 138) ∧ k = q) s s' := by
  have hbp : aB (Int32.ofNat p) 1152 := by rw [aB_iff, iOfNat (by omega)]; omega
  have hbq : aB (Int32.ofNat q) 1152 := by rw [aB_iff, iOfNat (by omega)]; omega
  have ejp : jN (Int32.ofNat p) = p := jN_of (by omega)
  have ejq : jN (Int32.ofNat q) = q := jN_of (by omega)
  unfold dm223
  simp only [if_pos hbp, if_pos hbq, nx_eq, ejp, ejq]
  refine ⟨_, rfl, fun w hw => ?_, (((((((((((ch.refl _ s).wI (by omega)).wI (by omega)).wI (by omega)).wI (by omega)).wI (by omega)).wI (by omega)).wI (by omega)).wI (by omega)).wI (by omega)).wI (by omega)).wI (by omega)⟩
  match w, hw with
  | 0, _ => simp [sI_wI]
  | 1, _ => simp [sI_wI]
  | 2, _ => simp [sI_wI]
  | 3, _ => simp [sI_wI]
  | 4, _ => simp [sI_wI]
  | 5, _ => simp [sI_wI]
  | 6, _ => simp [sI_wI]
  | 7, _ => simp [sI_wI]
  | 8, _ => simp [sI_wI]
  | 9, _ => simp [sI_wI]
  | 10, _ => simp [sI_wI]
set_option maxRecDepth 100000 in
theorem HF.len {s : aS} {e : Nat} : ∀ (L : List NN) (ids : List Nat), HF s e L ids → ids.length ≤ L.length
  | [], ids, q => by
    have q : ids = [] := q
    rw [q]
    exact Nat.le_refl _
  | n :: L, ids, q => by
    obtain ⟨r, ks, e1, e2, e3, e4, e5, e6⟩ := q
    have := HF.len L _ e6
    rw [e1]
    simp only [List.length_append, List.length_cons] at this ⊢
    omega
set_option maxRecDepth 100000 in
theorem d222i {k9 : Int32 → Int32 → Int32 → aS → Option aS} {x2 x3 x4 x6 : Int32} {base : Nat} : ∀ (ks : List Nat) (N : Nat) (x : Int32) (s : aS), nch s x ks → ks.length < N → base + ks.length ≤ 128 → ∃ s', dm222_46 k9 N x2 x3 x4 x6 (Int32.ofNat (base + ks.length) - 1) x s = k9 x2 x3 (x4 + x6) s' ∧ (∀ j (h : j < ks.length), sI s' 143 (base + ks.length - 1 - j) = Int32.ofNat ks[j]) ∧ ch (fun a k => a = 143 ∧ base ≤ k ∧ k < base + ks.length) s s' := by
  intro ks
  induction ks with
  | nil =>
    intro N x s h hN hb
    obtain ⟨N, rfl⟩ : ∃ q, N = q + 1 := ⟨N - 1, by simp only [List.length_nil] at hN; omega⟩
    have h : x = -1 := h
    subst h
    refine ⟨s, ?_, fun j hj => absurd hj (Nat.not_lt_zero j), ch.refl _ s⟩
    rw [dm222_46, if_pos (by decide)]
  | cons k r ih =>
    intro N x s h hN hb
    obtain ⟨N, rfl⟩ : ∃ q, N = q + 1 := ⟨N - 1, by simp only [List.length_cons] at hN; omega⟩
    simp only [List.length_cons] at hN hb
    obtain ⟨h1, h2, h3⟩ := h
    subst h1
    have e1 : Int32.ofNat (base + (k :: r).length) - 1 = Int32.ofNat (base + r.length) := by
      have := ofNat_sub1 (n := base + (r.length + 1)) (by omega) (by omega)
      rw [List.length_cons, this]
      congr 1
    have b1 : aB (Int32.ofNat (base + r.length)) 128 := aB_of (by omega) (by omega)
    have j1 : jN (Int32.ofNat (base + r.length)) = base + r.length := jN_of (by omega)
    have b2 : aB (Int32.ofNat k) 128 := aB_of h2 (by omega)
    have j2 : jN (Int32.ofNat k) = k := jN_of (by omega)
    have p0 : ¬ Int32.ofNat k < 0 := fun q => by
      have := (nlt_iff (b := 0) (by omega) (by omega)).mp q
      omega
    have e2 : Int32.ofNat (base + r.length) + (-1) = Int32.ofNat (base + r.length) - 1 := by rw [Int32.sub_eq_add_neg]
    have h3' : nch (wI s 143 (base + r.length) (Int32.ofNat k)) (sI (wI s 143 (base + r.length) (Int32.ofNat k)) 142 k) r := by
      have : sI (wI s 143 (base + r.length) (Int32.ofNat k)) 142 k = sI s 142 k := by rw [sI_wI, if_neg (by omega)]
      rw [this]
      exact nch.of r _ h3 (fun q _ => by rw [sI_wI, if_neg (by omega)])
    obtain ⟨s', a1, a2, a3⟩ := ih N _ (wI s 143 (base + r.length) (Int32.ofNat k)) h3' (by omega) (by omega)
    refine ⟨s', ?_, fun j hj => ?_, ((ch.refl (fun a k_1 => a = 143 ∧ base ≤ k_1 ∧ k_1 < base + (k :: r).length) s).wI ⟨rfl, by omega, by rw [List.length_cons]; omega⟩).trans (a3.mono fun a q z => ⟨z.1, z.2.1, by rw [List.length_cons]; have := z.2.2; omega⟩)⟩
    · rw [dm222_46, e1, if_neg p0]
      simp only [if_pos b1, j1, nx_eq, if_pos b2, j2, e2]
      exact a1
    · simp only [List.length_cons]
      cases j with
      | zero =>
        rw [show base + (r.length + 1) - 1 - 0 = base + r.length by omega, a3.i (by omega), sI_wI, if_pos ⟨rfl, rfl⟩]
        rfl
      | succ j =>
        simp only [List.length_cons] at hj
        rw [show base + (r.length + 1) - 1 - (j + 1) = base + r.length - 1 - j by omega]
        exact a2 j (by omega)
def stk (s : aS) (ids : List Nat) : Prop := ∀ j (h : j < ids.length), sI s 143 (ids.length - 1 - j) = Int32.ofNat ids[j]
set_option maxRecDepth 100000 in
theorem d222l {f e : Nat} (hf : f < 8) : ∀ (L : List NN) (ids : List Nat) (cnt N : Nat) (s : aS), HF s e L ids → (idL L).Nodup → stk s ids → cnt + L.length ≤ 128 → L.length < N → ∃ s', dm222_9 N (Int32.ofNat f) (Int32.ofNat cnt) (Int32.ofNat ids.length) s = dm222_72 5000 (Int32.ofNat f) 0 (wI s' 127 f (Int32.ofNat (cnt + L.length))) ∧ (∀ i (h : i < L.length) w, w < 11 → sI s' (128 + w) (128 * f + cnt + i) = sI s (128 + w) (1024 + L[i].1)) ∧ ch (fun a k => ((128 ≤ a ∧ a ≤ 138) ∧ 128 * f + cnt ≤ k ∧ k < 128 * f + 128) ∨ a = 143) s s' := by
  intro L
  induction L with
  | nil =>
    intro ids cnt N s h hn hs hc hN
    obtain ⟨N, rfl⟩ : ∃ q, N = q + 1 := ⟨N - 1, by simp only [List.length_nil] at hN; omega⟩
    have h : ids = [] := h
    subst h
    refine ⟨s, ?_, fun i hi => absurd hi (Nat.not_lt_zero i), ch.refl _ s⟩
    rw [dm222_9, if_pos (show Int32.ofNat ([] : List Nat).length ≤ 0 by decide), if_pos (aB_of (by omega) (by omega)), nx_eq, jN_of (by omega)]
    rfl
  | cons n L ih =>
    intro ids cnt N s h hn hs hc hN
    obtain ⟨N, rfl⟩ : ∃ q, N = q + 1 := ⟨N - 1, by simp only [List.length_cons] at hN; omega⟩
    simp only [List.length_cons] at hc hN
    have hlen0 := HF.len _ _ h
    obtain ⟨r, ks, e1, e2, e3, e4, e5, e6⟩ := h
    subst e1
    have hn : (n.1 :: idL L).Nodup := hn
    rw [List.nodup_cons] at hn
    have hlen := HF.len _ _ e6
    rw [List.length_append] at hlen
    simp only [List.length_cons] at hlen0
    have t0 : sI s 143 r.length = Int32.ofNat n.1 := by
      have := hs 0 (by simp)
      simp only [List.length_cons, List.getElem_cons_zero] at this
      rw [show r.length + 1 - 1 - 0 = r.length by omega] at this
      exact this
    have p0 : ¬ Int32.ofNat (n.1 :: r).length ≤ 0 := fun q => by
      have := (nle_iff (b := 0) (by simp only [List.length_cons]; omega) (by omega)).mp q
      simp only [List.length_cons] at this
      omega
    have eT : Int32.ofNat (n.1 :: r).length + (-1) = Int32.ofNat r.length := by
      have := ofNat_sub1 (n := r.length + 1) (by omega) (by omega)
      rw [Int32.sub_eq_add_neg] at this
      exact this
    have bT : aB (Int32.ofNat r.length) 128 := aB_of (by omega) (by omega)
    have jT : jN (Int32.ofNat r.length) = r.length := jN_of (by omega)
    have eP : (1024 : Int32) + Int32.ofNat n.1 = Int32.ofNat (1024 + n.1) := iSum (i := 1024) (j := n.1) (by omega) (by omega)
    have bP : aB (Int32.ofNat (1024 + n.1)) 1152 := aB_of (by omega) (by omega)
    have jP : jN (Int32.ofNat (1024 + n.1)) = 1024 + n.1 := jN_of (by omega)
    have bN : aB (Int32.ofNat n.1) 128 := aB_of e2 (by omega)
    have jN' : jN (Int32.ofNat n.1) = n.1 := jN_of (by omega)
    obtain ⟨s9, d1, d2, d3⟩ := d223k (s := s) (p := 1024 + n.1) (q := 128 * f + cnt) (by omega) (by omega)
    have k9 : sI s9 129 (1024 + n.1) = Int32.ofNat ks.length := (d3.i (by omega)).trans ((e3.1 1 (by decide)).trans e5)
    have f9 : sI s9 140 n.1 = sI s 140 n.1 := d3.i (by omega)
    have eK : Int32.ofNat r.length + Int32.ofNat ks.length = Int32.ofNat (r.length + ks.length) := iSum (by omega) (by omega)
    have hch9 : nch s9 (sI s 140 n.1) ks := nch.of ks _ e4 (fun k _ => d3.i (by omega))
    obtain ⟨s10, g1, g2, g3⟩ := d222i (k9 := dm222_9 N) (x2 := Int32.ofNat f) (x3 := Int32.ofNat (cnt + 1)) (x4 := Int32.ofNat r.length) (x6 := Int32.ofNat ks.length) (base := r.length) ks 5000 _ s9 hch9 (by omega) (by omega)
    have c10 : ch (fun a k => ((128 ≤ a ∧ a ≤ 138) ∧ k = 128 * f + cnt) ∨ a = 143) s s10 := (d3.mono fun a k z => Or.inl z).trans (g3.mono fun a k z => Or.inr z.1)
    have pz : PZ s s10 e (idL L) := ⟨fun q _ => c10.i (by omega), fun k _ => ⟨⟨fun w hw => c10.i (by omega), c10.i (by omega)⟩, c10.i (by omega), c10.i (by omega)⟩⟩
    have hst : stk s10 (ks ++ r) := by
      intro j hj
      rw [List.length_append] at hj ⊢
      by_cases c : j < ks.length
      · rw [List.getElem_append_left c, show ks.length + r.length - 1 - j = r.length + ks.length - 1 - j by omega]
        exact g2 j c
      · rw [List.getElem_append_right (by omega), g3.i (by omega), d3.i (by omega)]
        have := hs (j - ks.length + 1) (by simp only [List.length_cons]; omega)
        simp only [List.length_cons, List.getElem_cons_succ] at this
        rw [show ks.length + r.length - 1 - j = r.length + 1 - 1 - (j - ks.length + 1) by omega]
        exact this
    obtain ⟨s', a1, a2, a3⟩ := ih (ks ++ r) (cnt + 1) N s10 (pz.hf (Nat.le_refl _) e6 hn.2) hn.2 hst (by omega) (by omega)
    refine ⟨s', ?_, fun i hi w hw => ?_, (c10.mono fun a k z => by omega).trans (a3.mono fun a k z => by omega)⟩
    · rw [dm222_9, if_neg p0]
      simp only [eT, if_pos bT, jT, t0, eP, if_pos bP, jP, if_pos bN, jN']
      rw [i128 (by omega) (by omega), d1]
      simp only [bu_some, k9, f9]
      rw [eK, ofNat_succ (by omega), g1, eK]
      rw [List.length_append, show ks.length + r.length = r.length + ks.length by omega] at a1
      rw [a1]
      simp only [List.length_cons]
      rw [show cnt + 1 + L.length = cnt + (L.length + 1) by omega]
    · cases i with
      | zero =>
        rw [a3.i (by omega), Nat.add_zero, g3.i (by omega)]
        exact d2 w hw
      | succ i =>
        simp only [List.length_cons] at hi
        have := a2 i (by omega) w hw
        rw [show 128 * f + cnt + (i + 1) = 128 * f + (cnt + 1) + i by omega, this]
        simp only [List.getElem_cons_succ]
        exact c10.i (by omega)
set_option maxRecDepth 100000 in
theorem d222t {f tl : Nat} (hf : f < 8) (htl : tl ≤ 256) : ∀ (m j N : Nat) (s : aS), sI s 121 1 = Int32.ofNat tl → j + m = tl → m < N → ∃ s', dm222_72 N (Int32.ofNat f) (Int32.ofNat j) s = some s' ∧ (∀ q, j ≤ q → q < tl → sI s' 139 (256 * f + q) = sI s 139 (2048 + q)) ∧ ch (fun a k => a = 139 ∧ 256 * f + j ≤ k ∧ k < 256 * f + tl) s s' := by
  intro m
  induction m with
  | zero =>
    intro j N s h1 h2 h3
    obtain ⟨N, rfl⟩ : ∃ q, N = q + 1 := ⟨N - 1, by omega⟩
    rw [dm222_72, h1, if_pos ((nle_iff (by omega) (by omega)).mpr (by omega))]
    exact ⟨s, rfl, fun q a b => by omega, ch.refl _ s⟩
  | succ m ih =>
    intro j N s h1 h2 h3
    obtain ⟨N, rfl⟩ : ∃ q, N = q + 1 := ⟨N - 1, by omega⟩
    have e1 : (2048 : Int32) + Int32.ofNat j = Int32.ofNat (2048 + j) := iSum (i := 2048) (j := j) (by omega) (by omega)
    have b1 : aB (Int32.ofNat (2048 + j)) 2304 := aB_of (by omega) (by omega)
    have j1 : jN (Int32.ofNat (2048 + j)) = 2048 + j := jN_of (by omega)
    have b2 : aB (Int32.ofNat (256 * f + j)) 2304 := aB_of (by omega) (by omega)
    have j2 : jN (Int32.ofNat (256 * f + j)) = 256 * f + j := jN_of (by omega)
    obtain ⟨s', a1, a2, a3⟩ := ih (j + 1) N (wI s 139 (256 * f + j) (sI s 139 (2048 + j))) (by rw [sI_wI, if_neg (by omega)]; exact h1) (by omega) (by omega)
    refine ⟨s', ?_, fun q x y => ?_, ((ch.refl (fun a k => a = 139 ∧ 256 * f + j ≤ k ∧ k < 256 * f + tl) s).wI (by omega)).trans (a3.mono fun a k z => by omega)⟩
    · rw [dm222_72, h1, if_neg (fun q => by have := (nle_iff (by omega) (by omega)).mp q; omega), e1, i256 (by omega) (by omega)]
      simp only [if_pos b1, if_pos b2, j1, j2, nx_eq]
      rw [ofNat_succ (by omega)]
      exact a1
    · by_cases c : q = j
      · subst c
        rw [a3.i (by omega), sI_wI, if_pos ⟨rfl, rfl⟩]
      · rw [a2 q (by omega) y, sI_wI, if_neg (by omega)]
set_option maxRecDepth 100000 in
theorem d222 {s : aS} {f e c tl : Nat} {L : List NN} (hf : f < 8) (htl : tl ≤ 256) (h1 : sI s 121 1 = Int32.ofNat tl) (h : HF s e L [c]) (hn : (idL L).Nodup) (h8 : L.length ≤ 128) : ∃ s', dm222 (Int32.ofNat c) (Int32.ofNat f) s = some s' ∧ sI s' 127 f = Int32.ofNat L.length ∧ (∀ i (h : i < L.length) w, w < 11 → sI s' (128 + w) (128 * f + i) = sI s (128 + w) (1024 + L[i].1)) ∧ (∀ q, q < tl → sI s' 139 (256 * f + q) = sI s 139 (2048 + q)) ∧ ch (fun a k => ((128 ≤ a ∧ a ≤ 138) ∧ 128 * f ≤ k ∧ k < 128 * f + 128) ∨ a = 143 ∨ (a = 127 ∧ k = f) ∨ (a = 139 ∧ 256 * f ≤ k ∧ k < 256 * f + 256)) s s' := by
  have pz : PZ s (wI s 143 0 (Int32.ofNat c)) e (idL L) := PZ.st (by decide)
  have hst : stk (wI s 143 0 (Int32.ofNat c)) [c] := by
    intro j hj
    have hj : j < 1 := hj
    have : j = 0 := by omega
    subst this
    show sI (wI s 143 0 (Int32.ofNat c)) 143 0 = Int32.ofNat c
    rw [sI_wI, if_pos ⟨rfl, rfl⟩]
  obtain ⟨s1, a1, a2, a3⟩ := d222l hf L [c] 0 5000 (wI s 143 0 (Int32.ofNat c)) (pz.hf (Nat.le_refl _) h hn) hn hst (by omega) (by omega)
  obtain ⟨s2, b1, b2, b3⟩ := d222t hf htl tl 0 5000 (wI s1 127 f (Int32.ofNat (0 + L.length))) (by rw [sI_wI, if_neg (by omega), a3.i (by omega), sI_wI, if_neg (by omega)]; exact h1) (by omega) (by omega)
  have c0 : ch (fun a k => ((128 ≤ a ∧ a ≤ 138) ∧ 128 * f ≤ k ∧ k < 128 * f + 128) ∨ a = 143 ∨ (a = 127 ∧ k = f) ∨ (a = 139 ∧ 256 * f ≤ k ∧ k < 256 * f + 256)) s s2 := ((((ch.refl _ s).wI (by omega)).trans (a3.mono fun a k z => by omega)).wI (by omega)).trans (b3.mono fun a k z => by omega)
  refine ⟨s2, ?_, ?_, fun i hi w hw => ?_, fun q hq => ?_, c0⟩
  · unfold dm222
    rw [if_pos (by decide), nx_eq]
    exact a1.trans b1
  · rw [b3.i (by omega), sI_wI, if_pos ⟨rfl, rfl⟩, Nat.zero_add]
  · rw [b3.i (by omega), sI_wI, if_neg (by omega)]
    have := a2 i hi w hw
    rw [Nat.add_zero] at this
    rw [this, sI_wI, if_neg (by omega)]
  · rw [b2 q (Nat.zero_le _) hq, sI_wI, if_neg (by omega), a3.i (by omega), sI_wI, if_neg (by omega)]
end
section
/-! the reference's reader, its loop -/
set_option maxRecDepth 100000 in
noncomputable def mRun (t : List Int32) (ns : List (List Int32)) : Nat → St → Nat ⊕ (List Fw × List NN)
  | 0, _ => .inl 0
  | n + 1, z => if t.length ≤ skS t z.1 then (if z.2.2.1.isEmpty = true ∨ ¬ nO z.2.1 = 0 then .inl t.length else .inr (z.2.1, z.2.2.1)) else (match (if z.2.2.1.isEmpty = true then mOpd t ns (skS t z.1) z.2.1 z.2.2.2.1 else mBeh t (skS t z.1) z.2.1 z.2.2.1 z.2.2.2.2) with
    | .inl p => .inl p
    | .inr z' => mRun t ns n z')
def LI (s : aS) (r : Nat → Int32) (t : List Int32) (ns : List (List Int32)) (z : St) : Prop := TX s r t ∧ GM s r z.1 z.2.1 z.2.2.1 ∧ okT t ∧ z.1 ≤ t.length ∧ r 27 = 0 ∧ r 35 = z.2.2.2.1 ∧ r 36 = (if z.2.2.1.isEmpty = true then 1 else 0) ∧ r 34 = (if z.2.2.2.2 = 1 then Int32.ofNat (hdI z.2.2.1) else -1) ∧ (sT s 147).2 = 256 ∧ SX s r ns ∧ (z.2.2.1.isEmpty = false → z.2.2.2.1 = 0) ∧ (z.2.2.1.isEmpty = true → z.2.2.2.2 = 0 ∧ (z.2.2.2.1 = 1 → ∃ f F0, z.2.1 = f :: F0 ∧ f.1 = 7)) ∧ (z.2.2.2.2 = 1 → ∃ n, z.2.2.1 = [n] ∧ n.2.1 0 = 4)
def muS (t : List Int32) (z : St) : Nat := 2 * (t.length - z.1) + (if z.2.2.1.isEmpty = true then 1 else 0)
set_option maxRecDepth 100000 in
theorem emp_iff {L : List NN} : L.isEmpty = true ↔ L = [] := by
  cases L with
  | nil => exact ⟨fun _ => rfl, fun _ => rfl⟩
  | cons a b => exact ⟨fun q => (by cases q), fun q => (by cases q)⟩
set_option maxRecDepth 100000 in
theorem nE_of {L : List NN} (h : ¬ L.isEmpty = true) : L.isEmpty = false := by
  cases L with
  | nil => exact absurd rfl h
  | cons a b => rfl
set_option maxRecDepth 100000 in
theorem d184st {s : aS} {r : Nat → Int32} {t : List Int32} {ns : List (List Int32)} {z : St} (h : LI s r t ns z) (hj : ¬ t.length ≤ skS t z.1) : OUT s r (if z.2.2.1.isEmpty = true then dm185 (wP s r (skS t z.1)) else dm216 (wP s r (skS t z.1))) (if z.2.2.1.isEmpty = true then mOpd t ns (skS t z.1) z.2.1 z.2.2.2.1 else mBeh t (skS t z.1) z.2.1 z.2.2.1 z.2.2.2.2) ∧ stOk t (skS t z.1) z.2.2.1.isEmpty (if z.2.2.1.isEmpty = true then mOpd t ns (skS t z.1) z.2.1 z.2.2.2.1 else mBeh t (skS t z.1) z.2.1 z.2.2.1 z.2.2.2.2) := by
  obtain ⟨h1, h2, h3, h4, h5, h6, h7, h8, h9, h10, h11, h12, h13⟩ := h
  have hb := sk_b h4
  by_cases c : z.2.2.1.isEmpty = true
  · rw [if_pos c, if_pos c]
    have e0 := emp_iff.mp c
    rw [if_pos c] at h7
    rw [e0] at h2
    obtain ⟨q1, q2⟩ := h12 c
    rw [q1, if_neg (by decide)] at h8
    refine ⟨d185 ⟨h1, h2, h3, h4, h5, h6, h7, h8, h9, h10⟩ hb.1 (by omega) q2, ?_⟩
    rw [c]
    exact mOpd_ok h3 (by omega)
  · rw [if_neg c, if_neg c]
    have e0 : z.2.2.1 ≠ [] := fun q => c (emp_iff.mpr q)
    have cf := nE_of c
    rw [if_neg c] at h7
    rw [h11 cf] at h6
    refine ⟨d216 (ns := ns) ⟨h1, h2, e0, h3, h4, h5, h6, h7, h8, h13, h9, h10⟩ hb.1 (by omega), ?_⟩
    rw [cf]
    exact mBeh_ok (by omega) e0
set_option maxRecDepth 100000 in
theorem d184r {t : List Int32} {ns : List (List Int32)} {x1 x2 : Int32} : ∀ (m : Nat) (z : St) (n : Nat) (s : aS) (r : Nat → Int32), LI s r t ns z → muS t z ≤ m → m + 2 < n → match mRun t ns (m + 1) z with
    | .inl p => ∃ s' r', dm184_48 n x1 x2 1 (wP s r z.1) = some (Int32.ofNat p, wP s' r' p) ∧ (∀ k, k ≤ 20 → r' k = r k) ∧ ch scr s s' ∧ p ≤ t.length
    | .inr q => ∃ s' r' j, dm184_48 n x1 x2 1 (wP s r z.1) = dm184_101 x1 x2 (wP s' r' j) ∧ GM s' r' j q.1 q.2 ∧ q.2 ≠ [] ∧ nO q.1 = 0 ∧ j ≤ t.length ∧ r' 27 = 0 ∧ (∀ k, k ≤ 20 → r' k = r k) ∧ ch scr s s' := by
  intro m
  induction m with
  | zero =>
    intro z n s r h hm hn
    have h4 := h.2.2.2.1
    have hm0 : muS t z = 0 := by omega
    have hb := sk_b h4
    unfold muS at hm0
    have he : t.length ≤ skS t z.1 := by omega
    have hc : ¬ z.2.2.1.isEmpty = true := fun q => by rw [if_pos q] at hm0; omega
    obtain ⟨h1, h2, h3, h4, h5, h6, h7, h8, h9, h10, h11, h12, h13⟩ := h
    obtain ⟨n, rfl⟩ : ∃ q, n = q + 2 := ⟨n - 2, by omega⟩
    have hl := h1.1
    have w27 : ∀ i, sI (wP s r i) 121 27 = 0 := fun i => (wP_f (by decide)).trans h5
    rw [if_neg hc] at h7
    have w36 : ∀ i, sI (wP s r i) 121 36 = 0 := fun i => (wP_f (by decide)).trans h7
    have a3 : r 33 = Int32.ofNat (nO z.2.1) := h2.2.2.1.1
    have hO8 := h2.2.2.1.2
    have e1 : dm184_48 (n + 2) x1 x2 1 (wP s r z.1) = dm184_88 x1 x2 (wP s r (skS t z.1)) := by
      rw [dm184_48, if_neg (by decide), w27, if_pos rfl, d184p h1 t.length z.1 5000 (by omega) (by omega) (by omega), if_pos he]
      unfold dm184_74 dm184_83
      rw [if_pos rfl, if_pos rfl, dm184_48, if_pos rfl]
    have e2 : mRun t ns (0 + 1) z = if z.2.2.1.isEmpty = true ∨ ¬ nO z.2.1 = 0 then .inl t.length else .inr (z.2.1, z.2.2.1) := by
      rw [mRun, if_pos he]
    rw [e2, e1]
    unfold dm184_88
    rw [w27, if_pos rfl, w36, if_pos rfl, wP_f (by decide), a3]
    by_cases g : nO z.2.1 = 0
    · rw [if_neg (show ¬ (z.2.2.1.isEmpty = true ∨ ¬ nO z.2.1 = 0) by rintro (q | q); exact hc q; exact q g), if_pos (show Int32.ofNat (nO z.2.1) ≤ 0 by rw [g]; decide)]
      exact ⟨s, r, skS t z.1, rfl, h2.at hb.1 rfl rfl rfl rfl, fun q => hc (emp_iff.mpr q), g, hb.2, h5, fun _ _ => rfl, ch.refl _ s⟩
    · rw [if_pos (show z.2.2.1.isEmpty = true ∨ ¬ nO z.2.1 = 0 from Or.inr g), if_neg (show ¬ Int32.ofNat (nO z.2.1) ≤ 0 from fun q => by have := (nle_iff (b := 0) (by omega) (by omega)).mp q; omega)]
      refine ⟨s, setN r 27 1, ?_, fun k hk => if_neg (by omega), ch.refl _ s, Nat.le_refl _⟩
      unfold dm184_97 dm184_101
      rw [h1.len, d186]
      simp only [bu_some]
      rw [wP_f (by decide), show setN r 27 1 27 = 1 from rfl, if_neg (by decide), wP_at]
  | succ m ih =>
    intro z n s r h hm hn
    have hL := h
    have h4 := h.2.2.2.1
    have hb := sk_b h4
    obtain ⟨h1, h2, h3, h4, h5, h6, h7, h8, h9, h10, h11, h12, h13⟩ := h
    obtain ⟨n, rfl⟩ : ∃ q, n = q + 2 := ⟨n - 2, by omega⟩
    have hl := h1.1
    have w27 : ∀ i, sI (wP s r i) 121 27 = 0 := fun i => (wP_f (by decide)).trans h5
    have a3 : r 33 = Int32.ofNat (nO z.2.1) := h2.2.2.1.1
    have hO8 := h2.2.2.1.2
    by_cases he : t.length ≤ skS t z.1
    · have e1 : dm184_48 (n + 2) x1 x2 1 (wP s r z.1) = dm184_88 x1 x2 (wP s r (skS t z.1)) := by
        rw [dm184_48, if_neg (by decide), w27, if_pos rfl, d184p h1 t.length z.1 5000 (by omega) (by omega) (by omega), if_pos he]
        unfold dm184_74 dm184_83
        rw [if_pos rfl, if_pos rfl, dm184_48, if_pos rfl]
      have e2 : mRun t ns (m + 1 + 1) z = if z.2.2.1.isEmpty = true ∨ ¬ nO z.2.1 = 0 then .inl t.length else .inr (z.2.1, z.2.2.1) := by
        rw [mRun, if_pos he]
      have fail : ∃ s' r', dm184_97 x1 x2 (wP s r (skS t z.1)) = some (Int32.ofNat t.length, wP s' r' t.length) ∧ (∀ k, k ≤ 20 → r' k = r k) ∧ ch scr s s' ∧ t.length ≤ t.length := by
        refine ⟨s, setN r 27 1, ?_, fun k hk => if_neg (by omega), ch.refl _ s, Nat.le_refl _⟩
        unfold dm184_97 dm184_101
        rw [h1.len, d186]
        simp only [bu_some]
        rw [wP_f (by decide), show setN r 27 1 27 = 1 from rfl, if_neg (by decide), wP_at]
      rw [e2, e1]
      unfold dm184_88
      rw [w27, if_pos rfl, wP_f (show (36 : Nat) ≠ 26 by decide), h7, wP_f (show (33 : Nat) ≠ 26 by decide), a3]
      by_cases hc : z.2.2.1.isEmpty = true
      · rw [if_pos hc, if_neg (show ¬ (1 : Int32) = 0 by decide), if_pos (show z.2.2.1.isEmpty = true ∨ ¬ nO z.2.1 = 0 from Or.inl hc)]
        exact fail
      · rw [if_neg hc, if_pos rfl]
        by_cases g : nO z.2.1 = 0
        · rw [if_neg (show ¬ (z.2.2.1.isEmpty = true ∨ ¬ nO z.2.1 = 0) by rintro (q | q); exact hc q; exact q g), if_pos (show Int32.ofNat (nO z.2.1) ≤ 0 by rw [g]; decide)]
          exact ⟨s, r, skS t z.1, rfl, h2.at hb.1 rfl rfl rfl rfl, fun q => hc (emp_iff.mpr q), g, hb.2, h5, fun _ _ => rfl, ch.refl _ s⟩
        · rw [if_pos (show z.2.2.1.isEmpty = true ∨ ¬ nO z.2.1 = 0 from Or.inr g), if_neg (show ¬ Int32.ofNat (nO z.2.1) ≤ 0 from fun q => by have := (nle_iff (b := 0) (by omega) (by omega)).mp q; omega)]
          exact fail
    · obtain ⟨o1, o2⟩ := d184st hL he
      have e1 : dm184_48 (n + 2) x1 x2 1 (wP s r z.1) = bu (if z.2.2.1.isEmpty = true then dm185 (wP s r (skS t z.1)) else dm216 (wP s r (skS t z.1))) (fun s4 => dm184_48 (n + 1) x1 x2 1 s4) := by
        rw [dm184_48, if_neg (by decide), w27, if_pos rfl, d184p h1 t.length z.1 5000 (by omega) (by omega) (by omega), if_neg he]
        unfold dm184_74 dm184_83
        rw [if_neg (show ¬ (1 : Int32) = 0 by decide), if_neg (show ¬ (1 : Int32) = 0 by decide), wP_f (show (36 : Nat) ≠ 26 by decide), h7]
        by_cases hc : z.2.2.1.isEmpty = true
        · rw [if_pos hc, if_pos hc, if_neg (show ¬ (1 : Int32) = 0 by decide)]
        · rw [if_neg hc, if_neg hc, if_pos rfl]
      have e2 : mRun t ns (m + 1 + 1) z = match (if z.2.2.1.isEmpty = true then mOpd t ns (skS t z.1) z.2.1 z.2.2.2.1 else mBeh t (skS t z.1) z.2.1 z.2.2.1 z.2.2.2.2) with
          | .inl p => .inl p
          | .inr z' => mRun t ns (m + 1) z' := by
        rw [mRun, if_neg he]
      rw [e2, e1]
      generalize (if z.2.2.1.isEmpty = true then mOpd t ns (skS t z.1) z.2.1 z.2.2.2.1 else mBeh t (skS t z.1) z.2.1 z.2.2.1 z.2.2.2.2) = X at o1 o2 ⊢
      generalize (if z.2.2.1.isEmpty = true then dm185 (wP s r (skS t z.1)) else dm216 (wP s r (skS t z.1))) = D at o1 ⊢
      cases X with
      | inl p =>
        obtain ⟨s', r', b1, b2, b3, b4⟩ := o1
        refine ⟨s', r', ?_, b3, b4, o2⟩
        rw [b1]
        simp only [bu_some]
        have v27 : sI (wP s' r' p) 121 27 = 1 := (wP_f (by decide)).trans b2
        rw [dm184_48, if_neg (by decide), v27, if_neg (by decide)]
        unfold dm184_88 dm184_101
        rw [v27, if_neg (by decide), if_neg (by decide), wP_at]
      | inr z' =>
        obtain ⟨s', r', b1, b2, b3, b4, b5, b6, b7, b8⟩ := o1
        obtain ⟨c1, c2, c3, c4, c5, c6⟩ := o2
        have hL' : LI s' r' t ns z' := ⟨⟨h1.1, (b7 1 (by decide)).trans h1.2.1, fun j hj => (b8.i (by unfold scr; omega)).trans (h1.2.2 j hj)⟩, b2, h3, c2, b3, b4, b5, b6, by rw [b8.2.1]; exact h9, h10.of b8 (fun a k z => by unfold scr at z; omega) (b7 3 (by decide)), c4, c5, c6⟩
        have hmu : muS t z' ≤ m := by
          unfold muS at hm ⊢
          by_cases q : z'.1 = skS t z.1
          · obtain ⟨q1, q2⟩ := c3 q
            rw [q1, if_pos rfl] at hm
            rw [q2, if_neg (by decide)]
            omega
          · by_cases w : z'.2.2.1.isEmpty = true
            · rw [if_pos w]
              by_cases w2 : z.2.2.1.isEmpty = true
              · rw [if_pos w2] at hm
                omega
              · rw [if_neg w2] at hm
                omega
            · rw [if_neg w]
              by_cases w2 : z.2.2.1.isEmpty = true
              · rw [if_pos w2] at hm
                omega
              · rw [if_neg w2] at hm
                omega
        have := ih z' (n + 1) s' r' hL' hmu (by omega)
        rw [b1]
        simp only [bu_some]
        cases hq : mRun t ns (m + 1) z' with
        | inl p =>
          rw [hq] at this
          obtain ⟨s2, r2, d1, d2, d3, d4⟩ := this
          exact ⟨s2, r2, d1, fun k hk => (d2 k hk).trans (b7 k hk), b8.trans d3, d4⟩
        | inr q =>
          rw [hq] at this
          obtain ⟨s2, r2, j, d1, d2, d3, d4, d5, d6, d7, d8⟩ := this
          exact ⟨s2, r2, j, d1, d2, d3, d4, d5, d6, fun k hk => (d7 k hk).trans (b7 k hk), b8.trans d8⟩
end
section
/-! the reference's reader whole -/
def arN (d : Nd) : Nat := (d 1).toInt.toNat
def ft : List Nd → Nat → Prop
  | [], k => k = 0
  | d :: L, k => 1 ≤ k ∧ ft L (k - 1 + arN d)
set_option maxRecDepth 100000 in
theorem HF.ftt {s : aS} {e : Nat} : ∀ (L : List NN) (ids : List Nat), HF s e L ids → ids.length ≤ 128 → L.length ≤ 128 → ft (L.map (fun n => n.2.1)) ids.length
  | [], ids, h, _, _ => by
    have h : ids = [] := h
    rw [h]
    rfl
  | n :: L, ids, h, h1, h2 => by
    obtain ⟨r, ks, e1, e2, e3, e4, e5, e6⟩ := h
    have hl := HF.len L _ e6
    simp only [List.length_cons] at h2
    have := HF.ftt L _ e6 (by omega) (by omega)
    rw [e1]
    rw [List.length_append] at this hl
    refine ⟨by simp, ?_⟩
    have ea : arN n.2.1 = ks.length := by
      unfold arN
      rw [e5, iOfNat (by omega)]
      omega
    show ft (L.map (fun n => n.2.1)) ((n.1 :: r).length - 1 + arN n.2.1)
    rw [ea, List.length_cons, show r.length + 1 - 1 + ks.length = ks.length + r.length by omega]
    exact this
set_option maxRecDepth 100000 in
noncomputable def mRd (t : List Int32) (ns : List (List Int32)) : Nat ⊕ List NN := match mRun t ns 600 (0, [], [], 0, 0) with
  | .inl p => .inl p
  | .inr q => .inr (rdF 0 q.1 q.2).2
def fsRd (fs : Nat → Option Fm) (f : Nat) (h : Int32) (L : List NN) : Nat → Option Fm := fun g => if g = f then some (h, L.map (fun n => n.2.1)) else fs g
def ltRd (lt : Nat → Nat → List Int32) (f : Nat) (L : List NN) : Nat → Nat → List Int32 := fun g i => if g = f then (L.getD i dN).2.2 else lt g i
def rdA (f : Nat) (a k : Nat) : Prop := scr a k ∨ (a = 121 ∧ (k = 0 ∨ 21 ≤ k)) ∨ ((a = 125 ∨ a = 126 ∨ a = 127) ∧ k = f) ∨ ((128 ≤ a ∧ a ≤ 138) ∧ 128 * f ≤ k ∧ k < 128 * f + 128) ∨ (a = 139 ∧ 256 * f ≤ k ∧ k < 256 * f + 256)
set_option maxRecDepth 100000 in
theorem ch_wF {A : Nat → Nat → Prop} {s s' : aS} {r : Nat → Int32} {i : Nat} (h : ch scr s s') (hr : ∀ k, k ≤ 20 → k ≠ 0 → r k = sI s 121 k) (hA1 : ∀ a k, scr a k → A a k) (hA2 : ∀ k, k = 0 ∨ 21 ≤ k → A 121 k) : ch A s (wP s' r i) := by
  refine ⟨h.1, h.2.1, fun a k hk => ?_⟩
  have hns : ¬ scr a k := fun q => hk (hA1 a k q)
  refine ⟨?_, (h.2.2 a k hns).2⟩
  by_cases ha : a = 121
  · subst ha
    have k1 : ¬ (k = 0 ∨ 21 ≤ k) := fun q => hk (hA2 k q)
    rw [wP_f (by omega)]
    exact hr k (by omega) (by omega)
  · rw [wP_n ha]
    exact h.i hns
set_option maxRecDepth 100000 in
theorem HF.NR {s : aS} {e : Nat} : ∀ (L : List NN) (ids : List Nat), HF s e L ids → ∀ n ∈ L, n = n ∧ NR s e n
  | [], _, _, n, hn => by cases hn
  | m :: L, ids, h, n, hn => by
    obtain ⟨r, ks, e1, e2, e3, e4, e5, e6⟩ := h
    rcases List.mem_cons.mp hn with q | q
    · exact ⟨rfl, q ▸ e3⟩
    · exact HF.NR L _ e6 n q
set_option maxRecDepth 100000 in
theorem d184 {s : aS} {t : List Int32} {ns : List (List Int32)} {fs : Nat → Option Fm} {lt : Nat → Nat → List Int32} (hT : MT s t) (hl : t.length ≤ 256) (hok : okT t) (hS : SM s ns) (hn : nsOk ns) (hM : MM s fs) (hLt : MLt s fs lt) (h147 : (sT s 147).2 = 256) (h122 : (sT s 122).2 = 256) (x1 x2 : Int32) :
    (¬ ((0 ≤ x1.toInt ∧ x1.toInt < 8) ∧ 0 ≤ x2.toInt ∧ x2.toInt < ns.length) ∧ dm184 x1 x2 s = some (0, wI s 121 0 1)) ∨
    (((0 ≤ x1.toInt ∧ x1.toInt < 8) ∧ 0 ≤ x2.toInt ∧ x2.toInt < ns.length) ∧ ((∃ p s', mRd t ns = .inl p ∧ p ≤ t.length ∧ dm184 x1 x2 s = some (Int32.ofNat p, s') ∧ sI s' 121 0 = 0 ∧ MM s' fs ∧ MLt s' fs lt ∧ ch (rdA x1.toInt.toNat) s s') ∨ ∃ L s', mRd t ns = .inr L ∧ ft (L.map (fun n => n.2.1)) 1 ∧ L.length ≤ 128 ∧ dm184 x1 x2 s = some (-1, s') ∧ sI s' 121 0 = 0 ∧ MM s' (fsRd fs x1.toInt.toNat x2 L) ∧ MLt s' (fsRd fs x1.toInt.toNat x2 L) (ltRd lt x1.toInt.toNat L) ∧ ch (rdA x1.toInt.toNat) s s')) := by
  have l1 : x1 < 0 ↔ x1.toInt < 0 := iLt
  have l2 : 7 < x1 ↔ 7 < x1.toInt := iLt
  have bad : dm184_10 x1 x2 s = some (0, wI s 121 0 1) := by
    unfold dm184_10 dm184_13
    simp only [nx_eq]
    rw [if_neg (show ¬ sI (wI s 121 0 1) 121 0 ≤ 0 by rw [sI_wI, if_pos ⟨rfl, rfl⟩]; decide)]
  unfold dm184
  by_cases c1 : x1 < 0
  · left
    rw [if_pos c1]
    exact ⟨fun q => by have := l1.mp c1; omega, bad⟩
  · rw [if_neg c1]
    have c1 : ¬ x1.toInt < 0 := fun q => c1 (l1.mpr q)
    by_cases c2 : 7 < x1
    · left
      rw [if_pos c2]
      exact ⟨fun q => by have := l2.mp c2; omega, bad⟩
    · rw [if_neg c2]
      have c2 : ¬ 7 < x1.toInt := fun q => c2 (l2.mpr q)
      rw [d181 hS hn.1 x2]
      simp only [bu_some]
      by_cases c3 : 0 ≤ x2.toInt ∧ x2.toInt < ns.length
      · right
        refine ⟨⟨⟨by omega, by omega⟩, c3⟩, ?_⟩
        rw [b01_f (fun q => q c3), if_pos (show (0 : Int32) = 0 from rfl)]
        obtain ⟨f, hf⟩ : ∃ f, f = x1.toInt.toNat := ⟨_, rfl⟩
        have hf8 : f < 8 := by omega
        have ex1 : x1 = Int32.ofNat f := by rw [hf]; exact ofNat_of (by omega)
        rw [← hf]
        let R : Nat → Int32 := setN (setN (setN (setN (setN (setN (setN (setN (setN (setN (fun k => sI s 121 k) 0 0) 21 0) 29 0) 32 0) 33 0) 34 (-1)) 35 0) 36 1) 27 0) 26 0
        have e0 : dm184_13 x1 x2 0 s = dm184_48 5000 x1 x2 1 (wP s R 0) := by
          unfold dm184_13
          simp only [nx_eq]
          rw [if_pos (show sI (wI s 121 0 0) 121 0 ≤ 0 by rw [sI_wI, if_pos ⟨rfl, rfl⟩]; decide)]
          congr 1
          have : s = wF s (fun k => sI s 121 k) := (wF_id s).symm
          have e9 : wP s R 0 = wF s R := by
            unfold wP
            rw [setN_id (show R 26 = Int32.ofNat 0 from rfl)]
          rw [e9]
          conv => lhs; rw [this]
          rw [wI_wF, wI_wF, wI_wF, wI_wF, wI_wF, wI_wF, wI_wF, wI_wF, wI_wF, wI_wF]
        have hR : ∀ k, k ≤ 20 → k ≠ 0 → R k = sI s 121 k := by
          intro k h1 h2
          show setN (setN (setN (setN (setN (setN (setN (setN (setN (setN (fun k => sI s 121 k) 0 0) 21 0) 29 0) 32 0) 33 0) 34 (-1)) 35 0) 36 1) 27 0) 26 0 k = _
          unfold setN
          rw [if_neg (by omega), if_neg (by omega), if_neg (by omega), if_neg (by omega), if_neg (by omega), if_neg (by omega), if_neg (by omega), if_neg (by omega), if_neg (by omega), if_neg (by omega)]
        have hTX : TX s R t := ⟨hl, (hR 1 (by decide) (by decide)).trans hT.1, hT.2⟩
        have hG0 : GM s R 0 [] [] := ⟨⟨rfl, by decide⟩, rfl, ⟨rfl, by decide⟩, trivial, trivial, fun g hg => (by cases hg), ⟨List.nodup_nil, fun k hk => (by cases hk)⟩, Or.inl ⟨rfl, rfl⟩⟩
        have hLI : LI s R t ns (0, [], [], 0, 0) := ⟨hTX, hG0, hok, Nat.zero_le _, rfl, rfl, rfl, rfl, h147, ⟨⟨(hR 3 (by decide) (by decide)).trans hS.1, hS.2⟩, hn, h122⟩, fun q => (by cases q), fun _ => ⟨rfl, fun q => absurd q (by decide)⟩, fun q => (by cases q)⟩
        have main := d184r (x1 := x1) (x2 := x2) 599 (0, [], [], 0, 0) 5000 s R hLI (by unfold muS; show 2 * (t.length - 0) + 1 ≤ 599; omega) (by omega)
        rw [e0]
        unfold mRd
        cases hq : mRun t ns 600 (0, [], [], 0, 0) with
        | inl p =>
          rw [hq] at main
          obtain ⟨s', r', d1, d2, d3, d4⟩ := main
          left
          have hc : ch (rdA f) s (wP s' r' p) := ch_wF d3 (fun k h1 h2 => (d2 k h1).trans (hR k h1 h2)) (fun a k z => Or.inl z) (fun k z => Or.inr (Or.inl ⟨rfl, z⟩))
          have hc2 : ch (fun a k => scr a k ∨ (a = 121 ∧ (k = 0 ∨ 21 ≤ k))) s (wP s' r' p) := ch_wF d3 (fun k h1 h2 => (d2 k h1).trans (hR k h1 h2)) (fun a k z => Or.inl z) (fun k z => Or.inr ⟨rfl, z⟩)
          refine ⟨p, wP s' r' p, rfl, d4, d1, (wP_f (by decide)).trans (d2 0 (by decide)), fun g hg => ⟨fun z => (hc2.i (by unfold scr; omega)).trans ((hM g hg).1 z), fun h L z => ?_⟩, fun g hg h L z i hi => ?_, hc⟩
          · obtain ⟨m1, m2, m3, m4, m5⟩ := (hM g hg).2 h L z
            exact ⟨(hc2.i (by unfold scr; omega)).trans m1, (hc2.i (by unfold scr; omega)).trans m2, (hc2.i (by unfold scr; omega)).trans m3, m4, fun i hi w hw => (hc2.i (by unfold scr; omega)).trans (m5 i hi w hw)⟩
          · have := hLt g hg h L z i hi
            have hlen := ((hM g hg).2 h L z).2.2.2.1
            have rl : ∀ w, RL s g (128 * g + i) w → RL (wP s' r' p) g (128 * g + i) w := by
              rintro w ⟨st, b1, b2, b3, b4⟩
              exact ⟨st, (hc2.i (by unfold scr; omega)).trans b1, (hc2.i (by unfold scr; omega)).trans b2, b3, fun j hj => (hc2.i (by unfold scr; omega)).trans (b4 j hj)⟩
            exact ⟨fun q => rl _ (this.1 q), fun q => rl _ (this.2.1 q), this.2.2⟩
        | inr q =>
          rw [hq] at main
          obtain ⟨s1, r1, j, d1, d2, d3, d4, d5, d6, d7, d8⟩ := main
          right
          obtain ⟨s2, r2, b1, b2, b3, b4, b5⟩ := d190 (i := j) (x1 := 0) d2 d3
          have hF0 : (rdF 0 q.1 q.2).1 = [] := by
            rcases rd_in q.1 q.2 with ⟨y, -, -⟩ | ⟨f9, F0, -, -, -, -, y⟩
            · exact y
            · omega
          rw [hF0] at b2
          obtain ⟨c, w1, w2, w3, w4⟩ := b2.2.2.2.2.2.2.2.resolve_left (fun y => b3 y.1)
          have w3 : sI s2 144 0 = Int32.ofNat c := w3
          have hnd : (idL (rdF 0 q.1 q.2).2).Nodup := b2.2.2.2.2.2.2.1.1
          have h8 : (rdF 0 q.1 q.2).2.length ≤ 128 := b2.1.2
          generalize hLq : (rdF 0 q.1 q.2).2 = L at *
          have hs1 : sI (wP s2 r2 j) 121 1 = Int32.ofNat t.length := (wP_f (by decide)).trans ((b4 1 (by decide) (by decide)).trans ((d7 1 (by decide)).trans hTX.2.1))
          have pzW : PZ s2 (wP s2 r2 j) j (idL L) := ⟨fun _ _ => wP_n (by decide), fun k _ => ⟨⟨fun w hw => wP_n (by omega), wP_n (by decide)⟩, wP_n (by decide), wP_n (by decide)⟩⟩
          obtain ⟨s3, g1, g2, g3, g4, g5⟩ := d222 (c := c) (tl := t.length) hf8 hl hs1 (pzW.hf (Nat.le_refl _) w1 hnd) hnd h8
          have hsc : ch scr s s2 := d8.trans (rch_scr b5)
          have hcW : ch (rdA f) s (wP s2 r2 j) := ch_wF hsc (fun k h1 h2 => (b4 k (by omega) (by omega)).trans ((d7 k h1).trans (hR k h1 h2))) (fun a k z => Or.inl z) (fun k z => Or.inr (Or.inl ⟨rfl, z⟩))
          have hc3 : ch (rdA f) s s3 := hcW.trans (g5.mono fun a k z => by unfold rdA scr; omega)
          have e1a : (1 : Int32) &&& 1 = 1 := by decide
          have hcE : ch (rdA f) s (wI (wI s3 125 f 1) 126 f x2) := (hc3.wI (by unfold rdA; omega)).wI (by unfold rdA; omega)
          have far : ∀ g, g < 8 → g ≠ f → ∀ a k, (a = 125 ∧ k = g) ∨ (a = 126 ∧ k = g) ∨ (a = 127 ∧ k = g) ∨ ((128 ≤ a ∧ a ≤ 138) ∧ 128 * g ≤ k ∧ k < 128 * g + 128) ∨ (a = 139 ∧ 256 * g ≤ k ∧ k < 256 * g + 256) → sI (wI (wI s3 125 f 1) 126 f x2) a k = sI s a k := by
            intro g hg hgf a k hk
            refine hcE.i ?_
            unfold rdA scr
            omega
          refine ⟨L, wI (wI s3 125 f 1) 126 f x2, by show (Sum.inr (rdF 0 q.1 q.2).2 : Nat ⊕ List NN) = .inr L; rw [hLq], HF.ftt L [c] w1 (by show 1 ≤ 128; decide) h8, h8, ?_, ?_, fun g hg => ⟨fun z => ?_, fun h M z => ?_⟩, fun g hg h M z i hi => ?_, hcE⟩
          · rw [d1]
            unfold dm184_101
            rw [wP_f (by decide), d6, if_pos rfl, b1]
            simp only [bu_some]
            rw [if_pos (by decide), show jN 0 = 0 from rfl, wP_n (by decide), w3, ex1, g1]
            simp only [bu_some, if_pos (aB_of (n := 8) hf8 (by decide)), jN_of (show f < 2147483648 by omega), nx_eq, e1a]
          · rw [sI_wI, if_neg (by omega), sI_wI, if_neg (by omega), g5.i (by omega), wP_f (by decide), b4 0 (by decide) (by decide), d7 0 (by decide)]
            rfl
          · have z : (if g = f then some (x2, L.map (fun n => n.2.1)) else fs g) = none := z
            by_cases gf : g = f
            · rw [if_pos gf] at z; cases z
            · rw [if_neg gf] at z
              rw [far g hg gf 125 g (by omega)]
              exact (hM g hg).1 z
          · have z : (if g = f then some (x2, L.map (fun n => n.2.1)) else fs g) = some (h, M) := z
            by_cases gf : g = f
            · rw [if_pos gf] at z
              cases z
              subst gf
              refine ⟨by rw [sI_wI, if_neg (by omega), sI_wI, if_pos ⟨rfl, rfl⟩], by rw [sI_wI, if_pos ⟨rfl, rfl⟩], ?_, by rw [List.length_map]; exact h8, fun i hi w hw => ?_⟩
              · rw [sI_wI, if_neg (by omega), sI_wI, if_neg (by omega), List.length_map]
                exact g2
              · rw [List.length_map] at hi
                rw [sI_wI, if_neg (by omega), sI_wI, if_neg (by omega), g3 i hi w (by omega), wP_n (by omega), List.getElem_map]
                exact (HF.NR L _ w1 L[i] (List.getElem_mem hi)).2.1 w hw
            · rw [if_neg gf] at z
              obtain ⟨m1, m2, m3, m4, m5⟩ := (hM g hg).2 h M z
              exact ⟨(far g hg gf 125 g (by omega)).trans m1, (far g hg gf 126 g (by omega)).trans m2, (far g hg gf 127 g (by omega)).trans m3, m4, fun i hi w hw => (far g hg gf (128 + w) (128 * g + i) (by omega)).trans (m5 i hi w hw)⟩
          · have z : (if g = f then some (x2, L.map (fun n => n.2.1)) else fs g) = some (h, M) := z
            by_cases gf : g = f
            · rw [if_pos gf] at z
              cases z
              subst gf
              rw [List.length_map] at hi
              have elt : ltRd lt g L g i = L[i].2.2 := by
                show (if g = g then (L.getD i dN).2.2 else lt g i) = _
                rw [if_pos rfl, List.getD, List.getElem?_eq_getElem hi]
                rfl
              rw [elt, List.getElem_map]
              have hN := (HF.NR L _ w1 L[i] (List.getElem_mem hi)).2.2
              have rl : ∀ w, RLe s2 j (1024 + L[i].1) w → RL (wI (wI s3 125 g 1) 126 g x2) g (128 * g + i) w := by
                rintro w ⟨st, y1, y2, y3, y4⟩
                refine ⟨st, ?_, ?_, by omega, fun k hk => ?_⟩
                · rw [sI_wI, if_neg (by omega), sI_wI, if_neg (by omega)]
                  have := g3 i hi 9 (by decide)
                  rw [this, wP_n (by omega)]
                  exact y1
                · rw [sI_wI, if_neg (by omega), sI_wI, if_neg (by omega)]
                  have := g3 i hi 10 (by decide)
                  rw [this, wP_n (by omega)]
                  exact y2
                · rw [sI_wI, if_neg (by omega), sI_wI, if_neg (by omega), show 256 * g + st + k = 256 * g + (st + k) by omega, g4 (st + k) (by omega), wP_n (by decide), show 2048 + (st + k) = 2048 + st + k by omega]
                  exact y4 k hk
              exact ⟨fun y => rl _ (hN.1 y), fun y => rl _ (hN.2.1 y), hN.2.2⟩
            · rw [if_neg gf] at z
              have hlen := ((hM g hg).2 h M z).2.2.2.1
              have := hLt g hg h M z i hi
              have elt : ltRd lt f L g i = lt g i := if_neg gf
              rw [elt]
              have rl : ∀ w, RL s g (128 * g + i) w → RL (wI (wI s3 125 f 1) 126 f x2) g (128 * g + i) w := by
                rintro w ⟨st, y1, y2, y3, y4⟩
                exact ⟨st, (far g hg gf 137 _ (by omega)).trans y1, (far g hg gf 138 _ (by omega)).trans y2, y3, fun k hk => (far g hg gf 139 _ (by omega)).trans (y4 k hk)⟩
              exact ⟨fun y => rl _ (this.1 y), fun y => rl _ (this.2.1 y), this.2.2⟩
      · left
        refine ⟨fun q => c3 q.2, ?_⟩
        rw [b01_t c3, if_neg (by decide)]
        exact bad
end
section
/-! the reference's writer comes to its end: small pieces -/
def wrA (a k : Nat) : Prop := a = 121 ∧ (k = 42 ∨ k = 44)
def Wt (D : Option aS) (s : aS) : Prop := ∃ s', D = some s' ∧ ch wrA s s'
set_option maxRecDepth 100000 in
theorem Wt.b {D : Option aS} {K : aS → Option aS} {s : aS} (h : Wt D s) (k : ∀ s1, ch wrA s s1 → Wt (K s1) s) : Wt (bu D K) s := by
  obtain ⟨s1, h1, h2⟩ := h
  rw [h1]
  exact k s1 h2
set_option maxRecDepth 100000 in
theorem Wt.s {s s1 : aS} (h : ch wrA s s1) : Wt (some s1) s := ⟨s1, rfl, h⟩
set_option maxRecDepth 100000 in
theorem Wt.t {D : Option aS} {s s1 : aS} (h : ch wrA s s1) (g : Wt D s1) : Wt D s := by
  obtain ⟨s2, g1, g2⟩ := g
  exact ⟨s2, g1, h.trans g2⟩
set_option maxRecDepth 100000 in
theorem w235 (c : Int32) (s : aS) : Wt (dm235 c s) s := by
  unfold dm235 dm235_10
  simp only [nx_eq]
  split <;> exact ⟨_, rfl, ((ch.refl _ s).wI ⟨rfl, Or.inr rfl⟩).wI ⟨rfl, Or.inl rfl⟩⟩
set_option maxRecDepth 100000 in
theorem iDiv {x y : Int32} (h0 : 0 ≤ x.toInt) (h1 : 0 < y.toInt) : (x / y).toInt = x.toInt / y.toInt := by
  have hx := iRange x
  have hle : x.toInt / y.toInt ≤ x.toInt := Int.ediv_le_self _ h0
  have hge : 0 ≤ x.toInt / y.toInt := Int.ediv_nonneg h0 (by omega)
  rw [Int32.toInt_div, Int.tdiv_eq_ediv_of_nonneg h0]
  exact Int.bmod_eq_of_le (by omega) (by omega)
set_option maxRecDepth 100000 in
theorem w242b {x1 : Int32} : ∀ (m u n : Nat) (s : aS), u < 10 ^ m → m ≤ 9 → m < n → Wt (dm242_12 n x1 (Int32.ofNat u) s) s := by
  intro m
  induction m with
  | zero =>
    intro u n s h1 h2 h3
    obtain ⟨n, rfl⟩ : ∃ q, n = q + 1 := ⟨n - 1, by omega⟩
    have : u = 0 := by rw [Nat.pow_zero] at h1; omega
    subst this
    rw [dm242_12, if_pos (by decide)]
    exact Wt.s (ch.refl _ s)
  | succ m ih =>
    intro u n s h1 h2 h3
    obtain ⟨n, rfl⟩ : ∃ q, n = q + 1 := ⟨n - 1, by omega⟩
    have hp : 10 ^ (m + 1) ≤ 10 ^ 9 := Nat.pow_le_pow_right (by decide) h2
    have hp9 : 10 ^ 9 = 1000000000 := by decide
    have hu : (Int32.ofNat u).toInt = u := iOfNat (by omega)
    rw [dm242_12]
    by_cases c : u = 0
    · subst c
      rw [if_pos (by decide)]
      exact Wt.s (ch.refl _ s)
    · rw [if_neg (by rw [iLe, hu]; show ¬ (u : Int) ≤ 0; omega), if_pos (fun q => by have := iEq.mp q; rw [hu] at this; have t0 : (0 : Int32).toInt = 0 := rfl; omega)]
      refine (w235 _ s).b fun s1 c1 => ?_
      have e : Int32.ofNat u / 10 = Int32.ofNat (u / 10) := by
        rw [iEq, iDiv (y := 10) (by omega) (by decide), hu, iOfNat (by omega)]
        show (u : Int) / 10 = ((u / 10 : Nat) : Int)
        omega
      rw [e]
      refine Wt.t c1 (ih (u / 10) n s1 ?_ (by omega) (by omega))
      rw [Nat.pow_succ] at h1
      omega
set_option maxRecDepth 100000 in
theorem w242a {x1 : Int32} (hx : 0 ≤ x1.toInt ∧ x1.toInt ≤ 1048576) : ∀ (m u n : Nat) (s : aS), u * 10 ^ m = 1000000 → m ≤ 6 → m < n → Wt (dm242_2 n x1 (Int32.ofNat u) s) s := by
  have hd : (x1 / 10).toInt = x1.toInt / 10 := iDiv (y := 10) hx.1 (by decide)
  intro m
  induction m with
  | zero =>
    intro u n s h1 h2 h3
    obtain ⟨n, rfl⟩ : ∃ q, n = q + 1 := ⟨n - 1, by omega⟩
    have : u = 1000000 := by rw [Nat.pow_zero, Nat.mul_one] at h1; exact h1
    subst this
    rw [dm242_2, if_pos (by rw [iLt, hd, iOfNat (by omega)]; show x1.toInt / 10 < 1000000; omega)]
    exact w242b 7 1000000 5000 s (by decide) (by omega) (by omega)
  | succ m ih =>
    intro u n s h1 h2 h3
    obtain ⟨n, rfl⟩ : ∃ q, n = q + 1 := ⟨n - 1, by omega⟩
    have hu : u ≤ 1000000 := by
      have : 10 ^ 0 ≤ 10 ^ (m + 1) := Nat.pow_le_pow_right (by decide) (by omega)
      rw [Nat.pow_zero] at this
      calc u = u * 1 := (Nat.mul_one u).symm
        _ ≤ u * 10 ^ (m + 1) := Nat.mul_le_mul_left u this
        _ = 1000000 := h1
    rw [dm242_2]
    by_cases c : x1 / 10 < Int32.ofNat u
    · rw [if_pos c]
      exact w242b 7 u 5000 s (by have : (10 : Nat) ^ 7 = 10000000 := by decide
                                 omega) (by omega) (by omega)
    · rw [if_neg c]
      have e : 10 * Int32.ofNat u = Int32.ofNat (10 * u) := by
        rw [iEq, iMul (x := 10) (by rw [iOfNat (by omega)]; show _ ≤ (10 : Int) * u; omega) (by rw [iOfNat (by omega)]; show (10 : Int) * u ≤ _; omega), iOfNat (by omega), iOfNat (by omega)]
        show (10 : Int) * u = ((10 * u : Nat) : Int)
        omega
      rw [e]
      refine ih (10 * u) n s ?_ (by omega) (by omega)
      rw [Nat.pow_succ] at h1
      rw [← h1, Nat.mul_comm 10 u, Nat.mul_assoc, Nat.mul_comm 10 (10 ^ m)]
set_option maxRecDepth 100000 in
theorem w242 {x1 : Int32} (hx : 0 ≤ x1.toInt ∧ x1.toInt ≤ 1048576) (s : aS) : Wt (dm242 x1 s) s := w242a hx 6 1 5000 s (by decide) (by omega) (by omega)
set_option maxRecDepth 100000 in
theorem w241 {x1 x2 x3 : Int32} (hx : 0 ≤ x1.toInt ∧ x1.toInt ≤ 1048576) (s : aS) : Wt (dm241 x1 x2 x3 s) s := by
  have h51 : ∀ s, Wt (dm241_51 x1 s) s := fun s => by
    unfold dm241_51
    exact (w242 hx s).b fun s1 c1 => Wt.s c1
  have h35 : ∀ s, Wt (dm241_35 x1 x2 x3 s) s := fun s => by
    unfold dm241_35
    refine (w235 _ s).b fun s1 c1 => Wt.t c1 ?_
    split
    · exact h51 s1
    · exact (w235 _ s1).b fun s2 c2 => Wt.t c2 (h51 s2)
  have h21 : ∀ s, Wt (dm241_21 x1 x2 x3 s) s := fun s => by
    unfold dm241_21
    split
    · exact h35 s
    · exact (w235 _ s).b fun s1 c1 => Wt.t c1 (h35 s1)
  have h7 : ∀ s, Wt (dm241_7 x1 x2 x3 s) s := fun s => by
    unfold dm241_7
    split
    · exact h21 s
    · exact (w235 _ s).b fun s1 c1 => Wt.t c1 (h21 s1)
  unfold dm241
  split
  · exact h7 s
  · exact (w235 _ s).b fun s1 c1 => Wt.t c1 (h7 s1)
set_option maxRecDepth 100000 in
/-- a name's quotes: whatever it answers -/
theorem w240 {s : aS} {i L : Nat} {W : Int64} {u : Nat} (hi : i < 8) (hL : sI s 123 i = Int32.ofNat L) (h31 : L ≤ 31) (hu : u ≤ 5) : ∃ v, dm240 (Int32.ofNat i) W (Int32.ofNat u) s = some v := by
  have b8 : aB (Int32.ofNat i) 8 := aB_of hi (by omega)
  have j8 : jN (Int32.ofNat i) = i := jN_of (by omega)
  have loop0 : ∀ n x6, ∃ v, dm240_12 (n + 1) (Int32.ofNat i) W (Int32.ofNat u) 0 x6 s = some v := by
    intro n x6
    rw [dm240_12]
    split
    · exact ⟨0, by rw [if_pos (Or.inl rfl)]⟩
    · exact ⟨0, by rw [if_pos rfl, if_pos (Or.inl rfl)]⟩
  have loop : ∀ (m j n : Nat), j + m = u → m + 1 < n → ∃ v, dm240_12 n (Int32.ofNat i) W (Int32.ofNat u) 1 (Int32.ofNat j) s = some v := by
    intro m
    induction m with
    | zero =>
      intro j n h1 h2
      obtain ⟨n, rfl⟩ : ∃ q, n = q + 1 := ⟨n - 1, by omega⟩
      rw [dm240_12, if_pos ((nle_iff (by omega) (by omega)).mpr (by omega)), if_pos (Or.inr rfl)]
      exact ⟨1, rfl⟩
    | succ m ih =>
      intro j n h1 h2
      obtain ⟨n, rfl⟩ : ∃ q, n = q + 2 := ⟨n - 2, by omega⟩
      rw [dm240_12, if_neg (fun q => by have := (nle_iff (by omega) (by omega)).mp q; omega), if_neg (by decide), iLin (by omega) (by omega), if_pos (aB_of (n := 256) (by omega) (by omega))]
      simp only [d178, bu_some]
      unfold dm240_42
      rw [ofNat_succ (by omega)]
      split
      · exact ih (j + 1) (n + 1) (by omega) (by omega)
      · exact loop0 n _
  unfold dm240 dm240_9
  rw [if_pos b8, j8, hL]
  split
  · exact loop u 0 5000 (by omega) (by omega)
  · exact loop0 4999 0
set_option maxRecDepth 100000 in
theorem w239 {s : aS} {i L : Nat} (hi : i < 8) (hL : sI s 123 i = Int32.ofNat L) (h31 : L ≤ 31) : ∃ v, dm239 (Int32.ofNat i) s = some v := by
  have b8 : aB (Int32.ofNat i) 8 := aB_of hi (by omega)
  have j8 : jN (Int32.ofNat i) = i := jN_of (by omega)
  have h79 : ∀ x2 y0, ∃ v, dm239_79 (Int32.ofNat i) x2 y0 s = some v := by
    intro x2 y0
    unfold dm239_79 dm239_96
    obtain ⟨v1, e1⟩ := w240 (W := 1414681925) (u := 4) hi hL h31 (by omega)
    obtain ⟨v2, e2⟩ := w240 (W := 301743231813) (u := 5) hi hL h31 (by omega)
    have e1 : dm240 (Int32.ofNat i) 1414681925 4 s = some v1 := e1
    have e2 : dm240 (Int32.ofNat i) 301743231813 5 s = some v2 := e2
    rw [e1, e2]
    simp only [bu_some]
    repeat' split
    all_goals exact ⟨_, rfl⟩
  have loop : ∀ (m j n : Nat) (x2 x3 x4 : Int32), j + m = L → m < n → ∃ v, dm239_14 n (Int32.ofNat i) x2 x3 x4 (Int32.ofNat j) s = some v := by
    intro m
    induction m with
    | zero =>
      intro j n x2 x3 x4 h1 h2
      obtain ⟨n, rfl⟩ : ∃ q, n = q + 1 := ⟨n - 1, by omega⟩
      rw [dm239_14]
      simp only [if_pos b8, j8, hL]
      rw [if_pos ((nle_iff (by omega) (by omega)).mpr (by omega))]
      unfold dm239_78
      repeat' split
      all_goals exact h79 _ _
    | succ m ih =>
      intro j n x2 x3 x4 h1 h2
      obtain ⟨n, rfl⟩ : ∃ q, n = q + 1 := ⟨n - 1, by omega⟩
      rw [dm239_14]
      simp only [if_pos b8, j8, hL]
      rw [if_neg (fun q => by have := (nle_iff (by omega) (by omega)).mp q; omega), iLin (by omega) (by omega)]
      simp only [if_pos (aB_of (i := 32 * i + j) (n := 256) (by omega) (by omega)), d211, bu_some]
      unfold dm239_36 dm239_37 dm239_47 dm239_48 dm239_57
      simp only [d198, d196, bu_some]
      rw [ofNat_succ (by omega)]
      repeat' split
      all_goals exact ih (j + 1) n _ _ _ (by omega) (by omega)
  have e0 : (32 : Int32) * Int32.ofNat i = Int32.ofNat (32 * i) := by
    have := iLin (i := i) (j := 0) (by omega) (by omega)
    rw [Nat.add_zero] at this
    rw [← this, show Int32.ofNat 0 = 0 from rfl, Int32.add_zero]
  unfold dm239
  rw [e0, if_pos (aB_of (n := 256) (by omega) (by omega)), d197]
  simp only [bu_some]
  exact loop L 0 5000 _ _ _ (by omega) (by omega)
set_option maxRecDepth 100000 in
theorem w238 {s : aS} {ns : List (List Int32)} {x : Int32} (hs : SM s ns) (hn : nsOk ns) (hx : -1 ≤ x.toInt ∧ x.toInt < ns.length) : Wt (dm238 x s) s := by
  unfold dm238
  by_cases c : 0 ≤ x
  · rw [if_pos c]
    have c : 0 ≤ x.toInt := iLe.mp c
    have h8 := hn.1
    obtain ⟨i, hi⟩ : ∃ i, i = x.toInt.toNat := ⟨_, rfl⟩
    have ex : x = Int32.ofNat i := by rw [hi]; exact ofNat_of c
    subst ex
    have hil : i < ns.length := by omega
    have h31 := (hn.2 ns[i] (List.getElem_mem hil)).2.1
    obtain ⟨v, e⟩ := w239 (s := s) (i := i) (by omega) (hs.2 i hil).1 h31
    have b8 : aB (Int32.ofNat i) 8 := aB_of (by omega) (by omega)
    have j8 : jN (Int32.ofNat i) = i := jN_of (by omega)
    have h45 : ∀ s, Wt (dm238_45 s) s := fun s => by
      unfold dm238_45
      exact (w235 _ s).b fun s1 c1 => Wt.s c1
    have loop : ∀ (m j n : Nat) (x2 : Int32) (s1 : aS), ch wrA s s1 → j + m = ns[i].length → m < n → Wt (dm238_14 n (Int32.ofNat i) x2 (Int32.ofNat j) s1) s1 := by
      intro m
      induction m with
      | zero =>
        intro j n x2 s1 h0 h1 h2
        obtain ⟨n, rfl⟩ : ∃ q, n = q + 1 := ⟨n - 1, by omega⟩
        have hL : sI s1 123 i = Int32.ofNat ns[i].length := (h0.i (by unfold wrA; omega)).trans (hs.2 i hil).1
        rw [dm238_14, if_pos b8, j8, hL, if_pos ((nle_iff (by omega) (by omega)).mpr (by omega))]
        split
        · exact h45 s1
        · exact (w235 _ s1).b fun s2 c2 => Wt.t c2 (h45 s2)
      | succ m ih =>
        intro j n x2 s1 h0 h1 h2
        obtain ⟨n, rfl⟩ : ∃ q, n = q + 1 := ⟨n - 1, by omega⟩
        have hL : sI s1 123 i = Int32.ofNat ns[i].length := (h0.i (by unfold wrA; omega)).trans (hs.2 i hil).1
        have h35 : ∀ x4 s2, ch wrA s s2 → Wt (dm238_35 (dm238_14 n) (Int32.ofNat i) x2 (Int32.ofNat j) x4 s2) s2 := by
          intro x4 s2 h3
          unfold dm238_35
          refine (w235 _ s2).b fun s3 c3 => Wt.t c3 ?_
          rw [ofNat_succ (by omega)]
          exact ih (j + 1) n x2 s3 (h3.trans c3) (by omega) (by omega)
        rw [dm238_14, if_pos b8, j8, hL, if_neg (fun q => by have := (nle_iff (by omega) (by omega)).mp q; omega), iLin (by omega) (by omega), if_pos (aB_of (n := 256) (by omega) (by omega))]
        split
        · exact (w235 _ s1).b fun s2 c2 => Wt.t c2 (h35 _ s2 (h0.trans c2))
        · exact h35 _ s1 h0
    rw [e]
    unfold dm238_12
    simp only [bu_some]
    split
    · exact loop ns[i].length 0 5000 _ s (ch.refl _ s) (by omega) (by omega)
    · exact (w235 _ s).b fun s1 c1 => Wt.t c1 (loop ns[i].length 0 5000 _ s1 c1 (by omega) (by omega))
  · rw [if_neg c]
    exact Wt.s (ch.refl _ s)
end
section
/-! trees in their order; the reference's writer comes to its end -/
set_option maxRecDepth 100000 in
theorem ft_sp : ∀ (L : List Nd) (n k : Nat), ft L (n + k) → ∃ T R, L = T ++ R ∧ ft T n ∧ ft R k
  | [], n, k, h => by
    have h : n + k = 0 := h
    exact ⟨[], [], rfl, show n = 0 by omega, show k = 0 by omega⟩
  | d :: L, n, k, h => by
    obtain ⟨h1, h2⟩ := h
    cases n with
    | zero => exact ⟨[], d :: L, rfl, rfl, h1 |> fun _ => by rw [Nat.zero_add] at h1 h2; exact ⟨h1, h2⟩⟩
    | succ n =>
      rw [show n + 1 + k - 1 + arN d = (n + arN d) + k by omega] at h2
      obtain ⟨T, R, e, t1, t2⟩ := ft_sp L (n + arN d) k h2
      refine ⟨d :: T, R, by rw [e]; rfl, ⟨by omega, ?_⟩, t2⟩
      rw [show n + 1 - 1 + arN d = n + arN d by omega]
      exact t1
set_option maxRecDepth 100000 in
theorem ft_ap : ∀ (A B : List Nd) (a b : Nat), ft A a → ft B b → ft (A ++ B) (a + b)
  | [], B, a, b, h, g => by
    have h : a = 0 := h
    rw [h, Nat.zero_add]
    exact g
  | d :: A, B, a, b, h, g => by
    obtain ⟨h1, h2⟩ := h
    have := ft_ap A B _ b h2 g
    exact ⟨by omega, by rw [show a + b - 1 + arN d = a - 1 + arN d + b by omega]; exact this⟩
set_option maxRecDepth 100000 in
theorem ft_0 {L : List Nd} (h : ft L 0) : L = [] := by
  cases L with
  | nil => rfl
  | cons d L => exact absurd h.1 (by decide)
def arOk (d : Nd) : Prop := (0 ≤ (d 0).toInt ∧ (d 0).toInt ≤ 22) ∧ (d 0 = 9 ∨ d 0 = 10 → d 1 = 1) ∧ (11 ≤ (d 0).toInt → d 1 = 2) ∧ (¬ (d 0 = 7 ∨ d 0 = 9 ∨ d 0 = 10 ∨ 11 ≤ (d 0).toInt) → d 1 = 0) ∧ 0 ≤ (d 1).toInt ∧ (d 1).toInt ≤ 128
def WF (s : aS) (f : Nat) (M : List Nd) (l : Nat → List Int32) (ns : List (List Int32)) : Prop := TM s f M ∧ (∀ i (h : i < M.length), NM s f (128 * f + i) (M[i] 0) (l i)) ∧ SM s ns ∧ nsOk ns ∧ ∀ d ∈ M, ndOk d ∧ arOk d ∧ (d 2).toInt < ns.length
set_option maxRecDepth 100000 in
theorem SM.wr {s s1 : aS} {ns : List (List Int32)} (h : SM s ns) (g : ch wrA s s1) : SM s1 ns := ⟨(g.i (by unfold wrA; omega)).trans h.1, fun i hi => ⟨(g.i (by unfold wrA; omega)).trans (h.2 i hi).1, fun j hj => (g.i (by unfold wrA; omega)).trans ((h.2 i hi).2 j hj)⟩⟩
set_option maxRecDepth 100000 in
theorem RL.wr {s s1 : aS} {f p : Nat} {w : List Int32} (h : RL s f p w) (g : ch wrA s s1) : RL s1 f p w := by
  obtain ⟨st, a1, a2, a3, a4⟩ := h
  exact ⟨st, (g.i (by unfold wrA; omega)).trans a1, (g.i (by unfold wrA; omega)).trans a2, a3, fun j hj => (g.i (by unfold wrA; omega)).trans (a4 j hj)⟩
set_option maxRecDepth 100000 in
theorem NM.wr {s s1 : aS} {f p : Nat} {kd : Int32} {l : List Int32} (h : NM s f p kd l) (g : ch wrA s s1) : NM s1 f p kd l := ⟨fun q => (h.1 q).wr g, fun q => (h.2.1 q).wr g, h.2.2⟩
set_option maxRecDepth 100000 in
theorem WF.of {s s1 : aS} {f : Nat} {M : List Nd} {l : Nat → List Int32} {ns : List (List Int32)} (h : WF s f M l ns) (g : ch wrA s s1) : WF s1 f M l ns := ⟨h.1.of g (fun a k z => by unfold wrA at z; omega), fun i hi => (h.2.1 i hi).wr g, h.2.2.1.wr g, h.2.2.2⟩
set_option maxRecDepth 100000 in
theorem w234 {s : aS} {f p : Nat} {w : List Int32} (hf : f < 9) (hp : p < 1152) (h : RL s f p w) : Wt (dm234 (Int32.ofNat f) (Int32.ofNat p) s) s := by
  have hb : aB (Int32.ofNat p) 1152 := aB_of hp (by omega)
  have ej : jN (Int32.ofNat p) = p := jN_of (by omega)
  have loop : ∀ (m j n : Nat) (s1 : aS), RL s1 f p w → j + m = w.length → m < n → Wt (dm234_2 n (Int32.ofNat f) (Int32.ofNat p) (Int32.ofNat j) s1) s1 := by
    intro m
    induction m with
    | zero =>
      intro j n s1 hR hj hn
      obtain ⟨n, rfl⟩ : ∃ q, n = q + 1 := ⟨n - 1, by omega⟩
      obtain ⟨st, a1, a2, a3, a4⟩ := hR
      rw [dm234_2]
      simp only [if_pos hb, ej, a2]
      rw [if_pos ((nle_iff (by omega) (by omega)).mpr (by omega))]
      exact Wt.s (ch.refl _ s1)
    | succ m ih =>
      intro j n s1 hR hj hn
      obtain ⟨n, rfl⟩ : ∃ q, n = q + 1 := ⟨n - 1, by omega⟩
      have hR0 := hR
      obtain ⟨st, a1, a2, a3, a4⟩ := hR
      rw [dm234_2]
      simp only [if_pos hb, ej, a1, a2]
      rw [if_neg (fun q => by have := (nle_iff (by omega) (by omega)).mp q; omega), i256 (by omega) (by omega), iSum (by omega) (by omega), if_pos (aB_of (n := 2304) (by omega) (by omega))]
      refine (w235 _ s1).b fun s2 c2 => Wt.t c2 ?_
      rw [ofNat_succ (by omega)]
      exact ih (j + 1) n s2 (hR0.wr c2) (by omega) (by omega)
  have hw : w.length ≤ 256 := by
    obtain ⟨st, a1, a2, a3, a4⟩ := h
    omega
  exact loop w.length 0 5000 s h (by omega) (by omega)
/-- an answer beside the state -/
def Wv (D : Option (Int32 × aS)) (s : aS) (v : Int32) : Prop := ∃ s', D = some (v, s') ∧ ch wrA s s'
set_option maxRecDepth 100000 in
theorem Wt.v {D : Option aS} {K : aS → Option (Int32 × aS)} {s : aS} {v : Int32} (h : Wt D s) (k : ∀ s1, ch wrA s s1 → Wv (K s1) s v) : Wv (bu D K) s v := by
  obtain ⟨s1, h1, h2⟩ := h
  rw [h1]
  exact k s1 h2
set_option maxRecDepth 100000 in
theorem Wv.v {D : Option (Int32 × aS)} {K : Int32 → aS → Option (Int32 × aS)} {s : aS} {u v : Int32} (h : Wv D s u) (k : ∀ s1, ch wrA s s1 → Wv (K u s1) s v) : Wv (bv D K) s v := by
  obtain ⟨s1, h1, h2⟩ := h
  rw [h1]
  exact k s1 h2
set_option maxRecDepth 100000 in
theorem Wv.t {D : Option (Int32 × aS)} {s s1 : aS} {v : Int32} (h : ch wrA s s1) (g : Wv D s1 v) : Wv D s v := by
  obtain ⟨s2, g1, g2⟩ := g
  exact ⟨s2, g1, h.trans g2⟩
set_option maxRecDepth 100000 in
theorem Wv.s {s s1 : aS} {v : Int32} (h : ch wrA s s1) : Wv (some (v, s1)) s v := ⟨s1, rfl, h⟩
set_option maxRecDepth 100000 in
theorem er_any (v : Int32) : ∃ e, e < 8 ∧ ∀ x, dm204 v x = dm204 (Int32.ofNat e) x := by
  by_cases h1 : v = 1
  · exact ⟨1, by decide, fun x => by rw [h1]; rfl⟩
  · by_cases h2 : v = 2
    · exact ⟨2, by decide, fun x => by rw [h2]; rfl⟩
    · by_cases h3 : v = 3
      · exact ⟨3, by decide, fun x => by rw [h3]; rfl⟩
      · by_cases h4 : v = 4
        · exact ⟨4, by decide, fun x => by rw [h4]; rfl⟩
        · by_cases h5 : v = 5
          · exact ⟨5, by decide, fun x => by rw [h5]; rfl⟩
          · by_cases h6 : v = 6
            · exact ⟨6, by decide, fun x => by rw [h6]; rfl⟩
            · refine ⟨7, by decide, fun x => ?_⟩
              have e1 : dm204 v x = dm204_57 x 592326465 4 := by
                unfold dm204 dm204_31
                rw [if_neg h1, if_neg h2, if_neg h3, if_neg h4, if_neg h5, if_neg h6, if_neg h1, if_neg h5, if_neg h2, if_neg h3, if_neg h4, if_neg h6]
              rw [e1]
              rfl
set_option maxRecDepth 100000 in
theorem w233e {s : aS} {rc : Int32 → Int32 → aS → Option (Int32 × aS)} {p : Nat} (hp : p < 1152) : ∀ (m k n : Nat) (s1 : aS), ch wrA s s1 → k + m = 8 → m < n → Wv (dm233_117 rc n (Int32.ofNat p) (Int32.ofNat k) s1) s1 (Int32.ofNat (p + 1)) := by
  have hb : aB (Int32.ofNat p) 1152 := aB_of hp (by omega)
  have ej : jN (Int32.ofNat p) = p := jN_of (by omega)
  have fin : ∀ s1, Wv (dm233_231 rc (Int32.ofNat p) s1) s1 (Int32.ofNat (p + 1)) := fun s1 => by
    unfold dm233_231
    rw [ofNat_succ (by omega)]
    exact Wv.s (ch.refl _ s1)
  obtain ⟨e, he, hv⟩ := er_any (sI s 136 p)
  intro m
  induction m with
  | zero =>
    intro k n s1 h0 h1 h2
    obtain ⟨n, rfl⟩ : ∃ q, n = q + 1 := ⟨n - 1, by omega⟩
    have e1 : sI s1 136 p = sI s 136 p := h0.i (by unfold wrA; omega)
    rw [dm233_117]
    simp only [if_pos hb, ej, e1, hv]
    rw [d204 he (by omega), getD_out (by have := erN_len e; omega)]
    simp only [bu_some]
    rw [if_pos (by decide)]
    exact fin s1
  | succ m ih =>
    intro k n s1 h0 h1 h2
    obtain ⟨n, rfl⟩ : ∃ q, n = q + 1 := ⟨n - 1, by omega⟩
    have e1 : sI s1 136 p = sI s 136 p := h0.i (by unfold wrA; omega)
    rw [dm233_117]
    simp only [if_pos hb, ej, e1, hv]
    rw [d204 he (by omega)]
    simp only [bu_some]
    split
    · exact fin s1
    · refine (w235 _ s1).v fun s2 c2 => Wv.t c2 ?_
      rw [ofNat_succ (by omega)]
      exact ih (k + 1) n s2 (h0.trans c2) (by omega) (by omega)
set_option maxRecDepth 100000 in
theorem w233t {rc : Int32 → Int32 → aS → Option (Int32 × aS)} {p : Nat} {W : Int64} (hp : p < 1152) : ∀ (m n : Nat) (s1 : aS), m < 100 → m < n → Wv (dm233_158 rc n (Int32.ofNat p) W (Int32.ofNat m - 1) s1) s1 (Int32.ofNat (p + 1)) := by
  intro m
  induction m with
  | zero =>
    intro n s1 h1 h2
    obtain ⟨n, rfl⟩ : ∃ q, n = q + 1 := ⟨n - 1, by omega⟩
    rw [dm233_158, if_pos (by decide)]
    unfold dm233_231
    rw [ofNat_succ (by omega)]
    exact Wv.s (ch.refl _ s1)
  | succ m ih =>
    intro n s1 h1 h2
    obtain ⟨n, rfl⟩ : ∃ q, n = q + 1 := ⟨n - 1, by omega⟩
    have e1 : Int32.ofNat (m + 1) - 1 = Int32.ofNat m := ofNat_sub1 (n := m + 1) (by omega) (by omega)
    rw [dm233_158, e1, if_neg (fun q => by have := (nlt_iff (b := 0) (by omega) (by omega)).mp q; omega)]
    refine (w235 _ s1).v fun s2 c2 => Wv.t c2 ?_
    have e2 : Int32.ofNat m + (-1) = Int32.ofNat m - 1 := by rw [Int32.sub_eq_add_neg]
    rw [e2]
    exact ih n s2 (by omega) (by omega)
set_option maxRecDepth 100000 in
theorem WF.row {s : aS} {f : Nat} {M A B : List Nd} {d : Nd} {l : Nat → List Int32} {ns : List (List Int32)} (h : WF s f M l ns) (hM : M = A ++ (d :: B)) (w : Nat) (hw : w < 9) : sI s (128 + w) (128 * f + A.length) = d w := by
  have hi : A.length < M.length := by
    rw [hM]
    simp only [List.length_append, List.length_cons]
    omega
  have := h.1.2.2 A.length hi w hw
  rw [this]
  have : M[A.length] = d := by
    have : M[A.length]? = some d := by
      rw [hM, List.getElem?_append_right (Nat.le_refl _), Nat.sub_self]
      rfl
    rw [List.getElem?_eq_getElem hi] at this
    exact Option.some.inj this
  rw [this]
end
section
/-! the reference's writer comes to its end: whole -/
set_option maxRecDepth 100000 in
theorem w236 {s : aS} {f p : Nat} {rc : Int32 → Int32 → aS → Option (Int32 × aS)} {x3 v : Int32} (hp : p < 1152) (h : ∀ s1, ch wrA s s1 → Wv (rc (Int32.ofNat f) (Int32.ofNat p) s1) s1 v) : Wv (dm236 rc (Int32.ofNat f) (Int32.ofNat p) x3 s) s v := by
  have hb : aB (Int32.ofNat p) 1152 := aB_of hp (by omega)
  unfold dm236 dm236_10 dm236_16
  rw [if_pos hb, d191]
  simp only [bu_some]
  split
  · rw [if_pos trivial]
    refine (h s (ch.refl _ s)).v fun s1 c1 => ?_
    rw [if_pos trivial]
    exact Wv.s c1
  · rw [if_neg (by decide)]
    refine (w235 _ s).v fun s1 c1 => Wv.t c1 ?_
    refine (h s1 c1).v fun s2 c2 => ?_
    rw [if_neg (by decide)]
    exact Wv.t c2 ((w235 _ s2).v fun s3 c3 => Wv.s c3)
set_option maxRecDepth 100000 in
theorem w237 (x : Int32) : ∃ v, dm237 x = some v := by
  unfold dm237 dm237_41
  repeat' split
  all_goals exact ⟨_, rfl⟩
set_option maxRecDepth 100000 in
theorem w233 {f : Nat} {M : List Nd} {l : Nat → List Int32} {ns : List (List Int32)} (hf : f < 8) : ∀ (n : Nat) (T A B : List Nd) (s : aS), WF s f M l ns → ft T 1 → T.length ≤ n → M = A ++ (T ++ B) → Wv (dm233 n (Int32.ofNat f) (Int32.ofNat (128 * f + A.length)) s) s (Int32.ofNat (128 * f + A.length + T.length)) := by
  intro n
  induction n with
  | zero =>
    intro T A B s h hT hn hM
    cases T with
    | nil => exact absurd hT (by show ¬ (1 : Nat) = 0; decide)
    | cons d T => simp only [List.length_cons] at hn; omega
  | succ n ih =>
    intro T A B s h hT hn hM
    cases T with
    | nil => exact absurd hT (by show ¬ (1 : Nat) = 0; decide)
    | cons d R =>
      have hR : ft R (arN d) := by
        have := hT.2
        rw [show 1 - 1 + arN d = arN d by omega] at this
        exact this
      simp only [List.length_cons] at hn
      have hM1 : M = A ++ (d :: (R ++ B)) := hM
      have hlen : M.length = A.length + (R.length + 1) + B.length := by
        rw [hM1]
        simp only [List.length_append, List.length_cons]
        omega
      have h128 := h.1.2.1
      have hdM : d ∈ M := by
        rw [hM1]
        exact List.mem_append_right _ List.mem_cons_self
      obtain ⟨hnd, har, hsh⟩ := h.2.2.2.2 d hdM
      have hb : aB (Int32.ofNat (128 * f + A.length)) 1152 := aB_of (by omega) (by omega)
      have ej : jN (Int32.ofNat (128 * f + A.length)) = 128 * f + A.length := jN_of (by omega)
      have row : ∀ s1, ch wrA s s1 → ∀ w, w < 9 → sI s1 (128 + w) (128 * f + A.length) = d w := fun s1 c1 w hw => (h.of c1).row hM1 w hw
      have r0 : ∀ s1, ch wrA s s1 → sI s1 128 (128 * f + A.length) = d 0 := fun s1 c1 => row s1 c1 0 (by decide)
      have hA1 : (A ++ [d]).length = A.length + 1 := by rw [List.length_append]; rfl
      have hM2 : M = (A ++ [d]) ++ (R ++ B) := by rw [hM1, List.append_assoc]; rfl
      have eN : Int32.ofNat (128 * f + A.length) + 1 = Int32.ofNat (128 * f + (A ++ [d]).length) := by
        rw [hA1, ofNat_succ (by omega)]
        rfl
      have eE : 128 * f + A.length + (R.length + 1) = 128 * f + (A ++ [d]).length + R.length := by rw [hA1]; omega
      have hNM : NM s f (128 * f + A.length) (d 0) (l A.length) := by
        have hi : A.length < M.length := by omega
        have := h.2.1 A.length hi
        have e9 : M[A.length] = d := by
          have : M[A.length]? = some d := by
            rw [hM1, List.getElem?_append_right (Nat.le_refl _), Nat.sub_self]
            rfl
          rw [List.getElem?_eq_getElem hi] at this
          exact Option.some.inj this
        rw [e9] at this
        exact this
      simp only [List.length_cons]
      rw [eE, dm233, nx_eq, if_pos hb]
      simp only [ej, r0 s (ch.refl _ s)]
      by_cases c7 : d 0 = 7
      · rw [if_pos c7]
        refine (w234 (by omega) (by omega) (hNM.1 (Or.inr (Or.inr c7)))).v fun s1 c1 => Wv.t c1 ?_
        refine (w235 _ s1).v fun s2 c2 => Wv.t c2 ?_
        have loop : ∀ (m k N : Nat) (A2 R2 : List Nd) (s3 : aS), ch wrA s s3 → ft R2 m → k + m = arN d → R2.length ≤ n → M = A2 ++ (R2 ++ B) → m < N → Wv (dm233_21 (dm233 n) N (Int32.ofNat f) (Int32.ofNat (128 * f + A.length)) (Int32.ofNat (128 * f + A2.length)) (Int32.ofNat k) s3) s3 (Int32.ofNat (128 * f + A2.length + R2.length)) := by
          have hk : d 1 = Int32.ofNat (arN d) := ofNat_of har.2.2.2.2.1
          have hk8 := har.2.2.2.2.2
          have hk9 : arN d ≤ 128 := by unfold arN; omega
          intro m
          induction m with
          | zero =>
            intro k N A2 R2 s3 c3 hR2 hkm hn2 hM3 hN
            obtain ⟨N, rfl⟩ : ∃ q, N = q + 1 := ⟨N - 1, by omega⟩
            have e0 := ft_0 hR2
            subst e0
            have r1 : sI s3 129 (128 * f + A.length) = Int32.ofNat (arN d) := (row s3 c3 1 (by decide)).trans hk
            rw [dm233_21, if_pos hb, ej, r1, if_pos ((nle_iff (by omega) (by omega)).mpr (by omega))]
            exact (w235 _ s3).v fun s4 c4 => Wv.s c4
          | succ m ihm =>
            intro k N A2 R2 s3 c3 hR2 hkm hn2 hM3 hN
            obtain ⟨N, rfl⟩ : ∃ q, N = q + 1 := ⟨N - 1, by omega⟩
            have r1 : sI s3 129 (128 * f + A.length) = Int32.ofNat (arN d) := (row s3 c3 1 (by decide)).trans hk
            obtain ⟨T1, R3, e1, t1, t2⟩ := ft_sp R2 1 m (by rw [Nat.add_comm]; exact hR2)
            subst e1
            simp only [List.length_append] at hn2
            have h32 : ∀ s4, ch wrA s s4 → Wv (dm233_32 (dm233 n) (dm233_21 (dm233 n) N) (Int32.ofNat f) (Int32.ofNat (128 * f + A.length)) (Int32.ofNat (128 * f + A2.length)) (Int32.ofNat k) s4) s4 (Int32.ofNat (128 * f + A2.length + (T1 ++ R3).length)) := by
              intro s4 c4
              unfold dm233_32
              refine (ih T1 A2 (R3 ++ B) s4 (h.of c4) t1 (by omega) (by rw [hM3, List.append_assoc])).v fun s5 c5 => Wv.t c5 ?_
              have := ihm (k + 1) N (A2 ++ T1) R3 s5 (c4.trans c5) t2 (by omega) (by omega) (by rw [hM3, List.append_assoc, List.append_assoc]) (by omega)
              rw [List.length_append, ← Nat.add_assoc] at this
              rw [ofNat_succ (by omega), List.length_append, ← Nat.add_assoc]
              exact this
            rw [dm233_21, if_pos hb, ej, r1, if_neg (fun q => by have := (nle_iff (by omega) (by omega)).mp q; omega)]
            split
            · exact h32 s3 c3
            · exact (w235 _ s3).v fun s4 c4 => Wv.t c4 (h32 s4 (c3.trans c4))
        rw [eN]
        have hk8 := har.2.2.2.2.2
        exact loop (arN d) 0 5000 (A ++ [d]) R s2 (c1.trans c2) hR (by omega) (by omega) hM2 (by unfold arN; omega)
      · rw [if_neg c7]
        have one : arN d = 1 → ∀ x3 s1, ch wrA s s1 → Wv (dm236 (dm233 n) (Int32.ofNat f) (Int32.ofNat (128 * f + A.length) + 1) x3 s1) s1 (Int32.ofNat (128 * f + (A ++ [d]).length + R.length)) := by
          intro h1 x3 s1 c1
          rw [h1] at hR
          rw [eN]
          have hRl : 1 ≤ R.length := by
            cases R with
            | nil => exact absurd hR (by show ¬ (1 : Nat) = 0; decide)
            | cons a b => simp only [List.length_cons]; omega
          exact w236 (by rw [hA1]; omega) fun s2 c2 => ih R (A ++ [d]) B s2 (h.of (c1.trans c2)) hR (by omega) hM2
        by_cases c9 : d 0 = 9
        · rw [if_pos c9]
          have h1 : arN d = 1 := by unfold arN; rw [har.2.1 (Or.inl c9)]; rfl
          exact (one h1 7 s (ch.refl _ s)).v fun s1 c1 => Wv.t c1 ((w235 _ s1).v fun s2 c2 => Wv.s c2)
        · rw [if_neg c9]
          by_cases c10 : d 0 = 10
          · rw [if_pos c10]
            have h1 : arN d = 1 := by unfold arN; rw [har.2.1 (Or.inr c10)]; rfl
            refine (w235 _ s).v fun s1 c1 => Wv.t c1 ?_
            exact (one h1 6 s1 c1).v fun s2 c2 => Wv.s c2
          · rw [if_neg c10]
            have l11 : d 0 < 11 ↔ (d 0).toInt < 11 := iLt
            by_cases c11 : d 0 < 11
            · rw [if_pos c11]
              have c11 := l11.mp c11
              have h1 : arN d = 0 := by
                unfold arN
                rw [har.2.2.2.1 (by rintro (q | q | q | q); exact c7 q; exact c9 q; exact c10 q; omega)]
                rfl
              rw [h1] at hR
              have e0 := ft_0 hR
              subst e0
              have eE2 : 128 * f + (A ++ [d]).length + ([] : List Nd).length = 128 * f + A.length + 1 := by rw [hA1]; rfl
              rw [eE2]
              have fin : ∀ s1, Wv (dm233_231 (dm233 n) (Int32.ofNat (128 * f + A.length)) s1) s1 (Int32.ofNat (128 * f + A.length + 1)) := fun s1 => by
                unfold dm233_231
                rw [ofNat_succ (by omega)]
                exact Wv.s (ch.refl _ s1)
              by_cases c2 : d 0 = 2
              · rw [if_pos c2]
                exact w233e (by omega) 8 0 5000 s (ch.refl _ s) (by omega) (by omega)
              · rw [if_neg c2]
                by_cases c3 : d 0 = 3
                · rw [if_pos c3]
                  unfold dm233_147 dm233_157
                  simp only [if_pos hb, ej]
                  split
                  · exact w233t (by omega) 4 5000 s (by omega) (by omega)
                  · exact w233t (by omega) 5 5000 s (by omega) (by omega)
                · rw [if_neg c3]
                  have cell : isRf d → Wv (dm233_179 (dm233 n) (Int32.ofNat (128 * f + A.length)) (d 0) s) s (Int32.ofNat (128 * f + A.length + 1)) := by
                    intro hrf
                    obtain ⟨q1, q2, q3, q4, q5, q6, q7⟩ := hnd.2.2.2.1 hrf
                    have p1 : 0 ≤ (d 3).toInt ∧ (d 3).toInt ≤ 1048576 := by
                      have q2 : 1 ≤ (d 3).toInt ∧ (d 3).toInt ≤ (1048576 : Int32).toInt := q2
                      have : (1048576 : Int32).toInt = 1048576 := by decide
                      omega
                    have p2 : 0 ≤ (d 5).toInt ∧ (d 5).toInt ≤ 1048576 := by
                      have q3 : 1 ≤ (d 5).toInt ∧ (d 5).toInt ≤ (1048576 : Int32).toInt := q3
                      have : (1048576 : Int32).toInt = 1048576 := by decide
                      omega
                    have z2 := row s (ch.refl _ s) 2 (by decide)
                    unfold dm233_179
                    simp only [if_pos hb, ej]
                    rw [show sI s 130 (128 * f + A.length) = d 2 from z2]
                    refine (w238 h.2.2.1 h.2.2.2.1 ⟨hnd.1.1, hsh⟩).v fun s1 c1 => Wv.t c1 ?_
                    rw [show sI s1 131 (128 * f + A.length) = d 3 from row s1 c1 3 (by decide)]
                    refine (w241 p1 s1).v fun s2 c2 => Wv.t c2 ?_
                    split
                    · refine (w235 _ s2).v fun s3 c3 => Wv.t c3 ?_
                      rw [show sI s3 133 (128 * f + A.length) = d 5 from row s3 ((c1.trans c2).trans c3) 5 (by decide)]
                      exact (w241 p2 s3).v fun s4 c4 => Wv.t c4 (fin s4)
                    · exact fin s2
                  by_cases c4 : d 0 = 4
                  · rw [if_pos c4]
                    exact cell (Or.inl c4)
                  · rw [if_neg c4]
                    by_cases c5 : d 0 = 5
                    · rw [if_pos c5]
                      exact cell (Or.inr c5)
                    · rw [if_neg c5]
                      by_cases c8 : d 0 = 8
                      · rw [if_pos c8]
                        exact fin s
                      · rw [if_neg c8]
                        have key : Wt (dm234 (Int32.ofNat f) (Int32.ofNat (128 * f + A.length)) s) s := by
                          by_cases c1 : d 0 = 1
                          · exact w234 (by omega) (by omega) (hNM.2.1 c1)
                          · refine w234 (by omega) (by omega) (hNM.1 ?_)
                            have g1 := har.1
                            have t : ∀ k : Nat, k ≤ 10 → ¬ d 0 = Int32.ofNat k → ¬ (d 0).toInt = k := fun k hk q z => q (by rw [iEq, iOfNat (by omega)]; exact z)
                            by_cases c0 : d 0 = 0
                            · exact Or.inl c0
                            · by_cases c6 : d 0 = 6
                              · exact Or.inr (Or.inl c6)
                              · exfalso
                                have := t 0 (by decide) c0
                                have := t 1 (by decide) c1
                                have := t 2 (by decide) c2
                                have := t 3 (by decide) c3
                                have := t 4 (by decide) c4
                                have := t 5 (by decide) c5
                                have := t 6 (by decide) c6
                                have := t 7 (by decide) c7
                                have := t 8 (by decide) c8
                                have := t 9 (by decide) c9
                                have := t 10 (by decide) c10
                                omega
                        exact key.v fun s1 c1 => Wv.t c1 (fin s1)
            · rw [if_neg c11, d191]
              have c11 : ¬ (d 0).toInt < 11 := fun q => c11 (l11.mpr q)
              have h2 : arN d = 2 := by
                unfold arN
                rw [har.2.2.1 (by omega)]
                rfl
              rw [h2] at hR
              obtain ⟨T1, T2, e1, t1, t2⟩ := ft_sp R 1 1 hR
              subst e1
              simp only [List.length_append] at hn
              have hT1 : 1 ≤ T1.length := by
                cases T1 with
                | nil => exact absurd t1 (by show ¬ (1 : Nat) = 0; decide)
                | cons a b => simp only [List.length_cons]; omega
              have hT2 : 1 ≤ T2.length := by
                cases T2 with
                | nil => exact absurd t2 (by show ¬ (1 : Nat) = 0; decide)
                | cons a b => simp only [List.length_cons]; omega
              rw [List.length_append] at hlen
              obtain ⟨v9, e9⟩ := w237 (d 0)
              rw [e9]
              simp only [bu_some]
              rw [eN]
              refine (w236 (by rw [hA1]; omega) fun s2 c2 => ih T1 (A ++ [d]) (T2 ++ B) s2 (h.of c2) t1 (by omega) (by rw [hM2]; simp only [List.append_assoc])).v fun s1 c1 => Wv.t c1 ?_
              refine (w235 _ s1).v fun s2 c2 => Wv.t c2 ?_
              have h104 : ∀ x4 s3, ch wrA s s3 → Wv (dm233_104 (dm233 n) (Int32.ofNat f) x4 (Int32.ofNat (128 * f + (A ++ [d]).length + T1.length)) s3) s3 (Int32.ofNat (128 * f + (A ++ [d]).length + (T1 ++ T2).length)) := by
                intro x4 s3 c3
                unfold dm233_104
                have e2 : 128 * f + (A ++ [d]).length + T1.length = 128 * f + ((A ++ [d]) ++ T1).length := by
                  rw [List.length_append (as := A ++ [d])]
                  omega
                have e3 : 128 * f + (A ++ [d]).length + (T1 ++ T2).length = 128 * f + ((A ++ [d]) ++ T1).length + T2.length := by
                  rw [List.length_append (as := A ++ [d]), List.length_append (as := T1)]
                  omega
                rw [e2, e3]
                exact (w236 (by rw [List.length_append (as := A ++ [d]), hA1]; omega) fun s4 c4 => ih T2 ((A ++ [d]) ++ T1) B s4 (h.of (c3.trans c4)) t2 (by omega) (by rw [hM2]; simp only [List.append_assoc])).v fun s4 c4 => Wv.s c4
              have h98 : ∀ x4 s3, ch wrA s s3 → Wv (dm233_98 (dm233 n) (Int32.ofNat f) (d 0) x4 (Int32.ofNat (128 * f + (A ++ [d]).length + T1.length)) s3) s3 (Int32.ofNat (128 * f + (A ++ [d]).length + (T1 ++ T2).length)) := by
                intro x4 s3 c3
                unfold dm233_98
                split
                · exact h104 x4 s3 c3
                · exact (w235 _ s3).v fun s4 c4 => Wv.t c4 (h104 x4 s4 (c3.trans c4))
              split
              · exact (w235 _ s2).v fun s3 c3 => Wv.t c3 (h98 _ s3 ((c1.trans c2).trans c3))
              · exact h98 _ s2 (c1.trans c2)
set_option maxRecDepth 100000 in
/-- the reference's form comes to its end -/
theorem w232 {s : aS} {ns : List (List Int32)} {fs : Nat → Option Fm} {lt : Nat → Nat → List Int32} (hS : SM s ns) (hn : nsOk ns) (h : MM s fs) (hL : MLt s fs lt) (hok : ∀ f h L, fs f = some (h, L) → ft L 1 ∧ ∀ d ∈ L, ndOk d ∧ arOk d ∧ (d 2).toInt < ns.length) (x k : Int32) : ∃ v s', dm232 x k s = some (v, s') ∧ ch (fun a q => a = 121 ∧ (q = 0 ∨ 42 ≤ q)) s s' := by
  unfold dm232 dm232_8
  rcases d225 h x with ⟨e1, e2⟩ | ⟨ho, L, e1, e2, e3, e4, e5⟩
  · rw [e2]
    simp only [bu_some, nx_eq]
    rw [if_neg (by decide), if_neg (show ¬ sI (wI s 121 0 1) 121 0 ≤ 0 by rw [sI_wI, if_pos ⟨rfl, rfl⟩]; decide)]
    exact ⟨_, _, rfl, (ch.refl _ s).wI ⟨rfl, Or.inl rfl⟩⟩
  · rw [e3]
    simp only [bu_some, nx_eq]
    rw [if_pos trivial, if_pos (show sI (wI s 121 0 0) 121 0 ≤ 0 by rw [sI_wI, if_pos ⟨rfl, rfl⟩]; decide)]
    obtain ⟨f, hf⟩ : ∃ f, f = x.toInt.toNat := ⟨_, rfl⟩
    have ex : x = Int32.ofNat f := by rw [hf]; exact ofNat_of e2.1
    have hf8 : f < 8 := by omega
    have hfs : fs f = some (ho, L) := by rw [hf]; exact (fAt_s e1).2
    rw [← hf] at e4
    have hc : ch (fun a q => a = 121 ∧ (q = 0 ∨ 42 ≤ q)) s (wI (wI (wI (wI s 121 0 0) 121 42 0) 121 43 k) 121 44 (-1)) := ((((ch.refl _ s).wI ⟨rfl, Or.inl rfl⟩).wI ⟨rfl, by omega⟩).wI ⟨rfl, by omega⟩).wI ⟨rfl, by omega⟩
    obtain ⟨g1, g2⟩ := hok f ho L hfs
    have hWF : WF (wI (wI (wI (wI s 121 0 0) 121 42 0) 121 43 k) 121 44 (-1)) f L (lt f) ns := by
      refine ⟨e4.of hc (fun a k z => by omega), fun i hi => ?_, ⟨(hc.i (by omega)).trans hS.1, fun i hi => ⟨(hc.i (by omega)).trans (hS.2 i hi).1, fun j hj => (hc.i (by omega)).trans ((hS.2 i hi).2 j hj)⟩⟩, hn, g2⟩
      have := hL f hf8 ho L hfs i hi
      have rl : ∀ w, RL s f (128 * f + i) w → RL (wI (wI (wI (wI s 121 0 0) 121 42 0) 121 43 k) 121 44 (-1)) f (128 * f + i) w := by
        rintro w ⟨st, b1, b2, b3, b4⟩
        exact ⟨st, (hc.i (by omega)).trans b1, (hc.i (by omega)).trans b2, b3, fun j hj => (hc.i (by omega)).trans (b4 j hj)⟩
      exact ⟨fun q => rl _ (this.1 q), fun q => rl _ (this.2.1 q), this.2.2⟩
    have eM : (128 : Int32) * Int32.ofNat f = Int32.ofNat (128 * f + ([] : List Nd).length) := by
      have := i128 (f := f) (i := 0) (by omega) (by omega)
      rw [show Int32.ofNat 0 = 0 from rfl, Int32.add_zero] at this
      exact this
    have hL8 := e4.2.1
    obtain ⟨s', d1, d2⟩ := w233 hf8 400 L [] [] _ hWF g1 (by omega) (by rw [List.append_nil]; rfl)
    rw [ex, eM, d1]
    simp only [bv_some]
    exact ⟨_, s', rfl, hc.trans (d2.mono fun a k z => by unfold wrA at z; omega)⟩
end
section
/-! what is read are right nodes -/
def gdN (ns : List (List Int32)) (n : NN) : Prop := ndOk n.2.1 ∧ arOk n.2.1 ∧ (n.2.1 2).toInt < ns.length ∧ (n.2.1 0 = 4 → (n.2.1 7).toInt ≤ 3) ∧ n.2.2.length ≤ 256 ∧ okT n.2.2
def gdF (ns : List (List Int32)) (f : Fw) : Prop := f.1 = 100 ∨ ((f.1 = 7 ∨ f.1 = 10 ∨ isB f.1) ∧ (∀ w, w ≠ 1 → f.2.1.2.1 w = plF f.1 0 w) ∧ (f.1 = 7 → f.2.1.2.1 1 = Int32.ofNat f.2.2.2.length) ∧ f.2.1.2.2.length ≤ 256 ∧ okT f.2.1.2.2 ∧ (f.1 = 10 → f.2.2.2.length = 0) ∧ (isB f.1 → f.2.2.2.length = 1) ∧ f.2.2.2.length ≤ 29 ∧ ∀ n ∈ f.2.2.1, gdN ns n)
def MI (ns : List (List Int32)) (F : List Fw) (cur : List NN) : Prop := (∀ f ∈ F, gdF ns f) ∧ ∀ n ∈ cur, gdN ns n
set_option maxRecDepth 100000 in
theorem isB_iff {x : Int32} : isB x ↔ 11 ≤ x.toInt ∧ x.toInt ≤ 22 := Iff.rfl
set_option maxRecDepth 100000 in
/-- a node that is neither cell nor range -/
theorem gd_pl {ns : List (List Int32)} {m : Nat} {d : Nd} {l : List Int32} {kd : Int32} (h0 : d 0 = kd) (h2 : d 2 = -1) (h7 : d 7 = 0) (hk : ¬ (kd = 4 ∨ kd = 5)) (ha : arOk d) (hl : l.length ≤ 256) (ho : okT l) : gdN ns (m, d, l) := by
  have nr : ¬ isRf d := by
    unfold isRf
    rw [h0]
    exact hk
  have e2 : (d 2).toInt = -1 := by rw [h2]; rfl
  have e7 : (d 7).toInt = 0 := by rw [h7]; rfl
  have hnd : ndOk d := ⟨⟨by omega, by omega⟩, ⟨by omega, by omega⟩, fun _ => h2, fun q => absurd q nr, fun q => absurd (Or.inl (by rw [← h0]; exact q)) hk⟩
  refine ⟨hnd, ha, ?_, fun q => ?_, hl, ho⟩
  · show (d 2).toInt < _
    omega
  · show (d 7).toInt ≤ 3
    omega
set_option maxRecDepth 100000 in
theorem ar_0 {d : Nd} {kd : Int32} (h0 : d 0 = kd) (h1 : d 1 = 0) (hk : 0 ≤ kd.toInt ∧ kd.toInt ≤ 10) (hn : ¬ (kd = 9 ∨ kd = 10)) : arOk d := by
  refine ⟨by rw [h0]; omega, fun q => absurd (by rw [← h0]; exact q) hn, fun q => ?_, fun _ => h1, by rw [h1]; decide, by rw [h1]; decide⟩
  rw [h0] at q
  omega
set_option maxRecDepth 100000 in
theorem gd_up {ns : List (List Int32)} {f : Fw} (h : gdF ns f) (h100 : f.1 ≠ 100) : gdN ns (upN f) := by
  obtain ⟨a1, a2, a3, a4, a5, a6, a7, a8, a9⟩ := h.resolve_left h100
  have e0 : setN f.2.1.2.1 1 (Int32.ofNat (f.2.2.2.length + 1)) 0 = f.1 := a2 0 (by decide)
  have hr : 0 ≤ f.1.toInt ∧ f.1.toInt ≤ 22 ∧ ¬ (f.1 = 4 ∨ f.1 = 5) := by
    rcases a1 with q | q | q
    · rw [q]; decide
    · rw [q]; decide
    · refine ⟨by have := q.1; omega, q.2, ?_⟩
      rintro (z | z) <;> rw [z] at q <;> unfold isB at q <;> exact absurd q (by decide)
  refine gd_pl e0 (a2 2 (by decide)) (a2 7 (by decide)) hr.2.2 ?_ a4 a5
  have e1 : setN f.2.1.2.1 1 (Int32.ofNat (f.2.2.2.length + 1)) 1 = Int32.ofNat (f.2.2.2.length + 1) := if_pos rfl
  refine ⟨by rw [e0]; exact ⟨hr.1, hr.2.1⟩, fun q => ?_, fun q => ?_, fun q => ?_, by rw [e1, iOfNat (by omega)]; omega, by rw [e1, iOfNat (by omega)]; omega⟩
  · rw [e0] at q
    rw [e1]
    rcases q with q | q
    · exfalso
      rcases a1 with z | z | z
      · rw [q] at z; exact absurd z (by decide)
      · rw [q] at z; exact absurd z (by decide)
      · rw [q] at z; unfold isB at z; exact absurd z (by decide)
    · rw [a6 q]
      rfl
  · rw [e0] at q
    rw [e1, a7 ⟨q, hr.2.1⟩]
    rfl
  · exfalso
    rw [e0] at q
    apply q
    rcases a1 with z | z | z
    · exact Or.inl z
    · exact Or.inr (Or.inr (Or.inl z))
    · exact Or.inr (Or.inr (Or.inr z.1))
set_option maxRecDepth 100000 in
theorem gd_rd {ns : List (List Int32)} {x : Int32} : ∀ (F : List Fw) (cur : List NN), MI ns F cur → MI ns (rdF x F cur).1 (rdF x F cur).2
  | [], cur, h => h
  | f :: F, cur, h => by
    by_cases g : f.1 = 100 ∨ f.1 = 7 ∨ rkM f.1 < x
    · have : rdF x (f :: F) cur = (f :: F, cur) := if_pos g
      rw [this]
      exact h
    · have : rdF x (f :: F) cur = rdF x F (upN f :: (f.2.2.1 ++ cur)) := if_neg g
      rw [this]
      have hf := h.1 f List.mem_cons_self
      have h100 : f.1 ≠ 100 := fun q => g (Or.inl q)
      refine gd_rd F _ ⟨fun q hq => h.1 q (List.mem_cons_of_mem _ hq), fun n hn => ?_⟩
      rcases List.mem_cons.mp hn with q | q
      · rw [q]
        exact gd_up hf h100
      · rcases List.mem_append.mp q with q | q
        · exact (hf.resolve_left h100).2.2.2.2.2.2.2.2 n q
        · exact h.2 n q
set_option maxRecDepth 100000 in
theorem okT_sl {t : List Int32} {a b : Nat} (h : okT t) : okT (sl t a b) := fun x hx => h x (List.mem_of_mem_drop (List.mem_of_mem_take hx))
set_option maxRecDepth 100000 in
theorem okT_gr {l : List Int32} (h : okT l) : okT (l.map gr) := by
  intro x hx
  obtain ⟨y, hy, rfl⟩ := List.mem_map.mp hx
  have := h y hy
  have l1 : y < 97 ↔ y.toInt < 97 := iLt
  have l2 : 122 < y ↔ 122 < y.toInt := iLt
  unfold gr
  split
  · exact this
  · split
    · exact this
    · rename_i a b
      have a : ¬ y.toInt < 97 := fun z => a (l1.mpr z)
      have e : (y - 32).toInt = y.toInt - 32 := iSub (y := 32) (by show _ ≤ y.toInt - 32; omega) (by show y.toInt - 32 ≤ _; omega)
      rw [e]
      omega
set_option maxRecDepth 100000 in
theorem okT_qt {t : List Int32} (ho : okT t) {q : Int32} : ∀ (m i : Nat) (u : List Int32) (e : Nat), qtG t q m i = some (u, e) → okT u ∧ u.length + i ≤ e
  | 0, i, u, e, h => by cases h
  | m + 1, i, u, e, h => by
    rw [qtG] at h
    by_cases c1 : t.length ≤ i
    · rw [if_pos c1] at h; cases h
    · rw [if_neg c1] at h
      have hc : 32 ≤ (t.getD i 0).toInt ∧ (t.getD i 0).toInt ≤ 126 := by
        rw [getD_in (show i < t.length by omega)]
        exact ho _ (List.getElem_mem _)
      by_cases c2 : t.getD i 0 = q
      · rw [if_pos c2] at h
        by_cases c3 : t.getD (i + 1) 0 = q
        · rw [if_pos c3] at h
          cases z : qtG t q m (i + 2) with
          | none => rw [z] at h; cases h
          | some p =>
            rw [z] at h
            have h : some (q :: p.1, p.2) = some (u, e) := h
            cases h
            have := okT_qt ho m (i + 2) p.1 p.2 z
            refine ⟨fun x hx => ?_, by simp only [List.length_cons]; omega⟩
            rcases List.mem_cons.mp hx with y | y
            · rw [y, ← c2]; exact hc
            · exact this.1 x y
        · rw [if_neg c3] at h
          cases h
          exact ⟨fun x hx => (by cases hx), by simp⟩
      · rw [if_neg c2] at h
        cases z : qtG t q m (i + 1) with
        | none => rw [z] at h; cases h
        | some p =>
          rw [z] at h
          have h : some (t.getD i 0 :: p.1, p.2) = some (u, e) := h
          cases h
          have := okT_qt ho m (i + 1) p.1 p.2 z
          refine ⟨fun x hx => ?_, by simp only [List.length_cons]; omega⟩
          rcases List.mem_cons.mp hx with y | y
          · rw [y]; exact hc
          · exact this.1 x y
set_option maxRecDepth 100000 in
/-- a cell -/
theorem gd_cl {ns : List (List Int32)} {m w c f : Nat} {x : Int32} (hx : -1 ≤ x.toInt ∧ x.toInt ≤ 7 ∧ x.toInt < ns.length) (hw : 1 ≤ w ∧ w ≤ 1048576) (hc : 1 ≤ c ∧ c ≤ 16384) (hf : f ≤ 3) : gdN ns (m, clD x (Int32.ofNat w) (Int32.ofNat c) (Int32.ofNat f), []) := by
  have d0 : clD x (Int32.ofNat w) (Int32.ofNat c) (Int32.ofNat f) 0 = 4 := rfl
  have d1 : clD x (Int32.ofNat w) (Int32.ofNat c) (Int32.ofNat f) 1 = 0 := rfl
  have d2 : clD x (Int32.ofNat w) (Int32.ofNat c) (Int32.ofNat f) 2 = x := rfl
  have d7 : clD x (Int32.ofNat w) (Int32.ofNat c) (Int32.ofNat f) 7 = Int32.ofNat f := rfl
  have ef : (Int32.ofNat f).toInt = f := iOfNat (by omega)
  have rw1 : rgP (Int32.ofNat w) 1048576 := by
    unfold rgP
    rw [iOfNat (by omega), show (1048576 : Int32).toInt = 1048576 by decide]
    omega
  have rc1 : rgP (Int32.ofNat c) 16384 := by
    unfold rgP
    rw [iOfNat (by omega), show (16384 : Int32).toInt = 16384 by decide]
    omega
  have hnd : ndOk (clD x (Int32.ofNat w) (Int32.ofNat c) (Int32.ofNat f)) := ⟨by rw [d2]; exact ⟨hx.1, hx.2.1⟩, by rw [d7, ef]; omega, fun q => absurd (Or.inl d0) q, fun _ => ⟨d1, rw1, rw1, Int.le_refl _, rc1, rc1, Int.le_refl _⟩, fun _ => ⟨rfl, rfl⟩⟩
  refine ⟨hnd, ar_0 d0 d1 (by decide) (by decide), by show (clD x (Int32.ofNat w) (Int32.ofNat c) (Int32.ofNat f) 2).toInt < _; rw [d2]; exact hx.2.2, fun _ => by show (clD x (Int32.ofNat w) (Int32.ofNat c) (Int32.ofNat f) 7).toInt ≤ 3; rw [d7, ef]; omega, Nat.zero_le _, fun y hy => (by cases hy)⟩
set_option maxRecDepth 100000 in
theorem or4 : ∀ a b : Nat, a < 4 → b < 4 → 0 ≤ (Int32.ofNat a ||| (Int32.ofNat b <<< ((2 : Int32) &&& 31))).toInt ∧ (Int32.ofNat a ||| (Int32.ofNat b <<< ((2 : Int32) &&& 31))).toInt ≤ 15 := by
  intro a b ha hb
  have h : ∀ a ∈ List.range 4, ∀ b ∈ List.range 4, 0 ≤ (Int32.ofNat a ||| (Int32.ofNat b <<< ((2 : Int32) &&& 31))).toInt ∧ (Int32.ofNat a ||| (Int32.ofNat b <<< ((2 : Int32) &&& 31))).toInt ≤ 15 := by decide +kernel
  exact h a (List.mem_range.mpr ha) b (List.mem_range.mpr hb)
set_option maxRecDepth 100000 in
theorem gd_rg {ns : List (List Int32)} {n : NN} {w c f : Nat} (h : gdN ns n) (h4 : n.2.1 0 = 4) (hw : 1 ≤ w ∧ w ≤ 1048576) (hc : 1 ≤ c ∧ c ≤ 16384) (hf : f ≤ 3) : gdN ns (rgN n (Int32.ofNat w) (Int32.ofNat c) (Int32.ofNat f)) := by
  obtain ⟨a1, a2, a3, a4, a5, a6⟩ := h
  obtain ⟨b1, b2, b3, b4, b5⟩ := a1
  obtain ⟨q1, q2, q3, q4, q5, q6, q7⟩ := b4 (Or.inl h4)
  have rw1 : rgP (Int32.ofNat w) 1048576 := by
    unfold rgP
    rw [iOfNat (by omega), show (1048576 : Int32).toInt = 1048576 by decide]
    omega
  have rc1 : rgP (Int32.ofNat c) 16384 := by
    unfold rgP
    rw [iOfNat (by omega), show (16384 : Int32).toInt = 16384 by decide]
    omega
  have a4' := a4 h4
  obtain ⟨a, ha⟩ : ∃ a, a = (n.2.1 7).toInt.toNat := ⟨_, rfl⟩
  have e7 : n.2.1 7 = Int32.ofNat a := by rw [ha]; exact ofNat_of b2.1
  have o7 := or4 a f (by omega) (by omega)
  let e := setN (setN (setN (setN n.2.1 0 5) 5 (Int32.ofNat w)) 6 (Int32.ofNat c)) 7 (n.2.1 7 ||| (Int32.ofNat f <<< ((2 : Int32) &&& 31)))
  have z3 : rgP (e 3) 1048576 := q2
  have z5 : rgP (e 5) 1048576 := rw1
  have z4 : rgP (e 4) 16384 := q5
  have z6 : rgP (e 6) 16384 := rc1
  have z7 : 0 ≤ (e 7).toInt ∧ (e 7).toInt ≤ 15 := by
    show 0 ≤ (n.2.1 7 ||| (Int32.ofNat f <<< ((2 : Int32) &&& 31))).toInt ∧ (n.2.1 7 ||| (Int32.ofNat f <<< ((2 : Int32) &&& 31))).toInt ≤ 15
    rw [e7]
    exact o7
  obtain ⟨r1, r2, r3, r4⟩ := srR_r z3 z5 z7
  have k4 : srR e 4 = e 4 := srR_k (by decide)
  have k6 : srR e 6 = e 6 := srR_k (by decide)
  obtain ⟨s1, s2, s3, s4⟩ := srC_r (e := srR e) (m := 16384) (by rw [k4]; exact z4) (by rw [k6]; exact z6) r4
  have k3 : srC (srR e) 3 = srR e 3 := srC_k (by decide)
  have k5 : srC (srR e) 5 = srR e 5 := srC_k (by decide)
  have d0 : srC (srR e) 0 = 5 := (srC_k (by decide)).trans (srR_k (by decide))
  have d1 : srC (srR e) 1 = n.2.1 1 := (srC_k (by decide)).trans (srR_k (by decide))
  have d2 : srC (srR e) 2 = n.2.1 2 := (srC_k (by decide)).trans (srR_k (by decide))
  refine ⟨⟨?_, s4, fun q => absurd (Or.inr d0) q, fun _ => ⟨d1.trans q1, ?_, ?_, ?_, s1, s2, s3⟩, fun q => ?_⟩, ar_0 d0 (d1.trans q1) (by decide) (by decide), ?_, fun q => ?_, Nat.zero_le _, fun y hy => (by cases hy)⟩
  · show -1 ≤ (srC (srR e) 2).toInt ∧ (srC (srR e) 2).toInt ≤ 7
    rw [d2]; exact b1
  · show rgP (srC (srR e) 3) 1048576
    rw [k3]; exact r1
  · show rgP (srC (srR e) 5) 1048576
    rw [k5]; exact r2
  · show (srC (srR e) 3).toInt ≤ (srC (srR e) 5).toInt
    rw [k3, k5]; exact r3
  · have q : srC (srR e) 0 = 4 := q
    rw [d0] at q
    exact absurd q (by decide)
  · show (srC (srR e) 2).toInt < _
    rw [d2]; exact a3
  · have q : srC (srR e) 0 = 4 := q
    rw [d0] at q
    exact absurd q (by decide)
end
section
/-! every step keeps the nodes right -/
def gdX (ns : List (List Int32)) (X : Nat ⊕ St) : Prop := match X with
  | .inl _ => True
  | .inr z => MI ns z.2.1 z.2.2.1
set_option maxRecDepth 100000 in
theorem gdX.one {ns : List (List Int32)} {e lc : Nat} {F : List Fw} {n : NN} {fr : Int32} (hF : ∀ f ∈ F, gdF ns f) (hn : gdN ns n) : gdX ns (.inr (e, F, [n], fr, lc)) := ⟨hF, fun q hq => by rw [List.mem_singleton.mp hq]; exact hn⟩
set_option maxRecDepth 100000 in
theorem gd_leaf {ns : List (List Int32)} {m : Nat} {l : List Int32} {kd : Int32} (hk : 0 ≤ kd.toInt ∧ kd.toInt ≤ 10) (hn : ¬ (kd = 9 ∨ kd = 10)) (h45 : ¬ (kd = 4 ∨ kd = 5)) (hl : l.length ≤ 256) (ho : okT l) : gdN ns (m, plF kd 0, l) := gd_pl (kd := kd) rfl rfl rfl h45 (ar_0 (kd := kd) rfl rfl hk hn) hl ho
set_option maxRecDepth 100000 in
theorem gd_val {ns : List (List Int32)} {m : Nat} {kd v : Int32} (hk : 0 ≤ kd.toInt ∧ kd.toInt ≤ 10) (hn : ¬ (kd = 9 ∨ kd = 10)) (h45 : ¬ (kd = 4 ∨ kd = 5)) : gdN ns (m, setN (plF kd 0) 8 v, []) := gd_pl (kd := kd) rfl rfl rfl h45 (ar_0 (kd := kd) rfl rfl hk hn) (Nat.zero_le _) (fun y hy => (by cases hy))
set_option maxRecDepth 100000 in
theorem fnd_r {u : List Int32} {ns : List (List Int32)} (hn : nsOk ns) : -1 ≤ (fndF u ns 0).toInt ∧ (fndF u ns 0).toInt ≤ 7 ∧ (fndF u ns 0).toInt < ns.length := by
  have h8 := hn.1
  rcases fnd_or u ns 0 with q | ⟨k, k1, k2, q⟩
  · rw [q]
    have : (-1 : Int32).toInt = -1 := by decide
    omega
  · rw [q, iOfNat (by omega)]
    omega
set_option maxRecDepth 100000 in
theorem m1_r {ns : List (List Int32)} : -1 ≤ (-1 : Int32).toInt ∧ (-1 : Int32).toInt ≤ 7 ∧ (-1 : Int32).toInt < (ns.length : Int) := by
  have : (-1 : Int32).toInt = -1 := by decide
  omega
set_option maxRecDepth 100000 in
theorem mCell_gd {t : List Int32} {ns : List (List Int32)} {F : List Fw} {m j : Nat} {x : Int32} (hF : ∀ f ∈ F, gdF ns f) (hx : -1 ≤ x.toInt ∧ x.toInt ≤ 7 ∧ x.toInt < ns.length) (hj : j ≤ t.length) : gdX ns (mCell t F m x j) := by
  unfold mCell
  by_cases g : cOk t j
  · rw [if_neg (fun z => b01_ne.mp z g)]
    obtain ⟨o1, o2, o3, o4, o5⟩ := cOk_b hj g
    exact gdX.one hF (gd_cl hx o1 o2 o3)
  · rw [if_pos (b01_ne.mpr g)]
    trivial
set_option maxRecDepth 100000 in
theorem mSh_gd {t : List Int32} {ns : List (List Int32)} {F : List Fw} {m f e : Nat} {x : Int32} {c : Nat ⊕ St} (h : gdX ns c) : gdX ns (mSh t F m x f e c) := by
  unfold mSh
  split
  · exact h
  · trivial
set_option maxRecDepth 100000 in
theorem dgG_b {t : List Int32} : ∀ (m p w v : Nat), dgG t m p w = some v → w ≤ v
  | 0, p, w, v, h => by
    cases h
    exact Nat.le_refl _
  | m + 1, p, w, v, h => by
    rw [dgG] at h
    split at h
    · cases h
    · have := dgG_b m _ _ _ h
      omega
set_option maxRecDepth 100000 in
theorem icR_b {t : List Int32} {i e w c : Nat} (h : icR t i e = some (w, c)) : (1 ≤ w ∧ w ≤ 1048576) ∧ 1 ≤ c ∧ c ≤ 16384 := by
  unfold icR at h
  by_cases g : lo t i e < 1 ∨ 3 < lo t i e ∨ e - i - lo t i e < 1 ∨ 7 < e - i - lo t i e ∨ t.getD (i + lo t i e) 0 = 48
  · rw [if_pos g] at h; cases h
  · rw [if_neg g] at h
    cases z : dgG t (e - i - lo t i e) (i + lo t i e) 0 with
    | none => rw [z] at h; cases h
    | some v =>
      rw [z] at h
      have h : (if 1048576 < v ∨ 16384 < cv4 t (lo t i e) i then none else some (v, cv4 t (lo t i e) i)) = some (w, c) := h
      by_cases g2 : 1048576 < v ∨ 16384 < cv4 t (lo t i e) i
      · rw [if_pos g2] at h; cases h
      · rw [if_neg g2] at h
        cases h
        have hL : ∀ q, q < lo t i e → isL (t.getD (i + q) 0) := fun q hq => lo_is (e := e) hq
        have hcb := cv4_b hL
        have h1 : 1 ≤ lo t i e := by omega
        have h9 : e - i - lo t i e = (e - i - lo t i e - 1) + 1 := by omega
        rw [h9, dgG] at z
        have n48 : ¬ t.getD (i + lo t i e) 0 = 48 := fun q => g (Or.inr (Or.inr (Or.inr (Or.inr q))))
        by_cases dd : isD (t.getD (i + lo t i e) 0)
        · rw [if_neg (fun q => b01_ne.mp q dd)] at z
          have := dgG_b _ _ _ _ z
          have d1 : 48 ≤ (t.getD (i + lo t i e) 0).toInt ∧ (t.getD (i + lo t i e) 0).toInt ≤ 57 := dd
          have d2 : ¬ (t.getD (i + lo t i e) 0).toInt = 48 := fun q => n48 (iEq.mpr q)
          have : 1 ≤ dv (t.getD (i + lo t i e) 0) := by unfold dv; omega
          refine ⟨⟨by omega, by omega⟩, hcb.2 (by omega), by omega⟩
        · rw [if_pos (b01_ne.mpr dd)] at z
          cases z
set_option maxRecDepth 100000 in
theorem mTok_gd {t : List Int32} {ns : List (List Int32)} {F : List Fw} {m i : Nat} (hn : nsOk ns) (hl : t.length ≤ 256) (ho : okT t) (hF : ∀ f ∈ F, gdF ns f) (hi : i < t.length) (hp : prB (t.getD i 0)) : gdX ns (mTok t ns F m i) := by
  have slok : ∀ a b, ((sl t a b).map gr).length ≤ 256 ∧ okT ((sl t a b).map gr) := fun a b => by
    refine ⟨?_, okT_gr (okT_sl ho)⟩
    rw [List.length_map]
    unfold sl
    rw [List.length_take, List.length_drop]
    omega
  unfold mTok
  by_cases c1 : isD (t.getD i 0) ∨ t.getD i 0 = 46
  · rw [if_pos (b01_t c1)]
    split
    · trivial
    · exact gdX.one hF (gd_leaf (by decide) (by decide) (by decide) (slok _ _).1 (slok _ _).2)
  · rw [if_neg (by rw [b01_f c1]; decide)]
    by_cases c2 : t.getD i 0 = 34
    · rw [if_pos c2]
      cases z : qtA t 34 i with
      | none => trivial
      | some p =>
        obtain ⟨u, e⟩ := p
        have h1 := okT_qt ho _ _ _ _ z
        have h2 := qtG_b (by decide) _ _ _ _ z
        exact gdX.one hF (gd_leaf (by decide) (by decide) (by decide) (by omega) h1.1)
    · rw [if_neg c2]
      by_cases c3 : t.getD i 0 = 35
      · rw [if_pos c3]
        split
        · trivial
        · exact gdX.one hF (gd_val (by decide) (by decide) (by decide))
      · rw [if_neg c3]
        by_cases c4 : t.getD i 0 = 39
        · rw [if_pos c4]
          unfold mPre
          cases z : qtA t 39 i with
          | none => trivial
          | some p =>
            obtain ⟨u, e⟩ := p
            by_cases g : t.getD e 0 = 33
            · simp only [if_pos g]
              have he : e < t.length := in_of (p := fun x => x = 33) (d := 0) (by decide) g
              exact mSh_gd (mCell_gd hF (fnd_r hn) (by omega))
            · simp only [if_neg g]
              trivial
        · rw [if_neg c4]
          by_cases c5 : t.getD i 0 = 36
          · rw [if_pos c5]
            exact mCell_gd hF m1_r (by omega)
          · rw [if_neg c5]
            have hw : gW (t.getD i 0) := by
              rcases hp with q | q | q | q | q | q | q
              · exact absurd (Or.inl q) c1
              · exact absurd (Or.inr q) c1
              · exact absurd q c2
              · exact absurd q c3
              · rcases q with q | q
                · exact Or.inl q
                · exact Or.inr (Or.inr (Or.inl q))
              · exact absurd q c5
              · exact absurd q c4
            obtain ⟨w1, w2, w3⟩ := wd_b (t := t) (i := i) (by omega)
            have w0 : i < wdE t i := by
              obtain ⟨g1, g2⟩ := cnt_y gW0 hw
              unfold wdE
              omega
            unfold mWord
            by_cases d1 : t.getD (wdE t i) 0 = 36
            · rw [if_pos d1]
              unfold mDol
              by_cases g : lo t i (wdE t i) < wdE t i - i ∨ 3 < lo t i (wdE t i) ∨ 16384 < cv4 t (lo t i (wdE t i)) i
              · rw [if_pos g]
                trivial
              · rw [if_neg g]
                have hd := dlR_b w2
                by_cases g2 : rowB t (wdE t i + dlR t (wdE t i))
                · rw [if_neg (fun z => b01_ne.mp z g2)]
                  obtain ⟨x1, x2, x3⟩ := rw_pos g2
                  obtain ⟨v1, v2, v3, v4⟩ := rwG_b (t := t) 300 (wdE t i + dlR t (wdE t i)) 0 (by omega) (by omega)
                  have hL : ∀ q, q < lo t i (wdE t i) → isL (t.getD (i + q) 0) := fun q hq => lo_is (e := wdE t i) hq
                  have hcb := cv4_b hL
                  exact gdX.one hF (gd_cl m1_r ⟨x2, v2⟩ ⟨hcb.2 (by omega), by omega⟩ (by omega))
                · rw [if_pos (b01_ne.mpr g2)]
                  trivial
            · rw [if_neg d1]
              by_cases d2 : t.getD (wdE t i) 0 = 33
              · rw [if_pos d2]
                have he : wdE t i < t.length := in_of (p := fun x => x = 33) (d := 0) (by decide) d2
                exact mSh_gd (mCell_gd hF (fnd_r hn) (by omega))
              · rw [if_neg d2]
                by_cases d3 : t.getD (wdE t i) 0 = 40
                · rw [if_pos d3]
                  unfold mCal
                  by_cases g : nO F = 32
                  · rw [if_pos g]
                    trivial
                  · rw [if_neg g]
                    refine ⟨fun f hf => ?_, fun q hq => (by cases hq)⟩
                    rcases List.mem_cons.mp hf with q | q
                    · subst q
                      exact Or.inr ⟨Or.inl rfl, fun w hw => rfl, fun _ => rfl, (slok _ _).1, (slok _ _).2, fun z => absurd z (by decide : ¬ (7 : Int32) = 10), fun z => by unfold isB at z; exact absurd z (by decide : ¬ (11 ≤ (7 : Int32).toInt ∧ (7 : Int32).toInt ≤ 22)), Nat.zero_le _, fun q hq => (by cases hq)⟩
                    · exact hF f q
                · rw [if_neg d3]
                  cases z : icR t i (wdE t i) with
                  | some p =>
                    obtain ⟨w, c⟩ := p
                    have := icR_b z
                    exact gdX.one hF (gd_cl (f := 0) m1_r this.1 this.2 (by decide))
                  | none =>
                    show gdX ns (mNam t F m i (wdE t i))
                    unfold mNam
                    refine gdX.one hF ?_
                    split
                    · split
                      · exact gd_leaf (by decide) (by decide) (by decide) (slok _ _).1 (slok _ _).2
                      · exact gd_val (by decide) (by decide) (by decide)
                    · exact gd_val (by decide) (by decide) (by decide)
set_option maxRecDepth 100000 in
theorem mOpd_gd {t : List Int32} {ns : List (List Int32)} {F : List Fw} {i : Nat} {fr : Int32} (hn : nsOk ns) (hl : t.length ≤ 256) (ho : okT t) (hF : ∀ f ∈ F, gdF ns f) (hi : i < t.length) (hfr : fr = 1 → ∃ f F0, F = f :: F0 ∧ f.1 = 7) : gdX ns (mOpd t ns i F fr) := by
  unfold mOpd
  by_cases c1 : t.getD i 0 = 43
  · rw [if_pos c1]
    exact ⟨hF, fun q hq => (by cases hq)⟩
  · rw [if_neg c1]
    by_cases c2 : t.getD i 0 = 45
    · rw [if_pos c2]
      split
      · trivial
      · refine ⟨fun f hf => ?_, fun q hq => (by cases hq)⟩
        rcases List.mem_cons.mp hf with q | q
        · subst q
          exact Or.inr ⟨Or.inr (Or.inl rfl), fun w hw => rfl, fun z => absurd z (by decide : ¬ (10 : Int32) = 7), Nat.zero_le _, fun y hy => (by cases hy), fun _ => rfl, fun z => by unfold isB at z; exact absurd z (by decide : ¬ (11 ≤ (10 : Int32).toInt ∧ (10 : Int32).toInt ≤ 22)), Nat.zero_le _, fun q hq => (by cases hq)⟩
        · exact hF f q
    · rw [if_neg c2]
      by_cases c3 : t.getD i 0 = 40
      · rw [if_pos c3]
        split
        · trivial
        · refine ⟨fun f hf => ?_, fun q hq => (by cases hq)⟩
          rcases List.mem_cons.mp hf with q | q
          · subst q
            exact Or.inl rfl
          · exact hF f q
      · rw [if_neg c3]
        by_cases c4 : t.getD i 0 = 41 ∧ fr = 1
        · rw [if_pos c4]
          obtain ⟨f, F0, rfl, f7⟩ := hfr c4.2
          have hf := (hF f List.mem_cons_self).resolve_left (by rw [f7]; decide)
          obtain ⟨a1, a2, a3, a4, a5, a6, a7, a8, a9⟩ := hf
          refine ⟨fun q hq => hF q (List.mem_cons_of_mem _ hq), fun q hq => ?_⟩
          rcases List.mem_cons.mp hq with z | z
          · rw [z]
            have e0 : f.2.1.2.1 0 = 7 := by
              rw [a2 0 (by decide), f7]
              rfl
            have e1 := a3 f7
            have e2 : f.2.1.2.1 2 = -1 := a2 2 (by decide)
            have e7 : f.2.1.2.1 7 = 0 := a2 7 (by decide)
            refine gd_pl (kd := 7) e0 e2 e7 (by decide) ⟨by rw [e0]; decide, fun y => absurd (by rw [e0] at y; exact y) (by decide : ¬ ((7 : Int32) = 9 ∨ (7 : Int32) = 10)), fun y => by rw [e0] at y; exact absurd y (by decide), fun y => absurd (Or.inl e0) y, by rw [e1, iOfNat (by omega)]; omega, by rw [e1, iOfNat (by omega)]; omega⟩ a4 a5
          · rw [List.append_nil] at z
            exact a9 q z
        · rw [if_neg c4]
          by_cases c5 : (t.getD i 0 = 41 ∨ t.getD i 0 = 44) ∧ ¬ fr ≤ 0
          · rw [if_pos c5]
            split
            · trivial
            · exact gdX.one hF (gd_leaf (by decide) (by decide) (by decide) (Nat.zero_le _) (fun y hy => (by cases hy)))
          · rw [if_neg c5]
            unfold mPrim
            by_cases g : b01 (prB (t.getD i 0)) = 0 ∨ (fl F).length = 128
            · rw [if_pos g]
              trivial
            · rw [if_neg g]
              exact mTok_gd hn hl ho hF hi (Classical.byContradiction fun q => g (Or.inl (b01_ne.mpr q)))
set_option maxRecDepth 100000 in
theorem mBeh_gd {t : List Int32} {ns : List (List Int32)} {F : List Fw} {i lc : Nat} {cur : List NN} (h : MI ns F cur) (hi : i < t.length) (hlc : lc = 1 → ∃ n, cur = [n] ∧ n.2.1 0 = 4) : gdX ns (mBeh t i F cur lc) := by
  unfold mBeh
  by_cases c1 : t.getD i 0 = 58 ∧ lc = 1
  · rw [if_pos c1]
    obtain ⟨n, rfl, h4⟩ := hlc c1.2
    have hb := sk_b (t := t) (i := i + 1) (by omega)
    by_cases g : cOk t (skS t (i + 1))
    · simp only [if_neg (fun z => b01_ne.mp z g)]
      obtain ⟨o1, o2, o3, o4, o5⟩ := cOk_b hb.2 g
      exact gdX.one h.1 (gd_rg (h.2 n List.mem_cons_self) h4 o1 o2 o3)
    · simp only [if_pos (b01_ne.mpr g)]
      trivial
  · rw [if_neg c1]
    have hr0 := gd_rd (x := 0) F cur h
    by_cases c2 : t.getD i 0 = 41 ∧ ¬ nO F = 0
    · rw [if_pos c2]
      cases hq : (rdF 0 F cur).1 with
      | nil => trivial
      | cons f F0 =>
        rw [hq] at hr0
        refine ⟨fun q z => hr0.1 q (List.mem_cons_of_mem _ z), fun q z => ?_⟩
        have z : q ∈ clC f (rdF 0 F cur).2 := z
        unfold clC at z
        by_cases f7 : f.1 = 7
        · rw [if_pos f7] at z
          have hf := hr0.1 f List.mem_cons_self
          have n100 : f.1 ≠ 100 := by rw [f7]; decide
          rcases List.mem_cons.mp z with y | y
          · rw [y]
            exact gd_up hf n100
          · rcases List.mem_append.mp y with y | y
            · exact (hf.resolve_left n100).2.2.2.2.2.2.2.2 q y
            · exact hr0.2 q y
        · rw [if_neg f7] at z
          exact hr0.2 q z
    · rw [if_neg c2]
      by_cases c3 : t.getD i 0 = 44 ∧ inM F = 7
      · rw [if_pos c3]
        rcases rd_in F cur with ⟨y1, y2, -⟩ | ⟨f, F0, y1, y2, y3, -, -⟩
        · rw [c3.2] at y2
          exact absurd y2 (by decide)
        · rw [y1] at hr0
          rw [y1]
          have f7 : f.1 = 7 := by rw [← y3]; exact c3.2
          by_cases g : f.2.2.2.length = 29
          · simp only [if_pos g]
            trivial
          · simp only [if_neg g]
            refine ⟨fun q z => ?_, fun q z => (by cases z)⟩
            rcases List.mem_cons.mp z with y | y
            · rw [y]
              have hf := hr0.1 f List.mem_cons_self
              have n100 : f.1 ≠ 100 := by rw [f7]; decide
              obtain ⟨a1, a2, a3, a4, a5, a6, a7, a8, a9⟩ := hf.resolve_left n100
              refine Or.inr ⟨a1, fun w hw => ?_, fun _ => ?_, a4, a5, fun w => ?_, fun w => ?_, ?_, fun w hw => ?_⟩
              · show setN f.2.1.2.1 1 (Int32.ofNat (f.2.2.2.length + 1)) w = plF f.1 0 w
                rw [show setN f.2.1.2.1 1 (Int32.ofNat (f.2.2.2.length + 1)) w = f.2.1.2.1 w from if_neg hw]
                exact a2 w hw
              · show setN f.2.1.2.1 1 (Int32.ofNat (f.2.2.2.length + 1)) 1 = Int32.ofNat (f.2.2.2 ++ [hdI (rdF 0 F cur).2]).length
                rw [List.length_append]
                rfl
              · have w : f.1 = 10 := w
                rw [f7] at w
                exact absurd w (by decide)
              · have w : isB f.1 := w
                rw [f7] at w
                unfold isB at w
                exact absurd w (by decide)
              · show (f.2.2.2 ++ [hdI (rdF 0 F cur).2]).length ≤ 29
                rw [List.length_append]
                show f.2.2.2.length + 1 ≤ 29
                omega
              · have hw : w ∈ f.2.2.1 ++ (rdF 0 F cur).2 := hw
                rcases List.mem_append.mp hw with v | v
                · exact a9 w v
                · exact hr0.2 w v
            · exact hr0.1 q (List.mem_cons_of_mem _ y)
      · rw [if_neg c3]
        by_cases c4 : t.getD i 0 = 37 ∧ (fl F ++ cur).length < 128
        · rw [if_pos c4]
          refine ⟨h.1, fun q z => ?_⟩
          rcases List.mem_cons.mp z with y | y
          · rw [y]
            exact gd_pl (kd := 9) rfl rfl rfl (by decide) ⟨by decide, fun _ => rfl, fun w => absurd w (by decide), fun w => absurd (Or.inr (Or.inl rfl)) w, by decide, by decide⟩ (Nat.zero_le _) (fun y hy => (by cases hy))
          · exact h.2 q y
        · rw [if_neg c4]
          by_cases c5 : ¬ (opk (t.getD i 0) (t.getD (i + 1) 0)).1 = 0 ∧ (fl F ++ cur).length < 128
          · rw [if_pos c5]
            rcases opk_in (t.getD i 0) (t.getD (i + 1) 0) with y | y
            · exact absurd (by rw [y]) c5.1
            · have o := opX_f _ y
              generalize opk (t.getD i 0) (t.getD (i + 1) 0) = p at *
              have hr1 := gd_rd (x := rkM (Int32.ofNat p.1)) F cur h
              refine ⟨fun q z => ?_, fun q z => (by cases z)⟩
              rcases List.mem_cons.mp z with v | v
              · rw [v]
                have hB : isB (Int32.ofNat p.1) := o.2.2.2.1
                refine Or.inr ⟨Or.inr (Or.inr hB), fun w hw => rfl, fun w => ?_, Nat.zero_le _, fun y hy => (by cases hy), fun w => ?_, fun _ => rfl, by show 1 ≤ 29; decide, hr1.2⟩
                · have w : Int32.ofNat p.1 = 7 := w
                  rw [w] at hB
                  unfold isB at hB
                  exact absurd hB (by decide)
                · have w : Int32.ofNat p.1 = 10 := w
                  rw [w] at hB
                  unfold isB at hB
                  exact absurd hB (by decide)
              · exact hr1.1 q v
          · rw [if_neg c5]
            trivial
end
section
/-! what was read is right -/
set_option maxRecDepth 100000 in
theorem mRun_gd {t : List Int32} {ns : List (List Int32)} (hn : nsOk ns) (hl : t.length ≤ 256) (ho : okT t) : ∀ (m : Nat) (z : St) (q : List Fw × List NN), z.1 ≤ t.length → (z.2.2.1.isEmpty = true → z.2.2.2.2 = 0 ∧ (z.2.2.2.1 = 1 → ∃ f F0, z.2.1 = f :: F0 ∧ f.1 = 7)) → (z.2.2.2.2 = 1 → ∃ n, z.2.2.1 = [n] ∧ n.2.1 0 = 4) → MI ns z.2.1 z.2.2.1 → mRun t ns m z = .inr q → MI ns q.1 q.2
  | 0, z, q, _, _, _, _, h => by cases h
  | m + 1, z, q, h1, h2, h3, h4, h => by
    have hb := sk_b h1
    rw [mRun] at h
    by_cases he : t.length ≤ skS t z.1
    · rw [if_pos he] at h
      by_cases g : z.2.2.1.isEmpty = true ∨ ¬ nO z.2.1 = 0
      · rw [if_pos g] at h; cases h
      · rw [if_neg g] at h
        cases h
        exact h4
    · rw [if_neg he] at h
      have key : stOk t (skS t z.1) z.2.2.1.isEmpty (if z.2.2.1.isEmpty = true then mOpd t ns (skS t z.1) z.2.1 z.2.2.2.1 else mBeh t (skS t z.1) z.2.1 z.2.2.1 z.2.2.2.2) ∧ gdX ns (if z.2.2.1.isEmpty = true then mOpd t ns (skS t z.1) z.2.1 z.2.2.2.1 else mBeh t (skS t z.1) z.2.1 z.2.2.1 z.2.2.2.2) := by
        by_cases c : z.2.2.1.isEmpty = true
        · rw [if_pos c, c]
          exact ⟨mOpd_ok ho (by omega), mOpd_gd hn hl ho h4.1 (by omega) (h2 c).2⟩
        · rw [if_neg c, nE_of c]
          exact ⟨mBeh_ok (by omega) (fun q => c (emp_iff.mpr q)), mBeh_gd h4 (by omega) h3⟩
      generalize (if z.2.2.1.isEmpty = true then mOpd t ns (skS t z.1) z.2.1 z.2.2.2.1 else mBeh t (skS t z.1) z.2.1 z.2.2.1 z.2.2.2.2) = X at h key
      cases X with
      | inl p => cases h
      | inr z' =>
        obtain ⟨⟨c1, c2, c3, c4, c5, c6⟩, k2⟩ := key
        exact mRun_gd hn hl ho m z' q c2 c5 c6 k2 h
set_option maxRecDepth 100000 in
theorem mRd_gd {t : List Int32} {ns : List (List Int32)} {L : List NN} (hn : nsOk ns) (hl : t.length ≤ 256) (ho : okT t) (h : mRd t ns = .inr L) : ∀ n ∈ L, gdN ns n := by
  unfold mRd at h
  cases hq : mRun t ns 600 (0, [], [], 0, 0) with
  | inl p => rw [hq] at h; cases h
  | inr q =>
    rw [hq] at h
    have h : (Sum.inr (rdF 0 q.1 q.2).2 : Nat ⊕ List NN) = .inr L := h
    cases h
    have := mRun_gd hn hl ho 600 (0, [], [], 0, 0) q (Nat.zero_le _) (fun _ => ⟨rfl, fun z => absurd z (by decide : ¬ (0 : Int32) = 1)⟩) (fun z => (by cases z)) ⟨fun f hf => (by cases hf), fun n hn => (by cases hn)⟩ hq
    exact (gd_rd (x := 0) q.1 q.2 this).2
end
section
/-! the reader of FormulaTrees comes to its end: what is so while it reads -/
def AC (b a k : Nat) : Prop := a = b ∨ a = b + 1 ∨ a = b + 2 ∨ a = b + 3 ∨ (107 ≤ a ∧ a ≤ 116) ∨ (a = 106 ∧ 7 ≤ k)
def ES (s : aS) : Prop := ∀ e, 1 ≤ e → e < 8 → ST s (19 + 2 * e) (erN e) ∧ aK s (19 + 2 * e) 70
set_option maxRecDepth 100000 in
theorem ES.ly {tt : Nat} {xs : List Int32} {s : aS} (h : Ly tt (cCc xs) s) : ES s := by
  intro e h1 h2
  match e, h1, h2 with
  | 1, _, _ => exact ⟨ST.ly h 10 (by decide), Lay.lowK h (by decide) (by decide)⟩
  | 2, _, _ => exact ⟨ST.ly h 11 (by decide), Lay.lowK h (by decide) (by decide)⟩
  | 3, _, _ => exact ⟨ST.ly h 12 (by decide), Lay.lowK h (by decide) (by decide)⟩
  | 4, _, _ => exact ⟨ST.ly h 13 (by decide), Lay.lowK h (by decide) (by decide)⟩
  | 5, _, _ => exact ⟨ST.ly h 14 (by decide), Lay.lowK h (by decide) (by decide)⟩
  | 6, _, _ => exact ⟨ST.ly h 15 (by decide), Lay.lowK h (by decide) (by decide)⟩
  | 7, _, _ => exact ⟨ST.ly h 16 (by decide), Lay.lowK h (by decide) (by decide)⟩
def KS (s : aS) (b : Nat) (t : List Int32) (ns : List (List Int32)) : Prop := (LT s 79 t ∧ t.length ≤ 256 ∧ okT t ∧ (sT s 80).2 = 256) ∧ (sR s 106 6 = .ref b ∧ aK s b 3 ∧ (b = 102 ∨ 149 ≤ b) ∧ (sT s (b + 3)).2 = 256 ∧ (sT s 108).2 = 256) ∧ SC s ns ∧ nsOk ns ∧ RC s ∧ TF s ∧ ES s
set_option maxRecDepth 100000 in
theorem KS.of {s s1 : aS} {b : Nat} {t : List Int32} {ns : List (List Int32)} (h : KS s b t ns) (g : ch (AC b) s s1) : KS s1 b t ns := by
  obtain ⟨⟨a1, a2, a3, a4⟩, ⟨b1, b2, b3, b4, b5⟩, c1, c2, c3, c4, c5⟩ := h
  have hlow : ∀ a k, AC b a k → 78 ≤ a := fun a k z => by unfold AC at z; omega
  refine ⟨⟨a1.of g (by unfold AC; omega) (fun j => by unfold AC; omega), a2, a3, by rw [g.2.1]; exact a4⟩, ⟨(g.r (by unfold AC; omega)).trans b1, g.k.mpr b2, b3, by rw [g.2.1]; exact b4, by rw [g.2.1]; exact b5⟩, ⟨(g.i (by unfold AC; omega)).trans c1.1, fun i hi => ?_⟩, c2, c3.of g, c4.of g hlow, fun e h1 h2 => ⟨(c5 e h1 h2).1.of (by omega) g hlow, g.k.mpr (c5 e h1 h2).2⟩⟩
  have h8 := c2.1
  exact (c1.2 i hi).of g (by unfold AC; omega) (fun j => by unfold AC; omega)
/-- the tree so far, and the other parts of the reader -/
def KD (s : aS) (b i : Nat) : Prop := (∃ N u, N ≤ 128 ∧ sI s b 2 = Int32.ofNat N ∧ TL s b u ∧ u.length ≤ i ∧ ∀ k, k < N → ∃ l, NL s b k u l ∧ okT l) ∧ (∃ hd, LT s 107 hd ∧ hd.length ≤ 256 ∧ okT hd) ∧ (∃ m, m ≤ 128 ∧ sI s 110 2 = Int32.ofNat m) ∧ ∃ o, o ≤ 32 ∧ sI s 113 3 = Int32.ofNat o
def KW (s0 s : aS) (b i z9 : Nat) : Prop := ch (AC b) s0 s ∧ sI s 106 7 = Int32.ofNat i ∧ KD s b z9
/-- what may change without touching the tree, the letters and the counts -/
def AF (a k : Nat) : Prop := (a = 106 ∧ 8 ≤ k) ∨ a = 109 ∨ a = 111 ∨ a = 112 ∨ a = 114 ∨ a = 115 ∨ a = 116
set_option maxRecDepth 100000 in
theorem KD.of {s s1 : aS} {b i j : Nat} (h : KD s b i) (hb : b = 102 ∨ 149 ≤ b) (g : ch (fun a k => AF a k ∨ a = 106) s s1) (hij : i ≤ j) : KD s1 b j := by
  obtain ⟨⟨N, u, a1, a2, a3, a4, a5⟩, ⟨hd, b1, b2, b3⟩, ⟨m, c1, c2⟩, o, d1, d2⟩ := h
  refine ⟨⟨N, u, a1, (g.i (by unfold AF; omega)).trans a2, a3.of g (by unfold AF; omega) (fun k => by unfold AF; omega), by omega, fun k hk => ?_⟩, ⟨hd, b1.of g (by unfold AF; omega) (fun k => by unfold AF; omega), b2, b3⟩, ⟨m, c1, (g.i (by unfold AF; omega)).trans c2⟩, o, d1, (g.i (by unfold AF; omega)).trans d2⟩
  obtain ⟨l, ⟨st, e1, e2, e3, e4⟩, e5⟩ := a5 k hk
  exact ⟨l, ⟨st, (g.i (by unfold AF; omega)).trans e1, (g.i (by unfold AF; omega)).trans e2, e3, e4⟩, e5⟩
set_option maxRecDepth 100000 in
theorem KW.f {s0 s s1 : aS} {b i z9 : Nat} (h : KW s0 s b i z9) (hb : b = 102 ∨ 149 ≤ b) (g : ch AF s s1) : KW s0 s1 b i z9 := ⟨h.1.trans (g.mono fun a k z => by unfold AF at z; unfold AC; omega), (g.i (by unfold AF; omega)).trans h.2.1, h.2.2.of hb (g.mono fun a k z => Or.inl z) (Nat.le_refl _)⟩
set_option maxRecDepth 100000 in
theorem KW.at {s0 s : aS} {b i j z9 : Nat} (h : KW s0 s b i z9) (hb : b = 102 ∨ 149 ≤ b) : KW s0 (wI s 106 7 (Int32.ofNat j)) b j z9 := ⟨h.1.wI (by unfold AC; omega), by rw [sI_wI, if_pos ⟨rfl, rfl⟩], h.2.2.of hb ((ch.refl _ s).wI (Or.inr rfl)) (Nat.le_refl _)⟩
set_option maxRecDepth 100000 in
theorem KW.up {s0 s : aS} {b i z z9 : Nat} (h : KW s0 s b i z9) (hb : b = 102 ∨ 149 ≤ b) (hz : z9 ≤ z) : KW s0 s b i z := ⟨h.1, h.2.1, h.2.2.of hb (ch.refl _ s) hz⟩
/-- how a method comes to its end -/
def KO (s0 : aS) (b i e : Nat) (D : Option aS) : Prop := ∃ s' j, D = some s' ∧ KW s0 s' b j j ∧ i ≤ j ∧ j ≤ e
set_option maxRecDepth 100000 in
theorem KO.s {s0 s : aS} {b i j e : Nat} (h : KW s0 s b j j) (h1 : i ≤ j) (h2 : j ≤ e) : KO s0 b i e (some s) := ⟨s, j, rfl, h, h1, h2⟩
set_option maxRecDepth 100000 in
theorem KO.b {s0 : aS} {b i e : Nat} {D : Option aS} {K : aS → Option aS} (h : KO s0 b i e D) (k : ∀ s1 j, KW s0 s1 b j j → i ≤ j → j ≤ e → KO s0 b i e (K s1)) : KO s0 b i e (bu D K) := by
  obtain ⟨s', j, h1, h2, h3, h4⟩ := h
  rw [h1]
  exact k s' j h2 h3 h4
set_option maxRecDepth 100000 in
theorem KO.m {s0 : aS} {b i j e : Nat} {D : Option aS} (h : KO s0 b j e D) (h1 : i ≤ j) : KO s0 b i e D := by
  obtain ⟨s', k, a1, a2, a3, a4⟩ := h
  exact ⟨s', k, a1, a2, by omega, a4⟩
section KK
variable {s0 s : aS} {b i z9 : Nat} {t : List Int32} {ns : List (List Int32)}
set_option maxRecDepth 100000 in
theorem kch (h0 : KS s0 b t ns) (h : KW s0 s b i z9) {j : Nat} (hj : j < 100000) : dm34 79 (Int32.ofNat j) s = some (t.getD j (-1)) := by
  have hs := h0.of h.1
  exact d34 hs.1.1 (by rw [hs.1.2.2.2]; exact hs.1.2.1) (by have := hs.1.2.1; omega) (by omega)
set_option maxRecDepth 100000 in
theorem klen (h0 : KS s0 b t ns) (h : KW s0 s b i z9) : dm28 79 s = some (Int32.ofNat t.length) := by
  unfold dm28
  rw [(h0.of h.1).1.1.n]
set_option maxRecDepth 100000 in
theorem kin {p : Int32 → Prop} {j : Nat} (h0 : ¬ p (-1)) (h : p (t.getD j (-1))) : j < t.length := in_of h0 h
set_option maxRecDepth 100000 in
/-- spaces -/
theorem k67 (h0 : KS s0 b t ns) (h : KW s0 s b i i) (hi : i ≤ t.length) : KO s0 b i t.length (dm67 s) := by
  have hl := h0.1.2.1
  have hb := h0.2.1.2.2.1
  have loop : ∀ (m i n : Nat) (s : aS), KW s0 s b i i → t.length ≤ i + m → i ≤ t.length → m < n → KO s0 b i t.length (dm67_0 n s) := by
    intro m
    induction m with
    | zero =>
      intro i n s h h1 h2 h3
      obtain ⟨n, rfl⟩ : ∃ q, n = q + 1 := ⟨n - 1, by omega⟩
      rw [dm67_0, klen h0 h, h.2.1]
      simp only [bu_some]
      rw [if_pos ((nle_iff (by omega) (by omega)).mpr (by omega))]
      exact KO.s h (Nat.le_refl _) h2
    | succ m ih =>
      intro i n s h h1 h2 h3
      obtain ⟨n, rfl⟩ : ∃ q, n = q + 1 := ⟨n - 1, by omega⟩
      rw [dm67_0, klen h0 h, h.2.1, kch h0 h (by omega)]
      simp only [bu_some, nx_eq]
      by_cases c : t.length ≤ i
      · rw [if_pos ((nle_iff (by omega) (by omega)).mpr c)]
        exact KO.s h (Nat.le_refl _) h2
      · rw [if_neg (fun q => c ((nle_iff (by omega) (by omega)).mp q))]
        split
        · rw [ofNat_succ (by omega)]
          exact (ih (i + 1) n _ ((h.at hb).up hb (by omega)) (by omega) (by omega) (by omega)).m (by omega)
        · exact KO.s h (Nat.le_refl _) h2
  exact loop t.length i 5000 s h (by omega) hi (by omega)
set_option maxRecDepth 100000 in
/-- room for a node -/
theorem k70 (h0 : KS s0 b t ns) (h : KW s0 s b i z9) (x : Int32) : ∃ v s', dm70 x s = some (v, s') ∧ KW s0 s' b i z9 ∧ ch (fun a k => a = 106 ∧ k = 8) s s' := by
  have hb := h0.2.1.2.2.1
  have hs := h0.of h.1
  unfold dm70 dm70_7 dm71
  rw [hs.2.1.1, vN_ref, if_pos hs.2.1.2.1]
  split
  · simp only [bu_some]
    rw [if_pos trivial, if_neg (by decide), if_pos (Or.inr trivial)]
    exact ⟨1, s, rfl, h, ch.refl _ s⟩
  · simp only [bu_some]
    rw [if_neg (by decide), if_pos trivial, nx_eq, if_pos (Or.inl trivial)]
    have hc : ch (fun a k => a = 106 ∧ k = 8) s (wI s 106 8 x) := (ch.refl _ s).wI ⟨rfl, rfl⟩
    exact ⟨0, _, rfl, h.f hb (hc.mono fun a k z => by unfold AF; omega), hc⟩
set_option maxRecDepth 100000 in
theorem ktr (h0 : KS s0 b t ns) (h : KW s0 s b i z9) {β : Type} {x : Option β} {f : Nat → Option β} : vN (sR s 106 6) x f = f b ∧ aK s b 3 := by
  have hs := h0.of h.1
  rw [hs.2.1.1, vN_ref]
  exact ⟨rfl, hs.2.1.2.1⟩
set_option maxRecDepth 100000 in
/-- brackets and operators that wait -/
theorem k74 (h : KW s0 s b i z9) : ∃ v, dm74 s = some v := by
  obtain ⟨-, -, -, -, -, o, o1, o2⟩ := h
  unfold dm74
  rw [o2]
  by_cases c : o = 0
  · subst c
    rw [if_pos (by decide)]
    exact ⟨_, rfl⟩
  · have e : Int32.ofNat o - 1 = Int32.ofNat (o - 1) := ofNat_sub1 (by omega) (by omega)
    rw [if_neg (fun q => by have := (nle_iff (b := 0) (by omega) (by omega)).mp q; omega), e, if_pos (aB_of (by omega) (by omega))]
    exact ⟨_, rfl⟩
set_option maxRecDepth 100000 in
theorem k78 (h : KW s0 s b i z9) : ∃ v, dm78 s = some v := by
  obtain ⟨-, -, -, -, -, o, o1, o2⟩ := h
  unfold dm78
  rw [o2]
  by_cases c : o = 0
  · subst c
    rw [if_pos (by decide)]
    exact ⟨_, rfl⟩
  · have e : Int32.ofNat o - 1 = Int32.ofNat (o - 1) := ofNat_sub1 (by omega) (by omega)
    rw [if_neg (fun q => by have := (nle_iff (b := 0) (by omega) (by omega)).mp q; omega), e, if_pos (aB_of (by omega) (by omega))]
    exact ⟨_, rfl⟩
set_option maxRecDepth 100000 in
theorem k79 (h : KW s0 s b i z9) : ∃ v, dm79 s = some v := by
  obtain ⟨-, -, -, -, -, o, o1, o2⟩ := h
  unfold dm79
  rw [o2]
  by_cases c : o = 0
  · subst c
    rw [if_pos (by decide)]
    exact ⟨_, rfl⟩
  · have e : Int32.ofNat o - 1 = Int32.ofNat (o - 1) := ofNat_sub1 (by omega) (by omega)
    rw [if_neg (fun q => by have := (nle_iff (b := 0) (by omega) (by omega)).mp q; omega), e, if_pos (aB_of (by omega) (by omega))]
    exact ⟨_, rfl⟩
set_option maxRecDepth 100000 in
theorem k73 (h : KW s0 s b i z9) : ∃ v, dm73 s = some v := by
  obtain ⟨v, e⟩ := k74 h
  unfold dm73
  rw [e]
  simp only [bu_some]
  split <;> exact ⟨_, rfl⟩
set_option maxRecDepth 100000 in
theorem k76 (hb : b = 102 ∨ 149 ≤ b) (h : KW s0 s b i z9) : ∃ s', dm76 s = some s' ∧ KW s0 s' b i z9 := by
  obtain ⟨-, -, -, -, -, o, o1, o2⟩ := id h
  unfold dm76
  rw [o2]
  by_cases c : o = 0
  · subst c
    rw [if_pos (by decide)]
    exact ⟨s, rfl, h⟩
  · have e : Int32.ofNat o - 1 = Int32.ofNat (o - 1) := ofNat_sub1 (by omega) (by omega)
    rw [if_neg (fun q => by have := (nle_iff (b := 0) (by omega) (by omega)).mp q; omega), e, if_pos (aB_of (by omega) (by omega)), if_pos (aB_of (by omega) (by omega))]
    exact ⟨_, rfl, h.f hb ((ch.refl _ s).wI (by unfold AF; omega))⟩
set_option maxRecDepth 100000 in
/-- the count of what waits, or of brackets, becomes another -/
theorem KW.p {s0 s : aS} {b i m z9 : Nat} (h : KW s0 s b i z9) (hb : b = 102 ∨ 149 ≤ b) (hm : m ≤ 128) : KW s0 (wI s 110 2 (Int32.ofNat m)) b i z9 := by
  obtain ⟨g1, g2, ⟨N, u, a1, a2, a3, a4, a5⟩, ⟨hd, b1, b2, b3⟩, ⟨m0, c1, c2⟩, o, d1, d2⟩ := h
  have g : ch (fun a k => a = 110 ∧ k = 2) s (wI s 110 2 (Int32.ofNat m)) := (ch.refl _ s).wI ⟨rfl, rfl⟩
  refine ⟨g1.wI (by unfold AC; omega), (g.i (by omega)).trans g2, ⟨N, u, a1, (g.i (by omega)).trans a2, a3.of g (by omega) (fun k => by omega), a4, fun k hk => ?_⟩, ⟨hd, b1.of g (by omega) (fun k => by omega), b2, b3⟩, ⟨m, hm, by rw [sI_wI, if_pos ⟨rfl, rfl⟩]⟩, o, d1, (g.i (by omega)).trans d2⟩
  obtain ⟨l, ⟨st, e1, e2, e3, e4⟩, e5⟩ := a5 k hk
  exact ⟨l, ⟨st, (g.i (by omega)).trans e1, (g.i (by omega)).trans e2, e3, e4⟩, e5⟩
set_option maxRecDepth 100000 in
theorem KW.o {s0 s : aS} {b i o z9 : Nat} (h : KW s0 s b i z9) (hb : b = 102 ∨ 149 ≤ b) (ho : o ≤ 32) : KW s0 (wI s 113 3 (Int32.ofNat o)) b i z9 := by
  obtain ⟨g1, g2, ⟨N, u, a1, a2, a3, a4, a5⟩, ⟨hd, b1, b2, b3⟩, ⟨m0, c1, c2⟩, o0, d1, d2⟩ := h
  have g : ch (fun a k => a = 113 ∧ k = 3) s (wI s 113 3 (Int32.ofNat o)) := (ch.refl _ s).wI ⟨rfl, rfl⟩
  refine ⟨g1.wI (by unfold AC; omega), (g.i (by omega)).trans g2, ⟨N, u, a1, (g.i (by omega)).trans a2, a3.of g (by omega) (fun k => by omega), a4, fun k hk => ?_⟩, ⟨hd, b1.of g (by omega) (fun k => by omega), b2, b3⟩, ⟨m0, c1, (g.i (by omega)).trans c2⟩, o, ho, by rw [sI_wI, if_pos ⟨rfl, rfl⟩]⟩
  obtain ⟨l, ⟨st, e1, e2, e3, e4⟩, e5⟩ := a5 k hk
  exact ⟨l, ⟨st, (g.i (by omega)).trans e1, (g.i (by omega)).trans e2, e3, e4⟩, e5⟩
set_option maxRecDepth 100000 in
theorem k65 (hb : b = 102 ∨ 149 ≤ b) (h : KW s0 s b i z9) (x : Int32) : ∃ s', dm65 x s = some s' ∧ KW s0 s' b i z9 := by
  obtain ⟨-, -, -, -, ⟨m, m1, m2⟩, -⟩ := id h
  unfold dm65
  by_cases c1 : x < 0
  · rw [if_pos c1]
    exact ⟨s, rfl, h⟩
  · rw [if_neg c1, m2]
    by_cases c2 : Int32.ofNat m ≤ x
    · rw [if_pos c2]
      exact ⟨s, rfl, h⟩
    · rw [if_neg c2]
      have z1 : ¬ x.toInt < 0 := fun q => c1 (iLt.mpr q)
      have z2 : ¬ (m : Int) ≤ x.toInt := fun q => c2 (iLe.mpr (by rw [iOfNat (by omega)]; exact q))
      have ex : x = Int32.ofNat x.toInt.toNat := ofNat_of (by omega)
      refine ⟨_, rfl, ?_⟩
      rw [ex]
      exact h.p hb (by omega)
set_option maxRecDepth 100000 in
theorem k80 (hb : b = 102 ∨ 149 ≤ b) (h : KW s0 s b i z9) : ∃ s', dm80 s = some s' ∧ KW s0 s' b i z9 := by
  obtain ⟨-, -, -, -, -, o, o1, o2⟩ := id h
  unfold dm80
  rw [o2]
  by_cases c : o = 0
  · subst c
    rw [if_pos (by decide)]
    exact ⟨s, rfl, h⟩
  · have e : Int32.ofNat o - 1 = Int32.ofNat (o - 1) := ofNat_sub1 (by omega) (by omega)
    rw [if_neg (fun q => by have := (nle_iff (b := 0) (by omega) (by omega)).mp q; omega), nx_eq, e]
    exact ⟨_, rfl, h.o hb (by omega)⟩
set_option maxRecDepth 100000 in
theorem k86 (hb : b = 102 ∨ 149 ≤ b) (h : KW s0 s b i z9) (x1 x2 x3 : Int32) : ∃ v s', dm86 x1 x2 x3 s = some (v, s') ∧ KW s0 s' b i z9 := by
  have loop : ∀ (m n : Nat) (s : aS) (x4 : Int32), KW s0 s b i z9 → sI s 110 2 = Int32.ofNat m → m ≤ 128 → m < n → ∃ v s', dm86_2 n x1 x2 x4 s = some (v, s') ∧ KW s0 s' b i z9 := by
    intro m
    induction m with
    | zero =>
      intro n s x4 h h1 h2 h3
      obtain ⟨n, rfl⟩ : ∃ q, n = q + 1 := ⟨n - 1, by omega⟩
      rw [dm86_2, h1]
      split
      · exact ⟨_, _, rfl, h⟩
      · rw [if_pos (by decide)]
        exact ⟨_, _, rfl, h⟩
    | succ m ih =>
      intro n s x4 h h1 h2 h3
      obtain ⟨n, rfl⟩ : ∃ q, n = q + 1 := ⟨n - 1, by omega⟩
      have e : Int32.ofNat (m + 1) - 1 = Int32.ofNat m := ofNat_sub1 (n := m + 1) (by omega) (by omega)
      rw [dm86_2, h1]
      split
      · exact ⟨_, _, rfl, h⟩
      · rw [if_neg (fun q => by have := (nle_iff (b := 0) (by omega) (by omega)).mp q; omega), e, if_pos (aB_of (by omega) (by omega))]
        split
        · exact ⟨_, _, rfl, h⟩
        · have ez : sI (wI s 110 2 (Int32.ofNat m)) 110 2 = Int32.ofNat m := by rw [sI_wI, if_pos ⟨rfl, rfl⟩]
          rw [nx_eq, ez, if_pos (aB_of (by omega) (by omega))]
          exact ih n _ _ (h.p hb (by omega)) (by rw [sI_wI, if_pos ⟨rfl, rfl⟩]) (by omega) (by omega)
  obtain ⟨-, -, -, -, ⟨m, m1, m2⟩, -⟩ := id h
  exact loop m 5000 s x3 h m2 m1 (by omega)
set_option maxRecDepth 100000 in
theorem k87 (hb : b = 102 ∨ 149 ≤ b) (h : KW s0 s b i z9) (x1 x2 : Int32) : ∃ s', dm87 x1 x2 s = some s' ∧ KW s0 s' b i z9 := by
  obtain ⟨-, -, -, -, ⟨m, m1, m2⟩, -⟩ := id h
  unfold dm87
  rw [m2]
  by_cases c : m = 128
  · subst c
    rw [if_pos (by decide)]
    exact ⟨s, rfl, h⟩
  · have bm : aB (Int32.ofNat m) 128 := aB_of (by omega) (by omega)
    rw [if_neg (fun q => by have := (nle_iff (a := 128) (by omega) (by omega)).mp q; omega), if_pos bm]
    simp only [nx_eq]
    have e1 : sI (wI s 111 (jN (Int32.ofNat m)) x1) 110 2 = Int32.ofNat m := by rw [sI_wI, if_neg (by omega)]; exact m2
    rw [e1, if_pos bm]
    have e2 : sI (wI (wI s 111 (jN (Int32.ofNat m)) x1) 112 (jN (Int32.ofNat m)) x2) 110 2 = Int32.ofNat m := by rw [sI_wI, if_neg (by omega)]; exact e1
    rw [e2, ofNat_succ (by omega)]
    exact ⟨_, rfl, KW.p (h.f hb (((ch.refl _ s).wI (by unfold AF; omega)).wI (by unfold AF; omega))) hb (by omega)⟩
set_option maxRecDepth 100000 in
theorem k117 (hb : b = 102 ∨ 149 ≤ b) (h : KW s0 s b i z9) (x1 x2 x3 : Int32) : ∃ s', dm117 x1 x2 x3 s = some s' ∧ KW s0 s' b i z9 := by
  obtain ⟨-, -, -, -, -, m, m1, m2⟩ := id h
  unfold dm117
  rw [m2]
  by_cases c : m = 32
  · subst c
    rw [if_pos (by decide)]
    exact ⟨s, rfl, h⟩
  · have bm : aB (Int32.ofNat m) 32 := aB_of (by omega) (by omega)
    rw [if_neg (fun q => by have := (nle_iff (a := 32) (by omega) (by omega)).mp q; omega), if_pos bm]
    simp only [nx_eq]
    have e1 : sI (wI s 114 (jN (Int32.ofNat m)) x1) 113 3 = Int32.ofNat m := by rw [sI_wI, if_neg (by omega)]; exact m2
    rw [e1, if_pos bm]
    have e2 : sI (wI (wI s 114 (jN (Int32.ofNat m)) x1) 115 (jN (Int32.ofNat m)) x2) 113 3 = Int32.ofNat m := by rw [sI_wI, if_neg (by omega)]; exact e1
    rw [e2, if_pos bm]
    have e3 : sI (wI (wI (wI s 114 (jN (Int32.ofNat m)) x1) 115 (jN (Int32.ofNat m)) x2) 116 (jN (Int32.ofNat m)) x3) 113 3 = Int32.ofNat m := by rw [sI_wI, if_neg (by omega)]; exact e2
    rw [e3, ofNat_succ (by omega)]
    exact ⟨_, rfl, KW.o (h.f hb ((((ch.refl _ s).wI (by unfold AF; omega)).wI (by unfold AF; omega)).wI (by unfold AF; omega))) hb (by omega)⟩
end KK
end
section
/-! the reader of FormulaTrees: nodes put in, letters held and given -/
section KK
variable {s0 s : aS} {b i z9 : Nat} {t : List Int32} {ns : List (List Int32)}
set_option maxRecDepth 100000 in
theorem KW.row {w k : Nat} {v : Int32} (h : KW s0 s b i z9) (hb : b = 102 ∨ 149 ≤ b) (hw : w < 9) : KW s0 (wI s (b + 1) (11 * k + w) v) b i z9 := by
  obtain ⟨g1, g2, ⟨N, u, a1, a2, a3, a4, a5⟩, ⟨hd, b1, b2, b3⟩, ⟨m0, c1, c2⟩, o, d1, d2⟩ := h
  have g : ch (fun a q => a = b + 1 ∧ q = 11 * k + w) s (wI s (b + 1) (11 * k + w) v) := (ch.refl _ s).wI ⟨rfl, rfl⟩
  refine ⟨g1.wI (by unfold AC; omega), (g.i (by omega)).trans g2, ⟨N, u, a1, (g.i (by omega)).trans a2, a3.of g (by omega) (fun k => by omega), a4, fun q hq => ?_⟩, ⟨hd, b1.of g (by omega) (fun k => by omega), b2, b3⟩, ⟨m0, c1, (g.i (by omega)).trans c2⟩, o, d1, (g.i (by omega)).trans d2⟩
  obtain ⟨l, ⟨st, e1, e2, e3, e4⟩, e5⟩ := a5 q hq
  exact ⟨l, ⟨st, (g.i (by omega)).trans e1, (g.i (by omega)).trans e2, e3, e4⟩, e5⟩
set_option maxRecDepth 100000 in
theorem k60 (h : KW s0 s b i z9) (hb : b = 102 ∨ 149 ≤ b) (x v : Int32) (w : Nat) (hw : w < 9) : ∃ s', dm60 b x (Int32.ofNat w) v s = some s' ∧ KW s0 s' b i z9 ∧ ch (fun a _ => a = b ∨ a = b + 1) s s' := by
  obtain ⟨-, -, ⟨N, u, a1, a2, -⟩, -⟩ := id h
  unfold dm60
  by_cases c1 : x < 0
  · rw [if_pos c1]
    exact ⟨s, rfl, h, ch.refl _ s⟩
  · rw [if_neg c1, a2]
    by_cases c2 : Int32.ofNat N ≤ x
    · rw [if_pos c2]
      exact ⟨s, rfl, h, ch.refl _ s⟩
    · have z1 : ¬ x.toInt < 0 := fun q => c1 (iLt.mpr q)
      have z2 : ¬ (N : Int) ≤ x.toInt := fun q => c2 (iLe.mpr (by rw [iOfNat (by omega)]; exact q))
      obtain ⟨k, hk⟩ : ∃ k, k = x.toInt.toNat := ⟨_, rfl⟩
      have ex : x = Int32.ofNat k := by rw [hk]; exact ofNat_of (by omega)
      rw [if_neg c2, if_neg (fun q => by have := (nlt_iff (b := 0) (by omega) (by omega)).mp q; omega), if_neg (fun q => by have := (nle_iff (a := 11) (by omega) (by omega)).mp q; omega), ex, iM11 (by omega) (by omega), if_pos (aB_of (by omega) (by omega)), nx_eq, jN_of (by omega)]
      exact ⟨_, rfl, h.row hb hw, (ch.refl _ s).wI (Or.inr rfl)⟩
set_option maxRecDepth 100000 in
theorem mul11 {p : Nat} (hp : p < 10000) : Int32.ofNat p * 11 = Int32.ofNat (11 * p) := by
  have := iM11 (i := p) (w := 0) (by omega) (by omega)
  rw [show Int32.ofNat 0 = 0 from rfl, Int32.add_zero] at this
  exact this
set_option maxRecDepth 100000 in
theorem k72l {b p N : Nat} {x2 x3 : Int32} (hp : p ≤ N) (hN : N < 128) : ∀ (m n : Nat) (s : aS), 11 * p + m ≤ 11 * N → m < n → ∃ s', (dm72_17 n b (Int32.ofNat p) x2 x3 (Int32.ofNat (11 * p + m) - 1) s = (nx (wI s' b 2 ((sI s' b 2) + 1)) fun s2 => bu (dm59 b (Int32.ofNat p) x2 x3 s2) fun s8 => some s8)) ∧ (∀ j, 11 * p ≤ j → j < 11 * p + m → sI s' (b + 1) (j + 11) = sI s (b + 1) j) ∧ ch (fun a k => a = b + 1 ∧ 11 * p + 11 ≤ k ∧ k < 11 * p + m + 11) s s' := by
  intro m
  induction m with
  | zero =>
    intro n s h1 h2
    obtain ⟨n, rfl⟩ : ∃ q, n = q + 1 := ⟨n - 1, by omega⟩
    refine ⟨s, ?_, fun j a c => by omega, ch.refl _ s⟩
    rw [dm72_17, mul11 (by omega)]
    have c : Int32.ofNat (11 * p + 0) - 1 < Int32.ofNat (11 * p) := by
      have e1 : (Int32.ofNat (11 * p + 0) - 1).toInt = 11 * p - 1 := by
        rw [iSub (y := 1) (by rw [iOfNat (by omega)]; show _ ≤ ((11 * p + 0 : Nat) : Int) - 1; omega) (by rw [iOfNat (by omega)]; show ((11 * p + 0 : Nat) : Int) - 1 ≤ _; omega), iOfNat (by omega)]
        show ((11 * p + 0 : Nat) : Int) - 1 = _
        omega
      rw [iLt, e1, iOfNat (by omega)]
      omega
    rw [if_pos c]
  | succ m ih =>
    intro n s h1 h2
    obtain ⟨n, rfl⟩ : ∃ q, n = q + 1 := ⟨n - 1, by omega⟩
    have e1 : Int32.ofNat (11 * p + (m + 1)) - 1 = Int32.ofNat (11 * p + m) := by
      have := ofNat_sub1 (n := 11 * p + (m + 1)) (by omega) (by omega)
      rw [this]
      congr 1
    have b1 : aB (Int32.ofNat (11 * p + m)) 1408 := aB_of (by omega) (by omega)
    have e2 : Int32.ofNat (11 * p + m) + 11 = Int32.ofNat (11 * p + m + 11) := iSum (i := 11 * p + m) (j := 11) (by omega) (by omega)
    have b2 : aB (Int32.ofNat (11 * p + m + 11)) 1408 := aB_of (by omega) (by omega)
    have e3 : Int32.ofNat (11 * p + m) + (-1) = Int32.ofNat (11 * p + m) - 1 := by rw [Int32.sub_eq_add_neg]
    obtain ⟨s', a1, a2, a3⟩ := ih n (wI s (b + 1) (11 * p + m + 11) (sI s (b + 1) (11 * p + m))) (by omega) (by omega)
    refine ⟨s', ?_, fun j hj1 hj2 => ?_, ((ch.refl (fun a k => a = b + 1 ∧ 11 * p + 11 ≤ k ∧ k < 11 * p + (m + 1) + 11) s).wI ⟨rfl, by omega, by omega⟩).trans (a3.mono fun a k z => by omega)⟩
    · rw [dm72_17, mul11 (by omega), e1, if_neg (fun q => by have := (nlt_iff (by omega) (by omega)).mp q; omega), if_pos b1, e2, if_pos b2, nx_eq, jN_of (by omega), jN_of (by omega), e3]
      exact a1
    · by_cases c : j = 11 * p + m
      · subst c
        rw [a3.i (by omega), sI_wI, if_pos ⟨rfl, rfl⟩]
      · have := a2 j hj1 (by omega)
        rw [this, sI_wI, if_neg (by omega)]
set_option maxRecDepth 100000 in
/-- a node put in -/
theorem k72 (h : KW s0 s b i z9) (hb : b = 102 ∨ 149 ≤ b) (x x2 x3 : Int32) : ∃ s', dm72 b x x2 x3 s = some s' ∧ KW s0 s' b i z9 ∧ ch (fun a _ => a = b ∨ a = b + 1) s s' := by
  obtain ⟨g1, g2, ⟨N, u, a1, a2, a3, a4, a5⟩, ⟨hd, b1, b2, b3⟩, ⟨m0, c1, c2⟩, o, d1, d2⟩ := id h
  unfold dm72 dm71
  rw [a2]
  by_cases c0 : N = 128
  · subst c0
    rw [if_neg (by decide)]
    simp only [bu_some]
    rw [if_neg (by decide)]
    exact ⟨s, rfl, h, ch.refl _ s⟩
  · rw [if_pos (show Int32.ofNat N < 128 from (nlt_iff (b := 128) (by omega) (by omega)).mpr (by omega))]
    simp only [bu_some]
    rw [if_pos trivial]
    by_cases q1 : x < 0
    · rw [if_pos q1]
      exact ⟨s, rfl, h, ch.refl _ s⟩
    · rw [if_neg q1]
      by_cases q2 : x ≤ Int32.ofNat N
      · rw [if_pos q2]
        have z1 : ¬ x.toInt < 0 := fun q => q1 (iLt.mpr q)
        have z2 : x.toInt ≤ N := by
          have := iLe.mp q2
          rw [iOfNat (by omega)] at this
          exact this
        obtain ⟨p, hp⟩ : ∃ p, p = x.toInt.toNat := ⟨_, rfl⟩
        have ex : x = Int32.ofNat p := by rw [hp]; exact ofNat_of (by omega)
        have hpN : p ≤ N := by omega
        obtain ⟨s1, l1, l2, l3⟩ := k72l (b := b) (x2 := x2) (x3 := x3) hpN (show N < 128 by omega) (11 * N - 11 * p) 5000 s (by omega) (by omega)
        rw [show 11 * p + (11 * N - 11 * p) = 11 * N by omega] at l1 l2 l3
        have e1 : sI s1 b 2 = Int32.ofNat N := (l3.i (by omega)).trans a2
        have h2 : sI (wI s1 b 2 (Int32.ofNat (N + 1))) b 2 = Int32.ofNat (N + 1) := by rw [sI_wI, if_pos ⟨rfl, rfl⟩]
        obtain ⟨s2, m1, m2, m3⟩ := d59 (k := x2) (c := x3) h2 (show N + 1 ≤ 128 by omega) (show p < N + 1 by omega)
        have cc : ch (fun a k => (a = b ∧ k = 2) ∨ a = b + 1) s s2 := ((l3.mono fun a k z => Or.inr z.1).wI (Or.inl ⟨rfl, rfl⟩)).trans (m3.mono fun a k z => Or.inr z.1)
        refine ⟨s2, ?_, ⟨g1.trans (cc.mono fun a k z => by unfold AC; omega), (cc.i (by omega)).trans g2, ⟨N + 1, u, by omega, ?_, a3.of cc (by omega) (fun k => by omega), a4, fun k hk => ?_⟩, ⟨hd, b1.of cc (by omega) (fun k => by omega), b2, b3⟩, ⟨m0, c1, (cc.i (by omega)).trans c2⟩, o, d1, (cc.i (by omega)).trans d2⟩, cc.mono fun a k z => by omega⟩
        · rw [ex, mul11 (by omega), l1, e1, ofNat_succ (by omega), nx_eq, m1]
          rfl
        · rw [m3.i (by omega)]
          exact h2
        · by_cases k1 : k = p
          · subst k1
            exact ⟨[], ⟨0, m2 9 (by decide), m2 10 (by decide), Nat.zero_le _, fun j hj => absurd hj (Nat.not_lt_zero j)⟩, fun y hy => (by cases hy)⟩
          · by_cases k2 : k < p
            · obtain ⟨l, ⟨st, r1, r2, r3, r4⟩, r5⟩ := a5 k (by omega)
              refine ⟨l, ⟨st, ?_, ?_, r3, r4⟩, r5⟩
              · rw [m3.i (by omega), sI_wI, if_neg (by omega), l3.i (by omega)]
                exact r1
              · rw [m3.i (by omega), sI_wI, if_neg (by omega), l3.i (by omega)]
                exact r2
            · obtain ⟨l, ⟨st, r1, r2, r3, r4⟩, r5⟩ := a5 (k - 1) (by omega)
              refine ⟨l, ⟨st, ?_, ?_, r3, r4⟩, r5⟩
              · rw [m3.i (by omega), sI_wI, if_neg (by omega), show 11 * k + 9 = (11 * (k - 1) + 9) + 11 by omega, l2 _ (by omega) (by omega)]
                exact r1
              · rw [m3.i (by omega), sI_wI, if_neg (by omega), show 11 * k + 10 = (11 * (k - 1) + 10) + 11 by omega, l2 _ (by omega) (by omega)]
                exact r2
      · rw [if_neg q2]
        exact ⟨s, rfl, h, ch.refl _ s⟩
/-- the letters that are held -/
def HH (s : aS) (hd : List Int32) : Prop := LT s 107 hd ∧ hd.length ≤ 256 ∧ okT hd
set_option maxRecDepth 100000 in
theorem KW.h {s1 : aS} {hd : List Int32} (h : KW s0 s b i z9) (hb : b = 102 ∨ 149 ≤ b) (g : ch (fun a k => (a = 107 ∧ k = 1) ∨ a = 108) s s1) (hh : HH s1 hd) : KW s0 s1 b i z9 := by
  obtain ⟨g1, g2, ⟨N, u, a1, a2, a3, a4, a5⟩, -, ⟨m0, c1, c2⟩, o, d1, d2⟩ := h
  refine ⟨g1.trans (g.mono fun a k z => by unfold AC; omega), (g.i (by omega)).trans g2, ⟨N, u, a1, (g.i (by omega)).trans a2, a3.of g (by omega) (fun k => by omega), a4, fun q hq => ?_⟩, ⟨hd, hh⟩, ⟨m0, c1, (g.i (by omega)).trans c2⟩, o, d1, (g.i (by omega)).trans d2⟩
  obtain ⟨l, ⟨st, e1, e2, e3, e4⟩, e5⟩ := a5 q hq
  exact ⟨l, ⟨st, (g.i (by omega)).trans e1, (g.i (by omega)).trans e2, e3, e4⟩, e5⟩
set_option maxRecDepth 100000 in
theorem kHadd {hd : List Int32} {x : Int32} (h0 : KS s0 b t ns) (h : KW s0 s b i z9) (hh : HH s hd) (hl : hd.length < 256) (hx : 32 ≤ x.toInt ∧ x.toInt ≤ 126) : ∃ s', dm29 107 x s = some s' ∧ KW s0 s' b i z9 ∧ HH s' (hd ++ [x]) := by
  have hb := h0.2.1.2.2.1
  have hs := h0.of h.1
  obtain ⟨s', a1, a2, a3⟩ := hh.1.add (m := 256) hs.2.1.2.2.2.2 (by decide) hl (x := x) ⟨by omega, by omega⟩
  have hh2 : HH s' (hd ++ [x]) := ⟨a2, by rw [List.length_append]; show hd.length + 1 ≤ 256; omega, fun y hy => by
    rcases List.mem_append.mp hy with q | q
    · exact hh.2.2 y q
    · rw [List.mem_singleton.mp q]; exact hx⟩
  exact ⟨s', a1, h.h hb a3 hh2, hh2⟩
set_option maxRecDepth 100000 in
theorem kHclr (h0 : KS s0 b t ns) (h : KW s0 s b i z9) : ∃ s', dm26 107 s = some s' ∧ KW s0 s' b i z9 ∧ HH s' [] := by
  have hb := h0.2.1.2.2.1
  have hh2 : HH (wI s 107 1 0) [] := ⟨⟨by rw [sI_wI, if_pos ⟨rfl, rfl⟩]; rfl, fun j hj => absurd hj (Nat.not_lt_zero j)⟩, Nat.zero_le _, fun y hy => (by cases hy)⟩
  exact ⟨wI s 107 1 0, rfl, h.h hb ((ch.refl _ s).wI (Or.inl ⟨rfl, rfl⟩)) hh2, hh2⟩
set_option maxRecDepth 100000 in
theorem okc {j : Nat} (ho : okT t) (hj : j < t.length) : 32 ≤ (t.getD j (-1)).toInt ∧ (t.getD j (-1)).toInt ≤ 126 := by
  rw [getD_in hj]
  exact ho _ (List.getElem_mem _)
set_option maxRecDepth 100000 in
theorem okg {x : Int32} (h : 32 ≤ x.toInt ∧ x.toInt ≤ 126) : 32 ≤ (gr x).toInt ∧ (gr x).toInt ≤ 126 := by
  have := okT_gr (l := [x]) (fun y hy => by rw [List.mem_singleton.mp hy]; exact h)
  exact this (gr x) (by simp)
set_option maxRecDepth 100000 in
theorem k122 {f e : Nat} (h0 : KS s0 b t ns) (h : KW s0 s b i z9) (hf : f ≤ e) (he : e ≤ t.length) : ∃ s' hd, dm122 (Int32.ofNat f) (Int32.ofNat e) s = some s' ∧ KW s0 s' b i z9 ∧ HH s' hd ∧ hd.length = e - f := by
  have hl := h0.1.2.1
  have ho := h0.1.2.2.1
  have loop : ∀ (m j n : Nat) (s : aS) (hd : List Int32), KW s0 s b i z9 → HH s hd → hd.length + m ≤ 256 → j + m = e → m < n → ∃ s' hd', dm122_5 n (Int32.ofNat e) (Int32.ofNat j) s = some s' ∧ KW s0 s' b i z9 ∧ HH s' hd' ∧ hd'.length = hd.length + m := by
    intro m
    induction m with
    | zero =>
      intro j n s hd h hh h1 h2 h3
      obtain ⟨n, rfl⟩ : ∃ q, n = q + 1 := ⟨n - 1, by omega⟩
      rw [dm122_5, if_pos ((nle_iff (by omega) (by omega)).mpr (by omega))]
      exact ⟨s, hd, rfl, h, hh, rfl⟩
    | succ m ih =>
      intro j n s hd h hh h1 h2 h3
      obtain ⟨n, rfl⟩ : ∃ q, n = q + 1 := ⟨n - 1, by omega⟩
      rw [dm122_5, if_neg (fun q => by have := (nle_iff (by omega) (by omega)).mp q; omega), kch h0 h (by omega)]
      simp only [bu_some, d35]
      obtain ⟨s1, a1, a2, a3⟩ := kHadd h0 h hh (by omega) (okg (okc ho (show j < t.length by omega)))
      rw [a1]
      simp only [bu_some]
      rw [ofNat_succ (by omega)]
      obtain ⟨s2, hd2, c1, c2, c3, c4⟩ := ih (j + 1) n s1 _ a2 a3 (by rw [List.length_append]; show hd.length + 1 + m ≤ 256; omega) (by omega) (by omega)
      refine ⟨s2, hd2, c1, c2, c3, ?_⟩
      rw [c4, List.length_append]
      show hd.length + 1 + m = _
      omega
  unfold dm122
  obtain ⟨s1, a1, a2, a3⟩ := kHclr h0 h
  rw [a1]
  simp only [bu_some]
  obtain ⟨s2, hd2, c1, c2, c3, c4⟩ := loop (e - f) f 5000 s1 [] a2 a3 (by simp; omega) (by omega) (by omega)
  exact ⟨s2, hd2, c1, c2, c3, by rw [c4]; simp⟩
set_option maxRecDepth 100000 in
/-- letters given to a node -/
theorem k107 {hd : List Int32} (h0 : KS s0 b t ns) (h : KW s0 s b i z9) (hh : HH s hd) (hz : z9 + hd.length ≤ 256) (x : Int32) : ∃ s', dm107 b x 107 s = some s' ∧ KW s0 s' b i (z9 + hd.length) := by
  have hb := h0.2.1.2.2.1
  obtain ⟨g1, g2, ⟨N, u, a1, a2, a3, a4, a5⟩, -, ⟨m0, c1, c2⟩, o, d1, d2⟩ := id h
  have h3 : (sT s (b + 3)).2 = 256 := (h0.of g1).2.1.2.2.2.1
  have hul := a3.2.1
  -- the two numbers
  have puts : ∃ s2, (bu (dm60 b x 9 (Int32.ofNat u.length) s) fun s6 => bu (dm28 107 s6) fun r11 => bu (dm60 b x 10 r11 s6) fun s14 => dm107_15 5000 b 107 0 s14) = dm107_15 5000 b 107 0 s2 ∧ ch (fun a k => a = b + 1) s s2 ∧ ∀ k, k < N → (∃ l, NL s2 b k u l ∧ okT l) ∨ (sI s2 (b + 1) (11 * k + 9) = Int32.ofNat u.length ∧ sI s2 (b + 1) (11 * k + 10) = Int32.ofNat hd.length) := by
    unfold dm60
    by_cases q1 : x < 0
    · rw [if_pos q1]
      unfold dm28
      simp only [bu_some]
      rw [if_pos q1]
      exact ⟨s, rfl, ch.refl _ s, fun k hk => Or.inl (a5 k hk)⟩
    · rw [if_neg q1, a2]
      by_cases q2 : Int32.ofNat N ≤ x
      · rw [if_pos q2]
        unfold dm28
        simp only [bu_some]
        rw [if_neg q1, a2, if_pos q2]
        exact ⟨s, rfl, ch.refl _ s, fun k hk => Or.inl (a5 k hk)⟩
      · have z1 : ¬ x.toInt < 0 := fun q => q1 (iLt.mpr q)
        have z2 : ¬ (N : Int) ≤ x.toInt := fun q => q2 (iLe.mpr (by rw [iOfNat (by omega)]; exact q))
        obtain ⟨p, hp⟩ : ∃ p, p = x.toInt.toNat := ⟨_, rfl⟩
        have ex : x = Int32.ofNat p := by rw [hp]; exact ofNat_of (by omega)
        have e9 : (Int32.ofNat p * 11) + 9 = Int32.ofNat (11 * p + 9) := iM11 (i := p) (w := 9) (by omega) (by omega)
        have e10 : (Int32.ofNat p * 11) + 10 = Int32.ofNat (11 * p + 10) := iM11 (i := p) (w := 10) (by omega) (by omega)
        rw [if_neg q2, if_neg (by decide), if_neg (by decide), ex, e9, if_pos (aB_of (by omega) (by omega)), nx_eq, jN_of (by omega)]
        unfold dm28
        simp only [bu_some]
        rw [← ex, if_neg q1, show sI (wI s (b + 1) (11 * p + 9) (Int32.ofNat u.length)) b 2 = sI s b 2 by rw [sI_wI, if_neg (by omega)], a2, if_neg q2, if_neg (by decide), if_neg (by decide), ex, e10, if_pos (aB_of (by omega) (by omega)), nx_eq, jN_of (by omega), show sI (wI s (b + 1) (11 * p + 9) (Int32.ofNat u.length)) 107 1 = sI s 107 1 by rw [sI_wI, if_neg (by omega)], hh.1.n]
        simp only [bu_some]
        refine ⟨_, rfl, ((ch.refl (fun a _ => a = b + 1) s).wI rfl).wI rfl, fun k hk => ?_⟩
        by_cases kp : k = p
        · right
          subst kp
          constructor
          · rw [sI_wI, if_neg (by omega), sI_wI, if_pos ⟨rfl, rfl⟩]
          · rw [sI_wI, if_pos ⟨rfl, rfl⟩]
        · left
          obtain ⟨l, ⟨st, r1, r2, r3, r4⟩, r5⟩ := a5 k hk
          refine ⟨l, ⟨st, ?_, ?_, r3, r4⟩, r5⟩
          · rw [sI_wI, if_neg (by omega), sI_wI, if_neg (by omega)]
            exact r1
          · rw [sI_wI, if_neg (by omega), sI_wI, if_neg (by omega)]
            exact r2
  obtain ⟨s2, e2, ch2, rows⟩ := puts
  have loop : ∀ (m j n : Nat) (s3 : aS), ch (fun a k => a = b + 1 ∨ (a = b + 2 ∧ k = 1) ∨ a = b + 3) s s3 → LT s3 (b + 2) (u ++ hd.take j) → j + m = hd.length → m < n → ∃ s4, dm107_15 n b 107 (Int32.ofNat j) s3 = some s4 ∧ LT s4 (b + 2) (u ++ hd) ∧ ch (fun a k => (a = b + 2 ∧ k = 1) ∨ a = b + 3) s3 s4 := by
    intro m
    induction m with
    | zero =>
      intro j n s3 c3 l3 h1 h2
      obtain ⟨n, rfl⟩ : ∃ q, n = q + 1 := ⟨n - 1, by omega⟩
      have e1 : sI s3 107 1 = Int32.ofNat hd.length := (c3.i (by omega)).trans hh.1.n
      have hhl := hh.2.1
      rw [dm107_15]
      unfold dm28
      simp only [bu_some]
      rw [e1, if_pos ((nle_iff (by omega) (by omega)).mpr (by omega))]
      rw [List.take_of_length_le (by omega)] at l3
      exact ⟨s3, rfl, l3, ch.refl _ s3⟩
    | succ m ih =>
      intro j n s3 c3 l3 h1 h2
      obtain ⟨n, rfl⟩ : ∃ q, n = q + 1 := ⟨n - 1, by omega⟩
      have e1 : LT s3 107 hd := hh.1.of c3 (by omega) (fun k => by omega)
      have hhl := hh.2.1
      have hj : j < hd.length := by omega
      have hT : (sT s3 108).2 = 256 := by rw [c3.2.1]; exact (h0.of g1).2.1.2.2.2.2
      rw [dm107_15]
      unfold dm28
      simp only [bu_some]
      rw [e1.n, if_neg (fun q => by have := (nle_iff (by omega) (by omega)).mp q; omega), d34 e1 (by rw [hT]; exact hhl) (by omega) (by omega), getD_in hj]
      simp only [bu_some]
      have hxo := hh.2.2 hd[j] (List.getElem_mem hj)
      have hlen : (u ++ hd.take j).length < 256 := by rw [List.length_append, List.length_take]; omega
      obtain ⟨s4, f1, f2, f3⟩ := l3.add (m := 256) (by rw [c3.2.1]; exact h3) (by decide) hlen (x := hd[j]) ⟨by omega, by omega⟩
      rw [f1]
      simp only [bu_some]
      rw [ofNat_succ (by omega)]
      have l4 : LT s4 (b + 2) (u ++ hd.take (j + 1)) := by
        rw [List.take_succ_eq_append_getElem hj, ← List.append_assoc]
        exact f2
      obtain ⟨s5, k1, k2, k3⟩ := ih (j + 1) n s4 (c3.trans (f3.mono fun a k z => by omega)) l4 (by omega) (by omega)
      exact ⟨s5, k1, k2, (f3.mono fun a k z => by omega).trans k3⟩
  have hhl := hh.2.1
  obtain ⟨s4, l1, l2, l3⟩ := loop hd.length 0 5000 s2 (ch2.mono fun a k z => Or.inl z) (by rw [List.take_zero, List.append_nil]; exact a3.1.of ch2 (by omega) (fun k => by omega)) (by omega) (by omega)
  have cc : ch (fun a k => a = b + 1 ∨ (a = b + 2 ∧ k = 1) ∨ a = b + 3) s s4 := (ch2.mono fun a k z => Or.inl z).trans (l3.mono fun a k z => Or.inr z)
  refine ⟨s4, ?_, g1.trans (cc.mono fun a k z => by unfold AC; omega), (cc.i (by omega)).trans g2, ⟨N, u ++ hd, a1, (cc.i (by omega)).trans a2, ⟨l2, by rw [List.length_append]; omega, fun y hy => ?_⟩, by rw [List.length_append]; omega, fun k hk => ?_⟩, ⟨hd, hh.1.of cc (by omega) (fun k => by omega), hhl, hh.2.2⟩, ⟨m0, c1, (cc.i (by omega)).trans c2⟩, o, d1, (cc.i (by omega)).trans d2⟩
  · unfold dm107
    have : dm28 (b + 2) s = some (Int32.ofNat u.length) := by unfold dm28; rw [a3.1.n]
    rw [this]
    simp only [bu_some]
    rw [e2]
    exact l1
  · rcases List.mem_append.mp hy with q | q
    · exact a3.2.2 y q
    · exact hh.2.2 y q
  · rcases rows k hk with ⟨l, ⟨st, r1, r2, r3, r4⟩, r5⟩ | ⟨r1, r2⟩
    · refine ⟨l, ⟨st, (l3.i (by omega)).trans r1, (l3.i (by omega)).trans r2, by rw [List.length_append]; omega, fun j hj => ?_⟩, r5⟩
      have := r4 j hj
      rw [getD_in (show st + j < u.length by omega)] at this
      rw [getD_in (show st + j < (u ++ hd).length by rw [List.length_append]; omega), List.getElem_append_left (by omega)]
      exact this
    · refine ⟨hd, ⟨u.length, (l3.i (by omega)).trans r1, (l3.i (by omega)).trans r2, by rw [List.length_append]; omega, fun j hj => ?_⟩, hh.2.2⟩
      rw [getD_in (by rw [List.length_append]; omega), List.getElem_append_right (by omega)]
      simp
end KK
end
section
/-! the reader of FormulaTrees: cells, operators, brackets -/
section KK
variable {s0 s : aS} {b i z9 : Nat} {t : List Int32} {ns : List (List Int32)}
def K9 (s : aS) (t : List Int32) (j : Nat) (s' : aS) : Prop := ch (fun a _ => a = 109) s s' ∧ ∃ e, sI s' 109 0 = Int32.ofNat e ∧ j ≤ e ∧ e ≤ t.length
set_option maxRecDepth 100000 in
theorem K9.kw {s' : aS} {j : Nat} (h : KW s0 s b i z9) (hb : b = 102 ∨ 149 ≤ b) (g : ch (fun a _ => a = 109) s s') : KW s0 s' b i z9 := h.f hb (g.mono fun a k z => by unfold AF; omega)
set_option maxRecDepth 100000 in
theorem k90 (h0 : KS s0 b t ns) : ∀ (m q n e : Nat) (s : aS), KW s0 s b i z9 → q + m = 3 → m < n → sI s 109 0 = Int32.ofNat e → e ≤ t.length → ∃ v s', dm90_2 n 79 (Int32.ofNat q) s = some (v, s') ∧ K9 s t e s' := by
  have hl := h0.1.2.1
  have hb := h0.2.1.2.2.1
  have f42 : ∀ x (s : aS), ∃ v, dm90_42 x s = some (v, s) := fun x s => by
    unfold dm90_42
    split <;> exact ⟨_, rfl⟩
  intro m
  induction m with
  | zero =>
    intro q n e s h h1 h2 h3 h4
    obtain ⟨n, rfl⟩ : ∃ q, n = q + 1 := ⟨n - 1, by omega⟩
    have : q = 3 := by omega
    subst this
    rw [dm90_2, if_pos (by decide)]
    obtain ⟨v, e1⟩ := f42 (Int32.ofNat 3) s
    exact ⟨v, s, e1, ch.refl _ s, e, h3, Nat.le_refl _, h4⟩
  | succ m ih =>
    intro q n e s h h1 h2 h3 h4
    obtain ⟨n, rfl⟩ : ∃ q, n = q + 1 := ⟨n - 1, by omega⟩
    rw [dm90_2, if_neg (fun z => by have := (nle_iff (a := 3) (by omega) (by omega)).mp z; omega), h3, kch h0 h (by omega)]
    simp only [bu_some, d45, d35]
    by_cases c : isL (t.getD e (-1))
    · rw [if_neg (fun z => b01_ne.mp z c)]
      have he := kin isLm c
      split
      · simp only [nx_eq]
        have e1 : sI (wI s 109 2 (((((sI s 109 2) * 26) + gr (t.getD e (-1))) - 65) + 1)) 109 0 = Int32.ofNat e := by rw [sI_wI, if_neg (by omega)]; exact h3
        rw [e1, ofNat_succ (n := e) (by omega), ofNat_succ (n := q) (by omega)]
        have cc : ch (fun a _ => a = 109) s (wI (wI s 109 2 (((((sI s 109 2) * 26) + gr (t.getD e (-1))) - 65) + 1)) 109 0 (Int32.ofNat (e + 1))) := ((ch.refl (fun a _ => a = 109) s).wI rfl).wI rfl
        obtain ⟨v, s', g1, g2, e', g3, g4, g5⟩ := ih (q + 1) n (e + 1) _ (K9.kw (j := 0) h hb cc) (by omega) (by omega) (by rw [sI_wI, if_pos ⟨rfl, rfl⟩]) (by omega)
        exact ⟨v, s', g1, cc.trans g2, e', g3, by omega, g5⟩
      · exact ⟨0, s, rfl, ch.refl _ s, e, h3, Nat.le_refl _, h4⟩
    · rw [if_pos (b01_ne.mpr c)]
      obtain ⟨v, e1⟩ := f42 (Int32.ofNat q) s
      exact ⟨v, s, e1, ch.refl _ s, e, h3, Nat.le_refl _, h4⟩
set_option maxRecDepth 100000 in
theorem k91 (h0 : KS s0 b t ns) : ∀ (m q n e : Nat) (s : aS), KW s0 s b i z9 → q + m = 7 → m < n → sI s 109 0 = Int32.ofNat e → e ≤ t.length → ∃ v s', dm91_2 n 79 (Int32.ofNat q) s = some (v, s') ∧ K9 s t e s' := by
  have hl := h0.1.2.1
  have hb := h0.2.1.2.2.1
  have f42 : ∀ x (s : aS), ∃ v, dm91_42 x s = some (v, s) := fun x s => by
    unfold dm91_42
    split <;> exact ⟨_, rfl⟩
  intro m
  induction m with
  | zero =>
    intro q n e s h h1 h2 h3 h4
    obtain ⟨n, rfl⟩ : ∃ q, n = q + 1 := ⟨n - 1, by omega⟩
    have : q = 7 := by omega
    subst this
    rw [dm91_2, if_pos (by decide)]
    obtain ⟨v, e1⟩ := f42 (Int32.ofNat 7) s
    exact ⟨v, s, e1, ch.refl _ s, e, h3, Nat.le_refl _, h4⟩
  | succ m ih =>
    intro q n e s h h1 h2 h3 h4
    obtain ⟨n, rfl⟩ : ∃ q, n = q + 1 := ⟨n - 1, by omega⟩
    rw [dm91_2, if_neg (fun z => by have := (nle_iff (a := 7) (by omega) (by omega)).mp z; omega), h3, kch h0 h (by omega)]
    simp only [bu_some, d47]
    by_cases c : isD (t.getD e (-1))
    · rw [if_neg (fun z => b01_ne.mp z c)]
      have he := kin isDm c
      split
      · exact ⟨0, s, rfl, ch.refl _ s, e, h3, Nat.le_refl _, h4⟩
      · split
        · simp only [nx_eq]
          have e1 : sI (wI s 109 1 ((((sI s 109 1) * 10) + t.getD e (-1)) - 48)) 109 0 = Int32.ofNat e := by rw [sI_wI, if_neg (by omega)]; exact h3
          rw [e1, ofNat_succ (n := e) (by omega), ofNat_succ (n := q) (by omega)]
          have cc : ch (fun a _ => a = 109) s (wI (wI s 109 1 ((((sI s 109 1) * 10) + t.getD e (-1)) - 48)) 109 0 (Int32.ofNat (e + 1))) := ((ch.refl (fun a _ => a = 109) s).wI rfl).wI rfl
          obtain ⟨v, s', g1, g2, e', g3, g4, g5⟩ := ih (q + 1) n (e + 1) _ (K9.kw (j := 0) h hb cc) (by omega) (by omega) (by rw [sI_wI, if_pos ⟨rfl, rfl⟩]) (by omega)
          exact ⟨v, s', g1, cc.trans g2, e', g3, by omega, g5⟩
        · exact ⟨0, s, rfl, ch.refl _ s, e, h3, Nat.le_refl _, h4⟩
    · rw [if_pos (b01_ne.mpr c)]
      obtain ⟨v, e1⟩ := f42 (Int32.ofNat q) s
      exact ⟨v, s, e1, ch.refl _ s, e, h3, Nat.le_refl _, h4⟩
set_option maxRecDepth 100000 in
theorem k92 (x : Int32) : ∃ v, dm92 x = some v := by
  unfold dm92
  rw [d46]
  simp only [bu_some]
  repeat' split
  all_goals exact ⟨_, rfl⟩
set_option maxRecDepth 100000 in
/-- a cell read from place j on -/
theorem k89 {j : Nat} (h0 : KS s0 b t ns) (h : KW s0 s b i z9) (hj : j ≤ t.length) : ∃ v s', dm89 79 (Int32.ofNat j) s = some (v, s') ∧ K9 s t j s' := by
  have hl := h0.1.2.1
  have hb := h0.2.1.2.2.1
  have f54 : ∀ (e : Nat) (s : aS), KW s0 s b i z9 → sI s 109 0 = Int32.ofNat e → e ≤ t.length → ∃ v s', dm89_54 79 s = some (v, s') ∧ K9 s t e s' := by
    intro e s h h3 h4
    obtain ⟨v, s1, g1, g2, e', g3, g4, g5⟩ := k91 h0 7 0 5000 e s h (by omega) (by omega) h3 h4
    have g1 : dm91 79 s = some (v, s1) := g1
    unfold dm89_54
    rw [g1]
    simp only [bv_some]
    obtain ⟨w, q⟩ := k92 (t.getD e' (-1))
    split
    · exact ⟨0, s1, rfl, g2, e', g3, g4, g5⟩
    · rw [g3, kch h0 (K9.kw (j := 0) h hb g2) (by omega)]
      simp only [bu_some]
      rw [q]
      simp only [bu_some]
      split
      · exact ⟨0, s1, rfl, g2, e', g3, g4, g5⟩
      · exact ⟨1, s1, rfl, g2, e', g3, g4, g5⟩
  have f30 : ∀ (e : Nat) (s : aS), KW s0 s b i z9 → sI s 109 0 = Int32.ofNat e → e ≤ t.length → ∃ v s', dm89_30 79 s = some (v, s') ∧ K9 s t e s' := by
    intro e s h h3 h4
    obtain ⟨v, s1, g1, g2, e', g3, g4, g5⟩ := k90 h0 3 0 5000 e s h (by omega) (by omega) h3 h4
    have g1 : dm90 79 s = some (v, s1) := g1
    have h' := K9.kw (j := 0) h hb g2
    unfold dm89_30
    rw [g1]
    simp only [bv_some]
    split
    · exact ⟨0, s1, rfl, g2, e', g3, g4, g5⟩
    · rw [g3, kch h0 h' (by omega)]
      simp only [bu_some]
      split
      · rename_i c
        have he := kin (p := fun x => x = 36) (by decide) c
        simp only [nx_eq]
        have e1 : sI (wI s1 109 3 ((sI s1 109 3) + 1)) 109 0 = Int32.ofNat e' := by rw [sI_wI, if_neg (by omega)]; exact g3
        rw [e1, ofNat_succ (n := e') (by omega)]
        have cc : ch (fun a _ => a = 109) s1 (wI (wI s1 109 3 ((sI s1 109 3) + 1)) 109 0 (Int32.ofNat (e' + 1))) := ((ch.refl (fun a _ => a = 109) s1).wI rfl).wI rfl
        obtain ⟨v2, s2, y1, y2, e2, y3, y4, y5⟩ := f54 (e' + 1) _ (K9.kw (j := 0) h' hb cc) (by rw [sI_wI, if_pos ⟨rfl, rfl⟩]) (by omega)
        exact ⟨v2, s2, y1, (g2.trans cc).trans y2, e2, y3, by omega, y5⟩
      · obtain ⟨v2, s2, y1, y2, e2, y3, y4, y5⟩ := f54 e' s1 h' g3 g5
        exact ⟨v2, s2, y1, g2.trans y2, e2, y3, by omega, y5⟩
  unfold dm89
  simp only [nx_eq]
  have c0 : ch (fun a _ => a = 109) s (wI (wI (wI (wI s 109 0 (Int32.ofNat j)) 109 1 0) 109 2 0) 109 3 0) := ((((ch.refl (fun a _ => a = 109) s).wI rfl).wI rfl).wI rfl).wI rfl
  have e0 : sI (wI (wI (wI (wI s 109 0 (Int32.ofNat j)) 109 1 0) 109 2 0) 109 3 0) 109 0 = Int32.ofNat j := by
    rw [sI_wI, if_neg (by omega), sI_wI, if_neg (by omega), sI_wI, if_neg (by omega), sI_wI, if_pos ⟨rfl, rfl⟩]
  have hk := K9.kw (j := 0) h hb c0
  rw [e0, kch h0 hk (by omega)]
  simp only [bu_some]
  split
  · rename_i c
    have he := kin (p := fun x => x = 36) (by decide) c
    generalize wI (wI (wI (wI s 109 0 (Int32.ofNat j)) 109 1 0) 109 2 0) 109 3 0 = s1 at c0 e0 hk ⊢
    have e1 : sI (wI s1 109 3 ((sI s1 109 3) + 2)) 109 0 = Int32.ofNat j := by rw [sI_wI, if_neg (by omega)]; exact e0
    rw [e1, ofNat_succ (n := j) (by omega)]
    have cc : ch (fun a _ => a = 109) s1 (wI (wI s1 109 3 ((sI s1 109 3) + 2)) 109 0 (Int32.ofNat (j + 1))) := ((ch.refl (fun a _ => a = 109) s1).wI rfl).wI rfl
    obtain ⟨v2, s2, y1, y2, e2, y3, y4, y5⟩ := f30 (j + 1) _ (K9.kw (j := 0) hk hb cc) (by rw [sI_wI, if_pos ⟨rfl, rfl⟩]) (by omega)
    exact ⟨v2, s2, y1, (c0.trans cc).trans y2, e2, y3, by omega, y5⟩
  · obtain ⟨v2, s2, y1, y2, e2, y3, y4, y5⟩ := f30 j _ hk e0 hj
    exact ⟨v2, s2, y1, c0.trans y2, e2, y3, y4, y5⟩
set_option maxRecDepth 100000 in
theorem k81 (hb : b = 102 ∨ 149 ≤ b) (h : KW s0 s b i z9) (x : Int32) : ∃ s', dm81 x s = some s' ∧ KW s0 s' b i z9 ∧ ch (fun a k => a = 106 ∧ 8 ≤ k) s s' := by
  have cc : ch (fun a k => a = 106 ∧ 8 ≤ k) s (wI (wI s 106 10 x) 106 9 4) := ((ch.refl (fun a k => a = 106 ∧ 8 ≤ k) s).wI ⟨rfl, by omega⟩).wI ⟨rfl, by omega⟩
  exact ⟨_, rfl, h.f hb (cc.mono fun a k z => by unfold AF; omega), cc⟩
set_option maxRecDepth 100000 in
theorem KW.fld {k : Nat} {v : Int32} (h : KW s0 s b i z9) (hb : b = 102 ∨ 149 ≤ b) (hk : 8 ≤ k) : KW s0 (wI s 106 k v) b i z9 := h.f hb ((ch.refl _ s).wI (by unfold AF; omega))
set_option maxRecDepth 100000 in
theorem KW.adv {j : Nat} (h : KW s0 s b i z9) (hb : b = 102 ∨ 149 ≤ b) (hi : i < 100000) (hj : j < 1000) : KW s0 (wI s 106 7 ((sI s 106 7) + Int32.ofNat j)) b (i + j) z9 := by
  rw [h.2.1, iSum (by omega) (by omega)]
  exact h.at hb
set_option maxRecDepth 100000 in
/-- percent -/
theorem k69 (h0 : KS s0 b t ns) (h : KW s0 s b i i) (hi : i < t.length) : KO s0 b i t.length (dm69 s) := by
  have hb := h0.2.1.2.2.1
  have hl := h0.1.2.1
  obtain ⟨v, s1, a1, a2, a3⟩ := k70 h0 h (sI s 106 7)
  unfold dm69
  rw [a1]
  simp only [bv_some]
  split
  · exact KO.s a2 (Nat.le_refl _) (by omega)
  · rw [(ktr h0 a2).1, if_pos (ktr (β := aS) (x := none) (f := fun _ => none) h0 a2).2]
    obtain ⟨s2, c1, c2, c3⟩ := k72 a2 hb (sI s1 106 10) 9 1
    rw [c1]
    simp only [bu_some, nx_eq]
    have h3 := KW.fld (k := 9) (v := 4) c2 hb (by omega)
    exact KO.s ((KW.adv (j := 1) h3 hb (by omega) (by omega)).up hb (by omega)) (by omega) (by omega)
set_option maxRecDepth 100000 in
theorem k77 (h0 : KS s0 b t ns) (h : KW s0 s b i i) (hi : i < t.length) : KO s0 b i t.length (dm77 s) := by
  have hb := h0.2.1.2.2.1
  have hl := h0.1.2.1
  obtain ⟨v1, e1⟩ := k78 h
  obtain ⟨v2, e2⟩ := k73 h
  have f16 : ∀ (s : aS), KW s0 s b i i → KO s0 b i t.length (dm77_16 v1 s) := by
    intro s h
    obtain ⟨v3, e3⟩ := k79 h
    unfold dm77_16
    rw [e3]
    simp only [bu_some]
    obtain ⟨s1, a1, a2⟩ := k65 hb h v3
    rw [a1]
    simp only [bu_some]
    obtain ⟨s2, c1, c2⟩ := k80 hb a2
    rw [c1]
    simp only [bu_some]
    obtain ⟨s3, d1, d2, -⟩ := k81 hb c2 v1
    rw [d1]
    simp only [bu_some, nx_eq]
    exact KO.s ((KW.adv (j := 1) d2 hb (by omega) (by omega)).up hb (by omega)) (by omega) (by omega)
  unfold dm77
  rw [e1]
  simp only [bu_some]
  rw [e2]
  simp only [bu_some]
  split
  · exact f16 s h
  · obtain ⟨v3, e3⟩ := k74 h
    rw [(ktr h0 h).1, if_pos (ktr (β := aS) (x := none) (f := fun _ => none) h0 h).2, e3]
    simp only [bu_some]
    obtain ⟨s1, a1, a2, -⟩ := k60 h hb v1 v3 1 (by omega)
    have a1 : dm60 b v1 1 v3 s = some s1 := a1
    rw [a1]
    simp only [bu_some]
    exact f16 s1 a2
set_option maxRecDepth 100000 in
theorem k75 (h0 : KS s0 b t ns) (h : KW s0 s b i i) (hi : i < t.length) (x : Int32) : KO s0 b i t.length (dm75 x s) := by
  have hb := h0.2.1.2.2.1
  have hl := h0.1.2.1
  have f14 : KO s0 b i t.length (dm75_14 x s) := by
    obtain ⟨s1, a1, a2⟩ := k76 hb h
    unfold dm75_14
    rw [a1]
    simp only [bu_some]
    split
    · obtain ⟨v, e⟩ := k79 a2
      rw [e]
      simp only [bu_some]
      obtain ⟨s2, c1, c2⟩ := k65 hb a2 v
      rw [c1]
      simp only [bu_some, nx_eq]
      have h3 := KW.fld (k := 9) (v := 0) c2 hb (by omega)
      exact KO.s ((KW.adv (j := 1) h3 hb (by omega) (by omega)).up hb (by omega)) (by omega) (by omega)
    · exact (k77 h0 a2 hi).b fun s2 j c1 c2 c3 => KO.s c1 c2 c3
  unfold dm75
  split
  · obtain ⟨v, e⟩ := k74 h
    rw [e]
    simp only [bu_some]
    split
    · exact f14
    · rw [nx_eq]
      exact KO.s (KW.fld h hb (by omega)) (Nat.le_refl _) (by omega)
  · exact f14
set_option maxRecDepth 100000 in
theorem k84 {d c : Int32} (h0 : KS s0 b t ns) (h : KW s0 s b i i) (hi : i < t.length) (x : Int32) (hx : (x = 18 ∨ x = 21 ∨ x = 22) → i + 1 < t.length) : KO s0 b i t.length (dm84 x s) := by
  have hb := h0.2.1.2.2.1
  have hl := h0.1.2.1
  unfold dm84
  split
  · rw [nx_eq]
    exact KO.s (KW.fld h hb (by omega)) (Nat.le_refl _) (by omega)
  · obtain ⟨v, s1, a1, a2, a3⟩ := k70 h0 h (sI s 106 7)
    rw [a1]
    simp only [bv_some]
    split
    · exact KO.s a2 (Nat.le_refl _) (by omega)
    · have e85 : ∃ r, dm85 x = some r := by
        unfold dm85
        repeat' split
        all_goals exact ⟨_, rfl⟩
      obtain ⟨r, er⟩ := e85
      obtain ⟨v2, e2⟩ := k79 a2
      rw [er]
      simp only [bu_some]
      rw [e2]
      simp only [bu_some]
      obtain ⟨v3, s2, c1, c2⟩ := k86 hb a2 v2 r (sI s1 106 10)
      rw [c1]
      simp only [bv_some]
      rw [(ktr h0 c2).1, if_pos (ktr (β := aS) (x := none) (f := fun _ => none) h0 c2).2]
      obtain ⟨s3, d1, d2, -⟩ := k72 c2 hb v3 x 2
      rw [d1]
      simp only [bu_some]
      obtain ⟨s4, f1, f2⟩ := k87 hb d2 r v3
      rw [f1]
      simp only [bu_some, nx_eq]
      have h5 := KW.fld (k := 9) (v := 1) f2 hb (by omega)
      unfold dm84_49 dm84_52 dm84_61
      have two : i + 1 < t.length → KO s0 b i t.length (if (1 : Int32) = 0 then nx (wI (wI s4 106 9 1) 106 7 ((sI (wI s4 106 9 1) 106 7) + 1)) fun s1 => some s1 else nx (wI (wI s4 106 9 1) 106 7 ((sI (wI s4 106 9 1) 106 7) + 2)) fun s1 => some s1) := by
        intro hlt
        rw [if_neg (by decide), nx_eq]
        exact KO.s ((KW.adv (j := 2) h5 hb (by omega) (by omega)).up hb (by omega)) (by omega) (by omega)
      split
      · rename_i q
        exact two (hx (Or.inl q))
      · split
        · rename_i q
          exact two (hx (Or.inr (Or.inl q)))
        · split
          · rename_i q
            exact two (hx (Or.inr (Or.inr q)))
          · rw [if_pos rfl, nx_eq]
            exact KO.s ((KW.adv (j := 1) h5 hb (by omega) (by omega)).up hb (by omega)) (by omega) (by omega)
end KK
end
section
/-! the reader of FormulaTrees: behind operands, references, ranges, letters kept -/
section KK
variable {s0 s : aS} {b i z9 : Nat} {t : List Int32} {ns : List (List Int32)}
set_option maxRecDepth 100000 in
theorem k83 (x0 x1 : Int32) : ∃ v, dm83 x0 x1 = some v ∧ ((v = 18 ∨ v = 21 ∨ v = 22) → x1 = 62 ∨ x1 = 61) := by
  unfold dm83
  repeat' split
  all_goals first
    | (refine ⟨_, rfl, fun q => ?_⟩; exact absurd q (by decide))
    | (rename_i z; exact ⟨_, rfl, fun _ => Or.inl z⟩)
    | (rename_i z; exact ⟨_, rfl, fun _ => Or.inr z⟩)
set_option maxRecDepth 100000 in
theorem k68 (h0 : KS s0 b t ns) (h : KW s0 s b i i) (hi : i < t.length) (x : Int32) : KO s0 b i t.length (dm68 x s) := by
  have hb := h0.2.1.2.2.1
  have hl := h0.1.2.1
  have f52 : KO s0 b i t.length (dm68_52 x s) := by
    unfold dm68_52
    rw [h.2.1, ofNat_succ (by omega), kch h0 h (by omega)]
    simp only [bu_some]
    obtain ⟨v, e1, e2⟩ := k83 x (t.getD (i + 1) (-1))
    rw [e1]
    simp only [bu_some]
    refine (k84 (d := 0) (c := 0) h0 h hi v fun q => ?_).b fun s1 j c1 c2 c3 => KO.s c1 c2 c3
    rcases e2 q with z | z
    · exact kin (p := fun x => x = 62) (by decide) z
    · exact kin (p := fun x => x = 61) (by decide) z
  have f40 : ∀ y, KO s0 b i t.length (dm68_40 y s) := fun y => by
    unfold dm68_40
    exact (k75 h0 h hi y).b fun s1 j c1 c2 c3 => KO.s c1 c2 c3
  have f42 : KO s0 b i t.length (dm68_42 x s) := by
    unfold dm68_42 dm82
    split
    · simp only [bu_some]
      split
      · exact f52
      · exact (k77 h0 h hi).b fun s1 j c1 c2 c3 => KO.s c1 c2 c3
    · exact f52
  have f29 : KO s0 b i t.length (dm68_29 x s) := by
    unfold dm68_29
    obtain ⟨v, e⟩ := k73 h
    rw [e]
    simp only [bu_some]
    split
    · exact f42
    · split
      · exact f40 1
      · exact f40 0
  have f17 : KO s0 b i t.length (dm68_17 x s) := by
    unfold dm68_17
    split
    · exact (k69 h0 h hi).b fun s1 j c1 c2 c3 => KO.s c1 c2 c3
    · split
      · exact f29
      · split
        · exact f29
        · exact f42
  unfold dm68
  split
  · split
    · simp only [nx_eq]
      have h5 := KW.fld (k := 9) (v := 3) h hb (by omega)
      exact KO.s ((KW.adv (j := 1) h5 hb (by omega) (by omega)).up hb (by omega)) (by omega) (by omega)
    · exact f17
  · exact f17
set_option maxRecDepth 100000 in
/-- put of what a cell reader found -/
theorem kput {w : Nat} (h : KW s0 s b i z9) (hb : b = 102 ∨ 149 ≤ b) (hw : w < 9) (x v : Int32) {K : aS → Option aS} {P : Option aS → Prop} (k : ∀ s1, KW s0 s1 b i z9 → ch (fun a _ => a = b ∨ a = b + 1) s s1 → P (K s1)) : P (bu (dm60 b x (Int32.ofNat w) v s) K) := by
  obtain ⟨s1, a1, a2, a3⟩ := k60 h hb x v w hw
  rw [a1]
  exact k s1 a2 a3
set_option maxRecDepth 100000 in
theorem k95 (h : KW s0 s b i z9) (hb : b = 102 ∨ 149 ≤ b) (x : Int32) : ∃ s', dm95 b x s = some s' ∧ KW s0 s' b i z9 ∧ ch (fun a _ => a = b ∨ a = b + 1) s s' := by
  unfold dm95 dm96 dm97 dm98
  simp only [bu_some]
  obtain ⟨s1, a1, a2, a3⟩ := k60 h hb x (sI s 109 1) 3 (by omega)
  have a1 : dm60 b x 3 (sI s 109 1) s = some s1 := a1
  rw [a1]
  simp only [bu_some]
  obtain ⟨s2, b1, b2, b3⟩ := k60 a2 hb x (sI s1 109 2) 4 (by omega)
  have b1 : dm60 b x 4 (sI s1 109 2) s1 = some s2 := b1
  rw [b1]
  simp only [bu_some]
  obtain ⟨s3, c1, c2, c3⟩ := k60 b2 hb x (sI s2 109 1) 5 (by omega)
  have c1 : dm60 b x 5 (sI s2 109 1) s2 = some s3 := c1
  rw [c1]
  simp only [bu_some]
  obtain ⟨s4, d1, d2, d3⟩ := k60 c2 hb x (sI s3 109 2) 6 (by omega)
  have d1 : dm60 b x 6 (sI s3 109 2) s3 = some s4 := d1
  rw [d1]
  simp only [bu_some]
  obtain ⟨s5, e1, e2, e3⟩ := k60 d2 hb x (sI s4 109 3) 7 (by omega)
  have e1 : dm60 b x 7 (sI s4 109 3) s4 = some s5 := e1
  rw [e1]
  exact ⟨s5, rfl, e2, (((a3.trans b3).trans c3).trans d3).trans e3⟩
set_option maxRecDepth 100000 in
theorem k57 (h : KW s0 s b i z9) (x : Int32) (w : Nat) (hw : w < 11) : ∃ v, dm57 b x (Int32.ofNat w) s = some v := by
  obtain ⟨-, -, ⟨N, u, a1, a2, -⟩, -⟩ := h
  by_cases c : 0 ≤ x.toInt ∧ x.toInt < N
  · obtain ⟨k, hk⟩ : ∃ k, k = x.toInt.toNat := ⟨_, rfl⟩
    have ex : x = Int32.ofNat k := by rw [hk]; exact ofNat_of c.1
    rw [ex, d57 a2 a1 (by omega) hw]
    exact ⟨_, rfl⟩
  · refine ⟨-1, ?_⟩
    unfold dm57 dm57_13 dm57_14
    by_cases c1 : x < 0
    · rw [if_pos c1, if_pos rfl]
    · have z1 : ¬ x.toInt < 0 := fun q => c1 (iLt.mpr q)
      have c2 : sI s b 2 ≤ x := by
        rw [a2, iLe, iOfNat (by omega)]
        omega
      rw [if_neg c1, if_pos c2, if_pos rfl]
set_option maxRecDepth 100000 in
theorem k102 (h : KW s0 s b i z9) (hb : b = 102 ∨ 149 ≤ b) (x : Int32) (w : Nat) (hw : w = 3 ∨ w = 4) : ∃ s', dm102 b x (Int32.ofNat w) s = some s' ∧ KW s0 s' b i z9 ∧ ch (fun a _ => a = b ∨ a = b + 1) s s' := by
  have e2 : Int32.ofNat w + 2 = Int32.ofNat (w + 2) := iSum (i := w) (j := 2) (by omega) (by omega)
  obtain ⟨v1, q1⟩ := k57 h x w (by omega)
  obtain ⟨v2, q2⟩ := k57 h x (w + 2) (by omega)
  unfold dm102
  rw [e2, q1]
  simp only [bu_some]
  rw [q2]
  simp only [bu_some]
  obtain ⟨s1, a1, a2, a3⟩ := k60 h hb x v2 w (by omega)
  rw [a1]
  simp only [bu_some]
  obtain ⟨s2, b1, b2, b3⟩ := k60 a2 hb x v1 (w + 2) (by omega)
  rw [b1]
  simp only [bu_some]
  have f28 : ∀ y, ∃ s', dm102_28 b x y s2 = some s' ∧ KW s0 s' b i z9 ∧ ch (fun a _ => a = b ∨ a = b + 1) s s' := by
    intro y
    obtain ⟨v3, q3⟩ := k57 b2 x 7 (by omega)
    have q3 : dm57 b x 7 s2 = some v3 := q3
    unfold dm102_28
    rw [q3]
    simp only [bu_some]
    obtain ⟨s3, c1, c2, c3⟩ := k60 b2 hb x (((v3 &&& ((y * 5) ^^^ (-1))) + ((v3 &&& y) * 4)) + ((v3 &&& (y * 4)) / 4)) 7 (by omega)
    have c1 : dm60 b x 7 (((v3 &&& ((y * 5) ^^^ (-1))) + ((v3 &&& y) * 4)) + ((v3 &&& (y * 4)) / 4)) s2 = some s3 := c1
    rw [c1]
    exact ⟨s3, rfl, c2, (a3.trans b3).trans c3⟩
  split
  · exact f28 1
  · exact f28 2
set_option maxRecDepth 100000 in
theorem k101 (h : KW s0 s b i z9) (hb : b = 102 ∨ 149 ≤ b) (x : Int32) : ∃ s', dm101 b x s = some s' ∧ KW s0 s' b i z9 ∧ ch (fun a _ => a = b ∨ a = b + 1) s s' := by
  have f13 : ∀ s, KW s0 s b i z9 → ∃ s', dm101_13 b x s = some s' ∧ KW s0 s' b i z9 ∧ ch (fun a _ => a = b ∨ a = b + 1) s s' := by
    intro s h
    obtain ⟨v1, q1⟩ := k57 h x 4 (by omega)
    obtain ⟨v2, q2⟩ := k57 h x 6 (by omega)
    have q1 : dm57 b x 4 s = some v1 := q1
    have q2 : dm57 b x 6 s = some v2 := q2
    unfold dm101_13
    rw [q1]
    simp only [bu_some]
    rw [q2]
    simp only [bu_some]
    split
    · exact ⟨s, rfl, h, ch.refl _ s⟩
    · obtain ⟨s1, a1, a2, a3⟩ := k102 h hb x 4 (Or.inr rfl)
      have a1 : dm102 b x 4 s = some s1 := a1
      rw [a1]
      exact ⟨s1, rfl, a2, a3⟩
  obtain ⟨v1, q1⟩ := k57 h x 3 (by omega)
  obtain ⟨v2, q2⟩ := k57 h x 5 (by omega)
  have q1 : dm57 b x 3 s = some v1 := q1
  have q2 : dm57 b x 5 s = some v2 := q2
  unfold dm101
  rw [q1]
  simp only [bu_some]
  rw [q2]
  simp only [bu_some]
  split
  · exact f13 s h
  · obtain ⟨s1, a1, a2, a3⟩ := k102 h hb x 3 (Or.inl rfl)
    have a1 : dm102 b x 3 s = some s1 := a1
    rw [a1]
    simp only [bu_some]
    obtain ⟨s2, b1, b2, b3⟩ := f13 s1 a2
    exact ⟨s2, b1, b2, a3.trans b3⟩
set_option maxRecDepth 100000 in
theorem k100 (h : KW s0 s b i z9) (hb : b = 102 ∨ 149 ≤ b) (x : Int32) : ∃ s', dm100 b x s = some s' ∧ KW s0 s' b i z9 ∧ ch (fun a _ => a = b ∨ a = b + 1) s s' := by
  unfold dm100 dm96 dm97 dm98
  obtain ⟨s1, a1, a2, a3⟩ := k60 h hb x 5 0 (by omega)
  have a1 : dm60 b x 0 5 s = some s1 := a1
  rw [a1]
  simp only [bu_some]
  obtain ⟨s2, b1, b2, b3⟩ := k60 a2 hb x (sI s1 109 1) 5 (by omega)
  have b1 : dm60 b x 5 (sI s1 109 1) s1 = some s2 := b1
  rw [b1]
  simp only [bu_some]
  obtain ⟨s3, c1, c2, c3⟩ := k60 b2 hb x (sI s2 109 2) 6 (by omega)
  have c1 : dm60 b x 6 (sI s2 109 2) s2 = some s3 := c1
  rw [c1]
  simp only [bu_some]
  obtain ⟨v3, q3⟩ := k57 c2 x 7 (by omega)
  have q3 : dm57 b x 7 s3 = some v3 := q3
  rw [q3]
  simp only [bu_some]
  obtain ⟨s4, d1, d2, d3⟩ := k60 c2 hb x (v3 + (sI s3 109 3 * 4)) 7 (by omega)
  have d1 : dm60 b x 7 (v3 + (sI s3 109 3 * 4)) s3 = some s4 := d1
  rw [d1]
  simp only [bu_some]
  obtain ⟨s5, e1, e2, e3⟩ := k101 d2 hb x
  rw [e1]
  exact ⟨s5, rfl, e2, (((a3.trans b3).trans c3).trans d3).trans e3⟩
set_option maxRecDepth 100000 in
/-- a reference that must come here -/
theorem k88 (h0 : KS s0 b t ns) (h : KW s0 s b i i) (hi : i ≤ t.length) : KO s0 b i t.length (dm88 s) := by
  have hb := h0.2.1.2.2.1
  have hl := h0.1.2.1
  obtain ⟨v, s1, a1, a2, e, a3, a4, a5⟩ := k89 h0 h hi
  have k1 := K9.kw (j := 0) h hb a2
  have nob : ∀ (s2 s3 : aS), ch (fun a _ => a = b ∨ a = b + 1) s2 s3 → sI s3 109 0 = sI s2 109 0 := fun s2 s3 c => c.i (by omega)
  unfold dm88 dm93
  rw [h.2.1, a1]
  simp only [bv_some]
  split
  · simp only [bu_some, nx_eq]
    exact KO.s (KW.fld k1 hb (by omega)) (Nat.le_refl _) hi
  · obtain ⟨v2, s2, c1, c2, c3⟩ := k70 h0 k1 (sI s1 106 11)
    rw [c1]
    simp only [bv_some]
    split
    · exact KO.s c2 (Nat.le_refl _) hi
    · unfold dm94
      rw [(ktr h0 c2).1, if_pos (ktr (β := aS) (x := none) (f := fun _ => none) h0 c2).2]
      simp only [bu_some]
      rw [(ktr h0 c2).1, if_pos (ktr (β := aS) (x := none) (f := fun _ => none) h0 c2).2]
      obtain ⟨s3, d1, d2, d3⟩ := k72 c2 hb (sI s2 b 2) 4 0
      rw [d1]
      simp only [bu_some]
      rw [(ktr h0 d2).1, if_pos (ktr (β := aS) (x := none) (f := fun _ => none) h0 d2).2]
      obtain ⟨s4, f1, f2, f3⟩ := k60 d2 hb (sI s2 b 2) (sI s3 106 12) 2 (by omega)
      have f1 : dm60 b (sI s2 b 2) 2 (sI s3 106 12) s3 = some s4 := f1
      rw [f1]
      simp only [bu_some]
      rw [(ktr h0 f2).1, if_pos (ktr (β := aS) (x := none) (f := fun _ => none) h0 f2).2]
      obtain ⟨s5, g1, g2, g3⟩ := k95 f2 hb (sI s2 b 2)
      rw [g1]
      simp only [bu_some]
      obtain ⟨s6, m1, m2, m3⟩ := k81 hb g2 (sI s2 b 2)
      rw [m1]
      simp only [bu_some, nx_eq]
      have e6 : sI (wI s6 106 9 5) 109 0 = Int32.ofNat e := by
        rw [sI_wI, if_neg (by omega), m3.i (by omega), nob _ _ g3, nob _ _ f3, nob _ _ d3, c3.i (by omega)]
        exact a3
      rw [e6]
      exact KO.s (((KW.fld (k := 9) (v := 5) m2 hb (by omega)).at hb).up hb a4) a4 a5
set_option maxRecDepth 100000 in
theorem k99 (h0 : KS s0 b t ns) (h : KW s0 s b i i) (hi : i ≤ t.length) : KO s0 b i t.length (dm99 s) := by
  have hb := h0.2.1.2.2.1
  have hl := h0.1.2.1
  obtain ⟨v, s1, a1, a2, e, a3, a4, a5⟩ := k89 h0 h hi
  have k1 := K9.kw (j := 0) h hb a2
  unfold dm99 dm93
  rw [h.2.1, a1]
  simp only [bv_some]
  split
  · simp only [bu_some, nx_eq]
    exact KO.s (KW.fld k1 hb (by omega)) (Nat.le_refl _) hi
  · rw [(ktr h0 k1).1, if_pos (ktr (β := aS) (x := none) (f := fun _ => none) h0 k1).2]
    obtain ⟨s2, c1, c2, c3⟩ := k100 k1 hb (sI s1 106 10)
    rw [c1]
    simp only [bu_some, nx_eq]
    have e6 : sI (wI s2 106 9 4) 109 0 = Int32.ofNat e := by
      rw [sI_wI, if_neg (by omega), c3.i (by omega)]
      exact a3
    rw [e6]
    exact KO.s (((KW.fld (k := 9) (v := 4) c2 hb (by omega)).at hb).up hb a4) a4 a5
set_option maxRecDepth 100000 in
/-- a token with the letters that are held -/
theorem k106w {hd : List Int32} (h0 : KS s0 b t ns) (h : KW s0 s b i z9) (hh : HH s hd) (hz : z9 + hd.length ≤ i) (hi : i ≤ t.length) (x1 x2 : Int32) : ∃ s', dm106 x1 x2 s = some s' ∧ KW s0 s' b i i := by
  have hb := h0.2.1.2.2.1
  have hl := h0.1.2.1
  obtain ⟨v2, s2, c1, c2, c3⟩ := k70 h0 h x2
  unfold dm106 dm94
  rw [c1]
  simp only [bv_some]
  split
  · exact ⟨s2, rfl, c2.up hb (by omega)⟩
  · rw [(ktr h0 c2).1, if_pos (ktr (β := aS) (x := none) (f := fun _ => none) h0 c2).2]
    simp only [bu_some]
    rw [(ktr h0 c2).1, if_pos (ktr (β := aS) (x := none) (f := fun _ => none) h0 c2).2]
    obtain ⟨s3, d1, d2, d3⟩ := k72 c2 hb (sI s2 b 2) x1 0
    rw [d1]
    simp only [bu_some]
    rw [(ktr h0 d2).1, if_pos (ktr (β := aS) (x := none) (f := fun _ => none) h0 d2).2]
    have hh3 : HH s3 hd := ⟨(hh.1.of c3 (by omega) (fun k => by omega)).of d3 (by omega) (fun k => by omega), hh.2⟩
    obtain ⟨s4, f1, f2⟩ := k107 h0 d2 hh3 (by omega) (sI s2 b 2)
    rw [f1]
    simp only [bu_some]
    obtain ⟨s5, g1, g2, g3⟩ := k81 hb f2 (sI s2 b 2)
    rw [g1]
    exact ⟨s5, rfl, g2.up hb hz⟩
set_option maxRecDepth 100000 in
theorem k106 {hd : List Int32} (h0 : KS s0 b t ns) (h : KW s0 s b i z9) (hh : HH s hd) (hz : z9 + hd.length ≤ i) (hi : i ≤ t.length) (x1 x2 : Int32) : KO s0 b z9 t.length (dm106 x1 x2 s) := by
  obtain ⟨s', a1, a2⟩ := k106w h0 h hh hz hi x1 x2
  exact ⟨s', i, a1, a2, by omega, hi⟩
set_option maxRecDepth 100000 in
theorem k111 (h0 : KS s0 b t ns) (h : KW s0 s b i z9) (hz : z9 ≤ i) (hi : i ≤ t.length) (x1 x2 x3 : Int32) : KO s0 b z9 t.length (dm111 x1 x2 x3 s) := by
  have hb := h0.2.1.2.2.1
  have hl := h0.1.2.1
  obtain ⟨v2, s2, c1, c2, c3⟩ := k70 h0 h x3
  unfold dm111 dm94
  rw [c1]
  simp only [bv_some]
  split
  · exact KO.s (c2.up hb (by omega)) (by omega) hi
  · rw [(ktr h0 c2).1, if_pos (ktr (β := aS) (x := none) (f := fun _ => none) h0 c2).2]
    simp only [bu_some]
    rw [(ktr h0 c2).1, if_pos (ktr (β := aS) (x := none) (f := fun _ => none) h0 c2).2]
    obtain ⟨s3, d1, d2, d3⟩ := k72 c2 hb (sI s2 b 2) x1 0
    rw [d1]
    simp only [bu_some]
    rw [(ktr h0 d2).1, if_pos (ktr (β := aS) (x := none) (f := fun _ => none) h0 d2).2]
    obtain ⟨s4, f1, f2, f3⟩ := k60 d2 hb (sI s2 b 2) x2 8 (by omega)
    have f1 : dm60 b (sI s2 b 2) 8 x2 s3 = some s4 := f1
    rw [f1]
    simp only [bu_some]
    obtain ⟨s5, g1, g2, g3⟩ := k81 hb f2 (sI s2 b 2)
    rw [g1]
    exact KO.s (g2.up hb hz) (by omega) hi
end KK
end
section
/-! the reader of FormulaTrees: tokens -/
section KK
variable {s0 s : aS} {b i z9 : Nat} {t : List Int32} {ns : List (List Int32)}
set_option maxRecDepth 100000 in
theorem k121 {j mx : Nat} (h0 : KS s0 b t ns) (h : KW s0 s b j z9) (hj : j ≤ t.length) (hmx : mx ≤ 256) : ∃ v s' e, dm121 (Int32.ofNat mx) s = some (v, s') ∧ KW s0 s' b e z9 ∧ j ≤ e ∧ e ≤ t.length := by
  have hb := h0.2.1.2.2.1
  have hl := h0.1.2.1
  have loop : ∀ (m q n j : Nat) (s : aS), KW s0 s b j z9 → q + m = mx → m < n → j ≤ t.length → ∃ v s' e, dm121_2 n (Int32.ofNat mx) (Int32.ofNat q) s = some (v, s') ∧ KW s0 s' b e z9 ∧ j ≤ e ∧ e ≤ t.length := by
    intro m
    induction m with
    | zero =>
      intro q n j s h h1 h2 h3
      obtain ⟨n, rfl⟩ : ∃ q, n = q + 1 := ⟨n - 1, by omega⟩
      rw [dm121_2, if_pos ((nle_iff (by omega) (by omega)).mpr (by omega))]
      exact ⟨_, s, j, rfl, h, Nat.le_refl _, h3⟩
    | succ m ih =>
      intro q n j s h h1 h2 h3
      obtain ⟨n, rfl⟩ : ∃ q, n = q + 1 := ⟨n - 1, by omega⟩
      rw [dm121_2, if_neg (fun z => by have := (nle_iff (by omega) (by omega)).mp z; omega), h.2.1, kch h0 h (by omega)]
      simp only [bu_some, d47, nx_eq]
      by_cases c : isD (t.getD j (-1))
      · rw [if_neg (fun z => b01_ne.mp z c)]
        have he := kin isDm c
        rw [ofNat_succ (n := j) (by omega), ofNat_succ (n := q) (by omega)]
        obtain ⟨v, s', e, g1, g2, g3, g4⟩ := ih (q + 1) n (j + 1) _ (h.at hb) (by omega) (by omega) (by omega)
        exact ⟨v, s', e, g1, g2, by omega, g4⟩
      · rw [if_pos (b01_ne.mpr c)]
        exact ⟨_, s, j, rfl, h, Nat.le_refl _, h3⟩
  exact loop mx 0 5000 j s h (by omega) (by omega) hj
set_option maxRecDepth 100000 in
theorem k120 (h0 : KS s0 b t ns) (h : KW s0 s b i i) (hi : i < t.length) : KO s0 b i t.length (dm120 s) := by
  have hb := h0.2.1.2.2.1
  have hl := h0.1.2.1
  have f78 : ∀ (x3 : Int32) (j : Nat) (s : aS), KW s0 s b j i → i ≤ j → j ≤ t.length → KO s0 b i t.length (dm120_78 (Int32.ofNat i) x3 s) := by
    intro x3 j s h h1 h2
    unfold dm120_78
    split
    · rw [nx_eq]
      exact KO.s ((KW.fld h hb (by omega)).up hb h1) h1 h2
    · rw [h.2.1]
      obtain ⟨s1, hd, a1, a2, a3, a4⟩ := k122 h0 h h1 h2
      rw [a1]
      simp only [bu_some]
      exact (k106 h0 a2 a3 (by omega) h2 0 (Int32.ofNat i)).b fun s2 j c1 c2 c3 => KO.s c1 c2 c3
  have f68 : ∀ (w j : Nat) (s : aS), KW s0 s b j i → i ≤ j → j + w ≤ t.length → KO s0 b i t.length (dm120_68 (Int32.ofNat i) (sI s 106 7) (Int32.ofNat w) s) := by
    intro w j s h h1 h2
    unfold dm120_68 dm120_77
    rw [h.2.1, iSum (by omega) (by omega), nx_eq]
    obtain ⟨v, s1, e, a1, a2, a3, a4⟩ := k121 (mx := 3) h0 (h.at hb) h2 (by omega)
    have a1 : dm121 3 (wI s 106 7 (Int32.ofNat (j + w))) = some (v, s1) := a1
    rw [a1]
    simp only [bv_some]
    split
    · exact f78 0 e s1 a2 (by omega) a4
    · exact f78 1 e s1 a2 (by omega) a4
  have f31 : ∀ (y : Int32) (j : Nat) (s : aS), KW s0 s b j i → i ≤ j → j ≤ t.length → KO s0 b i t.length (dm120_31 (Int32.ofNat i) y s) := by
    intro y j s h h1 h2
    unfold dm120_31 dm120_65
    split
    · exact f78 y j s h h1 h2
    · rw [h.2.1, kch h0 h (by omega)]
      simp only [bu_some, d35]
      split
      · rename_i c
        have he : j < t.length := by
          by_cases z : j < t.length
          · exact z
          · rw [getD_out (by omega)] at c
            exact absurd c (by decide)
        rw [nx_eq, ofNat_succ (by omega)]
        have h' := h.at (j := j + 1) hb
        rw [h'.2.1, kch h0 h' (by omega)]
        simp only [bu_some]
        split
        · rename_i c2
          have := kin (p := fun x => x = 43) (by decide) c2
          have q := f68 1 (j + 1) _ h' (by omega) (by omega)
          rw [h'.2.1] at q
          exact q
        · split
          · rename_i c2
            have := kin (p := fun x => x = 45) (by decide) c2
            have q := f68 1 (j + 1) _ h' (by omega) (by omega)
            rw [h'.2.1] at q
            exact q
          · have q := f68 0 (j + 1) _ h' (by omega) (by omega)
            rw [h'.2.1] at q
            exact q
      · exact f78 y j s h h1 h2
  have f26 : ∀ (x2 : Int32) (j : Nat) (s : aS), KW s0 s b j i → i ≤ j → j ≤ t.length → KO s0 b i t.length (dm120_26 (Int32.ofNat i) x2 s) := by
    intro x2 j s h h1 h2
    unfold dm120_26
    split
    · exact f31 0 j s h h1 h2
    · exact f31 1 j s h h1 h2
  unfold dm120
  rw [h.2.1]
  obtain ⟨v, s1, e, a1, a2, a3, a4⟩ := k121 (mx := 256) h0 h (by omega) (by omega)
  have a1 : dm121 256 s = some (v, s1) := a1
  rw [a1]
  simp only [bv_some]
  rw [a2.2.1, kch h0 a2 (by omega)]
  simp only [bu_some]
  split
  · rename_i c
    have he := kin (p := fun x => x = 46) (by decide) c
    rw [nx_eq, ofNat_succ (by omega)]
    obtain ⟨v2, s2, e2, c1, c2, c3, c4⟩ := k121 (mx := 256) h0 (a2.at (j := e + 1) hb) (by omega) (by omega)
    have c1 : dm121 256 (wI s1 106 7 (Int32.ofNat (e + 1))) = some (v2, s2) := c1
    rw [c1]
    simp only [bv_some]
    exact f26 _ e2 s2 c2 (by omega) c4
  · exact f26 _ e s1 a2 a3 a4
set_option maxRecDepth 100000 in
/-- what stands in quotes -/
theorem k105 (h0 : KS s0 b t ns) (h : KW s0 s b i i) (hi : i < t.length) (q : Int32) (hq : ¬ q = -1) : ∃ v s' e hd, dm105 q s = some (v, s') ∧ KW s0 s' b e i ∧ HH s' hd ∧ i + hd.length + 1 ≤ e ∧ e ≤ t.length := by
  have hb := h0.2.1.2.2.1
  have hl := h0.1.2.1
  have ho := h0.1.2.2.1
  have loop : ∀ (m j n : Nat) (s : aS) (hd : List Int32) (x2 : Int32), KW s0 s b j i → HH s hd → (x2 = 0 ∨ x2 = 1) → i + hd.length + 1 ≤ j → j ≤ t.length → t.length ≤ j + m → m + 1 < n → ∃ v s' e hd', dm105_11 n q x2 s = some (v, s') ∧ KW s0 s' b e i ∧ HH s' hd' ∧ i + hd'.length + 1 ≤ e ∧ e ≤ t.length := by
    intro m
    induction m with
    | zero =>
      intro j n s hd x2 h hh hx h1 h2 h3 h4
      obtain ⟨n, rfl⟩ : ∃ q, n = q + 1 := ⟨n - 1, by omega⟩
      rw [dm105_11, klen h0 h, h.2.1]
      simp only [bu_some]
      rw [if_pos ((nle_iff (by omega) (by omega)).mpr (by omega)), if_pos hx]
      exact ⟨x2, s, j, hd, rfl, h, hh, h1, h2⟩
    | succ m ih =>
      intro j n s hd x2 h hh hx h1 h2 h3 h4
      obtain ⟨n, rfl⟩ : ∃ q, n = q + 1 := ⟨n - 1, by omega⟩
      rw [dm105_11, klen h0 h, h.2.1]
      simp only [bu_some]
      by_cases c : t.length ≤ j
      · rw [if_pos ((nle_iff (by omega) (by omega)).mpr c), if_pos hx]
        exact ⟨x2, s, j, hd, rfl, h, hh, h1, h2⟩
      · rw [if_neg (fun z => c ((nle_iff (by omega) (by omega)).mp z))]
        have hj : j < t.length := by omega
        rcases hx with rfl | rfl
        · rw [if_pos rfl, kch h0 h (by omega)]
          simp only [bu_some]
          have go : ∀ (s1 : aS) (hd1 : List Int32) (y : Int32) (w : Nat), KW s0 s1 b j i → HH s1 hd1 → (y = 0 ∨ y = 1) → i + hd1.length + 1 ≤ j + w → 1 ≤ w → j + w ≤ t.length → ∃ v s' e hd', dm105_65 (dm105_11 n) q y (sI s1 106 7) (Int32.ofNat w) s1 = some (v, s') ∧ KW s0 s' b e i ∧ HH s' hd' ∧ i + hd'.length + 1 ≤ e ∧ e ≤ t.length := by
            intro s1 hd1 y w k1 k2 k3 k4 k5 k6
            unfold dm105_65
            rw [k1.2.1, iSum (by omega) (by omega), nx_eq]
            have hh1 : HH (wI s1 106 7 (Int32.ofNat (j + w))) hd1 := ⟨k2.1.of ((ch.refl (fun a k => a = 106 ∧ k = 7) s1).wI ⟨rfl, rfl⟩) (by omega) (fun k => by omega), k2.2⟩
            exact ih (j + w) n _ hd1 y (k1.at hb) hh1 k3 k4 k6 (by omega) (by omega)
          have f55 : ∀ (s1 : aS) (hd1 : List Int32) (y x3 : Int32), KW s0 s1 b j i → HH s1 hd1 → (y = 0 ∨ y = 1) → i + hd1.length + 1 ≤ j + 1 → (¬ x3 = 0 → y = 0 → j + 2 ≤ t.length) → ∃ v s' e hd', dm105_55 (dm105_11 n) q y x3 s1 = some (v, s') ∧ KW s0 s' b e i ∧ HH s' hd' ∧ i + hd'.length + 1 ≤ e ∧ e ≤ t.length := by
            intro s1 hd1 y x3 k1 k2 k3 k4 k5
            unfold dm105_55 dm105_64
            split
            · exact go s1 hd1 y 1 k1 k2 k3 k4 (by omega) (by omega)
            · split
              · rename_i c1 c2
                exact go s1 hd1 y 2 k1 k2 k3 (by omega) (by omega) (k5 c1 c2)
              · exact go s1 hd1 y 1 k1 k2 k3 k4 (by omega) (by omega)
          have f44 : ∀ (x3 y : Int32), (y = 0 ∨ y = 1) → (¬ x3 = 0 → y = 0 → j + 2 ≤ t.length) → ∃ v s' e hd', dm105_44 (dm105_11 n) q x3 y s = some (v, s') ∧ KW s0 s' b e i ∧ HH s' hd' ∧ i + hd'.length + 1 ≤ e ∧ e ≤ t.length := by
            intro x3 y k1 k2
            unfold dm105_44
            split
            · rw [h.2.1, kch h0 h (by omega)]
              simp only [bu_some]
              obtain ⟨s1, a1, a2, a3⟩ := kHadd h0 h hh (by omega) (okc ho hj)
              rw [a1]
              simp only [bu_some]
              exact f55 s1 _ y x3 a2 a3 k1 (by rw [List.length_append]; show i + (hd.length + 1) + 1 ≤ j + 1; omega) k2
            · exact f55 s hd y x3 h hh k1 (by omega) k2
          unfold dm105_29 dm105_43
          split
          · rw [if_neg (by decide), h.2.1, ofNat_succ (by omega), kch h0 h (by omega)]
            simp only [bu_some]
            split
            · rename_i c2
              have := kin (p := fun x => x = q) (fun z => hq z.symm) c2
              exact f44 1 0 (Or.inl rfl) (fun _ _ => by omega)
            · exact f44 1 1 (Or.inr rfl) (fun _ z => absurd z (by decide))
          · rw [if_pos rfl]
            exact f44 0 0 (Or.inl rfl) (fun z => absurd rfl z)
        · rw [if_neg (by decide), if_pos (Or.inr rfl)]
          exact ⟨1, s, j, hd, rfl, h, hh, h1, h2⟩
  unfold dm105
  obtain ⟨s1, a1, a2, a3⟩ := kHclr h0 h
  rw [a1]
  simp only [bu_some, nx_eq]
  rw [a2.2.1, ofNat_succ (by omega)]
  have hh1 : HH (wI s1 106 7 (Int32.ofNat (i + 1))) [] := ⟨a3.1.of ((ch.refl (fun a k => a = 106 ∧ k = 7) s1).wI ⟨rfl, rfl⟩) (by omega) (fun k => by omega), a3.2⟩
  exact loop t.length (i + 1) 5000 _ [] 0 (a2.at hb) hh1 (Or.inl rfl) (by simp) (by omega) (by omega) (by omega)
set_option maxRecDepth 100000 in
theorem k104 (h0 : KS s0 b t ns) (h : KW s0 s b i i) (hi : i < t.length) : KO s0 b i t.length (dm104 s) := by
  have hb := h0.2.1.2.2.1
  obtain ⟨v, s1, e, hd, a1, a2, a3, a4, a5⟩ := k105 h0 h hi 34 (by decide)
  unfold dm104
  rw [a1]
  simp only [bv_some]
  split
  · rw [nx_eq]
    exact KO.s ((KW.fld a2 hb (by omega)).up hb (by omega)) (by omega) a5
  · exact (k106 h0 a2 a3 (by omega) a5 1 (sI s 106 7)).b fun s2 j c1 c2 c3 => KO.s c1 c2 c3
set_option maxRecDepth 100000 in
theorem k112 (hb : b = 102 ∨ 149 ≤ b) (h : KW s0 s b i z9) (x y : Int32) : ∃ s', dm112 x y s = some s' ∧ KW s0 s' b i z9 := ⟨_, rfl, KW.fld (KW.fld (KW.fld h hb (by omega)) hb (by omega)) hb (by omega)⟩
set_option maxRecDepth 100000 in
theorem k114 {hd : List Int32} {e : Nat} (h0 : KS s0 b t ns) (h : KW s0 s b e z9) (hh : HH s hd) (hz : z9 ≤ e) (he : e < t.length) (x : Int32) : KO s0 b z9 t.length (dm114 x s) := by
  have hb := h0.2.1.2.2.1
  have hl := h0.1.2.1
  have hs := h0.of h.1
  have e32 := d32 (b := 107) hs.2.2.1 hs.2.2.2.2.1 hs.2.2.2.1 hh.1 (by show hd.length ≤ (sT s 108).2; rw [hs.2.1.2.2.2.2]; exact hh.2.1) (by have := hh.2.1; omega)
  unfold dm114
  rw [e32]
  simp only [bu_some]
  split
  · rw [nx_eq]
    exact KO.s ((KW.fld h hb (by omega)).up hb hz) hz (by omega)
  · rw [nx_eq, h.2.1, ofNat_succ (by omega)]
    obtain ⟨s1, a1, a2⟩ := k112 hb (h.at (j := e + 1) hb) x (fndF hd ns 0)
    rw [a1]
    exact KO.s (a2.up hb (by omega)) (by omega) (by omega)
set_option maxRecDepth 100000 in
theorem k113 (h0 : KS s0 b t ns) (h : KW s0 s b i i) (hi : i < t.length) : KO s0 b i t.length (dm113 s) := by
  have hb := h0.2.1.2.2.1
  have hl := h0.1.2.1
  obtain ⟨v, s1, e, hd, a1, a2, a3, a4, a5⟩ := k105 h0 h hi 39 (by decide)
  have f18 : KO s0 b i t.length (dm113_18 s1) := by
    unfold dm113_18
    rw [nx_eq]
    exact KO.s ((KW.fld a2 hb (by omega)).up hb (by omega)) (by omega) a5
  unfold dm113
  rw [a1]
  simp only [bv_some]
  split
  · exact f18
  · rw [a2.2.1, kch h0 a2 (by omega)]
    simp only [bu_some]
    split
    · rename_i c
      have he := kin (p := fun x => x = 33) (by decide) c
      exact (k114 h0 a2 a3 (by omega) he (sI s 106 7)).b fun s2 j c1 c2 c3 => KO.s c1 c2 c3
    · exact f18
set_option maxRecDepth 100000 in
theorem k115 {e : Nat} (h0 : KS s0 b t ns) (h : KW s0 s b e e) (he : e < t.length) (x y : Int32) : KO s0 b e t.length (dm115 x y s) := by
  have hb := h0.2.1.2.2.1
  have hl := h0.1.2.1
  unfold dm115 dm82 dm116
  simp only [bu_some]
  split
  · obtain ⟨s1, a1, a2⟩ := k117 hb h x y (sI s 110 2)
    rw [a1]
    simp only [bu_some]
    have f25 : ∀ z, KO s0 b e t.length (dm115_25 z s1) := fun z => by
      unfold dm115_25
      simp only [nx_eq]
      have h5 := KW.fld (k := 9) (v := z) a2 hb (by omega)
      exact KO.s ((KW.adv (j := 1) h5 hb (by omega) (by omega)).up hb (by omega)) (by omega) (by omega)
    split
    · exact f25 1
    · exact f25 0
  · rw [nx_eq]
    exact KO.s (KW.fld h hb (by omega)) (Nat.le_refl _) (by omega)
set_option maxRecDepth 100000 in
theorem k118 (h0 : KS s0 b t ns) (h : KW s0 s b i i) (hi : i < t.length) : KO s0 b i t.length (dm118 s) := by
  have hb := h0.2.1.2.2.1
  have hl := h0.1.2.1
  obtain ⟨v2, s2, c1, c2, c3⟩ := k70 h0 h (sI s 106 7)
  unfold dm118 dm94
  rw [c1]
  simp only [bv_some]
  split
  · exact KO.s c2 (by omega) (by omega)
  · rw [(ktr h0 c2).1, if_pos (ktr (β := aS) (x := none) (f := fun _ => none) h0 c2).2]
    simp only [bu_some]
    obtain ⟨s3, d1, d2⟩ := k87 hb c2 6 (sI s2 b 2)
    rw [d1]
    simp only [bu_some]
    rw [(ktr h0 d2).1, if_pos (ktr (β := aS) (x := none) (f := fun _ => none) h0 d2).2]
    rw [(ktr h0 d2).1, if_pos (ktr (β := aS) (x := none) (f := fun _ => none) h0 d2).2]
    obtain ⟨s4, f1, f2, f3⟩ := k72 d2 hb (sI s3 b 2) 10 1
    rw [f1]
    simp only [bu_some, nx_eq]
    have h5 := KW.fld (k := 9) (v := 1) f2 hb (by omega)
    exact KO.s ((KW.adv (j := 1) h5 hb (by omega) (by omega)).up hb (by omega)) (by omega) (by omega)
set_option maxRecDepth 100000 in
theorem k119 (h0 : KS s0 b t ns) (h : KW s0 s b i i) (hi : i < t.length) (x : Int32) : KO s0 b i t.length (dm119 x s) := by
  have hb := h0.2.1.2.2.1
  have hl := h0.1.2.1
  have f17 : KO s0 b i t.length (dm119_17 x s) := by
    obtain ⟨v2, s2, c1, c2, c3⟩ := k70 h0 h (sI s 106 7)
    unfold dm119_17 dm94
    rw [c1]
    simp only [bv_some]
    split
    · exact KO.s c2 (by omega) (by omega)
    · rw [(ktr h0 c2).1, if_pos (ktr (β := aS) (x := none) (f := fun _ => none) h0 c2).2]
      rw [(ktr h0 c2).1, if_pos (ktr (β := aS) (x := none) (f := fun _ => none) h0 c2).2]
      simp only [bu_some]
      obtain ⟨s4, f1, f2, f3⟩ := k72 c2 hb (sI s2 b 2) 8 0
      rw [f1]
      simp only [bu_some]
      exact (k75 h0 f2 hi x).b fun s2 j c1 c2 c3 => KO.s c1 c2 c3
  unfold dm119
  split
  · split
    · exact f17
    · obtain ⟨v, e⟩ := k74 h
      rw [e]
      simp only [bu_some]
      split
      · exact (k77 h0 h hi).b fun s2 j c1 c2 c3 => KO.s c1 c2 c3
      · exact f17
  · rw [nx_eq]
    exact KO.s (KW.fld h hb (by omega)) (Nat.le_refl _) (by omega)
end KK
end
section
/-! the reader of FormulaTrees: errors and words, and the whole of it -/
section KK
variable {s0 s : aS} {b i z9 : Nat} {t : List Int32} {ns : List (List Int32)}
set_option maxRecDepth 100000 in
theorem erN_p : ∀ e ∈ List.range 8, ∀ x ∈ erN e, 0 ≤ x.toInt ∧ x.toInt ≤ 127 := by decide
set_option maxRecDepth 100000 in
theorem erN_l : ∀ e ∈ List.range 8, 4 ≤ (erN e).length ∧ (erN e).length ≤ 7 := by decide
set_option maxRecDepth 100000 in
theorem k49 {e m o : Nat} (h0 : KS s0 b t ns) (h : KW s0 s b i z9) (he : 1 ≤ e ∧ e < 8) (hm : 1 ≤ m ∧ m ≤ 7) (ho : o ≤ 300) : ∃ v, dm49 79 (19 + 2 * e) (Int32.ofNat m) (Int32.ofNat o) s = some (v, s) ∧ (¬ v = 0 → m ≤ (erN e).length ∧ spQ t (erN e) o m 0) := by
  have hl := h0.1.2.1
  have hs := h0.of h.1
  have hST := (hs.2.2.2.2.2.2 e he.1 he.2).1
  have hlen := erN_l e (List.mem_range.mpr he.2)
  by_cases c : m ≤ (erN e).length
  · refine ⟨b01 (spQ t (erN e) o m 0), d49 hs.1.1 (by rw [hs.1.2.2.2]; exact hl) (by omega) hST (by omega) c (by omega) (erN_p e (List.mem_range.mpr he.2)), fun q => ⟨c, ?_⟩⟩
    exact Classical.byContradiction fun z => q (b01_ne.mpr z)
  · refine ⟨0, ?_, fun q => absurd rfl q⟩
    unfold dm49 dm49_7
    rw [d254 hST (by omega)]
    simp only [bu_some]
    rw [if_pos ((nlt_iff (by omega) (by omega)).mpr (by omega)), dm49_10, if_neg (fun q => by have := (nle_iff (b := 0) (by omega) (by omega)).mp q; omega), if_pos rfl, if_pos (Or.inl rfl)]
set_option maxRecDepth 100000 in
theorem k110 {e : Nat} (he : 1 ≤ e ∧ e < 8) : dm110 (Int32.ofNat e) = some (.ref (19 + 2 * e)) := by
  match e, he with
  | 1, _ => rfl
  | 2, _ => rfl
  | 3, _ => rfl
  | 4, _ => rfl
  | 5, _ => rfl
  | 6, _ => rfl
  | 7, _ => rfl
set_option maxRecDepth 100000 in
theorem k109 {m o : Nat} (h0 : KS s0 b t ns) (h : KW s0 s b i z9) (hm : 1 ≤ m ∧ m ≤ 7) (ho : o ≤ 300) : ∃ e, dm109 (Int32.ofNat o) (Int32.ofNat m) s = some (Int32.ofNat e, s) ∧ (e = 0 ∨ ((1 ≤ e ∧ e < 8) ∧ m ≤ (erN e).length ∧ spQ t (erN e) o m 0)) := by
  have hs := h0.of h.1
  have loop : ∀ (q e n : Nat), e + q = 8 → 1 ≤ e → q < n → ∃ r, dm109_2 n (Int32.ofNat o) (Int32.ofNat m) (Int32.ofNat e) s = some (Int32.ofNat r, s) ∧ (r = 0 ∨ ((1 ≤ r ∧ r < 8) ∧ m ≤ (erN r).length ∧ spQ t (erN r) o m 0)) := by
    intro q
    induction q with
    | zero =>
      intro e n h1 h2 h3
      obtain ⟨n, rfl⟩ : ∃ q, n = q + 1 := ⟨n - 1, by omega⟩
      have : e = 8 := by omega
      subst this
      rw [dm109_2, if_pos (by decide)]
      exact ⟨0, rfl, Or.inl rfl⟩
    | succ q ih =>
      intro e n h1 h2 h3
      obtain ⟨n, rfl⟩ : ∃ q, n = q + 1 := ⟨n - 1, by omega⟩
      have he : 1 ≤ e ∧ e < 8 := by omega
      rw [dm109_2, if_neg (fun z => by have := (nlt_iff (a := 7) (by omega) (by omega)).mp z; omega), k110 he]
      simp only [bu_some]
      show ∃ r, (if aK s (19 + 2 * e) 70 then bv (dm49 79 (19 + 2 * e) (Int32.ofNat m) (Int32.ofNat o) s) fun r11 s10 => if r11 = 0 then dm109_2 n (Int32.ofNat o) (Int32.ofNat m) (Int32.ofNat e + 1) s10 else some (Int32.ofNat e, s10) else none) = some (Int32.ofNat r, s) ∧ _
      rw [if_pos (hs.2.2.2.2.2.2 e he.1 he.2).2]
      obtain ⟨v, e1, e2⟩ := k49 h0 h he hm ho
      rw [e1]
      simp only [bv_some]
      by_cases c : v = 0
      · rw [if_pos c, ofNat_succ (by omega)]
        exact ih (e + 1) n (by omega) (by omega) (by omega)
      · rw [if_neg c]
        exact ⟨e, rfl, Or.inr ⟨he, e2 c⟩⟩
  exact loop 7 1 5000 (by omega) (by omega) (by omega)
set_option maxRecDepth 100000 in
theorem sp_in {u : List Int32} {o m : Nat} (h : spQ t u o m 0) (hm : 1 ≤ m) (hu : m ≤ u.length) (hp : ∀ x ∈ u, 0 ≤ x.toInt ∧ x.toInt ≤ 127) : o + m ≤ t.length := by
  have := h (m - 1) (Nat.zero_le _) (by omega)
  by_cases c : o + (m - 1) < t.length
  · omega
  · exfalso
    rw [getD_out (by omega), getD_in (show m - 1 < u.length by omega)] at this
    have h1 := (hp _ (List.getElem_mem (show m - 1 < u.length by omega))).1
    rw [← this] at h1
    exact absurd h1 (by decide)
set_option maxRecDepth 100000 in
theorem k108 (h0 : KS s0 b t ns) (h : KW s0 s b i i) (hi : i < t.length) : KO s0 b i t.length (dm108 s) := by
  have hb := h0.2.1.2.2.1
  have hl := h0.1.2.1
  have hs := h0.of h.1
  have f38 : ∀ e, (1 ≤ e ∧ e < 8) → i + (erN e).length ≤ t.length → KO s0 b i t.length (dm108_38 (Int32.ofNat i) (Int32.ofNat e) s) := by
    intro e he hle
    unfold dm108_38
    rw [k110 he]
    simp only [bu_some]
    show KO s0 b i t.length (if aK s (19 + 2 * e) 70 then bu (dm254 (19 + 2 * e) s) fun r9 => nx (wI s 106 7 (Int32.ofNat i + r9)) fun s10 => bu (dm111 2 (Int32.ofNat e) (Int32.ofNat i) s10) fun s16 => some s16 else none)
    rw [if_pos (hs.2.2.2.2.2.2 e he.1 he.2).2, d254 (hs.2.2.2.2.2.2 e he.1 he.2).1 (by omega)]
    simp only [bu_some, nx_eq]
    rw [iSum (by omega) (by omega)]
    exact (k111 h0 (h.at (j := i + (erN e).length) hb) (by omega) hle 2 (Int32.ofNat e) (Int32.ofNat i)).b fun s2 j c1 c2 c3 => KO.s c1 c2 c3
  have loop : ∀ (q m n e : Nat), m + q = 8 → 1 ≤ m → q < n → (e = 0 ∨ ((1 ≤ e ∧ e < 8) ∧ i + (erN e).length ≤ t.length)) → (e = 0 → m ≤ 7) → KO s0 b i t.length (dm108_7 n (Int32.ofNat i) (Int32.ofNat e) (Int32.ofNat m) s) := by
    intro q
    induction q with
    | zero =>
      intro m n e h1 h2 h3 h4 h5
      obtain ⟨n, rfl⟩ : ∃ q, n = q + 1 := ⟨n - 1, by omega⟩
      have : m = 8 := by omega
      subst this
      rcases h4 with z | ⟨z1, z2⟩
      · exact absurd (h5 z) (by decide)
      · rw [dm108_7, if_pos (by decide)]
        exact f38 e z1 z2
    | succ q ih =>
      intro m n e h1 h2 h3 h4 h5
      obtain ⟨n, rfl⟩ : ∃ q, n = q + 1 := ⟨n - 1, by omega⟩
      rw [dm108_7, if_neg (fun z => by have := (nlt_iff (a := 7) (by omega) (by omega)).mp z; omega)]
      rcases h4 with z | ⟨z1, z2⟩
      · subst z
        rw [if_pos (show Int32.ofNat 0 = 0 from rfl)]
        obtain ⟨r, e1, e2⟩ := k109 (m := m) (o := i) h0 h (by omega) (by omega)
        rw [e1]
        simp only [bv_some]
        by_cases c : r = 0
        · subst c
          rw [if_pos (show Int32.ofNat 0 = 0 from rfl), nx_eq]
          exact KO.s (KW.fld h hb (by omega)) (Nat.le_refl _) (by omega)
        · obtain ⟨y1, y2, y3⟩ := e2.resolve_left c
          have hlen := erN_l r (List.mem_range.mpr y1.2)
          rw [if_neg (show ¬ Int32.ofNat r = 0 from fun z => c ((neq_iff (b := 0) (by omega) (by omega)).mp z)), k110 y1]
          simp only [bu_some]
          show KO s0 b i t.length (if aK s (19 + 2 * r) 70 then bu (dm254 (19 + 2 * r) s) fun r19 => if r19 = Int32.ofNat m then dm108_35 (dm108_7 n) (Int32.ofNat i) (Int32.ofNat m) (Int32.ofNat r) s else dm108_35 (dm108_7 n) (Int32.ofNat i) (Int32.ofNat m) 0 s else none)
          rw [if_pos (hs.2.2.2.2.2.2 r y1.1 y1.2).2, d254 (hs.2.2.2.2.2.2 r y1.1 y1.2).1 (by omega)]
          simp only [bu_some]
          unfold dm108_35
          rw [ofNat_succ (by omega)]
          by_cases c2 : (erN r).length = m
          · rw [if_pos (by rw [c2])]
            have := sp_in y3 h2 y2 (erN_p r (List.mem_range.mpr y1.2))
            exact ih (m + 1) n r (by omega) (by omega) (by omega) (Or.inr ⟨y1, by omega⟩) (fun z => absurd z c)
          · rw [if_neg (fun z => c2 ((neq_iff (by omega) (by omega)).mp z))]
            exact ih (m + 1) n 0 (by omega) (by omega) (by omega) (Or.inl rfl) (fun _ => by omega)
      · rw [if_neg (fun z => by have := (neq_iff (b := 0) (by omega) (by omega)).mp z; omega)]
        exact f38 e z1 z2
  unfold dm108
  rw [h.2.1]
  exact loop 7 1 5000 0 (by omega) (by omega) (by omega) (Or.inl rfl) (fun _ => by omega)
set_option maxRecDepth 100000 in
theorem k124 {e : Nat} (h0 : KS s0 b t ns) (h : KW s0 s b i i) (hie : i ≤ e) (he : e ≤ t.length) (x : Int32) (hx : ¬ x = 0 → e < t.length) : KO s0 b i t.length (dm124 (Int32.ofNat i) (Int32.ofNat e) x s) := by
  have hb := h0.2.1.2.2.1
  have hl := h0.1.2.1
  have hs := h0.of h.1
  have f9 : ∀ y, KO s0 b i t.length (dm124_9 (Int32.ofNat i) (Int32.ofNat e) x y s) := by
    intro y
    unfold dm124_9
    rw [nx_eq]
    have h1 := h.at (j := e) hb
    split
    · obtain ⟨s1, hd, a1, a2, a3, a4⟩ := k122 h0 h1 hie he
      rw [a1]
      simp only [bu_some]
      have f32 : ∀ kd, KO s0 b i t.length (dm124_32 (Int32.ofNat i) x kd s1) := by
        intro kd
        unfold dm124_32
        obtain ⟨s2, c1, c2⟩ := k106w h0 a2 a3 (by omega) he kd (Int32.ofNat i)
        rw [c1]
        simp only [bu_some]
        split
        · exact KO.s c2 hie he
        · rename_i q
          split
          · exact ((k115 h0 c2 (hx q) (sI s2 106 10) 0).m hie).b fun s2 j c1 c2 c3 => KO.s c1 c2 c3
          · exact KO.s c2 hie he
      split
      · exact f32 6
      · exact f32 7
    · exact (k111 h0 h1 hie he 3 y (Int32.ofNat i)).b fun s2 j c1 c2 c3 => KO.s c1 c2 c3
  unfold dm124
  split
  · rw [d48 hs.1.1 (by rw [hs.1.2.2.2]; exact hl) (by omega) hs.2.2.2.2.2.1 (by omega) (by omega)]
    simp only [bv_some]
    exact f9 _
  · exact f9 _
set_option maxRecDepth 100000 in
theorem k123 (h0 : KS s0 b t ns) (h : KW s0 s b i i) (hi : i < t.length) : KO s0 b i t.length (dm123 s) := by
  have hb := h0.2.1.2.2.1
  have hl := h0.1.2.1
  have hs := h0.of h.1
  have he := wEnd_le (t := t) (i := i) (by omega)
  have hie : i ≤ wEnd t i := by
    unfold wEnd
    split <;> omega
  unfold dm123
  rw [h.2.1, d43 hs.1.1 (by rw [hs.1.2.2.2]; exact hl) (by omega) (by omega)]
  simp only [bu_some]
  rw [kch h0 h (by omega)]
  simp only [bu_some]
  generalize wEnd t i = e at he hie ⊢
  have f61 : ∀ (s1 : aS), KW s0 s1 b i i → KO s0 b i t.length (dm123_61 (Int32.ofNat i) (Int32.ofNat e) (t.getD e (-1)) s1) := by
    intro s1 k1
    unfold dm123_61 dm123_70
    split
    · rename_i c
      have := kin (p := fun x => x = 40) (by decide) c
      exact (k124 h0 k1 hie he 1 (fun _ => this)).b fun s2 j c1 c2 c3 => KO.s c1 c2 c3
    · exact (k124 h0 k1 hie he 0 (fun z => absurd rfl z)).b fun s2 j c1 c2 c3 => KO.s c1 c2 c3
  have f48 : ∀ (y : Int32) (s1 : aS), KW s0 s1 b i i → KO s0 b i t.length (dm123_48 (Int32.ofNat i) (Int32.ofNat e) (t.getD e (-1)) y s1) := by
    intro y s1 k1
    unfold dm123_48 dm93
    split
    · exact f61 s1 k1
    · simp only [bu_some]
      split
      · exact f61 s1 k1
      · rw [nx_eq]
        exact KO.s (KW.fld k1 hb (by omega)) (Nat.le_refl _) (by omega)
  have f19 : ∀ y, KO s0 b i t.length (dm123_19 (Int32.ofNat i) (Int32.ofNat e) (t.getD e (-1)) y s) := by
    intro y
    unfold dm123_19
    split
    · rename_i c
      have hlt := kin (p := fun x => x = 33) (by decide) c
      obtain ⟨s1, hd, a1, a2, a3, a4⟩ := k122 h0 h hie he
      rw [a1]
      simp only [bu_some, nx_eq]
      have hh1 : HH (wI s1 106 7 (Int32.ofNat e)) hd := ⟨a3.1.of ((ch.refl (fun a k => a = 106 ∧ k = 7) s1).wI ⟨rfl, rfl⟩) (by omega) (fun k => by omega), a3.2⟩
      exact (k114 h0 (a2.at hb) hh1 hie hlt (Int32.ofNat i)).b fun s2 j c1 c2 c3 => KO.s c1 c2 c3
    · split
      · exact f48 y s h
      · obtain ⟨v, s1, a1, a2, -⟩ := k89 h0 h (show i ≤ t.length by omega)
        have k1 := K9.kw (j := 0) h hb a2
        rw [a1]
        simp only [bv_some]
        split
        · exact f48 y s1 k1
        · obtain ⟨s2, c1, c2⟩ := k112 hb k1 (Int32.ofNat i) (-1)
          rw [c1]
          exact KO.s c2 (Nat.le_refl _) (by omega)
  split
  · exact f19 0
  · exact f19 1
set_option maxRecDepth 100000 in
theorem k103 (h0 : KS s0 b t ns) (h : KW s0 s b i i) (hi : i < t.length) (x : Int32) : KO s0 b i t.length (dm103 x s) := by
  have hb := h0.2.1.2.2.1
  have hl := h0.1.2.1
  have f52 : KO s0 b i t.length (dm103_52 s) := by
    unfold dm103_52
    exact (k120 h0 h hi).b fun s2 j c1 c2 c3 => KO.s c1 c2 c3
  have f44 : ∀ y, KO s0 b i t.length (dm103_44 y s) := fun y => by
    unfold dm103_44
    exact (k119 h0 h hi y).b fun s2 j c1 c2 c3 => KO.s c1 c2 c3
  have bad : KO s0 b i t.length (nx (wI s 106 8 (sI s 106 7)) fun s23 => some s23) := by
    rw [nx_eq]
    exact KO.s (KW.fld h hb (by omega)) (Nat.le_refl _) (by omega)
  have wd : KO s0 b i t.length (bu (dm123 s) fun s28 => some s28) := (k123 h0 h hi).b fun s2 j c1 c2 c3 => KO.s c1 c2 c3
  have dflt : KO s0 b i t.length (bu (dm47 x) fun r16 => if r16 = 0 then (if x = 46 then dm103_52 s else bu (dm44 x) fun r21 => if r21 = 0 then (nx (wI s 106 8 (sI s 106 7)) fun s23 => some s23) else bu (dm123 s) fun s28 => some s28) else dm103_52 s) := by
    rw [d47]
    simp only [bu_some]
    split
    · split
      · exact f52
      · rw [d44]
        simp only [bu_some]
        split
        · exact bad
        · exact wd
    · exact f52
  unfold dm103
  by_cases q34 : x = 34
  · rw [if_pos q34]
    exact (k104 h0 h hi).b fun s2 j c1 c2 c3 => KO.s c1 c2 c3
  · rw [if_neg q34]
    by_cases q35 : x = 35
    · rw [if_pos q35]
      exact (k108 h0 h hi).b fun s2 j c1 c2 c3 => KO.s c1 c2 c3
    · rw [if_neg q35]
      by_cases q36 : x = 36
      · rw [if_pos q36]
        obtain ⟨s2, c1, c2⟩ := k112 hb h (sI s 106 7) (-1)
        rw [c1]
        exact KO.s c2 (Nat.le_refl _) (by omega)
      · rw [if_neg q36]
        by_cases q37 : x = 37
        · rw [if_pos q37]
          exact dflt
        · rw [if_neg q37]
          by_cases q38 : x = 38
          · rw [if_pos q38]
            exact dflt
          · rw [if_neg q38]
            by_cases q39 : x = 39
            · rw [if_pos q39]
              exact (k113 h0 h hi).b fun s2 j c1 c2 c3 => KO.s c1 c2 c3
            · rw [if_neg q39]
              by_cases q40 : x = 40
              · rw [if_pos q40]
                unfold dm94
                rw [(ktr h0 h).1, if_pos (ktr (β := aS) (x := none) (f := fun _ => none) h0 h).2]
                simp only [bu_some]
                exact (k115 h0 h hi (sI s b 2) (-1)).b fun s2 j c1 c2 c3 => KO.s c1 c2 c3
              · rw [if_neg q40]
                by_cases q41 : x = 41
                · rw [if_pos q41]
                  rw [if_pos q41]
                  exact f44 1
                · rw [if_neg q41]
                  by_cases q42 : x = 42
                  · rw [if_pos q42]
                    exact dflt
                  · rw [if_neg q42]
                    by_cases q43 : x = 43
                    · rw [if_pos q43]
                      simp only [nx_eq]
                      have h5 := KW.adv (j := 1) h hb (by omega) (by omega)
                      exact KO.s ((KW.fld (k := 9) (v := 1) h5 hb (by omega)).up hb (by omega)) (by omega) (by omega)
                    · rw [if_neg q43]
                      by_cases q44 : x = 44
                      · rw [if_pos q44]
                        rw [if_neg q41]
                        exact f44 0
                      · rw [if_neg q44]
                        by_cases q45 : x = 45
                        · rw [if_pos q45]
                          exact (k118 h0 h hi).b fun s2 j c1 c2 c3 => KO.s c1 c2 c3
                        · rw [if_neg q45]
                          exact dflt
end KK
end
section
/-! the reader of FormulaTrees comes to its end: whole -/
section KK
variable {s0 s : aS} {b i z9 : Nat} {t : List Int32} {ns : List (List Int32)}
set_option maxRecDepth 100000 in
theorem k63l (h0 : KS s0 b t ns) : ∀ (m q n i : Nat) (s : aS), KW s0 s b i i → i ≤ t.length → q + m = 512 → m < n → ∃ v s' j, dm63_26 n (Int32.ofNat q) s = some (v, s') ∧ KW s0 s' b j j ∧ j ≤ t.length := by
  have hb := h0.2.1.2.2.1
  have hl := h0.1.2.1
  have f80 : ∀ (i : Nat) (s : aS), KW s0 s b i i → i ≤ t.length → ∃ v s' j, dm63_80 s = some (v, s') ∧ KW s0 s' b j j ∧ j ≤ t.length := by
    intro i s h hi
    have f92 : ∃ v s' j, dm63_92 s = some (v, s') ∧ KW s0 s' b j j ∧ j ≤ t.length := by
      unfold dm63_92
      rw [klen h0 h]
      simp only [bu_some, nx_eq]
      exact ⟨_, _, i, rfl, KW.fld h hb (by omega), hi⟩
    unfold dm63_80 dm82
    split
    · split
      · exact f92
      · simp only [bu_some]
        split
        · exact ⟨_, s, i, rfl, h, hi⟩
        · exact f92
    · exact ⟨_, s, i, rfl, h, hi⟩
  intro m
  induction m with
  | zero =>
    intro q n i s h hi h1 h2
    obtain ⟨n, rfl⟩ : ∃ q, n = q + 1 := ⟨n - 1, by omega⟩
    have : q = 512 := by omega
    subst this
    rw [dm63_26, if_pos (by decide)]
    exact f80 i s h hi
  | succ m ih =>
    intro q n i s h hi h1 h2
    obtain ⟨n, rfl⟩ : ∃ q, n = q + 1 := ⟨n - 1, by omega⟩
    have nxt : ∀ (D : Option aS), KO s0 b i t.length D → ∃ v s' j, bu D (fun s11 => dm63_72 (dm63_26 n) (Int32.ofNat q) s11) = some (v, s') ∧ KW s0 s' b j j ∧ j ≤ t.length := by
      rintro D ⟨s1, j, a1, a2, a3, a4⟩
      rw [a1]
      simp only [bu_some]
      unfold dm63_72 dm63_78
      rw [ofNat_succ (by omega)]
      split
      · exact ih (q + 1) n j s1 a2 a4 (by omega) (by omega)
      · obtain ⟨s2, j2, c1, c2, c3, c4⟩ := k67 h0 a2 a4
        rw [c1]
        simp only [bu_some]
        exact ih (q + 1) n j2 s2 c2 c4 (by omega) (by omega)
    rw [dm63_26, if_neg (fun z => by have := (nle_iff (a := 512) (by omega) (by omega)).mp z; omega), klen h0 h, h.2.1]
    simp only [bu_some]
    by_cases c : t.length ≤ i
    · rw [if_pos ((nle_iff (by omega) (by omega)).mpr c)]
      exact f80 i s h hi
    · rw [if_neg (fun z => c ((nle_iff (by omega) (by omega)).mp z)), kch h0 h (by omega)]
      simp only [bu_some]
      split
      · split
        · split
          · exact nxt _ (k88 h0 h hi)
          · split
            · exact nxt _ (k99 h0 h hi)
            · exact nxt _ (k103 h0 h (by omega) _)
        · exact nxt _ (k68 h0 h (by omega) _)
      · exact f80 i s h hi
set_option maxRecDepth 100000 in
theorem sR_at (s : aS) (b : Nat) : sR (wR s 106 6 (.ref b)) 106 6 = .ref b := by rw [sR_wR, if_pos ⟨rfl, rfl⟩]
/-- what is asked of the state before reading, beside text and names -/
def KP (s : aS) (b : Nat) : Prop := aK s b 3 ∧ (b = 102 ∨ 149 ≤ b) ∧ (sT s (b + 3)).2 = 256 ∧ (sT s 108).2 = 256 ∧ ((sT s 80).2 = 256 ∧ RC s ∧ TF s ∧ ES s) ∧ (∃ hd, LT s 107 hd ∧ hd.length ≤ 256 ∧ okT hd) ∧ ∃ m, m ≤ 128 ∧ sI s 110 2 = Int32.ofNat m
set_option maxRecDepth 100000 in
theorem k63 (hT : LT s 79 t) (hl : t.length ≤ 256) (hok : okT t) (hS : SC s ns) (hn : nsOk ns) (hP : KP s b) : ∃ v s' j, dm63 b s = some (v, s') ∧ KW (wR s 106 6 (.ref b)) s' b j j ∧ j ≤ t.length := by
  obtain ⟨p1, p2, p3, p4, ⟨p5, p6, p7, p8⟩, ⟨hd, p9⟩, m, m1, m2⟩ := hP
  let s0 := wR s 106 6 (.ref b)
  have h0 : KS s0 b t ns := ⟨⟨hT, hl, hok, p5⟩, ⟨sR_at s b, p1, p2, p3, p4⟩, hS, hn, p6, p7, p8⟩
  unfold dm63 dm64 dm65 dm66 dm26
  simp only [nx_eq]
  rw [sR_at, vN_ref, if_pos (show aK (wR s 106 6 (.ref b)) b 3 from p1)]
  simp only [bu_some]
  have hA : ∀ s1, ch (AC b) s0 s1 → ch (AC b) s0 s1 := fun _ h => h
  let sa := wI (wI s0 b 2 0) (b + 2) 1 0
  have ca : ch (AC b) s0 sa := ((ch.refl _ s0).wI (by unfold AC; omega)).wI (by unfold AC; omega)
  have ea : sI sa 110 2 = Int32.ofNat m := by
    show sI (wI (wI s0 b 2 0) (b + 2) 1 0) 110 2 = _
    rw [sI_wI, if_neg (by omega), sI_wI, if_neg (by omega)]
    exact m2
  obtain ⟨sb, mb, cb, eb1, eb2, eb3, eb4⟩ : ∃ sb m', ((if (0 : Int32) < 0 then some sa else if sI sa 110 2 ≤ 0 then some sa else some (wI sa 110 2 0)) = some sb) ∧ m' ≤ 128 ∧ sI sb 110 2 = Int32.ofNat m' ∧ ch (fun a k => a = 110 ∧ k = 2) sa sb ∧ True := by
    rw [if_neg (by decide), ea]
    split
    · exact ⟨sa, m, rfl, m1, ea, ch.refl _ sa, trivial⟩
    · exact ⟨_, 0, rfl, by omega, by rw [sI_wI, if_pos ⟨rfl, rfl⟩]; rfl, (ch.refl _ sa).wI ⟨rfl, rfl⟩, trivial⟩
  show ∃ v s' j, bu (if (0 : Int32) < 0 then some sa else if sI sa 110 2 ≤ 0 then some sa else some (wI sa 110 2 0)) _ = some (v, s') ∧ _
  rw [cb]
  simp only [bu_some]
  let sc := wI (wI (wI (wI sb 113 3 0) 106 7 0) 106 8 (-1)) 106 9 1
  have cc : ch (fun a k => (a = 113 ∧ k = 3) ∨ (a = 106 ∧ 7 ≤ k)) sb sc := ((((ch.refl (fun a k => (a = 113 ∧ k = 3) ∨ (a = 106 ∧ 7 ≤ k)) sb).wI (Or.inl ⟨rfl, rfl⟩)).wI (Or.inr ⟨rfl, by omega⟩)).wI (Or.inr ⟨rfl, by omega⟩)).wI (Or.inr ⟨rfl, by omega⟩)
  have cab : ch (fun a k => (a = b ∧ k = 2) ∨ (a = b + 2 ∧ k = 1) ∨ (a = 110 ∧ k = 2) ∨ (a = 113 ∧ k = 3) ∨ (a = 106 ∧ 7 ≤ k)) s0 sc := ((((ch.refl (fun a k => (a = b ∧ k = 2) ∨ (a = b + 2 ∧ k = 1) ∨ (a = 110 ∧ k = 2) ∨ (a = 113 ∧ k = 3) ∨ (a = 106 ∧ 7 ≤ k)) s0).wI (Or.inl ⟨rfl, rfl⟩)).wI (Or.inr (Or.inl ⟨rfl, rfl⟩))).trans (eb3.mono fun a k z => Or.inr (Or.inr (Or.inl z)))).trans (cc.mono fun a k z => by omega)
  have eN : sI sc b 2 = Int32.ofNat 0 := by
    rw [cc.i (by omega), eb3.i (by omega)]
    show sI (wI (wI s0 b 2 0) (b + 2) 1 0) b 2 = _
    rw [sI_wI, if_neg (by omega), sI_wI, if_pos ⟨rfl, rfl⟩]
    rfl
  have eU : sI sc (b + 2) 1 = Int32.ofNat 0 := by
    rw [cc.i (by omega), eb3.i (by omega)]
    show sI (wI (wI s0 b 2 0) (b + 2) 1 0) (b + 2) 1 = _
    rw [sI_wI, if_pos ⟨rfl, rfl⟩]
    rfl
  have hKW : KW s0 sc b 0 0 := by
    refine ⟨cab.mono fun a k z => by unfold AC; omega, ?_, ⟨0, [], by omega, eN, ⟨⟨eU, fun j hj => absurd hj (Nat.not_lt_zero j)⟩, Nat.zero_le _, fun y hy => (by cases hy)⟩, Nat.le_refl _, fun k hk => absurd hk (Nat.not_lt_zero k)⟩, ⟨hd, LT.of (s := s0) p9.1 cab (by omega) (fun k => by omega), p9.2⟩, ⟨mb, eb1, (cc.i (by omega)).trans eb2⟩, 0, by omega, ?_⟩
    · show sI (wI (wI (wI (wI sb 113 3 0) 106 7 0) 106 8 (-1)) 106 9 1) 106 7 = _
      rw [sI_wI, if_neg (by omega), sI_wI, if_neg (by omega), sI_wI, if_pos ⟨rfl, rfl⟩]
      rfl
    · show sI (wI (wI (wI (wI sb 113 3 0) 106 7 0) 106 8 (-1)) 106 9 1) 113 3 = _
      rw [sI_wI, if_neg (by omega), sI_wI, if_neg (by omega), sI_wI, if_neg (by omega), sI_wI, if_pos ⟨rfl, rfl⟩]
      rfl
  obtain ⟨s1, j1, d1, d2, d3, d4⟩ := k67 h0 hKW (Nat.zero_le _)
  show ∃ v s' j, bu (dm67 sc) _ = some (v, s') ∧ _
  rw [d1]
  simp only [bu_some]
  exact k63l h0 512 0 5000 j1 s1 d2 d4 (by omega) (by omega)
end KK
end
section
/-! the writer of FormulaTrees comes to its end -/
def AS (s : aS) : Prop := ∀ k, k < 38 → aK s (2 * k + 1) 70 ∧ ∃ u, ST s (2 * k + 1) u ∧ u.length ≤ 100 ∧ ∀ x ∈ u, 0 ≤ x.toInt ∧ x.toInt ≤ 127
set_option maxRecDepth 100000 in
theorem AS.ly {tt : Nat} {xs : List Int32} {s : aS} (h : Ly tt (cCc xs) s) : AS s := by
  intro k hk
  have h1 : ∀ k : Fin 38, (zTz.getD (2 * k.val + 1) (0, 0)).1 = 70 := by decide +kernel
  have h2 : ∀ k : Fin 38, (zTx.getD k.val ("", 0, [])).2.2.length ≤ 100 ∧ ∀ x ∈ (zTx.getD k.val ("", 0, [])).2.2, 0 ≤ x.toInt ∧ x.toInt ≤ 127 := by decide +kernel
  have h78 : zK = 78 := rfl
  exact ⟨Lay.lowK h (by omega) ⟨by omega, h1 ⟨k, hk⟩⟩, _, ST.ly h k hk, (h2 ⟨k, hk⟩).1, (h2 ⟨k, hk⟩).2⟩
def wrC (a k : Nat) : Prop := (a = 117 ∧ 4 ≤ k ∧ k ≠ 5) ∨ a = 118 ∨ a = 119 ∨ a = 120
def wrD (a k : Nat) : Prop := a = 117 ∧ (k = 8 ∨ k = 10)
def FS (s : aS) (b : Nat) (ns : List (List Int32)) : Prop := sR s 117 5 = .ref b ∧ aK s b 3 ∧ (b = 102 ∨ 149 ≤ b) ∧ (∃ N u, N ≤ 128 ∧ sI s b 2 = Int32.ofNat N ∧ TL s b u ∧ ∀ k, k < N → ∃ l, NL s b k u l) ∧ (sT s (b + 3)).2 = 256 ∧ SC s ns ∧ nsOk ns ∧ RC s ∧ AS s
set_option maxRecDepth 100000 in
theorem FS.of {s s1 : aS} {b : Nat} {ns : List (List Int32)} (h : FS s b ns) (g : ch wrC s s1) : FS s1 b ns := by
  obtain ⟨a1, a2, a3, ⟨N, u, b1, b2, b3, b4⟩, a5, a6, a7, a8, a9⟩ := h
  have hlow : ∀ a k, wrC a k → 78 ≤ a := fun a k z => by unfold wrC at z; omega
  have h8 := a7.1
  refine ⟨(g.r (by unfold wrC; omega)).trans a1, g.k.mpr a2, a3, ⟨N, u, b1, (g.i (by unfold wrC; omega)).trans b2, b3.of g (by unfold wrC; omega) (fun k => by unfold wrC; omega), fun k hk => ?_⟩, by rw [g.2.1]; exact a5, ⟨(g.i (by unfold wrC; omega)).trans a6.1, fun i hi => (a6.2 i hi).of g (by unfold wrC; omega) (fun j => by unfold wrC; omega)⟩, a7, a8.of g, fun k hk => ?_⟩
  · obtain ⟨l, st, e1, e2, e3, e4⟩ := b4 k hk
    exact ⟨l, st, (g.i (by unfold wrC; omega)).trans e1, (g.i (by unfold wrC; omega)).trans e2, e3, e4⟩
  · obtain ⟨c1, u, c2, c3⟩ := a9 k hk
    exact ⟨g.k.mpr c1, u, c2.of (by omega) g hlow, c3⟩
def Wc (D : Option aS) (s : aS) : Prop := ∃ s', D = some s' ∧ ch wrD s s'
set_option maxRecDepth 100000 in
theorem Wc.b {D : Option aS} {K : aS → Option aS} {s : aS} (h : Wc D s) (k : ∀ s1, ch wrD s s1 → Wc (K s1) s1) : Wc (bu D K) s := by
  obtain ⟨s1, h1, h2⟩ := h
  rw [h1]
  obtain ⟨s2, k1, k2⟩ := k s1 h2
  exact ⟨s2, k1, h2.trans k2⟩
set_option maxRecDepth 100000 in
theorem Wc.s (s : aS) : Wc (some s) s := ⟨s, rfl, ch.refl _ s⟩
set_option maxRecDepth 100000 in
theorem dc {s s1 : aS} (h : ch wrD s s1) : ch wrC s s1 := h.mono fun a k z => by unfold wrD at z; unfold wrC; omega
set_option maxRecDepth 100000 in
theorem c141 (x : Int32) (s : aS) : Wc (dm141 x s) s := by
  unfold dm141 dm141_8
  simp only [nx_eq]
  split
  · exact ⟨_, rfl, ((ch.refl _ s).wI ⟨rfl, Or.inr rfl⟩).wI ⟨rfl, Or.inl rfl⟩⟩
  · exact ⟨_, rfl, (ch.refl _ s).wI ⟨rfl, Or.inl rfl⟩⟩
section CW
variable {s : aS} {b : Nat} {ns : List (List Int32)}
set_option maxRecDepth 100000 in
theorem c57 (h : FS s b ns) (x : Int32) (w : Nat) (hw : w < 11) : ∃ v, dm57 b x (Int32.ofNat w) s = some v ∧ (w = 10 → v.toInt ≤ 256) := by
  obtain ⟨a1, a2, a3, ⟨N, u, b1, b2, b3, b4⟩, -⟩ := h
  by_cases c : 0 ≤ x.toInt ∧ x.toInt < N
  · obtain ⟨k, hk⟩ : ∃ k, k = x.toInt.toNat := ⟨_, rfl⟩
    have ex : x = Int32.ofNat k := by rw [hk]; exact ofNat_of c.1
    rw [ex, d57 b2 b1 (by omega) hw]
    refine ⟨_, rfl, fun q => ?_⟩
    subst q
    obtain ⟨l, st, e1, e2, e3, e4⟩ := b4 k (by omega)
    have := b3.2.1
    rw [e2, iOfNat (by omega)]
    omega
  · refine ⟨-1, ?_, fun _ => by decide⟩
    unfold dm57 dm57_13 dm57_14
    by_cases c1 : x < 0
    · rw [if_pos c1, if_pos rfl]
    · have z1 : ¬ x.toInt < 0 := fun q => c1 (iLt.mpr q)
      have c2 : sI s b 2 ≤ x := by
        rw [b2, iLe, iOfNat (by omega)]
        omega
      rw [if_neg c1, if_pos c2, if_pos rfl]
set_option maxRecDepth 100000 in
theorem c34 {s : aS} {a : Nat} {u : List Int32} (h : LT s a u) (hT : u.length ≤ (sT s (a + 1)).2) (hu : u.length ≤ 1000) (x : Int32) : ∃ v, dm34 a x s = some v := by
  unfold dm34
  by_cases c1 : x < 0
  · rw [if_pos c1]
    exact ⟨_, rfl⟩
  · rw [if_neg c1, h.n]
    by_cases c2 : Int32.ofNat u.length ≤ x
    · rw [if_pos c2]
      exact ⟨_, rfl⟩
    · have z1 : ¬ x.toInt < 0 := fun q => c1 (iLt.mpr q)
      have z2 : ¬ (u.length : Int) ≤ x.toInt := fun q => c2 (iLe.mpr (by rw [iOfNat (by omega)]; exact q))
      rw [if_neg c2, if_pos (by rw [aB_iff]; omega)]
      exact ⟨_, rfl⟩
set_option maxRecDepth 100000 in
theorem c144 (h : FS s b ns) (x y : Int32) : ∃ v, dm144 b x y s = some v := by
  obtain ⟨v9, e9, -⟩ := c57 h x 9 (by omega)
  obtain ⟨v10, e10, -⟩ := c57 h x 10 (by omega)
  have e9 : dm57 b x 9 s = some v9 := e9
  have e10 : dm57 b x 10 s = some v10 := e10
  obtain ⟨-, -, -, ⟨N, u, b1, b2, b3, b4⟩, a5, -⟩ := h
  obtain ⟨w, ew⟩ := c34 (x := v9 + y) b3.1 (by show u.length ≤ (sT s (b + 3)).2; rw [a5]; exact b3.2.1) (by have := b3.2.1; omega)
  unfold dm144 dm144_10 dm144_11
  rw [e10, e9]
  simp only [bu_some]
  rw [ew]
  simp only [bu_some]
  repeat' split
  all_goals exact ⟨_, rfl⟩
set_option maxRecDepth 100000 in
theorem c146 (x y : Int32) (s : aS) : Wc (dm146 x y s) s := by
  unfold dm146
  refine (c141 x s).b fun s1 c1 => ?_
  split
  · exact (c141 x s1).b fun s2 c2 => Wc.s s2
  · exact Wc.s s1
set_option maxRecDepth 100000 in
theorem c143 (h : FS s b ns) (x : Int32) : Wc (dm143 x s) s := by
  have loop : ∀ (m j n : Nat) (s : aS), FS s b ns → j + m = 257 → m < n → Wc (dm143_2 n x (Int32.ofNat j) s) s := by
    intro m
    induction m with
    | zero =>
      intro j n s h h1 h2
      obtain ⟨n, rfl⟩ : ∃ q, n = q + 1 := ⟨n - 1, by omega⟩
      obtain ⟨v, e, e2⟩ := c57 h x 10 (by omega)
      have e : dm57 b x 10 s = some v := e
      rw [dm143_2, h.1, vN_ref, if_pos h.2.1, e]
      simp only [bu_some]
      rw [if_pos (by rw [iLe, iOfNat (by omega)]; have := e2 rfl; omega)]
      exact Wc.s s
    | succ m ih =>
      intro j n s h h1 h2
      obtain ⟨n, rfl⟩ : ∃ q, n = q + 1 := ⟨n - 1, by omega⟩
      obtain ⟨v, e, e2⟩ := c57 h x 10 (by omega)
      have e : dm57 b x 10 s = some v := e
      obtain ⟨w, ew⟩ := c144 h x (Int32.ofNat j)
      rw [dm143_2, h.1, vN_ref, if_pos h.2.1, e]
      simp only [bu_some, vN_ref]
      rw [if_pos h.2.1, ew]
      simp only [bu_some]
      split
      · exact Wc.s s
      · refine (c141 w s).b fun s1 c1 => ?_
        rw [ofNat_succ (by omega)]
        exact ih (j + 1) n s1 (h.of (dc c1)) (by omega) (by omega)
  exact loop 257 0 5000 s h (by omega) (by omega)
set_option maxRecDepth 100000 in
theorem c145 (h : FS s b ns) (x : Int32) : Wc (dm145 x s) s := by
  have loop : ∀ (m j n : Nat) (s : aS), FS s b ns → j + m = 257 → m < n → Wc (dm145_5 n x (Int32.ofNat j) s) s := by
    intro m
    induction m with
    | zero =>
      intro j n s h h1 h2
      obtain ⟨n, rfl⟩ : ∃ q, n = q + 1 := ⟨n - 1, by omega⟩
      obtain ⟨v, e, e2⟩ := c57 h x 10 (by omega)
      have e : dm57 b x 10 s = some v := e
      rw [dm145_5, h.1, vN_ref, if_pos h.2.1, e]
      simp only [bu_some]
      rw [if_pos (by rw [iLe, iOfNat (by omega)]; have := e2 rfl; omega)]
      exact (c141 34 s).b fun s1 c1 => Wc.s s1
    | succ m ih =>
      intro j n s h h1 h2
      obtain ⟨n, rfl⟩ : ∃ q, n = q + 1 := ⟨n - 1, by omega⟩
      obtain ⟨v, e, e2⟩ := c57 h x 10 (by omega)
      have e : dm57 b x 10 s = some v := e
      obtain ⟨w, ew⟩ := c144 h x (Int32.ofNat j)
      rw [dm145_5, h.1, vN_ref, if_pos h.2.1, e]
      simp only [bu_some, vN_ref]
      rw [if_pos h.2.1, ew]
      simp only [bu_some]
      split
      · exact (c141 34 s).b fun s1 c1 => Wc.s s1
      · refine (c146 w 34 s).b fun s1 c1 => ?_
        rw [ofNat_succ (by omega)]
        exact ih (j + 1) n s1 (h.of (dc c1)) (by omega) (by omega)
  unfold dm145
  exact (c141 34 s).b fun s1 c1 => loop 257 0 5000 s1 (h.of (dc c1)) (by omega) (by omega)
set_option maxRecDepth 100000 in
theorem c147 {k : Nat} (h : FS s b ns) (hk : k < 38) : Wc (dm147 (2 * k + 1) s) s := by
  have loop : ∀ (m j n : Nat) (s : aS) (u : List Int32), FS s b ns → ST s (2 * k + 1) u → u.length ≤ 100 → (∀ x ∈ u, 0 ≤ x.toInt ∧ x.toInt ≤ 127) → j + m = u.length → m < n → Wc (dm147_2 n (2 * k + 1) (Int32.ofNat j) s) s := by
    intro m
    induction m with
    | zero =>
      intro j n s u h hu h3 h4 h1 h2
      obtain ⟨n, rfl⟩ : ∃ q, n = q + 1 := ⟨n - 1, by omega⟩
      rw [dm147_2, d254 hu (by omega)]
      simp only [bu_some]
      rw [if_pos ((nle_iff (by omega) (by omega)).mpr (by omega))]
      exact Wc.s s
    | succ m ih =>
      intro j n s u h hu h3 h4 h1 h2
      obtain ⟨n, rfl⟩ : ∃ q, n = q + 1 := ⟨n - 1, by omega⟩
      have hj : j < u.length := by omega
      rw [dm147_2, d254 hu (by omega)]
      simp only [bu_some]
      rw [if_neg (fun q => by have := (nle_iff (by omega) (by omega)).mp q; omega), d259 hu (by omega) hj (h4 _ (List.getElem_mem hj))]
      simp only [bv_some]
      refine (c141 _ s).b fun s1 c1 => ?_
      rw [ofNat_succ (by omega)]
      exact ih (j + 1) n s1 u (h.of (dc c1)) (hu.of (by omega) c1 (fun a k z => by unfold wrD at z; omega)) h3 h4 (by omega) (by omega)
  obtain ⟨-, u, u1, u2, u3⟩ := h.2.2.2.2.2.2.2.2 k hk
  exact loop u.length 0 5000 s u h u1 u2 u3 (by omega) (by omega)
set_option maxRecDepth 100000 in
theorem c151 (h : FS s b ns) (x y : Int32) : ∃ v, dm151 x y s = some v := by
  have h8 := h.2.2.2.2.2.2.1.1
  have hr := h.2.2.2.2.2.2.2.1
  unfold dm151
  rw [d40 h.2.2.2.2.2.1 h8 x]
  simp only [bu_some]
  by_cases c : 0 ≤ x.toInt ∧ x.toInt < ns.length
  · rw [b01_t c, if_neg (by decide), if_pos (by rw [aB_iff]; omega)]
    have hi : x.toInt.toNat < ns.length := by omega
    have hl := (h.2.2.2.2.2.2.1.2 _ (List.getElem_mem hi)).2.1
    obtain ⟨v, e⟩ := c34 (x := y) (h.2.2.2.2.2.1.2 _ hi) (by rw [show 84 + 2 * x.toInt.toNat + 1 = 85 + 2 * x.toInt.toNat by omega, hr.2 _ (by omega)]; exact hl) (by omega)
    rw [jN_eq, e]
    exact ⟨_, rfl⟩
  · rw [b01_f c, if_pos rfl]
    exact ⟨_, rfl⟩
set_option maxRecDepth 100000 in
theorem c149 (h : FS s b ns) (x : Int32) : Wc (dm149 x s) s := by
  have h8 := h.2.2.2.2.2.2.1.1
  have e150 : ∃ v, dm150 x s = some v := by
    unfold dm150
    rw [d40 h.2.2.2.2.2.1 h8 x]
    simp only [bu_some]
    by_cases c : 0 ≤ x.toInt ∧ x.toInt < ns.length
    · rw [b01_t c, if_neg (by decide), if_pos (by rw [aB_iff]; omega)]
      split <;> exact ⟨_, rfl⟩
    · rw [b01_f c, if_pos rfl]
      exact ⟨_, rfl⟩
  have f32 : ∀ y s, Wc (dm149_32 y s) s := fun y s => by
    unfold dm149_32 dm149_37
    split
    · exact (c141 _ s).b fun s1 c1 => Wc.s s1
    · exact (c141 _ s).b fun s1 c1 => (c141 _ s1).b fun s2 c2 => Wc.s s2
  have loop : ∀ (m j n : Nat) (y : Int32) (s : aS), FS s b ns → j + m = 31 → m < n → Wc (dm149_12 n x y (Int32.ofNat j) s) s := by
    intro m
    induction m with
    | zero =>
      intro j n y s h h1 h2
      obtain ⟨n, rfl⟩ : ∃ q, n = q + 1 := ⟨n - 1, by omega⟩
      have : j = 31 := by omega
      subst this
      rw [dm149_12, if_pos (by decide)]
      exact f32 y s
    | succ m ih =>
      intro j n y s h h1 h2
      obtain ⟨n, rfl⟩ : ∃ q, n = q + 1 := ⟨n - 1, by omega⟩
      obtain ⟨v, e⟩ := c151 h x (Int32.ofNat j)
      rw [dm149_12, if_neg (fun q => by have := (nle_iff (a := 31) (by omega) (by omega)).mp q; omega), e]
      simp only [bu_some]
      split
      · exact f32 y s
      · refine (c146 v 39 s).b fun s1 c1 => ?_
        rw [ofNat_succ (by omega)]
        exact ih (j + 1) n y s1 (h.of (dc c1)) (by omega) (by omega)
  obtain ⟨v, e⟩ := e150
  unfold dm149 dm149_10
  rw [e]
  simp only [bu_some]
  split
  · exact loop 31 0 5000 _ s h (by omega) (by omega)
  · exact (c141 _ s).b fun s1 c1 => loop 31 0 5000 _ s1 (h.of (dc c1)) (by omega) (by omega)
set_option maxRecDepth 100000 in
theorem c154 (x : Int32) (s : aS) : Wc (dm154 x s) s := by
  have loop : ∀ (m u n : Nat) (s : aS), u < 10 ^ m → m ≤ 9 → m < n → Wc (dm154_2 n x (Int32.ofNat u) s) s := by
    intro m
    induction m with
    | zero =>
      intro u n s h1 h2 h3
      obtain ⟨n, rfl⟩ : ∃ q, n = q + 1 := ⟨n - 1, by omega⟩
      have : u = 0 := by rw [Nat.pow_zero] at h1; omega
      subst this
      rw [dm154_2, if_pos (by decide)]
      exact Wc.s s
    | succ m ih =>
      intro u n s h1 h2 h3
      obtain ⟨n, rfl⟩ : ∃ q, n = q + 1 := ⟨n - 1, by omega⟩
      have hp : 10 ^ (m + 1) ≤ 10 ^ 9 := Nat.pow_le_pow_right (by decide) h2
      have hp9 : 10 ^ 9 = 1000000000 := by decide
      have hu : (Int32.ofNat u).toInt = u := iOfNat (by omega)
      have e : Int32.ofNat u / 10 = Int32.ofNat (u / 10) := by
        rw [iEq, iDiv (y := 10) (by omega) (by decide), hu, iOfNat (by omega)]
        show (u : Int) / 10 = ((u / 10 : Nat) : Int)
        omega
      have nxt : ∀ s, Wc (dm154_16 (dm154_2 n) x (Int32.ofNat u) s) s := fun s => by
        unfold dm154_16
        rw [e]
        refine ih (u / 10) n s ?_ (by omega) (by omega)
        rw [Nat.pow_succ] at h1
        omega
      rw [dm154_2]
      by_cases c : u = 0
      · subst c
        rw [if_pos (by decide)]
        exact Wc.s s
      · rw [if_neg (by rw [iLe, hu]; show ¬ (u : Int) ≤ 0; omega)]
        split
        · exact nxt s
        · rw [if_pos (fun q => by have := iEq.mp q; rw [hu] at this; have t0 : (0 : Int32).toInt = 0 := rfl; omega)]
          exact (c141 _ s).b fun s1 c1 => nxt s1
  exact loop 7 1000000 5000 s (by decide) (by omega) (by omega)
set_option maxRecDepth 100000 in
theorem c152 (x1 x2 x3 : Int32) (s : aS) : Wc (dm152 x1 x2 x3 s) s := by
  have f153 : ∀ s, Wc (dm153 x2 s) s := fun s => by
    have g32 : ∀ y s, Wc (dm153_32 y s) s := fun y s => by
      unfold dm153_32
      exact (c141 _ s).b fun s1 c1 => Wc.s s1
    have g18 : ∀ y s, Wc (dm153_18 y s) s := fun y s => by
      unfold dm153_18
      split
      · exact g32 y s
      · exact (c141 _ s).b fun s1 c1 => g32 y s1
    unfold dm153
    split
    · exact g18 _ s
    · exact (c141 _ s).b fun s1 c1 => g18 _ s1
  have f17 : ∀ s, Wc (dm152_17 x1 s) s := fun s => by
    unfold dm152_17
    exact (c154 x1 s).b fun s1 c1 => Wc.s s1
  have f7 : ∀ s, Wc (dm152_7 x1 x2 x3 s) s := fun s => by
    unfold dm152_7
    refine (f153 s).b fun s1 c1 => ?_
    split
    · exact f17 s1
    · exact (c141 _ s1).b fun s2 c2 => f17 s2
  unfold dm152
  split
  · exact f7 s
  · exact (c141 _ s).b fun s1 c1 => f7 s1
end CW
end
section
/-! the writer of FormulaTrees comes to its end: whole -/
section CW
variable {s : aS} {b : Nat} {ns : List (List Int32)}
set_option maxRecDepth 100000 in
theorem c148 (h : FS s b ns) (x : Int32) : Wc (dm148 x s) s := by
  have f18 : ∀ (y : Int32) (s : aS), FS s b ns → Wc (dm148_18 x y s) s := by
    intro y s h
    obtain ⟨v3, e3, -⟩ := c57 h x 3 (by omega)
    obtain ⟨v4, e4, -⟩ := c57 h x 4 (by omega)
    have e3 : dm57 b x 3 s = some v3 := e3
    have e4 : dm57 b x 4 s = some v4 := e4
    unfold dm148_18
    rw [h.1, vN_ref, if_pos h.2.1, e3]
    simp only [bu_some, vN_ref]
    rw [if_pos h.2.1, e4]
    simp only [bu_some]
    refine (c152 v3 v4 y s).b fun s1 c1 => ?_
    have h1 := h.of (dc c1)
    obtain ⟨v0, e0, -⟩ := c57 h1 x 0 (by omega)
    have e0 : dm57 b x 0 s1 = some v0 := e0
    rw [h1.1, vN_ref, if_pos h1.2.1, e0]
    simp only [bu_some]
    split
    · refine (c141 _ s1).b fun s2 c2 => ?_
      have h2 := h1.of (dc c2)
      obtain ⟨v5, e5, -⟩ := c57 h2 x 5 (by omega)
      obtain ⟨v6, e6, -⟩ := c57 h2 x 6 (by omega)
      have e5 : dm57 b x 5 s2 = some v5 := e5
      have e6 : dm57 b x 6 s2 = some v6 := e6
      rw [h2.1, vN_ref, if_pos h2.2.1, e5]
      simp only [bu_some, vN_ref]
      rw [if_pos h2.2.1, e6]
      simp only [bu_some]
      exact (c152 v5 v6 _ s2).b fun s3 c3 => Wc.s s3
    · exact Wc.s s1
  obtain ⟨v2, e2, -⟩ := c57 h x 2 (by omega)
  obtain ⟨v7, e7, -⟩ := c57 h x 7 (by omega)
  have e2 : dm57 b x 2 s = some v2 := e2
  have e7 : dm57 b x 7 s = some v7 := e7
  unfold dm148
  rw [h.1, vN_ref, if_pos h.2.1, e2]
  simp only [bu_some, vN_ref]
  rw [if_pos h.2.1, e7]
  simp only [bu_some]
  split
  · exact f18 v7 s h
  · exact (c149 h v2).b fun s1 c1 => f18 v7 s1 (h.of (dc c1))
set_option maxRecDepth 100000 in
theorem c110 (x : Int32) : ∃ k, k < 38 ∧ dm110 x = some (.ref (2 * k + 1)) := by
  unfold dm110
  repeat' split
  · exact ⟨10, by decide, rfl⟩
  · exact ⟨11, by decide, rfl⟩
  · exact ⟨12, by decide, rfl⟩
  · exact ⟨13, by decide, rfl⟩
  · exact ⟨14, by decide, rfl⟩
  · exact ⟨15, by decide, rfl⟩
  · exact ⟨16, by decide, rfl⟩
set_option maxRecDepth 100000 in
theorem c157 (x : Int32) : ∃ k, k < 38 ∧ dm157 x = some (.ref (2 * k + 1)) := by
  unfold dm157
  repeat' split
  · exact ⟨23, by decide, rfl⟩
  · exact ⟨24, by decide, rfl⟩
  · exact ⟨25, by decide, rfl⟩
  · exact ⟨26, by decide, rfl⟩
  · exact ⟨27, by decide, rfl⟩
  · exact ⟨28, by decide, rfl⟩
  · exact ⟨29, by decide, rfl⟩
  · exact ⟨30, by decide, rfl⟩
  · exact ⟨31, by decide, rfl⟩
  · exact ⟨32, by decide, rfl⟩
  · exact ⟨33, by decide, rfl⟩
  · exact ⟨34, by decide, rfl⟩
set_option maxRecDepth 100000 in
theorem c142 (h : FS s b ns) (x : Int32) : Wc (dm142 x s) s := by
  obtain ⟨v0, e0, -⟩ := c57 h x 0 (by omega)
  obtain ⟨v8, e8, -⟩ := c57 h x 8 (by omega)
  have e0 : dm57 b x 0 s = some v0 := e0
  have e8 : dm57 b x 8 s = some v8 := e8
  unfold dm142
  rw [h.1, vN_ref, if_pos h.2.1, e0]
  simp only [bu_some, vN_ref]
  by_cases q0 : v0 = 0
  · rw [if_pos q0]
    exact (c143 h x).b fun s1 c1 => Wc.s s1
  · rw [if_neg q0]
    by_cases q1 : v0 = 1
    · rw [if_pos q1]
      exact (c145 h x).b fun s1 c1 => Wc.s s1
    · rw [if_neg q1]
      by_cases q2 : v0 = 2
      · rw [if_pos q2, if_pos h.2.1, e8]
        simp only [bu_some]
        obtain ⟨k, hk, ek⟩ := c110 v8
        rw [ek]
        simp only [bu_some]
        show Wc (if aK s (2 * k + 1) 70 then bu (dm147 (2 * k + 1) s) fun s32 => some s32 else none) s
        rw [if_pos (h.2.2.2.2.2.2.2.2 k hk).1]
        exact (c147 h hk).b fun s1 c1 => Wc.s s1
      · rw [if_neg q2]
        by_cases q3 : v0 = 3
        · rw [if_pos q3, if_pos h.2.1, e8]
          simp only [bu_some]
          unfold dm142_34
          split
          · exact (c147 (k := 20) h (by decide)).b fun s1 c1 => Wc.s s1
          · exact (c147 (k := 21) h (by decide)).b fun s1 c1 => Wc.s s1
        · rw [if_neg q3]
          by_cases q4 : v0 = 4
          · rw [if_pos q4]
            exact (c148 h x).b fun s1 c1 => Wc.s s1
          · rw [if_neg q4]
            by_cases q5 : v0 = 5
            · rw [if_pos q5]
              exact (c148 h x).b fun s1 c1 => Wc.s s1
            · rw [if_neg q5]
              by_cases q6 : v0 = 6
              · rw [if_pos q6]
                exact (c143 h x).b fun s1 c1 => Wc.s s1
              · rw [if_neg q6]
                by_cases q7 : v0 = 7
                · rw [if_pos q7]
                  exact (c143 h x).b fun s1 c1 => (c141 _ s1).b fun s2 c2 => Wc.s s2
                · rw [if_neg q7]
                  by_cases q8 : v0 = 8
                  · rw [if_pos q8]
                    exact Wc.s s
                  · rw [if_neg q8]
                    by_cases q9 : v0 = 9
                    · rw [if_pos q9]
                      exact Wc.s s
                    · rw [if_neg q9]
                      by_cases q10 : v0 = 10
                      · rw [if_pos q10]
                        exact (c141 _ s).b fun s1 c1 => Wc.s s1
                      · rw [if_neg q10]
                        exact Wc.s s
/-- with the depth -/
def Wd (D : Option aS) (s : aS) : Prop := ∃ s' d, D = some s' ∧ ch wrC s s' ∧ d ≤ 128 ∧ sI s' 117 4 = Int32.ofNat d
set_option maxRecDepth 100000 in
theorem Wc.d {D : Option aS} {K : aS → Option aS} {d : Nat} (h : Wc D s) (hd : d ≤ 128) (h4 : sI s 117 4 = Int32.ofNat d) (k : ∀ s1, ch wrD s s1 → sI s1 117 4 = Int32.ofNat d → Wd (K s1) s1) : Wd (bu D K) s := by
  obtain ⟨s1, h1, h2⟩ := h
  rw [h1]
  obtain ⟨s2, e, k1, k2, k3, k4⟩ := k s1 h2 ((h2.i (by unfold wrD; omega)).trans h4)
  exact ⟨s2, e, k1, (dc h2).trans k2, k3, k4⟩
set_option maxRecDepth 100000 in
theorem c140 {d : Nat} (x : Int32) (hd : d ≤ 128) (h4 : sI s 117 4 = Int32.ofNat d) : Wd (dm140 x s) s := by
  have f24 : ∀ (s : aS), d < 128 → sI s 117 4 = Int32.ofNat d → Wd (dm140_24 x s) s := by
    intro s hd h4
    have bd : aB (Int32.ofNat d) 128 := aB_of hd (by omega)
    unfold dm140_24
    rw [h4, if_pos bd]
    simp only [nx_eq]
    have e1 : sI (wI s 118 (jN (Int32.ofNat d)) (sI s 117 6)) 117 4 = Int32.ofNat d := by rw [sI_wI, if_neg (by omega)]; exact h4
    rw [e1, if_pos bd]
    have e2 : sI (wI (wI s 118 (jN (Int32.ofNat d)) (sI s 117 6)) 119 (jN (Int32.ofNat d)) 0) 117 4 = Int32.ofNat d := by rw [sI_wI, if_neg (by omega)]; exact e1
    rw [e2, if_pos bd]
    have e3 : sI (wI (wI (wI s 118 (jN (Int32.ofNat d)) (sI s 117 6)) 119 (jN (Int32.ofNat d)) 0) 120 (jN (Int32.ofNat d)) (x &&& 1)) 117 4 = Int32.ofNat d := by rw [sI_wI, if_neg (by omega)]; exact e2
    rw [e3, ofNat_succ (by omega)]
    refine ⟨_, d + 1, rfl, ?_, by omega, ?_⟩
    · exact ((((((ch.refl _ s).wI (by unfold wrC; omega)).wI (by unfold wrC; omega)).wI (by unfold wrC; omega)).wI (by unfold wrC; omega)).wI (by unfold wrC; omega)).wI (by unfold wrC; omega)
    · rw [sI_wI, if_neg (by omega), sI_wI, if_neg (by omega), sI_wI, if_pos ⟨rfl, rfl⟩]
  have f19 : ∀ (s : aS), d < 128 → sI s 117 4 = Int32.ofNat d → Wd (dm140_19 x s) s := by
    intro s hd h4
    unfold dm140_19
    split
    · exact f24 s hd h4
    · exact (c141 40 s).d (by omega) h4 fun s1 c1 e1 => f24 s1 hd e1
  unfold dm140
  rw [h4]
  by_cases c : d = 128
  · subst c
    rw [if_neg (by decide)]
    exact ⟨s, 128, rfl, ch.refl _ s, by omega, h4⟩
  · rw [if_pos (show Int32.ofNat d < 128 from (nlt_iff (b := 128) (by omega) (by omega)).mpr (by omega))]
    by_cases c0 : d = 0
    · subst c0
      rw [if_pos (by decide)]
      exact f19 s (by omega) h4
    · have e : Int32.ofNat d - 1 = Int32.ofNat (d - 1) := ofNat_sub1 (by omega) (by omega)
      rw [if_neg (fun q => by have := (nle_iff (b := 0) (by omega) (by omega)).mp q; omega), e, if_pos (aB_of (by omega) (by omega)), if_pos (aB_of (by omega) (by omega)), nx_eq]
      obtain ⟨s2, d2, g1, g2, g3, g4⟩ := f19 (wI s 119 (jN (Int32.ofNat (d - 1))) (sI s 119 (jN (Int32.ofNat (d - 1))) + 1)) (by omega) (by rw [sI_wI, if_neg (by omega)]; exact h4)
      exact ⟨s2, d2, g1, ((ch.refl wrC s).wI (by unfold wrC; omega)).trans g2, g3, g4⟩
set_option maxRecDepth 100000 in
theorem c156 {d : Nat} (x : Int32) (hd : d ≤ 128) (h4 : sI s 117 4 = Int32.ofNat d) : Wd (dm156 x s) s := by
  have f13 : ∀ (s : aS), sI s 117 4 = Int32.ofNat d → Wd (dm156_13 s) s := by
    intro s h4
    unfold dm156_13
    rw [h4]
    by_cases c0 : d = 0
    · subst c0
      rw [if_pos (by decide)]
      exact ⟨s, 0, rfl, ch.refl _ s, by omega, h4⟩
    · have e : Int32.ofNat d - 1 = Int32.ofNat (d - 1) := ofNat_sub1 (by omega) (by omega)
      rw [if_neg (fun q => by have := (nle_iff (b := 0) (by omega) (by omega)).mp q; omega), e, nx_eq]
      have e1 : sI (wI s 117 4 (Int32.ofNat (d - 1))) 117 4 = Int32.ofNat (d - 1) := by rw [sI_wI, if_pos ⟨rfl, rfl⟩]
      have c1 : ch wrC s (wI s 117 4 (Int32.ofNat (d - 1))) := (ch.refl wrC s).wI (by unfold wrC; omega)
      rw [e1, if_pos (aB_of (by omega) (by omega))]
      split
      · exact ⟨_, d - 1, rfl, c1, by omega, e1⟩
      · obtain ⟨s2, d2, g1, g2, g3, g4⟩ := (c141 41 (wI s 117 4 (Int32.ofNat (d - 1)))).d (d := d - 1) (K := fun s9 => some s9) (by omega) e1 fun s1 c1 e1 => ⟨s1, d - 1, rfl, ch.refl _ s1, by omega, e1⟩
        exact ⟨s2, d2, g1, c1.trans g2, g3, g4⟩
  unfold dm156
  split
  · exact (c141 37 s).d hd h4 fun s1 c1 e1 => f13 s1 e1
  · split
    · exact (c141 41 s).d hd h4 fun s1 c1 e1 => f13 s1 e1
    · exact f13 s h4
set_option maxRecDepth 100000 in
theorem c155 {d : Nat} (h : FS s b ns) (x y : Int32) (hd : d ≤ 128) (h4 : sI s 117 4 = Int32.ofNat d) : Wd (dm155 x y s) s := by
  have e85 : ∀ x, ∃ r, dm85 x = some r := fun x => by
    unfold dm85
    repeat' split
    all_goals exact ⟨_, rfl⟩
  have f28 : ∀ (k : Int32) (s : aS), FS s b ns → sI s 117 4 = Int32.ofNat d → Wd (dm155_28 y k s) s := by
    intro k s h h4
    have e158 : ∃ v, dm158 k y s = some v := by
      unfold dm158 dm158_24
      obtain ⟨r, er⟩ := e85 k
      obtain ⟨v0, e0, -⟩ := c57 h (sI s 117 6) 0 (by omega)
      have e0 : dm57 b (sI s 117 6) 0 s = some v0 := e0
      obtain ⟨r2, er2⟩ := e85 v0
      rw [er]
      simp only [bu_some]
      rw [h.1, vN_ref, if_pos h.2.1, e0]
      simp only [bu_some]
      rw [er2]
      simp only [bu_some]
      repeat' split
      all_goals exact ⟨_, rfl⟩
    obtain ⟨v, e⟩ := e158
    unfold dm155_28
    rw [e]
    simp only [bu_some]
    obtain ⟨s2, d2, g1, g2, g3, g4⟩ := c140 v hd h4
    rw [g1]
    exact ⟨s2, d2, rfl, g2, g3, g4⟩
  have f27 : ∀ (k : Int32) (c : Nat), c < 38 → Wd (dm155_27 y k (2 * c + 1) s) s := by
    intro k c hc
    unfold dm155_27
    exact (c147 h hc).d hd h4 fun s1 c1 e1 => f28 k s1 (h.of (dc c1)) e1
  obtain ⟨v0, e0, -⟩ := c57 h x 0 (by omega)
  obtain ⟨v1, e1, -⟩ := c57 h x 1 (by omega)
  have e0 : dm57 b x 0 s = some v0 := e0
  have e1 : dm57 b x 1 s = some v1 := e1
  unfold dm155
  rw [h.1, vN_ref, if_pos h.2.1, e0]
  simp only [bu_some, vN_ref]
  rw [if_pos h.2.1, e1]
  simp only [bu_some]
  by_cases q1 : y < v1
  · rw [if_pos q1]
    by_cases q2 : y ≤ 0
    · rw [if_pos q2]
      exact f28 v0 s h h4
    · rw [if_neg q2]
      by_cases q3 : v0 = 7
      · rw [if_pos q3]
        exact f27 v0 22 (by decide)
      · rw [if_neg q3]
        obtain ⟨k, hk, ek⟩ := c157 v0
        rw [ek]
        simp only [bu_some]
        show Wd (if aK s (2 * k + 1) 70 then dm155_27 y v0 (2 * k + 1) s else none) s
        rw [if_pos (h.2.2.2.2.2.2.2.2 k hk).1]
        exact f27 v0 k hk
  · rw [if_neg q1]
    obtain ⟨s2, d2, g1, g2, g3, g4⟩ := c156 v0 hd h4
    rw [g1]
    exact ⟨s2, d2, rfl, g2, g3, g4⟩
set_option maxRecDepth 100000 in
theorem c139l : ∀ (m q n d : Nat) (s : aS), FS s b ns → d ≤ 128 → sI s 117 4 = Int32.ofNat d → q + m = 384 → m < n → ∃ v s', dm139_23 n (Int32.ofNat q) s = some (v, s') ∧ ch wrC s s' := by
  intro m
  induction m with
  | zero =>
    intro q n d s h hd h4 h1 h2
    obtain ⟨n, rfl⟩ : ∃ q, n = q + 1 := ⟨n - 1, by omega⟩
    have : q = 384 := by omega
    subst this
    rw [dm139_23, if_pos (by decide)]
    exact ⟨_, s, rfl, ch.refl _ s⟩
  | succ m ih =>
    intro q n d s h hd h4 h1 h2
    obtain ⟨n, rfl⟩ : ∃ q, n = q + 1 := ⟨n - 1, by omega⟩
    rw [dm139_23, if_neg (fun z => by have := (nle_iff (a := 384) (by omega) (by omega)).mp z; omega), h4]
    by_cases c0 : d = 0
    · subst c0
      rw [if_pos (by decide)]
      exact ⟨_, s, rfl, ch.refl _ s⟩
    · have e : Int32.ofNat d - 1 = Int32.ofNat (d - 1) := ofNat_sub1 (by omega) (by omega)
      rw [if_neg (fun z => by have := (nle_iff (b := 0) (by omega) (by omega)).mp z; omega)]
      by_cases c1 : sI s 117 9 < sI s 117 8
      · rw [if_pos c1]
        exact ⟨_, s, rfl, ch.refl _ s⟩
      · rw [if_neg c1, e]
        unfold dm139_66
        rw [ofNat_succ (by omega)]
        by_cases c2 : sI s 117 7 = 0
        · rw [if_pos c2, if_pos (aB_of (by omega) (by omega)), if_pos (aB_of (by omega) (by omega))]
          obtain ⟨s2, d2, g1, g2, g3, g4⟩ := c155 h (sI s 118 (jN (Int32.ofNat (d - 1)))) (sI s 119 (jN (Int32.ofNat (d - 1)))) hd h4
          rw [g1]
          simp only [bu_some]
          obtain ⟨v, s3, y1, y2⟩ := ih (q + 1) n d2 s2 (h.of g2) g3 g4 (by omega) (by omega)
          exact ⟨v, s3, y1, g2.trans y2⟩
        · rw [if_neg c2, nx_eq]
          have e1 : sI (wI s 117 7 0) 117 4 = Int32.ofNat d := by rw [sI_wI, if_neg (by omega)]; exact h4
          have cc : ch wrC s (wI s 117 7 0) := (ch.refl wrC s).wI (by unfold wrC; omega)
          rw [e1, e, if_pos (aB_of (by omega) (by omega))]
          obtain ⟨s2, g1, g2⟩ := c142 (h.of cc) (sI (wI s 117 7 0) 118 (jN (Int32.ofNat (d - 1))))
          rw [g1]
          simp only [bu_some]
          obtain ⟨v, s3, y1, y2⟩ := ih (q + 1) n d s2 ((h.of cc).of (dc g2)) hd ((g2.i (by unfold wrD; omega)).trans e1) (by omega) (by omega)
          exact ⟨v, s3, y1, (cc.trans (dc g2)).trans y2⟩
end CW
set_option maxRecDepth 100000 in
/-- form of a tree: it comes to its end, and only the writer's own cells change -/
theorem c139 {s : aS} {b : Nat} {ns : List (List Int32)} (hb : aK s b 3) (hb2 : b = 102 ∨ 149 ≤ b) (hN : ∃ N u, N ≤ 128 ∧ sI s b 2 = Int32.ofNat N ∧ TL s b u ∧ ∀ k, k < N → ∃ l, NL s b k u l) (hT : (sT s (b + 3)).2 = 256) (hS : SC s ns) (hn : nsOk ns) (hR : RC s) (hA : AS s) (x : Int32) : ∃ v s', dm139 b x s = some (v, s') ∧ ch (fun a _ => 117 ≤ a ∧ a ≤ 120) s s' := by
  let s0 := wR s 117 5 (.ref b)
  have h0 : FS s0 b ns := ⟨by show sR (wR s 117 5 (.ref b)) 117 5 = .ref b; rw [sR_wR, if_pos ⟨rfl, rfl⟩], hb, hb2, hN, hT, hS, hn, hR, hA⟩
  have c0 : ch (fun a _ => 117 ≤ a ∧ a ≤ 120) s s0 := (ch.refl _ s).wR ⟨by omega, by omega⟩
  let s1 := wI (wI (wI (wI (wI s0 117 4 0) 117 6 0) 117 8 0) 117 9 x) 117 10 (-1)
  have c1 : ch wrC s0 s1 := (((((ch.refl wrC s0).wI (by unfold wrC; omega)).wI (by unfold wrC; omega)).wI (by unfold wrC; omega)).wI (by unfold wrC; omega)).wI (by unfold wrC; omega)
  have e1 : sI s1 117 4 = Int32.ofNat 0 := by
    show sI (wI (wI (wI (wI (wI s0 117 4 0) 117 6 0) 117 8 0) 117 9 x) 117 10 (-1)) 117 4 = _
    rw [sI_wI, if_neg (by omega), sI_wI, if_neg (by omega), sI_wI, if_neg (by omega), sI_wI, if_neg (by omega), sI_wI, if_pos ⟨rfl, rfl⟩]
    rfl
  unfold dm139
  simp only [nx_eq]
  obtain ⟨s2, d2, g1, g2, g3, g4⟩ := c140 (s := s1) 0 (by omega) e1
  show ∃ v s', bu (dm140 0 s1) (fun s27 => dm139_23 5000 0 s27) = some (v, s') ∧ _
  rw [g1]
  simp only [bu_some]
  obtain ⟨v, s3, y1, y2⟩ := c139l 384 0 5000 d2 s2 (h0.of (c1.trans g2)) g3 g4 (by omega) (by omega)
  exact ⟨v, s3, y1, c0.trans (((c1.trans g2).trans y2).mono fun a k z => by unfold wrC at z; omega)⟩
end
