/-! percent, commas, brackets closed, in the reference -/
set_option maxRecDepth 100000 in
theorem GM.wrap {s s2 : aS} {r r' : Nat → Int32} {e m : Nat} {F : List Fw} {cur : List NN} {U : NN} (h : GM s r e F cur) (hm : (fl F ++ cur).length = m) (h8 : m < 128) (hU : U.1 = m) (hH : HF s2 e (U :: cur) [m]) (hp : PZ s s2 e (idL (fl F))) (h2 : sI s2 142 m = -1) (hst : ∀ a, 144 ≤ a → a ≤ 146 → ∀ q, sI s2 a q = sI s a q) (h21 : r' 21 = Int32.ofNat (m + 1)) (h32 : r' 32 = r 32) (h33 : r' 33 = r 33) (h29 : r' 29 = Int32.ofNat (nT F + 1)) : GM (wI s2 144 (nT F) (Int32.ofNat m)) r' e F (U :: cur) := by
  obtain ⟨q1, q2, q3⟩ := h.fresh hm
  obtain ⟨a1, a2, a3, a4, a5, a6, a7, a8⟩ := h
  have hnn := a7.1
  rw [idL_ap, List.nodup_append] at hnn
  have el : (fl F ++ (U :: cur)).length = m + 1 := by
    rw [← hm]
    simp only [List.length_append, List.length_cons]
    omega
  have ei : idL (fl F ++ (U :: cur)) = idL (fl F) ++ m :: idL cur := by rw [idL_ap, ← hU]; rfl
  have hnd : (idL (U :: cur)).Nodup := by
    show (U.1 :: idL cur).Nodup
    rw [hU, List.nodup_cons]
    exact ⟨fun q => q3 m q rfl, hnn.2.1⟩
  have pz : ∀ I, PZ s2 (wI s2 144 (nT F) (Int32.ofNat m)) e I := fun I => PZ.st (by decide)
  refine ⟨⟨by rw [el]; exact h21, by rw [el]; omega⟩, h32.trans a2, ⟨h33.trans a3.1, a3.2⟩, WS.of F a4 (fun q _ => ⟨?_, ?_⟩), TS.of F a5 (fun q hq => ?_), FrAll.of a6 hnn.1 (hp.trans (pz _)) (Nat.le_refl _), ⟨?_, ?_⟩, Or.inr ⟨m, (pz _).hf (Nat.le_refl _) hH hnd, ?_, ?_, h29⟩⟩
  · rw [sI_wI, if_neg (by omega)]
    exact hst 145 (by decide) (by decide) q
  · rw [sI_wI, if_neg (by omega)]
    exact hst 146 (by decide) (by decide) q
  · rw [sI_wI, if_neg (by omega)]
    exact hst 144 (by decide) (by decide) q
  · rw [ei]
    refine nodup_ins (by rw [← idL_ap]; exact a7.1) ?_
    rw [← idL_ap]
    exact q1
  · rw [ei, el]
    intro k hk
    rcases List.mem_append.mp hk with z | z
    · have := a7.2 k (by rw [idL_ap]; exact List.mem_append_left _ z)
      omega
    · rcases List.mem_cons.mp z with z | z
      · omega
      · have := a7.2 k (by rw [idL_ap]; exact List.mem_append_right _ z)
        omega
  · rw [sI_wI, if_neg (by omega)]
    exact h2
  · rw [sI_wI, if_pos ⟨rfl, rfl⟩]
set_option maxRecDepth 100000 in
theorem mk_new (s : aS) (e m : Nat) (x : Int32) : ch (newA e m) s (mkN s m x) := (mk_c s m x).mono fun a k z => by unfold newA; omega
set_option maxRecDepth 100000 in
theorem mk_NR {s : aS} {e m : Nat} {x : Int32} (hx : ¬ (x = 0 ∨ x = 1 ∨ x = 6 ∨ x = 7)) : NR (mkN s m x) e (m, plF x 0, []) := by
  refine ⟨fun w hw => mk_w (by omega), ?_, ?_, fun _ => rfl⟩
  · intro q
    have q : x = 0 ∨ x = 6 ∨ x = 7 := q
    exact absurd (by rcases q with q | q | q; exact Or.inl q; exact Or.inr (Or.inr (Or.inl q)); exact Or.inr (Or.inr (Or.inr q))) hx
  · intro q
    have q : x = 1 := q
    exact absurd (Or.inr (Or.inl q)) hx
/-- the node of a percent -/
def pcN (m : Nat) : NN := (m, setN (plF 9 0) 1 (Int32.ofNat 1), [])
set_option maxRecDepth 100000 in
theorem d216p {s : aS} {r : Nat → Int32} {e i m : Nat} {F : List Fw} {cur : List NN} (h : GM s r e F cur) (hcur : cur ≠ []) (hm : (fl F ++ cur).length = m) (h8 : m < 128) : ∃ s' r', (∀ (K : aS → Option aS), (bv (dm187 9 (wP s r i)) fun r6 s5 => bv (dm192 s5) fun r10 s9 => bu (dm193 r6 r10 s9) fun s13 => bu (dm194 r6 s13) K) = K (wP s' r' i)) ∧ GM s' r' e F (pcN m :: cur) ∧ (∀ k, k ≠ 21 → k ≠ 29 → r' k = r k) ∧ ch (fun a k => ((128 ≤ a ∧ a ≤ 138) ∧ 1024 ≤ k) ∨ (140 ≤ a ∧ a ≤ 147)) s s' := by
  obtain ⟨q1, q2, q3⟩ := h.fresh hm
  have hG := h
  obtain ⟨a1, a2, a3, a4, a5, a6, a7, a8⟩ := h
  obtain ⟨c, c1, c2, c3, c4⟩ := a8.resolve_left (fun q => hcur q.1)
  have hnn := a7.1
  rw [idL_ap, List.nodup_append] at hnn
  have hcm : c ∈ idL cur := HF.sub _ _ c1 c List.mem_cons_self
  have hcl : c < 128 := by
    have := a7.2 c (by rw [idL_ap]; exact List.mem_append_right _ hcm)
    omega
  have hcc : c ≠ m := q3 c hcm
  have hfb := fl_b F
  have hlc : (fl F ++ cur).length = (fl F).length + cur.length := List.length_append
  have pz1 : PZ s (mkN s m 9) e (idL (fl F)) := PZ.new (mk_new s e m 9) q2
  have pz2 : PZ s (mkN s m 9) e (idL cur) := PZ.new (mk_new s e m 9) q3
  have k144 : sI (mkN s m 9) 144 (nT F) = sI s 144 (nT F) := (mk_c s m 9).i (by omega)
  obtain ⟨s1, d1, d2, d3, d4, d5, d6⟩ := d193 (s := mkN s m 9) (roots := []) h8 hcl (mk_k (Or.inl rfl)) (fun ks q z => by cases ks <;> cases z) (mk_w (w := 1) (by decide)) (by simp) List.nodup_nil (by simp) (((pz2.2 c hcm).2.2).trans c2)
  have d6 : ch (attA m []) (mkN s m 9) s1 := d6
  have hH := (HF.att (C := []) (roots := []) (l := []) h8 (mk_NR (s := s) (e := e) (m := m) (x := 9) (by decide)) (rfl : HF (mkN s m 9) e [] []) (pz2.hf (Nat.le_refl _) c1 hnn.2.1) (by rw [List.nodup_cons]; exact ⟨fun q => q3 m q rfl, hnn.2.1⟩) d6 d4 d2).1
  refine ⟨wI s1 144 (nT F) (Int32.ofNat m), setN (setN (setN r 21 (Int32.ofNat (m + 1))) 29 (Int32.ofNat (nT F))) 29 (Int32.ofNat (nT F + 1)), fun K => ?_, ?_, fun k k1 k2 => ?_, ?_⟩
  · rw [d187 (m := m) (by rw [← hm]; exact a1.1) h8]
    simp only [bv_some]
    rw [d192 (c := nT F) (show setN r 21 (Int32.ofNat (m + 1)) 29 = Int32.ofNat (nT F + 1) from c4) (by omega), k144, c3]
    simp only [bv_some]
    rw [d1]
    simp only [bu_some]
    rw [d194 (c := nT F) rfl (by omega)]
    rfl
  · refine GM.wrap (U := pcN m) hG hm h8 rfl hH (pz1.trans (PZ.att d6 fun k hk => ⟨q2 k hk, by simp⟩)) ((att_n d6 (by simp)).trans (mk_k (Or.inr (Or.inr rfl)))) (fun a b1 b2 q => (att_st d6 (by omega)).trans ((mk_c s m 9).i (by omega))) rfl rfl rfl rfl
  · unfold setN
    rw [if_neg k2, if_neg k2, if_neg k1]
  · exact (((mk_c s m 9).mono fun a k z => by omega).trans (d6.mono fun a k z => by unfold attA at z; omega)).wI (by omega)
set_option maxRecDepth 100000 in
theorem rk0 (x : Int32) : ¬ rkM x < 0 := by
  unfold rkM
  repeat' split
  all_goals decide
def inM : List Fw → Int32
  | [] => -1
  | f :: F => if f.1 = 100 ∨ f.1 = 7 then f.1 else inM F
set_option maxRecDepth 100000 in
theorem rd_in : ∀ (F : List Fw) (cur : List NN), ((rdF 0 F cur).1 = [] ∧ inM F = -1 ∧ nO F = 0) ∨ ∃ f F0, (rdF 0 F cur).1 = f :: F0 ∧ (f.1 = 100 ∨ f.1 = 7) ∧ inM F = f.1 ∧ f ∈ F ∧ nO F = nO F0 + 1
  | [], cur => Or.inl ⟨rfl, rfl, rfl⟩
  | f :: F, cur => by
    by_cases g : f.1 = 100 ∨ f.1 = 7
    · right
      refine ⟨f, F, ?_, g, if_pos g, List.mem_cons_self, ?_⟩
      · have : rdF 0 (f :: F) cur = (f :: F, cur) := if_pos (by rcases g with q | q; exact Or.inl q; exact Or.inr (Or.inl q))
        rw [this]
      · show nO F + (if f.1 = 100 ∨ f.1 = 7 then 1 else 0) = nO F + 1
        rw [if_pos g]
    · have e : rdF 0 (f :: F) cur = rdF 0 F (upN f :: (f.2.2.1 ++ cur)) := if_neg (by
        rintro (q | q | q)
        · exact g (Or.inl q)
        · exact g (Or.inr q)
        · exact rk0 _ q)
      have e2 : inM (f :: F) = inM F := if_neg g
      have e3 : nO (f :: F) = nO F := by
        show nO F + (if f.1 = 100 ∨ f.1 = 7 then 1 else 0) = nO F
        rw [if_neg g]
        rfl
      rw [e, e2, e3]
      rcases rd_in F (upN f :: (f.2.2.1 ++ cur)) with q | ⟨f', F0, q1, q2, q3, q4, q5⟩
      · exact Or.inl q
      · exact Or.inr ⟨f', F0, q1, q2, q3, List.mem_cons_of_mem _ q4, q5⟩
set_option maxRecDepth 100000 in
theorem d220l {s : aS} {r : Nat → Int32} {i : Nat} : ∀ (F : List Fw) (n : Nat), WS s F → F.length < 300 → F.length < n → dm220_5 n (Int32.ofNat F.length - 1) (wP s r i) = some (inM F) := by
  intro F
  induction F with
  | nil =>
    intro n h h3 hn
    obtain ⟨n, rfl⟩ : ∃ q, n = q + 1 := ⟨n - 1, by simp only [List.length_nil] at hn; omega⟩
    show dm220_5 (n + 1) (-1) (wP s r i) = some (-1)
    rw [dm220_5, if_pos (by decide)]
    unfold dm220_21
    rw [if_neg (by decide)]
  | cons f F ih =>
    intro n h h3 hn
    obtain ⟨n, rfl⟩ : ∃ q, n = q + 1 := ⟨n - 1, by simp only [List.length_cons] at hn; omega⟩
    simp only [List.length_cons] at hn h3
    have bF : aB (Int32.ofNat F.length) 300 := aB_of (by omega) (by omega)
    have jF : jN (Int32.ofNat F.length) = F.length := jN_of (by omega)
    have es : Int32.ofNat (F.length + 1) - 1 = Int32.ofNat F.length := ofNat_sub1 (n := F.length + 1) (by omega) (by omega)
    have p0 : ¬ Int32.ofNat F.length < 0 := fun q => by
      have := (nlt_iff (b := 0) (by omega) (by omega)).mp q
      omega
    have p1 : (0 : Int32) ≤ Int32.ofNat F.length := (nle_iff (a := 0) (by omega) (by omega)).mpr (Nat.zero_le _)
    have w1 : sI s 145 F.length = f.1 := h.1
    show dm220_5 (n + 1) (Int32.ofNat (F.length + 1) - 1) (wP s r i) = some (if f.1 = 100 ∨ f.1 = 7 then f.1 else inM F)
    rw [dm220_5, es]
    unfold dm220_21
    simp only [if_neg p0, if_pos p1, if_pos bF, jF, wP_n (show (145 : Nat) ≠ 121 by decide), w1]
    by_cases g1 : f.1 = 100
    · rw [if_pos g1, if_pos (Or.inl g1)]
    · rw [if_neg g1]
      by_cases g2 : f.1 = 7
      · rw [if_pos g2, if_pos (Or.inr g2)]
      · rw [if_neg g2, if_neg (by rintro (q | q); exact g1 q; exact g2 q)]
        have e2 : Int32.ofNat F.length + (-1) = Int32.ofNat F.length - 1 := by rw [Int32.sub_eq_add_neg]
        rw [e2]
        exact ih n h.2.2 (by omega) (by omega)
set_option maxRecDepth 100000 in
theorem GM.fb {s : aS} {r : Nat → Int32} {e : Nat} {F : List Fw} {cur : List NN} (h : GM s r e F cur) : F.length ≤ 160 ∧ nT F ≤ 128 ∧ (fl F ++ cur).length ≤ 128 := by
  have hfb := fl_b F
  have a1 := h.1.2
  have hlc : (fl F ++ cur).length = (fl F).length + cur.length := List.length_append
  have hO := h.2.2.1.2
  omega
set_option maxRecDepth 100000 in
theorem d220 {s : aS} {r : Nat → Int32} {i e : Nat} {F : List Fw} {cur : List NN} (h : GM s r e F cur) : dm220 (wP s r i) = some (inM F) := by
  have hb := h.fb
  have a2 : r 32 = Int32.ofNat F.length := h.2.1
  unfold dm220
  rw [wP_f (by decide), a2]
  exact d220l F 5000 h.2.2.2.1 (by omega) (by omega)
