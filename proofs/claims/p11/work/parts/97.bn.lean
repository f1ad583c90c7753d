/-! what waits is put together, in the reference -/
def rkM (x : Int32) : Int32 := if 9 ≤ x then (if x = 9 then 7 else if x = 10 then 6 else if x = 11 then 5 else if 14 ≤ x then (if 16 ≤ x then (if x = 16 then 2 else 1) else 3) else 4) else 8
set_option maxRecDepth 100000 in
theorem d191 (x : Int32) : dm191 x = some (rkM x) := by
  unfold dm191 rkM
  repeat' split
  all_goals rfl
set_option maxRecDepth 100000 in
theorem fl_c {f : Fw} {F : List Fw} (h : f.1 ≠ 100) : fl (f :: F) = fl F ++ (f.2.1 :: f.2.2.1) := by
  show fl F ++ frl f = _
  unfold frl
  rw [if_neg h]
set_option maxRecDepth 100000 in
theorem PZ.st {s : aS} {e a k : Nat} {v : Int32} {I : List Nat} (ha : 143 ≤ a) : PZ s (wI s a k v) e I := by
  refine ⟨fun q _ => ?_, fun k _ => ⟨⟨fun w hw => ?_, ?_⟩, ?_, ?_⟩⟩
  all_goals
    rw [sI_wI, if_neg (by omega)]
set_option maxRecDepth 100000 in
theorem PZ.trans {s s1 s2 : aS} {e : Nat} {I : List Nat} (h : PZ s s1 e I) (g : PZ s1 s2 e I) : PZ s s2 e I := ⟨fun q hq => (g.1 q hq).trans (h.1 q hq), fun k hk => ⟨⟨fun w hw => ((g.2 k hk).1.1 w hw).trans ((h.2 k hk).1.1 w hw), (g.2 k hk).1.2.trans (h.2 k hk).1.2⟩, (g.2 k hk).2.1.trans (h.2 k hk).2.1, (g.2 k hk).2.2.trans (h.2 k hk).2.2⟩⟩
set_option maxRecDepth 100000 in
theorem PZ.att {s s' : aS} {e p : Nat} {roots I : List Nat} (h : ch (attA p roots) s s') (h1 : ∀ k ∈ I, k ≠ p ∧ k ∉ roots) : PZ s s' e I := ⟨fun q _ => att_l h, fun k hk => ⟨(att_k h (h1 k hk).1).1, (att_k (e := e) h (h1 k hk).1).2, att_n h (h1 k hk).2⟩⟩
set_option maxRecDepth 100000 in
/-- the ids of a frame and of what is above it -/
theorem GM.ids {s : aS} {r : Nat → Int32} {e : Nat} {F : List Fw} {f : Fw} {cur : List NN} (h : GM s r e (f :: F) cur) (hf : f.1 ≠ 100) : (idL (fl F)).Nodup ∧ (f.2.1.1 :: (idL f.2.2.1 ++ idL cur)).Nodup ∧ ∀ k ∈ idL (fl F), k ∉ f.2.1.1 :: (idL f.2.2.1 ++ idL cur) := by
  have := h.2.2.2.2.2.2.1.1
  rw [fl_c hf, List.append_assoc, idL_ap] at this
  have e1 : idL ((f.2.1 :: f.2.2.1) ++ cur) = f.2.1.1 :: (idL f.2.2.1 ++ idL cur) := by
    rw [idL_ap]
    rfl
  rw [e1, List.nodup_append] at this
  exact ⟨this.1, this.2.1, fun k hk q => this.2.2 k hk k q rfl⟩
set_option maxRecDepth 100000 in
theorem GM.epi {s s2 : aS} {r r' : Nat → Int32} {e : Nat} {F : List Fw} {f : Fw} {cur : List NN} {U : NN} (h : GM s r e (f :: F) cur) (hf : f.1 ≠ 100) (hU : U.1 = f.2.1.1) (hH : HF s2 e (U :: (f.2.2.1 ++ cur)) [U.1]) (hp : PZ s s2 e (idL (fl F))) (h2 : sI s2 142 U.1 = -1) (hst : ∀ a, 144 ≤ a → a ≤ 146 → ∀ q, sI s2 a q = sI s a q) (h21 : r' 21 = r 21) (h32 : r' 32 = Int32.ofNat F.length) (h33 : r' 33 = Int32.ofNat (nO F)) (h29 : r' 29 = Int32.ofNat (nT F + 1)) : GM (wI s2 144 (nT F) (Int32.ofNat U.1)) r' e F (U :: (f.2.2.1 ++ cur)) := by
  obtain ⟨n1, n2, n3⟩ := h.ids hf
  obtain ⟨a1, a2, a3, a4, a5, a6, a7, a8⟩ := h
  have el : (fl F ++ (U :: (f.2.2.1 ++ cur))).length = (fl (f :: F) ++ cur).length := by
    rw [fl_c hf]
    simp only [List.length_append, List.length_cons]
    omega
  have ei : idL (fl F ++ (U :: (f.2.2.1 ++ cur))) = idL (fl (f :: F) ++ cur) := by
    rw [fl_c hf, List.append_assoc, idL_ap, idL_ap]
    show idL (fl F) ++ (U.1 :: idL (f.2.2.1 ++ cur)) = idL (fl F) ++ (f.2.1.1 :: idL (f.2.2.1 ++ cur))
    rw [hU]
  have hO : nO F ≤ nO (f :: F) := Nat.le_add_right _ _
  have hnd : (idL (U :: (f.2.2.1 ++ cur))).Nodup := by
    show (U.1 :: idL (f.2.2.1 ++ cur)).Nodup
    rw [hU, idL_ap]
    exact n2
  have pz : ∀ I, PZ s2 (wI s2 144 (nT F) (Int32.ofNat U.1)) e I := fun I => PZ.st (by decide)
  refine ⟨⟨by rw [el]; exact h21.trans a1.1, by rw [el]; exact a1.2⟩, h32, ⟨h33, Nat.le_trans hO a3.2⟩, WS.of F a4.2.2 (fun q _ => ⟨?_, ?_⟩), TS.of F a5.2 (fun q hq => ?_), FrAll.of (fun g hg => a6 g (List.mem_cons_of_mem _ hg)) n1 (hp.trans (pz _)) (Nat.le_refl _), ⟨by rw [ei]; exact a7.1, by rw [ei, el]; exact a7.2⟩, Or.inr ⟨U.1, (pz _).hf (Nat.le_refl _) hH hnd, ?_, ?_, h29⟩⟩
  · rw [sI_wI, if_neg (by omega)]
    exact hst 145 (by decide) (by decide) q
  · rw [sI_wI, if_neg (by omega)]
    exact hst 146 (by decide) (by decide) q
  · rw [sI_wI, if_neg (by omega)]
    exact hst 144 (by decide) (by decide) q
  · rw [sI_wI, if_neg (by omega)]
    exact h2
  · rw [sI_wI, if_pos ⟨rfl, rfl⟩]
def upN (f : Fw) : NN := (f.2.1.1, setN f.2.1.2.1 1 (Int32.ofNat (f.2.2.2.length + 1)), f.2.1.2.2)
set_option maxRecDepth 100000 in
theorem att_st {s s' : aS} {p a q : Nat} {roots : List Nat} (h : ch (attA p roots) s s') (ha : 143 ≤ a) : sI s' a q = sI s a q := by
  refine h.i ?_
  unfold attA
  omega
set_option maxRecDepth 100000 in
/-- the head of what waits is neither ( nor a call: one round -/
theorem d190s {s : aS} {r : Nat → Int32} {i e n : Nat} {x1 : Int32} {F : List Fw} {f : Fw} {cur : List NN} (h : GM s r e (f :: F) cur) (hc : cur ≠ []) (h100 : f.1 ≠ 100) (h7 : f.1 ≠ 7) (hx : ¬ rkM f.1 < x1) : ∃ s' r', dm190_0 (n + 1) x1 (wP s r i) = dm190_0 n x1 (wP s' r' i) ∧ GM s' r' e F (upN f :: (f.2.2.1 ++ cur)) ∧ (∀ k, k ≠ 29 → k ≠ 32 → r' k = r k) ∧ ch (fun a k => (a = 129 ∧ 1024 ≤ k) ∨ (140 ≤ a ∧ a ≤ 147)) s s' := by
  obtain ⟨n1, n2, n3⟩ := h.ids h100
  have hG := h
  obtain ⟨a1, a2, a3, a4, a5, a6, a7, a8⟩ := h
  have hlen : (fl (f :: F) ++ cur).length ≤ 128 := a1.2
  have hfb := fl_b (f :: F)
  have hlc : (fl (f :: F) ++ cur).length = (fl (f :: F)).length + cur.length := List.length_append
  have hF : (f :: F).length = F.length + 1 := rfl
  have a2 : r 32 = Int32.ofNat (F.length + 1) := a2
  obtain ⟨-, f1, f2, f3, f4, f5, f6⟩ : f.1 ≠ 100 ∧ f.2.1.2.1 0 = f.1 ∧ f.2.1.1 < 128 ∧ NR s e f.2.1 ∧ HF s e f.2.2.1 f.2.2.2 ∧ sI s 142 f.2.1.1 = -1 ∧ _ := (a6 f List.mem_cons_self).resolve_left (fun q => h100 q.1)
  obtain ⟨c, c1, c2, c3, c4⟩ : ∃ c, HF s e cur [c] ∧ sI s 142 c = -1 ∧ sI s 144 (nT (f :: F)) = Int32.ofNat c ∧ r 29 = Int32.ofNat (nT (f :: F) + 1) := a8.resolve_left (fun q => hc q.1)
  have hcm : c ∈ idL cur := HF.sub _ _ c1 c List.mem_cons_self
  have hcl : c < 128 := by
    have : c ∈ idL (fl (f :: F) ++ cur) := by rw [idL_ap]; exact List.mem_append_right _ hcm
    have := a7.2 c this
    omega
  have w1 : sI s 145 F.length = f.1 := a4.1
  have w2 : sI s 146 F.length = Int32.ofNat f.2.1.1 := a4.2.1 h100
  have bF : aB (Int32.ofNat F.length) 300 := aB_of (by omega) (by omega)
  have jF : jN (Int32.ofNat F.length) = F.length := jN_of (by omega)
  have es : Int32.ofNat (F.length + 1) - 1 = Int32.ofNat F.length := ofNat_sub1 (n := F.length + 1) (by omega) (by omega)
  have ht : nT (f :: F) ≤ 128 := by omega
  have p0 : ¬ Int32.ofNat (F.length + 1) ≤ 0 := fun q => by
    have := (nle_iff (b := 0) (by omega) (by omega)).mp q
    omega
  have hnp : ∀ k ∈ idL (fl F), k ≠ f.2.1.1 := fun k hk q => n3 k hk (q ▸ List.mem_cons_self)
  have hnC : ∀ k ∈ idL (fl F), k ∉ f.2.2.2 := fun k hk q => n3 k hk (List.mem_cons_of_mem _ (List.mem_append_left _ (HF.sub _ _ f4 k q)))
  have n2b := n2
  rw [List.nodup_cons] at n2b
  have hk0 : f.2.1.2.1 1 = 0 := by
    rcases f6 with ⟨q, -⟩ | ⟨-, q, -⟩ | ⟨-, q, -⟩
    · exact absurd q h7
    · exact q
    · exact q
  have hk1 : sI s 129 (1024 + f.2.1.1) = Int32.ofNat 0 := (f3.1 1 (by decide)).trans hk0
  have h40 : sI s 140 f.2.1.1 = -1 := by
    rcases f6 with ⟨q, -⟩ | ⟨-, -, q, -⟩ | ⟨-, -, q, -⟩
    · exact absurd q h7
    · exact q
    · exact q
  have hr : ∀ (v w : Int32), setN (setN r 32 v) 29 w 32 = v := fun v w => rfl
  have step : dm190_0 (n + 1) x1 (wP s r i) = bv (some (Int32.ofNat c, wP s (setN (setN r 32 (Int32.ofNat F.length)) 29 (Int32.ofNat (nT (f :: F)))) i)) fun r18 s17 => if f.1 = 10 then dm190_58 (dm190_0 n) x1 (Int32.ofNat f.2.1.1) r18 s17 else bv (dm192 s17) fun r24 s23 => bu (dm193 (Int32.ofNat f.2.1.1) r24 s23) fun s27 => dm190_58 (dm190_0 n) x1 (Int32.ofNat f.2.1.1) r18 s27 := by
    rw [dm190_0]
    simp only [wP_f (show (32 : Nat) ≠ 26 by decide), a2, es, if_neg p0, if_pos bF, jF, wP_n (show (145 : Nat) ≠ 121 by decide), w1, if_neg h100, if_neg h7, d191, bu_some, if_neg hx, nx_eq]
    rw [wP_set (by decide)]
    have e32 : setN r 32 (Int32.ofNat F.length) 32 = Int32.ofNat F.length := rfl
    simp only [wP_f (show (32 : Nat) ≠ 26 by decide), e32, if_pos bF, jF, wP_n (show (146 : Nat) ≠ 121 by decide), w2]
    rw [d192 (c := nT (f :: F)) (show setN r 32 (Int32.ofNat F.length) 29 = Int32.ofNat (nT (f :: F) + 1) from c4) (by omega), c3]
    simp only [bv_some, wP_f (show (32 : Nat) ≠ 26 by decide), hr, if_pos bF, jF, wP_n (show (145 : Nat) ≠ 121 by decide), w1]
  rw [step, bv_some]
  have fin : ∀ (s2 : aS) (U : NN), U.1 = f.2.1.1 → HF s2 e (U :: (f.2.2.1 ++ cur)) [U.1] → PZ s s2 e (idL (fl F)) → sI s2 142 U.1 = -1 → (∀ a, 144 ≤ a → a ≤ 146 → ∀ q, sI s2 a q = sI s a q) → f.1 ≠ 7 → GM (wI s2 144 (nT F) (Int32.ofNat U.1)) (setN (setN (setN r 32 (Int32.ofNat F.length)) 29 (Int32.ofNat (nT F))) 29 (Int32.ofNat (nT F + 1))) e F (U :: (f.2.2.1 ++ cur)) := by
    intro s2 U b1 b2 b3 b4 b5 b6
    refine GM.epi hG h100 b1 b2 b3 b4 b5 rfl rfl ?_ rfl
    have : nO (f :: F) = nO F := by
      show nO F + (if f.1 = 100 ∨ f.1 = 7 then 1 else 0) = nO F
      rw [if_neg (by rintro (q | q); exact h100 q; exact h7 q)]
      rfl
    rw [← this]
    exact a3.1
  rcases f6 with ⟨q, -⟩ | ⟨g1, -, -, g2, g3⟩ | ⟨g1, -, -, x, g2, g3⟩
  · exact absurd q h7
  · have nt : nT (f :: F) = nT F := by
      show nT F + (if b01 (isB f.1) = 0 then 0 else 1) = nT F
      rw [if_pos (b01_ne.mpr (by rw [g1]; unfold isB; decide))]
      rfl
    rw [if_pos g1, nt]
    obtain ⟨s1, d1, d2, d3, d4, d5, d6⟩ := d193 (roots := []) f2 hcl h40 (fun ks q z => by cases ks <;> cases z) hk1 (by simp) List.nodup_nil (by simp) c2
    have d6 : ch (attA f.2.1.1 []) s s1 := d6
    have hup : upN f = (f.2.1.1, setN f.2.1.2.1 1 (Int32.ofNat 1), f.2.1.2.2) := by unfold upN; rw [g3]; rfl
    have hH := (HF.att (C := []) (roots := []) f2 f3 (rfl : HF s e [] []) c1 (by rw [g2] at n2; exact n2) d6 d4 d2).1
    unfold dm190_58
    rw [d1]
    simp only [bu_some]
    rw [d194 (c := nT F) rfl (by omega)]
    simp only [bu_some]
    refine ⟨_, _, rfl, ?_, ?_, ((d6.mono fun a k z => by unfold attA at z; omega).wI (by omega))⟩
    · refine fin s1 (upN f) rfl ?_ (PZ.att d6 fun k hk => ⟨hnp k hk, by simp⟩) ?_ (fun a b1 b2 q => att_st d6 (by omega)) h7
      · rw [hup, g2]
        exact hH
      · exact (att_n d6 (by simp)).trans f5
    · intro k k1 k2
      unfold setN
      rw [if_neg k1, if_neg k1, if_neg k2]
  · have nt : nT (f :: F) = nT F + 1 := by
      show nT F + (if b01 (isB f.1) = 0 then 0 else 1) = nT F + 1
      rw [if_neg (fun q => b01_ne.mp q g1)]
    have n10 : ¬ f.1 = 10 := fun q => by rw [q] at g1; unfold isB at g1; exact absurd g1 (by decide)
    have tx : sI s 144 (nT F) = Int32.ofNat x := a5.1 g1 x g2
    have hxm : x ∈ idL f.2.2.1 := HF.sub _ _ f4 x (by rw [g2]; exact List.mem_cons_self)
    have hxl : x < 128 := by
      have : x ∈ idL (fl (f :: F) ++ cur) := by rw [fl_c h100, idL_ap, idL_ap]; exact List.mem_append_left _ (List.mem_append_right _ (List.mem_cons_of_mem _ hxm))
      have := a7.2 x this
      omega
    have n2c := List.nodup_append.mp n2b.2
    have hxc : x ≠ c := n2c.2.2 x hxm c hcm
    have hpx : f.2.1.1 ≠ x := fun q => n2b.1 (List.mem_append_left _ (q ▸ hxm))
    rw [if_neg n10, nt, d192 (c := nT F) rfl (by omega), tx, setN_2]
    simp only [bv_some]
    obtain ⟨s1, d1, d2, d3, d4, d5, d6⟩ := d193 (roots := []) f2 hxl h40 (fun ks q z => by cases ks <;> cases z) hk1 (by simp) List.nodup_nil (by simp) g3
    have d6 : ch (attA f.2.1.1 []) s s1 := d6
    obtain ⟨s2, e1, e2, e3, e4, e5, e6⟩ := d193 (s := s1) (roots := [x]) f2 hcl d2 (fun ks q z => by
      cases ks with
      | nil => cases z; exact d3
      | cons a b => cases b <;> cases z) d4 (by simp) (by simp) (by simp; exact fun q => hxc q.symm) ((att_n d6 (by simp)).trans c2)
    have e6 : ch (attA f.2.1.1 [x]) s1 s2 := e6
    have hf4 : HF s1 e f.2.2.1 [x] := by
      rw [g2] at f4
      exact HF.of (fun q _ => att_l d6) (Nat.le_refl _) _ _ f4 n2c.1 (fun k hk => (att_k d6 (fun z => n2b.1 (List.mem_append_left _ (z ▸ hk)))).1) (fun k _ _ => att_n d6 (by simp))
    have hc1 : HF s1 e cur [c] := HF.of (fun q _ => att_l d6) (Nat.le_refl _) _ _ c1 n2c.2.1 (fun k hk => (att_k d6 (fun z => n2b.1 (List.mem_append_right _ (z ▸ hk)))).1) (fun k _ _ => att_n d6 (by simp))
    have hH := (HF.att (l := f.2.1.2.2) f2 (f3.att d6 d4) hf4 hc1 n2 e6 e4 e2).1
    rw [setN_2] at hH
    have hup : upN f = (f.2.1.1, setN f.2.1.2.1 1 (Int32.ofNat ([x].length + 1)), f.2.1.2.2) := by unfold upN; rw [g2]
    rw [d1]
    unfold dm190_58
    simp only [bu_some]
    rw [e1]
    simp only [bu_some]
    rw [d194 (c := nT F) rfl (by omega)]
    simp only [bu_some]
    refine ⟨_, _, rfl, ?_, ?_, (((d6.mono fun a k z => by unfold attA at z; omega).trans (e6.mono fun a k z => by unfold attA at z; omega)).wI (by omega))⟩
    · refine fin s2 (upN f) rfl ?_ ((PZ.att d6 fun k hk => ⟨hnp k hk, by simp⟩).trans (PZ.att e6 fun k hk => ⟨hnp k hk, by rw [← g2]; exact hnC k hk⟩)) ?_ (fun a b1 b2 q => (att_st e6 (by omega)).trans (att_st d6 (by omega))) h7
      · rw [hup]
        exact hH
      · show sI s2 142 f.2.1.1 = -1
        exact (att_n e6 (by simp; exact hpx)).trans ((att_n d6 (by simp)).trans f5)
    · intro k k1 k2
      unfold setN
      rw [if_neg k1, if_neg k1, if_neg k2]
def rdF (x : Int32) : List Fw → List NN → List Fw × List NN
  | [], cur => ([], cur)
  | f :: F, cur => if f.1 = 100 ∨ f.1 = 7 ∨ rkM f.1 < x then (f :: F, cur) else rdF x F (upN f :: (f.2.2.1 ++ cur))
set_option maxRecDepth 100000 in
theorem d190l {i e : Nat} {x1 : Int32} : ∀ (F : List Fw) (n : Nat) (s : aS) (r : Nat → Int32) (cur : List NN), GM s r e F cur → cur ≠ [] → F.length < n → ∃ s' r', dm190_0 n x1 (wP s r i) = some (wP s' r' i) ∧ GM s' r' e (rdF x1 F cur).1 (rdF x1 F cur).2 ∧ (rdF x1 F cur).2 ≠ [] ∧ (∀ k, k ≠ 29 → k ≠ 32 → r' k = r k) ∧ ch (fun a k => (a = 129 ∧ 1024 ≤ k) ∨ (140 ≤ a ∧ a ≤ 147)) s s' := by
  intro F
  induction F with
  | nil =>
    intro n s r cur h hc hn
    obtain ⟨n, rfl⟩ : ∃ q, n = q + 1 := ⟨n - 1, by simp only [List.length_nil] at hn; omega⟩
    refine ⟨s, r, ?_, h, hc, fun _ _ _ => rfl, ch.refl _ s⟩
    have a2 : r 32 = 0 := h.2.1
    rw [dm190_0, wP_f (by decide), a2, if_pos (by decide)]
  | cons f F ih =>
    intro n s r cur h hc hn
    obtain ⟨n, rfl⟩ : ∃ q, n = q + 1 := ⟨n - 1, by simp only [List.length_cons] at hn; omega⟩
    simp only [List.length_cons] at hn
    have a1 := h.1
    have a2 : r 32 = Int32.ofNat (F.length + 1) := h.2.1
    have hfb := fl_b (f :: F)
    have hlc : (fl (f :: F) ++ cur).length = (fl (f :: F)).length + cur.length := List.length_append
    have hO := h.2.2.1.2
    have hF : (f :: F).length = F.length + 1 := rfl
    have bF : aB (Int32.ofNat F.length) 300 := aB_of (by omega) (by omega)
    have jF : jN (Int32.ofNat F.length) = F.length := jN_of (by omega)
    have es : Int32.ofNat (F.length + 1) - 1 = Int32.ofNat F.length := ofNat_sub1 (n := F.length + 1) (by omega) (by omega)
    have p0 : ¬ Int32.ofNat (F.length + 1) ≤ 0 := fun q => by
      have := (nle_iff (b := 0) (by omega) (by omega)).mp q
      omega
    have w1 : sI s 145 F.length = f.1 := h.2.2.2.1.1
    by_cases g : f.1 = 100 ∨ f.1 = 7 ∨ rkM f.1 < x1
    · have e1 : rdF x1 (f :: F) cur = (f :: F, cur) := if_pos g
      rw [e1]
      refine ⟨s, r, ?_, h, hc, fun _ _ _ => rfl, ch.refl _ s⟩
      rw [dm190_0]
      simp only [wP_f (show (32 : Nat) ≠ 26 by decide), a2, es, if_neg p0, if_pos bF, jF, wP_n (show (145 : Nat) ≠ 121 by decide), w1, d191, bu_some]
      by_cases g1 : f.1 = 100
      · rw [if_pos g1]
      · rw [if_neg g1]
        by_cases g2 : f.1 = 7
        · rw [if_pos g2]
        · rw [if_neg g2]
          have g3 : rkM f.1 < x1 := by
            rcases g with q | q | q
            · exact absurd q g1
            · exact absurd q g2
            · exact q
          rw [if_pos g3]
    · have e1 : rdF x1 (f :: F) cur = rdF x1 F (upN f :: (f.2.2.1 ++ cur)) := if_neg g
      rw [e1]
      obtain ⟨s1, r1, b1, b2, b3, b4⟩ := d190s (i := i) (n := n) h hc (fun q => g (Or.inl q)) (fun q => g (Or.inr (Or.inl q))) (fun q => g (Or.inr (Or.inr q)))
      obtain ⟨s2, r2, c1, c2, c3, c4, c5⟩ := ih n s1 r1 _ b2 (by simp) (by omega)
      exact ⟨s2, r2, b1.trans c1, c2, c3, fun k k1 k2 => (c4 k k1 k2).trans (b3 k k1 k2), b4.trans c5⟩
set_option maxRecDepth 100000 in
theorem d190 {s : aS} {r : Nat → Int32} {i e : Nat} {x1 : Int32} {F : List Fw} {cur : List NN} (h : GM s r e F cur) (hc : cur ≠ []) : ∃ s' r', dm190 x1 (wP s r i) = some (wP s' r' i) ∧ GM s' r' e (rdF x1 F cur).1 (rdF x1 F cur).2 ∧ (rdF x1 F cur).2 ≠ [] ∧ (∀ k, k ≠ 29 → k ≠ 32 → r' k = r k) ∧ ch (fun a k => (a = 129 ∧ 1024 ≤ k) ∨ (140 ≤ a ∧ a ≤ 147)) s s' := by
  have hfb := fl_b F
  have a1 := h.1.2
  have hlc : (fl F ++ cur).length = (fl F).length + cur.length := List.length_append
  have hO := h.2.2.1.2
  exact d190l F 5000 s r cur h hc (by omega)
