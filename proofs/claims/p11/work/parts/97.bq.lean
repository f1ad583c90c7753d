/-! commas and closed brackets, in the reference -/
def scr (a k : Nat) : Prop := ((128 ≤ a ∧ a ≤ 138) ∧ 1024 ≤ k) ∨ (a = 139 ∧ 2048 ≤ k) ∨ (140 ≤ a ∧ a ≤ 147)
def hdI : List NN → Nat
  | [] => 0
  | n :: _ => n.1
set_option maxRecDepth 100000 in
theorem hf_hd {s : aS} {e c : Nat} : ∀ (L : List NN), HF s e L [c] → hdI L = c
  | [], h => by
    have h : ([c] : List Nat) = [] := h
    cases h
  | n :: L, h => by
    obtain ⟨r, ks, e1, -⟩ := h
    cases e1
    rfl
def cmF (f : Fw) (cur : List NN) : Fw := (f.1, upN f, f.2.2.1 ++ cur, f.2.2.2 ++ [hdI cur])
set_option maxRecDepth 100000 in
/-- a further argument of a call -/
theorem d221c {s : aS} {r : Nat → Int32} {e i : Nat} {F : List Fw} {f : Fw} {cur : List NN} (h : GM s r e (f :: F) cur) (hc : cur ≠ []) (h7 : f.1 = 7) : ∃ c s', r 29 = Int32.ofNat (nT F + 1) ∧ sI s 144 (nT F) = Int32.ofNat c ∧ sI s 146 F.length = Int32.ofNat f.2.1.1 ∧ f.2.1.1 < 128 ∧ sI s 129 (1024 + f.2.1.1) = Int32.ofNat f.2.2.2.length ∧ f.2.2.2.length ≤ 128 ∧ (∀ r2, dm193 (Int32.ofNat f.2.1.1) (Int32.ofNat c) (wP s r2 i) = some (wP s' r2 i)) ∧ HF s' e (upN f :: (f.2.2.1 ++ cur)) [f.2.1.1] ∧ PZ s s' e (idL (fl F)) ∧ sI s' 142 f.2.1.1 = -1 ∧ (∀ a, 143 ≤ a → ∀ q, sI s' a q = sI s a q) ∧ ch scr s s' ∧ (∀ r', r' 21 = r 21 → r' 29 = Int32.ofNat (nT F) → r' 32 = Int32.ofNat (F.length + 1) → r' 33 = r 33 → GM s' r' e (cmF f cur :: F) []) := by
  have h100 : f.1 ≠ 100 := by rw [h7]; decide
  obtain ⟨n1, n2, n3⟩ := h.ids h100
  have hG := h
  obtain ⟨a1, a2, a3, a4, a5, a6, a7, a8⟩ := h
  obtain ⟨-, f1, f2, f3, f4, f5, f6⟩ : f.1 ≠ 100 ∧ f.2.1.2.1 0 = f.1 ∧ f.2.1.1 < 128 ∧ NR s e f.2.1 ∧ HF s e f.2.2.1 f.2.2.2 ∧ sI s 142 f.2.1.1 = -1 ∧ _ := (a6 f List.mem_cons_self).resolve_left (fun q => h100 q.1)
  obtain ⟨c, c1, c2, c3, c4⟩ : ∃ c, HF s e cur [c] ∧ sI s 142 c = -1 ∧ sI s 144 (nT (f :: F)) = Int32.ofNat c ∧ r 29 = Int32.ofNat (nT (f :: F) + 1) := a8.resolve_left (fun q => hc q.1)
  obtain ⟨-, g2, g3, g4⟩ : f.1 = 7 ∧ f.2.1.2.1 1 = Int32.ofNat f.2.2.2.length ∧ nch s (sI s 140 f.2.1.1) f.2.2.2 ∧ ∀ ks q, f.2.2.2 = ks ++ [q] → sI s 141 f.2.1.1 = Int32.ofNat q := by
    rcases f6 with q | ⟨q, -⟩ | ⟨q, -⟩
    · exact q
    · rw [h7] at q; exact absurd q (by decide)
    · rw [h7] at q; unfold isB at q; exact absurd q (by decide)
  have nB : ¬ isB f.1 := by rw [h7]; unfold isB; decide
  have nt : nT (f :: F) = nT F := by
    show nT F + (if b01 (isB f.1) = 0 then 0 else 1) = nT F
    rw [if_pos (b01_ne.mpr nB)]
    rfl
  rw [nt] at c3 c4
  have n2b := n2
  rw [List.nodup_cons] at n2b
  have n2c := List.nodup_append.mp n2b.2
  have hcm : c ∈ idL cur := HF.sub _ _ c1 c List.mem_cons_self
  have hcl : c < 128 := by
    have : c ∈ idL (fl (f :: F) ++ cur) := by rw [idL_ap]; exact List.mem_append_right _ hcm
    have := a7.2 c this
    omega
  have hnr : f.2.2.2.Nodup := HF.nd _ _ f4 n2c.1
  have hcr : c ∉ f.2.2.2 := fun q => n2c.2.2 c (HF.sub _ _ f4 c q) c hcm rfl
  have hlen : f.2.2.2.length ≤ 128 := by
    have hsub : f.2.2.2.length ≤ (idL f.2.2.1).length := by
      have key : ∀ (L : List NN) (ids : List Nat), HF s e L ids → ids.length ≤ L.length := by
        intro L
        induction L with
        | nil =>
          intro ids q
          have q : ids = [] := q
          rw [q]
          exact Nat.le_refl _
        | cons n L ih =>
          intro ids q
          obtain ⟨r, ks, e1, e2, e3, e4, e5, e6⟩ := q
          have := ih _ e6
          rw [e1]
          simp only [List.length_append, List.length_cons] at this ⊢
          omega
      unfold idL
      rw [List.length_map]
      exact key _ _ f4
    have e1 : (fl (f :: F) ++ cur).length = (fl F).length + (f.2.2.1.length + 1) + cur.length := by
      rw [fl_c h100]
      simp only [List.length_append, List.length_cons]
    have e2 : (idL f.2.2.1).length = f.2.2.1.length := List.length_map ..
    omega
  have hkd : sI s 129 (1024 + f.2.1.1) = Int32.ofNat f.2.2.2.length := (f3.1 1 (by decide)).trans g2
  have hpr : f.2.1.1 ∉ f.2.2.2 := fun q => n2b.1 (List.mem_append_left _ (HF.sub _ _ f4 _ q))
  obtain ⟨s', d1, d2, d3, d4, d5, d6⟩ := d193 f2 hcl g3 g4 hkd (by omega) hnr hcr c2
  have d6 : ch (attA f.2.1.1 f.2.2.2) s s' := d6
  have hH := HF.att (l := f.2.1.2.2) f2 f3 f4 c1 n2 d6 d4 d2
  have hnp : ∀ k ∈ idL (fl F), k ≠ f.2.1.1 := fun k hk q => n3 k hk (q ▸ List.mem_cons_self)
  have hnC : ∀ k ∈ idL (fl F), k ∉ f.2.2.2 := fun k hk q => n3 k hk (List.mem_cons_of_mem _ (List.mem_append_left _ (HF.sub _ _ f4 k q)))
  have pz : PZ s s' e (idL (fl F)) := PZ.att d6 fun k hk => ⟨hnp k hk, hnC k hk⟩
  have h142 : sI s' 142 f.2.1.1 = -1 := (att_n d6 hpr).trans f5
  refine ⟨c, s', c4, c3, a4.2.1 h100, f2, hkd, hlen, fun r2 => d1 r2 i, hH.1, pz, h142, fun a b1 q => att_st d6 b1, d6.mono fun a k z => by unfold attA at z; unfold scr; omega, fun r' r21 r29 r32 r33 => ?_⟩
  have ehd : hdI cur = c := hf_hd cur c1
  have ecm : cmF f cur = (f.1, upN f, f.2.2.1 ++ cur, f.2.2.2 ++ [c]) := by unfold cmF; rw [ehd]
  rw [ecm]
  have efl : fl ((f.1, upN f, f.2.2.1 ++ cur, f.2.2.2 ++ [c]) :: F) = fl F ++ (upN f :: (f.2.2.1 ++ cur)) := fl_c (f := (f.1, upN f, f.2.2.1 ++ cur, f.2.2.2 ++ [c])) h100
  have el : (fl ((f.1, upN f, f.2.2.1 ++ cur, f.2.2.2 ++ [c]) :: F) ++ []).length = (fl (f :: F) ++ cur).length := by
    rw [efl, fl_c h100]
    simp only [List.length_append, List.length_cons, List.length_nil]
    omega
  have ei : idL (fl ((f.1, upN f, f.2.2.1 ++ cur, f.2.2.2 ++ [c]) :: F) ++ []) = idL (fl (f :: F) ++ cur) := by
    rw [efl, fl_c h100, List.append_nil, List.append_assoc, idL_ap, idL_ap]
    rfl
  refine ⟨⟨by rw [el]; exact r21.trans a1.1, by rw [el]; exact a1.2⟩, r32, ⟨r33.trans a3.1, a3.2⟩, ⟨(att_st d6 (by decide)).trans a4.1, fun z => (att_st d6 (by decide)).trans (a4.2.1 z), WS.of F a4.2.2 (fun q _ => ⟨att_st d6 (by decide), att_st d6 (by decide)⟩)⟩, ⟨fun z => absurd z nB, TS.of F a5.2 (fun q _ => att_st d6 (by decide))⟩, ?_, ⟨by rw [ei]; exact a7.1, by rw [ei, el]; exact a7.2⟩, Or.inl ⟨rfl, ?_⟩⟩
  · intro g hg
    rcases List.mem_cons.mp hg with q | q
    · subst q
      refine Or.inr ⟨h100, f1, f2, f3.att d6 d4, hH.2, h142, Or.inl ⟨h7, ?_, d2, fun ks q z => ?_⟩⟩
      · show setN f.2.1.2.1 1 (Int32.ofNat (f.2.2.2.length + 1)) 1 = Int32.ofNat (f.2.2.2 ++ [c]).length
        rw [List.length_append]
        exact if_pos rfl
      · have z : f.2.2.2 ++ [c] = ks ++ [q] := z
        have := (List.append_inj' z rfl).2
        cases this
        exact d3
    · exact FrAll.of (fun g hg => a6 g (List.mem_cons_of_mem _ hg)) n1 pz (Nat.le_refl _) g q
  · show r' 29 = Int32.ofNat (nT F + (if b01 (isB f.1) = 0 then 0 else 1))
    rw [if_pos (b01_ne.mpr nB)]
    exact r29
