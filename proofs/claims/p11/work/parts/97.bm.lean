/-! a child put to a node, in the reference -/
set_option maxRecDepth 100000 in
theorem d193 {s : aS} {p c : Nat} {roots : List Nat} (hp : p < 128) (hc : c < 128) (hch : nch s (sI s 140 p) roots) (hla : ∀ ks q, roots = ks ++ [q] → sI s 141 p = Int32.ofNat q) (hkd : sI s 129 (1024 + p) = Int32.ofNat roots.length) (hlen : roots.length ≤ 200) (hnd : roots.Nodup) (hcr : c ∉ roots) (hc2 : sI s 142 c = -1) : ∃ s', (∀ r i, dm193 (Int32.ofNat p) (Int32.ofNat c) (wP s r i) = some (wP s' r i)) ∧ nch s' (sI s' 140 p) (roots ++ [c]) ∧ sI s' 141 p = Int32.ofNat c ∧ sI s' 129 (1024 + p) = Int32.ofNat (roots.length + 1) ∧ sI s' 142 c = -1 ∧ ch (fun a k => (a = 140 ∧ k = p) ∨ (a = 141 ∧ k = p) ∨ (a = 129 ∧ k = 1024 + p) ∨ (a = 142 ∧ k ∈ roots)) s s' := by
  rcases List.eq_nil_or_concat roots with e | ⟨ks, q, e⟩
  · subst e
    have h0 : sI s 140 p = -1 := hch
    refine ⟨_, fun r i => d193a hp h0 hkd, ?_, ?_, ?_, ?_, (((ch.refl _ s).wI (Or.inl ⟨rfl, rfl⟩)).wI (Or.inr (Or.inl ⟨rfl, rfl⟩))).wI (Or.inr (Or.inr (Or.inl ⟨rfl, rfl⟩)))⟩
    · refine ⟨?_, hc, ?_⟩
      · rw [sI_wI, if_neg (by omega), sI_wI, if_neg (by omega), sI_wI, if_pos ⟨rfl, rfl⟩]
      · rw [sI_wI, if_neg (by omega), sI_wI, if_neg (by omega), sI_wI, if_neg (by omega)]
        exact hc2
    · rw [sI_wI, if_neg (by omega), sI_wI, if_pos ⟨rfl, rfl⟩]
    · rw [sI_wI, if_pos ⟨rfl, rfl⟩]
      exact ofNat_succ (n := 0) (by omega)
    · rw [sI_wI, if_neg (by omega), sI_wI, if_neg (by omega), sI_wI, if_neg (by omega)]
      exact hc2
  · rw [List.concat_eq_append] at e
    have hq : q ∈ roots := by rw [e]; exact List.mem_append_right _ List.mem_cons_self
    have hqb := nch.lt roots _ hch q hq
    have hqc : q ≠ c := fun z => hcr (z ▸ hq)
    obtain ⟨z, hz1, hz2⟩ : ∃ z, sI s 140 p = Int32.ofNat z ∧ z < 128 := by
      cases roots with
      | nil => cases hq
      | cons a b => exact ⟨a, hch.1, hch.2.1⟩
    have e142 : ∀ k, k ≠ q → sI (wI (wI (wI s 142 q (Int32.ofNat c)) 141 p (Int32.ofNat c)) 129 (1024 + p) (Int32.ofNat roots.length + 1)) 142 k = sI s 142 k := fun k hk => by
      rw [sI_wI, if_neg (by omega), sI_wI, if_neg (by omega), sI_wI, if_neg (fun z => hk z.2)]
    have hsub : ∀ k ∈ ks, k ≠ q := by
      intro k hk w
      rw [e, List.nodup_append] at hnd
      exact hnd.2.2 k hk q List.mem_cons_self w
    refine ⟨_, fun r i => d193b hp hz1 hz2 (hla ks q e) hqb hkd, ?_, ?_, ?_, ?_, (((ch.refl _ s).wI (Or.inr (Or.inr (Or.inr ⟨rfl, hq⟩)))).wI (Or.inr (Or.inl ⟨rfl, rfl⟩))).wI (Or.inr (Or.inr (Or.inl ⟨rfl, rfl⟩)))⟩
    · have e140 : sI (wI (wI (wI s 142 q (Int32.ofNat c)) 141 p (Int32.ofNat c)) 129 (1024 + p) (Int32.ofNat roots.length + 1)) 140 p = sI s 140 p := by
        rw [sI_wI, if_neg (by omega), sI_wI, if_neg (by omega), sI_wI, if_neg (by omega)]
      rw [e140]
      have hch2 := hch
      rw [e] at hch2 hnd
      rw [show roots ++ [c] = ks ++ [q] ++ [c] by rw [e]]
      refine nch.add hc ((e142 c (Ne.symm hqc)).trans hc2) ks q _ hch2 hnd (fun k hk => e142 k (hsub k hk)) ?_
      rw [sI_wI, if_neg (by omega), sI_wI, if_neg (by omega), sI_wI, if_pos ⟨rfl, rfl⟩]
    · rw [sI_wI, if_neg (by omega), sI_wI, if_pos ⟨rfl, rfl⟩]
    · rw [sI_wI, if_pos ⟨rfl, rfl⟩, ofNat_succ (by omega)]
    · exact (e142 c (Ne.symm hqc)).trans hc2
def attA (p : Nat) (roots : List Nat) (a k : Nat) : Prop := (a = 140 ∧ k = p) ∨ (a = 141 ∧ k = p) ∨ (a = 129 ∧ k = 1024 + p) ∨ (a = 142 ∧ k ∈ roots)
set_option maxRecDepth 100000 in
theorem att_k {s s' : aS} {p e k : Nat} {roots : List Nat} (h : ch (attA p roots) s s') (hk : k ≠ p) : kep s s' e k ∧ sI s' 141 k = sI s 141 k := by
  refine ⟨⟨fun w hw => h.i ?_, h.i ?_⟩, h.i ?_⟩
  all_goals
    unfold attA
    omega
set_option maxRecDepth 100000 in
theorem att_n {s s' : aS} {p k : Nat} {roots : List Nat} (h : ch (attA p roots) s s') (hk : k ∉ roots) : sI s' 142 k = sI s 142 k := by
  refine h.i ?_
  unfold attA
  rintro (q | q | q | q)
  · omega
  · omega
  · omega
  · exact hk q.2
set_option maxRecDepth 100000 in
theorem att_l {s s' : aS} {p q : Nat} {roots : List Nat} (h : ch (attA p roots) s s') : sI s' 139 (2048 + q) = sI s 139 (2048 + q) := by
  refine h.i ?_
  unfold attA
  omega
set_option maxRecDepth 100000 in
theorem NR.att {s s' : aS} {e p : Nat} {d : Nd} {l : List Int32} {roots : List Nat} {v : Int32} (h : NR s e (p, d, l)) (hc : ch (attA p roots) s s') (hv : sI s' 129 (1024 + p) = v) : NR s' e (p, setN d 1 v, l) := by
  have row : ∀ w, w ≠ 1 → sI s' (128 + w) (1024 + p) = sI s (128 + w) (1024 + p) ∨ 11 ≤ w := by
    intro w hw
    by_cases g : 11 ≤ w
    · exact Or.inr g
    · left
      refine hc.i ?_
      unfold attA
      omega
  refine ⟨fun w hw => ?_, ?_⟩
  · by_cases g : w = 1
    · subst g
      exact hv
    · show sI s' (128 + w) (1024 + p) = setN d 1 v w
      rw [show setN d 1 v w = d w from if_neg g]
      rcases row w g with z | z
      · exact z.trans (h.1 w hw)
      · omega
  · have h2 : NMe s e (1024 + p) (d 0) l := h.2
    show NMe s' e (1024 + p) (d 0) l
    have rl : ∀ w, RLe s e (1024 + p) w → RLe s' e (1024 + p) w := by
      rintro w ⟨st, a1, a2, a3, a4⟩
      refine ⟨st, ?_, ?_, a3, fun j hj => ?_⟩
      · rcases row 9 (by decide) with z | z
        · exact z.trans a1
        · omega
      · rcases row 10 (by decide) with z | z
        · exact z.trans a2
        · omega
      · have := att_l (q := st + j) hc
        rw [show 2048 + st + j = 2048 + (st + j) by omega, this, show 2048 + (st + j) = 2048 + st + j by omega]
        exact a4 j hj
    exact ⟨fun q => rl _ (h2.1 q), fun q => rl _ (h2.2.1 q), h2.2.2⟩
set_option maxRecDepth 100000 in
/-- a node with its children so far, and one more: a tree -/
theorem HF.att {s s' : aS} {e p c : Nat} {d : Nd} {l : List Int32} {C cur : List NN} {roots : List Nat} (hp : p < 128) (h : NR s e (p, d, l)) (hC : HF s e C roots) (hcur : HF s e cur [c]) (hnd : (p :: (idL C ++ idL cur)).Nodup) (hc : ch (attA p roots) s s') (hv : sI s' 129 (1024 + p) = Int32.ofNat (roots.length + 1)) (hn : nch s' (sI s' 140 p) (roots ++ [c])) : HF s' e ((p, setN d 1 (Int32.ofNat (roots.length + 1)), l) :: (C ++ cur)) [p] ∧ HF s' e (C ++ cur) (roots ++ [c]) := by
  rw [List.nodup_cons] at hnd
  obtain ⟨n1, n2⟩ := hnd
  rw [List.nodup_append] at n2
  have k1 : ∀ k ∈ idL C, k ≠ p := fun k q z => n1 (List.mem_append_left _ (z ▸ q))
  have k2 : ∀ k ∈ idL cur, k ≠ p := fun k q z => n1 (List.mem_append_right _ (z ▸ q))
  have b1 : HF s' e C roots := HF.of (fun q _ => att_l hc) (Nat.le_refl _) C roots hC n2.1 (fun k q => (att_k hc (k1 k q)).1) (fun k _ z => att_n hc z)
  have b2 : HF s' e cur [c] := HF.of (fun q _ => att_l hc) (Nat.le_refl _) cur [c] hcur n2.2.1 (fun k q => (att_k hc (k2 k q)).1) (fun k q _ => att_n hc (fun z => n2.2.2 k (HF.sub C roots hC k z) k q rfl))
  have b3 := HF.ap C cur roots [c] b1 b2
  refine ⟨⟨[], roots ++ [c], rfl, hp, h.att hc hv, hn, ?_, ?_⟩, b3⟩
  · show setN d 1 (Int32.ofNat (roots.length + 1)) 1 = _
    rw [List.length_append]
    exact if_pos rfl
  · rw [List.append_nil]
    exact b3
