/-! same as a whole in FormulaTrees -/
set_option maxRecDepth 100000 in
theorem d164l {s : aS} {b0 b1 N : Nat} {P : Nat → Prop} (hN : sI s b0 2 = Int32.ofNat N) (h8 : N ≤ 128) (h : ∀ i, i < N → dm165 b0 b1 (Int32.ofNat i) s = some (b01 (P i))) : ∀ (m j n : Nat) (p : Prop), j + m = N → m < n → dm164_11 n b0 b1 (b01 p) (Int32.ofNat j) s = some (b01 (p ∧ ∀ i, j ≤ i → i < N → P i)) := by
  intro m
  induction m with
  | zero =>
    intro j n p hj hn
    obtain ⟨n, rfl⟩ : ∃ q, n = q + 1 := ⟨n - 1, by omega⟩
    rw [dm164_11, hN, if_pos (by rw [iLe, iOfNat (by omega), iOfNat (by omega)]; omega), if_pos (b01_01 p), b01_c (show p ↔ (p ∧ ∀ i, j ≤ i → i < N → P i) from ⟨fun q => ⟨q, fun v h1 h2 => by omega⟩, fun q => q.1⟩)]
  | succ m ih =>
    intro j n p hj hn
    obtain ⟨n, rfl⟩ : ∃ q, n = q + 1 := ⟨n - 1, by omega⟩
    rw [dm164_11, hN, if_neg (by rw [iLe, iOfNat (by omega), iOfNat (by omega)]; omega), h j (by omega)]
    simp only [bu_some]
    rw [ofNat_succ (by omega), ih (j + 1) n (P j) (by omega) (by omega)]
    by_cases hp : p
    · rw [b01_t hp, if_neg (by decide)]
      congr 1
      exact b01_c ⟨fun z => ⟨hp, fun i h1 h2 => by
        by_cases hi : i = j
        · rw [hi]; exact z.1
        · exact z.2 i (by omega) h2⟩, fun z => ⟨z.2 j (Nat.le_refl _) (by omega), fun i h1 h2 => z.2 i (by omega) h2⟩⟩
    · rw [b01_f hp, if_pos rfl, if_pos (Or.inl rfl), b01_f (p := p ∧ ∀ i, j ≤ i → i < N → P i) (fun z => hp z.1)]
set_option maxRecDepth 100000 in
theorem d163 {tt : Nat} {cc : Nat → Nat → Int32} {s : aS} {fs : Nat → Option Fm} {lt : Nat → Nat → List Int32} (hl : Ly tt cc s) (h : CF s fs) (hc : CLt s fs lt) (ho : ltOk fs lt) (x y : Int32) :
    ((fAt fs x = none ∨ fAt fs y = none) ∧ dm163 x y s = some (.inr 2, nw s 82 0)) ∨
    ∃ h1 L h2 M, fAt fs x = some (h1, L) ∧ fAt fs y = some (h2, M) ∧ dm163 x y s = some (.inl (some (.int (b01 (samF L M (lt x.toInt.toNat) (lt y.toInt.toNat))))), s) := by
  unfold dm163 dm163_12
  rcases d54 h x with ⟨e1, e2⟩ | ⟨h1, L, b, e1, hx, e2, e3, e4, e5, -⟩
  · left
    refine ⟨Or.inl e1, ?_⟩
    rw [e2]
    simp only [bu_some, vN_null]
    rcases d54 h y with ⟨f1, f2⟩ | ⟨h2, M, c, f1, hy, f2, f3, -⟩
    · rw [f2]
      rfl
    · rw [f2]
      simp only [bu_some, vN_ref]
      rw [if_pos f3]
  · rw [e2]
    simp only [bu_some, vN_ref]
    rw [if_pos e3]
    rcases d54 h y with ⟨f1, f2⟩ | ⟨h2, M, c, f1, hy, f2, f3, f4, f5, -⟩
    · left
      rw [f2]
      exact ⟨Or.inr f1, rfl⟩
    · right
      refine ⟨h1, L, h2, M, e1, f1, ?_⟩
      rw [f2]
      simp only [bu_some, vN_ref]
      rw [if_pos f3]
      have l8 := e4.2.1
      have m8 := f4.2.1
      obtain ⟨u, u1, u2⟩ := hc _ (by omega) h1 L (fAt_s e1).2 b e5
      obtain ⟨v, v1, v2⟩ := hc _ (by omega) h2 M (fAt_s f1).2 c f5
      have key : dm164 b c s = some (b01 (samF L M (lt x.toInt.toNat) (lt y.toInt.toNat))) := by
        unfold dm164 dm164_8
        rw [e4.1, f4.1]
        by_cases hlen : L.length = M.length
        · rw [if_pos (by rw [hlen])]
          have k := d164l (s := s) (b0 := b) (b1 := c) (N := L.length) (P := fun i => smP (L.getD i (fun _ => 0)) (M.getD i (fun _ => 0)) (lt x.toInt.toNat i) (lt y.toInt.toNat i)) e4.1 l8 (fun i hi => by
            have r1 : CR s b i (L.getD i (fun _ => 0)) := by rw [getD_nd hi]; exact fun w hw => e4.2.2 i hi w hw
            have r2 : CR s c i (M.getD i (fun _ => 0)) := by rw [getD_nd (by omega)]; exact fun w hw => f4.2.2 i (by omega) w hw
            obtain ⟨st1, -, a2, -⟩ := u2 i hi
            obtain ⟨st2, -, b2, -⟩ := v2 i (by omega)
            exact d165 (fun w hw => CR.f e4.1 l8 hi r1 hw) (fun w hw => CR.f f4.1 m8 (by omega) r2 hw) ((d57 (w := 10) e4.1 l8 hi (by omega)).trans (by rw [a2])) ((d57 (w := 10) f4.1 m8 (by omega) (by omega)).trans (by rw [b2])) (fun k hk => by rw [d144 e4.1 l8 hi u1 (by rw [(hl.tr e3).2.2.2.2.2.2.1]) (u2 i hi) k, if_neg (by omega)]) (fun k hk => by rw [d144 f4.1 m8 (by omega) v1 (by rw [(hl.tr f3).2.2.2.2.2.2.1]) (v2 i (by omega)) k, if_neg (by omega)]) (ho _ (by omega) h1 L (fAt_s e1).2 i hi).1 (ho _ (by omega) h2 M (fAt_s f1).2 i (by omega)).1) L.length 0 5000 True (by omega) (by omega)
          rw [b01_t trivial] at k
          have k : dm164_11 5000 b c 1 0 s = _ := k
          rw [k]
          congr 1
          exact b01_c ⟨fun z => ⟨hlen, fun i hi => z.2 i (Nat.zero_le _) hi⟩, fun z => ⟨trivial, fun i _ hi => z.2 i hi⟩⟩
        · rw [if_neg (by rw [iEq, iOfNat (by omega), iOfNat (by omega)]; omega), dm164_11, b01_f (fun z => hlen z.1)]
          split
          · rw [if_pos (Or.inl rfl)]
          · rw [if_pos rfl, if_pos (Or.inl rfl)]
      rw [key]
      simp only [bu_some]
      rw [if_pos (b01_01 _)]
