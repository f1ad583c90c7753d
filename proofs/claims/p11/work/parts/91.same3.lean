/-! same as a whole in the reference; nodes compared in FormulaTrees -/
def ltOk (fs : Nat → Option Fm) (lt : Nat → Nat → List Int32) : Prop := ∀ f, f < 8 → ∀ h L, fs f = some (h, L) → ∀ i, i < L.length → (lt f i).length ≤ 256 ∧ ∀ x ∈ lt f i, 0 ≤ x.toInt
def samF (L M : List Nd) (la lb : Nat → List Int32) : Prop := L.length = M.length ∧ ∀ i, i < L.length → smP (L.getD i (fun _ => 0)) (M.getD i (fun _ => 0)) (la i) (lb i)
set_option maxRecDepth 100000 in
theorem getD_nd {L : List Nd} {i : Nat} (h : i < L.length) : L.getD i (fun _ => 0) = L[i] := by
  rw [List.getD, List.getElem?_eq_getElem h]
  rfl
set_option maxRecDepth 100000 in
theorem d248 {s : aS} {fs : Nat → Option Fm} {lt : Nat → Nat → List Int32} (h : MM s fs) (hc : MLt s fs lt) (ho : ltOk fs lt) (x y : Int32) :
    ((fAt fs x = none ∨ fAt fs y = none) ∧ dm248 x y s = some (0, wI s 121 0 1)) ∨
    ∃ h1 L h2 M, fAt fs x = some (h1, L) ∧ fAt fs y = some (h2, M) ∧ dm248 x y s = some (b01 (samF L M (lt x.toInt.toNat) (lt y.toInt.toNat)), wI s 121 0 0) := by
  have z1 : dm248_9 x y s = some (0, wI s 121 0 1) := by
    unfold dm248_9 dm248_12
    rw [nx_eq]
    exact if_pos (show (0 : Int32) < 1 by decide)
  unfold dm248
  rcases d225 h x with ⟨e1, e2⟩ | ⟨h1, L, e1, hx, e2, e3, -⟩
  · left
    rw [e2]
    simp only [bu_some]
    rw [if_neg (by decide), z1]
    exact ⟨Or.inl e1, rfl⟩
  · rw [e2]
    simp only [bu_some]
    rw [if_pos trivial]
    rcases d225 h y with ⟨f1, f2⟩ | ⟨h2, M, f1, hy, f2, f3, -⟩
    · left
      rw [f2]
      simp only [bu_some]
      rw [if_neg (by decide), z1]
      exact ⟨Or.inr f1, rfl⟩
    · right
      refine ⟨h1, L, h2, M, e1, f1, ?_⟩
      rw [f2]
      simp only [bu_some]
      rw [if_pos trivial]
      have l8 := e3.2.1
      have m8 := f3.2.1
      have c0 := ch0 s 0
      have t1 := e3.of c0 (by omega)
      have t2 := f3.of c0 (by omega)
      have q1 : sI (wI s 121 0 0) 127 (jN x) = Int32.ofNat L.length := t1.1
      have q2 : sI (wI s 121 0 0) 127 (jN y) = Int32.ofNat M.length := t2.1
      unfold dm248_12
      rw [nx_eq, if_neg (show ¬ 0 < sI (wI s 121 0 0) 121 0 from (by decide : ¬ (0 : Int32) < 0)), if_pos (by rw [aB_iff]; omega), if_pos (by rw [aB_iff]; omega), q1, q2]
      by_cases hlen : L.length = M.length
      · rw [if_pos (by rw [hlen])]
        have hRL : ∀ f p w, RL s f p w → RL (wI s 121 0 0) f p w := fun f p w ⟨st, a1, a2, a3, a4⟩ => ⟨st, (c0.i (by omega)).trans a1, (c0.i (by omega)).trans a2, a3, fun j hj => (c0.i (by omega)).trans (a4 j hj)⟩
        have hNM : ∀ f p kd w, NM s f p kd w → NM (wI s 121 0 0) f p kd w := fun f p kd w hh => ⟨fun z => hRL _ _ _ (hh.1 z), fun z => hRL _ _ _ (hh.2.1 z), hh.2.2⟩
        have k := d248l (s := wI s 121 0 0) (f := x.toInt.toNat) (g := y.toInt.toNat) (N := L.length) (F := fun i => L.getD i (fun _ => 0)) (G := fun i => M.getD i (fun _ => 0)) (la := lt x.toInt.toNat) (lb := lt y.toInt.toNat) (by omega) (by omega) l8 t1.1 (fun i hi w hw => by
            show _ = L.getD i (fun _ => 0) w
            rw [getD_nd hi]
            exact t1.2.2 i hi w hw) (fun i hi w hw => by
            show _ = M.getD i (fun _ => 0) w
            rw [getD_nd (by omega)]
            exact t2.2.2 i (by omega) w hw) (fun i hi => by
            show NM _ _ _ (L.getD i (fun _ => 0) 0) _
            rw [getD_nd hi]
            exact hNM _ _ _ _ (hc _ (by omega) h1 L (fAt_s e1).2 i hi)) (fun i hi => by
            show NM _ _ _ (M.getD i (fun _ => 0) 0) _
            rw [getD_nd (by omega)]
            exact hNM _ _ _ _ (hc _ (by omega) h2 M (fAt_s f1).2 i (by omega))) (fun i hi => ho _ (by omega) h1 L (fAt_s e1).2 i hi) (fun i hi => ho _ (by omega) h2 M (fAt_s f1).2 i (by omega)) L.length 0 5000 True (by omega) (by omega)
        rw [b01_t trivial, ← ofNat_of (x := x) (by omega), ← ofNat_of (x := y) (by omega)] at k
        have k : dm248_31 5000 x y 1 0 (wI s 121 0 0) = _ := k
        rw [k]
        congr 2
        exact b01_c ⟨fun z => ⟨hlen, fun i hi => z.2 i (Nat.zero_le _) hi⟩, fun z => ⟨trivial, fun i _ hi => z.2 i hi⟩⟩
      · rw [if_neg (by rw [iEq, iOfNat (by omega), iOfNat (by omega)]; omega), b01_f (fun z => hlen z.1)]
