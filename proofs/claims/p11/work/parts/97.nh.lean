/-! the text of a formula: nodes in their order, each with its letters -/
def fz : List (Nd × List Int32) → Nat → Prop
  | [], k => k = 0
  | n :: L, k => 1 ≤ k ∧ fz L (k - 1 + arN n.1)
set_option maxRecDepth 100000 in
theorem fz_sp : ∀ (L : List (Nd × List Int32)) (n k : Nat), fz L (n + k) → ∃ T R, L = T ++ R ∧ fz T n ∧ fz R k
  | [], n, k, h => by
    have h : n + k = 0 := h
    exact ⟨[], [], rfl, show n = 0 by omega, show k = 0 by omega⟩
  | d :: L, n, k, h => by
    obtain ⟨h1, h2⟩ := h
    cases n with
    | zero => exact ⟨[], d :: L, rfl, rfl, h1 |> fun _ => by rw [Nat.zero_add] at h1 h2; exact ⟨h1, h2⟩⟩
    | succ n =>
      rw [show n + 1 + k - 1 + arN d.1 = (n + arN d.1) + k by omega] at h2
      obtain ⟨T, R, e, t1, t2⟩ := fz_sp L (n + arN d.1) k h2
      refine ⟨d :: T, R, by rw [e]; rfl, ⟨by omega, ?_⟩, t2⟩
      rw [show n + 1 - 1 + arN d.1 = n + arN d.1 by omega]
      exact t1
set_option maxRecDepth 100000 in
theorem fz_0 {L : List (Nd × List Int32)} (h : fz L 0) : L = [] := by
  cases L with
  | nil => rfl
  | cons d L => exact absurd h.1 (by decide)
def zipL (l : Nat → List Int32) : List Nd → Nat → List (Nd × List Int32)
  | [], _ => []
  | d :: M, i => (d, l i) :: zipL l M (i + 1)
set_option maxRecDepth 100000 in
theorem zip_len (l : Nat → List Int32) : ∀ (M : List Nd) (i : Nat), (zipL l M i).length = M.length
  | [], _ => rfl
  | d :: M, i => by
    show (zipL l M (i + 1)).length + 1 = M.length + 1
    rw [zip_len l M (i + 1)]
set_option maxRecDepth 100000 in
theorem zip_at (l : Nat → List Int32) : ∀ (M : List Nd) (i j : Nat) (n : Nd × List Int32), (zipL l M i)[j]? = some n → ∃ h : j < M.length, n = (M[j], l (i + j))
  | [], _, j, n, h => by
    cases h
  | d :: M, i, 0, n, h => ⟨Nat.succ_pos _, (Option.some.inj h).symm⟩
  | d :: M, i, j + 1, n, h => by
    obtain ⟨g, e⟩ := zip_at l M (i + 1) j n h
    refine ⟨Nat.succ_lt_succ g, ?_⟩
    rw [e, show i + 1 + j = i + (j + 1) by omega]
    rfl
set_option maxRecDepth 100000 in
theorem zip_ft (l : Nat → List Int32) : ∀ (M : List Nd) (i k : Nat), ft M k → fz (zipL l M i) k
  | [], _, _, h => h
  | d :: M, i, k, h => ⟨h.1, zip_ft l M (i + 1) _ h.2⟩
def hk : List (Nd × List Int32) → Int32
  | [] => 0
  | n :: _ => n.1 0
set_option maxRecDepth 100000 in
noncomputable def brT (p : Prop) (w : List Int32) : List Int32 := if b01 p = 0 then w else [40] ++ (w ++ [41])
set_option maxRecDepth 100000 in
noncomputable def tAr (f : List (Nd × List Int32) → List Int32 × List (Nd × List Int32)) : Nat → Nat → List (Nd × List Int32) → List Int32 × List (Nd × List Int32)
  | 0, _, R => ([], R)
  | k + 1, c, R => ((if c = 0 then [] else [44]) ++ ((f R).1 ++ (tAr f k (c + 1) (f R).2).1), (tAr f k (c + 1) (f R).2).2)
set_option maxRecDepth 100000 in
noncomputable def txF (ns : List (List Int32)) : Nat → List (Nd × List Int32) → List Int32 × List (Nd × List Int32)
  | 0, L => ([], L)
  | _ + 1, [] => ([], [])
  | m + 1, n :: R => if n.1 0 = 7 then (leT ns n.1 n.2 ++ ((tAr (txF ns m) (arN n.1) 0 R).1 ++ [41]), (tAr (txF ns m) (arN n.1) 0 R).2) else if n.1 0 = 9 then (brT (rkM (hk R) < 7) (txF ns m R).1 ++ [37], (txF ns m R).2) else if n.1 0 = 10 then ([45] ++ brT (rkM (hk R) < 6) (txF ns m R).1, (txF ns m R).2) else if n.1 0 < 11 then (leT ns n.1 n.2, R) else (brT (rkM (hk R) < rkM (n.1 0)) (txF ns m R).1 ++ (opT (n.1 0).toInt.toNat ++ brT (rkM (hk (txF ns m R).2) < rkM (n.1 0) + 1) (txF ns m (txF ns m R).2).1), (txF ns m (txF ns m R).2).2)
set_option maxRecDepth 100000 in
theorem tAr_r {f : List (Nd × List Int32) → List Int32 × List (Nd × List Int32)} {m : Nat} (hf : ∀ T B, fz T 1 → T.length ≤ m → (f (T ++ B)).2 = B) : ∀ (k c : Nat) (R B : List (Nd × List Int32)), fz R k → R.length ≤ m → (tAr f k c (R ++ B)).2 = B
  | 0, c, R, B, h, _ => by
    rw [fz_0 h]
    rfl
  | k + 1, c, R, B, h, hm => by
    obtain ⟨T, R2, e, t1, t2⟩ := fz_sp R 1 k (by rw [Nat.add_comm]; exact h)
    subst e
    rw [List.length_append] at hm
    show (tAr f k (c + 1) (f ((T ++ R2) ++ B)).2).2 = B
    rw [List.append_assoc, hf T (R2 ++ B) t1 (by omega)]
    exact tAr_r hf k (c + 1) R2 B t2 (by omega)
set_option maxRecDepth 100000 in
theorem txF_r {ns : List (List Int32)} : ∀ (m : Nat) (T B : List (Nd × List Int32)), (∀ n ∈ T, arOk n.1) → fz T 1 → T.length ≤ m → (txF ns m (T ++ B)).2 = B := by
  intro m
  induction m with
  | zero =>
    intro T B ha h hm
    cases T with
    | nil => exact absurd h (by show ¬ (1 : Nat) = 0; decide)
    | cons d T =>
      rw [List.length_cons] at hm
      omega
  | succ m ih =>
    intro T B ha h hm
    cases T with
    | nil => exact absurd h (by show ¬ (1 : Nat) = 0; decide)
    | cons n R =>
      rw [List.length_cons] at hm
      have hR : fz R (arN n.1) := by
        have := h.2
        rw [show 1 - 1 + arN n.1 = arN n.1 by omega] at this
        exact this
      have har := ha n List.mem_cons_self
      have haR : ∀ x ∈ R, arOk x.1 := fun x hx => ha x (List.mem_cons_of_mem _ hx)
      -- the ones below, for lists of R's nodes
      have sub : ∀ T2 B2 : List (Nd × List Int32), (∀ x ∈ T2, x ∈ R) → fz T2 1 → T2.length ≤ m → (txF ns m (T2 ++ B2)).2 = B2 := fun T2 B2 hx h2 h3 => ih T2 B2 (fun x hx2 => haR x (hx x hx2)) h2 h3
      show (txF ns (m + 1) (n :: (R ++ B))).2 = B
      unfold txF
      by_cases c7 : n.1 0 = 7
      · rw [if_pos c7]
        have loop : ∀ (k c : Nat) (R2 : List (Nd × List Int32)), (∀ x ∈ R2, x ∈ R) → fz R2 k → R2.length ≤ m → (tAr (txF ns m) k c (R2 ++ B)).2 = B := by
          intro k
          induction k with
          | zero =>
            intro c R2 hx h2 h3
            rw [fz_0 h2]
            rfl
          | succ k ihk =>
            intro c R2 hx h2 h3
            obtain ⟨T, R3, e, t1, t2⟩ := fz_sp R2 1 k (by rw [Nat.add_comm]; exact h2)
            subst e
            rw [List.length_append] at h3
            show (tAr (txF ns m) k (c + 1) (txF ns m ((T ++ R3) ++ B)).2).2 = B
            rw [List.append_assoc, sub T (R3 ++ B) (fun x q => hx x (List.mem_append_left _ q)) t1 (by omega)]
            exact ihk (c + 1) R3 (fun x q => hx x (List.mem_append_right _ q)) t2 (by omega)
        exact loop (arN n.1) 0 R (fun x q => q) hR (by omega)
      · rw [if_neg c7]
        by_cases c9 : n.1 0 = 9
        · rw [if_pos c9]
          have h1 : arN n.1 = 1 := by unfold arN; rw [har.2.1 (Or.inl c9)]; rfl
          rw [h1] at hR
          exact sub R B (fun x q => q) hR (by omega)
        · rw [if_neg c9]
          by_cases c10 : n.1 0 = 10
          · rw [if_pos c10]
            have h1 : arN n.1 = 1 := by unfold arN; rw [har.2.1 (Or.inr c10)]; rfl
            rw [h1] at hR
            exact sub R B (fun x q => q) hR (by omega)
          · rw [if_neg c10]
            have l11 : n.1 0 < 11 ↔ (n.1 0).toInt < 11 := iLt
            by_cases c11 : n.1 0 < 11
            · rw [if_pos c11]
              have c11 := l11.mp c11
              have h1 : arN n.1 = 0 := by
                unfold arN
                rw [har.2.2.2.1 (by rintro (q | q | q | q); exact c7 q; exact c9 q; exact c10 q; omega)]
                rfl
              rw [h1] at hR
              rw [fz_0 hR]
              rfl
            · rw [if_neg c11]
              have c11 : ¬ (n.1 0).toInt < 11 := fun q => c11 (l11.mpr q)
              have h2 : arN n.1 = 2 := by
                unfold arN
                rw [har.2.2.1 (by omega)]
                rfl
              rw [h2] at hR
              obtain ⟨T1, T2, e, t1, t2⟩ := fz_sp R 1 1 hR
              subst e
              rw [List.length_append] at hm
              show (txF ns m (txF ns m ((T1 ++ T2) ++ B)).2).2 = B
              rw [List.append_assoc, sub T1 (T2 ++ B) (fun x q => List.mem_append_left _ q) t1 (by omega)]
              exact sub T2 B (fun x q => List.mem_append_right _ q) t2 (by omega)
