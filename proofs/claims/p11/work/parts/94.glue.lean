/-! what both do to formulas is the same -/
def fsAll (p : Nd → Prop) (fs : Nat → Option Fm) : Prop := ∀ f h L, fs f = some (h, L) → ∀ d ∈ L, p d
set_option maxRecDepth 100000 in
theorem shG_add (x y t k n : Int32) (d : Nd) (c e : Int32) : shG x y t k n d (c + e) = c + shG x y t k n d e := by
  have a : c + e + 1 = c + (e + 1) := Int32.add_assoc c e 1
  unfold shG shK
  split
  · rfl
  · split
    · split
      · exact a
      · rfl
    · split
      · exact a
      · rfl
set_option maxRecDepth 100000 in
theorem scC_add (x y t k n : Int32) (F : Nat → Nd) : ∀ (q j : Nat) (c e : Int32), scC x y t k n F q j (c + e) = c + scC x y t k n F q j e
  | 0, _, _, _ => rfl
  | q + 1, j, c, e => by
    show scC x y t k n F q (j + 1) (shG x y t k n (F j) (c + e)) = c + scC x y t k n F q (j + 1) (shG x y t k n (F j) e)
    rw [shG_add, scC_add x y t k n F q (j + 1)]
set_option maxRecDepth 100000 in
theorem ca_eq {x t k n : Int32} {fs : Nat → Option Fm} (hx : 0 ≤ x.toInt) (hk : rgP k (lastT t)) (hn : wayP n) (h : fsAll ndS fs) : ∀ (q f : Nat) (c : Int32), caC x t k n fs q f c = caM x t k n (lastT t) fs q f c
  | 0, _, _ => rfl
  | q + 1, f, c => by
    unfold caC caM
    cases hq : fs f with
    | none => exact ca_eq hx hk hn h q (f + 1) c
    | some v =>
      obtain ⟨ho, L⟩ := v
      have e : c + scC x (hmY ho x) t k n (fun i => L.getD i (fun _ => 0)) L.length 0 0 = scM x t k n (lastT t) ho (fun i => L.getD i (fun _ => 0)) L.length 0 c := by
        rw [← scC_add, Int32.add_zero]
        exact scn_eq hx rfl hk hn L.length 0 c fun i _ hi => by
          show ndS (L.getD i (fun _ => 0))
          rw [getD_nd (by omega)]
          exact h f ho L hq _ (List.getElem_mem _)
      show caC x t k n fs q (f + 1) (c + scC x (hmY ho x) t k n (fun i => L.getD i (fun _ => 0)) L.length 0 0) = caM x t k n (lastT t) fs q (f + 1) (scM x t k n (lastT t) ho (fun i => L.getD i (fun _ => 0)) L.length 0 c)
      rw [e]
      exact ca_eq hx hk hn h q (f + 1) _
set_option maxRecDepth 100000 in
theorem fsSh_eq {x t k n : Int32} {fs : Nat → Option Fm} (hx : 0 ≤ x.toInt) (hk : rgP k (lastT t)) (hn : wayP n) (h : fsAll ndS fs) : fsShC x t k n fs = fsShM x t k n (lastT t) fs := by
  funext f
  unfold fsShC fsShM
  cases hq : fs f with
  | none => rfl
  | some v =>
    obtain ⟨ho, L⟩ := v
    show some (ho, L.map (shF x (hmY ho x) t k n)) = some (ho, L.map (shM x t k n (lastT t) ho))
    congr 2
    exact List.map_congr_left fun d hd => (sh_eq hx (h f ho L hq d hd) rfl hk hn).1
set_option maxRecDepth 100000 in
theorem fsDrop_eq {x : Int32} {fs : Nat → Option Fm} (h : fsAll (fun d => d 2 = x → d 1 = 0) fs) : fsDrop x fs = fsDropM x fs := by
  funext f
  unfold fsDrop fsDropM
  cases hq : fs f with
  | none => rfl
  | some v =>
    obtain ⟨ho, L⟩ := v
    show (if ho = x then none else some (if ho ≤ x then ho else ho - 1, L.map (lsN x))) = (if ho = x then none else some (if ho ≤ x then ho else ho - 1, L.map (lsM x)))
    have e : L.map (lsN x) = L.map (lsM x) := List.map_congr_left fun d hd => by
      unfold lsN lsM
      by_cases q : d 2 = x
      · rw [if_pos q, if_pos q, lo_eq (h f ho L hq d hd q)]
      · rw [if_neg q, if_neg q]
    rw [e]
set_option maxRecDepth 100000 in
theorem fsMove_eq {x y : Nat} {r c ho : Int32} {L : List Nd} {fs : Nat → Option Fm} (h : ∀ d ∈ L, isRf d → ndR d) : fsMove x y r c ho (fun r c => onRf (mvC r c)) L fs = fsMove x y r c ho (fun r c => onRf (mvM r c)) L fs := by
  funext f
  unfold fsMove
  have e : L.map (onRf (mvC r c)) = L.map (onRf (mvM r c)) := List.map_congr_left fun d hd => by
    by_cases q : isRf d
    · rw [onRf_t q, onRf_t q, mv_eq (h d hd q)]
    · rw [onRf_f q, onRf_f q]
  show (if f = y then some (ho, L.map (onRf (mvC r c))) else fs f) = (if f = y then some (ho, L.map (onRf (mvM r c))) else fs f)
  rw [e]
