/-! printed by wip/whole/tools/dec.py: where the cells lie -/
def zTy : List (List Nat) := [[2, 2, 2, 2, 2, 2, 2], [2, 0], [2, 2, 0], [2, 2, 0], [2, 2, 2, 2, 2, 2, 2, 0, 0, 0, 0, 0, 0], [0, 0, 0, 0], [2, 2, 0], [2, 2, 2, 0], [2, 2, 2, 2, 0, 2, 0, 0, 0, 0, 0], [0, 0, 2, 0, 2, 2, 2, 2, 2, 2, 2, 2, 2, 2, 2, 2, 2, 2, 2, 2, 2, 0, 2, 2, 2, 2, 0, 0, 2, 0, 2, 2, 0, 0, 0, 0, 0, 2, 0, 0, 0, 0, 0, 0, 0]]
def zE : Nat := 149
def zTt : List (Nat × Nat) := [(0, 7), (1, 2), (102, 256), (2, 3), (111, 8), (103, 8), (1, 2), (102, 31), (1, 2), (102, 31), (1, 2), (102, 31), (1, 2), (102, 31), (1, 2), (102, 31), (1, 2), (102, 31), (1, 2), (102, 31), (1, 2), (102, 31), (113, 8), (100, 8), (3, 3), (100, 1408), (1, 2), (102, 256), (4, 13), (1, 2), (102, 256), (5, 4), (6, 3), (100, 128), (100, 128), (7, 4), (100, 32), (100, 32), (100, 32), (8, 11), (100, 128), (100, 128), (103, 128), (9, 45), (100, 256), (100, 8), (100, 256), (103, 8), (100, 8), (100, 9), (100, 1152), (100, 1152), (100, 1152), (100, 1152), (100, 1152), (100, 1152), (100, 1152), (100, 1152), (100, 1152), (100, 1152), (100, 1152), (100, 2304), (100, 128), (100, 128), (100, 128), (100, 128), (100, 130), (100, 300), (100, 300), (100, 256), (104, 1)]
def zRt : List (Nat × Nat × Nat) := [(78, 0, 79), (78, 1, 81), (78, 2, 100), (78, 3, 101), (78, 4, 106), (78, 5, 117), (81, 0, 82), (81, 1, 83), (106, 0, 79), (106, 1, 81), (106, 2, 107), (106, 3, 109), (106, 4, 110), (106, 5, 113), (110, 0, 111), (110, 1, 112), (113, 0, 114), (113, 1, 115), (113, 2, 116), (117, 0, 81), (117, 1, 118), (117, 2, 119), (117, 3, 120), (121, 2, 122), (121, 4, 123), (121, 5, 124), (121, 6, 125), (121, 7, 126), (121, 8, 127), (121, 9, 128), (121, 10, 129), (121, 11, 130), (121, 12, 131), (121, 13, 132), (121, 14, 133), (121, 15, 134), (121, 16, 135), (121, 17, 136), (121, 18, 137), (121, 19, 138), (121, 20, 139), (121, 22, 140), (121, 23, 141), (121, 24, 142), (121, 25, 143), (121, 28, 144), (121, 30, 145), (121, 31, 146), (121, 37, 147), (82, 0, 84), (82, 1, 86), (82, 2, 88), (82, 3, 90), (82, 4, 92), (82, 5, 94), (82, 6, 96), (82, 7, 98)]
def zTz : List (Nat × Nat) := [(100, 0), (70, 2), (101, 23), (70, 2), (101, 26), (70, 2), (101, 7), (70, 2), (101, 45), (70, 2), (101, 18), (70, 2), (101, 4), (70, 2), (101, 5), (70, 2), (101, 22), (70, 2), (101, 44), (70, 2), (101, 33), (70, 2), (101, 6), (70, 2), (101, 7), (70, 2), (101, 7), (70, 2), (101, 5), (70, 2), (101, 6), (70, 2), (101, 5), (70, 2), (101, 4), (70, 2), (101, 28), (70, 2), (101, 38), (70, 2), (101, 24), (70, 2), (101, 4), (70, 2), (101, 5), (70, 2), (101, 1), (70, 2), (101, 1), (70, 2), (101, 1), (70, 2), (101, 1), (70, 2), (101, 1), (70, 2), (101, 1), (70, 2), (101, 1), (70, 2), (101, 1), (70, 2), (101, 2), (70, 2), (101, 1), (70, 2), (101, 1), (70, 2), (101, 2), (70, 2), (101, 2), (70, 2), (101, 32), (70, 2), (101, 18), (70, 2), (101, 18), (99, 0)]
def zTt0 (n a : Nat) : Nat × Nat := if a = 0 then (100, n) else zTz.getD a (0, 0)
/-- the one constant of which nothing is known: nothing, or the last cell -/
def sv (b : Bool) : Value := if b = true then .null else .ref (zK - 1)
abbrev Ly (tt : Nat) (cc : Nat → Nat → Int32) (s : aS) : Prop := Lay zK zE zTt zRt (zTt0 tt) cc s
set_option maxRecDepth 100000 in
theorem Lay.lowT {tt : Nat} {cc : Nat → Nat → Int32} {s : aS} {a : Nat} (h : Ly tt cc s) (ha : a < zK) : sT s a = zTt0 tt a := h.2.2.2.2.2.2.2.1 a ha
set_option maxRecDepth 100000 in
theorem Lay.t0 {tt : Nat} {cc : Nat → Nat → Int32} {s : aS} (h : Ly tt cc s) : sT s 0 = (100, (sT s 0).2) := by rw [h.lowT (show 0 < zK by decide)]; rfl
set_option maxRecDepth 100000 in
theorem Lay.lowK {tt : Nat} {cc : Nat → Nat → Int32} {s : aS} {a c : Nat} (h : Ly tt cc s) (ha : a < zK) (h2 : a ≠ 0 ∧ (zTz.getD a (0, 0)).1 = c) : aK s a c := ⟨h.lt (Nat.lt_of_lt_of_le ha h.2.1), by rw [h.lowT ha]; unfold zTt0; rw [if_neg h2.1]; exact h2.2⟩
set_option maxRecDepth 100000 in
theorem lay_names {tt : Nat} {cc : Nat → Nat → Int32} {s : aS} {j : Nat} (h : Ly tt cc s) (hj : j < 8) : aK s (84 + 2 * j) 1 ∧ sR s 82 j = .ref (84 + 2 * j) := by
  match j, hj with
  | 0, _ => exact ⟨h.Kd (n := 2) (6 + 0) rfl rfl (by decide), h.R (49 + 0) rfl⟩
  | 1, _ => exact ⟨h.Kd (n := 2) (6 + 2) rfl rfl (by decide), h.R (49 + 1) rfl⟩
  | 2, _ => exact ⟨h.Kd (n := 2) (6 + 4) rfl rfl (by decide), h.R (49 + 2) rfl⟩
  | 3, _ => exact ⟨h.Kd (n := 2) (6 + 6) rfl rfl (by decide), h.R (49 + 3) rfl⟩
  | 4, _ => exact ⟨h.Kd (n := 2) (6 + 8) rfl rfl (by decide), h.R (49 + 4) rfl⟩
  | 5, _ => exact ⟨h.Kd (n := 2) (6 + 10) rfl rfl (by decide), h.R (49 + 5) rfl⟩
  | 6, _ => exact ⟨h.Kd (n := 2) (6 + 12) rfl rfl (by decide), h.R (49 + 6) rfl⟩
  | 7, _ => exact ⟨h.Kd (n := 2) (6 + 14) rfl rfl (by decide), h.R (49 + 7) rfl⟩
set_option maxRecDepth 100000 in
theorem lay_noR (k : Nat) : zRt.all (fun q => !(q.1 == 100 && q.2.1 == k)) = true := by
  have h : ∀ q ∈ zRt, q.1 ≠ 100 := by decide
  refine List.all_eq_true.mpr fun q hq => ?_
  have := h q hq
  simp [this]
set_option maxRecDepth 100000 in
theorem lay_sm1 : ∀ (j : Nat) (p : Nat × Nat), zTt[j]? = some p → zK + j < zE := by
  intro j p h
  have h1 := (List.getElem?_eq_some_iff.mp h).1
  have h2 : zK + zTt.length = zE := by decide
  omega
set_option maxRecDepth 100000 in
theorem lay_sm2 : ∀ (j : Nat) (q : Nat × Nat × Nat), zRt[j]? = some q → q.1 < zE := by
  intro j q h
  have h2 : ∀ q ∈ zRt, q.1 < zE := by decide
  exact h2 q (List.mem_of_getElem? h)
/-- where who may write: 1 FormulaTrees and its wrappers, 2 the reference, 0 the law -/
def zG (f a : Nat) : Bool := match f with
  | 0 => true
  | 1 => decide (a < 121) || decide (148 ≤ a)
  | _ => decide (121 ≤ a) && decide (a < 148)
set_option maxRecDepth 100000 in
theorem zG1_of {a : Nat} (h : a < 121 ∨ 148 ≤ a) : zG 1 a = true := by
  show (decide (a < 121) || decide (148 ≤ a)) = true
  rcases h with h | h <;> simp [h]
set_option maxRecDepth 100000 in
theorem Lay.gL {tt : Nat} {cc : Nat → Nat → Int32} {s : aS} (h : Ly tt cc s) : zG 1 (sL s) = true := zG1_of (Or.inr (Nat.le_trans (by decide) h.1))
set_option maxRecDepth 100000 in
theorem Lay.gN {tt : Nat} {cc : Nat → Nat → Int32} {s : aS} {a : Nat} {p : Nat × Nat} (h : Ly tt cc s) (hT : sT s a = p) (hn : ∀ q ∈ zTt.drop (121 - zK), q ≠ p) : zG 1 a = true := by
  apply zG1_of
  by_cases h1 : a < 121
  · exact Or.inl h1
  · by_cases h2 : 148 ≤ a
    · exact Or.inr h2
    · exfalso
      have hj : (zTt.drop (121 - zK))[a - 121]? = some (sT s a) := by
        have hlt : a - zK < zTt.length := by
          have : zTt.length = zE - zK := by decide
          have : zE = 148 + 1 := by decide
          have : zK ≤ 121 := by decide
          omega
        obtain ⟨q, hq⟩ : ∃ q, zTt[a - zK]? = some q := ⟨_, List.getElem?_eq_getElem hlt⟩
        have hz : zK ≤ 121 := by decide
        rw [List.getElem?_drop, show 121 - zK + (a - 121) = a - zK by omega, hq, h.T (a - zK) hq (by omega)]
      exact hn _ (List.mem_of_getElem? hj) hT
set_option maxRecDepth 100000 in
theorem Lay.g1 {tt : Nat} {cc : Nat → Nat → Int32} {s : aS} {b : Nat} (h : Ly tt cc s) (hb : aK s b 1) : zG 1 b = true := h.gN (h.le hb).1 (by decide)
set_option maxRecDepth 100000 in
theorem Lay.g1b {tt : Nat} {cc : Nat → Nat → Int32} {s : aS} {b : Nat} (h : Ly tt cc s) (hb : aK s b 1) : zG 1 (b + 1) = true := by
  have h1 := (h.le hb).2.2.2.1
  refine h.gN (p := sT s (b + 1)) rfl fun q hq e => ?_
  have h2 : ∀ q ∈ zTt.drop (121 - zK), q.1 ≠ 102 := by decide
  exact h2 q hq (by rw [e]; exact h1)
set_option maxRecDepth 100000 in
theorem Lay.g3 {tt : Nat} {cc : Nat → Nat → Int32} {s : aS} {b : Nat} (h : Ly tt cc s) (hb : aK s b 3) : zG 1 b = true := h.gN (h.tr hb).1 (by decide)
set_option maxRecDepth 100000 in
theorem Lay.g3a {tt : Nat} {cc : Nat → Nat → Int32} {s : aS} {b : Nat} (h : Ly tt cc s) (hb : aK s b 3) : zG 1 (b + 1) = true := h.gN (h.tr hb).2.2.2.2.1 (by decide)
set_option maxRecDepth 100000 in
theorem Lay.g3b {tt : Nat} {cc : Nat → Nat → Int32} {s : aS} {b : Nat} (h : Ly tt cc s) (hb : aK s b 3) : zG 1 (b + 2) = true := h.gN (h.tr hb).2.2.2.2.2.1 (by decide)
set_option maxRecDepth 100000 in
theorem Lay.g3c {tt : Nat} {cc : Nat → Nat → Int32} {s : aS} {b : Nat} (h : Ly tt cc s) (hb : aK s b 3) : zG 1 (b + 3) = true := h.gN (h.tr hb).2.2.2.2.2.2.1 (by decide)
def Q (f : Nat) (sio : Bool) (tt : Nat) (cc : Nat → Nat → Int32) (d k i : Nat) (ls : xL) (st : List Value) (s : aS) (o : xZ × aS) : Prop := Ly tt cc o.2 ∧ ext (zG f) s o.2 ∧ A zP (zCs (sv sio)) zK zTy d k i ls st s o
def vI {β : Type} (v : Option Value) (f : Int32 → Option β) : Option β := match v with
  | some (.int x) => f x
  | _ => none
def vV {β : Type} (v : Option Value) (x : Option β) : Option β := match v with
  | none => x
  | _ => none
set_option maxRecDepth 100000 in
theorem vI_so {β : Type} {v : Option Value} {f : Int32 → Option β} {o : β} (h : vI v f = some o) : ∃ x, v = some (.int x) ∧ f x = some o := by
  unfold vI at h
  split at h
  · exact ⟨_, rfl, h⟩
  · cases h
set_option maxRecDepth 100000 in
theorem vV_so {β : Type} {v : Option Value} {x : Option β} {o : β} (h : vV v x = some o) : v = none ∧ x = some o := by
  unfold vV at h
  split at h
  · exact ⟨rfl, h⟩
  · cases h
set_option maxRecDepth 100000 in
theorem gI_of {P : List xQ6} {k i : Nat} {M : xQ6} {e : xE} (hM : P[k]? = some M) (hE : M.2.2.2.2.2[i]? = some e) : gI P k i = some (e.2.2.1, e.2.2.2) := by
  unfold gI
  simp only [hM, hE]
section QR
variable {f : Nat} {sio : Bool} {tt : Nat} {cc : Nat → Nat → Int32} {d k i : Nat} {ls : xL} {st : List Value} {s s1 : aS} {o : xZ × aS}
set_option maxRecDepth 100000 in
theorem Q.map {d' i' : Nat} {ls' : xL} {st' : List Value} (f9 : A zP (zCs (sv sio)) zK zTy d' k i' ls' st' s o → A zP (zCs (sv sio)) zK zTy d k i ls st s o) (g : Q f sio tt cc d' k i' ls' st' s o) : Q f sio tt cc d k i ls st s o := ⟨g.1, g.2.1, f9 g.2.2⟩
set_option maxRecDepth 100000 in
theorem Q.mapw {i' : Nat} {ls' : xL} {st' : List Value} (hx : ext (zG f) s s1) (f9 : A zP (zCs (sv sio)) zK zTy d k i' ls' st' s1 o → A zP (zCs (sv sio)) zK zTy d k i ls st s o) (g : Q f sio tt cc d k i' ls' st' s1 o) : Q f sio tt cc d k i ls st s o := ⟨g.1, hx.trans g.2.1, f9 g.2.2⟩
set_option maxRecDepth 100000 in
theorem Q.run {M : xQ6} (hM : zP[k]? = some M) (n : Nat) {i' : Nat} {ls' : xL} {st' : List Value} (h : pRun (zCs (sv sio)) M.2.2.2.2.2 n i ls st = some (i', ls', st')) (g : Q f sio tt cc d k i' ls' st' s o) : Q f sio tt cc d k i ls st s o := Q.map (A.run hM n h) g
set_option maxRecDepth 100000 in
theorem Q.ret {r : xZ} (f9 : A zP (zCs (sv sio)) zK zTy d k i ls st s (r, s)) (hl : Ly tt cc s) : Q f sio tt cc d k i ls st s (r, s) := ⟨hl, ext.refl _ s, f9⟩
set_option maxRecDepth 100000 in
theorem Q.pf {q ci kk t n a : Nat} {rs : List Nat} {v : Int32} (hs : s1 = wI s a kk v) (hg : zG f a = true) (hi : gI zP k i = some (.putfield q, ci :: kk :: t :: rs)) (ha : a < sL s) (hK : zK ≤ a) (hT : sT s a = (ci, n)) (hk : kk < n) (ht : aTy zTy ci kk = 0) (hf : xfit t (.int v) = true) (g : Q f sio tt cc d k (i + 1) ls st s1 o) : Q f sio tt cc d k i ls (.int v :: .ref a :: st) s o := by
  subst hs; exact Q.mapw (ext_wI _ _ _ _ hg) (A.pf hi ha hK hT hk ht hf) g
set_option maxRecDepth 100000 in
theorem Q.pr {q ci kk t n a : Nat} {rs : List Nat} {v : Value} (hs : s1 = wR s a kk v) (hg : zG f a = true) (hi : gI zP k i = some (.putfield q, ci :: kk :: t :: rs)) (ha : a < sL s) (hK : zK ≤ a) (hT : sT s a = (ci, n)) (hk : kk < n) (ht : aTy zTy ci kk = 2) (hf : xfit t v = true) (g : Q f sio tt cc d k (i + 1) ls st s1 o) : Q f sio tt cc d k i ls (v :: .ref a :: st) s o := by
  subst hs; exact Q.mapw (ext_wR _ _ _ _ hg) (A.pr hi ha hK hT hk ht hf) g
set_option maxRecDepth 100000 in
theorem Q.is {a n : Nat} {j v : Int32} {ax : List Nat} (hs : s1 = wI s a (jN j) v) (hg : zG f a = true) (hi : gI zP k i = some (.iastore, ax)) (ha : a < sL s) (hK : zK ≤ a) (hT : sT s a = (100, n)) (hj : aB j n) (g : Q f sio tt cc d k (i + 1) ls st s1 o) : Q f sio tt cc d k i ls (.int v :: .int j :: .ref a :: st) s o := by
  subst hs; exact Q.mapw (ext_wI _ _ _ _ hg) (A.is hi ha hK hT hj) g
set_option maxRecDepth 100000 in
theorem Q.cs {a n : Nat} {j v : Int32} {ax : List Nat} (hs : s1 = wI s a (jN j) (nC v)) (hg : zG f a = true) (hi : gI zP k i = some (.castore, ax)) (ha : a < sL s) (hK : zK ≤ a) (hT : sT s a = (102, n)) (hj : aB j n) (g : Q f sio tt cc d k (i + 1) ls st s1 o) : Q f sio tt cc d k i ls (.int v :: .int j :: .ref a :: st) s o := by
  subst hs; exact Q.mapw (ext_wI _ _ _ _ hg) (A.cs hi ha hK hT hj) g
set_option maxRecDepth 100000 in
theorem Q.bs {a n : Nat} {j v : Int32} {ax : List Nat} (hs : s1 = wI s a (jN j) (v &&& 1)) (hg : zG f a = true) (hi : gI zP k i = some (.bastore, ax)) (ha : a < sL s) (hK : zK ≤ a) (hT : sT s a = (103, n)) (hj : aB j n) (g : Q f sio tt cc d k (i + 1) ls st s1 o) : Q f sio tt cc d k i ls (.int v :: .int j :: .ref a :: st) s o := by
  subst hs; exact Q.mapw (ext_wI _ _ _ _ hg) (A.bs hi ha hK hT hj) g
set_option maxRecDepth 100000 in
theorem Q.lS {a n : Nat} {j : Int32} {v : Int64} {ax : List Nat} (hs : s1 = wJ s a (jN j) v) (hg : zG f a = true) (hi : gI zP k i = some (.lastore, ax)) (ha : a < sL s) (hK : zK ≤ a) (hT : sT s a = (104, n)) (hj : aB j n) (g : Q f sio tt cc d k (i + 1) ls st s1 o) : Q f sio tt cc d k i ls (.long v :: .int j :: .ref a :: st) s o := by
  subst hs; exact Q.mapw (ext_wJ _ _ _ _ hg) (A.lS hi ha hK hT hj) g
set_option maxRecDepth 100000 in
theorem Q.as {a n b nb ci : Nat} {j : Int32} {rs : List Nat} (hs : s1 = wR s a (jN j) (.ref b)) (hg : zG f a = true) (hi : gI zP k i = some (.aastore, ci :: rs)) (ha : a < sL s) (hK : zK ≤ a) (hc : ci < 100) (hT : sT s a = (110 + ci, n)) (hb : b < sL s) (hTb : sT s b = (ci, nb)) (hj : aB j n) (g : Q f sio tt cc d k (i + 1) ls st s1 o) : Q f sio tt cc d k i ls (.ref b :: .int j :: .ref a :: st) s o := by
  subst hs; exact Q.mapw (ext_wR _ _ _ _ hg) (A.as hi ha hK hc hT hb hTb hj) g
set_option maxRecDepth 100000 in
theorem Q.t {M : xQ6} {a b q c z y : Nat} {rs : List Nat} (hM : zP[k]? = some M) (hE : M.2.2.2.2.2[i]? = some (a, b, .new q, c :: rs)) (hc : c = 200 + z) (hy : y = 80 + z) (hg : zG f (sL s) = true) (hd : 8 ≤ d) (hl : Ly tt cc s) : Q f sio tt cc (d + 1) k i ls [] s (.inr z, nw s y 0) := by
  subst hc; subst hy
  have h := A.t (d := d) (ls := ls) (s := s) (Ty := zTy) (Cs := zCs (sv sio)) (K := zK) hM hE (by omega) hd
  rw [show 200 + z - 200 = z by omega] at h
  exact ⟨hl.nwd lay_sm1 lay_sm2 ⟨by omega, by omega, by omega⟩, ext_nw _ _ _ hg, h⟩
set_option maxRecDepth 100000 in
theorem Q.call {k1 : Nat} {ls1 : xL} {r st2 : List Value} {v : Option Value} (h : gC zP (zCs (sv sio)) zK k i ls st (hOf zTy s) = some (k1, ls1, r)) (h1 : Q f sio tt cc d k1 0 ls1 [] s (.inl v, s1)) (he : v.toList ++ r = st2) (g : Q f sio tt cc (d + 1) k (i + 1) ls st2 s1 o) : Q f sio tt cc (d + 1) k i ls st s o := ⟨g.1, h1.2.1.trans g.2.1, A.c h h1.2.2 (by rw [he]; exact g.2.2)⟩
set_option maxRecDepth 100000 in
theorem Q.callI {k1 : Nat} {ls1 : xL} {r : List Value} {x : Int32} (h : gC zP (zCs (sv sio)) zK k i ls st (hOf zTy s) = some (k1, ls1, r)) (h1 : Q f sio tt cc d k1 0 ls1 [] s (.inl (some (.int x)), s1)) (g : Q f sio tt cc (d + 1) k (i + 1) ls (.int x :: r) s1 o) : Q f sio tt cc (d + 1) k i ls st s o := Q.call h h1 rfl g
set_option maxRecDepth 100000 in
theorem Q.callJ {k1 : Nat} {ls1 : xL} {r : List Value} {x : Int64} (h : gC zP (zCs (sv sio)) zK k i ls st (hOf zTy s) = some (k1, ls1, r)) (h1 : Q f sio tt cc d k1 0 ls1 [] s (.inl (some (.long x)), s1)) (g : Q f sio tt cc (d + 1) k (i + 1) ls (.long x :: r) s1 o) : Q f sio tt cc (d + 1) k i ls st s o := Q.call h h1 rfl g
set_option maxRecDepth 100000 in
theorem Q.callR {k1 : Nat} {ls1 : xL} {r : List Value} {v : Value} (h : gC zP (zCs (sv sio)) zK k i ls st (hOf zTy s) = some (k1, ls1, r)) (h1 : Q f sio tt cc d k1 0 ls1 [] s (.inl (some v), s1)) (g : Q f sio tt cc (d + 1) k (i + 1) ls (v :: r) s1 o) : Q f sio tt cc (d + 1) k i ls st s o := Q.call h h1 rfl g
set_option maxRecDepth 100000 in
theorem Q.callV {k1 : Nat} {ls1 : xL} {r : List Value} (h : gC zP (zCs (sv sio)) zK k i ls st (hOf zTy s) = some (k1, ls1, r)) (h1 : Q f sio tt cc d k1 0 ls1 [] s (.inl none, s1)) (g : Q f sio tt cc (d + 1) k (i + 1) ls r s1 o) : Q f sio tt cc (d + 1) k i ls st s o := Q.call h h1 rfl g
set_option maxRecDepth 100000 in
theorem Q.hc {k1 z t : Nat} {ls1 : xL} {r : List Value} (h : gC zP (zCs (sv sio)) zK k i ls st (hOf zTy s) = some (k1, ls1, r)) (h1 : Q f sio tt cc d k1 0 ls1 [] s (.inr z, s1)) (ht : gH zP k i z = some t) (g : Q f sio tt cc (d + 1) k t ls [.ref (sL s1 - 1)] s1 o) : Q f sio tt cc (d + 1) k i ls st s o := ⟨g.1, h1.2.1.trans g.2.1, A.h h h1.2.2 ht g.2.2⟩
set_option maxRecDepth 100000 in
theorem Q.w (h : Q f sio tt cc d k i ls st s o) : Q 0 sio tt cc d k i ls st s o := ⟨h.1, ⟨h.2.1.1, h.2.1.2.1, fun a _ (e : zG 0 a = false) => (by cases (show true = false from e)), fun (e : zG 0 (sL s) = false) => (by cases (show true = false from e))⟩, h.2.2⟩
end QR
section AM
variable {P : List xQ6} {Cs : List Value} {K : Nat} {Ty : List (List Nat)} {d k i : Nat} {ls : xL} {st : List Value} {s : aS} {o : xZ × aS}
set_option maxRecDepth 100000 in
theorem A.dv {ax : List Nat} {x y : Int32} (hi : gI P k i = some (.idiv, ax)) (hy : ¬ y = 0) (g : A P Cs K Ty d k (i + 1) ls (.int (x / y) :: st) s o) : A P Cs K Ty d k i ls (.int y :: .int x :: st) s o := A.ss hi (by
  show (match (if y = 0 then none else some (Value.int (x / y) :: st)) with | some st' => some (i + 1, ls, st') | none => _) = _
  rw [if_neg hy]) g
set_option maxRecDepth 100000 in
theorem A.rm {ax : List Nat} {x y : Int32} (hi : gI P k i = some (.irem, ax)) (hy : ¬ y = 0) (g : A P Cs K Ty d k (i + 1) ls (.int (x - x / y * y) :: st) s o) : A P Cs K Ty d k i ls (.int y :: .int x :: st) s o := A.ss hi (by
  show (match (if y = 0 then none else some (Value.int (x - x / y * y) :: st)) with | some st' => some (i + 1, ls, st') | none => _) = _
  rw [if_neg hy]) g
set_option maxRecDepth 100000 in
theorem gP_of {M : xQ6} {ins : Instr} {ax : List Nat} {a b : Nat} {st' : List Value} {hp hp' : xH} (hM : P[k]? = some M) (hE : M.2.2.2.2.2[i]? = some (a, b, ins, ax)) (h1 : x1 K ins ax i ls st hp = none) (h2 : xT Cs ins ax st = none) (h3 : xret M.2.2.2.1 ins st = none) (h4 : xsp K ins ax st hp = some (st', hp')) : gP P Cs K k i ls st hp = some (st', hp') := by
  unfold gP
  simp only [hM, hE, h1, h2, h3, h4]
set_option maxRecDepth 100000 in
theorem A.mx {M : xQ6} {a b q : Nat} {x y : Int32} (hM : P[k]? = some M) (hw : ((st.map fun v : Value => v.category).sum ≤ 8) = True) (hE : M.2.2.2.2.2[i]? = some (a, b, .invokestatic q, [3])) (g : A P Cs K Ty (d + 1) k (i + 1) ls (.int (if x < y then y else x) :: st) s o) : A P Cs K Ty (d + 1) k i ls (.int y :: .int x :: st) s o := G.p (gP_of hM hE rfl rfl (by unfold xret; rfl) (by
  show (if (st.map fun v : Value => v.category).sum ≤ 8 then some (Value.int (if x < y then y else x) :: st, hOf Ty s) else none) = _
  rw [if_pos (of_eq_true hw)])) g
set_option maxRecDepth 100000 in
theorem A.mn {M : xQ6} {a b q : Nat} {x y : Int32} (hM : P[k]? = some M) (hw : ((st.map fun v : Value => v.category).sum ≤ 8) = True) (hE : M.2.2.2.2.2[i]? = some (a, b, .invokestatic q, [4])) (g : A P Cs K Ty (d + 1) k (i + 1) ls (.int (if y < x then y else x) :: st) s o) : A P Cs K Ty (d + 1) k i ls (.int y :: .int x :: st) s o := G.p (gP_of hM hE rfl rfl (by unfold xret; rfl) (by
  show (if (st.map fun v : Value => v.category).sum ≤ 8 then some (Value.int (if y < x then y else x) :: st, hOf Ty s) else none) = _
  rw [if_pos (of_eq_true hw)])) g
end AM
/-- n places copied -/
def cpI (s : aS) (q sp d dp n : Nat) : aS := (s.1, s.2.1, fun a k => if a = d ∧ dp ≤ k ∧ k < dp + n then sI s q (sp + (k - dp)) else s.2.2.1 a k, s.2.2.2)
set_option maxRecDepth 100000 in
theorem Lay.cp {K E : Nat} {Tt : List (Nat × Nat)} {Rt : List (Nat × Nat × Nat)} {t9 : Nat → Nat × Nat} {cc : Nat → Nat → Int32} {s : aS} {q sp d dp n : Nat} (h : Lay K E Tt Rt t9 cc s) (hd : K ≤ d) : Lay K E Tt Rt t9 cc (cpI s q sp d dp n) := by
  obtain ⟨h1, h2, h3, h4, h5, h6, h7, h8, h9⟩ := h
  exact ⟨h1, h2, h3, h4, h5, h6, h7, h8, fun b j hb => (if_neg (fun e => by omega)).trans (h9 b j hb)⟩
section AN
variable {P : List xQ6} {Cs : List Value} {K : Nat} {Ty : List (List Nat)} {d k i : Nat} {ls : xL} {st : List Value} {s : aS} {o : xZ × aS}
set_option maxRecDepth 100000 in
theorem hOf_cp {q sp dd dp n nq nd : Nat} (ha : q < sL s) (hb : dd < sL s) (hq : sT s q = (100, nq)) (hd : sT s dd = (100, nd)) (h1 : sp + n ≤ nq) (h2 : dp + n ≤ nd) : (hOf Ty s).set dd ((aCell Ty s dd).1, (aCell Ty s dd).2.take dp ++ ((aCell Ty s q).2.drop sp).take n ++ (aCell Ty s dd).2.drop (dp + n)) = hOf Ty (cpI s q sp dd dp n) := by
  apply List.ext_getElem?
  intro b
  rw [List.getElem?_set]
  have hT : ∀ b, sT (cpI s q sp dd dp n) b = sT s b := fun _ => rfl
  by_cases hbl : b < sL s
  · rw [hOf_get (s := cpI s q sp dd dp n) (show b < sL s from hbl)]
    split
    · rename_i e
      subst e
      rw [if_pos (by rw [hOf_len]; exact hbl)]
      have hsl : ∀ (a : Nat) (t9 : aS) (j : Nat), sT t9 a = (100, j) → ∀ k, k < j → (aCell Ty t9 a).2[k]? = some (.int (sI t9 a k)) := by
        intro a t9 j h k hk
        rw [aCell_get (by rw [h]; exact hk), h]
        rfl
      have : (aCell Ty s dd).2.take dp ++ ((aCell Ty s q).2.drop sp).take n ++ (aCell Ty s dd).2.drop (dp + n) = (aCell Ty (cpI s q sp dd dp n) dd).2 := by
        have l1 : (aCell Ty s dd).2.length = nd := by rw [aCell_len, hd]
        have l2 : (aCell Ty s q).2.length = nq := by rw [aCell_len, hq]
        apply List.ext_getElem?
        intro j
        by_cases hj : j < nd
        · rw [hsl dd (cpI s q sp dd dp n) nd hd j hj]
          by_cases hj1 : j < dp
          · rw [List.append_assoc, List.getElem?_append_left (by simp; omega), List.getElem?_take_of_lt hj1, hsl dd s nd hd j hj]
            show _ = some (Value.int (if dd = dd ∧ dp ≤ j ∧ j < dp + n then _ else _))
            rw [if_neg (by omega)]
            rfl
          · by_cases hj2 : j < dp + n
            · rw [List.append_assoc, List.getElem?_append_right (by simp; omega), List.getElem?_append_left (by simp; omega)]
              simp only [List.length_take, l1]
              rw [List.getElem?_take_of_lt (by omega), List.getElem?_drop, hsl q s nq hq _ (by omega)]
              show _ = some (Value.int (if dd = dd ∧ dp ≤ j ∧ j < dp + n then _ else _))
              rw [if_pos ⟨rfl, by omega, hj2⟩, show sp + (j - min dp nd) = sp + (j - dp) by omega]
            · rw [List.getElem?_append_right (by simp; omega)]
              simp only [List.length_append, List.length_take, List.length_drop, l1, l2]
              rw [List.getElem?_drop, show dp + n + (j - (min dp nd + min n (nq - sp))) = j by omega, hsl dd s nd hd j hj]
              show _ = some (Value.int (if dd = dd ∧ dp ≤ j ∧ j < dp + n then _ else _))
              rw [if_neg (by omega)]
              rfl
        · rw [List.getElem?_eq_none (by simp [l1, l2]; omega), List.getElem?_eq_none (by rw [aCell_len, hT, hd]; omega)]
      rw [this]
      rfl
    · rename_i e
      rw [hOf_get hbl]
      have : aCell Ty s b = aCell Ty (cpI s q sp dd dp n) b := by
        unfold aCell
        rw [hT b]
        congr 1
        apply List.map_congr_left
        intro j _
        unfold aSlot
        have : sI (cpI s q sp dd dp n) b j = sI s b j := if_neg (fun h => e h.1.symm)
        rw [this]
        rfl
      rw [this]
  · rw [List.getElem?_eq_none (l := hOf Ty (cpI s q sp dd dp n)) (by rw [hOf_len]; exact Nat.not_lt.mp hbl)]
    split
    · rename_i e
      exact absurd (e ▸ hb) hbl
    · rw [List.getElem?_eq_none]
      rw [hOf_len]
      omega
set_option maxRecDepth 100000 in
theorem aA {ins : Instr} {ax : List Nat} {st' : List Value} {s' : aS} (hi : gI P k i = some (ins, ax)) (h1 : xS ins st = none) (h2 : xV ins ls st = none) (h3 : xB ins ax i st = none) (h4 : xR ins ax st (hOf Ty s) = none) (h5 : xW K ins ax st (hOf Ty s) = none) (h : xA ins ax st (hOf Ty s) = some (st', hOf Ty s')) (g : A P Cs K Ty d k (i + 1) ls st' s' o) : A P Cs K Ty d k i ls st s o := by
  refine G.s ?_ g
  unfold gS
  rw [hi]
  simp only [x1, h1, h2, h3, h4, h5, h]
set_option maxRecDepth 100000 in
theorem A.nwd {q ci : Nat} {ts : List Nat} (hi : gI P k i = some (.new q, ci :: ts)) (hc : ci < 80) (hts : (List.range ts.length).map (fun k => xdef (aTy Ty ci k)) = ts.map xdef) (g : A P Cs K Ty d k (i + 1) ls (.ref (sL s) :: st) (nw s ci ts.length) o) : A P Cs K Ty d k i ls st s o := by
  refine aA hi rfl rfl rfl rfl rfl ?_ g
  show (if ci < 80 then some (Value.ref (hOf Ty s).length :: st, hOf Ty s ++ [(ci, ts.map xdef)]) else none) = _
  rw [if_pos hc, hOf_len, ← hts, ← hOf_nw]
  simp only [nw_slot]
set_option maxRecDepth 100000 in
theorem rep_map {n : Nat} {v : Value} : (List.range n).map (fun _ => v) = List.replicate n v := by
  apply List.ext_getElem?
  intro j
  by_cases hj : j < n
  · rw [List.getElem?_map, List.getElem?_range hj, List.getElem?_replicate, if_pos hj]
    rfl
  · rw [List.getElem?_eq_none (by simp; omega), List.getElem?_eq_none (by simp; omega)]
set_option maxRecDepth 100000 in
theorem A.na {t : ArrayType} {ax : List Nat} {n : Int32} (hi : gI P k i = some (.newarray t, ax)) (hn : ¬ n < 0) (hn2 : jN n ≤ 100000) (ht : t = .int ∨ t = .char) (g : A P Cs K Ty d k (i + 1) ls (.ref (sL s) :: st) (nw s (xat2 t) (jN n)) o) : A P Cs K Ty d k i ls (.int n :: st) s o := by
  refine aA hi rfl rfl rfl rfl rfl ?_ g
  show (if ¬ n < 0 ∧ n.toNatClampNeg ≤ 100000 ∧ 100 ≤ xat2 t then some (Value.ref (hOf Ty s).length :: st, hOf Ty s ++ [(xat2 t, List.replicate n.toNatClampNeg (if t = .long then Value.long 0 else Value.int 0))]) else none) = _
  rw [if_pos ⟨hn, hn2, by rcases ht with rfl | rfl <;> decide⟩, hOf_len, ← hOf_nw]
  simp only [nw_slot]
  rcases ht with rfl | rfl
  · show some (_, _ ++ [((100 : Nat), List.replicate (jN n) (Value.int 0))]) = some (_, _ ++ [((100 : Nat), (List.range (jN n)).map fun k => Value.int 0)])
    rw [rep_map]
  · show some (_, _ ++ [((102 : Nat), List.replicate (jN n) (Value.int 0))]) = some (_, _ ++ [((102 : Nat), (List.range (jN n)).map fun k => Value.int 0)])
    rw [rep_map]
set_option maxRecDepth 100000 in
theorem A.oi {M : xQ6} {a b q x : Nat} (hM : P[k]? = some M) (hw : ((st.map fun v : Value => v.category).sum ≤ 8) = True) (hE : M.2.2.2.2.2[i]? = some (a, b, .invokespecial q, [1])) (g : A P Cs K Ty (d + 1) k (i + 1) ls st s o) : A P Cs K Ty (d + 1) k i ls (.ref x :: st) s o := G.p (gP_of hM hE rfl rfl (by unfold xret; rfl) (by
  show (if (st.map fun v : Value => v.category).sum ≤ 8 then some (st, hOf Ty s) else none) = _
  rw [if_pos (of_eq_true hw)])) g
end AN
set_option maxRecDepth 100000 in
theorem Q.ac {f : Nat} {sio : Bool} {tt : Nat} {cc : Nat → Nat → Int32} {d k i : Nat} {ls : xL} {s s1 : aS} {o : xZ × aS} {M : xQ6} {a b q sq sd nq nd : Nat} {n dp sp : Int32} (hs : s1 = cpI s sq (jN sp) sd (jN dp) (jN n)) (hg : zG f sd = true) (hM : zP[k]? = some M) (hE : M.2.2.2.2.2[i]? = some (a, b, .invokestatic q, [2])) (ha : sq < sL s) (hb : sd < sL s) (hK : zK ≤ sd) (hq : sT s sq = (100, nq)) (hd : sT s sd = (100, nd)) (hc : ¬ sq = sd ∧ ¬ sp < 0 ∧ ¬ dp < 0 ∧ ¬ n < 0 ∧ jN sp + jN n ≤ nq ∧ jN dp + jN n ≤ nd) (g : Q f sio tt cc (d + 1) k (i + 1) ls [] s1 o) : Q f sio tt cc (d + 1) k i ls [.int n, .int dp, .ref sd, .int sp, .ref sq] s o := by
  subst hs
  refine Q.mapw (s1 := cpI s sq (jN sp) sd (jN dp) (jN n)) ⟨Nat.le_refl _, fun _ _ => rfl, fun b _ hb => ⟨fun j => if_neg (fun e => by rw [e.1, hg] at hb; cases hb), fun _ => rfl, fun _ => rfl⟩, fun _ => rfl⟩ (fun g => G.p (gP_of hM hE rfl rfl (by unfold xret; rfl) ?_) g) g
  show (match (hOf zTy s)[sq]?, (hOf zTy s)[sd]? with | some (cq, vq), some (cd, vd) => if ((([] : List Value).map fun v : Value => v.category).sum ≤ 8 ∧ zK ≤ sd ∧ sq ≠ sd ∧ cq = 100 ∧ cd = 100 ∧ ¬ sp < 0 ∧ ¬ dp < 0 ∧ ¬ n < 0 ∧ sp.toNatClampNeg + n.toNatClampNeg ≤ vq.length ∧ dp.toNatClampNeg + n.toNatClampNeg ≤ vd.length ∧ ((vq.drop sp.toNatClampNeg).take n.toNatClampNeg).all (xfit 0) = true) then some (([] : List Value), (hOf zTy s).set sd (cd, vd.take dp.toNatClampNeg ++ (vq.drop sp.toNatClampNeg).take n.toNatClampNeg ++ vd.drop (dp.toNatClampNeg + n.toNatClampNeg))) else none | _, _ => none) = _
  rw [hOf_get ha, hOf_get hb]
  show (if _ then some (([] : List Value), (hOf zTy s).set sd ((aCell zTy s sd).1, (aCell zTy s sd).2.take (jN dp) ++ ((aCell zTy s sq).2.drop (jN sp)).take (jN n) ++ (aCell zTy s sd).2.drop (jN dp + jN n))) else none) = _
  obtain ⟨c1, c2, c3, c4, c5, c6⟩ := hc
  have hl1 : ∀ a, (List.map (fun k => aSlot (aTy zTy (sT s a).fst k) s a k) (List.range (sT s a).snd)).length = (sT s a).2 := fun a => by simp
  have hfi : (((List.map (fun k => aSlot (aTy zTy (sT s sq).fst k) s sq k) (List.range (sT s sq).snd)).drop (jN sp)).take (jN n)).all (xfit 0) = true := by
    refine List.all_eq_true.mpr fun v hv => ?_
    have hv2 := List.mem_of_mem_drop (List.mem_of_mem_take hv)
    obtain ⟨j, hj, rfl⟩ := List.mem_map.mp hv2
    rw [hq]
    rfl
  rw [if_pos ⟨by decide, hK, c1, by show (sT s sq).1 = 100; rw [hq], by show (sT s sd).1 = 100; rw [hd], c2, c3, c4, by rw [hl1, hq]; exact c5, by rw [hl1, hd]; exact c6, hfi⟩, hOf_cp ha hb hq hd c5 c6]
/-- a new tree -/
def nTree (s : aS) : aS := wR (wR (nw (nw (wR (nw (nw s 3 3) 100 1408) (sL s) 0 (.ref (sL s + 1))) 1 2) 102 256) (sL s + 2) 0 (.ref (sL s + 3))) (sL s) 1 (.ref (sL s + 2))
set_option maxRecDepth 100000 in
theorem nTree_L (s : aS) : sL (nTree s) = sL s + 4 := rfl
set_option maxRecDepth 100000 in
theorem nTree_T (s : aS) (a : Nat) : sT (nTree s) a = if a = sL s + 3 then (102, 256) else if a = sL s + 2 then (1, 2) else if a = sL s + 1 then (100, 1408) else if a = sL s then (3, 3) else sT s a := rfl
set_option maxRecDepth 100000 in
theorem nTree_R (s : aS) (a k : Nat) : sR (nTree s) a k = if a = sL s ∧ k = 1 then .ref (sL s + 2) else if a = sL s + 2 ∧ k = 0 then .ref (sL s + 3) else if a = sL s + 3 then .null else if a = sL s + 2 then .null else if a = sL s ∧ k = 0 then .ref (sL s + 1) else if a = sL s + 1 then .null else if a = sL s then .null else sR s a k := rfl
set_option maxRecDepth 100000 in
theorem nTree_I (s : aS) (a k : Nat) : sI (nTree s) a k = if a = sL s + 3 then 0 else if a = sL s + 2 then 0 else if a = sL s + 1 then 0 else if a = sL s then 0 else sI s a k := rfl
set_option maxRecDepth 100000 in
theorem lay_tree {G : Nat → Bool} {tt : Nat} {cc : Nat → Nat → Int32} {s : aS} (hg : G (sL s) = true) (h : Ly tt cc s) : Ly tt cc (nTree s) ∧ ext G s (nTree s) ∧ aK (nTree s) (sL s) 3 := by
  obtain ⟨h1, h2, h3, h4, h5, h6, h7, h8, h9⟩ := h
  have hT : ∀ a, a < sL s → sT (nTree s) a = sT s a := fun a ha => by rw [nTree_T, if_neg (by omega), if_neg (by omega), if_neg (by omega), if_neg (by omega)]
  have hR : ∀ a k, a < sL s → sR (nTree s) a k = sR s a k := fun a k ha => by rw [nTree_R, if_neg (by omega), if_neg (by omega), if_neg (by omega), if_neg (by omega), if_neg (by omega), if_neg (by omega), if_neg (by omega)]
  have hI : ∀ a k, a < sL s → sI (nTree s) a k = sI s a k := fun a k ha => by rw [nTree_I, if_neg (by omega), if_neg (by omega), if_neg (by omega), if_neg (by omega)]
  have hJ : ∀ a k, a < sL s → sJ (nTree s) a k = sJ s a k := fun a k ha => by
    show (if a = sL s + 3 then 0 else if a = sL s + 2 then 0 else if a = sL s + 1 then 0 else if a = sL s then 0 else sJ s a k) = _
    rw [if_neg (by omega), if_neg (by omega), if_neg (by omega), if_neg (by omega)]
  have t0 : sT (nTree s) (sL s) = (3, 3) := by rw [nTree_T, if_neg (by omega), if_neg (by omega), if_neg (by omega), if_pos rfl]
  have t1 : sT (nTree s) (sL s + 1) = (100, 1408) := by rw [nTree_T, if_neg (by omega), if_neg (by omega), if_pos rfl]
  have t2 : sT (nTree s) (sL s + 2) = (1, 2) := by rw [nTree_T, if_neg (by omega), if_pos rfl]
  have t3 : sT (nTree s) (sL s + 3) = (102, 256) := by rw [nTree_T, if_pos rfl]
  have r0 : sR (nTree s) (sL s) 0 = .ref (sL s + 1) := by rw [nTree_R, if_neg (by omega), if_neg (by omega), if_neg (by omega), if_neg (by omega), if_pos ⟨rfl, rfl⟩]
  have r1 : sR (nTree s) (sL s) 1 = .ref (sL s + 2) := by rw [nTree_R, if_pos ⟨rfl, rfl⟩]
  have r2 : sR (nTree s) (sL s + 2) 0 = .ref (sL s + 3) := by rw [nTree_R, if_neg (by omega), if_pos ⟨rfl, rfl⟩]
  have hn : ∀ b c, aK (nTree s) b c → (b < sL s ∧ aK s b c) ∨ (b = sL s ∧ c = 3) ∨ (b = sL s + 1 ∧ c = 100) ∨ (b = sL s + 2 ∧ c = 1) ∨ (b = sL s + 3 ∧ c = 102) := by
    rintro b c ⟨hb1, hb2⟩
    have hb1 : b < sL s + 4 := hb1
    by_cases e : b < sL s
    · rw [hT b e] at hb2
      exact Or.inl ⟨e, e, hb2⟩
    · have hq : b = sL s ∨ b = sL s + 1 ∨ b = sL s + 2 ∨ b = sL s + 3 := by omega
      rcases hq with rfl | rfl | rfl | rfl
      · rw [t0] at hb2; exact Or.inr (Or.inl ⟨rfl, hb2.symm⟩)
      · rw [t1] at hb2; exact Or.inr (Or.inr (Or.inl ⟨rfl, hb2.symm⟩))
      · rw [t2] at hb2; exact Or.inr (Or.inr (Or.inr (Or.inl ⟨rfl, hb2.symm⟩)))
      · rw [t3] at hb2; exact Or.inr (Or.inr (Or.inr (Or.inr ⟨rfl, hb2.symm⟩)))
  have hL : sL (nTree s) = sL s + 4 := rfl
  refine ⟨⟨by omega, h2, fun j p hp => ?_, fun j q hq => ?_, fun b hb => ?_, fun b hb => ?_, fun b hb => ?_, fun a ha => ?_, fun a k ha => ?_⟩, ⟨by omega, hT, fun a ha _ => ⟨fun k => hI a k ha, fun k => hR a k ha, fun k => hJ a k ha⟩, fun e => by rw [hg] at e; cases e⟩, ⟨by omega, by rw [t0]⟩⟩
  · rw [hT _ (by have := lay_sm1 j p hp; omega)]; exact h3 j p hp
  · rw [hR _ _ (by have := lay_sm2 j q hq; omega)]; exact h4 j q hq
  · rcases hn b 1 hb with ⟨e, hb⟩ | ⟨rfl, hc⟩ | ⟨rfl, hc⟩ | ⟨rfl, -⟩ | ⟨rfl, hc⟩
    · obtain ⟨g1, g2, g3, g4, g5⟩ := h5 b hb
      exact ⟨by rw [hT b e]; exact g1, by rw [hR b _ e]; exact g2, by omega, by rw [hT _ g3]; exact g4, g5⟩
    · cases hc
    · cases hc
    · exact ⟨t2, r2, by omega, by rw [t3], by omega⟩
    · cases hc
  · rcases hn b 3 hb with ⟨e, hb⟩ | ⟨rfl, -⟩ | ⟨rfl, hc⟩ | ⟨rfl, hc⟩ | ⟨rfl, hc⟩
    · obtain ⟨g1, g2, g3, g4, g5, g6, g7, g8⟩ := h6 b hb
      exact ⟨by rw [hT b e]; exact g1, by rw [hR b _ e]; exact g2, by rw [hR b _ e]; exact g3, by omega, by rw [hT _ (by omega)]; exact g5, by rw [hT _ (by omega)]; exact g6, by rw [hT _ (by omega)]; exact g7, g8⟩
    · exact ⟨t0, r0, r1, by omega, t1, t2, t3, by omega⟩
    · cases hc
    · cases hc
    · cases hc
  · rcases hn b 70 hb with ⟨e, hb⟩ | ⟨rfl, hc⟩ | ⟨rfl, hc⟩ | ⟨rfl, hc⟩ | ⟨rfl, hc⟩
    · obtain ⟨g1, g2, g3, g4, g5⟩ := h7 b hb
      exact ⟨by rw [hT b e]; exact g1, by rw [hR b _ e]; exact g2, by omega, by rw [hT _ g3]; exact g4, g5⟩
    · cases hc
    · cases hc
    · cases hc
    · cases hc
  · rw [hT a (by omega)]; exact h8 a ha
  · rw [hI a k (by omega)]; exact h9 a k ha
set_option maxRecDepth 100000 in
theorem zmL : zP[17]? = some zM17 := rfl
set_option maxRecDepth 100000 in
theorem zmT : zP[19]? = some zM19 := rfl
set_option maxRecDepth 100000 in
theorem q_let {sio : Bool} {d b : Nat} {s : aS} (hb : b < sL s) (hK : zK ≤ b) (hT : sT s b = (1, 2)) : A zP (zCs (sv sio)) zK zTy (d + 1) 17 0 [some (.ref b), some (.int 256)] [] s (.inl none, wR (nw s 102 256) b 0 (.ref (sL s))) := by
  refine A.run zmL 1 (i' := 1) (ls' := [some (.ref b), some (.int 256)]) (st' := [.ref b]) rfl ?_
  refine A.oi zmL (eq_true (by decide)) (show zM17.2.2.2.2.2[1]? = some (1, 3, .invokespecial 3, [1]) from rfl) ?_
  refine A.run zmL 2 (i' := 4) (ls' := [some (.ref b), some (.int 256)]) (st' := [.int 256, .ref b]) rfl ?_
  refine A.zT (gI_of zmL (e := (6, 3, .ifCond .ge 7, [7])) rfl) (by decide) ?_
  refine A.run zmL 1 (i' := 8) (ls' := [some (.ref b), some (.int 256)]) (st' := [.int 256, .ref b]) rfl ?_
  refine A.na (gI_of zmL (e := (14, 2, .newarray .char, [])) rfl) (by decide) (by decide) (Or.inr rfl) ?_
  refine A.pr (n := 2) (gI_of zmL (e := (16, 3, .putfield 9, [1, 0, 2])) rfl) (show b < sL s + 1 by omega) hK ?_ (by decide) rfl rfl ?_
  · show (if b = sL s then _ else sT s b) = _
    rw [if_neg (by omega)]
    exact hT
  · exact A.rv zmL (show zM17.2.2.2.2.2[10]? = some (19, 1, .return_, []) from rfl) rfl
set_option maxRecDepth 100000 in
theorem q_tree {sio : Bool} {d : Nat} {s : aS} (hK : zK ≤ sL s) : A zP (zCs (sv sio)) zK zTy (d + 2) 19 0 [some (.ref (sL s))] [] (nw s 3 3) (.inl none, nTree s) := by
  refine A.run zmT 1 (i' := 1) (ls' := [some (.ref (sL s))]) (st' := [.ref (sL s)]) rfl ?_
  refine A.oi zmT (eq_true (by decide)) (show zM19.2.2.2.2.2[1]? = some (1, 3, .invokespecial 3, [1]) from rfl) ?_
  refine A.run zmT 2 (i' := 4) (ls' := [some (.ref (sL s))]) (st' := [.int 1408, .ref (sL s)]) rfl ?_
  refine A.na (gI_of zmT (e := (8, 2, .newarray .int, [])) rfl) (by decide) (by decide) (Or.inl rfl) ?_
  refine A.pr (n := 3) (gI_of zmT (e := (10, 3, .putfield 9, [3, 0, 2])) rfl) (show sL s < sL s + 2 by omega) hK ?_ (by decide) rfl rfl ?_
  · show (if sL s = sL s + 1 then _ else if sL s = sL s then _ else _) = _
    rw [if_neg (by omega), if_pos rfl]
  refine A.run zmT 1 (i' := 7) (ls' := [some (.ref (sL s))]) (st' := [.ref (sL s)]) rfl ?_
  refine A.nwd (gI_of zmT (e := (14, 3, .new 15, [1, 2, 0])) rfl) (by decide) rfl ?_
  refine A.run zmT 2 (i' := 10) (ls' := [some (.ref (sL s))]) (st' := [.int 256, .ref (sL s + 2), .ref (sL s + 2), .ref (sL s)]) rfl ?_
  refine A.c (gC_sp zmT (show zM19.2.2.2.2.2[10]? = some (21, 3, .invokespecial 17, [0, 17, 1]) from rfl) zmL rfl (show aCr 1 (sL s + 2) [.int 256, .ref (sL s + 2), .ref (sL s + 2), .ref (sL s)] 2 = some ([some (.ref (sL s + 2)), some (.int 256)], [.ref (sL s + 2), .ref (sL s)]) from rfl)) (q_let (show sL s + 2 < sL s + 3 by omega) (by omega) ?_) ?_
  · show (if sL s + 2 = sL s + 2 then _ else _) = _
    rw [if_pos rfl]
    rfl
  refine A.pr (n := 3) (gI_of zmT (e := (24, 3, .putfield 20, [3, 1, 2])) rfl) (show sL s < sL s + 4 by omega) hK ?_ (by decide) rfl rfl ?_
  · show (if sL s = sL s + 3 then _ else if sL s = sL s + 2 then _ else if sL s = sL s + 1 then _ else if sL s = sL s then _ else _) = _
    rw [if_neg (by omega), if_neg (by omega), if_neg (by omega), if_pos rfl]
  · exact A.rv zmT (show zM19.2.2.2.2.2[12]? = some (27, 1, .return_, []) from rfl) rfl
set_option maxRecDepth 100000 in
theorem Q.tree {f : Nat} {sio : Bool} {tt : Nat} {cc : Nat → Nat → Int32} {d k i b q q2 : Nat} {ls : xL} {st : List Value} {s s1 : aS} {o : xZ × aS} {M : xQ6} {a1 a2 : Nat} {rs : List Nat} (hs : s1 = nTree s) (hg : zG f (sL s) = true) (hb : b = sL s) (hM : zP[k]? = some M) (h1 : gI zP k i = some (.new q, [3, 2, 2, 0])) (h2 : gI zP k (i + 1) = some (.dup, rs)) (h3 : M.2.2.2.2.2[i + 2]? = some (a1, a2, .invokespecial q2, [0, 19, 0])) (hw : ((((Value.ref (sL s)) :: st).map fun v : Value => v.category).sum ≤ 8) = True) (hd : 2 ≤ d) (hl : Ly tt cc s) (g : Q f sio tt cc (d + 1) k (i + 3) ls (.ref b :: st) s1 o) : Q f sio tt cc (d + 1) k i ls st s o := by
  subst hs; subst hb
  obtain ⟨d, rfl⟩ : ∃ e, d = e + 2 := ⟨d - 2, by omega⟩
  obtain ⟨-, h5, -⟩ := lay_tree hg hl
  refine Q.mapw h5 (fun g => ?_) g
  refine A.nwd h1 (by decide) rfl ?_
  refine A.ss h2 (show pS _ .dup _ _ _ _ = some (i + 1 + 1, ls, .ref (sL s) :: .ref (sL s) :: st) from rfl) ?_
  refine A.c (gC_sp (x := sL s) (n := 0) (ls1 := [some (.ref (sL s))]) (r := .ref (sL s) :: st) hM h3 zmT rfl ?_) (q_tree (Nat.le_trans hl.2.1 hl.1)) g
  unfold aCr
  rw [if_pos ⟨of_eq_true hw, rfl⟩]
  rfl
