/-! the reader of FormulaTrees, exactly: nodes kept, numbers, texts, errors -/
/-- what a token at an operand may write -/
def aO (b a k : Nat) : Prop := (a = b ∧ k = 2) ∨ a = b + 1 ∨ (a = b + 2 ∧ k = 1) ∨ a = b + 3 ∨ (a = 106 ∧ 7 ≤ k) ∨ a = 107 ∨ a = 108 ∨ a = 109
set_option maxRecDepth 100000 in
theorem aOC {b a k : Nat} (h : aO b a k) : AC b a k := by unfold aO at h; unfold AC; omega
def Wr (b : Nat) (s : aS) (D : Option aS) : Prop := ∃ s', D = some s' ∧ sI s' 106 8 ≠ -1 ∧ ch (aO b) s s'
def Nw (b : Nat) (s : aS) (z : Nat) (M : List NN) (n : NN) (w : Int32) (D : Option aS) : Prop := ∃ s', D = some s' ∧ TR s' b z (M ++ [n]) ∧ sI s' 106 7 = Int32.ofNat z ∧ sI s' 106 8 = -1 ∧ sI s' 106 9 = w ∧ sI s' 106 10 = Int32.ofNat M.length ∧ ch (aO b) s s'
section XX
variable {s s1 : aS} {b z i : Nat} {t : List Int32} {ns : List (List Int32)} {M : List NN}
set_option maxRecDepth 100000 in
theorem nm1 {n : Nat} (h : n < 100000) : Int32.ofNat n ≠ -1 := fun q => by
  rw [iEq, iOfNat (by omega)] at q
  have : (-1 : Int32).toInt = -1 := rfl
  omega
set_option maxRecDepth 100000 in
theorem x70 (h : KS s b t ns) (hT : TR s b z M) (x : Int32) : (M.length < 128 ∧ dm70 x s = some (1, s)) ∨ (M.length = 128 ∧ dm70 x s = some (0, wI s 106 8 x)) := by
  have hle := hT.2.1
  unfold dm70 dm71 dm70_7
  rw [(xtr h).1, if_pos (xtr (x := (none : Option Nat)) (f := fun _ => none) h).2, hT.1]
  by_cases c : M.length < 128
  · left
    rw [if_pos (show Int32.ofNat M.length < 128 from (nlt_iff (b := 128) (by omega) (by omega)).mpr c)]
    simp only [bu_some]
    rw [if_pos trivial, if_neg (by decide), if_pos (Or.inr trivial)]
    exact ⟨c, rfl⟩
  · right
    rw [if_neg (show ¬ Int32.ofNat M.length < 128 from fun q => c ((nlt_iff (b := 128) (by omega) (by omega)).mp q))]
    simp only [bu_some]
    rw [if_neg (by decide), if_pos trivial, nx_eq, if_pos (Or.inl trivial)]
    exact ⟨by omega, rfl⟩
set_option maxRecDepth 100000 in
theorem xk (h : KS s b t ns) : aK s b 3 := h.2.1.2.1
set_option maxRecDepth 100000 in
theorem xb (h : KS s b t ns) : b = 102 ∨ 149 ≤ b := h.2.1.2.2.1
set_option maxRecDepth 100000 in
/-- no room -/
theorem x106f (h : KS s b t ns) (hT : TR s b z M) (h8 : M.length = 128) (kd x : Int32) (hx : x ≠ -1) : Wr b s (dm106 kd x s) := by
  rcases x70 h hT x with ⟨c, -⟩ | ⟨-, e⟩
  · omega
  · unfold dm106
    rw [e]
    simp only [bv_some]
    rw [if_pos trivial]
    exact ⟨_, rfl, by rw [sI_wI, if_pos ⟨rfl, rfl⟩]; exact hx, (ch.refl _ s).wI (by unfold aO; omega)⟩
set_option maxRecDepth 100000 in
theorem x111f (h : KS s b t ns) (hT : TR s b z M) (h8 : M.length = 128) (kd v x : Int32) (hx : x ≠ -1) : Wr b s (dm111 kd v x s) := by
  rcases x70 h hT x with ⟨c, -⟩ | ⟨-, e⟩
  · omega
  · unfold dm111
    rw [e]
    simp only [bv_some]
    rw [if_pos trivial]
    exact ⟨_, rfl, by rw [sI_wI, if_pos ⟨rfl, rfl⟩]; exact hx, (ch.refl _ s).wI (by unfold aO; omega)⟩
set_option maxRecDepth 100000 in
/-- a new node with the letters that are held -/
theorem x106 {hd : List Int32} {q : Nat} (h : KS s b t ns) (hT : TR s b z M) (h8 : M.length < 128) (hh : HH s hd) (hz : z + hd.length ≤ i) (hi : i ≤ 256) (h7 : sI s 106 7 = Int32.ofNat i) (hw : sI s 106 8 = -1) (kd x : Int32) : Nw b s i M (q, plF kd 0, hd) 4 (dm106 kd x s) := by
  have hb := xb h
  rcases x70 h hT x with ⟨-, e⟩ | ⟨c, -⟩
  · have hT0 : TR s b z (M ++ []) := by rw [List.append_nil]; exact hT
    obtain ⟨s2, a1, a2, a3⟩ := x72 (q := q) (kd := kd) (c := 0) hT0 (by rw [List.append_nil]; exact h8)
    have K2 := h.of (b := b) (a3.mono fun a k z => by unfold AC; omega)
    have hh2 : HH s2 hd := ⟨hh.1.of a3 (by omega) (fun k => by omega), hh.2⟩
    obtain ⟨s3, c1, c2, c3⟩ := x107 (C := M) (n := (q, plF kd 0, [])) a2 hb (K2.2.1.2.2.2.1) K2.2.1.2.2.2.2 hh2 (by omega)
    unfold dm106
    rw [e]
    simp only [bv_some]
    rw [if_neg (by decide), (xtr h).1, if_pos (xk h)]
    unfold dm94
    simp only [bu_some]
    rw [(xtr h).1, if_pos (xk h), hT.1, a1]
    simp only [bu_some]
    rw [(xtr K2).1, if_pos (xk K2), c1]
    simp only [bu_some]
    unfold dm81
    simp only [bu_some, nx_eq]
    have g : ch (aO b) s s3 := (a3.mono fun a k z => by unfold aO; omega).trans (c3.mono fun a k z => by unfold aO; omega)
    have g2 : ch (fun a k => a = 106 ∧ (k = 9 ∨ k = 10)) s3 (wI (wI s3 106 10 (Int32.ofNat M.length)) 106 9 4) := ((ch.refl _ s3).wI (by omega)).wI (by omega)
    refine ⟨_, rfl, (c2.up hz).of g2 (by omega) (fun k => by omega) (by omega) (fun k => by omega), ?_, ?_, by rw [sI_wI, if_pos ⟨rfl, rfl⟩], by rw [sI_wI, if_neg (by omega), sI_wI, if_pos ⟨rfl, rfl⟩], g.trans (g2.mono fun a k z => by unfold aO; omega)⟩
    · rw [g2.i (by omega), c3.i (by omega), a3.i (by omega)]
      exact h7
    · rw [g2.i (by omega), c3.i (by omega), a3.i (by omega)]
      exact hw
  · omega
set_option maxRecDepth 100000 in
/-- a new node with a value -/
theorem x111 {q : Nat} (h : KS s b t ns) (hT : TR s b z M) (h8 : M.length < 128) (hz : z ≤ i) (h7 : sI s 106 7 = Int32.ofNat i) (hw : sI s 106 8 = -1) (kd v x : Int32) : Nw b s i M (q, setN (plF kd 0) 8 v, []) 4 (dm111 kd v x s) := by
  have hb := xb h
  rcases x70 h hT x with ⟨-, e⟩ | ⟨c, -⟩
  · have hT0 : TR s b z (M ++ []) := by rw [List.append_nil]; exact hT
    obtain ⟨s2, a1, a2, a3⟩ := x72 (q := q) (kd := kd) (c := 0) hT0 (by rw [List.append_nil]; exact h8)
    have K2 := h.of (b := b) (a3.mono fun a k z => by unfold AC; omega)
    have c1 : dm60 b (Int32.ofNat M.length) 8 v s2 = some (wI s2 (b + 1) (11 * M.length + 8) v) := x60 (w := 8) a2 (by omega)
    have c2 := a2.set (w := 8) (v := v) (by omega)
    have c3 : ch (fun a _ => a = b + 1) s2 (wI s2 (b + 1) (11 * M.length + 8) v) := (ch.refl _ s2).wI rfl
    unfold dm111
    rw [e]
    simp only [bv_some]
    rw [if_neg (by decide), (xtr h).1, if_pos (xk h)]
    unfold dm94
    simp only [bu_some]
    rw [(xtr h).1, if_pos (xk h), hT.1, a1]
    simp only [bu_some]
    rw [(xtr K2).1, if_pos (xk K2), c1]
    simp only [bu_some]
    unfold dm81
    simp only [bu_some, nx_eq]
    have g : ch (aO b) s (wI s2 (b + 1) (11 * M.length + 8) v) := (a3.mono fun a k z => by unfold aO; omega).trans (c3.mono fun a k z => by unfold aO; omega)
    have g2 : ch (fun a k => a = 106 ∧ (k = 9 ∨ k = 10)) (wI s2 (b + 1) (11 * M.length + 8) v) (wI (wI (wI s2 (b + 1) (11 * M.length + 8) v) 106 10 (Int32.ofNat M.length)) 106 9 4) := ((ch.refl _ _).wI (by omega)).wI (by omega)
    refine ⟨_, rfl, (c2.up hz).of g2 (by omega) (fun k => by omega) (by omega) (fun k => by omega), ?_, ?_, by rw [sI_wI, if_pos ⟨rfl, rfl⟩], by rw [sI_wI, if_neg (by omega), sI_wI, if_pos ⟨rfl, rfl⟩], g.trans (g2.mono fun a k z => by unfold aO; omega)⟩
    · rw [g2.i (by omega), c3.i (by omega), a3.i (by omega)]
      exact h7
    · rw [g2.i (by omega), c3.i (by omega), a3.i (by omega)]
      exact hw
  · omega
set_option maxRecDepth 100000 in
/-- a token runs on from another state -/
theorem Wr.bk {D : Option aS} (h : Wr b s1 D) (g : ch (aO b) s s1) : Wr b s D := by
  obtain ⟨s2, e1, e2, e3⟩ := h
  exact ⟨s2, e1, e2, g.trans e3⟩
set_option maxRecDepth 100000 in
theorem Nw.bk {D : Option aS} {n : NN} {w : Int32} (h : Nw b s1 z M n w D) (g : ch (aO b) s s1) : Nw b s z M n w D := by
  obtain ⟨s2, e1, e2, e3, e4, e5, e6, e7⟩ := h
  exact ⟨s2, e1, e2, e3, e4, e5, e6, g.trans e7⟩
set_option maxRecDepth 100000 in
theorem Wr.set (h7 : sI s 106 7 = Int32.ofNat i) (hi : i < 100000) : Wr b s (some (wI s 106 8 (sI s 106 7))) := ⟨_, rfl, by rw [sI_wI, if_pos ⟨rfl, rfl⟩, h7]; exact nm1 hi, (ch.refl _ s).wI (by unfold aO; omega)⟩
/-- how a token ends: wrong, or with a node -/
def Tk (b : Nat) (s : aS) (M : List NN) (X : Prop) (z : Nat) (n : NN) (D : Option aS) : Prop := ((¬ X ∨ M.length = 128) ∧ Wr b s D) ∨ (X ∧ M.length < 128 ∧ Nw b s z M n 4 D)
set_option maxRecDepth 100000 in
theorem kp {hd : List Int32} {q : Nat} (h : KS s b t ns) (hT : TR s b z M) (hh : HH s hd) (hz : z + hd.length ≤ i) (hi : i ≤ 256) (h7 : sI s 106 7 = Int32.ofNat i) (hw : sI s 106 8 = -1) (kd : Int32) {f : Nat} (hf : f < 100000) {X : Prop} (hX : X) : Tk b s M X i (q, plF kd 0, hd) (dm106 kd (Int32.ofNat f) s) := by
  have := hT.2.1
  by_cases c : M.length = 128
  · exact Or.inl ⟨Or.inr c, x106f h hT c kd _ (nm1 hf)⟩
  · exact Or.inr ⟨hX, by omega, x106 h hT (by omega) hh hz hi h7 hw kd _⟩
set_option maxRecDepth 100000 in
theorem kv {q : Nat} (h : KS s b t ns) (hT : TR s b z M) (hz : z ≤ i) (h7 : sI s 106 7 = Int32.ofNat i) (hw : sI s 106 8 = -1) (kd v : Int32) {f : Nat} (hf : f < 100000) {X : Prop} (hX : X) : Tk b s M X i (q, setN (plF kd 0) 8 v, []) (dm111 kd v (Int32.ofNat f) s) := by
  have := hT.2.1
  by_cases c : M.length = 128
  · exact Or.inl ⟨Or.inr c, x111f h hT c kd v _ (nm1 hf)⟩
  · exact Or.inr ⟨hX, by omega, x111 h hT (by omega) hz h7 hw kd v _⟩
set_option maxRecDepth 100000 in
theorem Tk.bk {X : Prop} {n : NN} {D : Option aS} (h : Tk b s1 M X z n D) (g : ch (aO b) s s1) : Tk b s M X z n D := by
  rcases h with ⟨h1, h2⟩ | ⟨h1, h2, h3⟩
  · exact Or.inl ⟨h1, h2.bk g⟩
  · exact Or.inr ⟨h1, h2, h3.bk g⟩
set_option maxRecDepth 100000 in
theorem Tk.bx {X : Prop} {n : NN} {D : Option aS} (h : Tk b s M X z n D) : Tk b s M X z n (bu D fun s4 => some s4) := by
  rcases h with ⟨h1, s2, e1, e2⟩ | ⟨h1, h2, s2, e1, e2⟩
  · rw [e1]
    exact Or.inl ⟨h1, s2, rfl, e2⟩
  · rw [e1]
    exact Or.inr ⟨h1, h2, s2, rfl, e2⟩
set_option maxRecDepth 100000 in
theorem a7O {a k : Nat} (h : a7 a k) : aO b a k := by unfold a7 at h; unfold aO; omega
set_option maxRecDepth 100000 in
theorem aHO {a k : Nat} (h : aH a k) : aO b a k := by unfold aH at h; unfold aO; omega
set_option maxRecDepth 100000 in
theorem aQO {a k : Nat} (h : aQ a k) : aO b a k := by unfold aQ at h; unfold aO; omega
set_option maxRecDepth 100000 in
theorem trO {A : Nat → Nat → Prop} (hT : TR s b z M) (hb : b = 102 ∨ 149 ≤ b) (g : ch A s s1) (hA : ∀ a k, A a k → 106 ≤ a ∧ a ≤ 109) : TR s1 b z M := hT.of g (fun q => by have := hA _ _ q; omega) (fun k q => by have := hA _ _ q; omega) (fun q => by have := hA _ _ q; omega) (fun k q => by have := hA _ _ q; omega)
set_option maxRecDepth 100000 in
/-- a text -/
theorem x104 {q : Nat} (h : KS s b t ns) (hT : TR s b i M) (hi : i < t.length) (h7 : sI s 106 7 = Int32.ofNat i) (hw : sI s 106 8 = -1) : (∃ u e, qtA t 34 i = some (u, e) ∧ e ≤ t.length ∧ Tk b s M True e (q, plF 1 0, u) (dm104 s)) ∨ (qtA t 34 i = none ∧ Wr b s (dm104 s)) := by
  have hl := h.1.2.1
  have hb := xb h
  unfold dm104
  rcases x105 (q := 34) (by decide) (by decide) h h7 hi with ⟨e1, s2, e, e2, e4, e5, e3⟩ | ⟨u, e, s2, e1, e2, e3, e4, e5, e6, e7⟩
  · right
    refine ⟨e1, ?_⟩
    rw [e2]
    simp only [bv_some]
    rw [if_pos trivial, nx_eq]
    exact (Wr.set e4 (by omega)).bk (e3.mono fun a k z => aQO z)
  · left
    refine ⟨u, e, e1, e5, ?_⟩
    rw [e2]
    simp only [bv_some]
    rw [if_neg (by decide), h7]
    have K2 := h.of (b := b) (e7.mono fun a k z => aQC z)
    exact ((kp K2 (trO hT hb e7 (fun a k z => by unfold aQ at z; omega)) e3 (by omega) (by omega) e4 ((e7.i (by unfold aQ; omega)).trans hw) 1 (by omega) trivial).bk (e7.mono fun a k z => aQO z)).bx
set_option maxRecDepth 100000 in
theorem ndM_1 {t : List Int32} {i m : Nat} (hl : t.length ≤ m) : ndM t i m = nd1 t i := by
  have := nd1_b t i
  unfold ndM
  rw [if_pos (by omega)]
set_option maxRecDepth 100000 in
theorem ndM_le {t : List Int32} {i m : Nat} : ndM t i m ≤ nd1 t i ∧ ndM t i m ≤ m := by
  unfold ndM
  split <;> omega
set_option maxRecDepth 100000 in
/-- a number -/
theorem x120 {q : Nat} (h : KS s b t ns) (hT : TR s b i M) (hi : i < t.length) (h7 : sI s 106 7 = Int32.ofNat i) (hw : sI s 106 8 = -1) (hc : isD (t.getD i 0) ∨ t.getD i 0 = 46) : Tk b s M (¬ (lexN t i).1 = 0) (lexN t i).2 (q, plF 0 0, (sl t i (lexN t i).2).map gr) (dm120 s) := by
  have hl := h.1.2.1
  have hb := xb h
  have hE := nmE_b (t := t) (i := i) (by omega)
  have hnb := nm_b hi hc
  have key : ∀ s2 e, KS s2 b t ns → TR s2 b i M → sI s2 106 7 = Int32.ofNat e → sI s2 106 8 = -1 → i ≤ e → e ≤ t.length → ch (aO b) s s2 → ∀ X : Prop, X → Tk b s M X e (q, plF 0 0, (sl t i e).map gr) (dm120_78 (Int32.ofNat i) 1 s2) := by
    intro s2 e K2 T2 f7 fw he1 he2 g X hX
    obtain ⟨s3, a1, a2, a3⟩ := x122 K2 he1 he2
    unfold dm120_78
    rw [if_neg (by decide), f7, a1]
    simp only [bu_some]
    have K3 := K2.of (b := b) (a3.mono fun a k z => aHC z)
    have hlen : ((sl t i e).map gr).length = e - i := by
      unfold sl
      rw [List.length_map, List.length_take, List.length_drop]
      omega
    exact ((kp K3 (trO T2 hb a3 (fun a k z => by unfold aH at z; omega)) a2 (by omega) (by omega) ((a3.i (by unfold aH; omega)).trans f7) ((a3.i (by unfold aH; omega)).trans fw) 0 (by omega) hX).bk (g.trans (a3.mono fun a k z => aHO z))).bx
  have bad : ∀ s2 e, sI s2 106 7 = Int32.ofNat e → e ≤ t.length → ch (aO b) s s2 → Wr b s (dm120_78 (Int32.ofNat i) 0 s2) := by
    intro s2 e f7 he g
    unfold dm120_78
    rw [if_pos rfl, nx_eq]
    exact (Wr.set f7 (by omega)).bk g
  -- behind the digits, at e, with c digits
  have tail : ∀ s2 c, KS s2 b t ns → TR s2 b i M → sI s2 106 7 = Int32.ofNat (nmE t i) → sI s2 106 8 = -1 → ch (aO b) s s2 → c ≤ 1000 → nmC t i = c → Tk b s M (¬ (lexN t i).1 = 0) (lexN t i).2 (q, plF 0 0, (sl t i (lexN t i).2).map gr) (dm120_26 (Int32.ofNat i) (Int32.ofNat c) s2) := by
    intro s2 c K2 T2 f7 fw g hc9 hC
    unfold dm120_26
    unfold lexN
    rw [hC]
    by_cases c0 : c = 0
    · subst c0
      rw [if_pos rfl, if_pos (show Int32.ofNat 0 ≤ 0 by decide)]
      unfold dm120_31
      rw [if_pos rfl]
      exact Or.inl ⟨Or.inl (fun z => z rfl), bad s2 _ f7 hE.2 g⟩
    · rw [if_neg c0, if_neg (show ¬ Int32.ofNat c ≤ 0 from fun z => by have := (nle_iff (b := 0) (by omega) (by omega)).mp z; omega)]
      unfold dm120_31
      rw [if_neg (show ¬ (1 : Int32) = 0 by decide), f7, x34 K2 (by omega)]
      simp only [bu_some, d35]
      by_cases cE : gr (t.getD (nmE t i) (-1)) = 69
      · have cE0 : gr (t.getD (nmE t i) 0) = 69 := (gd_p (p := fun x => gr x = 69) (by decide) (by decide)).mp cE
        have hEl : nmE t i < t.length := in_of (p := fun x => gr x = 69) (d := -1) (by decide) cE
        rw [if_pos cE, if_pos cE0, ofNat_succ (by omega), nx_eq]
        have g3 : ch a7 s2 (wI s2 106 7 (Int32.ofNat (nmE t i + 1))) := (ch.refl _ s2).wI ⟨rfl, rfl⟩
        have K3 := K2.of (b := b) (g3.mono fun a k z => a7C z)
        have T3 := trO T2 hb g3 (fun a k z => by unfold a7 at z; omega)
        have f73 : sI (wI s2 106 7 (Int32.ofNat (nmE t i + 1))) 106 7 = Int32.ofNat (nmE t i + 1) := by rw [sI_wI, if_pos ⟨rfl, rfl⟩]
        have fw3 : sI (wI s2 106 7 (Int32.ofNat (nmE t i + 1))) 106 8 = -1 := (g3.i (by unfold a7; omega)).trans fw
        rw [f73, x34 K3 (by omega)]
        simp only [bu_some]
        have f68 : ∀ y, y ≤ 1 → nmS t (nmE t i) = nmE t i + 1 + y → nmE t i + 1 + y ≤ t.length → Tk b s M (¬ nd3 t (nmS t (nmE t i)) 0 = 0) (nmS t (nmE t i) + nd3 t (nmS t (nmE t i)) 0) (q, plF 0 0, (sl t i (nmS t (nmE t i) + nd3 t (nmS t (nmE t i)) 0)).map gr) (dm120_68 (Int32.ofNat i) (Int32.ofNat (nmE t i + 1)) (Int32.ofNat y) (wI s2 106 7 (Int32.ofNat (nmE t i + 1)))) := by
          intro y hy hS hSl
          unfold dm120_68
          rw [iSum (by omega) (by omega), ← hS, nx_eq]
          have g4 : ch a7 (wI s2 106 7 (Int32.ofNat (nmE t i + 1))) (wI (wI s2 106 7 (Int32.ofNat (nmE t i + 1))) 106 7 (Int32.ofNat (nmS t (nmE t i)))) := (ch.refl _ _).wI ⟨rfl, rfl⟩
          have K4 := K3.of (b := b) (g4.mono fun a k z => a7C z)
          obtain ⟨s5, a1, a2, a3⟩ := x121 (i := nmS t (nmE t i)) (mx := 3) K4 (by omega) (by omega) (by rw [sI_wI, if_pos ⟨rfl, rfl⟩])
          have a1 : dm121 3 (wI (wI s2 106 7 (Int32.ofNat (nmE t i + 1))) 106 7 (Int32.ofNat (nmS t (nmE t i)))) = some (Int32.ofNat (ndM t (nmS t (nmE t i)) 3), s5) := a1
          rw [a1]
          simp only [bv_some]
          have en : nd3 t (nmS t (nmE t i)) 0 = ndM t (nmS t (nmE t i)) 3 := rfl
          rw [en]
          have hnd := ndM_le (t := t) (i := nmS t (nmE t i)) (m := 3)
          have hnb2 := nd1_b t (nmS t (nmE t i))
          have gs : ch (aO b) s s5 := (g.trans (g3.mono fun a k z => a7O z)).trans ((g4.trans a3).mono fun a k z => a7O z)
          have K5 := K4.of (b := b) (a3.mono fun a k z => a7C z)
          have T5 := trO (trO T3 hb g4 (fun a k z => by unfold a7 at z; omega)) hb a3 (fun a k z => by unfold a7 at z; omega)
          unfold dm120_77
          by_cases c3 : ndM t (nmS t (nmE t i)) 3 = 0
          · rw [c3, if_pos (by decide)]
            rw [c3] at a2
            exact Or.inl ⟨Or.inl (fun z => z rfl), bad s5 _ a2 (by omega) gs⟩
          · rw [if_neg (fun z => by have := (nle_iff (b := 0) (by omega) (by omega)).mp z; omega)]
            exact key s5 _ K5 T5 a2 (((a3.i (by unfold a7; omega)).trans (g4.i (by unfold a7; omega))).trans fw3) (by omega) (by omega) gs _ c3
        by_cases s1 : t.getD (nmE t i + 1) (-1) = 43
        · rw [if_pos s1]
          have hin : nmE t i + 1 < t.length := in_of (p := fun x => x = 43) (d := -1) (by decide) s1
          unfold dm120_65
          refine f68 1 (by omega) ?_ (by omega)
          unfold nmS
          rw [if_neg (fun z => b01_ne.mp z (show sgP (t.getD (nmE t i + 1) 0) from Or.inl ((gd_eq (by decide) (by decide)).mp s1)))]
        · rw [if_neg s1]
          by_cases s2 : t.getD (nmE t i + 1) (-1) = 45
          · rw [if_pos s2]
            have hin : nmE t i + 1 < t.length := in_of (p := fun x => x = 45) (d := -1) (by decide) s2
            unfold dm120_65
            refine f68 1 (by omega) ?_ (by omega)
            unfold nmS
            rw [if_neg (fun z => b01_ne.mp z (show sgP (t.getD (nmE t i + 1) 0) from Or.inr ((gd_eq (by decide) (by decide)).mp s2)))]
          · rw [if_neg s2]
            refine f68 0 (by omega) ?_ (by omega)
            unfold nmS
            rw [if_pos (b01_ne.mpr (show ¬ sgP (t.getD (nmE t i + 1) 0) from fun z => z.elim (fun z => s1 ((gd_eq (by decide) (by decide)).mpr z)) (fun z => s2 ((gd_eq (by decide) (by decide)).mpr z))))]
      · have cE0 : ¬ gr (t.getD (nmE t i) 0) = 69 := fun z => cE ((gd_p (p := fun x => gr x = 69) (by decide) (by decide)).mpr z)
        rw [if_neg cE, if_neg cE0]
        exact key s2 _ K2 T2 f7 fw hE.1 hE.2 g _ (fun z => absurd (show (1 : Nat) = 0 from z) (by decide))
  obtain ⟨s2, a1, a2, a3⟩ := x121 (mx := 256) h (by omega) (by omega) h7
  have a1 : dm121 256 s = some (Int32.ofNat (ndM t i 256), s2) := a1
  rw [ndM_1 hl] at a1 a2
  have hn1 := nd1_b t i
  have K2 := h.of (b := b) (a3.mono fun a k z => a7C z)
  have T2 := trO hT hb a3 (fun a k z => by unfold a7 at z; omega)
  have fw2 : sI s2 106 8 = -1 := (a3.i (by unfold a7; omega)).trans hw
  unfold dm120
  rw [a1]
  simp only [bv_some]
  rw [a2, x34 K2 (by omega), h7]
  simp only [bu_some]
  by_cases cd : t.getD (i + nd1 t i) (-1) = 46
  · have cd0 : t.getD (i + nd1 t i) 0 = 46 := (gd_eq (by decide) (by decide)).mp cd
    have hin : i + nd1 t i < t.length := in_of (p := fun x => x = 46) (d := -1) (by decide) cd
    rw [if_pos cd, ofNat_succ (by omega), nx_eq]
    have g3 : ch a7 s2 (wI s2 106 7 (Int32.ofNat (i + nd1 t i + 1))) := (ch.refl _ s2).wI ⟨rfl, rfl⟩
    have K3 := K2.of (b := b) (g3.mono fun a k z => a7C z)
    obtain ⟨s4, b1, b2, b3⟩ := x121 (i := i + nd1 t i + 1) (mx := 256) K3 (by omega) (by omega) (by rw [sI_wI, if_pos ⟨rfl, rfl⟩])
    have b1 : dm121 256 (wI s2 106 7 (Int32.ofNat (i + nd1 t i + 1))) = some (Int32.ofNat (ndM t (i + nd1 t i + 1) 256), s4) := b1
    rw [ndM_1 hl] at b1 b2
    have hn2 := nd1_b t (i + nd1 t i + 1)
    rw [b1]
    simp only [bv_some]
    rw [iSum (by omega) (by omega)]
    refine tail s4 _ (K3.of (b := b) (b3.mono fun a k z => a7C z)) (trO (trO T2 hb g3 (fun a k z => by unfold a7 at z; omega)) hb b3 (fun a k z => by unfold a7 at z; omega)) ?_ (((b3.i (by unfold a7; omega)).trans (g3.i (by unfold a7; omega))).trans fw2) (((a3.trans g3).trans b3).mono fun a k z => a7O z) (by omega) ?_
    · unfold nmE
      rw [if_pos cd0]
      exact b2
    · unfold nmC
      rw [if_pos cd0]
  · have cd0 : ¬ t.getD (i + nd1 t i) 0 = 46 := fun z => cd ((gd_eq (by decide) (by decide)).mpr z)
    rw [if_neg cd]
    refine tail s2 _ K2 T2 ?_ fw2 (a3.mono fun a k z => a7O z) (by omega) ?_
    · unfold nmE
      rw [if_neg cd0]
      exact a2
    · unfold nmC
      rw [if_neg cd0]
end XX
