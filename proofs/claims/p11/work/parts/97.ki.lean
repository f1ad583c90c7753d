/-! the reader of FormulaTrees, exactly: states while it reads, references, words -/
def wn (cur : List NN) (fr : Int32) (lc : Nat) : Int32 := if cur.isEmpty = true then (if fr = 0 then 1 else 0) else (if lc = 1 then 5 else 4)
def XI (s : aS) (b : Nat) (t : List Int32) (ns : List (List Int32)) (j : Nat) (F : List Fw) (cur : List NN) (fr : Int32) (lc : Nat) : Prop := KS s b t ns ∧ TR s b j (flC F ++ cur) ∧ PB s (pO F) (bO F) ∧ sI s 106 7 = Int32.ofNat j ∧ sI s 106 8 = -1 ∧ sI s 106 9 = wn cur fr lc ∧ (cur ≠ [] → sI s 106 10 = Int32.ofNat (flC F).length)
def XR (s : aS) (b : Nat) (t : List Int32) (ns : List (List Int32)) (j : Nat) (F : List Fw) (x : Int32) : Prop := KS s b t ns ∧ TR s b j (flC F) ∧ PB s (pO F) (bO F) ∧ sI s 106 7 = Int32.ofNat j ∧ sI s 106 8 = -1 ∧ sI s 106 9 = 2 ∧ (∃ f, f < 1000 ∧ sI s 106 11 = Int32.ofNat f) ∧ sI s 106 12 = x
/-- the reference is wrong there, or at the next sign -/
def dead (t : List Int32) (X : Nat ⊕ St) : Prop := (∃ p, X = .inl p) ∨ ∃ e F n lc, X = .inr (e, F, [n], 0, lc) ∧ bad (t.getD e 0)
/-- how a step of FormulaTrees ends beside the reference's X -/
def OC (b : Nat) (t : List Int32) (ns : List (List Int32)) (F : List Fw) (i : Nat) (X : Nat ⊕ St) (D : Option aS) : Prop := ∃ s', D = some s' ∧
  ((sI s' 106 8 ≠ -1 ∧ dead t X) ∨
   (∃ z, X = .inr z ∧ XI s' b t ns z.1 z.2.1 z.2.2.1 z.2.2.2.1 z.2.2.2.2) ∨
   (∃ j x, XR s' b t ns j F x ∧ i ≤ j ∧ j ≤ t.length ∧ ((X = mCell t F (fl F).length x j ∧ (flC F).length < 128) ∨ ((∃ p, X = .inl p) ∧ ((flC F).length = 128 ∨ (cOk t j → ¬ bad (t.getD (cE t j) 0) → t.getD (cE t j) 0 = 36))))) ∨
   (∃ e n, XI s' b t ns e F [n] 0 0 ∧ e ≤ t.length ∧ t.getD e 0 = 36 ∧ ∃ p, X = .inl p))
set_option maxRecDepth 100000 in
theorem gr_gr (x : Int32) : gr (gr x) = gr x := by
  have l1 : ∀ x : Int32, x < 97 ↔ x.toInt < 97 := fun x => iLt
  have l2 : 122 < x ↔ 122 < x.toInt := iLt
  by_cases a : x < 97
  · have e : gr x = x := if_pos a
    rw [e, e]
  · by_cases c : 122 < x
    · have e : gr x = x := by unfold gr; rw [if_neg a, if_pos c]
      rw [e, e]
    · have e : gr x = x - 32 := by unfold gr; rw [if_neg a, if_neg c]
      have a : ¬ x.toInt < 97 := fun z => a ((l1 x).mpr z)
      have c : ¬ 122 < x.toInt := fun z => c (l2.mpr z)
      have e2 : (x - 32).toInt = x.toInt - 32 := iSub (y := 32) (by show _ ≤ x.toInt - 32; omega) (by show x.toInt - 32 ≤ _; omega)
      rw [e]
      unfold gr
      rw [if_pos ((l1 _).mpr (by omega))]
set_option maxRecDepth 100000 in
theorem fnd_gr {u : List Int32} : ∀ {ns : List (List Int32)} {k : Nat}, fndF (u.map gr) ns k = fndF u ns k
  | [], k => rfl
  | n :: r, k => by
    show (if b01 (lk n (u.map gr)) = 0 then fndF (u.map gr) r (k + 1) else Int32.ofNat k) = (if b01 (lk n u) = 0 then fndF u r (k + 1) else Int32.ofNat k)
    have e : (u.map gr).map gr = u.map gr := by
      rw [List.map_map]
      exact List.map_congr_left fun x _ => gr_gr x
    have e2 : b01 (lk n (u.map gr)) = b01 (lk n u) := b01_c (by unfold lk; rw [e])
    rw [e2, fnd_gr]
section XX
variable {s s1 : aS} {b i : Nat} {t : List Int32} {ns : List (List Int32)} {F : List Fw} {cur : List NN} {fr : Int32} {lc : Nat}
set_option maxRecDepth 100000 in
theorem pbO {P : List (Int32 × Nat)} {B : List (Nat × Int32 × Nat)} (h : PB s P B) (hb : b = 102 ∨ 149 ≤ b) (g : ch (aO b) s s1) : PB s1 P B := h.of g (fun a k z => by unfold aO at z; omega)
set_option maxRecDepth 100000 in
/-- wrong -/
theorem OC.w {X : Nat ⊕ St} {D : Option aS} (h : Wr b s D) (hX : dead t X) : OC b t ns F i X D := by
  obtain ⟨s', e1, e2, -⟩ := h
  exact ⟨s', e1, Or.inl ⟨e2, hX⟩⟩
set_option maxRecDepth 100000 in
theorem dead.l {p : Nat} : dead t (.inl p) := Or.inl ⟨p, rfl⟩
set_option maxRecDepth 100000 in
/-- a token with one node -/
theorem OC.n {z lc : Nat} {n : NN} {w : Int32} {D : Option aS} (h : XI s b t ns i F [] fr 0) (hN : Nw b s z (flC F) n w D) (hw : w = if lc = 1 then 5 else 4) : OC b t ns F i (.inr (z, F, [n], 0, lc)) D := by
  obtain ⟨s', e1, e2, e3, e4, e5, e6, e7⟩ := hN
  refine ⟨s', e1, Or.inr (Or.inl ⟨_, rfl, h.1.of (b := b) (e7.mono fun a k z => aOC z), e2, pbO h.2.2.1 (xb h.1) e7, e3, e4, ?_, fun _ => e6⟩)⟩
  rw [e5, hw]
  rfl
set_option maxRecDepth 100000 in
theorem OC.bx {X : Nat ⊕ St} {D : Option aS} (h : OC b t ns F i X D) : OC b t ns F i X (bu D fun s4 => some s4) := by
  obtain ⟨s', e1, e2⟩ := h
  exact ⟨s', by rw [e1]; rfl, e2⟩
set_option maxRecDepth 100000 in
/-- a token -/
theorem OC.tk {z : Nat} {n : NN} {X : Prop} {Y : Nat ⊕ St} {D : Option aS} (h : XI s b t ns i F [] fr 0) (hT : Tk b s (flC F) X z n D) (h1 : ¬ X ∨ (flC F).length = 128 → ∃ p, Y = .inl p) (h2 : X → (flC F).length < 128 → Y = .inr (z, F, [n], 0, 0)) : OC b t ns F i Y D := by
  rcases hT with ⟨q1, q2⟩ | ⟨q1, q2, q3⟩
  · exact OC.w q2 (Or.inl (h1 q1))
  · rw [h2 q1 q2]
    exact OC.n h q3 rfl
set_option maxRecDepth 100000 in
theorem XI.tr (h : XI s b t ns i F [] fr 0) : TR s b i (flC F) := by
  have := h.2.1
  rw [List.append_nil] at this
  exact this
set_option maxRecDepth 100000 in
/-- a reference is wanted -/
theorem OC.r {j f : Nat} {x : Int32} {X : Nat ⊕ St} (h : XI s b t ns i F [] fr 0) (h0 : KS s1 b t ns) (g : ch (aO b) s s1) (hT : TR s1 b i (flC F)) (h7 : sI s1 106 7 = Int32.ofNat j) (h8 : sI s1 106 8 = -1) (hij : i ≤ j) (hj : j ≤ t.length) (hf : f < 1000) (hX : (X = mCell t F (fl F).length x j ∧ (flC F).length < 128) ∨ ((∃ p, X = .inl p) ∧ ((flC F).length = 128 ∨ (cOk t j → ¬ bad (t.getD (cE t j) 0) → t.getD (cE t j) 0 = 36)))) : OC b t ns F i X (dm112 (Int32.ofNat f) x s1) := by
  have hb := xb h.1
  have g2 : ch (fun a k => a = 106 ∧ 9 ≤ k) s1 (wI (wI (wI s1 106 11 (Int32.ofNat f)) 106 12 x) 106 9 2) := (((ch.refl _ s1).wI (by omega)).wI (by omega)).wI (by omega)
  refine ⟨_, rfl, Or.inr (Or.inr (Or.inl ⟨j, x, ⟨h0.of (b := b) (g2.mono fun a k z => by unfold AC; omega), ((hT.up hij).of g2 (by omega) (fun k => by omega) (by omega) (fun k => by omega)), (pbO h.2.2.1 hb g).of g2 (fun a k z => by omega), (g2.i (by omega)).trans h7, (g2.i (by omega)).trans h8, by rw [sI_wI, if_pos ⟨rfl, rfl⟩], ⟨f, hf, by rw [sI_wI, if_neg (by omega), sI_wI, if_neg (by omega), sI_wI, if_pos ⟨rfl, rfl⟩]⟩, by rw [sI_wI, if_neg (by omega), sI_wI, if_pos ⟨rfl, rfl⟩]⟩, hij, hj, hX⟩))⟩
set_option maxRecDepth 100000 in
theorem fl8 (h : XI s b t ns i F [] fr 0) : (flC F).length ≤ 128 := h.tr.2.1
set_option maxRecDepth 100000 in
/-- which side has room -/
theorem pr_l {p : Nat} (h : (flC F).length = 128) : mPrim t ns F (fl F).length p = .inl p := by
  unfold mPrim
  rw [if_pos (Or.inr (by rw [← flC_len]; exact h))]
set_option maxRecDepth 100000 in
theorem pr_t {p : Nat} (h : (flC F).length < 128) (hp : prB (t.getD p 0)) : mPrim t ns F (fl F).length p = mTok t ns F (fl F).length p := by
  unfold mPrim
  rw [if_neg (by
    rintro (q | q)
    · exact b01_ne.mp q hp
    · rw [← flC_len] at q
      omega)]
set_option maxRecDepth 100000 in
/-- behind the prefix that is held, at the ! -/
theorem x114 {hd : List Int32} {e f : Nat} (h : XI s b t ns i F [] fr 0) (h0 : KS s1 b t ns) (g : ch (aO b) s s1) (hT : TR s1 b i (flC F)) (hh : HH s1 hd) (h7 : sI s1 106 7 = Int32.ofNat e) (h8 : sI s1 106 8 = -1) (hie : i ≤ e) (he : e < t.length) (hf : f < 1000) (Y : Nat ⊕ St) (hY : Y = if (flC F).length = 128 then .inl i else mSh t F (fl F).length (fndF hd ns 0) f e (mCell t F (fl F).length (fndF hd ns 0) (e + 1))) : OC b t ns F i Y (dm114 (Int32.ofNat f) s1) := by
  have hl := h.1.1.2.1
  have hb := xb h.1
  have h8l := fl8 h
  have e32 : dm32 107 s1 = some (fndF hd ns 0) := d32 h0.2.2.1 h0.2.2.2.2.1 h0.2.2.2.1 hh.1 (by show hd.length ≤ (sT s1 108).2; rw [h0.2.1.2.2.2.2]; exact hh.2.1) (by have := hh.2.1; omega)
  have hfr := fnd_r (u := hd) h0.2.2.2.1
  unfold dm114
  rw [e32]
  simp only [bu_some]
  by_cases c : fndF hd ns 0 = -1
  · rw [if_pos c, nx_eq]
    refine OC.w (s := s1) ⟨_, rfl, by rw [sI_wI, if_pos ⟨rfl, rfl⟩]; exact nm1 (by omega), (ch.refl _ s1).wI (by unfold aO; omega)⟩ (Or.inl ?_)
    rw [hY]
    split
    · exact ⟨_, rfl⟩
    · unfold mSh
      rw [c, if_neg (by decide)]
      exact ⟨_, rfl⟩
  · rw [if_neg c, h7, ofNat_succ (by omega), nx_eq]
    have g2 : ch a7 s1 (wI s1 106 7 (Int32.ofNat (e + 1))) := (ch.refl _ s1).wI ⟨rfl, rfl⟩
    have hx0 : 0 ≤ fndF hd ns 0 := by
      rw [iLe]
      show (0 : Int) ≤ _
      have : ¬ (fndF hd ns 0).toInt = -1 := fun z => c (iEq.mpr z)
      omega
    refine (OC.r h (h0.of (b := b) (g2.mono fun a k z => a7C z)) (g.trans (g2.mono fun a k z => a7O z)) (trO hT hb g2 (fun a k z => by unfold a7 at z; omega)) (by rw [sI_wI, if_pos ⟨rfl, rfl⟩]) ((g2.i (by unfold a7; omega)).trans h8) (by omega) (by omega) hf ?_).bx
    by_cases c8 : (flC F).length = 128
    · right
      rw [hY, if_pos c8]
      exact ⟨⟨_, rfl⟩, Or.inl c8⟩
    · left
      rw [hY, if_neg c8]
      unfold mSh
      rw [if_pos hx0]
      exact ⟨rfl, by omega⟩
set_option maxRecDepth 100000 in
/-- a prefix in quotes -/
theorem x113 (h : XI s b t ns i F [] fr 0) (hi : i < t.length) (hc : t.getD i 0 = 39) : OC b t ns F i (mPrim t ns F (fl F).length i) (dm113 s) := by
  have hl := h.1.1.2.1
  have hb := xb h.1
  have h8l := fl8 h
  have hY : mPrim t ns F (fl F).length i = if (flC F).length = 128 then .inl i else mPre t ns F (fl F).length i := by
    by_cases c8 : (flC F).length = 128
    · rw [pr_l c8, if_pos c8]
    · rw [if_neg c8, pr_t (by omega) (by rw [hc]; exact Or.inr (Or.inr (Or.inr (Or.inr (Or.inr (Or.inr rfl))))))]
      unfold mTok
      rw [hc, if_neg (by rw [b01_f (by unfold isD; decide)]; decide), if_neg (by decide), if_neg (by decide), if_pos rfl]
  rw [hY]
  unfold dm113 dm113_18 mPre
  rcases x105 (q := 39) (by decide) (by decide) h.1 h.2.2.2.1 hi with ⟨e1, s2, e, e2, e4, e5, e3⟩ | ⟨u, e, s2, e1, e2, e3, e4, e5, e6, e7⟩
  · rw [e2, e1]
    simp only [bv_some]
    rw [if_pos trivial, nx_eq]
    refine OC.w (Wr.set (b := b) e4 (by omega)) (Or.inl ?_)
    split <;> exact ⟨_, rfl⟩
  · have K2 := h.1.of (b := b) (e7.mono fun a k z => aQC z)
    rw [e2, e1]
    simp only [bv_some]
    rw [if_neg (show ¬ (1 : Int32) = 0 by decide), e4, x34 K2 (by omega)]
    simp only [bu_some]
    by_cases c : t.getD e (-1) = 33
    · have c0 : t.getD e 0 = 33 := (gd_eq (by decide) (by decide)).mp c
      have hel : e < t.length := in_of (p := fun x => x = 33) (d := -1) (by decide) c
      rw [if_pos c, h.2.2.2.1]
      refine (x114 h K2 (e7.mono fun a k z => aQO z) (trO h.tr hb e7 (fun a k z => by unfold aQ at z; omega)) e3 e4 ((e7.i (by unfold aQ; omega)).trans h.2.2.2.2.1) (by omega) hel (by omega) _ ?_).bx
      show (if (flC F).length = 128 then (.inl i : Nat ⊕ St) else if t.getD e 0 = 33 then mSh t F (fl F).length (fndF u ns 0) i e (mCell t F (fl F).length (fndF u ns 0) (e + 1)) else .inl e) = _
      rw [if_pos c0]
    · have c0 : ¬ t.getD e 0 = 33 := fun z => c ((gd_eq (by decide) (by decide)).mpr z)
      rw [if_neg c, nx_eq]
      refine OC.w (s := s2) ⟨_, rfl, by rw [sI_wI, if_pos ⟨rfl, rfl⟩]; exact nm1 (by omega), (ch.refl _ s2).wI (by unfold aO; omega)⟩ (Or.inl ?_)
      show ∃ p, (if (flC F).length = 128 then (.inl i : Nat ⊕ St) else if t.getD e 0 = 33 then mSh t F (fl F).length (fndF u ns 0) i e (mCell t F (fl F).length (fndF u ns 0) (e + 1)) else .inl e) = .inl p
      rw [if_neg c0]
      split <;> exact ⟨_, rfl⟩
end XX
