/-! trees of nodes as the reference holds them: a list of nodes in their order, each with its number, what is told of it and its letters -/
abbrev NN : Type := Nat × Nd × List Int32
def RLe (s : aS) (e p : Nat) (w : List Int32) : Prop := ∃ st, sI s 137 p = Int32.ofNat st ∧ sI s 138 p = Int32.ofNat w.length ∧ st + w.length ≤ e ∧ ∀ j (h : j < w.length), sI s 139 (2048 + st + j) = w[j]
def NMe (s : aS) (e p : Nat) (kd : Int32) (l : List Int32) : Prop := ((kd = 0 ∨ kd = 6 ∨ kd = 7) → RLe s e p l) ∧ (kd = 1 → RLe s e p (34 :: (dbl l ++ [34]))) ∧ (¬ (kd = 0 ∨ kd = 1 ∨ kd = 6 ∨ kd = 7) → l = [])
def NR (s : aS) (e : Nat) (n : NN) : Prop := (∀ w, w < 9 → sI s (128 + w) (1024 + n.1) = n.2.1 w) ∧ NMe s e (1024 + n.1) (n.2.1 0) n.2.2
def nch (s : aS) : Int32 → List Nat → Prop
  | x, [] => x = -1
  | x, k :: r => x = Int32.ofNat k ∧ k < 128 ∧ nch s (sI s 142 k) r
def HF (s : aS) (e : Nat) : List NN → List Nat → Prop
  | [], ids => ids = []
  | n :: L, ids => ∃ r ks, ids = n.1 :: r ∧ n.1 < 128 ∧ NR s e n ∧ nch s (sI s 140 n.1) ks ∧ n.2.1 1 = Int32.ofNat ks.length ∧ HF s e L (ks ++ r)
def idL (L : List NN) : List Nat := L.map (fun n => n.1)
set_option maxRecDepth 100000 in
theorem idL_ap (L M : List NN) : idL (L ++ M) = idL L ++ idL M := List.map_append
set_option maxRecDepth 100000 in
theorem HF.sub {s : aS} {e : Nat} : ∀ (L : List NN) (ids : List Nat), HF s e L ids → ∀ k ∈ ids, k ∈ idL L
  | [], ids, h, k, hk => by
    have h : ids = [] := h
    rw [h] at hk
    cases hk
  | n :: L, ids, h, k, hk => by
    obtain ⟨r, ks, e1, e2, e3, e4, e5, e6⟩ := h
    rw [e1] at hk
    rcases List.mem_cons.mp hk with q | q
    · exact q ▸ List.mem_cons_self
    · exact List.mem_cons_of_mem _ (HF.sub L _ e6 k (List.mem_append_right _ q))
set_option maxRecDepth 100000 in
theorem HF.nd {s : aS} {e : Nat} : ∀ (L : List NN) (ids : List Nat), HF s e L ids → (idL L).Nodup → ids.Nodup
  | [], ids, h, _ => by
    have h : ids = [] := h
    rw [h]
    exact List.nodup_nil
  | n :: L, ids, h, hn => by
    obtain ⟨r, ks, e1, e2, e3, e4, e5, e6⟩ := h
    have hn : (n.1 :: idL L).Nodup := hn
    rw [List.nodup_cons] at hn
    have h1 := HF.nd L _ e6 hn.2
    rw [e1, List.nodup_cons]
    refine ⟨fun q => hn.1 (HF.sub L _ e6 _ (List.mem_append_right _ q)), (List.nodup_append.mp h1).2.1⟩
set_option maxRecDepth 100000 in
theorem HF.ap {s : aS} {e : Nat} : ∀ (L M : List NN) (i j : List Nat), HF s e L i → HF s e M j → HF s e (L ++ M) (i ++ j)
  | [], M, i, j, h, g => by
    have h : i = [] := h
    rw [h]
    exact g
  | n :: L, M, i, j, h, g => by
    obtain ⟨r, ks, e1, e2, e3, e4, e5, e6⟩ := h
    refine ⟨r ++ j, ks, by rw [e1]; rfl, e2, e3, e4, e5, ?_⟩
    rw [← List.append_assoc]
    exact HF.ap L M _ _ e6 g
/-- a node is left as it is -/
def kep (s s' : aS) (e id : Nat) : Prop := (∀ w, w < 11 → sI s' (128 + w) (1024 + id) = sI s (128 + w) (1024 + id)) ∧ sI s' 140 id = sI s 140 id
set_option maxRecDepth 100000 in
theorem RLe.of {s s' : aS} {e e' id : Nat} {w : List Int32} (h : RLe s e (1024 + id) w) (hk : kep s s' e id) (hl : ∀ q, q < e → sI s' 139 (2048 + q) = sI s 139 (2048 + q)) (he : e ≤ e') : RLe s' e' (1024 + id) w := by
  obtain ⟨st, a1, a2, a3, a4⟩ := h
  refine ⟨st, (hk.1 9 (by decide)).trans a1, (hk.1 10 (by decide)).trans a2, by omega, fun j hj => ?_⟩
  have := hl (st + j) (by omega)
  rw [show 2048 + st + j = 2048 + (st + j) by omega, this, show 2048 + (st + j) = 2048 + st + j by omega]
  exact a4 j hj
set_option maxRecDepth 100000 in
theorem NMe.of {s s' : aS} {e e' id : Nat} {kd : Int32} {l : List Int32} (h : NMe s e (1024 + id) kd l) (hk : kep s s' e id) (hl : ∀ q, q < e → sI s' 139 (2048 + q) = sI s 139 (2048 + q)) (he : e ≤ e') : NMe s' e' (1024 + id) kd l := ⟨fun q => (h.1 q).of hk hl he, fun q => (h.2.1 q).of hk hl he, h.2.2⟩
set_option maxRecDepth 100000 in
theorem NR.of {s s' : aS} {e e' : Nat} {n : NN} (h : NR s e n) (hk : kep s s' e n.1) (hl : ∀ q, q < e → sI s' 139 (2048 + q) = sI s 139 (2048 + q)) (he : e ≤ e') : NR s' e' n := ⟨fun w hw => (hk.1 w (by omega)).trans (h.1 w hw), h.2.of hk hl he⟩
set_option maxRecDepth 100000 in
theorem nch.of {s s' : aS} : ∀ (ks : List Nat) (x : Int32), nch s x ks → (∀ k ∈ ks, sI s' 142 k = sI s 142 k) → nch s' x ks
  | [], x, h, _ => h
  | k :: r, x, h, g => by
    refine ⟨h.1, h.2.1, ?_⟩
    rw [g k List.mem_cons_self]
    exact nch.of r _ h.2.2 (fun q hq => g q (List.mem_cons_of_mem _ hq))
set_option maxRecDepth 100000 in
theorem HF.of {s s' : aS} {e e' : Nat} (hl : ∀ q, q < e → sI s' 139 (2048 + q) = sI s 139 (2048 + q)) (he : e ≤ e') : ∀ (L : List NN) (ids : List Nat), HF s e L ids → (idL L).Nodup → (∀ k ∈ idL L, kep s s' e k) → (∀ k ∈ idL L, k ∉ ids → sI s' 142 k = sI s 142 k) → HF s' e' L ids
  | [], ids, h, _, _, _ => h
  | n :: L, ids, h, hn, hk, h2 => by
    have hnd := HF.nd (n :: L) ids h hn
    obtain ⟨r, ks, e1, e2, e3, e4, e5, e6⟩ := h
    have hn : (n.1 :: idL L).Nodup := hn
    rw [List.nodup_cons] at hn
    have hk : ∀ k ∈ n.1 :: idL L, kep s s' e k := hk
    have h2 : ∀ k ∈ n.1 :: idL L, k ∉ ids → sI s' 142 k = sI s 142 k := h2
    have h3 := HF.nd L _ e6 hn.2
    rw [List.nodup_append] at h3
    have hks : ∀ k ∈ ks, k ∈ idL L := fun k q => HF.sub L _ e6 k (List.mem_append_left _ q)
    refine ⟨r, ks, e1, e2, e3.of (hk _ List.mem_cons_self) hl he, ?_, e5, HF.of hl he L (ks ++ r) e6 hn.2 (fun k q => hk k (List.mem_cons_of_mem _ q)) (fun k q z => h2 k (List.mem_cons_of_mem _ q) ?_)⟩
    · rw [(hk _ List.mem_cons_self).2]
      refine nch.of ks _ e4 (fun k q => h2 k (List.mem_cons_of_mem _ (hks k q)) ?_)
      rw [e1]
      intro z
      rcases List.mem_cons.mp z with z | z
      · exact hn.1 (z ▸ hks k q)
      · exact h3.2.2 k q k z rfl
    · rw [e1]
      intro w
      rcases List.mem_cons.mp w with w | w
      · exact hn.1 (w ▸ q)
      · exact z (List.mem_append_right _ w)
set_option maxRecDepth 100000 in
/-- a chain with one more at its end -/
theorem nch.add {s s' : aS} {c : Nat} (hc : c < 128) (hc2 : sI s' 142 c = -1) : ∀ (ks : List Nat) (q : Nat) (x : Int32), nch s x (ks ++ [q]) → (ks ++ [q]).Nodup → (∀ k ∈ ks, sI s' 142 k = sI s 142 k) → sI s' 142 q = Int32.ofNat c → nch s' x (ks ++ [q] ++ [c])
  | [], q, x, h, _, _, h2 => ⟨h.1, h.2.1, h2, hc, hc2⟩
  | k :: ks, q, x, h, hn, h1, h2 => by
    have hn : (k :: (ks ++ [q])).Nodup := hn
    rw [List.nodup_cons] at hn
    refine ⟨h.1, h.2.1, ?_⟩
    rw [h1 k List.mem_cons_self]
    exact nch.add hc hc2 ks q _ h.2.2 hn.2 (fun z w => h1 z (List.mem_cons_of_mem _ w)) h2
set_option maxRecDepth 100000 in
theorem nch.lt {s : aS} : ∀ (ks : List Nat) (x : Int32), nch s x ks → ∀ k ∈ ks, k < 128
  | [], _, _, k, hk => by cases hk
  | q :: ks, x, h, k, hk => by
    rcases List.mem_cons.mp hk with e | e
    · exact e ▸ h.2.1
    · exact nch.lt ks _ h.2.2 k e
