/-! type: the bytes of a word, in the one way and in the other -/
set_option maxRecDepth 100000 in
theorem ush {x : Int32} {a : UInt32} {b : Int32} {k : Nat} (hk : k ≤ 24) (ha : a.toNat = k) (hb : (b.toBitVec.smod 32).toNat = k) : ((x.toUInt32 >>> a).toInt32) &&& 255 = (x >>> b) &&& 255 := by
  apply Int32.toBitVec_inj.mp
  show (x.toBitVec >>> (a.toBitVec % 32)) &&& 255#32 = (BitVec.sshiftRight' x.toBitVec (b.toBitVec.smod 32)) &&& 255#32
  have h1 : (a.toBitVec % 32).toNat = k := by
    rw [BitVec.toNat_umod]
    show a.toNat % 32 = k
    omega
  rw [BitVec.ushiftRight_eq', BitVec.sshiftRight', h1, hb]
  generalize x.toBitVec = v
  ext i hi
  simp only [BitVec.getElem_and, BitVec.getElem_ushiftRight, BitVec.getElem_sshiftRight]
  by_cases h8 : i < 8
  · have : k + i < 32 := by omega
    simp [this]
  · have : (255#32)[i] = false := by
      rw [BitVec.getElem_eq_testBit_toNat]
      exact Nat.testBit_lt_two_pow (Nat.lt_of_lt_of_le (by decide : 255 < 2 ^ 8) (Nat.pow_le_pow_right (by decide) (by omega)))
    rw [this]
    simp
set_option maxRecDepth 100000 in
theorem and255 (x : Int32) : 0 ≤ (x &&& 255).toInt ∧ (x &&& 255).toInt ≤ 255 := by
  have h : (x &&& 255).toBitVec.toNat ≤ 255 := by
    show (x.toBitVec &&& 255#32).toNat ≤ 255
    rw [BitVec.toNat_and]
    exact Nat.and_le_right
  have e : (x &&& 255).toInt = ((x &&& 255).toBitVec.toNat : Int) := by
    show (x &&& 255).toBitVec.toInt = _
    rw [BitVec.toInt_eq_toNat_cond, if_pos (by omega)]
  omega
/-- a word's byte i -/
def by8 (x : Int32) (i : Nat) : Int32 := match i with
  | 0 => (x >>> 24) &&& 255
  | 1 => (x >>> 16) &&& 255
  | 2 => (x >>> 8) &&& 255
  | _ => (x >>> 0) &&& 255
set_option maxRecDepth 100000 in
theorem by8_r (x : Int32) (i : Nat) : 0 ≤ (by8 x i).toInt ∧ (by8 x i).toInt ≤ 255 := by
  unfold by8
  split <;> exact and255 _
set_option maxRecDepth 100000 in
/-- FormulaTrees' byte with x3 = 24 - 8 i -/
theorem byC0 (x : Int32) : ((x.toUInt32 >>> ((24 : Int32).toUInt32 &&& Int32.toUInt32 31)).toInt32) &&& 255 = by8 x 0 := ush (k := 24) (by decide) (by decide) (by decide)
set_option maxRecDepth 100000 in
theorem byC1 (x : Int32) : ((x.toUInt32 >>> ((16 : Int32).toUInt32 &&& Int32.toUInt32 31)).toInt32) &&& 255 = by8 x 1 := ush (k := 16) (by decide) (by decide) (by decide)
set_option maxRecDepth 100000 in
theorem byC2 (x : Int32) : ((x.toUInt32 >>> ((8 : Int32).toUInt32 &&& Int32.toUInt32 31)).toInt32) &&& 255 = by8 x 2 := ush (k := 8) (by decide) (by decide) (by decide)
set_option maxRecDepth 100000 in
theorem byC3 (x : Int32) : ((x.toUInt32 >>> ((0 : Int32).toUInt32 &&& Int32.toUInt32 31)).toInt32) &&& 255 = by8 x 3 := ush (k := 0) (by decide) (by decide) (by decide)
/-- is byte b one that may not be typed -/
abbrev badB (b : Int32) : Prop := ¬ b = 0 ∧ (b < 32 ∨ 126 < b)
/-- one that is not nothing -/
def one8 (b : Int32) : Nat := if b = 0 then 0 else 1
/-- are bytes i .. 3 all right, and how many are there -/
def okF (x : Int32) : Nat → Nat → Prop
  | 0, _ => True
  | n + 1, i => ¬ badB (by8 x i) ∧ okF x n (i + 1)
def cnF (x : Int32) : Nat → Nat → Nat
  | 0, _ => 0
  | n + 1, i => one8 (by8 x i) + cnF x n (i + 1)
set_option maxRecDepth 100000 in
theorem cnF_le (x : Int32) : ∀ n i, cnF x n i ≤ n
  | 0, _ => Nat.le_refl _
  | n + 1, i => by
    have := cnF_le x n (i + 1)
    have : one8 (by8 x i) ≤ 1 := by unfold one8; split <;> decide
    show one8 (by8 x i) + cnF x n (i + 1) ≤ n + 1
    omega
set_option maxRecDepth 100000 in
/-- one round of FormulaTrees' first loop -/
theorem d27_step {n : Nat} {x c y : Int32} {s : aS} {b : Int32} (hy : ¬ y < 0) (hb : ((x.toUInt32 >>> (y.toUInt32 &&& Int32.toUInt32 31)).toInt32) &&& 255 = b) : dm27_4 (n + 1) x c y s = if badB b then some (.inr 0, nw s 80 0) else dm27_4 n x (c + (if b = 0 then 0 else 1)) (y + (-8)) s := by
  rw [dm27_4, if_neg hy, hb]
  unfold dm27_25 dm27_31 dm27_20
  have hd : (126 < b) = ¬ b ≤ 126 := by rw [iLt, iLe]; exact propext (by omega)
  by_cases h0 : b = 0
  · simp [h0]
  · by_cases h1 : b < 32
    · simp [h0, h1]
    · by_cases h2 : b ≤ 126
      · simp [h0, h1, h2, hd]
      · simp [h0, h1, h2, hd]
set_option maxRecDepth 100000 in
theorem nonneg_nat {x : Int32} (h : 0 ≤ x.toInt) : (x.toBitVec.toNat : Int) = x.toInt := by
  show _ = x.toBitVec.toInt
  rw [BitVec.toInt_eq_toNat_cond]
  split
  · rfl
  · rename_i hh
    have : x.toBitVec.toInt = x.toInt := rfl
    rw [← this, BitVec.toInt_eq_toNat_cond, if_neg hh] at h
    have := x.toBitVec.isLt
    omega
set_option maxRecDepth 100000 in
theorem i2c_id {x : Int32} (h : 0 ≤ x.toInt ∧ x.toInt ≤ 65535) : (x.toUInt32 % 65536).toInt32 = x := by
  have hn := nonneg_nat h.1
  apply Int32.toBitVec_inj.mp
  apply BitVec.eq_of_toNat_eq
  show (x.toBitVec % 65536#32).toNat = _
  rw [BitVec.toNat_umod]
  show x.toBitVec.toNat % 65536 = _
  omega
set_option maxRecDepth 100000 in
theorem nC_id {x : Int32} (h : 0 ≤ x.toInt ∧ x.toInt ≤ 65535) : nC x = x := by
  have hn := nonneg_nat h.1
  unfold nC
  apply Int32.toBitVec_inj.mp
  apply BitVec.eq_of_toNat_eq
  show ((x.toBitVec.setWidth 16).setWidth 32).toNat = _
  rw [BitVec.toNat_setWidth, BitVec.toNat_setWidth]
  omega
set_option maxRecDepth 100000 in
/-- a letter put behind letters that lie at b with room b + 1 -/
theorem d29 {b m : Nat} {x : Int32} {s : aS} (hx : 0 ≤ x.toInt ∧ x.toInt ≤ 65535) (hT : (sT s (b + 1)).2 = m) (hm : m < 2147483648) (h0 : 0 ≤ (sI s b 1).toInt) (h1 : (sI s b 1).toInt < m) : dm29 b x s = some (wI (wI s (b + 1) (sI s b 1).toInt.toNat x) b 1 (sI s b 1 + 1)) := by
  unfold dm29
  rw [hT, if_neg (by rw [iLe, iOfNat hm]; omega), if_pos (aB_iff.mpr ⟨h0, h1⟩)]
  rw [i2c_id hx, nC_id hx]
  simp only [nx_eq, sI_wI, jN_eq]
  rw [if_neg (by omega)]
