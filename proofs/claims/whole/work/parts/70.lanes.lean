/-! LANES: a wire's int seen as sixteen pairs of bits -/
def bt (x : Int32) (i : Nat) : Bool := x.toBitVec.getLsbD i
theorem bt_and (a b : Int32) (i : Nat) : bt (a &&& b) i = (bt a i && bt b i) := by unfold bt; rw [Int32.toBitVec_and, BitVec.getLsbD_and]
theorem bt_or (a b : Int32) (i : Nat) : bt (a ||| b) i = (bt a i || bt b i) := by unfold bt; rw [Int32.toBitVec_or, BitVec.getLsbD_or]
theorem bt_xor (a b : Int32) (i : Nat) : bt (a ^^^ b) i = (bt a i ^^ bt b i) := by unfold bt; rw [Int32.toBitVec_xor, BitVec.getLsbD_xor]
theorem bt_ext {a b : Int32} (h : ∀ i, i < 32 → bt a i = bt b i) : a = b := Int32.toBitVec_inj.mp (BitVec.eq_of_getLsbD_eq h)
theorem bt_ge {a : Int32} {i : Nat} (h : 32 ≤ i) : bt a i = false := BitVec.getLsbD_of_ge _ _ h
theorem sh_n : ∀ k, k < 32 → ((nI k).toUInt32 &&& Int32.toUInt32 31).toBitVec % 32 = BitVec.ofNat 32 k := by decide +kernel
theorem sl_n : ∀ k, k < 32 → (nI k &&& 31).toBitVec.smod 32 = BitVec.ofNat 32 k := by decide +kernel
theorem bt_sh (a : Int32) {k : Nat} (hk : k < 32) (i : Nat) : bt (mvsh a (nI k)) i = bt a (k + i) := by
  unfold bt mvsh
  rw [UInt32.toBitVec_toInt32, UInt32.toBitVec_shiftRight, sh_n k hk, Int32.toBitVec_toUInt32, BitVec.ushiftRight_eq', BitVec.getLsbD_ushiftRight, BitVec.toNat_ofNat, Nat.mod_eq_of_lt (by omega)]
theorem bt_sl (a : Int32) {k : Nat} (hk : k < 32) {i : Nat} (hi : i < 32) : bt (a <<< (nI k &&& 31)) i = (decide (k ≤ i) && bt a (i - k)) := by
  unfold bt
  rw [Int32.toBitVec_shiftLeft, sl_n k hk, BitVec.shiftLeft_eq', BitVec.getLsbD_shiftLeft, BitVec.toNat_ofNat, Nat.mod_eq_of_lt (by omega)]
  by_cases h : k ≤ i
  · simp [h, hi]
  · simp [h, Nat.lt_of_not_le h]
theorem bt_1 : ∀ i, i < 32 → bt 1 i = decide (i = 0) := by decide +kernel
theorem bt_0 : ∀ i, i < 32 → bt 0 i = false := by decide +kernel
theorem bt_m1 : ∀ i, i < 32 → bt (-1) i = true := by decide +kernel
theorem bt_L : ∀ i, i < 32 → bt 65535 i = decide (i < 16) := by decide +kernel
theorem bt_H : ∀ i, i < 32 → bt (-65536) i = decide (16 ≤ i) := by decide +kernel
theorem and_1 (v : Int32) : v &&& 1 = b1I (bt v 0) := by
  refine bt_ext (fun i hi => ?_)
  rw [bt_and, bt_1 i hi]
  by_cases h : i = 0
  · rw [h]
    cases bt v 0 <;> rfl
  · rw [decide_eq_false h, Bool.and_false]
    cases bt v 0
    · exact (bt_0 i hi).symm
    · exact ((bt_1 i hi).trans (decide_eq_false h)).symm
theorem sh_1 (a : Int32) {k : Nat} (hk : k < 32) : mvsh a (nI k) &&& 1 = b1I (bt a k) := by rw [and_1, bt_sh a hk, Nat.add_zero]
def pj (l : Nat) (x : Int32) : B2 := (bt x l, bt x (16 + l))
section LA
variable {l : Nat}
theorem pj_and (hl : l < 16) (a b : Int32) : pj l (lAnd a b) = pAnd (pj l a) (pj l b) := by
  unfold pj lAnd pAnd
  simp only [bt_or, bt_and]
  rw [bt_L l (by omega), bt_L (16 + l) (by omega), bt_H l (by omega), bt_H (16 + l) (by omega)]
  simp [hl, show ¬ 16 ≤ l by omega, show 16 ≤ 16 + l by omega, show ¬ 16 + l < 16 by omega]
theorem pj_or (hl : l < 16) (a b : Int32) : pj l (lOr a b) = pOr (pj l a) (pj l b) := by
  unfold pj lOr pOr
  simp only [bt_or, bt_and]
  rw [bt_L l (by omega), bt_L (16 + l) (by omega), bt_H l (by omega), bt_H (16 + l) (by omega)]
  simp [hl, show ¬ 16 ≤ l by omega, show 16 ≤ 16 + l by omega, show ¬ 16 + l < 16 by omega]
theorem pj_not (hl : l < 16) (a : Int32) : pj l (lNot a) = pNot (pj l a) := by
  unfold pj lNot pNot
  simp only [bt_or]
  rw [show (16 : Int32) = nI 16 by decide, bt_sl a (k := 16) (by decide) (show l < 32 by omega), bt_sl a (k := 16) (by decide) (show 16 + l < 32 by omega), bt_sh a (k := 16) (by decide), bt_sh a (k := 16) (by decide), bt_ge (i := 16 + (16 + l)) (by omega)]
  simp [show ¬ 16 ≤ l by omega]
theorem pj_Z (hl : l < 16) : pj l (-65536) = zB := by
  unfold pj
  rw [bt_H l (by omega), bt_H (16 + l) (by omega), decide_eq_false (by omega), decide_eq_true (by omega)]; rfl
theorem pj_O (hl : l < 16) : pj l 65535 = oB := by
  unfold pj
  rw [bt_L l (by omega), bt_L (16 + l) (by omega), decide_eq_true hl, decide_eq_false (by omega)]; rfl
theorem pj_0 (hl : l < 16) : pj l 0 = (false, false) := by
  unfold pj
  rw [bt_0 l (by omega), bt_0 (16 + l) (by omega)]
theorem bt_unk (hl : l < 16) (a : Int32) : bt (lUnk a) l = decide (pj l a = (false, false)) := by
  unfold lUnk pj
  rw [bt_and, bt_xor, bt_or, show (16 : Int32) = nI 16 by decide, bt_sh a (k := 16) (by decide), bt_m1 l (by omega), bt_L l (by omega)]
  cases bt a l <;> cases bt a (16 + l) <;> simp [hl]
theorem bt_unkH {a : Int32} {i : Nat} (h1 : 16 ≤ i) (h2 : i < 32) : bt (lUnk a) i = false := by
  unfold lUnk
  rw [bt_and, bt_L i h2, decide_eq_false (by omega), Bool.and_false]
end LA
