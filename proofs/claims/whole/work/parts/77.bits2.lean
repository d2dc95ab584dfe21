/-! COUNTING BITS: the ints -/
theorem bt_nI {n i : Nat} (hi : i < 32) : bt (nI n) i = n.testBit i := by
  show (BitVec.ofNat 32 n).getLsbD i = _
  rw [BitVec.getLsbD_ofNat, decide_eq_true hi, Bool.true_and]
theorem sh_nI {n k : Nat} (hn : n < 2 ^ 31) (hk : k < 32) : mvsh (nI n) (nI k) = nI (n >>> k) := by
  refine bt_ext (fun i hi => ?_)
  rw [bt_sh _ hk, bt_nI hi, Nat.testBit_shiftRight]
  by_cases h : k + i < 32
  · exact bt_nI h
  · rw [bt_ge (by omega), Nat.testBit_lt_two_pow (Nat.lt_of_lt_of_le hn (Nat.pow_le_pow_right (by decide) (by omega)))]
theorem and_nI {n m : Nat} : nI n &&& nI m = nI (n &&& m) := by
  refine bt_ext (fun i hi => ?_)
  rw [bt_and, bt_nI hi, bt_nI hi, bt_nI hi, Nat.testBit_and]
theorem sub_nI {n m : Nat} (h : m ≤ n) : nI n - nI m = nI (n - m) := by
  have : nI n = nI (n - m) + nI m := by rw [nI_add, Nat.sub_add_cancel h]
  rw [this, Int32.add_sub_cancel]
theorem bc_nI {n : Nat} (hn : n < 65536) : cBc (nI n) = nI (bcN n) := by
  unfold cBc bcN
  dsimp only
  have a1 : (n >>> 1) &&& 1431655765 ≤ n := Nat.le_trans Nat.and_le_left (by rw [Nat.shiftRight_eq_div_pow]; exact Nat.div_le_self _ _)
  rw [show (1 : Int32) = nI 1 from rfl, show (2 : Int32) = nI 2 from rfl, show (4 : Int32) = nI 4 from rfl, show (8 : Int32) = nI 8 from rfl, show (16 : Int32) = nI 16 from rfl, show (63 : Int32) = nI 63 from rfl, show (1431655765 : Int32) = nI 1431655765 from rfl, show (858993459 : Int32) = nI 858993459 from rfl, show (252645135 : Int32) = nI 252645135 from rfl]
  rw [sh_nI (by omega) (by decide), and_nI, sub_nI a1]
  generalize hx1 : n - ((n >>> 1) &&& 1431655765) = x1
  have b1 : x1 < 65536 := by omega
  rw [sh_nI (by omega) (by decide), and_nI, and_nI, nI_add]
  have c1 : x1 &&& 858993459 ≤ x1 := Nat.and_le_left
  have c2 : (x1 >>> 2) &&& 858993459 ≤ x1 := Nat.le_trans Nat.and_le_left (by rw [Nat.shiftRight_eq_div_pow]; exact Nat.div_le_self _ _)
  generalize hx2 : (x1 &&& 858993459) + ((x1 >>> 2) &&& 858993459) = x2
  have b2 : x2 < 131072 := by omega
  rw [sh_nI (by omega) (by decide), nI_add, and_nI]
  have d1 : x2 >>> 4 ≤ x2 := by rw [Nat.shiftRight_eq_div_pow]; exact Nat.div_le_self _ _
  have d2 : (x2 + x2 >>> 4) &&& 252645135 ≤ x2 + x2 >>> 4 := Nat.and_le_left
  generalize hx3 : (x2 + x2 >>> 4) &&& 252645135 = x3 at d2 ⊢
  have b3 : x3 < 262144 := by omega
  rw [sh_nI (by omega) (by decide), nI_add]
  have e1 : x3 >>> 8 ≤ x3 := by rw [Nat.shiftRight_eq_div_pow]; exact Nat.div_le_self _ _
  generalize hx4 : x3 + x3 >>> 8 = x4
  have b4 : x4 < 524288 := by omega
  rw [sh_nI (by omega) (by decide), nI_add, and_nI]
theorem x_nI {x : Int32} (hx : ∀ i, 16 ≤ i → i < 32 → bt x i = false) : ∃ n, n < 65536 ∧ x = nI n := by
  have hb : ∀ i, x.toBitVec.toNat.testBit i = bt x i := fun i => BitVec.testBit_toNat _
  refine ⟨x.toBitVec.toNat, ?_, bt_ext (fun i hi => by rw [bt_nI hi, hb])⟩
  refine Nat.lt_pow_two_of_testBit (n := 16) _ (fun i hi => ?_)
  rw [hb]
  by_cases h : i < 32
  · exact hx i hi h
  · exact bt_ge (by omega)
/-- how many of the sixteen lanes are set -/
theorem bc_ok {x : Int32} (hx : ∀ i, 16 ≤ i → i < 32 → bt x i = false) : cBc x = nI (sumN (fun l => if bt x l = true then 1 else 0) 16) := by
  obtain ⟨n, hn, rfl⟩ := x_nI hx
  rw [bc_nI hn]
  have h2 := bc_1 (n / 256) (by omega) (n % 256) (by omega)
  rw [show 256 * (n / 256) + n % 256 = n by omega] at h2
  rw [Nat.eq_of_beq_eq_true h2]
  have hb : ∀ l, l < 16 → (if bt (nI n) l = true then 1 else 0) = n / 2 ^ l % 2 := by
    intro l hl
    rw [bt_nI (by omega), Nat.testBit_eq_decide_div_mod_eq]
    have : n / 2 ^ l % 2 < 2 := Nat.mod_lt _ (by decide)
    by_cases e : n / 2 ^ l % 2 = 1
    · rw [if_pos (by rw [decide_eq_true e]), e]
    · rw [if_neg (by rw [decide_eq_false e]; decide)]; omega
  rw [sumN_congr 16 hb]
  have key : pcN (n / 256) + pcN (n % 256) = sumN (fun l => n / 2 ^ l % 2) 16 := by
    unfold pcN
    simp only [sumN]
    omega
  rw [key]
