/-! THE REFERENCE: stacks and nodes -/
def stkO (g : mvH) (O : List (Int32 × Int32)) : Prop := g 5 9 = nI O.length ∧ ∀ (j : Nat) (x : Int32 × Int32), O[j]? = some x → g 40 (O.length - 1 - j) = x.1 ∧ g 41 (O.length - 1 - j) = x.2
def stkR (g : mvH) (R : List Nat) : Prop := g 5 12 = nI R.length ∧ ∀ (j : Nat) (a : Nat), R[j]? = some a → g 42 (R.length - 1 - j) = nI a
/-- things, as the reference counts them -/
def mThE (A : Nat → Int32) (x : Nd) (i : Nat) : Prop := A i = 1 + (if x.2.2.1 < 0 then 0 else if x.1 = 6 then 2 * A (ix x.2.2.1) else A (ix x.2.2.1)) + (if x.2.2.2 < 0 then 0 else A (ix x.2.2.2))
def mNd (g : mvH) (N : List Nd) : Prop := g 5 2 = nI N.length ∧ ∀ (i : Nat) (x : Nd), N[i]? = some x → g 34 i = x.1 ∧ g 35 i = x.2.1 ∧ g 36 i = x.2.2.1 ∧ g 37 i = x.2.2.2 ∧ g 38 i = mCo x.1 x.2.1 x.2.2.1 (subC (g 38) x.2.2.1) (subC (g 38) x.2.2.2) ∧ mThE (g 39) x i
def mUns (g : mvH) (N : List Nd) : Prop := (g 5 16 = 0 ∧ ∀ (i : Nat) (x : Nd), N[i]? = some x → x.1 = 6 → ¬ subC (g 38) x.2.2.1 &&& 1 = 1) ∨ (g 5 16 = 1 ∧ ∃ (i : Nat) (x : Nd), N[i]? = some x ∧ x.1 = 6 ∧ subC (g 38) x.2.2.1 &&& 1 = 1)
/-- children of all nodes come before them -/
def mCh (N : List Nd) : Prop := ∀ (i : Nat) (x : Nd), N[i]? = some x → (x.2.2.1 = -1 ∨ ∃ j, j < i ∧ x.2.2.1 = nI j) ∧ (x.2.2.2 = -1 ∨ ∃ j, j < i ∧ x.2.2.2 = nI j)
section M2
variable {d : Nat} {h : mvH} {Q : Option mvV → mvH → Prop}
theorem s_X5_push (hd : 1 ≤ d) (c l : Int32) {m : Nat} (hm : h 5 9 = nI m) (hm2 : m < 80) (hQ : Q none (hset (hset (hset h 40 m c) 41 m l) 5 9 (nI (m + 1)))) : mvCal mvMT d 102 [.inr 5, .inl c, .inl l] h Q := by
  obtain ⟨d, rfl⟩ := d_pos hd (by decide)
  have em : (nI m).toNatClampNeg = m := nI_clamp (by omega)
  refine ⟨⟨rfl, by decide, rfl⟩, Nat.le_of_ble_eq_true rfl, fun K hK => hK _ _ _ _ ⟨by rw [hm]; exact vp_in_nI hm2 (by decide), ?_⟩⟩
  rw [hm, em]
  have e1 : (hset h 40 m c) 5 9 = nI m := by rw [hset_other (by decide), hm]
  refine ⟨by rw [e1]; exact vp_in_nI hm2 (by decide), ?_⟩
  rw [e1, em]
  have e2 : (hset (hset h 40 m c) 41 m l) 5 9 = nI m := by rw [hset_other (by decide), hset_other (by decide), hm]
  conv => whnf
  rw [e2, nI_1]
  exact hQ
theorem stkO_push {O : List (Int32 × Int32)} {c l : Int32} (ho : stkO h O) : stkO (hset (hset (hset h 40 O.length c) 41 O.length l) 5 9 (nI (O.length + 1))) ((c, l) :: O) := by
  refine ⟨by rw [hset_at, if_pos rfl]; rfl, fun j x hx => ?_⟩
  have h40 : ∀ i, (hset (hset (hset h 40 O.length c) 41 O.length l) 5 9 (nI (O.length + 1))) 40 i = if i = O.length then c else h 40 i := by
    intro i; rw [hset_other (by decide), hset_other (by decide), hset_at]
  have h41 : ∀ i, (hset (hset (hset h 40 O.length c) 41 O.length l) 5 9 (nI (O.length + 1))) 41 i = if i = O.length then l else h 41 i := by
    intro i; rw [hset_other (by decide), hset_at, hset_other (by decide)]
  rw [h40, h41]
  match j, hx with
  | 0, hx =>
    simp at hx
    subst hx
    simp
  | j + 1, hx =>
    have hx : O[j]? = some x := by simpa using hx
    have hj := (List.getElem?_eq_some_iff.mp hx).1
    have e : (((c, l) :: O).length - 1 - (j + 1)) = O.length - 1 - j := by simp; omega
    rw [e, if_neg (by omega), if_neg (by omega)]
    exact ho.2 j x hx
def topO (O : List (Int32 × Int32)) : Int32 := match O with
  | [] => 0
  | x :: _ => x.1
theorem s_X5_top (hd : 1 ≤ d) {O : List (Int32 × Int32)} (ho : stkO h O) (hl : O.length ≤ 80) (hQ : Q (some (.inl (topO O))) h) : mvCal mvMT d 103 [.inr 5] h Q := by
  obtain ⟨d, rfl⟩ := d_pos hd (by decide)
  refine ⟨⟨rfl, by decide, rfl⟩, Nat.le_of_ble_eq_true rfl, fun K hK => hK _ _ _ _ ⟨fun e => ?_, fun e => ?_⟩⟩
  · match O, ho, hl, hQ with
    | [], ho, _, _ => exact absurd (by rw [ho.1]; rfl) e
    | x :: O, ho, hl, hQ =>
      have e1 : nI (x :: O).length - 1 = nI O.length := nI_pred O.length
      have h0 := ho.2 0 x (by simp)
      have e2 : (x :: O).length - 1 - 0 = O.length := by simp
      simp only [List.length_cons] at hl
      refine hK _ _ _ _ ⟨by rw [ho.1, e1]; exact vp_in_nI (by omega) (by decide), ?_⟩
      rw [ho.1, e1, nI_clamp (by omega)]
      refine hK _ _ _ _ ⟨trivial, mvq hQ ?_⟩
      rw [e2] at h0
      exact h0.1
  · have hz : O = [] := by
      match O, ho, hl with
      | [], _, _ => rfl
      | x :: O, ho, hl =>
        simp only [List.length_cons] at hl
        exact absurd (by rw [ho.1] at e; exact e) (nI_ne0 (by simp) (by simp only [List.length_cons]; omega))
    subst hz
    repeat refine hK _ _ _ _ ?_
    exact ⟨trivial, hQ⟩
theorem s_X5_take (hd : 1 ≤ d) {a : Nat} {R : List Nat} (hr : stkR h (a :: R)) (hl : R.length < 80) (hQ : Q (some (.inl (nI a))) (hset h 5 12 (nI R.length))) : mvCal mvMT d 104 [.inr 5] h Q := by
  obtain ⟨d, rfl⟩ := d_pos hd (by decide)
  have e1 : nI (a :: R).length - 1 = nI R.length := nI_pred R.length
  refine ⟨⟨rfl, by decide, rfl⟩, Nat.le_of_ble_eq_true rfl, fun K hK => hK _ _ _ _ ?_⟩
  conv => whnf
  rw [hr.1, e1]
  have e2 : (hset h 5 12 (nI R.length)) 5 12 = nI R.length := by rw [hset_at, if_pos rfl]
  conv => whnf
  rw [e2]
  refine ⟨vp_in_nI hl (by decide), trivial, ?_⟩
  rw [nI_clamp (by omega), hset_other (by decide)]
  have h0 := hr.2 0 a (by simp)
  rw [show (a :: R).length - 1 - 0 = R.length by simp] at h0
  rw [h0]
  exact hQ
theorem stkR_take {a : Nat} {R : List Nat} (hr : stkR h (a :: R)) : stkR (hset h 5 12 (nI R.length)) R := by
  refine ⟨by rw [hset_at, if_pos rfl], fun j b hb => ?_⟩
  have hj := (List.getElem?_eq_some_iff.mp hb).1
  have := hr.2 (j + 1) b (by simpa using hb)
  rw [show (a :: R).length - 1 - (j + 1) = R.length - 1 - j by simp; omega] at this
  rw [hset_other (by decide)]
  exact this
theorem s_X5_give (hd : 1 ≤ d) {a : Nat} {R : List Nat} (hr : stkR h R) (hl : R.length < 80) (hQ : Q none (hset (hset h 42 R.length (nI a)) 5 12 (nI (R.length + 1)))) : mvCal mvMT d 105 [.inr 5, .inl (nI a)] h Q := by
  obtain ⟨d, rfl⟩ := d_pos hd (by decide)
  refine ⟨⟨rfl, by decide, rfl⟩, Nat.le_of_ble_eq_true rfl, fun K hK => hK _ _ _ _ ⟨by rw [hr.1]; exact vp_in_nI hl (by decide), ?_⟩⟩
  rw [hr.1, nI_clamp (by omega)]
  have e1 : (hset h 42 R.length (nI a)) 5 12 = nI R.length := by rw [hset_other (by decide), hr.1]
  conv => whnf
  rw [e1, nI_1]
  exact hQ
theorem stkR_give {a : Nat} {R : List Nat} (hr : stkR h R) : stkR (hset (hset h 42 R.length (nI a)) 5 12 (nI (R.length + 1))) (a :: R) := by
  refine ⟨by rw [hset_at, if_pos rfl]; rfl, fun j b hb => ?_⟩
  have h42 : ∀ i, (hset (hset h 42 R.length (nI a)) 5 12 (nI (R.length + 1))) 42 i = if i = R.length then nI a else h 42 i := by
    intro i; rw [hset_other (by decide), hset_at]
  rw [h42]
  match j, hb with
  | 0, hb =>
    simp at hb
    subst hb
    simp
  | j + 1, hb =>
    have hb : R[j]? = some b := by simpa using hb
    have hj := (List.getElem?_eq_some_iff.mp hb).1
    rw [show (a :: R).length - 1 - (j + 1) = R.length - 1 - j by simp; omega, if_neg (by omega)]
    exact hr.2 j b hb
/-- a node made -/
def cNode (g : mvH) (m : Nat) (k c a b : Int32) : mvH :=
  let g1 := hset (hset (hset (hset g 34 m k) 35 m c) 36 m a) 37 m b
  let g2 := hset (mUn g1 k a (subC (g 38) a)) 38 m (mCo k c a (subC (g 38) a) (subC (g 38) b))
  hset (hset g2 39 m (1 + (if a < 0 then 0 else if k = 6 then 2 * g 39 (ix a) else g 39 (ix a)) + (if b < 0 then 0 else g 39 (ix b)))) 5 2 (nI (m + 1))
theorem mUn_o {g : mvH} {k a x : Int32} {q : Nat} (hq : q ≠ 5) : mUn g k a x q = g q := by
  unfold mUn
  split
  · exact hset_other hq
  · rfl
theorem mUn_5 {g : mvH} {k a x : Int32} {j : Nat} (hj : j ≠ 16) : mUn g k a x 5 j = g 5 j := by
  unfold mUn
  split
  · rw [hset_at, if_neg hj]
  · rfl
set_option maxHeartbeats 4000000 in
theorem s_X5_node (hd : 2 ≤ d) (k c a b : Int32) {m : Nat} (hm : h 5 2 = nI m) (hm2 : m < 128) (ha : a < 0 ∨ ∃ j, j < m ∧ a = nI j) (hb : b < 0 ∨ ∃ j, j < m ∧ b = nI j) (hQ : Q (some (.inl (nI m))) (cNode h m k c a b)) : mvCal mvMT d 100 [.inr 5, .inl k, .inl c, .inl a, .inl b] h Q := by
  obtain ⟨d, rfl⟩ := d_pos hd (by decide)
  have hin : vp_in (nI m) 128 := vp_in_nI hm2 (by decide)
  have em : (nI m).toNatClampNeg = m := nI_clamp (by omega)
  have va : a < 0 ∨ vp_in a 128 := ha.imp id (fun ⟨j, hj, e⟩ => by rw [e]; exact vp_in_nI (by omega) (by decide))
  have vb : b < 0 ∨ vp_in b 128 := hb.imp id (fun ⟨j, hj, e⟩ => by rw [e]; exact vp_in_nI (by omega) (by decide))
  refine ⟨⟨rfl, by decide, rfl⟩, Nat.le_of_ble_eq_true rfl, fun K hK => hK _ _ _ _ ⟨by rw [hm]; exact hin, ?_⟩⟩
  rw [hm, em]
  have e1 : (hset h 34 m k) 5 2 = nI m := by rw [hset_other (by decide), hm]
  refine ⟨by rw [e1]; exact hin, ?_⟩
  rw [e1, em]
  have e2 : (hset (hset h 34 m k) 35 m c) 5 2 = nI m := by rw [hset_other (by decide), e1]
  refine ⟨by rw [e2]; exact hin, ?_⟩
  rw [e2, em]
  have e3 : (hset (hset (hset h 34 m k) 35 m c) 36 m a) 5 2 = nI m := by rw [hset_other (by decide), e2]
  refine ⟨by rw [e3]; exact hin, ?_⟩
  rw [e3, em]
  unfold cNode at hQ
  dsimp only at hQ
  have g38 : (hset (hset (hset (hset h 34 m k) 35 m c) 36 m a) 37 m b) 38 = h 38 := by rw [hset_other (by decide), hset_other (by decide), hset_other (by decide), hset_other (by decide)]
  have g39 : (hset (hset (hset (hset h 34 m k) 35 m c) 36 m a) 37 m b) 39 = h 39 := by rw [hset_other (by decide), hset_other (by decide), hset_other (by decide), hset_other (by decide)]
  have g52 : (hset (hset (hset (hset h 34 m k) 35 m c) 36 m a) 37 m b) 5 2 = nI m := by rw [hset_other (by decide), e3]
  generalize hset (hset (hset (hset h 34 m k) 35 m c) 36 m a) 37 m b = g1 at *
  conv => whnf
  rw [g52]
  refine s_X5_codesOf (by omega) k c a b va vb ?_
  rw [g38]
  refine ⟨hin, ?_⟩
  rw [em]
  generalize hg2 : hset (mUn g1 k a (subC (h 38) a)) 38 m (mCo k c a (subC (h 38) a) (subC (h 38) b)) = g2 at *
  have q39 : g2 39 = h 39 := by rw [← hg2, hset_other (by decide), mUn_o (by decide), g39]
  have q52 : g2 5 2 = nI m := by rw [← hg2, hset_other (by decide), mUn_5 (by decide), g52]
  conv => whnf
  rw [q52]
  have c116 : ∀ v w, v = 1 + (if a < 0 then 0 else if k = 6 then 2 * h 39 (ix a) else h 39 (ix a)) → w = (if b < 0 then 0 else h 39 (ix b)) → K 116 [some (.inr 5), some (.inl k), some (.inl c), some (.inl a), some (.inl b)] [.inl w, .inl v, .inl (nI m), .inr 39] g2 := by
    intro v w hv hw
    subst hv
    subst hw
    refine hK _ _ _ _ ⟨hin, ?_⟩
    rw [em]
    have r52 : ∀ z, (hset g2 39 m z) 5 2 = nI m := fun z => by rw [hset_other (by decide), q52]
    conv => whnf
    rw [r52, nI_1]
    refine ⟨trivial, ?_⟩
    refine mvq hQ ?_
    rw [hset_at, if_pos rfl, nI_pred]
  have c99 : ∀ v, v = (if a < 0 then 0 else if k = 6 then 2 * h 39 (ix a) else h 39 (ix a)) → K 99 [some (.inr 5), some (.inl k), some (.inl c), some (.inl a), some (.inl b)] [.inl v, .inl 1, .inl (nI m), .inr 39] g2 := by
    intro v hv
    refine hK _ _ _ _ ⟨fun w => ?_, fun w => ?_⟩
    · have w0 : ¬ b < 0 := Int32.not_lt.mpr w
      refine hK _ _ _ _ ⟨vb.resolve_left w0, ?_⟩
      rw [q39]
      exact c116 _ _ (by rw [hv]) (by rw [if_neg w0])
    · exact c116 _ _ (by rw [hv]) (by rw [if_pos (Int32.not_le.mp w)])
  refine ⟨fun w => ?_, fun w => ?_⟩
  · have w0 : ¬ a < 0 := Int32.not_lt.mpr w
    refine hK _ _ _ _ ⟨fun w6 => ?_, fun w6 => ⟨va.resolve_left w0, ?_⟩⟩
    · refine hK _ _ _ _ ⟨va.resolve_left w0, ?_⟩
      rw [q39]
      exact c99 _ (by rw [if_neg w0, if_neg w6])
    · rw [q39]
      exact c99 _ (by rw [if_neg w0, if_pos w6])
  · exact c99 _ (by rw [if_pos (Int32.not_le.mp w)])
end M2
