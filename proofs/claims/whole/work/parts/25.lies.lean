/-! TREE: does all lie as it must -/
section LI
variable {d : Nat} {h : mvH} {Q : Option mvV → mvH → Prop}
def cBit (m : Int32) : Int32 := (1 : Int32) <<< ((m - 8) &&& 31)
theorem s_X2_localBit (hd : 1 ≤ d) (t : Nat) (ht : t < 60) (hQ : Q (some (.inl (cBit (h 9 t)))) h) : mvCal mvMT d 33 [.inr 2, .inl (nI t)] h Q := by
  obtain ⟨d, rfl⟩ := d_pos hd (by decide)
  have hx : vp_in (nI t) 60 := vp_in_nI ht (by decide)
  have et : (nI t).toNatClampNeg = t := nI_clamp (by omega)
  refine ⟨⟨rfl, by decide, rfl⟩, Nat.le_of_ble_eq_true rfl, fun K hK => hK _ _ _ _ ⟨hx, trivial, ?_⟩⟩
  rw [et]
  exact hQ
/-- does a node lie right: kind, mark, traps and locals around -/
def cLr (k m t l : Int32) : Int32 := if k = 3 then (if t < m - 1 then 0 else 1) else if k = 2 ∨ k = 4 ∨ k = 5 then (if m < 8 then 1 else if l &&& cBit m = 0 then 0 else 1) else 1
set_option maxHeartbeats 4000000 in
theorem s_X2_liesRight (hd : 2 ≤ d) (t : Nat) (ht : t < 60) (hQ : Q (some (.inl (cLr (h 8 t) (h 9 t) (h 14 t) (h 15 t)))) h) : mvCal mvMT d 31 [.inr 2, .inl (nI t)] h Q := by
  obtain ⟨d, rfl⟩ := d_pos hd (by decide)
  have hx : vp_in (nI t) 60 := vp_in_nI ht (by decide)
  have et : (nI t).toNatClampNeg = t := nI_clamp (by omega)
  refine ⟨⟨rfl, by decide, rfl⟩, Nat.le_of_ble_eq_true rfl, fun K hK => hK _ _ _ _ ⟨hx, ?_⟩⟩
  rw [et]
  have e59 : (h 8 t = 2 ∨ h 8 t = 4 ∨ h 8 t = 5) → K 59 [some (.inr 2), some (.inl (nI t))] [] h := by
    intro hk
    have hk3 : ¬ h 8 t = 3 := by rcases hk with z | z | z <;> rw [z] <;> decide
    unfold cLr at hQ
    rw [if_neg hk3, if_pos hk] at hQ
    refine hK _ _ _ _ ⟨hx, ?_⟩
    rw [et]
    refine ⟨fun e => ?_, fun e => ⟨hx, ?_⟩⟩
    · rw [if_pos e] at hQ
      refine hK _ _ _ _ ?_
      exact hK _ _ _ _ ⟨Or.inr rfl, hQ⟩
    · rw [if_neg e] at hQ
      rw [et]
      refine s_X2_localBit (by omega) t ht ?_
      refine ⟨fun e2 => ?_, fun e2 => ?_⟩
      · rw [if_pos e2] at hQ
        refine hK _ _ _ _ ?_
        exact hK _ _ _ _ ⟨Or.inl rfl, hQ⟩
      · rw [if_neg e2] at hQ
        refine hK _ _ _ _ ?_
        exact hK _ _ _ _ ⟨Or.inr rfl, hQ⟩
  refine ⟨fun e => e59 (Or.inl e), fun e1 => ⟨fun e => ?_, fun e2 => ⟨fun e => e59 (Or.inr (Or.inl e)), fun e3 => ⟨fun e => e59 (Or.inr (Or.inr e)), fun e4 => ?_⟩⟩⟩⟩
  · unfold cLr at hQ
    rw [if_pos e] at hQ
    refine hK _ _ _ _ ⟨hx, ?_⟩
    rw [et]
    refine ⟨hx, ?_⟩
    rw [et]
    refine ⟨fun z => ?_, fun z => ?_⟩
    · rw [if_pos z] at hQ
      refine hK _ _ _ _ ?_
      exact hK _ _ _ _ ⟨Or.inl rfl, hQ⟩
    · rw [if_neg z] at hQ
      refine hK _ _ _ _ ?_
      exact ⟨Or.inr rfl, hQ⟩
  · unfold cLr at hQ
    rw [if_neg e2, if_neg (fun z => z.elim e1 (fun z => z.elim e3 e4))] at hQ
    exact hK _ _ _ _ ⟨Or.inr rfl, hQ⟩
/-- what lies inside is told what lies around it -/
def cTell (h : mvH) (t : Nat) (x : Int32) : mvH := if x = -1 then h else hset (hset h 14 (ix x) (h 14 t + (if h 8 t = 7 then 1 else 0))) 15 (ix x) (h 15 t ||| (if h 8 t = 8 then cBit (h 9 t) else 0))
theorem cTell_o {t : Nat} {x : Int32} {q : Nat} (h1 : q ≠ 14) (h2 : q ≠ 15) : cTell h t x q = h q := by
  unfold cTell
  split
  · rfl
  · rw [hset_other h2, hset_other h1]
set_option maxHeartbeats 4000000 in
theorem s_X2_tellAround (hd : 2 ≤ d) (t : Nat) (ht : t < 60) (x : Int32) (hx : x = -1 ∨ vp_in x 60) (hQ : Q none (cTell h t x)) : mvCal mvMT d 32 [.inr 2, .inl (nI t), .inl x] h Q := by
  obtain ⟨d, rfl⟩ := d_pos hd (by decide)
  have hx1 : vp_in (nI t) 60 := vp_in_nI ht (by decide)
  have et : (nI t).toNatClampNeg = t := nI_clamp (by omega)
  refine ⟨⟨rfl, by decide, rfl⟩, Nat.le_of_ble_eq_true rfl, fun K hK => hK _ _ _ _ ⟨fun e => ?_, fun e => ?_⟩⟩
  · have hv := hx.resolve_left e
    unfold cTell at hQ
    rw [if_neg e] at hQ
    refine hK _ _ _ _ ⟨hx1, ?_⟩
    rw [et]
    refine ⟨hx1, ?_⟩
    rw [et]
    generalize hb : (if h 8 t = 8 then cBit (h 9 t) else 0) = b at hQ
    generalize ha : (if h 8 t = 7 then (1 : Int32) else 0) = a at hQ
    have e66 : ∀ g v, v = b → g = hset h 14 (ix x) (h 14 t + a) → K 66 [some (.inr 2), some (.inl (nI t)), some (.inl x)] [.inl v, .inl (h 15 t), .inl x, .inr 15] g := by
      intro g v hv2 hg
      subst hv2
      subst hg
      exact hK _ _ _ _ ⟨hv, hQ⟩
    have e33 : ∀ v, v = a → K 33 [some (.inr 2), some (.inl (nI t)), some (.inl x)] [.inl v, .inl (h 14 t), .inl x, .inr 14] h := by
      intro v hv2
      subst hv2
      refine hK _ _ _ _ ⟨hv, hx1, ?_⟩
      rw [et]
      refine ⟨hx1, ?_⟩
      rw [et]
      have c8 : hset h 14 x.toNatClampNeg (h 14 t + v) 8 = h 8 := hset_other (by decide)
      have c15 : hset h 14 x.toNatClampNeg (h 14 t + v) 15 = h 15 := hset_other (by decide)
      have c9 : hset h 14 x.toNatClampNeg (h 14 t + v) 9 = h 9 := hset_other (by decide)
      rw [c8, c15]
      refine ⟨fun z => ?_, fun z => ?_⟩
      · refine hK _ _ _ _ ?_
        exact e66 _ _ (by rw [← hb, if_neg z]) rfl
      · refine s_X2_localBit (by omega) t ht ?_
        rw [c9]
        exact e66 _ _ (by rw [← hb, if_pos z]) rfl
    refine ⟨fun z => ?_, fun z => ?_⟩
    · refine hK _ _ _ _ ?_
      exact e33 _ (by rw [← ha, if_neg z])
    · exact e33 _ (by rw [← ha, if_pos z])
  · unfold cTell at hQ
    rw [if_pos e] at hQ
    exact hQ
/-- told from the root down, k nodes -/
def cTa (h : mvH) (m : Nat) : Nat → mvH
  | 0 => hset (hset h 14 (m - 1) 0) 15 (m - 1) 0
  | k + 1 => cTell (cTell (cTa h m k) (m - 1 - k) ((cTa h m k) 10 (m - 1 - k))) (m - 1 - k) ((cTa h m k) 11 (m - 1 - k))
theorem cTa_o {m : Nat} : ∀ k q, q ≠ 14 → q ≠ 15 → cTa h m k q = h q := by
  intro k
  induction k with
  | zero => intro q h1 h2; unfold cTa; rw [hset_other h2, hset_other h1]
  | succ k ih => intro q h1 h2; unfold cTa; rw [cTell_o h1 h2, cTell_o h1 h2, ih q h1 h2]
def cLrT (h : mvH) (m k : Nat) : Int32 := cLr (h 8 (m - 1 - k)) (h 9 (m - 1 - k)) ((cTa h m k) 14 (m - 1 - k)) ((cTa h m k) 15 (m - 1 - k))
theorem cLr_01 (k m t l : Int32) : cLr k m t l = 0 ∨ cLr k m t l = 1 := by
  unfold cLr
  repeat' split
  all_goals first | exact Or.inl rfl | exact Or.inr rfl
set_option maxHeartbeats 4000000 in
theorem s_X2_allLieRight (hd : 3 ≤ d) {m : Nat} (hm : h 2 8 = nI m) (hm1 : 1 ≤ m) (hm2 : m ≤ 60) (hch : ∀ t, t < m → (h 10 t = -1 ∨ vp_in (h 10 t) 60) ∧ (h 11 t = -1 ∨ vp_in (h 11 t) 60)) (hno : ∀ k, k < m → cLrT h m k = 0 → Q (some (.inl 0)) (cTa h m k)) (hok : (∀ k, k < m → ¬ cLrT h m k = 0) → Q (some (.inl 1)) (cTa h m m)) : mvCal mvMT d 30 [.inr 2] h Q := by
  obtain ⟨d, rfl⟩ := d_pos hd (by decide)
  have hr : nI m - 1 = nI (m - 1) := by
    have := nI_pred (m - 1)
    rw [show m - 1 + 1 = m by omega] at this
    exact this
  have hxr : vp_in (nI (m - 1)) 60 := vp_in_nI (by omega) (by decide)
  refine ⟨⟨rfl, by decide, rfl⟩, Nat.le_of_ble_eq_true rfl, fun K hK => hK _ _ _ _ ⟨fun e => absurd e (by rw [hm]; exact nI_nle (by omega) (by omega)), fun _ => ?_⟩⟩
  conv => whnf
  rw [hm, hr]
  refine ⟨hxr, ?_⟩
  have c2 : ∀ v, hset h 14 (nI (m - 1)).toNatClampNeg v 2 = h 2 := fun v => hset_other (by decide)
  conv => whnf
  rw [c2, hm, hr]
  refine ⟨hxr, ?_⟩
  rw [nI_clamp (by omega)]
  refine hK _ _ _ _ ?_
  have c22 : (hset (hset h 14 (m - 1) 0) 15 (m - 1) 0) 2 = h 2 := by rw [hset_other (by decide), hset_other (by decide)]
  conv => whnf
  rw [c22, hm, hr]
  have loop : ∀ k j, j + k = m → (∀ i, i < j → ¬ cLrT h m i = 0) → ∀ x, x + 1 = nI (m - j) → K 38 [some (.inr 2), some (.inl x)] [] (cTa h m j) := by
    intro k
    induction k with
    | zero =>
      intro j hj hs x hxx
      obtain rfl : j = m := by omega
      have hx0 : x = -1 := by
        rw [Nat.sub_self] at hxx
        have : x + 1 + (-1) = nI 0 + (-1) := by rw [hxx]
        rw [Int32.add_assoc, show (1 : Int32) + (-1) = 0 by decide, Int32.add_zero] at this
        rw [this]; decide
      subst hx0
      refine hK _ _ _ _ ⟨fun _ => hK _ _ _ _ ⟨Or.inr rfl, hok hs⟩, fun e => absurd (by decide) e⟩
    | succ k ih =>
      intro j hj hs x hxx
      have hxe : x = nI (m - 1 - j) := by
        have h1 : nI (m - j) = nI (m - 1 - j) + 1 := by rw [nI_1, show m - 1 - j + 1 = m - j by omega]
        rw [h1] at hxx
        have : x + 1 + (-1) = nI (m - 1 - j) + 1 + (-1) := by rw [hxx]
        rwa [Int32.add_assoc, Int32.add_assoc, show (1 : Int32) + (-1) = 0 by decide, Int32.add_zero, Int32.add_zero] at this
      subst hxe
      generalize hte : m - 1 - j = t at hxx ⊢
      have htm : t < m := by omega
      have hx1 : vp_in (nI t) 60 := vp_in_nI (by omega) (by decide)
      have et : (nI t).toNatClampNeg = t := nI_clamp (by omega)
      have o8 := cTa_o (h := h) (m := m) j 8 (by decide) (by decide)
      have o9 := cTa_o (h := h) (m := m) j 9 (by decide) (by decide)
      have o10 := cTa_o (h := h) (m := m) j 10 (by decide) (by decide)
      have o11 := cTa_o (h := h) (m := m) j 11 (by decide) (by decide)
      have hl : cLr ((cTa h m j) 8 t) ((cTa h m j) 9 t) ((cTa h m j) 14 t) ((cTa h m j) 15 t) = cLrT h m j := by unfold cLrT; rw [o8, o9, hte]
      refine hK _ _ _ _ ⟨fun e => absurd e (nI_pos (by omega)), fun _ => ?_⟩
      refine s_X2_liesRight (by omega) t (by omega) ?_
      rw [hl]
      refine ⟨fun e => ?_, fun e => ?_⟩
      · refine hK _ _ _ _ ⟨hx1, ?_⟩
        rw [et]
        refine s_X2_tellAround (by omega) t (by omega) _ (by rw [o10]; exact (hch t htm).1) ?_
        refine ⟨hx1, ?_⟩
        rw [et]
        have c11 : (cTell (cTa h m j) t ((cTa h m j) 10 t)) 11 = (cTa h m j) 11 := cTell_o (by decide) (by decide)
        rw [c11]
        refine s_X2_tellAround (by omega) t (by omega) _ (by rw [o11]; exact (hch t htm).2) ?_
        have h1 := ih (j + 1) (by omega) (fun i hi => by
          rcases Nat.lt_or_ge i j with z | z
          · exact hs i z
          · obtain rfl : i = j := by omega
            exact e) (nI t + (-1)) (by rw [Int32.add_assoc, show (-1 : Int32) + 1 = 0 by decide, Int32.add_zero, ← hte, show m - 1 - j = m - (j + 1) by omega])
        unfold cTa at h1
        rw [hte] at h1
        exact h1
      · exact ⟨Or.inl rfl, hno j (by omega) e⟩
  exact loop m 0 (by omega) (fun i hi => by omega) _ (by rw [nI_1, show m - 1 + 1 = m - 0 by omega])
end LI
