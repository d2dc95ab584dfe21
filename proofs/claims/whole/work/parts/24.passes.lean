/-! TREE's passes over its nodes -/
section PS
variable {d : Nat} {h : mvH} {Q : Option mvV → mvH → Prop}
def cIns (h : mvH) (q : Nat) (x : Int32) : Int32 := if x < 0 then 0 else if 60 ≤ x then 0 else h q (ix x)
theorem s_X2_inside (hd : 1 ≤ d) (q : Nat) (hq : q = 12 ∨ q = 13) (x : Int32) (hQ : Q (some (.inl (cIns h q x))) h) : mvCal mvMT d 38 [.inr q, .inl x] h Q := by
  obtain ⟨d, rfl⟩ := d_pos hd (by decide)
  rcases hq with rfl | rfl
  all_goals
    refine ⟨rfl, Nat.le_of_ble_eq_true rfl, fun K hK => hK _ _ _ _ ⟨fun e => ?_, fun e => ⟨fun e2 => ?_, fun e2 => ?_⟩⟩⟩
    · repeat refine hK _ _ _ _ ?_
      exact ⟨trivial, mvq hQ (by simp [cIns, e])⟩
    · have e2 : x < 60 := e2
      refine hK _ _ _ _ ⟨vp_in_i e e2 (by decide), ?_⟩
      repeat refine hK _ _ _ _ ?_
      exact ⟨trivial, mvq hQ (by simp [cIns, e, Int32.not_le.mpr e2])⟩
    · have e2 : ¬ x < 60 := e2
      repeat refine hK _ _ _ _ ?_
      exact ⟨trivial, mvq hQ (by simp [cIns, e, Int32.not_lt.mp e2])⟩
/-- the greater codes of two sets of codes: the first c codes -/
def cGr (l r : Int32) : Nat → Int32
  | 0 => 0
  | c + 1 =>
    let u := ((2 : Int32) <<< (nI c &&& 31)) - 1
    let a : Int32 := if (l >>> (nI c &&& 31)) &&& 1 = 0 then 0 else if r &&& u = 0 then 0 else 1
    let b : Int32 := if (r >>> (nI c &&& 31)) &&& 1 = 0 then 0 else if l &&& u = 0 then 0 else 1
    cGr l r c ||| (if ¬ a = 0 then (1 : Int32) <<< (nI c &&& 31) else if b = 0 then 0 else (1 : Int32) <<< (nI c &&& 31))
set_option maxHeartbeats 4000000 in
theorem s_X2_greaterCodes (hd : 1 ≤ d) (l r : Int32) (hQ : Q (some (.inl (cGr l r 6))) h) : mvCal mvMT d 36 [.inl l, .inl r] h Q := by
  obtain ⟨d, rfl⟩ := d_pos hd (by decide)
  refine ⟨rfl, Nat.le_of_ble_eq_true rfl, fun K hK => hK _ _ _ _ ?_⟩
  have loop : ∀ k c, c + k = 6 → ∀ z1 z2 z3, K 4 [some (.inl l), some (.inl r), some (.inl (cGr l r c)), some (.inl (nI c)), z1, z2, z3] [] h := by
    intro k
    induction k with
    | zero =>
      intro c hc z1 z2 z3
      obtain rfl : c = 6 := by omega
      exact hK _ _ _ _ ⟨fun _ => hK _ _ _ _ ⟨trivial, hQ⟩, fun e => absurd (by decide) e⟩
    | succ k ih =>
      intro c hc z1 z2 z3
      have h1 := ih (c + 1) (by omega)
      unfold cGr at h1
      dsimp only at h1
      generalize hu : ((2 : Int32) <<< (nI c &&& 31)) - 1 = u at h1
      generalize ha : (if (l >>> (nI c &&& 31)) &&& 1 = 0 then (0 : Int32) else if r &&& u = 0 then 0 else 1) = a at h1
      generalize hb : (if (r >>> (nI c &&& 31)) &&& 1 = 0 then (0 : Int32) else if l &&& u = 0 then 0 else 1) = b at h1
      have e79 : ∀ v, v = (if ¬ a = 0 then (1 : Int32) <<< (nI c &&& 31) else if b = 0 then 0 else (1 : Int32) <<< (nI c &&& 31)) → K 79 [some (.inl l), some (.inl r), some (.inl (cGr l r c)), some (.inl (nI c)), some (.inl u), some (.inl a), some (.inl b)] [.inl v, .inl (cGr l r c)] h := by
        intro v hv
        subst hv
        refine hK _ _ _ _ ?_
        rw [← nI_1] at h1
        exact h1 _ _ _
      have e59 : ∀ v, v = b → ∀ z, K 59 [some (.inl l), some (.inl r), some (.inl (cGr l r c)), some (.inl (nI c)), some (.inl u), some (.inl a), z] [.inl v] h := by
        intro v hv z
        subst hv
        refine hK _ _ _ _ ⟨fun e => ?_, fun e => ⟨fun e2 => ?_, fun e2 => ?_⟩⟩
        · refine hK _ _ _ _ ?_
          exact e79 _ (by rw [if_pos e])
        · refine hK _ _ _ _ ?_
          exact e79 _ (by rw [if_neg (fun z => z e), if_pos e2])
        · refine hK _ _ _ _ ?_
          exact e79 _ (by rw [if_neg (fun z => z e), if_neg e2])
      have e37 : ∀ v, v = a → ∀ z z2, K 37 [some (.inl l), some (.inl r), some (.inl (cGr l r c)), some (.inl (nI c)), some (.inl u), z, z2] [.inl v] h := by
        intro v hv z z2
        subst hv
        refine hK _ _ _ _ ⟨fun e => ?_, fun e => ⟨fun e2 => ?_, fun e2 => ?_⟩⟩
        · refine hK _ _ _ _ ?_
          exact e59 _ (by rw [← hb, if_pos e]) _
        · refine hK _ _ _ _ ?_
          exact e59 _ (by rw [← hb, if_neg e, if_pos e2]) _
        · exact e59 _ (by rw [← hb, if_neg e, if_neg e2]) _
      refine hK _ _ _ _ ⟨fun e => absurd e (nI_lt6 (by omega)), fun _ => ⟨fun e => ?_, fun e => ⟨fun e2 => ?_, fun e2 => ?_⟩⟩⟩
      · refine hK _ _ _ _ ?_
        subst hu
        exact e37 _ (by rw [← ha, if_pos e]) _ _
      · refine hK _ _ _ _ ?_
        subst hu
        exact e37 _ (by rw [← ha, if_neg e, if_pos e2]) _ _
      · subst hu
        exact e37 _ (by rw [← ha, if_neg e, if_neg e2]) _ _
  exact loop 6 0 (by omega) _ _ _
/-- codes, by kind, mark and the codes of what lies inside -/
def cCo (k m l r : Int32) : Int32 :=
  if k = 1 then 2
  else if k = 3 then (1 : Int32) <<< (m &&& 31)
  else if k = 4 then l ||| r
  else if k = 5 then l
  else if k = 6 then l &&& (-2)
  else if k = 7 then ((l &&& 3) ||| (if l &&& 4 = 0 then 0 else 1)) ||| ((l >>> ((3 : Int32) &&& 31)) <<< ((2 : Int32) &&& 31))
  else if k = 8 then l
  else if k = 9 then (l &&& (-2)) ||| (if l &&& 1 = 0 then 0 else r)
  else if k = 10 then cGr l r 6
  else 1
set_option maxHeartbeats 4000000 in
theorem s_X2_codesOf (hd : 2 ≤ d) (t : Nat) (ht : t < 60) (hQ : Q (some (.inl (cCo (h 8 t) (h 9 t) (cIns h 12 (h 10 t)) (cIns h 12 (h 11 t))))) h) : mvCal mvMT d 35 [.inr 2, .inl (nI t)] h Q := by
  obtain ⟨d, rfl⟩ := d_pos hd (by decide)
  have hx : vp_in (nI t) 60 := vp_in_nI ht (by decide)
  have et : (nI t).toNatClampNeg = t := nI_clamp (by omega)
  refine ⟨⟨rfl, by decide, rfl⟩, Nat.le_of_ble_eq_true rfl, fun K hK => hK _ _ _ _ ⟨hx, ?_⟩⟩
  rw [et]
  refine s_X2_inside (by omega) 12 (by decide) _ ?_
  refine ⟨hx, ?_⟩
  rw [et]
  refine s_X2_inside (by omega) 12 (by decide) _ ?_
  refine ⟨hx, ?_⟩
  rw [et]
  generalize cIns h 12 (h 10 t) = l at hQ ⊢
  generalize cIns h 12 (h 11 t) = r at hQ ⊢
  refine ⟨fun e => ?_, fun e1 => ⟨fun e => ?_, fun e2 => ⟨fun e => ?_, fun e3 => ⟨fun e => ?_, fun e4 => ⟨fun e => ?_, fun e5 => ⟨fun e => ?_, fun e6 => ⟨fun e => ?_, fun e7 => ⟨fun e => ?_, fun e8 => ⟨fun e => ?_, fun e9 => ⟨fun e => ?_, fun e10 => ?_⟩⟩⟩⟩⟩⟩⟩⟩⟩⟩
  · exact hK _ _ _ _ ⟨trivial, mvq hQ (by simp [cCo, e])⟩
  · exact hK _ _ _ _ ⟨trivial, mvq hQ (by simp [cCo, e])⟩
  · refine hK _ _ _ _ ⟨hx, trivial, ?_⟩
    rw [et]
    exact mvq hQ (by simp [cCo, e])
  · exact hK _ _ _ _ ⟨trivial, mvq hQ (by simp [cCo, e])⟩
  · exact hK _ _ _ _ ⟨trivial, mvq hQ (by simp [cCo, e])⟩
  · exact hK _ _ _ _ ⟨trivial, mvq hQ (by simp [cCo, e])⟩
  · refine hK _ _ _ _ ⟨fun z => ?_, fun z => ?_⟩
    · refine hK _ _ _ _ ?_
      exact hK _ _ _ _ ⟨trivial, mvq hQ (by simp [cCo, e, z])⟩
    · refine hK _ _ _ _ ?_
      exact ⟨trivial, mvq hQ (by simp [cCo, e, z])⟩
  · exact hK _ _ _ _ ⟨trivial, mvq hQ (by simp [cCo, e])⟩
  · refine hK _ _ _ _ ⟨fun z => ?_, fun z => ?_⟩
    · refine hK _ _ _ _ ?_
      exact hK _ _ _ _ ⟨trivial, mvq hQ (by simp [cCo, e, z])⟩
    · refine hK _ _ _ _ ?_
      exact ⟨trivial, mvq hQ (by simp [cCo, e, z])⟩
  · refine hK _ _ _ _ ?_
    refine s_X2_greaterCodes (by omega) _ _ ?_
    exact ⟨trivial, mvq hQ (by simp [cCo, e])⟩
  · exact hK _ _ _ _ ⟨trivial, mvq hQ (by simp [cCo, e1, e2, e3, e4, e5, e6, e7, e8, e9, e10])⟩
/-- codes of the first k nodes -/
def cCd (h : mvH) : Nat → mvH
  | 0 => h
  | k + 1 => hset (cCd h k) 12 k (cCo ((cCd h k) 8 k) ((cCd h k) 9 k) (cIns (cCd h k) 12 ((cCd h k) 10 k)) (cIns (cCd h k) 12 ((cCd h k) 11 k)))
theorem cCd_o : ∀ k q, q ≠ 12 → cCd h k q = h q := by
  intro k
  induction k with
  | zero => intro q _; rfl
  | succ k ih => intro q hq; unfold cCd; rw [hset_other hq, ih q hq]
/-- node t is no loop, or a safe one -/
def cSf (h : mvH) (t : Nat) : Prop := h 8 t = 6 → cIns (cCd h (t + 1)) 12 (h 10 t) &&& 1 = 0
set_option maxHeartbeats 4000000 in
theorem s_X2_allLoopsAreSafe (hd : 3 ≤ d) {m : Nat} (hm : h 2 8 = nI m) (hm2 : m ≤ 60) (hno : ∀ t, t < m → ¬ cSf h t → Q (some (.inl 0)) (cCd h (t + 1))) (hok : (∀ t, t < m → cSf h t) → Q (some (.inl 1)) (cCd h m)) : mvCal mvMT d 34 [.inr 2] h Q := by
  obtain ⟨d, rfl⟩ := d_pos hd (by decide)
  refine ⟨⟨rfl, by decide, rfl⟩, Nat.le_of_ble_eq_true rfl, fun K hK => hK _ _ _ _ ?_⟩
  have loop : ∀ k t, t + k = m → (∀ s, s < t → cSf h s) → K 2 [some (.inr 2), some (.inl (nI t))] [] (cCd h t) := by
    intro k
    induction k with
    | zero =>
      intro t ht hs
      obtain rfl : t = m := by omega
      refine hK _ _ _ _ ⟨fun _ => hK _ _ _ _ ⟨Or.inr rfl, hok hs⟩, fun e => absurd (show (cCd h t) 2 8 ≤ nI t by rw [cCd_o t 2 (by decide), hm]; exact nI_le (Nat.le_refl _) (by omega)) e⟩
    | succ k ih =>
      intro t ht hs
      have hx : vp_in (nI t) 60 := vp_in_nI (by omega) (by decide)
      have et : (nI t).toNatClampNeg = t := nI_clamp (by omega)
      refine hK _ _ _ _ ⟨fun e => absurd (show (cCd h t) 2 8 ≤ nI t from e) (by rw [cCd_o t 2 (by decide), hm]; exact nI_ge (by omega) (by omega)), fun _ => ?_⟩
      refine s_X2_codesOf (by omega) t (by omega) ?_
      refine ⟨hx, hx, ?_⟩
      rw [et]
      have e52 : cSf h t → K 52 [some (.inr 2), some (.inl (nI t))] [] (cCd h (t + 1)) := by
        intro hsf
        refine hK _ _ _ _ ?_
        have h1 := ih (t + 1) (by omega) (fun s hs2 => by
          rcases Nat.lt_or_ge s t with z | z
          · exact hs s z
          · obtain rfl : s = t := by omega
            exact hsf)
        rw [← nI_1] at h1
        exact h1
      have e8 : (cCd h (t + 1)) 8 t = h 8 t := by rw [cCd_o (t + 1) 8 (by decide)]
      have e10 : (cCd h (t + 1)) 10 t = h 10 t := by rw [cCd_o (t + 1) 10 (by decide)]
      have hno' := hno t (by omega)
      refine ⟨fun e => ?_, fun e => ⟨hx, ?_⟩⟩
      · exact e52 (fun z => absurd (by rw [← z]; exact e8) e)
      · rw [et]
        refine s_X2_inside (by omega) 12 (by decide) _ ?_
        have e6 : h 8 t = 6 := by rw [← e8]; exact e
        have hio : cIns (cCd h (t + 1)) 12 ((cCd h (t + 1)) 10 t) = cIns (cCd h (t + 1)) 12 (h 10 t) := by rw [e10]
        refine ⟨fun z => ?_, fun z => ?_⟩
        · exact e52 (fun _ => by rw [← hio]; exact z)
        · exact ⟨Or.inl rfl, hno' (fun w => z (by have := w e6; rw [← hio] at this; exact this))⟩
  exact loop m 0 (by omega) (fun s hs => by omega)
/-- things of the first k nodes -/
def cTh (h : mvH) : Nat → mvH
  | 0 => h
  | k + 1 => hset (cTh h k) 13 k (1 + cIns (cTh h k) 13 ((cTh h k) 10 k) + (if (cTh h k) 8 k = 6 then cIns (cTh h k) 13 ((cTh h k) 10 k) else cIns (cTh h k) 13 ((cTh h k) 11 k)))
theorem cTh_o : ∀ k q, q ≠ 13 → cTh h k q = h q := by
  intro k
  induction k with
  | zero => intro q _; rfl
  | succ k ih => intro q hq; unfold cTh; rw [hset_other hq, ih q hq]
theorem s_X2_root (hd : 1 ≤ d) (hQ : Q (some (.inl (h 2 8 - 1))) h) : mvCal mvMT d 16 [.inr 2] h Q := by
  obtain ⟨d, rfl⟩ := d_pos hd (by decide)
  exact ⟨⟨rfl, by decide, rfl⟩, Nat.le_of_ble_eq_true rfl, fun K hK => hK _ _ _ _ ⟨trivial, hQ⟩⟩
set_option maxHeartbeats 4000000 in
theorem s_X2_thingsOfAll (hd : 2 ≤ d) {m : Nat} (hm : h 2 8 = nI m) (hm2 : m ≤ 60) (hQ : Q (some (.inl (cIns (cTh h m) 13 (nI m - 1)))) (cTh h m)) : mvCal mvMT d 37 [.inr 2] h Q := by
  obtain ⟨d, rfl⟩ := d_pos hd (by decide)
  refine ⟨⟨rfl, by decide, rfl⟩, Nat.le_of_ble_eq_true rfl, fun K hK => hK _ _ _ _ ?_⟩
  have loop : ∀ k t, t + k = m → ∀ z1 z2, K 2 [some (.inr 2), some (.inl (nI t)), z1, z2] [] (cTh h t) := by
    intro k
    induction k with
    | zero =>
      intro t ht z1 z2
      obtain rfl : t = m := by omega
      have c2 := cTh_o (h := h) t 2 (by decide)
      refine hK _ _ _ _ ⟨fun _ => ?_, fun e => absurd (show (cTh h t) 2 8 ≤ nI t by rw [c2, hm]; exact nI_le (Nat.le_refl _) (by omega)) e⟩
      refine hK _ _ _ _ ?_
      refine s_X2_root (by omega) ?_
      refine s_X2_inside (by omega) 13 (by decide) _ ?_
      refine ⟨trivial, mvq hQ ?_⟩
      rw [c2, hm]
    | succ k ih =>
      intro t ht z1 z2
      have h1 := ih (t + 1) (by omega)
      unfold cTh at h1
      have c2 := cTh_o (h := h) t 2 (by decide)
      generalize cTh h t = g at h1 c2 ⊢
      have hx : vp_in (nI t) 60 := vp_in_nI (by omega) (by decide)
      have et : (nI t).toNatClampNeg = t := nI_clamp (by omega)
      refine hK _ _ _ _ ⟨fun e => absurd (show g 2 8 ≤ nI t from e) (by rw [c2, hm]; exact nI_ge (by omega) (by omega)), fun _ => ⟨hx, ?_⟩⟩
      rw [et]
      refine s_X2_inside (by omega) 13 (by decide) _ ?_
      refine ⟨hx, ?_⟩
      rw [et]
      have e52 : ∀ v, v = (if g 8 t = 6 then cIns g 13 (g 10 t) else cIns g 13 (g 11 t)) → ∀ z, K 52 [some (.inr 2), some (.inl (nI t)), some (.inl (cIns g 13 (g 10 t))), z] [.inl v] g := by
        intro v hv z
        subst hv
        refine hK _ _ _ _ ⟨hx, ?_⟩
        rw [et]
        rw [← nI_1] at h1
        exact h1 _ _
      refine ⟨fun e => ?_, fun e => ?_⟩
      · refine hK _ _ _ _ ⟨hx, ?_⟩
        rw [et]
        refine s_X2_inside (by omega) 13 (by decide) _ ?_
        exact e52 _ (by rw [if_neg e]) _
      · exact e52 _ (by rw [if_pos e]) _
  exact loop m 0 (by omega) _ _
end PS
