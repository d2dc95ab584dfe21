/-! WIRES, what goes round -/
theorem ix_nI {t : Nat} (h : t < 2 ^ 31) : ix (nI t) = t := nI_clamp h
def hfill (h : mvH) (q n : Nat) (v : Int32) : mvH := fun q' => if q' = q then (fun j => if j < n then v else h q j) else h q'
theorem hfill_0 {h : mvH} {q : Nat} {v : Int32} : hfill h q 0 v = h := by
  funext q' j
  by_cases hq : q' = q
  · subst hq; simp [hfill]
  · simp [hfill, hq]
theorem hfill_s {h : mvH} {q n : Nat} {v : Int32} : hset (hfill h q n v) q n v = hfill h q (n + 1) v := by
  funext q' j
  by_cases hq : q' = q
  · subst hq
    simp only [hset, hfill, if_true, upd]
    by_cases hj : j = n
    · subst hj; simp
    · by_cases h2 : j < n
      · simp [hj, h2, Nat.lt_succ_of_lt h2]
      · have h3 : ¬ j < n + 1 := by omega
        simp [hj, h2, h3]
  · simp [hset, hfill, hq]
def isFl (q : Nat) : Prop := q = 6 ∨ q = 22 ∨ q = 23 ∨ q = 24 ∨ q = 25 ∨ q = 27 ∨ q = 29 ∨ q = 30 ∨ q = 31 ∨ q = 32
section WS2
variable {d : Nat} {h : mvH} {Q : Option mvV → mvH → Prop}
set_option maxHeartbeats 4000000 in
theorem s_fill (hd : 1 ≤ d) (q : Nat) (v : Int32) (hq : isFl q) (hQ : Q none (hfill h q (aLen q) v)) : mvCal mvMT d 144 [.inr q, .inl v] h Q := by
  obtain ⟨d, rfl⟩ := d_pos hd (by decide)
  have hn : aLen q < 2 ^ 31 := by rcases hq with rfl | rfl | rfl | rfl | rfl | rfl | rfl | rfl | rfl | rfl <;> decide
  refine ⟨rfl, Nat.le_of_ble_eq_true rfl, fun K hK => hK _ _ _ _ ?_⟩
  have loop : ∀ k i, i + k = aLen q → K 5 [some (.inr q), some (.inl v), some (.inl (nI i)), some (.inl (nI (aLen q)))] [] (hfill h q i v) := by
    intro k
    induction k with
    | zero =>
      intro i hi
      refine hK _ _ _ _ ⟨fun _ => ?_, fun e => absurd (show nI (aLen q) ≤ nI i from nI_le (by omega) (by omega)) e⟩
      refine hK _ _ _ _ ?_
      have : i = aLen q := by omega
      subst this
      exact hQ
    | succ k ih =>
      intro i hi
      have hlt : i < aLen q := by omega
      have h1 := ih (i + 1) (by omega)
      rw [← hfill_s] at h1
      rcases hq with rfl | rfl | rfl | rfl | rfl | rfl | rfl | rfl | rfl | rfl
      all_goals
        refine hK _ _ _ _ ⟨fun e => absurd e (nI_ge hlt hn), fun _ => ⟨vp_in_nI hlt hn, ?_⟩⟩
        show K 5 [some (.inr _), some (.inl v), some (.inl (nI i + 1)), some (.inl (nI _))] [] (hset (hfill h _ i v) _ (nI i).toNatClampNeg v)
        rw [nI_clamp (Nat.lt_trans hlt hn), nI_1]
        exact h1
  have h0 := loop (aLen q) 0 (by omega)
  rw [hfill_0] at h0
  rcases hq with rfl | rfl | rfl | rfl | rfl | rfl | rfl | rfl | rfl | rfl
  all_goals exact h0
def cEmit (h : mvH) (s v : Int32) : mvH := if s < 0 then h else if 128 ≤ s then h else hset h 30 (ix s) (lOr (h 30 (ix s)) v)
theorem s_X3_emit (hd : 2 ≤ d) (x v : Int32) (hQ : Q none (cEmit h x v)) : mvCal mvMT d 56 [.inr 3, .inl x, .inl v] h Q := by
  obtain ⟨d, rfl⟩ := d_pos hd (by decide)
  refine ⟨⟨rfl, by decide, rfl⟩, Nat.le_of_ble_eq_true rfl, fun K hK => hK _ _ _ _ ⟨fun e => ?_, fun e => ⟨fun e2 => ?_, fun e2 => ?_⟩⟩⟩
  · repeat refine hK _ _ _ _ ?_
    exact mvqh hQ rfl (by simp [cEmit, e])
  · have e2 : 128 ≤ x := e2
    repeat refine hK _ _ _ _ ?_
    exact mvqh hQ rfl (by simp [cEmit, e, e2])
  · have e2 : ¬ 128 ≤ x := e2
    have hx := vp_in_i e (Int32.not_le.mp e2) (n := 128) (by decide)
    refine ⟨hx, ?_⟩
    refine s_X3_or (by omega) _ _ ?_
    refine ⟨hx, ?_⟩
    repeat refine hK _ _ _ _ ?_
    exact mvqh hQ rfl (by simp [cEmit, e, e2])
/-- a thing is come into -/
def cCome (h : mvH) (t : Nat) (f : Int32) : mvH :=
  let x := nI t
  let o := h 17 t
  let h3 := if o = -1 then
      cPut (cPut (cPut h 23 t (if f = 0 then 65535 else -65536)) 24 t (if f = 0 then -65536 else 65535)) 25 t (-65536)
    else
      let h1 := cPut h 23 t (cGo h o (if h 18 (ix o) = x then 1 else 0))
      let h2 := cPut h1 24 t (cRes h1 o)
      cPut h2 25 t (cSusp h2 o)
  if h3 16 t = 2 then cEmit h3 (h3 20 t) (h3 23 t) else h3
set_option maxHeartbeats 4000000 in
theorem s_X3_comeInto (hd : 4 ≤ d) (t : Nat) (f : Int32) (ht : t < 120) (ho : h 17 t = -1 ∨ vp_in (h 17 t) 120) (hQ : Q none (cCome h t f)) : mvCal mvMT d 55 [.inr 3, .inl (nI t), .inl f] h Q := by
  obtain ⟨d, rfl⟩ := d_pos hd (by decide)
  have hx : vp_in (nI t) 120 := vp_in_nI ht (by decide)
  have ht2 : (nI t).toNatClampNeg = t := nI_clamp (by omega)
  refine ⟨⟨rfl, by decide, rfl⟩, Nat.le_of_ble_eq_true rfl, fun K hK => hK _ _ _ _ ⟨hx, ?_⟩⟩
  rw [ht2]
  have fin : ∀ h3 : mvH, Q none (if h3 16 t = 2 then cEmit h3 (h3 20 t) (h3 23 t) else h3) → ∀ z, K 123 [some (.inr 3), some (.inl (nI t)), some (.inl f), some (.inl z)] [] h3 := by
    intro h3 hq z
    refine hK _ _ _ _ ⟨hx, ?_⟩
    rw [ht2]
    refine ⟨fun e => ?_, fun e => ⟨hx, ?_⟩⟩
    · rw [if_neg e] at hq
      exact hK _ _ _ _ hq
    · rw [if_pos e] at hq
      rw [ht2]
      refine ⟨hx, ?_⟩
      rw [ht2]
      refine s_X3_emit (by omega) _ _ ?_
      exact hK _ _ _ _ hq
  unfold cCome at hQ
  dsimp only at hQ
  refine ⟨fun e => ?_, fun e => ?_⟩
  · rw [if_neg e] at hQ
    have hv : vp_in (h 17 t) 120 := ho.resolve_left e
    refine hK _ _ _ _ ⟨hv, ?_⟩
    have go : ∀ z : Int32, z = (if h 18 (ix (h 17 t)) = nI t then 1 else 0) → K 89 [some (.inr 3), some (.inl (nI t)), some (.inl f), some (.inl (h 17 t))] [.inl z, .inl (h 17 t), .inr 3, .inl (nI t), .inr 23, .inr 3] h := by
      intro z hz
      subst hz
      refine hK _ _ _ _ ?_
      refine s_X3_goInside (by omega) _ _ hv ?_
      refine s_X3_put (by omega) 23 _ _ (by decide) hx ?_
      rw [ix_nI (by omega)]
      refine s_X3_resInside (by omega) _ hv ?_
      refine s_X3_put (by omega) 24 _ _ (by decide) hx ?_
      rw [ix_nI (by omega)]
      refine s_X3_suspInside (by omega) _ hv ?_
      refine s_X3_put (by omega) 25 _ _ (by decide) hx ?_
      rw [ix_nI (by omega)]
      exact fin _ hQ _
    refine ⟨fun e2 => ?_, fun e2 => ?_⟩
    · exact hK _ _ _ _ (go 0 (by rw [if_neg e2]))
    · exact go 1 (by rw [if_pos e2])
  · rw [if_pos e] at hQ
    have s3 : ∀ h2 : mvH, Q none (let h3 := cPut (cPut h2 24 t (if f = 0 then -65536 else 65535)) 25 t (-65536); if h3 16 t = 2 then cEmit h3 (h3 20 t) (h3 23 t) else h3) → ∀ v : Int32, v = (if f = 0 then -65536 else 65535) → K 49 [some (.inr 3), some (.inl (nI t)), some (.inl f), some (.inl (h 17 t))] [.inl v, .inl (nI t), .inr 24, .inr 3] h2 := by
      intro h2 hq v hv
      subst hv
      refine hK _ _ _ _ ?_
      refine s_X3_put (by omega) 24 _ _ (by decide) hx ?_
      rw [ix_nI (by omega)]
      refine s_X3_put (by omega) 25 _ _ (by decide) hx ?_
      rw [ix_nI (by omega)]
      exact fin _ hq _
    have s4 : ∀ v : Int32, v = (if f = 0 then 65535 else -65536) → K 29 [some (.inr 3), some (.inl (nI t)), some (.inl f), some (.inl (h 17 t))] [.inl v, .inl (nI t), .inr 23, .inr 3] h := by
      intro v hv
      subst hv
      refine hK _ _ _ _ ?_
      refine s_X3_put (by omega) 23 _ _ (by decide) hx ?_
      rw [ix_nI (by omega)]
      refine ⟨fun e2 => ?_, fun e2 => ?_⟩
      · exact hK _ _ _ _ (s3 _ hQ _ (by rw [if_pos e2]))
      · exact s3 _ hQ _ (by rw [if_neg e2])
    refine ⟨fun e2 => ?_, fun e2 => ?_⟩
    · exact hK _ _ _ _ (s4 _ (by rw [if_pos e2]))
    · exact s4 _ (by rw [if_neg e2])
end WS2
