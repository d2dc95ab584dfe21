/-! WIRES: leaving, a sweep, an instant -/
theorem nI_m6 (t c : Nat) : nI t * 6 + nI c = nI (t * 6 + c) := by
  rw [show (6 : Int32) = nI 6 by decide, pk_mul, nI_add]
section WS3
variable {d : Nat} {h : mvH} {Q : Option mvV → mvH → Prop}
/-- a thing that is no PAR is left: its first c codes -/
def cLv (h : mvH) (t : Nat) : Nat → mvH
  | 0 => h
  | c + 1 => cPut (cLv h t c) 27 (t * 6 + c) (cEndOf (cLv h t c) (nI t) (nI c))
/-- a PAR is left: its first c codes, and what each side has come up to -/
def cLp (h : mvH) (t : Nat) : Nat → mvH × Int32 × Int32
  | 0 => (h, lAnd (lNot (cSel h (h 18 t))) (cSel h (h 19 t)), lAnd (lNot (cSel h (h 19 t))) (cSel h (h 18 t)))
  | c + 1 =>
    let g := (cLp h t c).1
    let u := lOr (cLp h t c).2.1 (cEnd g (h 18 t) (nI c))
    let v := lOr (cLp h t c).2.2 (cEnd g (h 19 t) (nI c))
    (cPut g 27 (t * 6 + c) (lAnd (lAnd u v) (cEith g (nI t) (nI c))), u, v)
def cLeave (h : mvH) (t : Nat) : mvH := if h 16 t = 10 then (cLp h t 6).1 else cLv h t 6
theorem nI_lt6 {c : Nat} (hc : c < 6) : ¬ (6 : Int32) ≤ nI c := nI_ge (b := 6) hc (by decide)
set_option maxHeartbeats 4000000 in
theorem s_X3_leavePar (hd : 3 ≤ d) (t : Nat) (ht : t < 120) (hs : ∀ x, x = h 18 t ∨ x = h 19 t → ¬ x < 0 → ¬ h 3 7 ≤ x → vp_in x 120) (hQ : Q none (cLp h t 6).1) : mvCal mvMT d 63 [.inr 3, .inl (nI t)] h Q := by
  obtain ⟨d, rfl⟩ := d_pos hd (by decide)
  have hx : vp_in (nI t) 120 := vp_in_nI ht (by decide)
  have ht2 : (nI t).toNatClampNeg = t := nI_clamp (by omega)
  refine ⟨⟨rfl, by decide, rfl⟩, Nat.le_of_ble_eq_true rfl, fun K hK => hK _ _ _ _ ⟨hx, ?_⟩⟩
  rw [ht2]
  refine ⟨hx, ?_⟩
  rw [ht2]
  refine s_X3_selOf (by omega) _ (hs _ (Or.inl rfl)) ?_
  refine s_X3_not (by omega) _ ?_
  refine s_X3_selOf (by omega) _ (hs _ (Or.inr rfl)) ?_
  refine s_X3_and (by omega) _ _ ?_
  refine s_X3_selOf (by omega) _ (hs _ (Or.inr rfl)) ?_
  refine s_X3_not (by omega) _ ?_
  refine s_X3_selOf (by omega) _ (hs _ (Or.inl rfl)) ?_
  refine s_X3_and (by omega) _ _ ?_
  have loop : ∀ k c, c + k = 6 → ∀ z, K 53 [some (.inr 3), some (.inl (nI t)), some (.inl (h 18 t)), some (.inl (h 19 t)), some (.inl (cLp h t c).2.1), some (.inl (cLp h t c).2.2), some (.inl (nI c)), z] [] (cLp h t c).1 := by
    intro k
    induction k with
    | zero =>
      intro c hc z
      obtain rfl : c = 6 := by omega
      refine hK _ _ _ _ ⟨fun _ => ?_, fun e => absurd (by decide) e⟩
      exact hK _ _ _ _ hQ
    | succ k ih =>
      intro c hc z
      refine hK _ _ _ _ ⟨fun e => absurd e (nI_lt6 (by omega)), fun _ => ?_⟩
      refine s_X3_end (by omega) _ _ ?_
      refine s_X3_or (by omega) _ _ ?_
      refine s_X3_end (by omega) _ _ ?_
      refine s_X3_or (by omega) _ _ ?_
      refine s_X3_and (by omega) _ _ ?_
      refine s_X3_endOfEither (by omega) _ _ hx ?_
      refine s_X3_and (by omega) _ _ ?_
      refine s_X3_put (by omega) 27 _ _ (by decide) (by rw [nI_m6]; exact vp_in_nI (show t * 6 + c < 720 by omega) (by decide)) ?_
      rw [nI_m6, ix_nI (by omega)]
      have h1 := ih (c + 1) (by omega)
      rw [← nI_1] at h1
      exact h1 _
  exact loop 6 0 rfl _
set_option maxHeartbeats 4000000 in
theorem s_X3_leave (hd : 4 ≤ d) (t : Nat) (ht : t < 120) (hs : ∀ x, x = h 18 t ∨ x = h 19 t → ¬ x < 0 → ¬ h 3 7 ≤ x → vp_in x 120) (hQ : Q none (cLeave h t)) : mvCal mvMT d 62 [.inr 3, .inl (nI t)] h Q := by
  obtain ⟨d, rfl⟩ := d_pos hd (by decide)
  have hx : vp_in (nI t) 120 := vp_in_nI ht (by decide)
  have ht2 : (nI t).toNatClampNeg = t := nI_clamp (by omega)
  refine ⟨⟨rfl, by decide, rfl⟩, Nat.le_of_ble_eq_true rfl, fun K hK => hK _ _ _ _ ⟨hx, ?_⟩⟩
  rw [ht2]
  unfold cLeave at hQ
  refine ⟨fun e => ?_, fun e => ?_⟩
  · rw [if_neg e] at hQ
    have loop : ∀ k c, c + k = 6 → K 19 [some (.inr 3), some (.inl (nI t)), some (.inl (nI c))] [] (cLv h t c) := by
      intro k
      induction k with
      | zero =>
        intro c hc
        obtain rfl : c = 6 := by omega
        refine hK _ _ _ _ ⟨fun _ => ?_, fun e => absurd (by decide) e⟩
        exact hK _ _ _ _ hQ
      | succ k ih =>
        intro c hc
        refine hK _ _ _ _ ⟨fun e => absurd e (nI_lt6 (by omega)), fun _ => ?_⟩
        refine s_X3_endOf (by omega) _ _ hx ?_
        refine s_X3_put (by omega) 27 _ _ (by decide) (by rw [nI_m6]; exact vp_in_nI (show t * 6 + c < 720 by omega) (by decide)) ?_
        rw [nI_m6, ix_nI (by omega)]
        have h1 := ih (c + 1) (by omega)
        rw [← nI_1] at h1
        exact h1
    refine hK _ _ _ _ ?_
    exact loop 6 0 rfl
  · rw [if_pos e] at hQ
    refine s_X3_leavePar (by omega) t ht hs ?_
    exact hQ
/-- bounds that the sweeps keep -/
def WB (h : mvH) (n sc sg : Nat) : Prop := h 3 7 = nI n ∧ n ≤ 120 ∧ h 3 8 = nI sc ∧ sc ≤ 240 ∧ h 3 10 = nI sg ∧ sg ≤ 128 ∧ (∀ t, t < n → (h 17 t = -1 ∨ ∃ p, p < n ∧ h 17 t = nI p)) ∧ (∀ j, j < sc → ∃ t, t < n ∧ (h 21 j = nI t ∨ h 21 j = nI t ^^^ (-1)))
/-- what a sweep leaves as it was -/
def sameS (h h' : mvH) : Prop := (∀ q, ¬ (q = 3 ∨ q = 23 ∨ q = 24 ∨ q = 25 ∨ q = 27 ∨ q = 29 ∨ q = 30) → h' q = h q) ∧ ∀ j, j ≠ 19 → h' 3 j = h 3 j
theorem sameS.rfl {h : mvH} : sameS h h := ⟨fun _ _ => Eq.refl _, fun _ _ => Eq.refl _⟩
theorem sameS.trans {a b c : mvH} (h1 : sameS a b) (h2 : sameS b c) : sameS a c := ⟨fun q hq => (h2.1 q hq).trans (h1.1 q hq), fun j hj => (h2.2 j hj).trans (h1.2 j hj)⟩
theorem sameS.put {q j : Nat} {v : Int32} (hq : q = 23 ∨ q = 24 ∨ q = 25 ∨ q = 27 ∨ q = 29 ∨ q = 30) : sameS h (hset h q j v) := by
  refine ⟨fun q' hq' => hset_other (fun e => hq' (by subst e; omega)), fun j' hj' => ?_⟩
  rw [hset_other (by omega)]
theorem sameS.ch {v : Int32} : sameS h (hset h 3 19 v) := by
  refine ⟨fun q' hq' => hset_other (fun e => hq' (by subst e; omega)), fun j' hj' => ?_⟩
  rw [hset_at, if_neg hj']
theorem sS_put {q j : Nat} {v : Int32} (hq : q = 23 ∨ q = 24 ∨ q = 25 ∨ q = 27 ∨ q = 29 ∨ q = 30) : sameS h (cPut h q j v) := by
  unfold cPut
  split
  · exact sameS.rfl
  · exact (sameS.put hq).trans sameS.ch
theorem sS_WB {h h' : mvH} {n sc sg : Nat} (hs : sameS h h') (hw : WB h n sc sg) : WB h' n sc sg := by
  obtain ⟨a1, a2, a3, a4, a5, a6, a7, a8⟩ := hw
  refine ⟨by rw [hs.2 7 (by decide)]; exact a1, a2, by rw [hs.2 8 (by decide)]; exact a3, a4, by rw [hs.2 10 (by decide)]; exact a5, a6, ?_, ?_⟩
  · rw [hs.1 17 (by decide)]; exact a7
  · rw [hs.1 21 (by decide)]; exact a8
theorem sS_lv {t : Nat} : ∀ c, sameS h (cLv h t c) := by
  intro c
  induction c with
  | zero => exact sameS.rfl
  | succ c ih => exact ih.trans (sS_put (by decide))
theorem sS_lp {t : Nat} : ∀ c, sameS h (cLp h t c).1 := by
  intro c
  induction c with
  | zero => exact sameS.rfl
  | succ c ih => exact ih.trans (sS_put (by decide))
theorem sS_leave {t : Nat} : sameS h (cLeave h t) := by
  unfold cLeave
  split
  · exact sS_lp 6
  · exact sS_lv 6
theorem sS_emit {s v : Int32} : sameS h (cEmit h s v) := by
  unfold cEmit
  split
  · exact sameS.rfl
  · split
    · exact sameS.rfl
    · exact sameS.put (by decide)
theorem sS_come {t : Nat} {f : Int32} : sameS h (cCome h t f) := by
  have key : ∀ h3, sameS h h3 → sameS h (if h3 16 t = 2 then cEmit h3 (h3 20 t) (h3 23 t) else h3) := by
    intro h3 e
    split
    · exact e.trans sS_emit
    · exact e
  refine key _ ?_
  split
  · exact ((sS_put (by decide)).trans (sS_put (by decide))).trans (sS_put (by decide))
  · exact ((sS_put (by decide)).trans (sS_put (by decide))).trans (sS_put (by decide))
end WS3
