/-! WIRES, method by method: what each answers, written as the method is. x.toNatClampNeg is the place that an int names. -/
abbrev ix (x : Int32) : Nat := x.toNatClampNeg
theorem mvq {Q : Option mvV → mvH → Prop} {h : mvH} {v w : Int32} (hQ : Q (some (.inl w)) h) (e : v = w) : Q (some (.inl v)) h := e ▸ hQ
theorem mvqh {Q : Option mvV → mvH → Prop} {h h' : mvH} {v w : Option mvV} (hQ : Q w h') (e : v = w) (e2 : h = h') : Q v h := e ▸ e2 ▸ hQ
theorem d_pos {d k : Nat} (hd : k ≤ d) (hk : 1 ≤ k) : ∃ e, d = e + 1 := ⟨d - 1, by omega⟩
def lAnd (a b : Int32) : Int32 := (a &&& b &&& 65535) ||| ((a ||| b) &&& (-65536))
def lOr (a b : Int32) : Int32 := ((a ||| b) &&& 65535) ||| (a &&& b &&& (-65536))
def lNot (a : Int32) : Int32 := (a <<< ((16 : Int32) &&& 31)) ||| mvsh a 16
def lUnk (a : Int32) : Int32 := ((a ||| mvsh a 16) ^^^ (-1)) &&& 65535
section WS
variable {d : Nat} {h : mvH} {Q : Option mvV → mvH → Prop}
theorem s_X3_and (hd : 1 ≤ d) (a b : Int32) (hQ : Q (some (.inl (lAnd a b))) h) : mvCal mvMT d 81 [.inl a, .inl b] h Q := by
  obtain ⟨d, rfl⟩ := d_pos hd (by decide)
  refine ⟨rfl, Nat.le_of_ble_eq_true rfl, fun K hK => hK _ _ _ _ ⟨trivial, hQ⟩⟩
theorem s_X3_or (hd : 1 ≤ d) (a b : Int32) (hQ : Q (some (.inl (lOr a b))) h) : mvCal mvMT d 82 [.inl a, .inl b] h Q := by
  obtain ⟨d, rfl⟩ := d_pos hd (by decide)
  refine ⟨rfl, Nat.le_of_ble_eq_true rfl, fun K hK => hK _ _ _ _ ⟨trivial, hQ⟩⟩
theorem s_X3_not (hd : 1 ≤ d) (a : Int32) (hQ : Q (some (.inl (lNot a))) h) : mvCal mvMT d 83 [.inl a] h Q := by
  obtain ⟨d, rfl⟩ := d_pos hd (by decide)
  refine ⟨rfl, Nat.le_of_ble_eq_true rfl, fun K hK => hK _ _ _ _ ⟨trivial, hQ⟩⟩
theorem s_X3_unknownLanes (hd : 1 ≤ d) (a : Int32) (hQ : Q (some (.inl (lUnk a))) h) : mvCal mvMT d 80 [.inl a] h Q := by
  obtain ⟨d, rfl⟩ := d_pos hd (by decide)
  refine ⟨rfl, Nat.le_of_ble_eq_true rfl, fun K hK => hK _ _ _ _ ⟨trivial, hQ⟩⟩
theorem s_X3_isUnknown (hd : 2 ≤ d) (a b : Int32) (hQ : Q (some (.inl (mvsh (lUnk a) b &&& 1))) h) : mvCal mvMT d 79 [.inl a, .inl b] h Q := by
  obtain ⟨d, rfl⟩ := d_pos hd (by decide)
  refine ⟨rfl, Nat.le_of_ble_eq_true rfl, fun K hK => hK _ _ _ _ ?_⟩
  refine s_X3_unknownLanes (by omega) _ ?_
  exact ⟨trivial, hQ⟩
def cOnly (w c x : Int32) : Int32 := if c = w then x else -65536
theorem s_X3_onlyFor (hd : 1 ≤ d) (w c x : Int32) (hQ : Q (some (.inl (cOnly w c x))) h) : mvCal mvMT d 65 [.inl w, .inl c, .inl x] h Q := by
  obtain ⟨d, rfl⟩ := d_pos hd (by decide)
  refine ⟨rfl, Nat.le_of_ble_eq_true rfl, fun K hK => hK _ _ _ _ ⟨fun e => ?_, fun e => ?_⟩⟩
  · repeat refine hK _ _ _ _ ?_
    exact ⟨trivial, mvq hQ (by simp [cOnly, e])⟩
  · repeat refine hK _ _ _ _ ?_
    exact ⟨trivial, mvq hQ (by simp [cOnly, e])⟩
def cSel (h : mvH) (x : Int32) : Int32 := if x < 0 then -65536 else if h 3 7 ≤ x then -65536 else h 26 (ix x)
theorem s_X3_selOf (hd : 1 ≤ d) (x : Int32) (hc : ¬ x < 0 → ¬ h 3 7 ≤ x → vp_in x 120) (hQ : Q (some (.inl (cSel h x))) h) : mvCal mvMT d 53 [.inr 3, .inl x] h Q := by
  obtain ⟨d, rfl⟩ := d_pos hd (by decide)
  refine ⟨⟨rfl, by decide, rfl⟩, Nat.le_of_ble_eq_true rfl, fun K hK => hK _ _ _ _ ⟨fun e => ?_, fun e => ?_⟩⟩
  · repeat refine hK _ _ _ _ ?_
    exact ⟨trivial, mvq hQ (by simp [cSel, e])⟩
  · refine ⟨fun e2 => ?_, fun e2 => ?_⟩
    · have e3 : ¬ h 3 7 ≤ x := Int32.not_le.mpr e2
      refine hK _ _ _ _ ⟨hc e e3, ?_⟩
      repeat refine hK _ _ _ _ ?_
      exact ⟨trivial, mvq hQ (by simp [cSel, e, e3])⟩
    · have e3 : h 3 7 ≤ x := Int32.not_lt.mp e2
      repeat refine hK _ _ _ _ ?_
      exact ⟨trivial, mvq hQ (by simp [cSel, e, e3])⟩
def cEnd (h : mvH) (x c : Int32) : Int32 := if x * 6 + c < 0 then -65536 else if 720 ≤ x * 6 + c then -65536 else h 27 (ix (x * 6 + c))
theorem vp_in_i {x m : Int32} {n : Nat} (h0 : ¬ x < 0) (h1 : x < m) (hm : m.toInt = n) : vp_in x n := by
  rw [vp_in_iff]
  have a := Int32.not_lt.mp h0
  rw [Int32.le_iff_toInt_le] at a
  rw [Int32.lt_iff_toInt_lt] at h1
  have z : (0 : Int32).toInt = 0 := by decide
  omega
theorem s_X3_end (hd : 1 ≤ d) (x c : Int32) (hQ : Q (some (.inl (cEnd h x c))) h) : mvCal mvMT d 68 [.inr 3, .inl x, .inl c] h Q := by
  obtain ⟨d, rfl⟩ := d_pos hd (by decide)
  refine ⟨⟨rfl, by decide, rfl⟩, Nat.le_of_ble_eq_true rfl, fun K hK => hK _ _ _ _ ⟨fun e => ?_, fun e => ?_⟩⟩
  · repeat refine hK _ _ _ _ ?_
    exact ⟨trivial, mvq hQ (by simp [cEnd, e])⟩
  · refine ⟨fun e2 => ?_, fun e2 => ?_⟩
    · have e2 : x * 6 + c < 720 := e2
      refine hK _ _ _ _ ⟨vp_in_i e e2 (by decide), ?_⟩
      repeat refine hK _ _ _ _ ?_
      exact ⟨trivial, mvq hQ (by simp [cEnd, e, Int32.not_le.mpr e2])⟩
    · have e2 : ¬ x * 6 + c < 720 := e2
      repeat refine hK _ _ _ _ ?_
      exact ⟨trivial, mvq hQ (by simp [cEnd, e, Int32.not_lt.mp e2])⟩
def cSig (h : mvH) (x : Int32) : Int32 := if h 20 (ix x) < 0 then -65536 else if 128 ≤ h 20 (ix x) then -65536 else h 29 (ix (h 20 (ix x)))
theorem s_X3_signalWire (hd : 1 ≤ d) (x : Int32) (hx : vp_in x 120) (hQ : Q (some (.inl (cSig h x))) h) : mvCal mvMT d 57 [.inr 3, .inl x] h Q := by
  obtain ⟨d, rfl⟩ := d_pos hd (by decide)
  refine ⟨⟨rfl, by decide, rfl⟩, Nat.le_of_ble_eq_true rfl, fun K hK => hK _ _ _ _ ⟨hx, ⟨fun e => ?_, fun e => ?_⟩⟩⟩
  · repeat refine hK _ _ _ _ ?_
    exact ⟨trivial, mvq hQ (by simp [cSig, e])⟩
  · refine ⟨fun e2 => ?_, fun e2 => ?_⟩
    · have e2 : h 20 (ix x) < 128 := e2
      refine hK _ _ _ _ ⟨vp_in_i e e2 (by decide), ?_⟩
      repeat refine hK _ _ _ _ ?_
      exact ⟨trivial, mvq hQ (by simp [cSig, e, Int32.not_le.mpr e2])⟩
    · have e2 : ¬ h 20 (ix x) < 128 := e2
      repeat refine hK _ _ _ _ ?_
      exact ⟨trivial, mvq hQ (by simp [cSig, e, Int32.not_lt.mp e2])⟩
def cHeld (h : mvH) (x : Int32) : Int32 := lAnd (lAnd (h 24 (ix x)) (h 26 (ix x))) (cSig h x)
theorem s_X3_heldBack (hd : 2 ≤ d) (x : Int32) (hx : vp_in x 120) (hQ : Q (some (.inl (cHeld h x))) h) : mvCal mvMT d 61 [.inr 3, .inl x] h Q := by
  obtain ⟨d, rfl⟩ := d_pos hd (by decide)
  refine ⟨⟨rfl, by decide, rfl⟩, Nat.le_of_ble_eq_true rfl, fun K hK => hK _ _ _ _ ⟨hx, hx, ?_⟩⟩
  refine s_X3_and (by omega) _ _ ?_
  refine s_X3_signalWire (by omega) _ hx ?_
  refine s_X3_and (by omega) _ _ ?_
  exact ⟨trivial, hQ⟩
def cEith (h : mvH) (x c : Int32) : Int32 := lOr (cEnd h (h 18 (ix x)) c) (cEnd h (h 19 (ix x)) c)
theorem s_X3_endOfEither (hd : 2 ≤ d) (x c : Int32) (hx : vp_in x 120) (hQ : Q (some (.inl (cEith h x c))) h) : mvCal mvMT d 66 [.inr 3, .inl x, .inl c] h Q := by
  obtain ⟨d, rfl⟩ := d_pos hd (by decide)
  refine ⟨⟨rfl, by decide, rfl⟩, Nat.le_of_ble_eq_true rfl, fun K hK => hK _ _ _ _ ⟨hx, ?_⟩⟩
  refine s_X3_end (by omega) _ _ ?_
  refine ⟨hx, ?_⟩
  refine s_X3_end (by omega) _ _ ?_
  refine s_X3_or (by omega) _ _ ?_
  exact ⟨trivial, hQ⟩
def cTrap (h : mvH) (x c : Int32) : Int32 := if c = 0 then lOr (cEnd h (h 18 (ix x)) 0) (cEnd h (h 18 (ix x)) 2) else if c = 1 then cEnd h (h 18 (ix x)) 1 else if c + 1 < 6 then cEnd h (h 18 (ix x)) (c + 1) else -65536
theorem s_X3_endOfTrap (hd : 2 ≤ d) (x c : Int32) (hx : vp_in x 120) (hQ : Q (some (.inl (cTrap h x c))) h) : mvCal mvMT d 67 [.inr 3, .inl x, .inl c] h Q := by
  obtain ⟨d, rfl⟩ := d_pos hd (by decide)
  refine ⟨⟨rfl, by decide, rfl⟩, Nat.le_of_ble_eq_true rfl, fun K hK => hK _ _ _ _ ⟨fun e => ?_, fun e => ?_⟩⟩
  · refine hK _ _ _ _ ⟨fun e2 => ?_, fun e2 => ?_⟩
    · refine hK _ _ _ _ ⟨fun e3 => ?_, fun e3 => ?_⟩
      · repeat refine hK _ _ _ _ ?_
        exact ⟨trivial, mvq hQ (by simp [cTrap, e, e2, Int32.not_lt.mpr e3])⟩
      · refine ⟨hx, ?_⟩
        refine s_X3_end (by omega) _ _ ?_
        repeat refine hK _ _ _ _ ?_
        exact ⟨trivial, mvq hQ (by simp [cTrap, e, e2, Int32.not_le.mp e3])⟩
    · refine ⟨hx, ?_⟩
      refine s_X3_end (by omega) _ _ ?_
      exact ⟨trivial, mvq hQ (by simp [cTrap, e2])⟩
  · refine ⟨hx, ?_⟩
    refine s_X3_end (by omega) _ _ ?_
    refine ⟨hx, ?_⟩
    refine s_X3_end (by omega) _ _ ?_
    refine s_X3_or (by omega) _ _ ?_
    exact ⟨trivial, mvq hQ (by simp [cTrap, e])⟩
def cEndOf (h : mvH) (x c : Int32) : Int32 :=
  if h 16 (ix x) = 1 then (if c = 0 then lAnd (h 26 (ix x)) (h 24 (ix x)) else cOnly 1 c (h 23 (ix x)))
  else if h 16 (ix x) = 3 then cOnly (h 20 (ix x)) c (h 23 (ix x))
  else if h 16 (ix x) = 4 then cEith h x c
  else if h 16 (ix x) = 5 then (if c = 1 then lOr (cEnd h (h 18 (ix x)) 1) (cHeld h x) else cEnd h (h 18 (ix x)) c)
  else if h 16 (ix x) = 6 then (if c = 0 then -65536 else cEith h x c)
  else if h 16 (ix x) = 7 then cTrap h x c
  else if h 16 (ix x) = 8 then cEnd h (h 18 (ix x)) c
  else if h 16 (ix x) = 9 then (if c = 0 then cEnd h (h 19 (ix x)) 0 else cEith h x c)
  else cOnly 0 c (h 23 (ix x))
set_option maxHeartbeats 4000000 in
theorem s_X3_endOf (hd : 3 ≤ d) (x c : Int32) (hx : vp_in x 120) (hQ : Q (some (.inl (cEndOf h x c))) h) : mvCal mvMT d 64 [.inr 3, .inl x, .inl c] h Q := by
  obtain ⟨d, rfl⟩ := d_pos hd (by decide)
  refine ⟨⟨rfl, by decide, rfl⟩, Nat.le_of_ble_eq_true rfl, fun K hK => ?_⟩
  repeat' first
    | exact ⟨trivial, mvq hQ (by simp [cEndOf, *])⟩
    | refine ⟨hx, ?_⟩
    | refine ⟨fun _ => ?_, fun _ => ?_⟩
    | refine s_X3_end (by omega) _ _ ?_
    | refine s_X3_and (by omega) _ _ ?_
    | refine s_X3_or (by omega) _ _ ?_
    | refine s_X3_heldBack (by omega) _ hx ?_
    | refine s_X3_endOfEither (by omega) _ _ hx ?_
    | refine s_X3_endOfTrap (by omega) _ _ hx ?_
    | refine s_X3_onlyFor (by omega) _ _ _ ?_
    | refine hK _ _ _ _ ?_
def cGo (h : mvH) (x f : Int32) : Int32 :=
  if h 16 (ix x) = 4 then lAnd (h 23 (ix x)) (if f = 0 then lNot (cSig h x) else cSig h x)
  else if h 16 (ix x) = 6 then (if f = 0 then cEnd h (h 18 (ix x)) 0 else lOr (h 23 (ix x)) (cEnd h (h 19 (ix x)) 0))
  else if h 16 (ix x) = 9 then (if f = 0 then cEnd h (h 18 (ix x)) 0 else h 23 (ix x))
  else h 23 (ix x)
set_option maxHeartbeats 4000000 in
theorem s_X3_goInside (hd : 2 ≤ d) (x f : Int32) (hx : vp_in x 120) (hQ : Q (some (.inl (cGo h x f))) h) : mvCal mvMT d 58 [.inr 3, .inl x, .inl f] h Q := by
  obtain ⟨d, rfl⟩ := d_pos hd (by decide)
  refine ⟨⟨rfl, by decide, rfl⟩, Nat.le_of_ble_eq_true rfl, fun K hK => ?_⟩
  repeat' first
    | exact ⟨trivial, mvq hQ (by simp [cGo, *])⟩
    | refine ⟨hx, ?_⟩
    | refine ⟨fun _ => ?_, fun _ => ?_⟩
    | refine s_X3_end (by omega) _ _ ?_
    | refine s_X3_and (by omega) _ _ ?_
    | refine s_X3_or (by omega) _ _ ?_
    | refine s_X3_not (by omega) _ ?_
    | refine s_X3_signalWire (by omega) _ hx ?_
    | refine hK _ _ _ _ ?_
def cRes (h : mvH) (x : Int32) : Int32 := if h 16 (ix x) = 5 then lAnd (lAnd (h 24 (ix x)) (h 26 (ix x))) (lNot (cSig h x)) else h 24 (ix x)
theorem s_X3_resInside (hd : 2 ≤ d) (x : Int32) (hx : vp_in x 120) (hQ : Q (some (.inl (cRes h x))) h) : mvCal mvMT d 59 [.inr 3, .inl x] h Q := by
  obtain ⟨d, rfl⟩ := d_pos hd (by decide)
  refine ⟨⟨rfl, by decide, rfl⟩, Nat.le_of_ble_eq_true rfl, fun K hK => ?_⟩
  repeat' first
    | exact ⟨trivial, mvq hQ (by simp [cRes, *])⟩
    | refine ⟨hx, ?_⟩
    | refine ⟨fun _ => ?_, fun _ => ?_⟩
    | refine s_X3_and (by omega) _ _ ?_
    | refine s_X3_not (by omega) _ ?_
    | refine s_X3_signalWire (by omega) _ hx ?_
    | refine hK _ _ _ _ ?_
def cSusp (h : mvH) (x : Int32) : Int32 := if h 16 (ix x) = 5 then lOr (h 25 (ix x)) (cHeld h x) else h 25 (ix x)
theorem s_X3_suspInside (hd : 3 ≤ d) (x : Int32) (hx : vp_in x 120) (hQ : Q (some (.inl (cSusp h x))) h) : mvCal mvMT d 60 [.inr 3, .inl x] h Q := by
  obtain ⟨d, rfl⟩ := d_pos hd (by decide)
  refine ⟨⟨rfl, by decide, rfl⟩, Nat.le_of_ble_eq_true rfl, fun K hK => ?_⟩
  repeat' first
    | exact ⟨trivial, mvq hQ (by simp [cSusp, *])⟩
    | refine ⟨hx, ?_⟩
    | refine ⟨fun _ => ?_, fun _ => ?_⟩
    | refine s_X3_or (by omega) _ _ ?_
    | refine s_X3_heldBack (by omega) _ hx ?_
    | refine hK _ _ _ _ ?_
/-- put: the place is written, and a change is told -/
def cPut (h : mvH) (q j : Nat) (v : Int32) : mvH := if h q j = v then h else hset (hset h q j v) 3 19 1
def aLen (q : Nat) : Nat := match mvArr q with
  | some (n, _) => n
  | none => 0
theorem vp_in_lo {x : Int32} {n : Nat} (h : vp_in x n) : ¬ x < 0 := fun q => h (Or.inl q)
theorem vp_in_hi {x : Int32} {n : Nat} (h : vp_in x n) (hn : n < 2 ^ 31) : ¬ nI n ≤ x := by
  obtain ⟨j, hj, rfl⟩ := vp_in_of h hn
  exact nI_ge hj hn
theorem s_X3_put (hd : 1 ≤ d) (q : Nat) (j v : Int32) (hq : q = 23 ∨ q = 24 ∨ q = 25 ∨ q = 27 ∨ q = 29) (hj : vp_in j (aLen q)) (hQ : Q none (cPut h q (ix j) v)) : mvCal mvMT d 69 [.inr 3, .inr q, .inl j, .inl v] h Q := by
  obtain ⟨d, rfl⟩ := d_pos hd (by decide)
  have hlo := vp_in_lo hj
  have hhi := vp_in_hi hj (by rcases hq with rfl | rfl | rfl | rfl | rfl <;> decide)
  rcases hq with rfl | rfl | rfl | rfl | rfl
  all_goals
    refine ⟨⟨rfl, by decide, rfl⟩, Nat.le_of_ble_eq_true rfl, fun K hK => hK _ _ _ _ ⟨fun e => absurd e hlo, fun _ => ⟨fun e => absurd e hhi, fun _ => ⟨hj, ?_⟩⟩⟩⟩
    refine ⟨fun e => ?_, fun e => ⟨hj, Or.inr rfl, ?_⟩⟩
    · refine hK _ _ _ _ ?_
      have e2 : cPut h _ (ix j) v = h := if_pos e
      rw [e2] at hQ
      exact hQ
    · refine hK _ _ _ _ ?_
      have e2 : cPut h _ (ix j) v = _ := if_neg e
      rw [e2] at hQ
      exact hQ
theorem s_X3_lanesWithOutput (hd : 1 ≤ d) (o : Nat) (ho : o < 4) (hQ : Q (some (.inl (h 29 (4 + o) &&& 65535))) h) : mvCal mvMT d 74 [.inr 3, .inl (nI o)] h Q := by
  obtain ⟨d, rfl⟩ := d_pos hd (by decide)
  refine ⟨⟨rfl, by decide, rfl⟩, Nat.le_of_ble_eq_true rfl, fun K hK => hK _ _ _ _ ?_⟩
  match o, ho with
  | 0, _ | 1, _ | 2, _ | 3, _ =>
    refine ⟨fun e => absurd e (by decide), fun _ => ⟨fun _ => ?_, fun e => absurd (by decide) e⟩⟩
    refine hK _ _ _ _ ⟨by unfold vp_in; decide, ?_⟩
    repeat refine hK _ _ _ _ ?_
    exact ⟨trivial, hQ⟩
def cStay (h : mvH) (x : Int32) : Int32 := (h 23 (ix x) ||| (h 25 (ix x) &&& h 26 (ix x))) &&& (h 28 (ix x) ^^^ (-1)) &&& 65535
theorem s_X3_staysLanes (hd : 1 ≤ d) (x : Int32) (hx : vp_in x 120) (hQ : Q (some (.inl (cStay h x))) h) : mvCal mvMT d 78 [.inr 3, .inl x] h Q := by
  obtain ⟨d, rfl⟩ := d_pos hd (by decide)
  refine ⟨⟨rfl, by decide, rfl⟩, Nat.le_of_ble_eq_true rfl, fun K hK => ?_⟩
  repeat' first
    | exact ⟨trivial, mvq hQ (by simp [cStay])⟩
    | refine ⟨hx, ?_⟩
    | refine hK _ _ _ _ ?_
end WS
