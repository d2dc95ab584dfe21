/-! WIRES: killed, an instant, tallies, the next registers -/
section WS5
variable {d : Nat} {h : mvH} {Q : Option mvV → mvH → Prop}
def cKill (h : mvH) : Nat → mvH
  | 0 => h
  | t + 1 => hset (cKill h t) 28 t ((if (cKill h t) 17 t = -1 then 0 else if (cKill h t) 16 (ix ((cKill h t) 17 t)) = 7 then cEnd (cKill h t) (nI t) 2 &&& 65535 else 0) ||| (if (cKill h t) 17 t = -1 then 0 else (cKill h t) 28 (ix ((cKill h t) 17 t))))
theorem cKill_o : ∀ t q, q ≠ 28 → cKill h t q = h q := by
  intro t
  induction t with
  | zero => intro q _; rfl
  | succ t ih => intro q hq; unfold cKill; rw [hset_other hq, ih q hq]
set_option maxHeartbeats 4000000 in
theorem s_X3_findKilled (hd : 2 ≤ d) {n sc sg : Nat} (hw : WB h n sc sg) (hQ : Q none (cKill h n)) : mvCal mvMT d 70 [.inr 3] h Q := by
  obtain ⟨d, rfl⟩ := d_pos hd (by decide)
  refine ⟨⟨rfl, by decide, rfl⟩, Nat.le_of_ble_eq_true rfl, fun K hK => hK _ _ _ _ ?_⟩
  obtain ⟨b1, b2, -, -, -, -, b7, -⟩ := hw
  have loop : ∀ k t, t + k = n → ∀ z1 z2, K 2 [some (.inr 3), some (.inl (nI t)), z1, z2] [] (cKill h t) := by
    intro k
    induction k with
    | zero =>
      intro t ht z1 z2
      obtain rfl : t = n := by omega
      refine hK _ _ _ _ ⟨fun _ => hK _ _ _ _ hQ, fun e => absurd ?_ e⟩
      rw [cKill_o t 3 (by decide), b1]; exact nI_le (by omega) (by omega)
    | succ k ih =>
      intro t ht z1 z2
      have h1 := ih (t + 1) (by omega)
      unfold cKill at h1
      have c17 := cKill_o (h := h) t 17 (by decide)
      have c3 := cKill_o (h := h) t 3 (by decide)
      generalize cKill h t = g at h1 c17 c3 ⊢
      have hin : vp_in (nI t) 120 := vp_in_nI (by omega) (by decide)
      have et : (nI t).toNatClampNeg = t := nI_clamp (by omega)
      have ho : g 17 t = -1 ∨ vp_in (g 17 t) 120 := by
        rw [c17]
        rcases b7 t (by omega) with z | ⟨p, hp, z⟩
        · exact Or.inl z
        · exact Or.inr (by rw [z]; exact vp_in_nI (by omega) (by decide))
      refine hK _ _ _ _ ⟨fun e => absurd e ?_, fun _ => ⟨hin, ?_⟩⟩
      · rw [c3, b1]; exact nI_ge (by omega) (by omega)
      rw [et]
      have e68 : ∀ v w, v = (if g 17 t = -1 then 0 else if g 16 (ix (g 17 t)) = 7 then cEnd g (nI t) 2 &&& 65535 else 0) → w = (if g 17 t = -1 then 0 else g 28 (ix (g 17 t))) → K 68 [some (.inr 3), some (.inl (nI t)), some (.inl (g 17 t)), some (.inl v)] [.inl w, .inl v, .inl (nI t), .inr 28] g := by
        intro v w hv hw
        subst hv
        subst hw
        refine hK _ _ _ _ ⟨hin, ?_⟩
        rw [et]
        rw [← nI_1] at h1
        exact h1 _ _
      have e46 : ∀ v, v = (if g 17 t = -1 then 0 else if g 16 (ix (g 17 t)) = 7 then cEnd g (nI t) 2 &&& 65535 else 0) → ∀ z, K 46 [some (.inr 3), some (.inl (nI t)), some (.inl (g 17 t)), z] [.inl v] g := by
        intro v hv z
        refine hK _ _ _ _ ⟨fun e => ?_, fun e => ?_⟩
        · refine hK _ _ _ _ ⟨ho.resolve_left e, ?_⟩
          exact e68 _ _ hv (by rw [if_neg e])
        · refine e68 _ _ hv (by rw [if_pos e])
      refine ⟨fun e => ?_, fun e => ⟨ho.resolve_left e, ?_⟩⟩
      · exact hK _ _ _ _ (e46 _ (by rw [if_pos e]) _)
      · refine ⟨fun e2 => ?_, fun e2 => ?_⟩
        · exact hK _ _ _ _ (e46 _ (by rw [if_neg e, if_neg e2]) _)
        · refine s_X3_end (by omega) _ _ ?_
          exact e46 _ (by rw [if_neg e, if_pos e2]) _
  exact loop n 0 (by omega) _ _
/-- sweeps while something changed, at most k -/
def cIt (f : Int32) (sc sg : Nat) : Nat → mvH → mvH
  | 0, h => h
  | k + 1, h => if h 3 19 = 0 then h else cIt f sc sg k (cSweep (hset h 3 19 0) f sc sg)
def cRun (h : mvH) (q : Nat) (w f : Int32) (n sc sg : Nat) : mvH := cKill (cIt f sc sg 2000 (hset (cSl (cForg h) q w n n) 3 19 1)) n
theorem sS_it {f : Int32} {sc sg : Nat} : ∀ k h, sameS h (cIt f sc sg k h) := by
  intro k
  induction k with
  | zero => intro h; exact sameS.rfl
  | succ k ih =>
    intro h
    unfold cIt
    split
    · exact sameS.rfl
    · exact (sameS.ch.trans sS_sweep).trans (ih _)
theorem cForg_o {q : Nat} (hq : ¬ (q = 23 ∨ q = 24 ∨ q = 25 ∨ q = 27 ∨ q = 29)) : cForg h q = h q := by
  have h1 : q ≠ 29 := fun e => hq (by omega)
  have h2 : q ≠ 27 := fun e => hq (by omega)
  have h3 : q ≠ 25 := fun e => hq (by omega)
  have h4 : q ≠ 24 := fun e => hq (by omega)
  have h5 : q ≠ 23 := fun e => hq (by omega)
  unfold cForg
  rw [hset_other h1, hset_other h1, hset_other h1, hset_other h1]
  simp [hfill, h1, h2, h3, h4, h5]
set_option maxHeartbeats 4000000 in
theorem s_X3_runInstant (hd : 6 ≤ d) (q : Nat) (hq : q = 6 ∨ q = 31) (w f : Int32) {n sc sg : Nat} (hw : WB h n sc sg) (h4 : 4 ≤ sg) (hQ : Q none (cRun h q w f n sc sg)) : mvCal mvMT d 49 [.inr 3, .inr q, .inl w, .inl f] h Q := by
  obtain ⟨d, rfl⟩ := d_pos hd (by decide)
  refine ⟨⟨rfl, by decide, rfl⟩, Nat.le_of_ble_eq_true rfl, fun K hK => hK _ _ _ _ ?_⟩
  refine s_X3_forgetWires (by omega) ?_
  refine s_X3_select (by omega) q hq w (n := n) (by rw [cForg_o (by decide)]; exact hw.1) hw.2.1 ?_
  refine ⟨Or.inr rfl, ?_⟩
  have hw0 : WB (hset (cSl (cForg h) q w n n) 3 19 1) n sc sg := by
    refine sS_WB sameS.ch ?_
    obtain ⟨a1, a2, a3, a4, a5, a6, a7, a8⟩ := hw
    unfold WB
    rw [cSl_o n 3 (by decide), cSl_o n 17 (by decide), cSl_o n 21 (by decide), cForg_o (by decide), cForg_o (by decide), cForg_o (by decide)]
    exact ⟨a1, a2, a3, a4, a5, a6, a7, a8⟩
  have e49 : ∀ g z, WB g n sc sg → Q none (cKill g n) → K 49 [some (.inr 3), some (.inr q), some (.inl w), some (.inl f), z] [] g := by
    intro g z hg hq
    refine hK _ _ _ _ ?_
    refine s_X3_findKilled (by omega) hg ?_
    exact hq
  have loop : ∀ k i g, i + k = 2000 → WB g n sc sg → Q none (cKill (cIt f sc sg k g) n) → K 18 [some (.inr 3), some (.inr q), some (.inl w), some (.inl f), some (.inl (nI i))] [] g := by
    intro k
    induction k with
    | zero =>
      intro i g hi hg hq
      obtain rfl : i = 2000 := by omega
      refine hK _ _ _ _ ⟨fun _ => e49 g _ hg hq, fun e => absurd (by decide) e⟩
    | succ k ih =>
      intro i g hi hg hq
      unfold cIt at hq
      refine hK _ _ _ _ ⟨fun e => absurd e (nI_ge (b := 2000) (by omega) (by decide)), fun _ => ?_⟩
      refine ⟨fun e => ?_, fun e => ⟨Or.inl rfl, ?_⟩⟩
      · rw [if_pos e] at hq
        exact e49 g _ hg hq
      · rw [if_neg e] at hq
        refine s_X3_sweepOnce (by omega) f (sS_WB sameS.ch hg) h4 ?_
        have h1 := ih (i + 1) _ (by omega) (sS_WB sS_sweep (sS_WB (sameS.ch (v := 0)) hg)) hq
        rw [← nI_1] at h1
        exact h1
  exact loop 2000 0 _ (by omega) hw0 hQ
def cU6 (h : mvH) (t : Nat) (a : Int32) : Nat → Int32
  | 0 => a
  | c + 1 => cU6 h t a c ||| lUnk (cEnd h (nI t) (nI c))
def cUnd (h : mvH) : Nat → Int32
  | 0 => 0
  | t + 1 => cU6 h t (cUnd h t ||| (lUnk (h 23 t) ||| lUnk (h 26 t))) 6
def cUnS (h : mvH) (a : Int32) : Nat → Int32
  | 0 => a
  | s + 1 => cUnS h a s ||| lUnk (h 29 s)
set_option maxHeartbeats 4000000 in
theorem s_X3_undecidedLanes (hd : 2 ≤ d) {n sc sg : Nat} (hw : WB h n sc sg) (hQ : Q (some (.inl (cUnS h (cUnd h n) sg))) h) : mvCal mvMT d 71 [.inr 3] h Q := by
  obtain ⟨d, rfl⟩ := d_pos hd (by decide)
  refine ⟨⟨rfl, by decide, rfl⟩, Nat.le_of_ble_eq_true rfl, fun K hK => hK _ _ _ _ ?_⟩
  obtain ⟨b1, b2, -, -, b5, b6, -, -⟩ := hw
  have sigs : ∀ k s, s + k = sg → ∀ z, K 68 [some (.inr 3), some (.inl (cUnS h (cUnd h n) s)), some (.inl (nI s)), z] [] h := by
    intro k
    induction k with
    | zero =>
      intro s hs z
      obtain rfl : s = sg := by omega
      refine hK _ _ _ _ ⟨fun _ => ?_, fun e => absurd (show h 3 10 ≤ nI s by rw [b5]; exact nI_le (Nat.le_refl _) (by omega)) e⟩
      exact hK _ _ _ _ ⟨trivial, hQ⟩
    | succ k ih =>
      intro s hs z
      have es : (nI s).toNatClampNeg = s := nI_clamp (by omega)
      refine hK _ _ _ _ ⟨fun e => absurd (show h 3 10 ≤ nI s from e) (by rw [b5]; exact nI_ge (by omega) (by omega)), fun _ => ⟨vp_in_nI (by omega) (by decide), ?_⟩⟩
      rw [es]
      refine s_X3_unknownLanes (by omega) _ ?_
      have h1 := ih (s + 1) (by omega)
      rw [← nI_1] at h1
      exact h1 _
  have codes : ∀ t, t < n → ∀ a, (∀ z, K 60 [some (.inr 3), some (.inl (cU6 h t a 6)), some (.inl (nI t)), z] [] h) → ∀ k c, c + k = 6 → K 36 [some (.inr 3), some (.inl (cU6 h t a c)), some (.inl (nI t)), some (.inl (nI c))] [] h := by
    intro t ht a hfin k
    induction k with
    | zero =>
      intro c hc
      obtain rfl : c = 6 := by omega
      exact hK _ _ _ _ ⟨fun _ => hfin _, fun e => absurd (by decide) e⟩
    | succ k ih =>
      intro c hc
      refine hK _ _ _ _ ⟨fun e => absurd e (nI_lt6 (by omega)), fun _ => ?_⟩
      refine s_X3_end (by omega) _ _ ?_
      refine s_X3_unknownLanes (by omega) _ ?_
      have h1 := ih (c + 1) (by omega)
      rw [← nI_1] at h1
      exact h1
  have loop : ∀ k t, t + k = n → ∀ z, K 4 [some (.inr 3), some (.inl (cUnd h t)), some (.inl (nI t)), z] [] h := by
    intro k
    induction k with
    | zero =>
      intro t ht z
      obtain rfl : t = n := by omega
      refine hK _ _ _ _ ⟨fun _ => ?_, fun e => absurd (show h 3 7 ≤ nI t by rw [b1]; exact nI_le (Nat.le_refl _) (by omega)) e⟩
      refine hK _ _ _ _ ?_
      exact sigs sg 0 (by omega) _
    | succ k ih =>
      intro t ht z
      have et : (nI t).toNatClampNeg = t := nI_clamp (by omega)
      have hin : vp_in (nI t) 120 := vp_in_nI (by omega) (by decide)
      refine hK _ _ _ _ ⟨fun e => absurd (show h 3 7 ≤ nI t from e) (by rw [b1]; exact nI_ge (by omega) (by omega)), fun _ => ⟨hin, ?_⟩⟩
      rw [et]
      refine s_X3_unknownLanes (by omega) _ ?_
      refine ⟨hin, ?_⟩
      rw [et]
      refine s_X3_unknownLanes (by omega) _ ?_
      refine codes t (by omega) (cUnd h t ||| (lUnk (h 23 t) ||| lUnk (h 26 t))) (fun z => ?_) 6 0 (by omega)
      refine hK _ _ _ _ ?_
      have h1 := ih (t + 1) (by omega)
      rw [← nI_1] at h1
      exact h1 _
  exact loop n 0 (by omega) _
def cW1 (l w : Int32) : Int32 := mvsh (lUnk w) l &&& 1
def cW6 (h : mvH) (l : Int32) (t : Nat) (a : Int32) : Nat → Int32
  | 0 => a
  | c + 1 => cW6 h l t a c + cW1 l (cEnd h (nI t) (nI c))
def cWun (h : mvH) (l : Int32) : Nat → Int32
  | 0 => 0
  | t + 1 => cW6 h l t (cWun h l t + (cW1 l (h 23 t) + cW1 l (h 26 t))) 6
def cWs (h : mvH) (l a : Int32) : Nat → Int32
  | 0 => a
  | s + 1 => cWs h l a s + cW1 l (h 29 s)
set_option maxHeartbeats 4000000 in
theorem s_X3_unknownWires (hd : 3 ≤ d) (l : Int32) {n sc sg : Nat} (hw : WB h n sc sg) (hQ : Q (some (.inl (cWs h l (cWun h l n) sg))) h) : mvCal mvMT d 72 [.inr 3, .inl l] h Q := by
  obtain ⟨d, rfl⟩ := d_pos hd (by decide)
  refine ⟨⟨rfl, by decide, rfl⟩, Nat.le_of_ble_eq_true rfl, fun K hK => hK _ _ _ _ ?_⟩
  obtain ⟨b1, b2, -, -, b5, b6, -, -⟩ := hw
  have sigs : ∀ k s, s + k = sg → ∀ z, K 74 [some (.inr 3), some (.inl l), some (.inl (cWs h l (cWun h l n) s)), some (.inl (nI s)), z] [] h := by
    intro k
    induction k with
    | zero =>
      intro s hs z
      obtain rfl : s = sg := by omega
      refine hK _ _ _ _ ⟨fun _ => ?_, fun e => absurd (show h 3 10 ≤ nI s by rw [b5]; exact nI_le (Nat.le_refl _) (by omega)) e⟩
      exact hK _ _ _ _ ⟨trivial, hQ⟩
    | succ k ih =>
      intro s hs z
      have es : (nI s).toNatClampNeg = s := nI_clamp (by omega)
      refine hK _ _ _ _ ⟨fun e => absurd (show h 3 10 ≤ nI s from e) (by rw [b5]; exact nI_ge (by omega) (by omega)), fun _ => ⟨vp_in_nI (by omega) (by decide), ?_⟩⟩
      rw [es]
      refine s_X3_isUnknown (by omega) _ _ ?_
      have h1 := ih (s + 1) (by omega)
      rw [← nI_1] at h1
      exact h1 _
  have codes : ∀ t, t < n → ∀ a, (∀ z, K 66 [some (.inr 3), some (.inl l), some (.inl (cW6 h l t a 6)), some (.inl (nI t)), z] [] h) → ∀ k c, c + k = 6 → K 39 [some (.inr 3), some (.inl l), some (.inl (cW6 h l t a c)), some (.inl (nI t)), some (.inl (nI c))] [] h := by
    intro t ht a hfin k
    induction k with
    | zero =>
      intro c hc
      obtain rfl : c = 6 := by omega
      exact hK _ _ _ _ ⟨fun _ => hfin _, fun e => absurd (by decide) e⟩
    | succ k ih =>
      intro c hc
      refine hK _ _ _ _ ⟨fun e => absurd e (nI_lt6 (by omega)), fun _ => ?_⟩
      refine s_X3_end (by omega) _ _ ?_
      refine s_X3_isUnknown (by omega) _ _ ?_
      have h1 := ih (c + 1) (by omega)
      rw [← nI_1] at h1
      exact h1
  have loop : ∀ k t, t + k = n → ∀ z, K 4 [some (.inr 3), some (.inl l), some (.inl (cWun h l t)), some (.inl (nI t)), z] [] h := by
    intro k
    induction k with
    | zero =>
      intro t ht z
      obtain rfl : t = n := by omega
      refine hK _ _ _ _ ⟨fun _ => ?_, fun e => absurd (show h 3 7 ≤ nI t by rw [b1]; exact nI_le (Nat.le_refl _) (by omega)) e⟩
      refine hK _ _ _ _ ?_
      exact sigs sg 0 (by omega) _
    | succ k ih =>
      intro t ht z
      have et : (nI t).toNatClampNeg = t := nI_clamp (by omega)
      have hin : vp_in (nI t) 120 := vp_in_nI (by omega) (by decide)
      refine hK _ _ _ _ ⟨fun e => absurd (show h 3 7 ≤ nI t from e) (by rw [b1]; exact nI_ge (by omega) (by omega)), fun _ => ⟨hin, ?_⟩⟩
      rw [et]
      refine s_X3_isUnknown (by omega) _ _ ?_
      refine ⟨hin, ?_⟩
      rw [et]
      refine s_X3_isUnknown (by omega) _ _ ?_
      refine codes t (by omega) (cWun h l t + (cW1 l (h 23 t) + cW1 l (h 26 t))) (fun z => ?_) 6 0 (by omega)
      refine hK _ _ _ _ ?_
      have h1 := ih (t + 1) (by omega)
      rw [← nI_1] at h1
      exact h1 _
  exact loop n 0 (by omega) _
theorem s_X3_endedLanes (hd : 2 ≤ d) (hQ : Q (some (.inl (if h 3 7 = 0 then 0 else cEnd h 0 0 &&& 65535))) h) : mvCal mvMT d 73 [.inr 3] h Q := by
  obtain ⟨d, rfl⟩ := d_pos hd (by decide)
  refine ⟨⟨rfl, by decide, rfl⟩, Nat.le_of_ble_eq_true rfl, fun K hK => hK _ _ _ _ ⟨fun e => ?_, fun e => ?_⟩⟩
  · rw [if_neg e] at hQ
    refine hK _ _ _ _ ?_
    refine s_X3_end (by omega) _ _ ?_
    exact hK _ _ _ _ ⟨trivial, hQ⟩
  · rw [if_pos e] at hQ
    refine hK _ _ _ _ ?_
    exact ⟨trivial, hQ⟩
def cOne (h : mvH) (l : Int32) : Nat → Int32
  | 0 => 0
  | o + 1 => cOne h l o ||| ((mvsh (h 29 (4 + o) &&& 65535) l &&& 1) <<< (nI o &&& 31))
theorem s_X3_outputsThatAreOne (hd : 2 ≤ d) (l : Int32) (hQ : Q (some (.inl (cOne h l 4))) h) : mvCal mvMT d 75 [.inr 3, .inl l] h Q := by
  obtain ⟨d, rfl⟩ := d_pos hd (by decide)
  refine ⟨⟨rfl, by decide, rfl⟩, Nat.le_of_ble_eq_true rfl, fun K hK => hK _ _ _ _ ?_⟩
  have loop : ∀ k o, o + k = 4 → K 4 [some (.inr 3), some (.inl l), some (.inl (cOne h l o)), some (.inl (nI o))] [] h := by
    intro k
    induction k with
    | zero =>
      intro o ho
      obtain rfl : o = 4 := by omega
      exact hK _ _ _ _ ⟨fun _ => hK _ _ _ _ ⟨trivial, hQ⟩, fun e => absurd (by decide) e⟩
    | succ k ih =>
      intro o ho
      refine hK _ _ _ _ ⟨fun e => absurd e (nI_ge (b := 4) (by omega) (by decide)), fun _ => ?_⟩
      refine s_X3_lanesWithOutput (by omega) o (by omega) ?_
      have h1 := ih (o + 1) (by omega)
      rw [← nI_1] at h1
      exact h1
  exact loop 4 0 (by omega)
def cUno (h : mvH) (l : Int32) : Nat → Int32
  | 0 => 0
  | o + 1 => cUno h l o ||| (cW1 l (h 29 (4 + o)) <<< (nI o &&& 31))
theorem s_X3_outputsThatAreUnknown (hd : 3 ≤ d) (l : Int32) (hQ : Q (some (.inl (cUno h l 4))) h) : mvCal mvMT d 76 [.inr 3, .inl l] h Q := by
  obtain ⟨d, rfl⟩ := d_pos hd (by decide)
  refine ⟨⟨rfl, by decide, rfl⟩, Nat.le_of_ble_eq_true rfl, fun K hK => hK _ _ _ _ ?_⟩
  have loop : ∀ k o, o + k = 4 → K 4 [some (.inr 3), some (.inl l), some (.inl (cUno h l o)), some (.inl (nI o))] [] h := by
    intro k
    induction k with
    | zero =>
      intro o ho
      obtain rfl : o = 4 := by omega
      exact hK _ _ _ _ ⟨fun _ => hK _ _ _ _ ⟨trivial, hQ⟩, fun e => absurd (by decide) e⟩
    | succ k ih =>
      intro o ho
      have e1 : (4 : Int32) + nI o = nI (4 + o) := by rw [show (4 : Int32) = nI 4 by decide, nI_add]
      have hin : vp_in ((4 : Int32) + nI o) 128 := by rw [e1]; exact vp_in_nI (by omega) (by decide)
      refine hK _ _ _ _ ⟨fun e => absurd e (nI_ge (b := 4) (by omega) (by decide)), fun _ => ⟨hin, ?_⟩⟩
      rw [e1, nI_clamp (by omega)]
      refine s_X3_isUnknown (by omega) _ _ ?_
      have h1 := ih (o + 1) (by omega)
      rw [← nI_1] at h1
      exact h1
  exact loop 4 0 (by omega)
/-- the next registers of the first t things, for lane l, into the words at cell q -/
def cCp (h : mvH) (q : Nat) (l : Int32) : Nat → mvH
  | 0 => hfill h q 4 0
  | t + 1 => let g := cCp h q l t
    let w := g 20 t >>> ((5 : Int32) &&& 31)
    if g 16 t = 1 then (if w < 0 then g else if 4 ≤ w then g else hset g q (ix w) (g q (ix w) ||| ((mvsh (cStay g (nI t)) l &&& 1) <<< ((g 20 t &&& 31) &&& 31)))) else g
theorem cCp_o {q : Nat} {l : Int32} : ∀ t q', q' ≠ q → cCp h q l t q' = h q' := by
  intro t
  induction t with
  | zero => intro q' hq'; simp [cCp, hfill, hq']
  | succ t ih =>
    intro q' hq'
    unfold cCp
    dsimp only
    split
    · split
      · exact ih q' hq'
      · split
        · exact ih q' hq'
        · rw [hset_other hq', ih q' hq']
    · exact ih q' hq'
set_option maxHeartbeats 4000000 in
theorem s_X3_copyNextRegisters (hd : 2 ≤ d) (l : Int32) (q : Nat) (hq : q = 6 ∨ q = 32) {n : Nat} (hn : h 3 7 = nI n) (hn2 : n ≤ 120) (hQ : Q none (cCp h q l n)) : mvCal mvMT d 77 [.inr 3, .inl l, .inr q] h Q := by
  obtain ⟨d, rfl⟩ := d_pos hd (by decide)
  refine ⟨⟨rfl, by decide, rfl⟩, Nat.le_of_ble_eq_true rfl, fun K hK => hK _ _ _ _ ?_⟩
  refine s_fill (by omega) q _ (by unfold isFl; omega) ?_
  have hlen : aLen q = 4 := by rcases hq with rfl | rfl <;> rfl
  rw [hlen]
  have loop : ∀ k t, t + k = n → ∀ z, K 7 [some (.inr 3), some (.inl l), some (.inr q), some (.inl (nI t)), z] [] (cCp h q l t) := by
    intro k
    induction k with
    | zero =>
      intro t ht z
      obtain rfl : t = n := by omega
      refine hK _ _ _ _ ⟨fun _ => hK _ _ _ _ hQ, fun e => absurd (show (cCp h q l t) 3 7 ≤ nI t by rw [cCp_o t 3 (by omega), hn]; exact nI_le (Nat.le_refl _) (by omega)) e⟩
    | succ k ih =>
      intro t ht z
      have h1 := ih (t + 1) (by omega)
      unfold cCp at h1
      dsimp only at h1
      have c3 := cCp_o (h := h) (l := l) t 3 (show 3 ≠ q by omega)
      generalize cCp h q l t = g at h1 c3 ⊢
      have et : (nI t).toNatClampNeg = t := nI_clamp (by omega)
      have hin : vp_in (nI t) 120 := vp_in_nI (by omega) (by decide)
      have e73 : ∀ g', g' = (if g 16 t = 1 then (if g 20 t >>> ((5 : Int32) &&& 31) < 0 then g else if 4 ≤ g 20 t >>> ((5 : Int32) &&& 31) then g else hset g q (ix (g 20 t >>> ((5 : Int32) &&& 31))) (g q (ix (g 20 t >>> ((5 : Int32) &&& 31))) ||| ((mvsh (cStay g (nI t)) l &&& 1) <<< ((g 20 t &&& 31) &&& 31)))) else g) → ∀ z, K 73 [some (.inr 3), some (.inl l), some (.inr q), some (.inl (nI t)), z] [] g' := by
        intro g' hg' z
        subst hg'
        refine hK _ _ _ _ ?_
        rw [← nI_1] at h1
        exact h1 _
      refine hK _ _ _ _ ⟨fun e => absurd (show g 3 7 ≤ nI t from e) (by rw [c3, hn]; exact nI_ge (by omega) (by omega)), fun _ => ⟨hin, ?_⟩⟩
      rw [et]
      refine ⟨hin, ?_⟩
      rw [et]
      refine ⟨fun e => ?_, fun e => ⟨fun e2 => ?_, fun e2 => ?_⟩⟩
      · exact e73 g (by rw [if_neg e]) _
      · exact e73 g (by rw [if_pos e, if_pos e2]) _
      · rcases hq with rfl | rfl
        all_goals
          refine ⟨fun e3 => e73 g (by rw [if_pos e, if_neg e2, if_pos (show (4 : Int32) ≤ _ from e3)]) _, fun e3 => ?_⟩
          have e3 : ¬ (4 : Int32) ≤ g 20 t >>> ((5 : Int32) &&& 31) := e3
          have hv := vp_in_i e2 (Int32.not_le.mp e3) (n := 4) (by decide)
          refine ⟨hv, ?_⟩
          refine s_X3_staysLanes (by omega) _ hin ?_
          refine ⟨hin, ?_⟩
          rw [et]
          refine ⟨hv, ?_⟩
          exact e73 _ (by rw [if_pos e, if_neg e2, if_neg e3]) _
  exact loop n 0 (by omega) _
end WS5
