/-! WIRES: a sweep, an instant, what is read off it -/
theorem xor_xor (x : Int32) : (x ^^^ (-1)) ^^^ (-1) = x := by
  rw [Int32.xor_assoc, show (-1 : Int32) ^^^ (-1) = 0 by decide, Int32.xor_zero]
theorem com_neg : ∀ t, t < 120 → nI t ^^^ (-1) < 0 := by decide +kernel
theorem vp_in_n {x : Int32} {n : Nat} (h0 : ¬ x < 0) (h1 : ¬ nI n ≤ x) (hn : n ≤ 120) : vp_in x 120 := by
  obtain ⟨j, hj, rfl⟩ := nI_of h0
  have h2 : j < n := by
    rcases Nat.lt_or_ge j n with z | z
    · exact z
    · exact absurd (nI_le z hj) h1
  exact vp_in_nI (by omega) (by decide)
section WS4
variable {d : Nat} {h : mvH} {Q : Option mvV → mvH → Prop}
def cSteps (h : mvH) (f : Int32) : Nat → mvH
  | 0 => h
  | j + 1 => if (cSteps h f j) 21 j < 0 then cLeave (cSteps h f j) (ix ((cSteps h f j) 21 j ^^^ (-1))) else cCome (cSteps h f j) (ix ((cSteps h f j) 21 j)) f
theorem sS_steps {f : Int32} : ∀ j, sameS h (cSteps h f j) := by
  intro j
  induction j with
  | zero => exact sameS.rfl
  | succ j ih =>
    unfold cSteps
    split
    · exact ih.trans sS_leave
    · exact ih.trans sS_come
def cSgs (h : mvH) : Nat → mvH
  | 0 => h
  | j + 1 => cPut (cSgs h j) 29 (4 + j) ((cSgs h j) 30 (4 + j))
theorem sS_sgs : ∀ j, sameS h (cSgs h j) := by
  intro j
  induction j with
  | zero => exact sameS.rfl
  | succ j ih => exact ih.trans (sS_put (by decide))
theorem sS_fill30 {v : Int32} : sameS h (hfill h 30 128 v) := by
  refine ⟨fun q hq => ?_, fun j _ => ?_⟩
  · have : q ≠ 30 := fun e => hq (by omega)
    simp [hfill, this]
  · simp [hfill]
def cSweep (h : mvH) (f : Int32) (sc sg : Nat) : mvH := cSgs (cSteps (hfill h 30 128 (-65536)) f sc) (sg - 4)
theorem sS_sweep {f : Int32} {sc sg : Nat} : sameS h (cSweep h f sc sg) := (sS_fill30.trans (sS_steps sc)).trans (sS_sgs _)
set_option maxHeartbeats 4000000 in
theorem s_X3_sweepOnce (hd : 5 ≤ d) (f : Int32) {n sc sg : Nat} (hw : WB h n sc sg) (h4 : 4 ≤ sg) (hQ : Q none (cSweep h f sc sg)) : mvCal mvMT d 54 [.inr 3, .inl f] h Q := by
  obtain ⟨d, rfl⟩ := d_pos hd (by decide)
  refine ⟨⟨rfl, by decide, rfl⟩, Nat.le_of_ble_eq_true rfl, fun K hK => hK _ _ _ _ ?_⟩
  refine s_fill (by omega) 30 _ (by unfold isFl; decide) ?_
  have hw0 : WB (hfill h 30 128 (-65536)) n sc sg := sS_WB sS_fill30 hw
  have ss := hw.2.2.2.1
  have sgl := hw.2.2.2.2.2.1
  have sigs : ∀ k j, j + k = sg - 4 → K 62 [some (.inr 3), some (.inl f), some (.inl (nI (4 + j)))] [] (cSgs (cSteps (hfill h 30 128 (-65536)) f sc) j) := by
    intro k
    induction k with
    | zero =>
      intro j hj
      obtain rfl : j = sg - 4 := by omega
      have hw1 := sS_WB ((sS_steps (f := f) sc).trans (sS_sgs (sg - 4))) hw0
      refine hK _ _ _ _ ⟨fun _ => ?_, fun e => absurd ?_ e⟩
      · exact hK _ _ _ _ hQ
      · rw [hw1.2.2.2.2.1]; exact nI_le (by omega) (by omega)
    | succ k ih =>
      intro j hj
      have hw1 := sS_WB ((sS_steps (f := f) sc).trans (sS_sgs j)) hw0
      have hin : vp_in (nI (4 + j)) 128 := vp_in_nI (by omega) (by decide)
      refine hK _ _ _ _ ⟨fun e => absurd e ?_, fun _ => ⟨hin, ?_⟩⟩
      · rw [hw1.2.2.2.2.1]; exact nI_ge (by omega) (by omega)
      · refine s_X3_put (by omega) 29 _ _ (by decide) hin ?_
        rw [ix_nI (by omega)]
        have h1 := ih (j + 1) (by omega)
        rw [show 4 + (j + 1) = 4 + j + 1 by omega, ← nI_1] at h1
        have e1 : (nI (4 + j)).toNatClampNeg = 4 + j := nI_clamp (by omega)
        show K 62 [some (.inr 3), some (.inl f), some (.inl (nI (4 + j) + 1))] [] (cPut _ 29 (4 + j) ((cSgs (cSteps (hfill h 30 128 (-65536)) f sc) j) 30 (nI (4 + j)).toNatClampNeg))
        rw [e1]
        exact h1
  have steps : ∀ k j, j + k = sc → K 11 [some (.inr 3), some (.inl f), some (.inl (nI j))] [] (cSteps (hfill h 30 128 (-65536)) f j) := by
    intro k
    induction k with
    | zero =>
      intro j hj
      obtain rfl : j = sc := by omega
      have hw1 := sS_WB (sS_steps (f := f) j) hw0
      refine hK _ _ _ _ ⟨fun _ => ?_, fun e => absurd ?_ e⟩
      · refine hK _ _ _ _ ?_
        exact sigs (sg - 4) 0 (by omega)
      · rw [hw1.2.2.1]; exact nI_le (by omega) (by omega)
    | succ k ih =>
      intro j hj
      have hw1 := sS_WB (sS_steps (f := f) j) hw0
      have h1 := ih (j + 1) (by omega)
      unfold cSteps at h1
      generalize hg : cSteps (hfill h 30 128 (-65536)) f j = g at h1 hw1 ⊢
      obtain ⟨b1, b2, b3, b4, b5, b6, b7, b8⟩ := hw1
      obtain ⟨t, ht, hst⟩ := b8 j (by omega)
      have hin : vp_in (nI j) 240 := vp_in_nI (by omega) (by decide)
      have ej : (nI j).toNatClampNeg = j := nI_clamp (by omega)
      have e54 : K 54 [some (.inr 3), some (.inl f), some (.inl (nI j))] [] (if g 21 j < 0 then cLeave g (ix (g 21 j ^^^ (-1))) else cCome g (ix (g 21 j)) f) := by
        refine hK _ _ _ _ ?_
        rw [← nI_1] at h1
        exact h1
      refine hK _ _ _ _ ⟨fun e => absurd e ?_, fun _ => ⟨hin, ?_⟩⟩
      · rw [b3]; exact nI_ge (by omega) (by omega)
      · rw [ej]
        refine ⟨fun e => ?_, fun e => ?_⟩
        · rcases hst with hst | hst
          · exact absurd e (by rw [hst]; exact nI_pos (by omega))
          · refine hK _ _ _ _ ⟨hin, ?_⟩
            rw [ej]
            rw [if_pos e, hst, xor_xor, ix_nI (by omega)] at e54
            conv => whnf
            rw [hst, xor_xor]
            refine s_X3_leave (by omega) t (by omega) (fun x _ hx0 hx1 => vp_in_n hx0 (by rw [← b1]; exact hx1) b2) ?_
            exact e54
        · rcases hst with hst | hst
          · refine ⟨hin, ?_⟩
            rw [ej]
            rw [if_neg e, hst, ix_nI (by omega)] at e54
            rw [hst]
            refine s_X3_comeInto (by omega) t f (by omega) ?_ ?_
            · rcases b7 t ht with z | ⟨p, hp, z⟩
              · exact Or.inl z
              · exact Or.inr (by rw [z]; exact vp_in_nI (by omega) (by decide))
            · exact e54
          · exact absurd (by rw [hst]; exact com_neg t (by omega)) e
  exact steps sc 0 (by omega)
/-- forgetting: all wires unknown, the inputs as the static table has them -/
def cForg (h : mvH) : mvH := hset (hset (hset (hset (hfill (hfill (hfill (hfill (hfill h 23 120 0) 24 120 0) 25 120 0) 27 720 0) 29 128 0) 29 0 (h 64 0)) 29 1 (h 64 1)) 29 2 (h 64 2)) 29 3 (h 64 3)
set_option maxHeartbeats 4000000 in
theorem s_X3_forgetWires (hd : 2 ≤ d) (hQ : Q none (cForg h)) : mvCal mvMT d 50 [.inr 3] h Q := by
  obtain ⟨d, rfl⟩ := d_pos hd (by decide)
  refine ⟨⟨rfl, by decide, rfl⟩, Nat.le_of_ble_eq_true rfl, fun K hK => hK _ _ _ _ ?_⟩
  refine s_fill (by omega) 23 _ (by unfold isFl; decide) ?_
  refine s_fill (by omega) 24 _ (by unfold isFl; decide) ?_
  refine s_fill (by omega) 25 _ (by unfold isFl; decide) ?_
  refine s_fill (by omega) 27 _ (by unfold isFl; decide) ?_
  refine s_fill (by omega) 29 _ (by unfold isFl; decide) ?_
  refine hK _ _ _ _ ⟨fun e => absurd e (by decide), fun _ => ⟨by unfold vp_in; decide, by unfold vp_in; decide, ?_⟩⟩
  refine hK _ _ _ _ ⟨fun e => absurd e (by decide), fun _ => ⟨by unfold vp_in; decide, by unfold vp_in; decide, ?_⟩⟩
  refine hK _ _ _ _ ⟨fun e => absurd e (by decide), fun _ => ⟨by unfold vp_in; decide, by unfold vp_in; decide, ?_⟩⟩
  refine hK _ _ _ _ ⟨fun e => absurd e (by decide), fun _ => ⟨by unfold vp_in; decide, by unfold vp_in; decide, ?_⟩⟩
  refine hK _ _ _ _ ⟨fun _ => ?_, fun e => absurd (by decide) e⟩
  refine hK _ _ _ _ ?_
  exact hQ
/-- is the register set: words at cell q from a place on -/
def cIsSet (h : mvH) (q : Nat) (w r : Int32) : Int32 :=
  if w + (r >>> ((5 : Int32) &&& 31)) < 0 then 0 else if nI (aLen q) ≤ w + (r >>> ((5 : Int32) &&& 31)) then 0 else if mvsh (h q (ix (w + (r >>> ((5 : Int32) &&& 31))))) (r &&& 31) &&& 1 = 1 then 1 else 0
theorem s_X3_isSet (hd : 1 ≤ d) (q : Nat) (hq : q = 6 ∨ q = 31) (w r : Int32) (hQ : Q (some (.inl (cIsSet h q w r))) h) : mvCal mvMT d 52 [.inr q, .inl w, .inl r] h Q := by
  obtain ⟨d, rfl⟩ := d_pos hd (by decide)
  rcases hq with rfl | rfl
  all_goals
    refine ⟨rfl, Nat.le_of_ble_eq_true rfl, fun K hK => hK _ _ _ _ ⟨fun e => ?_, fun e => ⟨fun e2 => ?_, fun e2 => ?_⟩⟩⟩
    · repeat refine hK _ _ _ _ ?_
      exact ⟨Or.inl rfl, mvq hQ (by simp [cIsSet, e])⟩
    · repeat refine hK _ _ _ _ ?_
      exact ⟨Or.inl rfl, mvq hQ (by unfold cIsSet; (first | rw [show aLen 6 = 4 from rfl] | rw [show aLen 31 = 120 from rfl]); rw [if_neg e, if_pos e2])⟩
    · refine ⟨vp_in_i e (Int32.not_le.mp e2) (by decide), ⟨fun e3 => ?_, fun e3 => ?_⟩⟩
      · repeat refine hK _ _ _ _ ?_
        exact ⟨Or.inl rfl, mvq hQ (by unfold cIsSet; (first | rw [show aLen 6 = 4 from rfl] | rw [show aLen 31 = 120 from rfl]); rw [if_neg e, if_neg e2, if_neg e3])⟩
      · repeat refine hK _ _ _ _ ?_
        exact ⟨Or.inr rfl, mvq hQ (by unfold cIsSet; (first | rw [show aLen 6 = 4 from rfl] | rw [show aLen 31 = 120 from rfl]); rw [if_neg e, if_neg e2, if_pos e3])⟩
/-- SEL of things n - 1, n - 2 .. down by k -/
def cSl (h : mvH) (q : Nat) (w : Int32) (n : Nat) : Nat → mvH
  | 0 => h
  | k + 1 => let g := cSl h q w n k
    hset g 26 (n - 1 - k) (if g 16 (n - 1 - k) = 1 then (if cIsSet g q w (g 20 (n - 1 - k)) = 0 then -65536 else 65535) else lOr (cSel g (g 18 (n - 1 - k))) (cSel g (g 19 (n - 1 - k))))
theorem cSl_o {q : Nat} {w : Int32} {n : Nat} : ∀ k q', q' ≠ 26 → cSl h q w n k q' = h q' := by
  intro k
  induction k with
  | zero => intro q' _; rfl
  | succ k ih => intro q' hq'; unfold cSl; dsimp only; rw [hset_other hq', ih q' hq']
set_option maxHeartbeats 4000000 in
theorem s_X3_select (hd : 2 ≤ d) (q : Nat) (hq : q = 6 ∨ q = 31) (w : Int32) {n : Nat} (hn : h 3 7 = nI n) (hn2 : n ≤ 120) (hQ : Q none (cSl h q w n n)) : mvCal mvMT d 51 [.inr 3, .inr q, .inl w] h Q := by
  obtain ⟨d, rfl⟩ := d_pos hd (by decide)
  refine ⟨⟨rfl, by decide, rfl⟩, Nat.le_of_ble_eq_true rfl, fun K hK => hK _ _ _ _ ?_⟩
  have fin : ∀ x, x < 0 → K 7 [some (.inr 3), some (.inr q), some (.inl w), some (.inl x)] [] (cSl h q w n n) := by
    intro x hx
    refine hK _ _ _ _ ⟨fun _ => hK _ _ _ _ hQ, fun e => absurd hx e⟩
  have loop : ∀ k, k ≤ n → K 7 [some (.inr 3), some (.inr q), some (.inl w), some (.inl (nI k - 1))] [] (cSl h q w n (n - k)) := by
    intro k
    induction k with
    | zero => intro _; exact fin _ (by decide)
    | succ k ih =>
      intro hk
      have h1 := ih (by omega)
      rw [nI_pred]
      rw [show n - k = (n - (k + 1)) + 1 by omega] at h1
      unfold cSl at h1
      have e1 : n - 1 - (n - (k + 1)) = k := by omega
      rw [e1] at h1
      have ho := cSl_o (h := h) (q := q) (w := w) (n := n) (n - (k + 1))
      generalize cSl h q w n (n - (k + 1)) = g at h1 ho ⊢
      have hin : vp_in (nI k) 120 := vp_in_nI (by omega) (by decide)
      have ek : (nI k).toNatClampNeg = k := nI_clamp (by omega)
      have e80 : ∀ v, v = (if g 16 k = 1 then (if cIsSet g q w (g 20 k) = 0 then -65536 else 65535) else lOr (cSel g (g 18 k)) (cSel g (g 19 k))) → K 80 [some (.inr 3), some (.inr q), some (.inl w), some (.inl (nI k))] [] (hset g 26 k v) := by
        intro v hv
        subst hv
        refine hK _ _ _ _ ?_
        rw [show nI k - 1 = nI k + (-1) by rw [Int32.sub_eq_add_neg]] at h1
        exact h1
      refine hK _ _ _ _ ⟨fun e => absurd e (nI_pos (by omega)), fun _ => ⟨hin, ?_⟩⟩
      rw [ek]
      have hsel : ∀ x, ¬ x < 0 → ¬ g 3 7 ≤ x → vp_in x 120 := fun x z1 z2 => vp_in_n z1 (by rw [← hn, ← ho 3 (by decide)]; exact z2) hn2
      refine ⟨fun e => ?_, fun e => ?_⟩
      · refine hK _ _ _ _ ⟨hin, ?_⟩
        rw [ek]
        refine s_X3_selOf (by omega) _ (hsel _) ?_
        refine ⟨hin, ?_⟩
        rw [ek]
        refine s_X3_selOf (by omega) _ (hsel _) ?_
        refine s_X3_or (by omega) _ _ ?_
        refine ⟨hin, ?_⟩
        rw [ek]
        exact e80 _ (by rw [if_neg e])
      · refine ⟨hin, ?_⟩
        rw [ek]
        refine s_X3_isSet (by omega) q hq _ _ ?_
        refine ⟨fun e2 => ?_, fun e2 => ?_⟩
        · refine hK _ _ _ _ ?_
          refine hK _ _ _ _ ⟨hin, ?_⟩
          rw [ek]
          exact e80 _ (by rw [if_pos e, if_pos e2])
        · refine hK _ _ _ _ ⟨hin, ?_⟩
          rw [ek]
          exact e80 _ (by rw [if_pos e, if_neg e2])
  have h0 := loop n (Nat.le_refl n)
  rw [Nat.sub_self] at h0
  conv => whnf
  rw [hn]
  exact h0
end WS4
