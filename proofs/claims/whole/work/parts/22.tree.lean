/-! TREE reads as the mathematics reads -/
theorem nI_nm1 {l : Nat} (hl : l < 2 ^ 31) : ¬ nI l = -1 := by
  intro e
  have := nI_pos hl
  rw [e] at this
  exact this (by decide)
def rdPost (tx : Nat → Int32) (n : Nat) (h : mvH) (o : Option rdT) (r : Int32) (h' : mvH) : Prop := frP h h' ∧ match o with
  | none => r = -1
  | some (p', N', a) => r = nI a ∧ LnOK h' tx n p' ∧ TrOK h' N'
theorem rdPost.mono {tx : Nat → Int32} {n : Nat} {h g h' : mvH} {o : Option rdT} {r : Int32} (hf : frP h g) (hp : rdPost tx n g o r h') : rdPost tx n h o r h' := ⟨hf.trans hp.1, hp.2⟩
section TR
variable {d : Nat} {h : mvH} {Q : Option mvV → mvH → Prop} {tx : Nat → Int32} {n : Nat}
theorem s_X2_addAround_no (hd : 1 ≤ d) (a b : Int32) (hQ : Q (some (.inl (-1))) h) : mvCal mvMT d 27 [.inr 2, .inl a, .inl b, .inl (-1)] h Q := by
  obtain ⟨d, rfl⟩ := d_pos hd (by decide)
  refine ⟨⟨rfl, by decide, rfl⟩, Nat.le_of_ble_eq_true rfl, fun K hK => hK _ _ _ _ ⟨fun e => absurd rfl e, fun _ => ?_⟩⟩
  refine hK _ _ _ _ ?_
  exact ⟨trivial, hQ⟩
theorem s_X2_addAround (hd : 2 ≤ d) (a b : Int32) {l m : Nat} (hl : l < 60) (hm : h 2 8 = nI m) (hm2 : m < 60) (hQ : Q (some (.inl (nI m))) (cAdd h m a b (nI l) (-1))) : mvCal mvMT d 27 [.inr 2, .inl a, .inl b, .inl (nI l)] h Q := by
  obtain ⟨d, rfl⟩ := d_pos hd (by decide)
  refine ⟨⟨rfl, by decide, rfl⟩, Nat.le_of_ble_eq_true rfl, fun K hK => hK _ _ _ _ ⟨fun _ => ?_, fun e => absurd e (nI_nm1 (by omega))⟩⟩
  refine hK _ _ _ _ ?_
  refine s_X2_add (by omega) _ _ _ _ hm hm2 ?_
  exact hK _ _ _ _ ⟨trivial, hQ⟩
theorem s_X2_addPair_no (hd : 1 ≤ d) (a b l : Int32) (hQ : Q (some (.inl (-1))) h) : mvCal mvMT d 28 [.inr 2, .inl a, .inl b, .inl l, .inl (-1)] h Q := by
  obtain ⟨d, rfl⟩ := d_pos hd (by decide)
  refine ⟨⟨rfl, by decide, rfl⟩, Nat.le_of_ble_eq_true rfl, fun K hK => hK _ _ _ _ ⟨fun _ => ?_, fun _ => ⟨fun e => absurd rfl e, fun _ => ?_⟩⟩⟩
  · repeat refine hK _ _ _ _ ?_
    exact ⟨trivial, hQ⟩
  · repeat refine hK _ _ _ _ ?_
    exact ⟨trivial, hQ⟩
theorem s_X2_addPair (hd : 2 ≤ d) (a b : Int32) {l r m : Nat} (hl : l < 60) (hr : r < 60) (hm : h 2 8 = nI m) (hm2 : m < 60) (hQ : Q (some (.inl (nI m))) (cAdd h m a b (nI l) (nI r))) : mvCal mvMT d 28 [.inr 2, .inl a, .inl b, .inl (nI l), .inl (nI r)] h Q := by
  obtain ⟨d, rfl⟩ := d_pos hd (by decide)
  refine ⟨⟨rfl, by decide, rfl⟩, Nat.le_of_ble_eq_true rfl, fun K hK => hK _ _ _ _ ⟨fun e => absurd e (nI_nm1 (by omega)), fun _ => ⟨fun _ => ?_, fun e => absurd e (nI_nm1 (by omega))⟩⟩⟩
  refine hK _ _ _ _ ?_
  refine s_X2_add (by omega) _ _ _ _ hm hm2 ?_
  exact hK _ _ _ _ ⟨trivial, hQ⟩
/-- a reader's contract: the method mid reads as u does, at depth dep, with k frames -/
def rdC (tx : Nat → Int32) (n mid k : Nat) (dep : Int32) (u : Nat → List Nd → Option rdT) : Prop :=
  ∀ (d : Nat) (h : mvH) (Q : Option mvV → mvH → Prop) (p : Nat) (N : List Nd), k ≤ d → LnOK h tx n p → TrOK h N → N.length ≤ p → (∀ r h', rdPost tx n h (u p N) r h' → Q (some (.inl r)) h') → mvCal mvMT d mid [.inr 2, .inr 1, .inl dep] h Q
set_option maxHeartbeats 4000000 in
theorem rdC_par {k : Nat} {dep : Int32} {u : Nat → List Nd → Option rdT} (hu : rdOkF n u) (hc : rdC tx n 19 k dep u) : rdC tx n 18 (k + 3) dep (rdPar tx n u) := by
  intro d h Q p N hd hl ht hN hQ
  obtain ⟨d, rfl⟩ := d_pos hd (by omega)
  refine ⟨⟨rfl, by decide, rfl⟩, Nat.le_of_ble_eq_true rfl, fun K hK => hK _ _ _ _ ?_⟩
  have hno : ∀ g i, frP h g → (∀ r h', rdPost tx n h none r h' → Q (some (.inl r)) h') → K 10 [some (.inr 2), some (.inr 1), some (.inl dep), some (.inl (-1)), some (.inl i)] [] g := by
    intro g i hg hq
    have hfin : K 52 [some (.inr 2), some (.inr 1), some (.inl dep), some (.inl (-1)), some (.inl i)] [] g := hK _ _ _ _ ⟨trivial, hq _ _ ⟨hg, rfl⟩⟩
    exact hK _ _ _ _ ⟨fun _ => hfin, fun _ => ⟨fun _ => hfin, fun e => absurd rfl e⟩⟩
  have loop : ∀ m i l p N g, i + m = 60 → frP h g → LnOK g tx n p → TrOK g N → N.length ≤ p → l + 1 = N.length → (∀ r h', rdPost tx n h (rdPl tx n u 10 124 m l p N) r h' → Q (some (.inl r)) h') → K 10 [some (.inr 2), some (.inr 1), some (.inl dep), some (.inl (nI l)), some (.inl (nI i))] [] g := by
    intro m
    induction m with
    | zero =>
      intro i l p N g hi hg hl ht hN hlN hq
      obtain rfl : i = 60 := by omega
      refine hK _ _ _ _ ⟨fun _ => ?_, fun e => absurd (by decide) e⟩
      exact hK _ _ _ _ ⟨trivial, hq _ _ ⟨hg, rfl, hl, ht⟩⟩
    | succ m ih =>
      intro i l p N g hi hg hl ht hN hlN hq
      have hp : p ≤ n := hl.2.2.2.1
      have hn : n ≤ 60 := hl.2.1
      refine hK _ _ _ _ ⟨fun e => absurd e (nI_ge (b := 60) (by omega) (by decide)), fun _ => ⟨fun e => absurd e (nI_nm1 (by omega)), fun _ => ?_⟩⟩
      refine s_X0_skip (by omega) 124 hl ?_
      unfold rdPl at hq
      by_cases hc2 : p < n ∧ tx p = 124
      · rw [if_pos hc2] at hq
        rw [if_pos hc2, if_pos hc2]
        refine ⟨fun e => absurd e (by decide), fun _ => ?_⟩
        refine hc _ _ _ (p + 1) N (by omega) (LnOK_at hl hc2.1) (TrOK_at ht) (by omega) (fun r h' hp' => ?_)
        have hg' : frP h h' := (hg.trans frP.at_).trans hp'.1
        have hk := hu (p + 1) N hc2.1
        match hu2 : u (p + 1) N, hp', hk with
        | none, hp', _ =>
          rw [hu2] at hq
          rw [hp'.2]
          refine s_X2_addPair_no (by omega) _ _ _ ?_
          exact hno _ _ hg' hq
        | some (p2, N2, a), hp', hk =>
          rw [hu2] at hq
          obtain ⟨-, hr, hl', ht'⟩ := hp'
          obtain ⟨k1, k2, k3, k4, k5⟩ := hk
          rw [hr]
          refine s_X2_addPair (by omega) _ _ (by omega) (by omega) ht'.1 (by omega) ?_
          have h1 := ih (i + 1) N2.length p2 (N2 ++ [(10, 0, nI l, nI a)]) _ (by omega) (hg'.trans frP_add) (LnOK_add hl') (TrOK_add (x := (10, 0, nI l, nI a)) ht') (by simp; omega) (by simp) hq
          rw [← nI_1] at h1
          exact h1
      · rw [if_neg hc2] at hq
        rw [if_neg hc2, if_neg hc2]
        refine ⟨fun _ => ?_, fun e => absurd rfl e⟩
        exact hK _ _ _ _ ⟨trivial, hq _ _ ⟨hg, rfl, hl, ht⟩⟩
  refine hc _ _ _ p N (by omega) hl ht hN (fun r h' hp' => ?_)
  have hk := hu p N hl.2.2.2.1
  unfold rdPar at hQ
  match hu2 : u p N, hp', hk with
  | none, hp', _ =>
    rw [hu2] at hQ
    rw [hp'.2]
    exact hno _ _ hp'.1 hQ
  | some (p2, N2, a), hp', hk =>
    rw [hu2] at hQ
    obtain ⟨hf, hr, hl', ht'⟩ := hp'
    obtain ⟨k1, k2, k3, k4, k5⟩ := hk
    rw [hr]
    exact loop 60 0 a p2 N2 h' (by omega) hf hl' ht' (by omega) k4 hQ
set_option maxHeartbeats 4000000 in
theorem rdC_seq {k : Nat} {dep : Int32} {u : Nat → List Nd → Option rdT} (hu0 : rdOkF n u) (hc0 : rdC tx n 19 k dep u) : rdC tx n 17 (k + 6) dep (rdSeq tx n u) := by
  have hu := rdPar_ok (tx := tx) hu0
  have hc := rdC_par hu0 hc0
  intro d h Q p N hd hl ht hN hQ
  obtain ⟨d, rfl⟩ := d_pos hd (by omega)
  refine ⟨⟨rfl, by decide, rfl⟩, Nat.le_of_ble_eq_true rfl, fun K hK => hK _ _ _ _ ?_⟩
  have hno : ∀ g i, frP h g → (∀ r h', rdPost tx n h none r h' → Q (some (.inl r)) h') → K 10 [some (.inr 2), some (.inr 1), some (.inl dep), some (.inl (-1)), some (.inl i)] [] g := by
    intro g i hg hq
    have hfin : K 52 [some (.inr 2), some (.inr 1), some (.inl dep), some (.inl (-1)), some (.inl i)] [] g := hK _ _ _ _ ⟨trivial, hq _ _ ⟨hg, rfl⟩⟩
    exact hK _ _ _ _ ⟨fun _ => hfin, fun _ => ⟨fun _ => hfin, fun e => absurd rfl e⟩⟩
  have loop : ∀ m i l p N g, i + m = 60 → frP h g → LnOK g tx n p → TrOK g N → N.length ≤ p → l + 1 = N.length → (∀ r h', rdPost tx n h (rdPl tx n (rdPar tx n u) 9 59 m l p N) r h' → Q (some (.inl r)) h') → K 10 [some (.inr 2), some (.inr 1), some (.inl dep), some (.inl (nI l)), some (.inl (nI i))] [] g := by
    intro m
    induction m with
    | zero =>
      intro i l p N g hi hg hl ht hN hlN hq
      obtain rfl : i = 60 := by omega
      refine hK _ _ _ _ ⟨fun _ => ?_, fun e => absurd (by decide) e⟩
      exact hK _ _ _ _ ⟨trivial, hq _ _ ⟨hg, rfl, hl, ht⟩⟩
    | succ m ih =>
      intro i l p N g hi hg hl ht hN hlN hq
      have hp : p ≤ n := hl.2.2.2.1
      have hn : n ≤ 60 := hl.2.1
      refine hK _ _ _ _ ⟨fun e => absurd e (nI_ge (b := 60) (by omega) (by decide)), fun _ => ⟨fun e => absurd e (nI_nm1 (by omega)), fun _ => ?_⟩⟩
      refine s_X0_skip (by omega) 59 hl ?_
      unfold rdPl at hq
      by_cases hc2 : p < n ∧ tx p = 59
      · rw [if_pos hc2] at hq
        rw [if_pos hc2, if_pos hc2]
        refine ⟨fun e => absurd e (by decide), fun _ => ?_⟩
        refine hc _ _ _ (p + 1) N (by omega) (LnOK_at hl hc2.1) (TrOK_at ht) (by omega) (fun r h' hp' => ?_)
        have hg' : frP h h' := (hg.trans frP.at_).trans hp'.1
        have hk := hu (p + 1) N hc2.1
        match hu2 : rdPar tx n u (p + 1) N, hp', hk with
        | none, hp', _ =>
          rw [hu2] at hq
          rw [hp'.2]
          refine s_X2_addPair_no (by omega) _ _ _ ?_
          exact hno _ _ hg' hq
        | some (p2, N2, a), hp', hk =>
          rw [hu2] at hq
          obtain ⟨-, hr, hl', ht'⟩ := hp'
          obtain ⟨k1, k2, k3, k4, k5⟩ := hk
          rw [hr]
          refine s_X2_addPair (by omega) _ _ (by omega) (by omega) ht'.1 (by omega) ?_
          have h1 := ih (i + 1) N2.length p2 (N2 ++ [(9, 0, nI l, nI a)]) _ (by omega) (hg'.trans frP_add) (LnOK_add hl') (TrOK_add (x := (9, 0, nI l, nI a)) ht') (by simp; omega) (by simp) hq
          rw [← nI_1] at h1
          exact h1
      · rw [if_neg hc2] at hq
        rw [if_neg hc2, if_neg hc2]
        refine ⟨fun _ => ?_, fun e => absurd rfl e⟩
        exact hK _ _ _ _ ⟨trivial, hq _ _ ⟨hg, rfl, hl, ht⟩⟩
  refine hc _ _ _ p N (by omega) hl ht hN (fun r h' hp' => ?_)
  have hk := hu p N hl.2.2.2.1
  unfold rdSeq at hQ
  match hu2 : rdPar tx n u p N, hp', hk with
  | none, hp', _ =>
    rw [hu2] at hQ
    rw [hp'.2]
    exact hno _ _ hp'.1 hQ
  | some (p2, N2, a), hp', hk =>
    rw [hu2] at hQ
    obtain ⟨hf, hr, hl', ht'⟩ := hp'
    obtain ⟨k1, k2, k3, k4, k5⟩ := hk
    rw [hr]
    exact loop 60 0 a p2 N2 h' (by omega) hf hl' ht' (by omega) k4 hQ
end TR
