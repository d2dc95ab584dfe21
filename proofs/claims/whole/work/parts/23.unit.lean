/-! TREE reads a UNIT as the mathematics does -/
section TU
variable {d : Nat} {h : mvH} {Q : Option mvV → mvH → Prop} {tx : Nat → Int32} {n : Nat}
def tkH (h : mvH) (n p : Nat) : mvH := if p < n then hset h 1 2 (nI (p + 1)) else h
theorem tk_post {p : Nat} {N : List Nd} (hl : LnOK h tx n p) (ht : TrOK h N) : LnOK (tkH h n p) tx n (rdn n p) ∧ TrOK (tkH h n p) N ∧ frP h (tkH h n p) := by
  unfold tkH rdn
  split
  · rename_i hp; exact ⟨LnOK_at hl hp, TrOK_at ht, frP.at_⟩
  · exact ⟨hl, ht, frP.rfl⟩
theorem rdn_le {p : Nat} (hp : p ≤ n) : p ≤ rdn n p ∧ rdn n p ≤ n := by unfold rdn; split <;> omega
theorem s_X2_readEmit (hd : 3 ≤ d) {p : Nat} {N : List Nd} (hl : LnOK h tx n p) (ht : TrOK h N) (hN : N.length < p) (hQ : ∀ r h', rdPost tx n h (if sgO (rdc tx n p) < 4 then none else some (rdn n p, N ++ [(2, rdc tx n p, -1, -1)], N.length)) r h' → Q (some (.inl r)) h') : mvCal mvMT d 20 [.inr 2, .inr 1] h Q := by
  obtain ⟨d, rfl⟩ := d_pos hd (by decide)
  have hp := hl.2.2.2.1
  have hn := hl.2.1
  obtain ⟨t1, t2, t3⟩ := tk_post hl ht
  refine ⟨⟨rfl, by decide, rfl⟩, Nat.le_of_ble_eq_true rfl, fun K hK => hK _ _ _ _ ?_⟩
  refine s_X0_take (by omega) hl ?_
  refine s_X2_signalOf (by omega) _ ?_
  refine ⟨fun e => ?_, fun e => ?_⟩
  · rw [if_neg (Int32.not_lt.mpr e)] at hQ
    refine hK _ _ _ _ ?_
    refine s_X2_add (by omega) _ _ _ _ t2.1 (by omega) ?_
    exact hK _ _ _ _ ⟨trivial, hQ _ _ ⟨t3.trans frP_add, rfl, LnOK_add t1, TrOK_add (x := (2, rdc tx n p, -1, -1)) t2⟩⟩
  · rw [if_pos (Int32.not_le.mp e)] at hQ
    repeat refine hK _ _ _ _ ?_
    exact ⟨trivial, hQ _ _ ⟨t3, rfl⟩⟩
theorem s_X2_readExit (hd : 3 ≤ d) {p : Nat} {N : List Nd} (hl : LnOK h tx n p) (ht : TrOK h N) (hN : N.length < p) (hQ : ∀ r h', rdPost tx n h (if rdc tx n p < 50 ∨ 53 < rdc tx n p then none else some (rdn n p, N ++ [(3, rdc tx n p - 48, -1, -1)], N.length)) r h' → Q (some (.inl r)) h') : mvCal mvMT d 21 [.inr 2, .inr 1] h Q := by
  obtain ⟨d, rfl⟩ := d_pos hd (by decide)
  have hp := hl.2.2.2.1
  have hn := hl.2.1
  obtain ⟨t1, t2, t3⟩ := tk_post hl ht
  refine ⟨⟨rfl, by decide, rfl⟩, Nat.le_of_ble_eq_true rfl, fun K hK => hK _ _ _ _ ?_⟩
  refine s_X0_take (by omega) hl ?_
  refine ⟨fun e => ?_, fun e => ⟨fun e2 => ?_, fun e2 => ?_⟩⟩
  · rw [if_pos (Or.inl e)] at hQ
    repeat refine hK _ _ _ _ ?_
    exact ⟨trivial, hQ _ _ ⟨t3, rfl⟩⟩
  · rw [if_neg (fun z => z.elim (fun z => e z) (fun z => Int32.not_lt.mpr e2 z))] at hQ
    refine hK _ _ _ _ ?_
    refine s_X2_add (by omega) _ _ _ _ t2.1 (by omega) ?_
    exact hK _ _ _ _ ⟨trivial, hQ _ _ ⟨t3.trans frP_add, rfl, LnOK_add t1, TrOK_add (x := (3, rdc tx n p - 48, -1, -1)) t2⟩⟩
  · rw [if_pos (Or.inr (Int32.not_le.mp e2))] at hQ
    repeat refine hK _ _ _ _ ?_
    exact ⟨trivial, hQ _ _ ⟨t3, rfl⟩⟩
/-- a node round a reader's -/
theorem rdAr_post {g h' : mvH} {p0 : Nat} {N0 : List Nd} {k c r : Int32} {o : Option rdT} (hk : rdOk n p0 N0 o) (hN : N0.length < p0) (hn : n ≤ 60) (hg : frP h g) (hp : rdPost tx n g o r h') (hd : 2 ≤ d) {m : Int32} (hm : ∀ a, mkOf (k, c, nI a, -1) = m) (hQ : ∀ r h', rdPost tx n h (rdAr k c o) r h' → Q (some (.inl r)) h') : mvCal mvMT d 27 [.inr 2, .inl k, .inl m, .inl r] h' Q := by
  match o, hk, hp with
  | none, _, hp =>
    rw [hp.2]
    exact s_X2_addAround_no (by omega) _ _ (hQ _ _ ⟨hg.trans hp.1, rfl⟩)
  | some (p', N', a), hk, hp =>
    obtain ⟨hf, hr, hl', ht'⟩ := hp
    obtain ⟨k1, k2, k3, k4, k5⟩ := hk
    rw [hr]
    refine s_X2_addAround hd _ _ (by omega) ht'.1 (by omega) ?_
    refine hQ _ _ ⟨(hg.trans hf).trans frP_add, rfl, LnOK_add hl', ?_⟩
    rw [← hm a]
    exact TrOK_add (x := (k, c, nI a, -1)) ht'
theorem s_X2_readSuspend {k : Nat} {dep : Int32} {u : Nat → List Nd → Option rdT} (hu : rdOkF n u) (hc : rdC tx n 19 k (dep + 1) u) (hd : k + 3 ≤ d) {p : Nat} {N : List Nd} (hl : LnOK h tx n p) (ht : TrOK h N) (hN : N.length < p) (hQ : ∀ r h', rdPost tx n h (if sgO (rdc tx n p) = -1 then none else rdAr 5 (rdc tx n p) (u (rdn n p) N)) r h' → Q (some (.inl r)) h') : mvCal mvMT d 23 [.inr 2, .inr 1, .inl dep] h Q := by
  obtain ⟨d, rfl⟩ := d_pos hd (by omega)
  have hp := hl.2.2.2.1
  have hn := hl.2.1
  obtain ⟨t1, t2, t3⟩ := tk_post hl ht
  have hr := rdn_le hp
  refine ⟨⟨rfl, by decide, rfl⟩, Nat.le_of_ble_eq_true rfl, fun K hK => hK _ _ _ _ ?_⟩
  refine s_X0_take (by omega) hl ?_
  refine s_X2_signalOf (by omega) _ ?_
  refine ⟨fun e => ?_, fun e => ?_⟩
  · rw [if_neg e] at hQ
    refine hK _ _ _ _ ?_
    refine hc _ _ _ _ N (by omega) t1 t2 (by omega) (fun r h' hp' => ?_)
    refine rdAr_post (hu _ N hr.2) (by omega) hn t3 hp' (by omega) (fun a => rfl) (fun r2 h2 hp2 => ?_)
    exact hK _ _ _ _ ⟨trivial, hQ _ _ hp2⟩
  · rw [if_pos e] at hQ
    repeat refine hK _ _ _ _ ?_
    exact ⟨trivial, hQ _ _ ⟨t3, rfl⟩⟩
theorem s_X2_readLocal {k : Nat} {dep : Int32} {u : Nat → List Nd → Option rdT} (hu : rdOkF n u) (hc : rdC tx n 19 k (dep + 1) u) (hd : k + 3 ≤ d) {p : Nat} {N : List Nd} (hl : LnOK h tx n p) (ht : TrOK h N) (hN : N.length < p) (hQ : ∀ r h', rdPost tx n h (if sgO (rdc tx n p) < 8 then none else rdAr 8 (rdc tx n p) (u (rdn n p) N)) r h' → Q (some (.inl r)) h') : mvCal mvMT d 24 [.inr 2, .inr 1, .inl dep] h Q := by
  obtain ⟨d, rfl⟩ := d_pos hd (by omega)
  have hp := hl.2.2.2.1
  have hn := hl.2.1
  obtain ⟨t1, t2, t3⟩ := tk_post hl ht
  have hr := rdn_le hp
  refine ⟨⟨rfl, by decide, rfl⟩, Nat.le_of_ble_eq_true rfl, fun K hK => hK _ _ _ _ ?_⟩
  refine s_X0_take (by omega) hl ?_
  refine s_X2_signalOf (by omega) _ ?_
  refine ⟨fun e => ?_, fun e => ?_⟩
  · rw [if_neg (Int32.not_lt.mpr e)] at hQ
    refine hK _ _ _ _ ?_
    refine hc _ _ _ _ N (by omega) t1 t2 (by omega) (fun r h' hp' => ?_)
    refine rdAr_post (hu _ N hr.2) (by omega) hn t3 hp' (by omega) (fun a => rfl) (fun r2 h2 hp2 => ?_)
    exact hK _ _ _ _ ⟨trivial, hQ _ _ hp2⟩
  · rw [if_pos (Int32.not_le.mp e)] at hQ
    repeat refine hK _ _ _ _ ?_
    exact ⟨trivial, hQ _ _ ⟨t3, rfl⟩⟩
theorem s_X2_readClosedSeq {k : Nat} {dep : Int32} {u : Nat → List Nd → Option rdT} (hu : rdOkF n u) (hc : rdC tx n 19 k dep u) (hd : k + 8 ≤ d) (c : Int32) {p : Nat} {N : List Nd} (hl : LnOK h tx n p) (ht : TrOK h N) (hN : N.length ≤ p) (hQ : ∀ r h', rdPost tx n h (rdCl tx n c (rdSeq tx n u p N)) r h' → Q (some (.inl r)) h') : mvCal mvMT d 25 [.inr 2, .inr 1, .inl dep, .inl c] h Q := by
  obtain ⟨d, rfl⟩ := d_pos hd (by omega)
  have hp := hl.2.2.2.1
  have hn := hl.2.1
  refine ⟨⟨rfl, by decide, rfl⟩, Nat.le_of_ble_eq_true rfl, fun K hK => hK _ _ _ _ ?_⟩
  refine rdC_seq hu hc _ _ _ p N (by omega) hl ht hN (fun r h' hp' => ?_)
  have hk := rdSeq_ok (tx := tx) hu p N hp
  have no : ∀ g, frP h g → (∀ r h', rdPost tx n h none r h' → Q (some (.inl r)) h') → ∀ z, K 27 [some (.inr 2), some (.inr 1), some (.inl dep), some (.inl c), z] [] g := by
    intro g hg hq z
    refine hK _ _ _ _ ?_
    exact hK _ _ _ _ ⟨trivial, hq _ _ ⟨hg, rfl⟩⟩
  match ho : rdSeq tx n u p N, hk, hp' with
  | none, _, hp' =>
    rw [ho] at hQ
    rw [hp'.2]
    exact ⟨fun _ => no _ hp'.1 hQ _, fun e => absurd rfl e⟩
  | some (p', N', a), hk, hp' =>
    rw [ho] at hQ
    obtain ⟨hf, hr, hl', ht'⟩ := hp'
    obtain ⟨k1, k2, k3, k4, k5⟩ := hk
    rw [hr]
    refine ⟨fun e => absurd e (nI_nm1 (by omega)), fun _ => ?_⟩
    refine s_X0_skip (by omega) c hl' ?_
    unfold rdCl at hQ
    dsimp only at hQ
    by_cases hc2 : p' < n ∧ tx p' = c
    · rw [if_pos hc2] at hQ
      rw [if_pos hc2, if_pos hc2]
      refine ⟨fun e => absurd e (by decide), fun _ => ?_⟩
      refine hK _ _ _ _ ?_
      exact ⟨trivial, hQ _ _ ⟨hf.trans frP.at_, rfl, LnOK_at hl' hc2.1, TrOK_at ht'⟩⟩
    · rw [if_neg hc2] at hQ
      rw [if_neg hc2, if_neg hc2]
      exact ⟨fun _ => no _ hf hQ _, fun e => absurd rfl e⟩
theorem s_X2_readPresent {k : Nat} {dep : Int32} {u : Nat → List Nd → Option rdT} (hu : rdOkF n u) (hc : rdC tx n 19 k (dep + 1) u) (hd : k + 4 ≤ d) {p : Nat} {N : List Nd} (hl : LnOK h tx n p) (ht : TrOK h N) (hN : N.length < p) (hQ : ∀ r h', rdPost tx n h (if sgO (rdc tx n p) = -1 then none else match u (rdn n p) N with
      | none => none
      | some (p3, N3, a) => if p3 < n ∧ tx p3 = 58 then (match u (p3 + 1) N3 with
        | none => none
        | some (p4, N4, b) => some (p4, N4 ++ [(4, rdc tx n p, nI a, nI b)], N4.length)) else none) r h' → Q (some (.inl r)) h') : mvCal mvMT d 22 [.inr 2, .inr 1, .inl dep] h Q := by
  obtain ⟨d, rfl⟩ := d_pos hd (by omega)
  have hp := hl.2.2.2.1
  have hn := hl.2.1
  obtain ⟨t1, t2, t3⟩ := tk_post hl ht
  have hr := rdn_le hp
  refine ⟨⟨rfl, by decide, rfl⟩, Nat.le_of_ble_eq_true rfl, fun K hK => hK _ _ _ _ ?_⟩
  have no : ∀ g s z, frP h g → (∀ r h', rdPost tx n h none r h' → Q (some (.inl r)) h') → K 25 [some (.inr 2), some (.inr 1), some (.inl dep), some (.inl s), z] [.inl (-1)] g := by
    intro g s z hg hq
    refine hK _ _ _ _ ⟨fun _ => ?_, fun e => absurd rfl e⟩
    exact hK _ _ _ _ ⟨trivial, hq _ _ ⟨hg, rfl⟩⟩
  refine s_X0_take (by omega) hl ?_
  refine s_X2_signalOf (by omega) _ ?_
  refine ⟨fun e => ?_, fun e => ?_⟩
  · rw [if_neg e] at hQ
    refine hK _ _ _ _ ?_
    refine hc _ _ _ _ N (by omega) t1 t2 (by omega) (fun r h' hp' => ?_)
    have hk := hu _ N hr.2
    match ho : u (rdn n p) N, hk, hp' with
    | none, _, hp' =>
      rw [ho] at hQ
      rw [hp'.2]
      exact no _ _ _ (t3.trans hp'.1) hQ
    | some (p3, N3, a), hk, hp' =>
      rw [ho] at hQ
      obtain ⟨hf, hr', hl', ht'⟩ := hp'
      obtain ⟨k1, k2, k3, k4, k5⟩ := hk
      rw [hr']
      dsimp only at hQ
      refine hK _ _ _ _ ⟨fun e => absurd e (nI_nm1 (by omega)), fun _ => ?_⟩
      refine s_X0_skip (by omega) 58 hl' ?_
      by_cases hc2 : p3 < n ∧ tx p3 = 58
      · rw [if_pos hc2] at hQ
        rw [if_pos hc2, if_pos hc2]
        refine ⟨fun _ => ?_, fun e => absurd e (by decide)⟩
        refine hK _ _ _ _ ?_
        refine hc _ _ _ _ N3 (by omega) (LnOK_at hl' hc2.1) (TrOK_at ht') (by omega) (fun r2 h2 hp2 => ?_)
        have hk2 := hu (p3 + 1) N3 hc2.1
        have hff : frP h h2 := ((t3.trans hf).trans frP.at_).trans hp2.1
        match ho2 : u (p3 + 1) N3, hk2, hp2 with
        | none, _, hp2 =>
          rw [ho2] at hQ
          rw [hp2.2]
          refine s_X2_addPair_no (by omega) _ _ _ ?_
          exact ⟨trivial, hQ _ _ ⟨hff, rfl⟩⟩
        | some (p4, N4, b), hk2, hp2 =>
          rw [ho2] at hQ
          obtain ⟨hf2, hr2, hl2, ht2⟩ := hp2
          obtain ⟨l1, l2, l3, l4, l5⟩ := hk2
          rw [hr2]
          refine s_X2_addPair (by omega) _ _ (by omega) (by omega) ht2.1 (by omega) ?_
          exact ⟨trivial, hQ _ _ ⟨hff.trans frP_add, rfl, LnOK_add hl2, TrOK_add (x := (4, rdc tx n p, nI a, nI b)) ht2⟩⟩
      · rw [if_neg hc2] at hQ
        rw [if_neg hc2, if_neg hc2]
        refine ⟨fun e => absurd rfl e, fun _ => ?_⟩
        exact hK _ _ _ _ ⟨trivial, hQ _ _ ⟨t3.trans hf, rfl⟩⟩
  · rw [if_pos e] at hQ
    exact no _ _ _ t3 hQ
set_option maxHeartbeats 4000000 in
theorem rdC_unit : ∀ f, f ≤ 12 → rdC tx n 19 (12 * f + 4) (nI (13 - f)) (rdU tx n f) := by
  intro f
  induction f with
  | zero =>
    intro _ d h Q p N hd hl ht hN hQ
    obtain ⟨d, rfl⟩ := d_pos hd (by omega)
    refine ⟨⟨rfl, by decide, rfl⟩, Nat.le_of_ble_eq_true rfl, fun K hK => hK _ _ _ _ ⟨fun e => absurd e (by decide), fun _ => ?_⟩⟩
    exact ⟨trivial, hQ _ _ ⟨frP.rfl, rfl⟩⟩
  | succ f ih =>
    intro hf d h Q p N hd hl ht hN hQ
    obtain ⟨d, rfl⟩ := d_pos hd (by omega)
    have hc := ih (by omega)
    have hu := rdU_ok (tx := tx) (n := n) f
    have hdep : nI (13 - (f + 1)) + 1 = nI (13 - f) := by rw [nI_1, show 13 - (f + 1) + 1 = 13 - f by omega]
    have hc1 : rdC tx n 19 (12 * f + 4) (nI (13 - (f + 1)) + 1) (rdU tx n f) := by rw [hdep]; exact hc
    have hp := hl.2.2.2.1
    have hn := hl.2.1
    obtain ⟨t1, t2, t3⟩ := tk_post hl ht
    have hr := rdn_le hp
    refine ⟨⟨rfl, by decide, rfl⟩, Nat.le_of_ble_eq_true rfl, fun K hK => hK _ _ _ _ ⟨fun _ => ?_, fun e => absurd (nI_le (b := 12) (by omega) (by decide)) e⟩⟩
    refine hK _ _ _ _ ?_
    refine s_X0_take (by omega) hl ?_
    unfold rdU at hQ
    dsimp only at hQ
    generalize hce : rdc tx n p = c at hQ ⊢
    have hlt : ∀ z : Int32, z ≠ 0 → c = z → p < n := by
      intro z hz e
      rcases Nat.lt_or_ge p n with w | w
      · exact w
      · unfold rdc at hce
        rw [if_neg (by omega)] at hce
        exact absurd (by rw [← e, ← hce]) hz
    have hrn : p < n → rdn n p = p + 1 := fun w => if_pos w
    refine ⟨fun e => ?_, fun e1 => ⟨fun e => ?_, fun e2 => ⟨fun e => ?_, fun e3 => ⟨fun e => ?_, fun e4 => ⟨fun e => ?_, fun e5 => ⟨fun e => ?_, fun e6 => ⟨fun e => ?_, fun e7 => ⟨fun e => ?_, fun e8 => ⟨fun e => ?_, fun e9 => ⟨fun e => ?_, fun e10 => ?_⟩⟩⟩⟩⟩⟩⟩⟩⟩⟩
    · have hpn := hlt _ (by decide) e
      have w := hrn hpn
      rw [e, if_neg (by decide), if_neg (by decide), if_pos rfl] at hQ
      refine hK _ _ _ _ ?_
      refine s_X2_readEmit (by omega) t1 t2 (by omega) (fun r h' hp' => ?_)
      exact ⟨trivial, hQ _ _ (hp'.mono t3)⟩
    · have hpn := hlt _ (by decide) e
      have w := hrn hpn
      rw [e, if_neg (by decide), if_neg (by decide), if_neg (by decide), if_neg (by decide), if_neg (by decide), if_pos rfl] at hQ
      refine hK _ _ _ _ ?_
      refine s_X2_readSuspend hu hc1 (by omega) t1 t2 (by omega) (fun r h' hp' => ?_)
      exact ⟨trivial, hQ _ _ (hp'.mono t3)⟩
    · have hpn := hlt _ (by decide) e
      have w := hrn hpn
      rw [e, if_neg (by decide), if_neg (by decide), if_neg (by decide), if_neg (by decide), if_neg (by decide), if_neg (by decide), if_neg (by decide), if_neg (by decide), if_neg (by decide), if_pos rfl] at hQ
      refine hK _ _ _ _ ?_
      refine s_X2_readClosedSeq hu hc1 (by omega) 41 t1 t2 (by omega) (fun r h' hp' => ?_)
      exact ⟨trivial, hQ _ _ (hp'.mono t3)⟩
    · have hpn := hlt _ (by decide) e
      have w := hrn hpn
      rw [e, if_neg (by decide), if_neg (by decide), if_neg (by decide), if_neg (by decide), if_neg (by decide), if_neg (by decide), if_pos rfl] at hQ
      refine hK _ _ _ _ ?_
      refine hc1 _ _ _ _ N (by omega) t1 t2 (by omega) (fun r h' hp' => ?_)
      refine rdAr_post (hu _ N hr.2) (by omega) hn t3 hp' (by omega) (fun a => rfl) (fun r2 h2 hp2 => ?_)
      exact ⟨trivial, hQ _ _ hp2⟩
    · have hpn := hlt _ (by decide) e
      have w := hrn hpn
      rw [e, if_pos rfl] at hQ
      refine hK _ _ _ _ ?_
      refine s_X2_add (by omega) _ _ _ _ t2.1 (by omega) ?_
      exact ⟨trivial, hQ _ _ ⟨t3.trans frP_add, rfl, LnOK_add t1, TrOK_add (x := (0, 0, -1, -1)) t2⟩⟩
    · have hpn := hlt _ (by decide) e
      have w := hrn hpn
      rw [e, if_neg (by decide), if_pos rfl] at hQ
      refine hK _ _ _ _ ?_
      refine s_X2_add (by omega) _ _ _ _ t2.1 (by omega) ?_
      exact ⟨trivial, hQ _ _ ⟨t3.trans frP_add, rfl, LnOK_add t1, TrOK_add (x := (1, 0, -1, -1)) t2⟩⟩
    · have hpn := hlt _ (by decide) e
      have w := hrn hpn
      rw [e, if_neg (by decide), if_neg (by decide), if_neg (by decide), if_neg (by decide), if_pos rfl] at hQ
      refine hK _ _ _ _ ?_
      refine s_X2_readPresent hu hc1 (by omega) t1 t2 (by omega) (fun r h' hp' => ?_)
      exact ⟨trivial, hQ _ _ (hp'.mono t3)⟩
    · have hpn := hlt _ (by decide) e
      have w := hrn hpn
      rw [e, if_neg (by decide), if_neg (by decide), if_neg (by decide), if_neg (by decide), if_neg (by decide), if_neg (by decide), if_neg (by decide), if_pos rfl] at hQ
      refine hK _ _ _ _ ?_
      refine s_X2_readLocal hu hc1 (by omega) t1 t2 (by omega) (fun r h' hp' => ?_)
      exact ⟨trivial, hQ _ _ (hp'.mono t3)⟩
    · have hpn := hlt _ (by decide) e
      have w := hrn hpn
      rw [e, if_neg (by decide), if_neg (by decide), if_neg (by decide), if_pos rfl] at hQ
      refine hK _ _ _ _ ?_
      refine s_X2_readExit (by omega) t1 t2 (by omega) (fun r h' hp' => ?_)
      exact ⟨trivial, hQ _ _ (hp'.mono t3)⟩
    · have hpn := hlt _ (by decide) e
      have w := hrn hpn
      rw [e, if_neg (by decide), if_neg (by decide), if_neg (by decide), if_neg (by decide), if_neg (by decide), if_neg (by decide), if_neg (by decide), if_neg (by decide), if_pos rfl] at hQ
      refine hK _ _ _ _ ?_
      refine s_X2_readClosedSeq hu hc1 (by omega) 125 t1 t2 (by omega) (fun r h' hp' => ?_)
      refine rdAr_post (rdCl_ok (p0 := rdn n p) (rdSeq_ok hu _ N hr.2) (Nat.le_refl _)) (by omega) hn t3 hp' (by omega) (fun a => rfl) (fun r2 h2 hp2 => ?_)
      exact ⟨trivial, hQ _ _ hp2⟩
    · rw [if_neg e5, if_neg e6, if_neg e1, if_neg e9, if_neg e7, if_neg e2, if_neg e4, if_neg e8, if_neg e10, if_neg e3] at hQ
      refine hK _ _ _ _ ?_
      exact ⟨trivial, hQ _ _ ⟨t3, rfl⟩⟩
end TU
