/-! THE REFERENCE's instant: upTo, out -/
section MI4
variable {d : Nat} {h : mvH} {Q : Option mvV → mvH → Prop} {A : List Th} {se : Nat → B2} {inp : Nat} {st : Bool}
theorem ed_nI {X : Va} {a c : Nat} (ha : a < 120) : ed X (nI a) c = X 57 (6 * a + c) := by unfold ed; rw [if_neg (nI_pos (by omega)), ix_nI (by omega)]
theorem s_X5_upTo (hd : 2 ≤ d) (hT : TF A) (hm : MS A se inp h) (hv : V3s A h) {a b c : Nat} (ha : a < A.length) (hb : b < A.length) (hc : c < 6) (hQ : ∀ v, v3 v → enc v = upB se (EX h) (nI a) (nI b) (c + 1) → Q (some (.inl v)) h) : mvCal mvMT d 127 [.inr 5, .inl (nI a), .inl (nI b), .inl (nI c)] h Q := by
  obtain ⟨d, rfl⟩ := d_pos hd (by decide)
  have hA := hT.1
  have va : vp_in (nI a) 120 := vp_in_nI (by omega) (by decide)
  have vb : vp_in (nI b) 120 := vp_in_nI (by omega) (by decide)
  have ea : (nI a).toNatClampNeg = a := nI_clamp (by omega)
  have eb : (nI b).toNatClampNeg = b := nI_clamp (by omega)
  obtain ⟨a1, a2, a3⟩ := hm.2.2.1 a ha
  obtain ⟨b1, b2, b3⟩ := hm.2.2.1 b hb
  have sa : seO se (nI a) = enc (h 56 a) := by unfold seO; rw [if_neg (nI_pos (by omega)), ix_nI (by omega), a2]
  have sb : seO se (nI b) = enc (h 56 b) := by unfold seO; rw [if_neg (nI_pos (by omega)), ix_nI (by omega), b2]
  refine ⟨⟨rfl, by decide, rfl⟩, Nat.le_of_ble_eq_true rfl, fun K hK => hK _ _ _ _ ⟨va, ?_⟩⟩
  rw [ea]
  have loop : ∀ k i, i + k = c + 1 → ∀ v, v3 v → enc v = upB se (EX h) (nI a) (nI b) i → K 29 [some (.inr 5), some (.inl (nI a)), some (.inl (nI b)), some (.inl (nI c)), some (.inl v), some (.inl (nI i))] [] h := by
    intro k
    induction k with
    | zero =>
      intro i hi v vv ev
      have : i = c + 1 := by omega
      subst this
      refine hK _ _ _ _ ⟨fun _ => hK _ _ _ _ ⟨trivial, hQ v vv ev⟩, fun e => absurd (nI_lt (by omega) (by omega)) e⟩
    | succ k ih =>
      intro i hi v vv ev
      refine hK _ _ _ _ ⟨fun e => absurd e (Int32.not_lt.mpr (nI_le (by omega) (by omega))), fun _ => ?_⟩
      refine s_X5_k (by omega) (a := a) (c := i) (by omega) (by omega) ?_
      refine s_X5_or (by omega) vv (hv.2.1 _ (by omega)) (fun w vw ew => ?_)
      conv => whnf
      rw [nI_1]
      refine ih (i + 1) (by omega) w vw ?_
      rw [ew, ev]
      show _ = pOr _ (ed (EX h) (nI a) i)
      rw [ed_nI (by omega)]
      rfl
  have c24 : ∀ v, v3 v → enc v = pAnd (pNot (enc (h 56 a))) (enc (h 56 b)) → ∀ z4 z5, K 24 [some (.inr 5), some (.inl (nI a)), some (.inl (nI b)), some (.inl (nI c)), z4, z5] [.inl v] h := by
    intro v vv ev z4 z5
    refine hK _ _ _ _ ?_
    refine loop (c + 1) 0 (by omega) v vv ?_
    show _ = pAnd (pNot (seO se (nI a))) (seO se (nI b))
    rw [sa, sb, ev]
  have c23 : enc 0 = pAnd (pNot (enc (h 56 a))) (enc (h 56 b)) → ∀ z4 z5, K 23 [some (.inr 5), some (.inl (nI a)), some (.inl (nI b)), some (.inl (nI c)), z4, z5] [] h := by
    intro e z4 z5
    refine hK _ _ _ _ ?_
    exact c24 0 v3_0 e _ _
  refine ⟨fun e => ?_, fun e => ⟨vb, ?_⟩⟩
  · refine c23 ?_ _ _
    rcases a1 with z | z | z
    · exact absurd z e
    · rw [z]
      rcases b1 with w | w | w
      · rw [w]; rfl
      · rw [w]; rfl
      · exact absurd w b3
    · exact absurd z a3
  · rw [eb]
    refine ⟨fun e2 => ?_, fun e2 => ?_⟩
    · refine c23 ?_ _ _
      rcases b1 with w | w | w
      · rw [show h 56 a = 0 from e, w]; rfl
      · exact absurd w e2
      · exact absurd w b3
    · refine c24 1 v3_1 ?_ _ _
      rw [show h 56 a = 0 from e, show h 56 b = 1 from e2]; rfl
theorem fK_0 {X : Va} {t c : Nat} (hk : (tA A t).1 = 0 ∨ (tA A t).1 = 2) : fK A se inp X t c = onB 0 c (X 53 t) := by
  unfold fK
  dsimp only
  rcases hk with z | z <;> rw [z] <;> rw [if_neg (by decide), if_neg (by decide), if_neg (by decide), if_neg (by decide), if_neg (by decide), if_neg (by decide), if_neg (by decide), if_neg (by decide), if_neg (by decide)]
theorem fK_1 {X : Va} {t c : Nat} (hk : (tA A t).1 = 1) : fK A se inp X t c = (if c = 0 then pAnd (se t) (X 54 t) else onB 1 c (X 53 t)) := by unfold fK; dsimp only; rw [if_pos hk]
theorem fK_3 {X : Va} {t c : Nat} (hk : (tA A t).1 = 3) : fK A se inp X t c = onB (ix (tA A t).2.1) c (X 53 t) := by unfold fK; dsimp only; rw [hk, if_neg (by decide), if_pos rfl]
theorem fK_4 {X : Va} {t c : Nat} (hk : (tA A t).1 = 4) : fK A se inp X t c = pOr (ed X (tA A t).2.2.2.1 c) (ed X (tA A t).2.2.2.2.1 c) := by unfold fK; dsimp only; rw [hk, if_neg (by decide), if_neg (by decide), if_pos rfl]
theorem fK_5 {X : Va} {t c : Nat} (hk : (tA A t).1 = 5) : fK A se inp X t c = (if c = 1 then pOr (ed X (tA A t).2.2.2.1 1) (pAnd (pAnd (X 54 t) (se t)) (sv inp X (tA A t))) else ed X (tA A t).2.2.2.1 c) := by unfold fK; dsimp only; rw [hk, if_neg (by decide), if_neg (by decide), if_neg (by decide), if_pos rfl]
theorem fK_6 {X : Va} {t c : Nat} (hk : (tA A t).1 = 6) : fK A se inp X t c = (if c = 0 then zB else pOr (ed X (tA A t).2.2.2.1 c) (ed X (tA A t).2.2.2.2.1 c)) := by unfold fK; dsimp only; rw [hk, if_neg (by decide), if_neg (by decide), if_neg (by decide), if_neg (by decide), if_pos rfl]
theorem fK_7 {X : Va} {t c : Nat} (hk : (tA A t).1 = 7) : fK A se inp X t c = (if c = 0 then pOr (ed X (tA A t).2.2.2.1 0) (ed X (tA A t).2.2.2.1 2) else if c = 1 then ed X (tA A t).2.2.2.1 1 else if c + 1 < 6 then ed X (tA A t).2.2.2.1 (c + 1) else zB) := by unfold fK; dsimp only; rw [hk, if_neg (by decide), if_neg (by decide), if_neg (by decide), if_neg (by decide), if_neg (by decide), if_pos rfl]
theorem fK_8 {X : Va} {t c : Nat} (hk : (tA A t).1 = 8) : fK A se inp X t c = ed X (tA A t).2.2.2.1 c := by unfold fK; dsimp only; rw [hk, if_neg (by decide), if_neg (by decide), if_neg (by decide), if_neg (by decide), if_neg (by decide), if_neg (by decide), if_pos rfl]
theorem fK_9 {X : Va} {t c : Nat} (hk : (tA A t).1 = 9) : fK A se inp X t c = (if c = 0 then ed X (tA A t).2.2.2.2.1 0 else pOr (ed X (tA A t).2.2.2.1 c) (ed X (tA A t).2.2.2.2.1 c)) := by unfold fK; dsimp only; rw [hk, if_neg (by decide), if_neg (by decide), if_neg (by decide), if_neg (by decide), if_neg (by decide), if_neg (by decide), if_neg (by decide), if_pos rfl]
theorem fK_10 {X : Va} {t c : Nat} (hk : (tA A t).1 = 10) : fK A se inp X t c = pAnd (pAnd (upB se X (tA A t).2.2.2.1 (tA A t).2.2.2.2.1 (c + 1)) (upB se X (tA A t).2.2.2.2.1 (tA A t).2.2.2.1 (c + 1))) (pOr (ed X (tA A t).2.2.2.1 c) (ed X (tA A t).2.2.2.2.1 c)) := by unfold fK; dsimp only; rw [hk, if_neg (by decide), if_neg (by decide), if_neg (by decide), if_neg (by decide), if_neg (by decide), if_neg (by decide), if_neg (by decide), if_neg (by decide), if_pos rfl]
theorem thK_kind {x : Th} (h : thK x) : x.1 = 0 ∨ x.1 = 1 ∨ x.1 = 2 ∨ x.1 = 3 ∨ x.1 = 4 ∨ x.1 = 5 ∨ x.1 = 6 ∨ x.1 = 7 ∨ x.1 = 8 ∨ x.1 = 9 ∨ x.1 = 10 := by
  rcases h with ⟨z | z | z | z, -⟩ | ⟨z | z | z, -⟩ | ⟨z | z | z | z, -⟩ <;> simp [z]
set_option maxHeartbeats 8000000 in
theorem s_X5_out (hd : 3 ≤ d) (hT : TF A) (hm : MS A se inp h) (hv : V3s A h) {t c : Nat} (ht : t < A.length) (hc : c < 6) (hQ : ∀ v, v3 v → enc v = fK A se inp (EX h) t c → Q (some (.inl v)) h) : mvCal mvMT d 126 [.inr 5, .inl (nI t), .inl (nI c)] h Q := by
  obtain ⟨d, rfl⟩ := d_pos hd (by decide)
  have hA := hT.1
  have hin : vp_in (nI t) 120 := vp_in_nI (by omega) (by decide)
  have et : (nI t).toNatClampNeg = t := nI_clamp (by omega)
  obtain ⟨m43, m44, m45, m46, m47, m48, m49⟩ := MS_at hm ht
  obtain ⟨t1, t2, t3, t4, t5, t6, t7⟩ := tf_at hT ht
  obtain ⟨s1, s2, s3⟩ := hm.2.2.1 t ht
  have v53 := hv.1 53 (by decide) t ht
  have v54 := hv.1 54 (by decide) t ht
  have c0 : ∀ k : Nat, k < 6 → (nI c = nI k ↔ c = k) := fun k hk => ⟨fun z => nI_inj (by omega) (by omega) z, fun z => by rw [z]⟩
  have one : ¬ (tA A t).2.2.2.1 = -1 → ∃ a, a < A.length ∧ (tA A t).2.2.2.1 = nI a := fun z => by
    obtain ⟨a, _, ha, e, _⟩ := t3.resolve_left z
    exact ⟨a, ha, e⟩
  have two : ¬ (tA A t).2.2.2.2.1 = -1 → ∃ b, b < A.length ∧ (tA A t).2.2.2.2.1 = nI b := fun z => by
    obtain ⟨a, b, _, _, hb, _, e, _⟩ := t4.resolve_left z
    exact ⟨b, hb, e⟩
  have kk : ∀ {b : Nat} {c : Nat}, b < A.length → c < 6 → v3 (h 57 (6 * b + c)) := fun hb hc => hv.2.1 _ (by omega)
  have edE : ∀ {b : Nat} {c : Nat}, b < A.length → ed (EX h) (nI b) c = enc (h 57 (6 * b + c)) := fun hb => by rw [ed_nI (by omega)]; rfl
  refine ⟨⟨rfl, by decide, rfl⟩, Nat.le_of_ble_eq_true rfl, fun K hK => hK _ _ _ _ ⟨hin, hin, hin, ?_⟩⟩
  rw [et, m46, m47, m43]
  refine ⟨fun k => ?_, fun n0 => ⟨fun k => ?_, fun n1 => ⟨fun k => ?_, fun n2 => ⟨fun k => ?_, fun n3 => ⟨fun k => ?_, fun n4 => ⟨fun k => ?_, fun n5 => ⟨fun k => ?_, fun n6 => ⟨fun k => ?_, fun n7 => ⟨fun k => ?_, fun n8 => ⟨fun k => ?_, fun n9 => ?_⟩⟩⟩⟩⟩⟩⟩⟩⟩⟩
  · rw [fK_0 (Or.inl k)] at hQ
    unfold onB at hQ
    refine hK _ _ _ _ ⟨fun e => ?_, fun e => ⟨hin, ?_⟩⟩
    · repeat refine hK _ _ _ _ ?_
      exact ⟨trivial, hQ 0 v3_0 (by rw [if_neg (fun z => e ((c0 0 (by decide)).mpr z))]; rfl)⟩
    · rw [et]
      repeat refine hK _ _ _ _ ?_
      exact ⟨trivial, hQ _ v53 (by rw [if_pos ((c0 0 (by decide)).mp e)]; rfl)⟩
  · rw [fK_1 k] at hQ
    unfold onB at hQ
    refine hK _ _ _ _ ⟨fun e => ?_, fun e => ⟨hin, ?_⟩⟩
    · refine hK _ _ _ _ ⟨fun e2 => ?_, fun e2 => ⟨hin, ?_⟩⟩
      · repeat refine hK _ _ _ _ ?_
        exact ⟨trivial, hQ 0 v3_0 (by rw [if_neg (fun z => e2 ((c0 0 (by decide)).mpr z)), if_neg (fun z => e ((c0 1 (by decide)).mpr z))]; rfl)⟩
      · have hcnt : cntK 1 (A.take t) < 120 := by
          have h1 : cntK 1 (A.take t) ≤ (A.take t).length := List.countP_le_length
          rw [List.length_take] at h1
          omega
        rw [et, m49, if_pos k]
        refine ⟨vp_in_nI hcnt (by decide), hin, ?_⟩
        rw [et, nI_clamp (by omega), hm.2.2.2.2.2 t ht k]
        refine s_X5_and (by omega) s1 v54 (fun v vv ev => ?_)
        repeat refine hK _ _ _ _ ?_
        exact ⟨trivial, hQ v vv (by rw [if_pos ((c0 0 (by decide)).mp e2), ev, s2]; rfl)⟩
    · rw [et]
      repeat refine hK _ _ _ _ ?_
      have e1 := (c0 1 (by decide)).mp e
      exact ⟨trivial, hQ _ v53 (by rw [if_neg (by omega), if_pos e1]; rfl)⟩
  · rw [fK_0 (Or.inr k)] at hQ
    unfold onB at hQ
    refine hK _ _ _ _ ⟨fun e => ?_, fun e => ⟨hin, ?_⟩⟩
    · repeat refine hK _ _ _ _ ?_
      exact ⟨trivial, hQ 0 v3_0 (by rw [if_neg (fun z => e ((c0 0 (by decide)).mpr z))]; rfl)⟩
    · rw [et]
      repeat refine hK _ _ _ _ ?_
      exact ⟨trivial, hQ _ v53 (by rw [if_pos ((c0 0 (by decide)).mp e)]; rfl)⟩
  · rw [fK_3 k] at hQ
    unfold onB at hQ
    obtain ⟨w1, w2⟩ := t6.2.2.1 k
    obtain ⟨v, hv5, ev⟩ := nI_of2 (x := (tA A t).2.1) (M := 5) (n := 5) (by decide) (Int32.not_lt.mpr (Int32.le_tr (by decide) w1)) w2
    rw [ev, ix_nI (by omega)] at hQ
    refine hK _ _ _ _ ⟨hin, ?_⟩
    rw [et, m44, ev]
    refine ⟨fun e => ?_, fun e => ⟨hin, ?_⟩⟩
    · repeat refine hK _ _ _ _ ?_
      exact ⟨trivial, hQ 0 v3_0 (by rw [if_neg (fun z => e ((c0 v (by omega)).mpr z))]; rfl)⟩
    · rw [et]
      repeat refine hK _ _ _ _ ?_
      exact ⟨trivial, hQ _ v53 (by rw [if_pos ((c0 v (by omega)).mp e)]; rfl)⟩
  · rw [fK_4 k] at hQ
    have hch : ¬ (tA A t).2.2.2.1 = -1 ∧ ¬ (tA A t).2.2.2.2.1 = -1 := by
      rcases t5 with ⟨z, -⟩ | ⟨z, -⟩ | ⟨-, z⟩
      · rw [k] at z; exact absurd z (by decide)
      · rw [k] at z; exact absurd z (by decide)
      · exact z
    obtain ⟨a, ha, ea⟩ := one hch.1
    obtain ⟨b, hb, eb⟩ := two hch.2
    rw [ea, eb, edE ha, edE hb] at hQ
    rw [ea, eb]
    refine hK _ _ _ _ ?_
    refine s_X5_k (by omega) (by omega) hc ?_
    refine s_X5_k (by omega) (by omega) hc ?_
    refine s_X5_or (by omega) (kk ha hc) (kk hb hc) (fun v vv ev => ?_)
    exact ⟨trivial, hQ v vv ev⟩
  · rw [fK_5 k] at hQ
    have hch : ¬ (tA A t).2.2.2.1 = -1 := by
      rcases t5 with ⟨z, -⟩ | ⟨-, z⟩ | ⟨z, -⟩
      · rw [k] at z; exact absurd z (by decide)
      · exact z.1
      · rw [k] at z; exact absurd z (by decide)
    obtain ⟨a, ha, ea⟩ := one hch
    rw [ea, edE ha, edE ha] at hQ
    rw [ea]
    refine hK _ _ _ _ ⟨fun e => ?_, fun e => ?_⟩
    · refine hK _ _ _ _ ?_
      refine s_X5_k (by omega) (a := a) (c := 1) (by omega) (by decide) ?_
      refine ⟨hin, hin, ?_⟩
      rw [et]
      refine s_X5_and (by omega) v54 s1 (fun u vu eu => ?_)
      refine ⟨hin, ?_⟩
      rw [et]
      refine s_X5_valueOf (by omega) hT hm hv ht (Or.inr k) (fun w vw ew => ?_)
      refine s_X5_and (by omega) vu vw (fun x vx ex => ?_)
      refine s_X5_or (by omega) (kk ha (by decide)) vx (fun v vv ev => ?_)
      refine hK _ _ _ _ ⟨trivial, hQ v vv ?_⟩
      rw [if_pos ((c0 1 (by decide)).mp e), ev, ex, eu, ew, s2]
      rfl
    · refine s_X5_k (by omega) (by omega) hc ?_
      refine hK _ _ _ _ ⟨trivial, hQ _ (kk ha hc) ?_⟩
      rw [if_neg (fun z => e ((c0 1 (by decide)).mpr z))]
  · rw [fK_6 k] at hQ
    have hch : ¬ (tA A t).2.2.2.1 = -1 ∧ ¬ (tA A t).2.2.2.2.1 = -1 := by
      rcases t5 with ⟨z, -⟩ | ⟨z, -⟩ | ⟨-, z⟩
      · rw [k] at z; exact absurd z (by decide)
      · rw [k] at z; exact absurd z (by decide)
      · exact z
    obtain ⟨a, ha, ea⟩ := one hch.1
    obtain ⟨b, hb, eb⟩ := two hch.2
    rw [ea, eb, edE ha, edE hb] at hQ
    rw [ea, eb]
    refine hK _ _ _ _ ⟨fun e => ?_, fun e => ?_⟩
    · refine hK _ _ _ _ ?_
      refine s_X5_k (by omega) (by omega) hc ?_
      refine s_X5_k (by omega) (by omega) hc ?_
      refine s_X5_or (by omega) (kk ha hc) (kk hb hc) (fun v vv ev => ?_)
      refine hK _ _ _ _ ⟨trivial, hQ v vv ?_⟩
      rw [if_neg (fun z => e ((c0 0 (by decide)).mpr z)), ev]
    · refine hK _ _ _ _ ⟨trivial, hQ 0 v3_0 ?_⟩
      rw [if_pos ((c0 0 (by decide)).mp e)]; rfl
  · rw [fK_7 k] at hQ
    have hch : ¬ (tA A t).2.2.2.1 = -1 := by
      rcases t5 with ⟨z, -⟩ | ⟨-, z⟩ | ⟨z, -⟩
      · rw [k] at z; exact absurd z (by decide)
      · exact z.1
      · rw [k] at z; exact absurd z (by decide)
    obtain ⟨a, ha, ea⟩ := one hch
    rw [ea, edE ha, edE ha, edE ha, edE ha] at hQ
    rw [ea]
    refine hK _ _ _ _ ⟨fun e => ?_, fun e => ?_⟩
    · refine hK _ _ _ _ ⟨fun e1 => ?_, fun e1 => ?_⟩
      · refine hK _ _ _ _ ⟨fun e5 => ?_, fun e5 => ?_⟩
        · have n0 : ¬ c = 0 := fun z => e ((c0 0 (by decide)).mpr z)
          have n1 : ¬ c = 1 := fun z => e1 ((c0 1 (by decide)).mpr z)
          have n5 : ¬ c = 5 := fun z => e5 ((c0 5 (by decide)).mpr z)
          refine hK _ _ _ _ ?_
          conv => whnf
          rw [nI_1]
          refine s_X5_k (by omega) (by omega) (show c + 1 < 6 by omega) ?_
          refine hK _ _ _ _ ⟨trivial, hQ _ (kk ha (by omega)) ?_⟩
          rw [if_neg n0, if_neg n1, if_pos (by omega)]
        · have h5 := (c0 5 (by decide)).mp e5
          refine hK _ _ _ _ ⟨trivial, hQ 0 v3_0 ?_⟩
          rw [if_neg (by omega), if_neg (by omega), if_neg (by omega)]; rfl
      · have h1 := (c0 1 (by decide)).mp e1
        refine s_X5_k (by omega) (a := a) (c := 1) (by omega) (by decide) ?_
        refine hK _ _ _ _ ⟨trivial, hQ _ (kk ha (by decide)) ?_⟩
        rw [if_neg (by omega), if_pos h1]
    · refine s_X5_k (by omega) (a := a) (c := 0) (by omega) (by decide) ?_
      refine s_X5_k (by omega) (a := a) (c := 2) (by omega) (by decide) ?_
      refine s_X5_or (by omega) (kk ha (by decide)) (kk ha (by decide)) (fun v vv ev => ?_)
      refine hK _ _ _ _ ⟨trivial, hQ v vv ?_⟩
      rw [if_pos ((c0 0 (by decide)).mp e), ev]
  · rw [fK_8 k] at hQ
    have hch : ¬ (tA A t).2.2.2.1 = -1 := by
      rcases t5 with ⟨z, -⟩ | ⟨-, z⟩ | ⟨z, -⟩
      · rw [k] at z; exact absurd z (by decide)
      · exact z.1
      · rw [k] at z; exact absurd z (by decide)
    obtain ⟨a, ha, ea⟩ := one hch
    rw [ea, edE ha] at hQ
    rw [ea]
    refine hK _ _ _ _ ?_
    refine s_X5_k (by omega) (by omega) hc ?_
    exact ⟨trivial, hQ _ (kk ha hc) rfl⟩
  · rw [fK_9 k] at hQ
    have hch : ¬ (tA A t).2.2.2.1 = -1 ∧ ¬ (tA A t).2.2.2.2.1 = -1 := by
      rcases t5 with ⟨z, -⟩ | ⟨z, -⟩ | ⟨-, z⟩
      · rw [k] at z; exact absurd z (by decide)
      · rw [k] at z; exact absurd z (by decide)
      · exact z
    obtain ⟨a, ha, ea⟩ := one hch.1
    obtain ⟨b, hb, eb⟩ := two hch.2
    rw [ea, eb, edE ha, edE hb, edE hb] at hQ
    rw [ea, eb]
    refine hK _ _ _ _ ⟨fun e => ?_, fun e => ?_⟩
    · refine hK _ _ _ _ ?_
      refine s_X5_k (by omega) (by omega) hc ?_
      refine s_X5_k (by omega) (by omega) hc ?_
      refine s_X5_or (by omega) (kk ha hc) (kk hb hc) (fun v vv ev => ?_)
      refine hK _ _ _ _ ⟨trivial, hQ v vv ?_⟩
      rw [if_neg (fun z => e ((c0 0 (by decide)).mpr z)), ev]
    · refine s_X5_k (by omega) (a := b) (c := 0) (by omega) (by decide) ?_
      refine hK _ _ _ _ ⟨trivial, hQ _ (kk hb (by decide)) ?_⟩
      rw [if_pos ((c0 0 (by decide)).mp e)]
  · have k : (tA A t).1 = 10 := by
      rcases thK_kind t5 with z | z | z | z | z | z | z | z | z | z | z
      · exact absurd z n0
      · exact absurd z n1
      · exact absurd z n2
      · exact absurd z n3
      · exact absurd z n4
      · exact absurd z n5
      · exact absurd z n6
      · exact absurd z n7
      · exact absurd z n8
      · exact absurd z n9
      · exact z
    rw [fK_10 k] at hQ
    have hch : ¬ (tA A t).2.2.2.1 = -1 ∧ ¬ (tA A t).2.2.2.2.1 = -1 := by
      rcases t5 with ⟨z, -⟩ | ⟨z, -⟩ | ⟨-, z⟩
      · rw [k] at z; exact absurd z (by decide)
      · rw [k] at z; exact absurd z (by decide)
      · exact z
    obtain ⟨a, ha, ea⟩ := one hch.1
    obtain ⟨b, hb, eb⟩ := two hch.2
    rw [ea, eb, edE ha, edE hb] at hQ
    rw [ea, eb]
    refine hK _ _ _ _ ?_
    refine s_X5_upTo (by omega) hT hm hv ha hb hc (fun u vu eu => ?_)
    refine s_X5_upTo (by omega) hT hm hv hb ha hc (fun w vw ew => ?_)
    refine s_X5_and (by omega) vu vw (fun x vx ex => ?_)
    refine s_X5_k (by omega) (by omega) hc ?_
    refine s_X5_k (by omega) (by omega) hc ?_
    refine s_X5_or (by omega) (kk ha hc) (kk hb hc) (fun y vy ey => ?_)
    refine s_X5_and (by omega) vx vy (fun v vv ev => ?_)
    exact ⟨trivial, hQ v vv (by rw [ev, ex, ey, eu, ew])⟩
end MI4
