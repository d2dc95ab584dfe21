/-! THE REFERENCE: what its reading holds -/
theorem cNode_q {g : mvH} {m : Nat} {k c a b : Int32} {q : Nat} (hq : ¬ (q = 5 ∨ q = 34 ∨ q = 35 ∨ q = 36 ∨ q = 37 ∨ q = 38 ∨ q = 39)) : cNode g m k c a b q = g q := by
  unfold cNode
  rw [hset_other (by omega), hset_other (by omega), hset_other (by omega), mUn_o (by omega), hset_other (by omega), hset_other (by omega), hset_other (by omega), hset_other (by omega)]
theorem cNode_5 {g : mvH} {m : Nat} {k c a b : Int32} {j : Nat} (h2 : j ≠ 2) (h16 : j ≠ 16) : cNode g m k c a b 5 j = g 5 j := by
  unfold cNode
  rw [hset_at, if_neg h2, hset_other (by decide), hset_other (by decide), mUn_5 h16, hset_other (by decide), hset_other (by decide), hset_other (by decide), hset_other (by decide)]
theorem cNode_get {g : mvH} {m : Nat} {k c a b : Int32} : (∀ i, cNode g m k c a b 34 i = if i = m then k else g 34 i) ∧ (∀ i, cNode g m k c a b 35 i = if i = m then c else g 35 i) ∧ (∀ i, cNode g m k c a b 36 i = if i = m then a else g 36 i) ∧ (∀ i, cNode g m k c a b 37 i = if i = m then b else g 37 i) ∧ (∀ i, cNode g m k c a b 38 i = if i = m then mCo k c a (subC (g 38) a) (subC (g 38) b) else g 38 i) ∧ (∀ i, cNode g m k c a b 39 i = if i = m then (1 + (if a < 0 then 0 else if k = 6 then 2 * g 39 (ix a) else g 39 (ix a)) + (if b < 0 then 0 else g 39 (ix b))) else g 39 i) ∧ cNode g m k c a b 5 2 = nI (m + 1) := by
  unfold cNode
  refine ⟨fun i => ?_, fun i => ?_, fun i => ?_, fun i => ?_, fun i => ?_, fun i => ?_, ?_⟩
  · rw [hset_other (by decide), hset_other (by decide), hset_other (by decide), mUn_o (by decide), hset_other (by decide), hset_other (by decide), hset_other (by decide), hset_at]
  · rw [hset_other (by decide), hset_other (by decide), hset_other (by decide), mUn_o (by decide), hset_other (by decide), hset_other (by decide), hset_at, hset_other (by decide)]
  · rw [hset_other (by decide), hset_other (by decide), hset_other (by decide), mUn_o (by decide), hset_other (by decide), hset_at, hset_other (by decide), hset_other (by decide)]
  · rw [hset_other (by decide), hset_other (by decide), hset_other (by decide), mUn_o (by decide), hset_at, hset_other (by decide), hset_other (by decide), hset_other (by decide)]
  · rw [hset_other (by decide), hset_other (by decide), hset_at, mUn_o (by decide), hset_other (by decide), hset_other (by decide), hset_other (by decide), hset_other (by decide)]
  · rw [hset_other (by decide), hset_at, hset_other (by decide), mUn_o (by decide), hset_other (by decide), hset_other (by decide), hset_other (by decide), hset_other (by decide)]
  · rw [hset_at, if_pos rfl]
theorem cNode_16 {g : mvH} {m : Nat} {k c a b : Int32} : cNode g m k c a b 5 16 = if k = 6 ∧ ¬ a < 0 then (if ¬ g 5 16 = 0 then 1 else if subC (g 38) a &&& 1 = 1 then 1 else 0) else g 5 16 := by
  unfold cNode
  rw [hset_at, if_neg (by decide), hset_other (by decide), hset_other (by decide)]
  have g16 : (hset (hset (hset (hset g 34 m k) 35 m c) 36 m a) 37 m b) 5 = g 5 := by rw [hset_other (by decide), hset_other (by decide), hset_other (by decide), hset_other (by decide)]
  unfold mUn
  rw [g16]
  by_cases h6 : k = 6 ∧ ¬ a < 0
  · rw [if_pos h6, if_pos h6, hset_at, if_pos rfl]
  · rw [if_neg h6, if_neg h6, g16]
theorem mNd_node {g : mvH} {N : List Nd} {k c a b : Int32} (hN : mNd g N) (hu : mUns g N) (hc : mCh N) (hlen : N.length < 128) (ha : a = -1 ∨ ∃ j, j < N.length ∧ a = nI j) (hb : b = -1 ∨ ∃ j, j < N.length ∧ b = nI j) (h6 : k = 6 → ¬ a = -1) : mNd (cNode g N.length k c a b) (N ++ [(k, c, a, b)]) ∧ mUns (cNode g N.length k c a b) (N ++ [(k, c, a, b)]) ∧ mCh (N ++ [(k, c, a, b)]) := by
  obtain ⟨q34, q35, q36, q37, q38, q39, q2⟩ := cNode_get (g := g) (m := N.length) (k := k) (c := c) (a := a) (b := b)
  have sub38 : ∀ (y : Int32) (i : Nat), i ≤ N.length → (y = -1 ∨ ∃ j, j < i ∧ y = nI j) → subC (cNode g N.length k c a b 38) y = subC (g 38) y := by
    intro y i hi hy
    unfold subC
    rcases hy with rfl | ⟨j, hj, rfl⟩
    · rfl
    · rw [if_neg (nI_pos (by omega)), if_neg (nI_pos (by omega)), ix_nI (by omega), q38, if_neg (by omega)]
  have ix39 : ∀ (y : Int32) (i : Nat), i ≤ N.length → (∃ j, j < i ∧ y = nI j) → cNode g N.length k c a b 39 (ix y) = g 39 (ix y) := by
    intro y i hi ⟨j, hj, e⟩
    rw [e, ix_nI (by omega), q39, if_neg (by omega)]
  have thE : ∀ (x : Nd) (i : Nat), i ≤ N.length → (x.2.2.1 = -1 ∨ ∃ j, j < i ∧ x.2.2.1 = nI j) → (x.2.2.2 = -1 ∨ ∃ j, j < i ∧ x.2.2.2 = nI j) → (1 + (if x.2.2.1 < 0 then 0 else if x.1 = 6 then 2 * cNode g N.length k c a b 39 (ix x.2.2.1) else cNode g N.length k c a b 39 (ix x.2.2.1)) + (if x.2.2.2 < 0 then 0 else cNode g N.length k c a b 39 (ix x.2.2.2))) = (1 + (if x.2.2.1 < 0 then 0 else if x.1 = 6 then 2 * g 39 (ix x.2.2.1) else g 39 (ix x.2.2.1)) + (if x.2.2.2 < 0 then 0 else g 39 (ix x.2.2.2))) := by
    intro x i hi hl hr
    have e1 : (if x.2.2.1 < 0 then (0 : Int32) else if x.1 = 6 then 2 * cNode g N.length k c a b 39 (ix x.2.2.1) else cNode g N.length k c a b 39 (ix x.2.2.1)) = (if x.2.2.1 < 0 then 0 else if x.1 = 6 then 2 * g 39 (ix x.2.2.1) else g 39 (ix x.2.2.1)) := by
      rcases hl with z | z
      · rw [z]; rfl
      · rw [ix39 _ i hi z]
    have e2 : (if x.2.2.2 < 0 then (0 : Int32) else cNode g N.length k c a b 39 (ix x.2.2.2)) = (if x.2.2.2 < 0 then 0 else g 39 (ix x.2.2.2)) := by
      rcases hr with z | z
      · rw [z]; rfl
      · rw [ix39 _ i hi z]
    rw [e1, e2]
  refine ⟨⟨by rw [q2]; simp, fun i x hx => ?_⟩, ?_, fun i x hx => ?_⟩
  · rcases app_get hx with ⟨z1, z2⟩ | ⟨rfl, rfl⟩
    · obtain ⟨w1, w2, w3, w4, w5, w6⟩ := hN.2 i x z2
      obtain ⟨c1, c2⟩ := hc i x z2
      have hne : ¬ i = N.length := by omega
      rw [q34, q35, q36, q37, if_neg hne, if_neg hne, if_neg hne, if_neg hne, sub38 _ i (by omega) c1, sub38 _ i (by omega) c2]
      refine ⟨w1, w2, w3, w4, by rw [q38, if_neg hne]; exact w5, ?_⟩
      unfold mThE at w6 ⊢
      rw [thE x i (by omega) c1 c2, q39, if_neg hne]
      exact w6
    · rw [q34, q35, q36, q37, if_pos rfl, if_pos rfl, if_pos rfl, if_pos rfl, sub38 _ _ (Nat.le_refl _) ha, sub38 _ _ (Nat.le_refl _) hb]
      refine ⟨rfl, rfl, rfl, rfl, by rw [q38, if_pos rfl], ?_⟩
      unfold mThE
      rw [thE (k, c, a, b) N.length (Nat.le_refl _) ha hb, q39, if_pos rfl]
  · have old : ∀ (i : Nat) (x : Nd), N[i]? = some x → subC (cNode g N.length k c a b 38) x.2.2.1 = subC (g 38) x.2.2.1 := fun i x hx => sub38 _ i (Nat.le_of_lt (List.getElem?_eq_some_iff.mp hx).1) (hc i x hx).1
    unfold mUns
    rw [cNode_16]
    by_cases hk6 : k = 6
    · have ha0 : ¬ a < 0 := by
        rcases ha with z | ⟨j, hj, z⟩
        · exact absurd z (h6 hk6)
        · rw [z]; exact nI_pos (by omega)
      rw [if_pos ⟨hk6, ha0⟩]
      rcases hu with ⟨u1, u2⟩ | ⟨u1, i, x, u2, u3, u4⟩
      · rw [if_neg (fun z => z u1)]
        by_cases hb1 : subC (g 38) a &&& 1 = 1
        · rw [if_pos hb1]
          exact Or.inr ⟨rfl, N.length, _, app_last, hk6, by rw [sub38 _ _ (Nat.le_refl _) ha]; exact hb1⟩
        · rw [if_neg hb1]
          refine Or.inl ⟨rfl, fun i x hx h6x => ?_⟩
          rcases app_get hx with ⟨z1, z2⟩ | ⟨rfl, rfl⟩
          · rw [old i x z2]; exact u2 i x z2 h6x
          · rw [sub38 _ _ (Nat.le_refl _) ha]; exact hb1
      · rw [if_pos (by rw [u1]; decide)]
        exact Or.inr ⟨rfl, i, x, by rw [app_left (List.getElem?_eq_some_iff.mp u2).1]; exact u2, u3, by rw [old i x u2]; exact u4⟩
    · rw [if_neg (fun z => hk6 z.1)]
      rcases hu with ⟨u1, u2⟩ | ⟨u1, i, x, u2, u3, u4⟩
      · refine Or.inl ⟨u1, fun i x hx h6x => ?_⟩
        rcases app_get hx with ⟨z1, z2⟩ | ⟨rfl, rfl⟩
        · rw [old i x z2]; exact u2 i x z2 h6x
        · exact absurd h6x hk6
      · exact Or.inr ⟨u1, i, x, by rw [app_left (List.getElem?_eq_some_iff.mp u2).1]; exact u2, u3, by rw [old i x u2]; exact u4⟩
  · rcases app_get hx with ⟨z1, z2⟩ | ⟨rfl, rfl⟩
    · exact hc i x z2
    · exact ⟨ha, hb⟩
/-- the reference while it reads: stacks with their tops first -/
def MdV (g : mvH) (tx : Nat → Int32) (n : Nat) (O : List (Int32 × Int32)) (R : List Nat) (N : List Nd) (as w : Int32) : Prop :=
  g 5 1 = nI n ∧ (∀ j, j < n → g 33 j = tx j) ∧ stkO g O ∧ stkR g R ∧ mNd g N ∧ mUns g N ∧ mCh N ∧ g 5 14 = w ∧ g 5 15 = as ∧ (as = 0 ∨ as = 1) ∧ ∀ a, a ∈ R → a < N.length
def MdOK (g : mvH) (tx : Nat → Int32) (n : Nat) (O : List (Int32 × Int32)) (R : List Nat) (N : List Nd) (as : Int32) : Prop := MdV g tx n O R N as 0
def frM (h g : mvH) : Prop := (∀ q, ¬ (q = 5 ∨ (34 ≤ q ∧ q ≤ 42)) → g q = h q) ∧ ∀ j, ¬ (j = 2 ∨ j = 9 ∨ j = 12 ∨ j = 14 ∨ j = 15 ∨ j = 16) → g 5 j = h 5 j
theorem frM.rfl {h : mvH} : frM h h := ⟨fun _ _ => Eq.refl _, fun _ _ => Eq.refl _⟩
theorem frM.trans {a b c : mvH} (h1 : frM a b) (h2 : frM b c) : frM a c := ⟨fun q hq => (h2.1 q hq).trans (h1.1 q hq), fun j hj => (h2.2 j hj).trans (h1.2 j hj)⟩
theorem frM_q {h : mvH} {q j : Nat} {v : Int32} (hq : 34 ≤ q ∧ q ≤ 42) : frM h (hset h q j v) := ⟨fun q' hq' => hset_other (by omega), fun j' _ => by rw [hset_other (by omega)]⟩
theorem frM_5 {h : mvH} {j : Nat} {v : Int32} (hj : j = 2 ∨ j = 9 ∨ j = 12 ∨ j = 14 ∨ j = 15 ∨ j = 16) : frM h (hset h 5 j v) := ⟨fun q' hq' => hset_other (by omega), fun j' hj' => by rw [hset_at, if_neg (by omega)]⟩
theorem frM_node {g : mvH} {m : Nat} {k c a b : Int32} : frM g (cNode g m k c a b) := ⟨fun q hq => cNode_q (by omega), fun j hj => cNode_5 (by omega) (by omega)⟩
/-- a node is made of parts that were taken, and given back -/
theorem node_md {g : mvH} {tx : Nat → Int32} {n : Nat} {O : List (Int32 × Int32)} {R : List Nat} {N : List Nd} {as w : Int32} (hm : MdV g tx n O R N as w) (hl : N.length < 128) {k c a b : Int32} (ha : a = -1 ∨ ∃ j, j < N.length ∧ a = nI j) (hb : b = -1 ∨ ∃ j, j < N.length ∧ b = nI j) (h6 : k = 6 → ¬ a = -1) : stkR (cNode g N.length k c a b) R ∧ MdV (hset (hset (cNode g N.length k c a b) 42 R.length (nI N.length)) 5 12 (nI (R.length + 1))) tx n O (N.length :: R) (N ++ [(k, c, a, b)]) as w ∧ frM g (hset (hset (cNode g N.length k c a b) 42 R.length (nI N.length)) 5 12 (nI (R.length + 1))) := by
  obtain ⟨m1, m2, m3, m4, m5, m6, m7, m8, m9, m10, m11⟩ := hm
  obtain ⟨w1, w2, w3⟩ := mNd_node m5 m6 m7 hl ha hb h6
  have hr' : stkR (cNode g N.length k c a b) R := ⟨by rw [cNode_5 (by decide) (by decide)]; exact m4.1, fun j x hx => by rw [cNode_q (by decide)]; exact m4.2 j x hx⟩
  refine ⟨hr', ⟨?_, ?_, ?_, stkR_give hr', ?_, ?_, w3, ?_, ?_, m10, ?_⟩, (frM_node.trans (frM_q (by decide))).trans (frM_5 (by decide))⟩
  · rw [hset_at, if_neg (by decide), hset_other (by decide), cNode_5 (by decide) (by decide)]; exact m1
  · intro j hj; rw [hset_other (by decide), hset_other (by decide), cNode_q (by decide)]; exact m2 j hj
  · refine ⟨by rw [hset_at, if_neg (by decide), hset_other (by decide), cNode_5 (by decide) (by decide)]; exact m3.1, fun j x hx => ?_⟩
    rw [hset_other (by decide), hset_other (by decide), hset_other (by decide), hset_other (by decide), cNode_q (by decide), cNode_q (by decide)]
    exact m3.2 j x hx
  · refine ⟨by rw [hset_at, if_neg (by decide), hset_other (by decide)]; exact w1.1, fun i x hx => ?_⟩
    have e : ∀ q, q ≠ 5 → q ≠ 42 → (hset (hset (cNode g N.length k c a b) 42 R.length (nI N.length)) 5 12 (nI (R.length + 1))) q = cNode g N.length k c a b q := fun q h1 h2 => by rw [hset_other h1, hset_other h2]
    rw [e 34 (by decide) (by decide), e 35 (by decide) (by decide), e 36 (by decide) (by decide), e 37 (by decide) (by decide), e 38 (by decide) (by decide), e 39 (by decide) (by decide)]
    exact w1.2 i x hx
  · unfold mUns
    rw [hset_at, if_neg (by decide), hset_other (by decide), hset_other (by decide), hset_other (by decide)]
    exact w2
  · rw [hset_at, if_neg (by decide), hset_other (by decide), cNode_5 (by decide) (by decide)]; exact m8
  · rw [hset_at, if_neg (by decide), hset_other (by decide), cNode_5 (by decide) (by decide)]; exact m9
  · intro x hx
    rw [List.length_append]
    rcases List.mem_cons.mp hx with rfl | z
    · simp
    · have := m11 x z; simp; omega

theorem MdV_14 {g : mvH} {tx : Nat → Int32} {n : Nat} {O : List (Int32 × Int32)} {R : List Nat} {N : List Nd} {as w : Int32} (hm : MdV g tx n O R N as w) (v : Int32) : MdV (hset g 5 14 v) tx n O R N as v := by
  obtain ⟨m1, m2, m3, m4, m5, m6, m7, m8, m9, m10, m11⟩ := hm
  have q : ∀ q', q' ≠ 5 → (hset g 5 14 v) q' = g q' := fun q' hq => hset_other hq
  have q5 : ∀ j, j ≠ 14 → (hset g 5 14 v) 5 j = g 5 j := fun j hj => by rw [hset_at, if_neg hj]
  refine ⟨by rw [q5 1 (by decide)]; exact m1, by rw [q 33 (by decide)]; exact m2, ⟨by rw [q5 9 (by decide)]; exact m3.1, by rw [q 40 (by decide), q 41 (by decide)]; exact m3.2⟩, ⟨by rw [q5 12 (by decide)]; exact m4.1, by rw [q 42 (by decide)]; exact m4.2⟩, ⟨by rw [q5 2 (by decide)]; exact m5.1, by rw [q 34 (by decide), q 35 (by decide), q 36 (by decide), q 37 (by decide), q 38 (by decide), q 39 (by decide)]; exact m5.2⟩, ?_, m7, by rw [hset_at, if_pos rfl], by rw [q5 15 (by decide)]; exact m9, m10, m11⟩
  unfold mUns
  rw [q5 16 (by decide), q 38 (by decide)]
  exact m6
theorem MdV_15 {g : mvH} {tx : Nat → Int32} {n : Nat} {O : List (Int32 × Int32)} {R : List Nat} {N : List Nd} {as w : Int32} (hm : MdV g tx n O R N as w) {v : Int32} (hv : v = 0 ∨ v = 1) : MdV (hset g 5 15 v) tx n O R N v w := by
  obtain ⟨m1, m2, m3, m4, m5, m6, m7, m8, m9, m10, m11⟩ := hm
  have q : ∀ q', q' ≠ 5 → (hset g 5 15 v) q' = g q' := fun q' hq => hset_other hq
  have q5 : ∀ j, j ≠ 15 → (hset g 5 15 v) 5 j = g 5 j := fun j hj => by rw [hset_at, if_neg hj]
  refine ⟨by rw [q5 1 (by decide)]; exact m1, by rw [q 33 (by decide)]; exact m2, ⟨by rw [q5 9 (by decide)]; exact m3.1, by rw [q 40 (by decide), q 41 (by decide)]; exact m3.2⟩, ⟨by rw [q5 12 (by decide)]; exact m4.1, by rw [q 42 (by decide)]; exact m4.2⟩, ⟨by rw [q5 2 (by decide)]; exact m5.1, by rw [q 34 (by decide), q 35 (by decide), q 36 (by decide), q 37 (by decide), q 38 (by decide), q 39 (by decide)]; exact m5.2⟩, ?_, m7, by rw [q5 14 (by decide)]; exact m8, by rw [hset_at, if_pos rfl], hv, m11⟩
  unfold mUns
  rw [q5 16 (by decide), q 38 (by decide)]
  exact m6
theorem MdV_push {g : mvH} {tx : Nat → Int32} {n : Nat} {O : List (Int32 × Int32)} {R : List Nat} {N : List Nd} {as w : Int32} (hm : MdV g tx n O R N as w) (c l : Int32) : MdV (hset (hset (hset g 40 O.length c) 41 O.length l) 5 9 (nI (O.length + 1))) tx n ((c, l) :: O) R N as w ∧ frM g (hset (hset (hset g 40 O.length c) 41 O.length l) 5 9 (nI (O.length + 1))) := by
  obtain ⟨m1, m2, m3, m4, m5, m6, m7, m8, m9, m10, m11⟩ := hm
  have so := stkO_push (c := c) (l := l) m3
  have q : ∀ q', q' ≠ 5 → q' ≠ 40 → q' ≠ 41 → (hset (hset (hset g 40 O.length c) 41 O.length l) 5 9 (nI (O.length + 1))) q' = g q' := fun q' h1 h2 h3 => by rw [hset_other h1, hset_other h3, hset_other h2]
  have q5 : ∀ j, j ≠ 9 → (hset (hset (hset g 40 O.length c) 41 O.length l) 5 9 (nI (O.length + 1))) 5 j = g 5 j := fun j hj => by rw [hset_at, if_neg hj, hset_other (by decide), hset_other (by decide)]
  generalize hset (hset (hset g 40 O.length c) 41 O.length l) 5 9 (nI (O.length + 1)) = g' at *
  refine ⟨⟨by rw [q5 1 (by decide)]; exact m1, by rw [q 33 (by decide) (by decide) (by decide)]; exact m2, so, ⟨by rw [q5 12 (by decide)]; exact m4.1, by rw [q 42 (by decide) (by decide) (by decide)]; exact m4.2⟩, ⟨by rw [q5 2 (by decide)]; exact m5.1, by rw [q 34 (by decide) (by decide) (by decide), q 35 (by decide) (by decide) (by decide), q 36 (by decide) (by decide) (by decide), q 37 (by decide) (by decide) (by decide), q 38 (by decide) (by decide) (by decide), q 39 (by decide) (by decide) (by decide)]; exact m5.2⟩, ?_, m7, by rw [q5 14 (by decide)]; exact m8, by rw [q5 15 (by decide)]; exact m9, m10, m11⟩, fun q' h => q q' (by omega) (by omega) (by omega), fun j h => q5 j (by omega)⟩
  unfold mUns
  rw [q5 16 (by decide), q 38 (by decide) (by decide) (by decide)]
  exact m6
