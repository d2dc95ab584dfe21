/-! THE REFERENCE: behind -/
def bhS (c : Int32) (O : List (Int32 × Int32)) (R : List Nat) (N : List Nd) : Option (Bool × mSt) :=
  if c = 58 then (if topO O = 63 then some (true, ((58, (O.headD (0, 0)).2) :: O.tail, R, N)) else none)
  else if c = 124 ∨ c = 59 then (if topO O = 63 then none else some (true, ((c, 0) :: (joinS (decide (c = 59)) O R N).1, (joinS (decide (c = 59)) O R N).2)))
  else if c = 41 ∧ topO (joinS true O R N).1 = 40 then some (false, closeS (joinS true O R N).1.tail (joinS true O R N).2.1 (joinS true O R N).2.2)
  else if c = 125 ∧ topO (joinS true O R N).1 = 123 then some (false, closeS (joinS true O R N).1.tail ((joinS true O R N).2.2.length :: (joinS true O R N).2.1.tail) ((joinS true O R N).2.2 ++ [(7, 0, nI ((joinS true O R N).2.1.headD 0), -1)]))
  else none
theorem join_inv (all : Bool) : ∀ (O : List (Int32 × Int32)) (R : List Nat) (N : List Nd), R.length = cntB O + 1 → (joinS all O R N).2.1.length = cntB (joinS all O R N).1 + 1 ∧ (joinS all O R N).2.2.length + (joinS all O R N).1.length = N.length + O.length ∧ (joinS all O R N).1.length ≤ O.length := by
  intro O
  induction O with
  | nil => intro R N h; exact ⟨h, rfl, Nat.le_refl _⟩
  | cons x O ih =>
    intro R N h
    obtain ⟨c, l⟩ := x
    rw [cntB_cons] at h
    dsimp only at h
    unfold joinS
    split
    · rename_i e
      have hcB : c = 58 ∨ c = 124 ∨ c = 59 := Or.inr (e.imp id (fun z => z.2))
      rw [if_pos hcB] at h
      match R, h with
      | b :: a :: R', h =>
        dsimp only
        obtain ⟨h1, h2, h3⟩ := ih (N.length :: R') (N ++ [(if c = 124 then 10 else 9, 0, nI a, nI b)]) (by simp only [List.length_cons] at h ⊢; omega)
        refine ⟨h1, ?_, by simp only [List.length_cons]; omega⟩
        rw [h2]
        simp only [List.length_append, List.length_cons, List.length_nil]
        omega
      | [_], h => simp only [List.length_cons, List.length_nil] at h; omega
      | [], h => simp only [List.length_nil] at h; omega
    · refine ⟨?_, rfl, Nat.le_refl _⟩
      rw [cntB_cons]
      exact h
theorem close_inv : ∀ (O : List (Int32 × Int32)) (R : List Nat) (N : List Nd), R.length = cntB O + 1 → (closeS O R N).2.1.length = cntB (closeS O R N).1 + 1 ∧ (closeS O R N).2.2.length + (closeS O R N).1.length = N.length + O.length ∧ (closeS O R N).1.length ≤ O.length := by
  intro O
  induction O with
  | nil => intro R N h; exact ⟨h, rfl, Nat.le_refl _⟩
  | cons x O ih =>
    intro R N h
    obtain ⟨c, l⟩ := x
    rw [cntB_cons] at h
    dsimp only at h
    unfold closeS
    split
    · rename_i e
      have hcB : ¬ (c = 58 ∨ c = 124 ∨ c = 59) := by rcases e with z | z | z <;> rw [z] <;> decide
      rw [if_neg hcB] at h
      match R, h with
      | a :: R', h =>
        dsimp only
        obtain ⟨h1, h2, h3⟩ := ih (N.length :: R') (N ++ [(clK c, l, nI a, -1)]) (by simp only [List.length_cons] at h ⊢; omega)
        refine ⟨h1, ?_, by simp only [List.length_cons]; omega⟩
        rw [h2]
        simp only [List.length_append, List.length_cons, List.length_nil]
        omega
      | [], h => simp only [List.length_nil] at h; omega
    · split
      · rename_i e
        rw [if_pos (Or.inl e)] at h
        match R, h with
        | b :: a :: R', h =>
          dsimp only
          obtain ⟨h1, h2, h3⟩ := ih (N.length :: R') (N ++ [(4, l, nI a, nI b)]) (by simp only [List.length_cons] at h ⊢; omega)
          refine ⟨h1, ?_, by simp only [List.length_cons]; omega⟩
          rw [h2]
          simp only [List.length_append, List.length_cons, List.length_nil]
          omega
        | [_], h => simp only [List.length_cons, List.length_nil] at h; omega
        | [], h => simp only [List.length_nil] at h; omega
      · refine ⟨?_, rfl, Nat.le_refl _⟩
        rw [cntB_cons]
        exact h
theorem MdV_turn {g : mvH} {tx : Nat → Int32} {n : Nat} {x : Int32 × Int32} {O : List (Int32 × Int32)} {R : List Nat} {N : List Nd} {as w : Int32} (hm : MdV g tx n (x :: O) R N as w) (c : Int32) : MdV (hset g 40 O.length c) tx n ((c, x.2) :: O) R N as w := by
  obtain ⟨m1, m2, m3, m4, m5, m6, m7, m8, m9, m10, m11⟩ := hm
  have q : ∀ q', q' ≠ 40 → (hset g 40 O.length c) q' = g q' := fun q' hq => hset_other hq
  refine ⟨by rw [q 5 (by decide)]; exact m1, by rw [q 33 (by decide)]; exact m2, ⟨by rw [q 5 (by decide)]; exact m3.1, fun j y hy => ?_⟩, ⟨by rw [q 5 (by decide)]; exact m4.1, by rw [q 42 (by decide)]; exact m4.2⟩, ⟨by rw [q 5 (by decide)]; exact m5.1, by rw [q 34 (by decide), q 35 (by decide), q 36 (by decide), q 37 (by decide), q 38 (by decide), q 39 (by decide)]; exact m5.2⟩, ?_, m7, by rw [q 5 (by decide)]; exact m8, by rw [q 5 (by decide)]; exact m9, m10, m11⟩
  · rw [q 41 (by decide), hset_at]
    match j, hy with
    | 0, hy =>
      simp at hy
      subst hy
      have h0 := m3.2 0 x (by simp)
      simp at h0 ⊢
      exact h0.2
    | j + 1, hy =>
      have hy : O[j]? = some y := by simpa using hy
      have hj := (List.getElem?_eq_some_iff.mp hy).1
      have e : (((c, x.2) :: O).length - 1 - (j + 1)) = O.length - 1 - j := by simp; omega
      have h0 := m3.2 (j + 1) y (by simpa using hy)
      have e' : ((x :: O).length - 1 - (j + 1)) = O.length - 1 - j := by simp; omega
      rw [e'] at h0
      rw [e, if_neg (by omega)]
      exact h0
  · unfold mUns
    rw [q 5 (by decide), q 38 (by decide)]
    exact m6
theorem topO_cons {O : List (Int32 × Int32)} {c : Int32} (h : topO O = c) (hc : c ≠ 0) : ∃ l O', O = (c, l) :: O' := by
  match O, h with
  | [], h => exact absurd h.symm hc
  | (c0, l) :: O', h => exact ⟨l, O', by rw [show c = c0 from h.symm]⟩
section M8
variable {d : Nat} {tx : Nat → Int32} {n : Nat}
theorem s_X5_join_stop {g : mvH} {Q : Option mvV → mvH → Prop} (hd : 2 ≤ d) (all : Bool) {O : List (Int32 × Int32)} (hso : stkO g O) (hl : O.length ≤ 80) (ht : topO O = 63) (hQ : Q none g) : mvCal mvMT d 113 [.inr 5, .inl (if all = true then 1 else 0)] g Q := by
  obtain ⟨d, rfl⟩ := d_pos hd (by decide)
  refine ⟨⟨rfl, by cases all <;> decide, rfl⟩, Nat.le_of_ble_eq_true rfl, fun K hK => hK _ _ _ _ ?_⟩
  refine s_X5_top (by omega) hso hl ?_
  rw [ht]
  refine ⟨fun e => absurd e (by decide), fun _ => ⟨fun e => hK _ _ _ _ hQ, fun e => ?_⟩⟩
  refine s_X5_top (by omega) hso hl ?_
  rw [ht]
  exact ⟨fun _ => hK _ _ _ _ hQ, fun e => absurd e (by decide)⟩
set_option maxHeartbeats 8000000 in
theorem s_X5_behind {g : mvH} {Q : Option mvV → mvH → Prop} (hd : 5 ≤ d) (c : Int32) {O : List (Int32 × Int32)} {a : Nat} {R : List Nat} {N : List Nd} {as : Int32} (hm : MdOK g tx n O (a :: R) N as) (hfit : R.length = cntB O) (hb1 : N.length + O.length < 127) (hb2 : O.length ≤ 77)
    (hbad : bhS c O (a :: R) N = none → ∀ v g', (v = 0 ∨ v = 1) → frM g g' → g' 5 14 = 1 → Q (some (.inl v)) g')
    (hgood : ∀ w s, bhS c O (a :: R) N = some (w, s) → ∀ g', frM g g' → MdOK g' tx n s.1 s.2.1 s.2.2 as → Q (some (.inl (if w = true then 1 else 0))) g') : mvCal mvMT d 114 [.inr 5, .inl c] g Q := by
  obtain ⟨d, rfl⟩ := d_pos hd (by decide)
  have hso := hm.2.2.1
  have hcl : cntB O ≤ O.length := List.countP_le_length
  refine ⟨⟨rfl, by decide, rfl⟩, Nat.le_of_ble_eq_true rfl, fun K hK => hK _ _ _ _ ⟨fun e58 => ?_, fun e58 => ?_⟩⟩
  · -- not ':'
    have c62 : (c = 124 ∨ c = 59) → K 62 [some (.inr 5), some (.inl c)] [] g := by
      intro hc
      refine hK _ _ _ _ ?_
      refine s_X5_top (by omega) hso (by omega) ?_
      have c92 : ∀ (w : Int32) (b : Bool), b = decide (c = 59) → ((w = 1 ∧ topO O = 63) ∨ (w = 0 ∧ ¬ topO O = 63)) → K 92 [some (.inr 5), some (.inl c)] [.inl (if b = true then 1 else 0), .inr 5] (hset g 5 14 w) := by
        intro w b hb hw
        have hm1 := MdV_14 hm w
        have f1 : frM g (hset g 5 14 w) := frM_5 (by decide)
        generalize hset g 5 14 w = g1 at *
        refine hK _ _ _ _ ?_
        rcases hw with ⟨z1, z2⟩ | ⟨z1, z2⟩
        · refine s_X5_join_stop (by omega) b hm1.2.2.1 (by omega) z2 ?_
          refine s_X5_push (by omega) _ _ hm1.2.2.1.1 (by omega) ?_
          refine ⟨Or.inr rfl, ?_⟩
          obtain ⟨p1, p2⟩ := MdV_push hm1 c 0
          refine hbad ?_ _ _ (Or.inr rfl) (f1.trans p2) (by rw [p1.2.2.2.2.2.2.2.1, z1])
          unfold bhS
          rw [if_neg e58, if_pos hc, if_pos z2]
        · rw [z1] at hm1
          refine s_X5_join (by omega) b O a R N g1 hm1 hfit (by omega) (by omega) (by omega) (fun g2 f2 m2 => ?_)
          have ji := join_inv b O (a :: R) N (by simp only [List.length_cons]; omega)
          refine s_X5_push (by omega) _ _ m2.2.2.1.1 (by omega) ?_
          refine ⟨Or.inr rfl, ?_⟩
          obtain ⟨p1, p2⟩ := MdV_push m2 c 0
          have hb : bhS c O (a :: R) N = some (true, ((c, 0) :: (joinS b O (a :: R) N).1, (joinS b O (a :: R) N).2)) := by
            unfold bhS
            rw [if_neg e58, if_pos hc, if_neg z2, hb]
          exact hgood true _ hb _ ((f1.trans f2).trans p2) p1
      have c77 : ∀ w : Int32, ((w = 1 ∧ topO O = 63) ∨ (w = 0 ∧ ¬ topO O = 63)) → K 77 [some (.inr 5), some (.inl c)] [.inl w, .inr 5] g := by
        intro w hw
        refine hK _ _ _ _ ⟨hw.elim (fun z => Or.inr z.1) (fun z => Or.inl z.1), ?_⟩
        refine ⟨fun e => ?_, fun e => ?_⟩
        · refine hK _ _ _ _ ?_
          exact c92 w false (by simp [show ¬ c = 59 from e]) hw
        · exact c92 w true (by simp [show c = 59 from e]) hw
      refine ⟨fun e => ?_, fun e => ?_⟩
      · refine hK _ _ _ _ ?_
        exact c77 0 (Or.inr ⟨rfl, e⟩)
      · exact c77 1 (Or.inl ⟨rfl, e⟩)
    have c103 : ¬ (c = 124 ∨ c = 59) → K 103 [some (.inr 5), some (.inl c)] [] g := by
      intro hc
      refine hK _ _ _ _ ?_
      refine s_X5_join (by omega) true O a R N g hm hfit (by omega) (by omega) (by omega) (fun g1 f1 m1 => ?_)
      have ji := join_inv true O (a :: R) N (by simp only [List.length_cons]; omega)
      have hbh : bhS c O (a :: R) N = if c = 41 ∧ topO (joinS true O (a :: R) N).1 = 40 then some (false, closeS (joinS true O (a :: R) N).1.tail (joinS true O (a :: R) N).2.1 (joinS true O (a :: R) N).2.2)
          else if c = 125 ∧ topO (joinS true O (a :: R) N).1 = 123 then some (false, closeS (joinS true O (a :: R) N).1.tail ((joinS true O (a :: R) N).2.2.length :: (joinS true O (a :: R) N).2.1.tail) ((joinS true O (a :: R) N).2.2 ++ [(7, 0, nI ((joinS true O (a :: R) N).2.1.headD 0), -1)]))
          else none := by
        unfold bhS
        rw [if_neg e58, if_neg hc]
      rw [hbh] at hbad hgood
      generalize joinS true O (a :: R) N = J at *
      obtain ⟨O1, R1, N1⟩ := J
      dsimp only at ji hbad hgood m1
      have hso1 := m1.2.2.1
      match R1, ji, m1, hbad, hgood with
      | a1 :: R1, ji, m1, hbad, hgood =>
        have hcl1 : cntB O1 ≤ O1.length := List.countP_le_length
        have ji1 : R1.length = cntB O1 := by have := ji.1; simp only [List.length_cons] at this; omega
        have bad : ¬ (c = 41 ∧ topO O1 = 40) → ¬ (c = 125 ∧ topO O1 = 123) → K 146 [some (.inr 5), some (.inl c)] [.inl 1, .inr 5] g1 := by
          intro e1 e2
          rw [if_neg e1, if_neg e2] at hbad
          have hm2 := MdV_14 m1 1
          have q14 : (hset g1 5 14 1) 5 14 = 1 := hm2.2.2.2.2.2.2.2.1
          refine hK _ _ _ _ ⟨Or.inr rfl, ?_⟩
          refine ⟨fun _ => ?_, fun e => absurd (show (hset g1 5 14 1) 5 14 = 0 from e) (by rw [q14]; decide)⟩
          refine hK _ _ _ _ ⟨Or.inl rfl, ?_⟩
          exact hbad rfl _ _ (Or.inl rfl) (f1.trans (frM_5 (by decide))) q14
        have good : (c = 41 ∧ topO O1 = 40) ∨ (c = 125 ∧ topO O1 = 123) → K 146 [some (.inr 5), some (.inl c)] [.inl 0, .inr 5] g1 := by
          intro e1
          obtain ⟨l, O2, hO2⟩ : ∃ x O2, O1 = x :: O2 ∧ ¬ (x.1 = 58 ∨ x.1 = 124 ∨ x.1 = 59) := by
            rcases e1 with ⟨-, z⟩ | ⟨-, z⟩
            · obtain ⟨l, O2, z⟩ := topO_cons z (by decide)
              exact ⟨_, O2, z, by dsimp only; decide⟩
            · obtain ⟨l, O2, z⟩ := topO_cons z (by decide)
              exact ⟨_, O2, z, by dsimp only; decide⟩
          obtain ⟨hO2, hnB⟩ := hO2
          subst hO2
          rw [cntB_cons, if_neg hnB, Nat.add_zero] at ji1 hcl1
          obtain ⟨_, ji2, ji3⟩ := ji
          simp only [List.length_cons, List.tail_cons, List.headD_cons] at ji2 ji3 hcl1 hgood
          have hm2 := MdV_14 m1 0
          have q14 : (hset g1 5 14 0) 5 14 = 0 := hm2.2.2.2.2.2.2.2.1
          have f2 : frM g (hset g1 5 14 0) := f1.trans (frM_5 (by decide))
          refine hK _ _ _ _ ⟨Or.inl rfl, ?_⟩
          refine ⟨fun e => absurd q14 e, fun _ => ?_⟩
          have hs2 := hm2.2.2.1
          have epred : nI (l :: O2).length - 1 = nI O2.length := nI_pred O2.length
          conv => whnf
          rw [hs2.1, epred]
          obtain ⟨hp, -, -⟩ := MdOK_pop hm2
          have f3 : frM g (hset (hset g1 5 14 0) 5 9 (nI O2.length)) := f2.trans (frM_5 (by decide))
          generalize hset (hset g1 5 14 0) 5 9 (nI O2.length) = g3 at *
          refine ⟨fun e => ?_, fun e => ?_⟩
          · have e2 : c = 41 ∧ topO (l :: O2) = 40 := e1.resolve_right (fun z => e z.1)
            rw [if_pos e2] at hgood
            refine hK _ _ _ _ ?_
            refine s_X5_close (by omega) hp ji1 (by omega) (by omega) (by omega) (fun g4 f4 m4 => ?_)
            refine hK _ _ _ _ ⟨Or.inl rfl, ?_⟩
            exact hgood false _ rfl g4 (f3.trans f4) m4
          · have e2 : ¬ (c = 41 ∧ topO (l :: O2) = 40) := fun z => by rw [show c = 125 from e] at z; exact absurd z.1 (by decide)
            rw [if_neg e2, if_pos (e1.resolve_left e2)] at hgood
            refine s_X5_take (by omega) hp.2.2.2.1 (by omega) ?_
            have hm4 := MdOK_take hp
            have f4 : frM g (hset g3 5 12 (nI R1.length)) := f3.trans (frM_5 (by decide))
            generalize hset g3 5 12 (nI R1.length) = g4 at *
            have ha1 : a1 < N1.length := m1.2.2.2.2.2.2.2.2.2.2 a1 (by simp)
            obtain ⟨n1, n2, n3⟩ := node_md hm4 (by omega) (k := 7) (c := 0) (a := nI a1) (b := -1) (Or.inr ⟨a1, ha1, rfl⟩) (Or.inl rfl) (fun z => absurd z (by decide))
            refine s_X5_node (by omega) _ _ _ _ hm4.2.2.2.2.1.1 (by omega) (Or.inr ⟨a1, ha1, rfl⟩) (Or.inl (by decide)) ?_
            refine s_X5_give (by omega) n1 (by omega) ?_
            refine hK _ _ _ _ ?_
            refine s_X5_close (by omega) n2 ji1 (by simp only [List.length_append, List.length_cons, List.length_nil]; omega) (by omega) (by omega) (fun g5 f5 m5 => ?_)
            refine hK _ _ _ _ ⟨Or.inl rfl, ?_⟩
            exact hgood false _ rfl g5 ((f4.trans n3).trans f5) m5
        have c141 : ¬ (c = 41 ∧ topO O1 = 40) → ¬ (c = 125 ∧ topO O1 = 123) → K 141 [some (.inr 5), some (.inl c)] [.inr 5] g1 := by
          intro e1 e2
          refine hK _ _ _ _ ?_
          exact bad e1 e2
        have c121 : (c = 41 ∨ c = 125) → K 121 [some (.inr 5), some (.inl c)] [.inr 5] g1 := by
          intro hcc
          have c138 : ∀ v : Int32, (c = 41 ∧ v = 40) ∨ (c = 125 ∧ v = 123) → K 138 [some (.inr 5), some (.inl c)] [.inl v, .inl (topO O1), .inr 5] g1 := by
            intro v hv
            refine hK _ _ _ _ ⟨fun e => ?_, fun e => ?_⟩
            · refine hK _ _ _ _ ?_
              refine good ?_
              rcases hv with z | z
              · exact Or.inl ⟨z.1, by rw [← z.2]; exact e⟩
              · exact Or.inr ⟨z.1, by rw [← z.2]; exact e⟩
            · refine c141 (fun z => ?_) (fun z => ?_)
              · rcases hv with w | w
                · exact e (by rw [w.2]; exact z.2)
                · rw [w.1] at z; exact absurd z.1 (by decide)
              · rcases hv with w | w
                · rw [w.1] at z; exact absurd z.1 (by decide)
                · exact e (by rw [w.2]; exact z.2)
          refine hK _ _ _ _ ?_
          refine s_X5_top (by omega) hso1 (by omega) ?_
          refine ⟨fun e => ?_, fun e => ?_⟩
          · refine hK _ _ _ _ ?_
            exact c138 123 (Or.inr ⟨hcc.resolve_left e, rfl⟩)
          · exact c138 40 (Or.inl ⟨e, rfl⟩)
        refine ⟨fun e => c121 (Or.inl e), fun e1 => ⟨fun e2 => c141 (fun z => e1 z.1) (fun z => e2 z.1), fun e2 => c121 (Or.inr e2)⟩⟩
    refine hK _ _ _ _ ⟨fun e => c62 (Or.inl e), fun e1 => ⟨fun e2 => c103 (fun z => z.elim e1 e2), fun e2 => c62 (Or.inr e2)⟩⟩
  · -- ':'
    refine s_X5_top (by omega) hso (by omega) ?_
    have c21 : ∀ w : Int32, ((w = 1 ∧ ¬ topO O = 63) ∨ (w = 0 ∧ topO O = 63)) → K 21 [some (.inr 5), some (.inl c)] [.inl w, .inr 5] g := by
      intro w hw
      have hm1 := MdV_14 hm w
      have f1 : frM g (hset g 5 14 w) := frM_5 (by decide)
      refine hK _ _ _ _ ⟨hw.elim (fun z => Or.inr z.1) (fun z => Or.inl z.1), ?_⟩
      have q14 : (hset g 5 14 w) 5 14 = w := hm1.2.2.2.2.2.2.2.1
      conv => whnf
      rw [q14]
      generalize hset g 5 14 w = g1 at *
      refine ⟨fun e => ?_, fun e => ?_⟩
      · have z2 : topO O = 63 := by
          rcases hw with z | z
          · rw [z.1] at e; exact absurd e (by decide)
          · exact z.2
        have hb : bhS c O (a :: R) N = some (true, ((58, (O.headD (0, 0)).2) :: O.tail, a :: R, N)) := by
          unfold bhS
          rw [if_pos e58, if_pos z2]
        obtain ⟨l, O', hO⟩ := topO_cons z2 (by decide)
        subst hO
        have epred : nI ((63, l) :: O').length - 1 = nI O'.length := nI_pred O'.length
        simp only [List.length_cons] at hb2
        refine hK _ _ _ _ ?_
        conv => whnf
        rw [hm1.2.2.1.1, epred]
        refine hK _ _ _ _ ⟨vp_in_nI (by omega) (by decide), ?_⟩
        refine ⟨Or.inr rfl, ?_⟩
        rw [nI_clamp (by omega)]
        rw [show w = 0 from e] at hm1
        exact hgood true _ hb _ (f1.trans (frM_q (by decide))) (MdV_turn hm1 58)
      · have z : w = 1 ∧ ¬ topO O = 63 := hw.resolve_right (fun q => e q.1)
        refine hK _ _ _ _ ⟨show vp_in (nI 0) 80 from vp_in_nI (by decide) (by decide), ?_⟩
        refine ⟨Or.inr rfl, ?_⟩
        refine hbad ?_ _ _ (Or.inr rfl) (f1.trans (frM_q (by decide))) (by rw [hset_other (by decide), q14]; exact z.1)
        unfold bhS
        rw [if_pos e58, if_neg z.2]
    refine ⟨fun e => ?_, fun e => ?_⟩
    · refine hK _ _ _ _ ?_
      exact c21 0 (Or.inr ⟨rfl, e⟩)
    · exact c21 1 (Or.inl ⟨rfl, e⟩)
end M8
