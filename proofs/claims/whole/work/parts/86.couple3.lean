/-! BOTH SIDES AT ONCE: states; and all calls -/
section CS3
variable {d : Nat} {h h' : mvH}
theorem s_X5_states_no (hd : 2 ≤ d) {Q : Option mvV → mvH → Prop} (h26 : h 5 26 = 0) (hQ : Q (some (.inl (-1))) h) : mvCal mvMT d 141 [.inr 5] h Q := by
  obtain ⟨d, rfl⟩ := d_pos hd (by decide)
  exact ⟨⟨rfl, by decide, rfl⟩, Nat.le_of_ble_eq_true rfl, fun K hK => hK _ _ _ _ ⟨fun e => absurd h26 e, fun _ => ⟨trivial, hQ⟩⟩⟩
theorem cLt_q {A : List Th} {L : List Int32} (hT : TF A) (hp : CPr A L h) (hi : IW h) (h43 : h 4 3 = 0) :
    (cLt A.length (2 * A.length) (8 + cntK 8 A) 30 0 (cBeg h) 1).1 = (aB A).1 ∧ ((aB A).1 = true → (cLt A.length (2 * A.length) (8 + cntK 8 A) 30 0 (cBeg h) 1).2.2 = (aB A).2.2.1 ∧ (cLt A.length (2 * A.length) (8 + cntK 8 A) 30 0 (cBeg h) 1).2.1 4 4 = nI (aB A).2.2.2.1 ∧ (cLt A.length (2 * A.length) (8 + cntK 8 A) 30 0 (cBeg h) 1).2.1 4 5 = nI (aB A).2.2.2.2.1 ∧ (cLt A.length (2 * A.length) (8 + cntK 8 A) 30 0 (cBeg h) 1).2.1 4 6 = (aB A).2.2.2.2.2) ∧ (∀ q, ¬ (q = 3 ∨ q = 4 ∨ (23 ≤ q ∧ q ≤ 32)) → (cLt A.length (2 * A.length) (8 + cntK 8 A) 30 0 (cBeg h) 1).2.1 q = h q) ∧ ∀ j, j ≠ 19 → (cLt A.length (2 * A.length) (8 + cntK 8 A) 30 0 (cBeg h) 1).2.1 3 j = h 3 j := by
  have bq : ∀ q, q ≠ 4 → q ≠ 31 → cBeg h q = h q := by
    intro q h1 h2
    unfold cBeg
    rw [hset_other h1, hset_other h1, hset_other h1, hset_other h1, hfill_o h2]
  have b4 : ∀ j, cBeg h 4 j = if j = 6 then 0 else if j = 5 then 0 else if j = 4 then 0 else if j = 2 then 1 else h 4 j := by
    intro j
    unfold cBeg
    rw [hset_at, hset_at, hset_at, hset_at, hfill_o (by decide)]
  have b31 : ∀ j, j < 120 → cBeg h 31 j = 0 := by
    intro j hj
    unfold cBeg
    rw [hset_other (by decide), hset_other (by decide), hset_other (by decide), hset_other (by decide)]
    exact hfill_at hj
  have := lt_ok hT 30 0 (cBeg h) (fun _ _ => false) 1 0 0 0 (CPr_cells hp (fun j _ => by rw [bq 3 (by decide) (by decide)]) (fun q h1 h2 => bq q (by omega) (by omega))) (IW_q hi (bq 64 (by decide) (by decide))) ⟨by rw [b4]; rfl, Nat.le_refl _, by decide, fun s hs => ⟨WRD_0 (fun w hw => b31 _ (by omega)), fun _ _ => rfl⟩⟩ (by rw [b4]; rfl) (by rw [b4]; rfl) (by rw [b4]; rfl)
  unfold aB
  refine ⟨this.1, this.2.1, fun q hq => ?_, fun j hj => ?_⟩
  · rw [this.2.2.1 q hq]; exact bq q (by omega) (by omega)
  · rw [this.2.2.2 j hj, bq 3 (by decide) (by decide)]
theorem cp_states (hd : 430 ≤ d) (hI : INV h) : Pair d 93 141 [] [] h := by
  have hI0 := hI
  obtain ⟨hX, hTl, hi, hp⟩ := hI
  rcases hp with hn | ⟨A, S, rg, hT, y2, y3, y4, y5, y6, y7, y8, y9, y10, y11⟩
  · have h05 := hn.1
    refine s_X4_states (n := 0) (sc := 0) (sg := 0) (by omega) (fun _ => ⟨⟨_, rfl⟩, s_X5_states_no (by omega) hn.2.1 ⟨rfl, hI0⟩⟩) (fun z => absurd h05 z) (fun z => absurd h05 z) (fun z => absurd h05 z)
  · have hA := hT.1
    have hw := CPr_WB hT y2
    have hm := aB_m (A := A)
    have h05 : ¬ h 0 5 = 0 := by
      rcases y7 with ⟨s1, -⟩ | ⟨s1, -⟩ | ⟨s1, -⟩ <;> rw [s1] <;> decide
    -- the reference, from a heap whose class cells alone have changed
    have mdl : ∀ (v : Int32) (g : mvH), (∀ q, ¬ (q = 3 ∨ q = 4 ∨ (23 ≤ q ∧ q ≤ 32)) → g q = h q) → (∀ j, j ≠ 19 → g 3 j = h 3 j) → ((aB A).1 = true → v = nI (aB A).2.2.1 ∧ g 4 3 = nI (aB A).2.2.1 ∧ g 4 4 = nI (aB A).2.2.2.1 ∧ g 4 5 = nI (aB A).2.2.2.2.1 ∧ g 4 6 = (aB A).2.2.2.2.2) → ((aB A).1 = false → v = -2 ∧ g 4 3 = -2 ∧ h 5 50 = 0 ∧ h 5 51 = 0 ∧ h 5 52 = 0) → (∃ w, some (Sum.inl v : mvV) = some (.inl w)) ∧ mvCal mvMT d 141 [.inr 5] g (fun r2 h2 => r2 = some (.inl v) ∧ INV h2) := by
      intro v g a1 a2 at1 af1
      refine ⟨⟨v, rfl⟩, ?_⟩
      have fin : ∀ h2, FrS g h2 → Srch A h2 → INV h2 := by
        intro h2 f hs
        have q1 : ∀ q, ¬ (q = 3 ∨ q = 4 ∨ (23 ≤ q ∧ q ≤ 32) ∨ q = 5 ∨ (53 ≤ q ∧ q ≤ 61) ∨ q = 63) → h2 q = h q := fun q hq => by rw [f.1 q (by omega)]; exact a1 q (by omega)
        have q5 : ∀ j, ¬ (j = 37 ∨ j = 38 ∨ j = 50 ∨ j = 51 ∨ j = 52) → h2 5 j = h 5 j := fun j hj => by rw [f.2 j hj, a1 5 (by decide)]
        refine ⟨Txt_q hX (by rw [q1 1 (by decide)]) (q5 1 (by decide)) (q1 7 (by decide)) (q1 33 (by decide)), ?_, IW_q hi (q1 64 (by decide)), Or.inr ⟨A, S, rg, hT, CPr_cells y2 (fun j hj => by rw [f.1 3 (by decide)]; exact a2 j hj) (fun q z1 z2 => q1 q (by omega)), MdCon_q y3 (fun q z1 z2 => q1 q (by omega)), by rw [q5 17 (by decide)]; exact y4, by rw [q5 25 (by decide)]; exact y5, by rw [q5 26 (by decide)]; exact y6, ?_, by unfold WRD; rw [q1 6 (by decide)]; exact y8, by rw [q1 62 (by decide)]; exact y9, y10, hs⟩⟩
        · unfold Tld
          rw [q1 0 (by decide), q5 48 (by decide), q5 45 (by decide), q5 46 (by decide), q5 47 (by decide)]
          exact hTl
        · unfold Stg
          rw [q1 0 (by decide), q5 42 (by decide), q5 43 (by decide), q5 44 (by decide)]
          exact y7
      refine s_X5_states (by omega) hT (MdCon_q y3 (fun q z1 z2 => a1 q (by omega))) (by rw [a1 5 (by decide)]; exact y4) (by rw [a1 5 (by decide)]; exact y5) (by rw [a1 5 (by decide), y6]; decide) ?_
      show HQs _ g (aB A)
      refine ⟨fun hb h2 f r50 r51 r52 => ?_, fun hb h2 f => ?_⟩
      · obtain ⟨b1, b2, b3, b4, b5⟩ := at1 hb
        refine ⟨by rw [b1], fin h2 f (Or.inr (Or.inl ⟨hb, ?_, ?_, ?_, ?_, r50, r51, r52⟩))⟩
        · rw [f.1 4 (by decide)]; exact b2
        · rw [f.1 4 (by decide)]; exact b3
        · rw [f.1 4 (by decide)]; exact b4
        · rw [f.1 4 (by decide)]; exact b5
      · obtain ⟨b1, b2, b3, b4, b5⟩ := af1 hb
        refine ⟨by rw [b1], fin h2 ⟨f.1, fun j hj => f.2 j (by omega)⟩ (Or.inr (Or.inr ⟨hb, ?_, ?_, ?_, ?_⟩))⟩
        · rw [f.1 4 (by decide)]; exact b2
        · rw [f.2 50 (by decide), a1 5 (by decide)]; exact b3
        · rw [f.2 51 (by decide), a1 5 (by decide)]; exact b4
        · rw [f.2 52 (by decide), a1 5 (by decide)]; exact b5
    refine s_X4_states (n := A.length) (sc := 2 * A.length) (sg := 8 + cntK 8 A) (by omega) (fun z => absurd z h05) (fun _ => hw) (fun _ hne => ?_) (fun _ hz => ?_)
    · refine mdl (h 4 3) h (fun _ _ => rfl) (fun _ _ => rfl) (fun hb => ?_) (fun hb => ?_)
      · rcases y11 with ⟨z, -⟩ | ⟨-, z1, z2, z3, z4, -⟩ | ⟨z, -⟩
        · exact absurd z hne
        · exact ⟨z1, z1, z2, z3, z4⟩
        · rw [hb] at z; cases z
      · rcases y11 with ⟨z, -⟩ | ⟨z, -⟩ | ⟨-, z1, z2, z3, z4⟩
        · exact absurd z hne
        · rw [hb] at z; cases z
        · exact ⟨z1, z1, z2, z3, z4⟩
    · have h5z : h 5 50 = 0 ∧ h 5 51 = 0 ∧ h 5 52 = 0 := by
        rcases y11 with ⟨-, z⟩ | ⟨-, z, -⟩ | ⟨-, z, -⟩
        · exact z
        · rw [hz] at z
          have := nI_inj (a := 0) (by decide) (by omega) z
          omega
        · rw [hz] at z; exact absurd z (by decide)
      obtain ⟨c1, c2, c3, c4⟩ := cLt_q hT y2 hi hz
      generalize cLt A.length (2 * A.length) (8 + cntK 8 A) 30 0 (cBeg h) 1 = C at *
      clear y11 hm
      generalize aB A = B at c1 c2 mdl
      obtain ⟨cb, cg, cm⟩ := C
      dsimp only at c1 c2 c3 c4 ⊢
      subst c1
      refine mdl _ _ (fun q hq => by rw [hset_other (by omega)]; exact c3 q hq) (fun j hj => by rw [hset_other (by decide)]; exact c4 j hj) (fun hb => ?_) (fun hb => ?_)
      · obtain ⟨d1, d2, d3, d4⟩ := c2 hb
        rw [if_pos hb, hset_at, if_pos rfl, hset_at, if_neg (by decide), hset_at, if_neg (by decide), hset_at, if_neg (by decide), d1]
        exact ⟨rfl, rfl, d2, d3, d4⟩
      · rw [if_neg (by rw [hb]; decide), hset_at, if_pos rfl]
        exact ⟨rfl, rfl, h5z⟩
end CS3
