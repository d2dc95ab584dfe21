/-! SEARCH.lookThrough; WIRES.layOut; TREE.refusalOf -/
section S3
variable {d : Nat} {h : mvH} {Q : Option mvV → mvH → Prop}
theorem cTal_o {dec en : Int32} {q : Nat} (hq : q ≠ 4) : cTal h dec en q = h q := by
  unfold cTal
  rw [hset_other hq, hset_other hq, hset_other hq]
theorem cTal_42 {dec en : Int32} : cTal h dec en 4 2 = h 4 2 := by
  unfold cTal
  rw [hset_at, if_neg (by decide), hset_at, if_neg (by decide), hset_at, if_neg (by decide)]
set_option maxHeartbeats 4000000 in
theorem s_X1_lookThrough (hd : 7 ≤ d) {n sc sg : Nat} (hw : WB h n sc sg) (h4 : 4 ≤ sg) (hold : ¬ h 4 3 = 0 → Q (some (.inl (h 4 3))) h) (hnew : h 4 3 = 0 → Q (some (.inl (if (cLt n sc sg 30 0 (cBeg h) 1).1 = true then nI (cLt n sc sg 30 0 (cBeg h) 1).2.2 else -2))) (hset (cLt n sc sg 30 0 (cBeg h) 1).2.1 4 3 (if (cLt n sc sg 30 0 (cBeg h) 1).1 = true then nI (cLt n sc sg 30 0 (cBeg h) 1).2.2 else -2))) : mvCal mvMT d 7 [.inr 4, .inr 3] h Q := by
  obtain ⟨d, rfl⟩ := d_pos hd (by decide)
  refine ⟨⟨rfl, by decide, rfl⟩, Nat.le_of_ble_eq_true rfl, fun K hK => hK _ _ _ _ ⟨fun e => ?_, fun e => ⟨trivial, hold e⟩⟩⟩
  have hQ := hnew e
  refine hK _ _ _ _ ?_
  refine s_X1_begin (by omega) ?_
  have bq : ∀ q, q ≠ 4 → q ≠ 31 → cBeg h q = h q := by
    intro q h1 h2
    unfold cBeg
    rw [hset_other h1, hset_other h1, hset_other h1, hset_other h1]
    simp [hfill, h2]
  have hw0 : WB (cBeg h) n sc sg := WB_cells (bq 3 (by decide) (by decide)) (bq 17 (by decide) (by decide)) (bq 21 (by decide) (by decide)) hw
  have hm0 : cBeg h 4 2 = nI 1 := by
    unfold cBeg
    rw [hset_at, if_neg (by decide), hset_at, if_neg (by decide), hset_at, if_neg (by decide), hset_at, if_pos rfl]
    decide
  have e120 : ∀ g v z z2 z3 z4, Q (some (.inl v)) (hset g 4 3 v) → K 120 [some (.inr 4), some (.inr 3), z, z2, z3, z4] [.inl v, .inr 4] g := by
    intro g v z z2 z3 z4 hq
    refine hK _ _ _ _ ⟨trivial, ?_⟩
    refine mvq hq ?_
    rw [hset_at, if_pos rfl]
  have no : ∀ g z2 z3 z4, Q (some (.inl (-2))) (hset g 4 3 (-2)) → K 20 [some (.inr 4), some (.inr 3), some (.inl 0), z2, z3, z4] [] g := by
    intro g z2 z3 z4 hq
    refine hK _ _ _ _ ⟨fun _ => ?_, fun z => absurd rfl z⟩
    refine hK _ _ _ _ ⟨fun _ => ?_, fun z => absurd rfl z⟩
    refine hK _ _ _ _ ?_
    exact e120 _ _ _ _ _ _ hq
  have yes : ∀ g m z2 z3 z4, g 4 2 = nI m → Q (some (.inl (nI m))) (hset g 4 3 (nI m)) → K 106 [some (.inr 4), some (.inr 3), some (.inl 1), z2, z3, z4] [] g := by
    intro g m z2 z3 z4 hm hq
    refine hK _ _ _ _ ⟨fun z => absurd z (by decide), fun _ => ?_⟩
    conv => whnf
    rw [hm]
    exact e120 _ _ _ _ _ _ hq
  have loop : ∀ k i g m, i + k = 30 → WB g n sc sg → g 4 2 = nI m → m ≤ 30 → Q (some (.inl (if (cLt n sc sg k i g m).1 = true then nI (cLt n sc sg k i g m).2.2 else -2))) (hset (cLt n sc sg k i g m).2.1 4 3 (if (cLt n sc sg k i g m).1 = true then nI (cLt n sc sg k i g m).2.2 else -2)) → ∀ z3 z4, K 20 [some (.inr 4), some (.inr 3), some (.inl 1), some (.inl (nI i)), z3, z4] [] g := by
    intro k
    induction k with
    | zero =>
      intro i g m hi hg hm hm2 hq z3 z4
      obtain rfl : i = 30 := by omega
      have hq2 : Q (some (.inl (nI m))) (hset g 4 3 (nI m)) := by
        have : (cLt n sc sg 0 30 g m).1 = true := rfl
        rw [if_pos this] at hq
        exact hq
      refine hK _ _ _ _ ⟨fun z => absurd z (by decide), fun _ => ⟨fun _ => yes g m _ _ _ hm hq2, fun _ => ⟨fun _ => yes g m _ _ _ hm hq2, fun z => absurd (by decide) z⟩⟩⟩
    | succ k ih =>
      intro i g m hi hg hm hm2 hq z3 z4
      by_cases him : i < m
      · have e1 : cLt n sc sg (k + 1) i g m = (match cRf n (cSl2 g i n sc sg) 16 (cSt g i n sc sg) m with
            | (false, g', m') => (false, g', m')
            | (true, g', m') => cLt n sc sg k (i + 1) g' m') := by
          show (if i < m then _ else _) = _
          rw [if_pos him]
          rfl
        refine hK _ _ _ _ ⟨fun z => absurd z (by decide), fun _ => ⟨fun z => absurd z (by rw [hm]; exact nI_ge him (by omega)), fun _ => ⟨fun z => absurd z (nI_ge (b := 30) (by omega) (by decide)), fun _ => ?_⟩⟩⟩
        have hf : frI g (cRun g 31 (nI (i * 4)) (if 0 < i then 1 else 0) n sc sg) := cRun_fr
        have hw1 := frI_WB hf hg
        have e55 : ∀ v, v = (if 0 < i then (1 : Int32) else 0) → K 55 [some (.inr 4), some (.inr 3), some (.inl 1), some (.inl (nI i)), z3, z4] [.inl v, .inl (nI (i * 4)), .inr 31, .inr 3] g := by
          intro v hv
          subst hv
          refine hK _ _ _ _ ?_
          refine s_X3_runInstant (by omega) 31 (by decide) _ _ hg h4 ?_
          have hst : ∀ g1, g1 = cRun g 31 (nI (i * 4)) (if 0 < i then 1 else 0) n sc sg → cTal g1 (cDec g1 n sg) (cEl g1 &&& cDec g1 n sg) = cSt g i n sc sg ∧ cDec g1 n sg &&& ((cEl g1 &&& cDec g1 n sg) ^^^ (-1)) = cSl2 g i n sc sg := by
            intro g1 hg1
            subst hg1
            exact ⟨rfl, rfl⟩
          generalize hg1 : cRun g 31 (nI (i * 4)) (if 0 < i then 1 else 0) n sc sg = g1 at hf hw1
          obtain ⟨hs1, hs2⟩ := hst g1 hg1.symm
          refine s_X3_undecidedLanes (by omega) hw1 ?_
          refine s_X3_endedLanes (by omega) ?_
          refine s_X1_addToTallies (by omega) _ _ ?_
          have hs1' : cTal g1 ((cUnS g1 (cUnd g1 n) sg ^^^ -1) &&& 65535) ((if g1 3 7 = 0 then 0 else cEnd g1 0 0 &&& 65535) &&& ((cUnS g1 (cUnd g1 n) sg ^^^ -1) &&& 65535)) = cSt g i n sc sg := hs1
          have hs2' : ((cUnS g1 (cUnd g1 n) sg ^^^ -1) &&& 65535) &&& (((if g1 3 7 = 0 then 0 else cEnd g1 0 0 &&& 65535) &&& ((cUnS g1 (cUnd g1 n) sg ^^^ -1) &&& 65535)) ^^^ (-1)) = cSl2 g i n sc sg := hs2
          rw [hs1']
          conv => whnf
          rw [hs2']
          have t4 : cSt g i n sc sg 4 2 = nI m := by rw [← hs1, cTal_42, hf.1 4 (by decide)]; exact hm
          have t3 : cSt g i n sc sg 3 = g1 3 := by rw [← hs1, cTal_o (by decide)]
          have t17 : cSt g i n sc sg 17 = g1 17 := by rw [← hs1, cTal_o (by decide)]
          have t21 : cSt g i n sc sg 21 = g1 21 := by rw [← hs1, cTal_o (by decide)]
          have hw2 : WB (cSt g i n sc sg) n sc sg := WB_cells t3 t17 t21 hw1
          have hinv := cRf_inv (n := n) (ls := cSl2 g i n sc sg) 16 m t4 hm2
          refine s_X1_reachFrom (by omega) _ t4 hm2 (by rw [t3]; exact hw1.1) hw1.2.1 (fun j hj hfl => ?_) (fun htr => ?_)
          · have hstop := cRf_stop (16 - j) j hfl
            rw [show j + (16 - j) = 16 by omega] at hstop
            have e2 : cLt n sc sg (k + 1) i g m = cRf n (cSl2 g i n sc sg) j (cSt g i n sc sg) m := by
              rw [e1, hstop]
              generalize cRf n (cSl2 g i n sc sg) j (cSt g i n sc sg) m = R at hfl
              obtain ⟨b, g', m'⟩ := R
              dsimp only at hfl
              subst hfl
              rfl
            rw [e2, if_neg (by rw [hfl]; decide)] at hq
            exact no _ _ _ _ hq
          · generalize hR : cRf n (cSl2 g i n sc sg) 16 (cSt g i n sc sg) m = R at htr hinv e1
            obtain ⟨b, g', m'⟩ := R
            dsimp only at htr
            subst htr
            dsimp only at e1 hinv
            rw [e1] at hq
            obtain ⟨j1, j2, j3, j4, j5⟩ := hinv
            have h1 := ih (i + 1) g' m' (by omega) (WB_cells (j1 3 (by decide)) (j1 17 (by decide)) (j1 21 (by decide)) hw2) j2 j3 hq
            rw [← nI_1] at h1
            exact h1 _ _
        refine ⟨fun z => ?_, fun z => ?_⟩
        · have hi0 : ¬ 0 < i := fun w => nI_nle w (by omega) z
          refine hK _ _ _ _ ?_
          conv => whnf
          rw [nI_m4]
          exact e55 _ (by rw [if_neg hi0])
        · have hi0 : 0 < i := by
            rcases Nat.eq_zero_or_pos i with w | w
            · exact absurd (by rw [w]; decide) z
            · exact w
          conv => whnf
          rw [nI_m4]
          exact e55 _ (by rw [if_pos hi0])
      · have e1 : cLt n sc sg (k + 1) i g m = (true, g, m) := by
          show (if i < m then _ else _) = _
          rw [if_neg him]
        rw [e1, if_pos rfl] at hq
        refine hK _ _ _ _ ⟨fun z => absurd z (by decide), fun _ => ⟨fun _ => yes g m _ _ _ hm hq, fun z => absurd (by rw [hm]; exact nI_le (by omega) (by omega)) z⟩⟩
  exact loop 30 0 (cBeg h) 1 (by omega) hw0 hm0 (by omega) hQ _ _
end S3
