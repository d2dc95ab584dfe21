/-! THE REFERENCE: join, begin, behind -/
section M6
variable {d : Nat} {tx : Nat → Int32} {n : Nat}
set_option maxHeartbeats 4000000 in
theorem s_X5_join {Q : Option mvV → mvH → Prop} (hd : 4 ≤ d) (all : Bool) {as : Int32} : ∀ (O : List (Int32 × Int32)) (a : Nat) (R : List Nat) (N : List Nd) (g : mvH), MdOK g tx n O (a :: R) N as → R.length = cntB O → N.length + O.length < 128 → O.length ≤ 78 → R.length < 79 → (∀ g', frM g g' → MdOK g' tx n (joinS all O (a :: R) N).1 (joinS all O (a :: R) N).2.1 (joinS all O (a :: R) N).2.2 as → Q none g') → mvCal mvMT d 113 [.inr 5, .inl (if all = true then 1 else 0)] g Q := by
  obtain ⟨d, rfl⟩ := d_pos hd (by decide)
  intro O a R N g hm hfit hb1 hb2 hb3 hQ
  refine ⟨⟨rfl, by cases all <;> decide, rfl⟩, Nat.le_of_ble_eq_true rfl, fun K hK => ?_⟩
  have loop : ∀ (O : List (Int32 × Int32)) (a : Nat) (R : List Nat) (N : List Nd) (g : mvH), MdOK g tx n O (a :: R) N as → R.length = cntB O → N.length + O.length < 128 → O.length ≤ 78 → R.length < 79 → (∀ g', frM g g' → MdOK g' tx n (joinS all O (a :: R) N).1 (joinS all O (a :: R) N).2.1 (joinS all O (a :: R) N).2.2 as → Q none g') → ∀ z2 z3, K 0 [some (.inr 5), some (.inl (if all = true then 1 else 0)), z2, z3] [] g := by
    intro O
    induction O with
    | nil =>
      intro a R N g hm hf h1 h2 h3 hQ z2 z3
      refine hK _ _ _ _ ?_
      refine s_X5_top (by omega) hm.2.2.1 (by omega) ?_
      refine ⟨fun e => absurd e (by decide), fun _ => ⟨fun e => ?_, fun e => ?_⟩⟩
      · exact hK _ _ _ _ (hQ g frM.rfl hm)
      · refine s_X5_top (by omega) hm.2.2.1 (by omega) ?_
        refine ⟨fun _ => ?_, fun e => absurd e (by decide)⟩
        exact hK _ _ _ _ (hQ g frM.rfl hm)
    | cons x O ih =>
      intro a R N g hm hf h1 h2 h3 hQ z2 z3
      obtain ⟨c, l⟩ := x
      simp only [List.length_cons] at h1 h2
      rw [cntB_cons] at hf
      dsimp only at hf
      have hso := hm.2.2.1
      have hmem := hm.2.2.2.2.2.2.2.2.2.2
      have haN : a < N.length := hmem a (by simp)
      obtain ⟨hp, hp40, hp41⟩ := MdOK_pop hm
      have fpop : frM g (hset g 5 9 (nI O.length)) := frM_5 (by decide)
      have epred : nI ((c, l) :: O).length - 1 = nI O.length := nI_pred O.length
      have htop : topO ((c, l) :: O) = c := rfl
      have stop : ¬ (c = 124 ∨ (all = true ∧ c = 59)) → K 77 [some (.inr 5), some (.inl (if all = true then 1 else 0)), z2, z3] [] g := by
        intro e
        have : joinS all ((c, l) :: O) (a :: R) N = ((c, l) :: O, a :: R, N) := by
          unfold joinS
          rw [if_neg e]
        rw [this] at hQ
        exact hK _ _ _ _ (hQ g frM.rfl hm)
      have go : (c = 124 ∨ (all = true ∧ c = 59)) → K 22 [some (.inr 5), some (.inl (if all = true then 1 else 0)), z2, z3] [] g := by
        intro e
        have hcB : c = 58 ∨ c = 124 ∨ c = 59 := Or.inr (e.imp id (fun z => z.2))
        rw [if_pos hcB] at hf
        refine hK _ _ _ _ ?_
        conv => whnf
        rw [hso.1, epred]
        match R, hf, hp, hmem, h3, hQ with
        | a2 :: R', hf, hp, hmem, h3, hQ =>
          simp only [List.length_cons] at hf h3
          refine s_X5_take (by omega) hp.2.2.2.1 (by simp only [List.length_cons]; omega) ?_
          have hm1 := MdOK_take hp
          refine s_X5_take (by omega) hm1.2.2.2.1 (by omega) ?_
          have hm2 := MdOK_take hm1
          have f2 : frM g (hset (hset (hset g 5 9 (nI O.length)) 5 12 (nI (a2 :: R').length)) 5 12 (nI R'.length)) := (fpop.trans (frM_5 (by decide))).trans (frM_5 (by decide))
          have g59 : (hset (hset (hset g 5 9 (nI O.length)) 5 12 (nI (a2 :: R').length)) 5 12 (nI R'.length)) 5 9 = nI O.length := by rw [hset_at, if_neg (by decide), hset_at, if_neg (by decide), hset_at, if_pos rfl]
          have g40 : (hset (hset (hset g 5 9 (nI O.length)) 5 12 (nI (a2 :: R').length)) 5 12 (nI R'.length)) 40 O.length = c := by rw [hset_other (by decide), hset_other (by decide)]; exact hp40
          generalize hset (hset (hset g 5 9 (nI O.length)) 5 12 (nI (a2 :: R').length)) 5 12 (nI R'.length) = g2 at *
          refine ⟨by rw [g59]; exact vp_in_nI (by omega) (by decide), ?_⟩
          rw [g59, nI_clamp (by omega), g40]
          have fin : ∀ kk : Int32, kk = (if c = 124 then 10 else 9) → K 65 [some (.inr 5), some (.inl (if all = true then 1 else 0)), some (.inl (nI a)), some (.inl (nI a2))] [.inl kk, .inr 5, .inr 5] g2 := by
            intro kk hkk
            have ha2 := hmem a2 (by simp)
            obtain ⟨n1, n2, n3⟩ := node_md hm2 (by omega) (k := kk) (c := 0) (a := nI a2) (b := nI a) (Or.inr ⟨a2, ha2, rfl⟩) (Or.inr ⟨a, haN, rfl⟩) (fun _ => nI_nm1 (by omega))
            refine hK _ _ _ _ ?_
            refine s_X5_node (by omega) _ _ _ _ hm2.2.2.2.2.1.1 (by omega) (Or.inr ⟨a2, ha2, rfl⟩) (Or.inr ⟨a, haN, rfl⟩) ?_
            refine s_X5_give (by omega) n1 (by omega) ?_
            have hj : joinS all ((c, l) :: O) (a :: a2 :: R') N = joinS all O (N.length :: R') (N ++ [(kk, 0, nI a2, nI a)]) := by
              rw [joinS, if_pos e, hkk]
            rw [hj] at hQ
            exact ih N.length R' (N ++ [(kk, 0, nI a2, nI a)]) _ n2 (by omega) (by simp only [List.length_append, List.length_cons, List.length_nil]; omega) (by omega) (by omega) (fun g' f' m' => hQ g' ((f2.trans n3).trans f') m') _ _
          refine ⟨fun e2 => ?_, fun e2 => ?_⟩
          · refine hK _ _ _ _ ?_
            exact fin 9 (by rw [if_neg e2])
          · exact fin 10 (by rw [if_pos e2])
      refine hK _ _ _ _ ?_
      refine s_X5_top (by omega) hso (by simp only [List.length_cons]; omega) ?_
      rw [htop]
      refine ⟨fun e => go (Or.inl e), fun e => ⟨fun e2 => ?_, fun e2 => ?_⟩⟩
      · refine stop (fun z => z.elim e (fun w => ?_))
        rw [if_pos w.1] at e2
        exact absurd e2 (by decide)
      · refine s_X5_top (by omega) hso (by simp only [List.length_cons]; omega) ?_
        rw [htop]
        refine ⟨fun e3 => ?_, fun e3 => ?_⟩
        · exact stop (fun z => z.elim e (fun w => e3 w.2))
        · refine go (Or.inr ⟨?_, e3⟩)
          cases all
          · exact absurd rfl e2
          · rfl
  exact loop O a R N g hm hfit hb1 hb2 hb3 hQ _ _
end M6
