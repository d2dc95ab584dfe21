/-! THE REFERENCE: close and join -/
theorem MdOK_pop {g : mvH} {tx : Nat → Int32} {n : Nat} {x : Int32 × Int32} {O : List (Int32 × Int32)} {R : List Nat} {N : List Nd} {as : Int32} (hm : MdOK g tx n (x :: O) R N as) : MdOK (hset g 5 9 (nI O.length)) tx n O R N as ∧ (hset g 5 9 (nI O.length)) 40 O.length = x.1 ∧ (hset g 5 9 (nI O.length)) 41 O.length = x.2 := by
  obtain ⟨m1, m2, m3, m4, m5, m6, m7, m8, m9, m10, m11⟩ := hm
  have q : ∀ q', q' ≠ 5 → (hset g 5 9 (nI O.length)) q' = g q' := fun q' hq => hset_other hq
  have q5 : ∀ j, j ≠ 9 → (hset g 5 9 (nI O.length)) 5 j = g 5 j := fun j hj => by rw [hset_at, if_neg hj]
  have h0 := m3.2 0 x (by simp)
  rw [show (x :: O).length - 1 - 0 = O.length by simp] at h0
  refine ⟨⟨by rw [q5 1 (by decide)]; exact m1, by rw [q 33 (by decide)]; exact m2, ⟨by rw [hset_at, if_pos rfl], fun j y hy => ?_⟩, ⟨by rw [q5 12 (by decide)]; exact m4.1, by rw [q 42 (by decide)]; exact m4.2⟩, ⟨by rw [q5 2 (by decide)]; exact m5.1, by rw [q 34 (by decide), q 35 (by decide), q 36 (by decide), q 37 (by decide), q 38 (by decide), q 39 (by decide)]; exact m5.2⟩, ?_, m7, by rw [q5 14 (by decide)]; exact m8, by rw [q5 15 (by decide)]; exact m9, m10, m11⟩, by rw [q 40 (by decide)]; exact h0.1, by rw [q 41 (by decide)]; exact h0.2⟩
  · have hj := (List.getElem?_eq_some_iff.mp hy).1
    have := m3.2 (j + 1) y (by simpa using hy)
    rw [show (x :: O).length - 1 - (j + 1) = O.length - 1 - j by simp; omega] at this
    rw [q 40 (by decide), q 41 (by decide)]
    exact this
  · unfold mUns
    rw [q5 16 (by decide), q 38 (by decide)]
    exact m6
theorem MdOK_take {g : mvH} {tx : Nat → Int32} {n : Nat} {O : List (Int32 × Int32)} {a : Nat} {R : List Nat} {N : List Nd} {as : Int32} (hm : MdOK g tx n O (a :: R) N as) : MdOK (hset g 5 12 (nI R.length)) tx n O R N as := by
  obtain ⟨m1, m2, m3, m4, m5, m6, m7, m8, m9, m10, m11⟩ := hm
  have q : ∀ q', q' ≠ 5 → (hset g 5 12 (nI R.length)) q' = g q' := fun q' hq => hset_other hq
  have q5 : ∀ j, j ≠ 12 → (hset g 5 12 (nI R.length)) 5 j = g 5 j := fun j hj => by rw [hset_at, if_neg hj]
  refine ⟨by rw [q5 1 (by decide)]; exact m1, by rw [q 33 (by decide)]; exact m2, ⟨by rw [q5 9 (by decide)]; exact m3.1, by rw [q 40 (by decide), q 41 (by decide)]; exact m3.2⟩, stkR_take m4, ⟨by rw [q5 2 (by decide)]; exact m5.1, by rw [q 34 (by decide), q 35 (by decide), q 36 (by decide), q 37 (by decide), q 38 (by decide), q 39 (by decide)]; exact m5.2⟩, ?_, m7, by rw [q5 14 (by decide)]; exact m8, by rw [q5 15 (by decide)]; exact m9, m10, fun x hx => m11 x (List.mem_cons_of_mem _ hx)⟩
  unfold mUns
  rw [q5 16 (by decide), q 38 (by decide)]
  exact m6
section M5
variable {d : Nat} {tx : Nat → Int32} {n : Nat}
theorem cntB_cons {x : Int32 × Int32} {O : List (Int32 × Int32)} : cntB (x :: O) = cntB O + (if x.1 = 58 ∨ x.1 = 124 ∨ x.1 = 59 then 1 else 0) := by
  unfold cntB
  rw [List.countP_cons]
  by_cases h : x.1 = 58 ∨ x.1 = 124 ∨ x.1 = 59
  · simp [h]
  · simp [h]
set_option maxHeartbeats 4000000 in
theorem s_X5_close {g : mvH} {Q : Option mvV → mvH → Prop} (hd : 4 ≤ d) {O : List (Int32 × Int32)} {a : Nat} {R : List Nat} {N : List Nd} {as : Int32} (hm : MdOK g tx n O (a :: R) N as) (hfit : R.length = cntB O) (hb1 : N.length + O.length < 128) (hb2 : O.length ≤ 78) (hb3 : R.length < 79) (hQ : ∀ g', frM g g' → MdOK g' tx n (closeS O (a :: R) N).1 (closeS O (a :: R) N).2.1 (closeS O (a :: R) N).2.2 as → Q none g') : mvCal mvMT d 112 [.inr 5] g Q := by
  obtain ⟨d, rfl⟩ := d_pos hd (by decide)
  refine ⟨⟨rfl, by decide, rfl⟩, Nat.le_of_ble_eq_true rfl, fun K hK => hK _ _ _ _ ?_⟩
  have loop : ∀ (O : List (Int32 × Int32)) (a : Nat) (R : List Nat) (N : List Nd) (g : mvH), MdOK g tx n O (a :: R) N as → R.length = cntB O → N.length + O.length < 128 → O.length ≤ 78 → R.length < 79 → (∀ g', frM g g' → MdOK g' tx n (closeS O (a :: R) N).1 (closeS O (a :: R) N).2.1 (closeS O (a :: R) N).2.2 as → Q none g') → ∀ z2 z3 z4, K 2 [some (.inr 5), some (.inl 1), z2, z3, z4] [] g := by
    intro O
    induction O with
    | nil =>
      intro a R N g hm hf h1 h2 h3 hQ z2 z3 z4
      have h59 : g 5 9 = 0 := hm.2.2.1.1
      refine hK _ _ _ _ ⟨fun e => absurd e (by decide), fun _ => ⟨fun _ => ?_, fun e => absurd (by rw [h59]; decide) e⟩⟩
      exact hK _ _ _ _ (hQ g frM.rfl hm)
    | cons x O ih =>
      intro a R N g hm hf h1 h2 h3 hQ z2 z3 z4
      obtain ⟨c, l⟩ := x
      simp only [List.length_cons] at h1 h2
      rw [cntB_cons] at hf
      dsimp only at hf
      have hso := hm.2.2.1
      have hmem := hm.2.2.2.2.2.2.2.2.2.2
      have haN : a < N.length := hmem a (by simp)
      have hne : ¬ g 5 9 ≤ 0 := by rw [hso.1]; exact nI_nle (by simp) (by simp only [List.length_cons]; omega)
      refine hK _ _ _ _ ⟨fun e => absurd e (by decide), fun _ => ⟨fun e => absurd e hne, fun _ => ?_⟩⟩
      refine s_X5_top (by omega) hso (by simp only [List.length_cons]; omega) ?_
      have htop : topO ((c, l) :: O) = c := rfl
      rw [htop]
      -- going on, or not
      have stop : ¬ (c = 38 ∨ c = 42 ∨ c = 92) → ¬ c = 58 → ∀ z1 z3 z4, K 47 [some (.inr 5), z1, some (.inl c), z3, z4] [.inl 0] g := by
        intro e1 e2 z1 z3 z4
        refine hK _ _ _ _ ⟨fun _ => ?_, fun e => absurd rfl e⟩
        refine hK _ _ _ _ ?_
        refine hK _ _ _ _ ⟨fun _ => ?_, fun e => absurd rfl e⟩
        have : closeS ((c, l) :: O) (a :: R) N = ((c, l) :: O, a :: R, N) := by
          unfold closeS
          rw [if_neg e1, if_neg e2]
        rw [this] at hQ
        exact hK _ _ _ _ (hQ g frM.rfl hm)
      obtain ⟨hp, hp40, hp41⟩ := MdOK_pop hm
      have fpop : frM g (hset g 5 9 (nI O.length)) := frM_5 (by decide)
      have epred : nI ((c, l) :: O).length - 1 = nI O.length := nI_pred O.length
      -- the node
      have node : ∀ (g1 : mvH) (kk : Int32) (a1 : Nat) (bb : Int32) (R1 : List Nat), MdOK g1 tx n O R1 N as → frM g g1 → g1 5 9 = nI O.length → g1 41 O.length = l → a1 < N.length → (bb = -1 ∨ ∃ j, j < N.length ∧ bb = nI j) → R1.length = cntB O → R1.length < 79 → closeS ((c, l) :: O) (a :: R) N = closeS O (N.length :: R1) (N ++ [(kk, l, nI a1, bb)]) → K 118 [some (.inr 5), some (.inl 1), some (.inl c), some (.inl bb), some (.inl (nI a1))] [.inl kk, .inr 5, .inr 5] g1 := by
        intro g1 kk a1 bb R1 hm1 hf1 h59 h41 ha1 hbb hfit1 hl1 hcl
        rw [hcl] at hQ
        obtain ⟨n1, n2, n3⟩ := node_md hm1 (by omega) (k := kk) (c := l) (a := nI a1) (b := bb) (Or.inr ⟨a1, ha1, rfl⟩) hbb (fun _ => nI_nm1 (by omega))
        refine hK _ _ _ _ ⟨by rw [h59]; exact vp_in_nI (by omega) (by decide), ?_⟩
        rw [h59, nI_clamp (by omega), h41]
        refine s_X5_node (by omega) _ _ _ _ hm1.2.2.2.2.1.1 (by omega) (Or.inr ⟨a1, ha1, rfl⟩) (hbb.imp (fun z => by rw [z]; decide) id) ?_
        refine s_X5_give (by omega) n1 (by omega) ?_
        refine hK _ _ _ _ ?_
        refine ih N.length R1 (N ++ [(kk, l, nI a1, bb)]) _ n2 hfit1 (by simp only [List.length_append, List.length_cons, List.length_nil]; omega) (by omega) hl1 (fun g' f' m' => hQ g' ((hf1.trans n3).trans f') m') _ _ _
      have kind : ∀ g1 bb a1, (c = 38 ∨ c = 42 ∨ c = 58 ∨ c = 92) → (K 118 [some (.inr 5), some (.inl 1), some (.inl c), some (.inl bb), some (.inl (nI a1))] [.inl (clK c), .inr 5, .inr 5] g1) → mvRun (mvCal mvMT d) Q K (mvlook C_X5_close 76) [some (.inr 5), some (.inl 1), some (.inl c), some (.inl bb), some (.inl (nI a1))] [] g1 → True := fun _ _ _ _ _ _ => trivial
      have pick : ∀ g1 bb a1, (c = 38 ∨ c = 42 ∨ c = 58 ∨ c = 92) → K 118 [some (.inr 5), some (.inl 1), some (.inl c), some (.inl bb), some (.inl (nI a1))] [.inl (clK c), .inr 5, .inr 5] g1 → ((¬ c = 38 → K 95 [some (.inr 5), some (.inl 1), some (.inl c), some (.inl bb), some (.inl (nI a1))] [.inr 5, .inr 5] g1) ∧ (c = 38 → K 118 [some (.inr 5), some (.inl 1), some (.inl c), some (.inl bb), some (.inl (nI a1))] [.inl 5, .inr 5, .inr 5] g1)) := by
        intro g1 bb a1 hc hk
        constructor
        · intro e38
          refine hK _ _ _ _ ⟨fun e42 => ?_, fun e42 => ?_⟩
          · refine hK _ _ _ _ ⟨fun e58 => ?_, fun e58 => ?_⟩
            · refine hK _ _ _ _ ?_
              have : clK c = 8 := by unfold clK; rw [if_neg e38, if_neg e42, if_neg e58]
              rw [this] at hk
              exact hk
            · have : clK c = 4 := by unfold clK; rw [if_neg e38, if_neg e42, if_pos e58]
              rw [this] at hk
              exact hk
          · have : clK c = 6 := by unfold clK; rw [if_neg e38, if_pos e42]
            rw [this] at hk
            exact hk
        · intro e38
          have : clK c = 5 := by unfold clK; rw [if_pos e38]
          rw [this] at hk
          exact hk
      have go : (c = 38 ∨ c = 42 ∨ c = 92) ∨ c = 58 → ∀ z1 z3 z4, K 47 [some (.inr 5), z1, some (.inl c), z3, z4] [.inl 1] g := by
        intro hc z1 z3 z4
        refine hK _ _ _ _ ⟨fun e => absurd e (by decide), fun _ => ?_⟩
        conv => whnf
        rw [hso.1, epred]
        refine ⟨fun e58 => ?_, fun e58 => ?_⟩
        · have hc3 : c = 38 ∨ c = 42 ∨ c = 92 := hc.resolve_right e58
          have hnB : ¬ (c = 58 ∨ c = 124 ∨ c = 59) := by rcases hc3 with z | z | z <;> rw [z] <;> decide
          rw [if_neg hnB, Nat.add_zero] at hf
          refine hK _ _ _ _ ?_
          refine hK _ _ _ _ ?_
          refine s_X5_take (by omega) hp.2.2.2.1 (by omega) ?_
          have hm1 := MdOK_take hp
          refine pick _ (-1) a (by rcases hc3 with z | z | z; exact Or.inl z; exact Or.inr (Or.inl z); exact Or.inr (Or.inr (Or.inr z))) ?_
          refine node _ (clK c) a (-1) R hm1 (fpop.trans (frM_5 (by decide))) (by rw [hset_at, if_neg (by decide), hset_at, if_pos rfl]) (by rw [hset_other (by decide)]; exact hp41) haN (Or.inl rfl) hf (by omega) ?_
          show closeS ((c, l) :: O) (a :: R) N = _
          rw [closeS, if_pos hc3]
        · rw [if_pos (Or.inl e58)] at hf
          match R, hf, hp, hmem, h3 with
          | a2 :: R', hf, hp, hmem, h3 =>
            simp only [List.length_cons] at hf h3
            refine s_X5_take (by omega) hp.2.2.2.1 (by simp only [List.length_cons]; omega) ?_
            have hm1 := MdOK_take hp
            refine hK _ _ _ _ ?_
            refine s_X5_take (by omega) hm1.2.2.2.1 (by omega) ?_
            have hm2 := MdOK_take hm1
            refine pick _ (nI a) a2 (Or.inr (Or.inr (Or.inl e58))) ?_
            refine node _ (clK c) a2 (nI a) R' hm2 ((fpop.trans (frM_5 (by decide))).trans (frM_5 (by decide))) (by rw [hset_at, if_neg (by decide), hset_at, if_neg (by decide), hset_at, if_pos rfl]) (by rw [hset_other (by decide), hset_other (by decide)]; exact hp41) (hmem a2 (by simp)) (Or.inr ⟨a, haN, rfl⟩) (by omega) (by omega) ?_
            have h3c : ¬ (c = 38 ∨ c = 42 ∨ c = 92) := by rw [e58]; decide
            have hk4 : clK c = 4 := by rw [e58]; decide
            show closeS ((c, l) :: O) (a :: a2 :: R') N = _
            rw [closeS, if_neg h3c, if_pos e58, hk4]
      refine ⟨fun e => ?_, fun e38 => ⟨fun e => ?_, fun e42 => ⟨fun e => ?_, fun e92 => ⟨fun e => ?_, fun e => ?_⟩⟩⟩⟩
      · refine hK _ _ _ _ ?_
        exact go (Or.inl (Or.inl e)) _ _ _
      · refine hK _ _ _ _ ?_
        exact go (Or.inl (Or.inr (Or.inl e))) _ _ _
      · refine hK _ _ _ _ ?_
        exact go (Or.inl (Or.inr (Or.inr e))) _ _ _
      · refine hK _ _ _ _ ?_
        exact stop (fun z => z.elim e38 (fun z => z.elim e42 e92)) e _ _ _
      · refine hK _ _ _ _ ?_
        exact go (Or.inr e) _ _ _
  exact loop O a R N g hm hfit hb1 hb2 hb3 hQ _ _ _
end M5
