/-! WIRES.lay -/
section L3
variable {d : Nat} {h : mvH} {Q : Option mvV → mvH → Prop}
theorem s_X3_newMark (hd : 2 ≤ d) {i : Nat} (hi : i < 60) (h1 : h 8 i = 1 → Q (some (.inl (h 3 9))) (hset h 3 9 (h 3 9 + 1))) (h2 : (h 8 i = 2 ∨ h 8 i = 4 ∨ h 8 i = 5) → Q (some (.inl (cWo h (h 9 i)))) h) (h3 : ¬ (h 8 i = 1 ∨ h 8 i = 2 ∨ h 8 i = 4 ∨ h 8 i = 5) → Q (some (.inl (h 9 i))) h) : mvCal mvMT d 48 [.inr 3, .inr 2, .inl (nI i)] h Q := by
  obtain ⟨d, rfl⟩ := d_pos hd (by decide)
  have hin : vp_in (nI i) 60 := vp_in_nI hi (by decide)
  have ei : (nI i).toNatClampNeg = i := nI_clamp (by omega)
  refine ⟨⟨rfl, by decide, rfl⟩, Nat.le_of_ble_eq_true rfl, fun K hK => hK _ _ _ _ ⟨hin, ?_⟩⟩
  rw [ei]
  have e57 : (h 8 i = 2 ∨ h 8 i = 4 ∨ h 8 i = 5) → K 57 [some (.inr 3), some (.inr 2), some (.inl (nI i))] [] h := by
    intro hk
    refine hK _ _ _ _ ⟨hin, ?_⟩
    rw [ei]
    refine s_X3_wireOf (by omega) _ ?_
    exact ⟨trivial, h2 hk⟩
  have e68 : ¬ (h 8 i = 1 ∨ h 8 i = 2 ∨ h 8 i = 4 ∨ h 8 i = 5) → K 68 [some (.inr 3), some (.inr 2), some (.inl (nI i))] [] h := by
    intro hk
    refine hK _ _ _ _ ⟨hin, trivial, ?_⟩
    rw [ei]
    exact h3 hk
  refine ⟨fun e => ?_, fun e1 => ⟨fun e => e57 (Or.inl e), fun e2 => ⟨fun e => e68 ?_, fun e3 => ⟨fun e => e57 (Or.inr (Or.inl e)), fun e4 => ⟨fun e => e57 (Or.inr (Or.inr e)), fun e5 => e68 ?_⟩⟩⟩⟩⟩
  · refine hK _ _ _ _ ⟨trivial, ?_⟩
    refine mvq (h1 e) ?_
    rw [hset_at, if_pos rfl, Int32.add_sub_cancel]
  · rw [e]; decide
  · intro z
    rcases z with z | z | z | z
    · exact e1 z
    · exact e2 z
    · exact e4 z
    · exact e5 z
end L3
theorem sg_c {c : Nat} (hc : c < 8) : ¬ (8 : Int32) + nI c < 8 ∧ ix ((8 : Int32) + nI c - 8) = c := by
  constructor
  · rw [show (8 : Int32) = nI 8 by decide, nI_add]; exact nI_nlt (by omega) (by omega)
  · rw [show (8 : Int32) + nI c - 8 = nI c by rw [Int32.add_comm, Int32.add_sub_cancel], ix_nI (by omega)]
theorem cWo_lo {h : mvH} {x : Int32} (h8 : x < 8) (h0 : ¬ x < 0) : cWo h x = x := by
  unfold cWo
  have : x - 8 < 0 := by
    obtain ⟨j, hj, rfl⟩ := nI_of h0
    have hj8 : j < 8 := (nI_ltI hj (by decide)).mp (show nI j < nI 8 from h8)
    exact pk_sneg (b := 8) (by decide) hj8
  rw [if_pos this]
theorem cWo_hi {h : mvH} {c : Nat} (hc : c < 8) : cWo h (8 + nI c) = h 22 c := by
  unfold cWo
  rw [show (8 : Int32) + nI c - 8 = nI c by rw [Int32.add_comm, Int32.add_sub_cancel], if_neg (nI_pos (by omega)), if_neg (show ¬ (8 : Int32) ≤ nI c from nI_ge (b := 8) hc (by decide)), ix_nI (by omega)]
set_option maxHeartbeats 4000000 in
theorem ly_main {N : List Nd} {W : Nat → Int32} {Lb : Nat → Nat → Prop} (hok : NdOK N Lb) : ∀ f, LyC N W Lb f := by
  intro f
  induction f with
  | zero => intro d h Q i u t E r s sc hd hi; omega
  | succ f ih =>
    intro d h Q i u t E r s sc hd hi hiN ht hc h120 h240 hE hW hQ
    obtain ⟨d, rfl⟩ := d_pos hd (by omega)
    obtain ⟨hN60, hall⟩ := id hok
    obtain ⟨o1, o2, o3, o4⟩ := hall i hiN
    have hx := ht.2 i _ (nd_get hiN)
    obtain ⟨x8, x9, x10, x11⟩ := hx
    have hsl := stT_len N (f + 1) i t u E
    have hslA := fun j t' u' E' => stT_len N f j t' u' E'
    unfold layT at h120 h240 hW hQ
    unfold stT at hQ
    dsimp only at h120 h240 hW hQ
    generalize hxe : nd N i = x at *
    generalize hA : (if x.2.2.1 < 0 then ([] : List Th) else layT N f (ix x.2.2.1) (nI t) (t + 1) (lyE x t E)) = A at *
    generalize hB : (if lySec x < 0 then ([] : List Th) else layT N f (ix (lySec x)) (nI t) (t + 1 + A.length) (lyE x t E)) = B at *
    generalize hSA : (if x.2.2.1 < 0 then ([] : List Int32) else stT N f (ix x.2.2.1) (t + 1)) = SA at *
    have hlA : SA.length = 2 * A.length := by
      rw [← hA, ← hSA]
      split
      · rfl
      · exact hslA _ _ _ _
    rw [show SA.length / 2 = A.length by omega] at hQ
    generalize hSB : (if lySec x < 0 then ([] : List Int32) else stT N f (ix (lySec x)) (t + 1 + A.length)) = SB at *
    have hlB : SB.length = 2 * B.length := by
      rw [← hB, ← hSB]
      split
      · rfl
      · exact hslA _ _ _ _
    simp only [List.length_cons, List.length_append] at h120 h240
    obtain ⟨c1, c2, c3, c4⟩ := hc
    simp only [List.length_nil, Nat.add_zero, Nat.mul_zero, cntK, List.countP_nil] at c1 c2 c3 c4
    have hii : vp_in (nI i) 60 := vp_in_nI (by omega) (by decide)
    have hit : vp_in (nI t) 120 := vp_in_nI (by omega) (by decide)
    have ei : (nI i).toNatClampNeg = i := nI_clamp (by omega)
    have et : (nI t).toNatClampNeg = t := nI_clamp (by omega)
    generalize hhd : ((x.1, x.2.1, u, (if x.2.2.1 < 0 then (-1 : Int32) else nI (t + 1)), (if lySec x < 0 then (-1 : Int32) else nI (t + 1 + A.length)), E (ix (sgO x.2.1 - 8))) : Th) = hd0 at *
    have hd1 : hd0.1 = x.1 := by rw [← hhd]
    refine ⟨⟨rfl, by decide, rfl⟩, Nat.le_of_ble_eq_true rfl, fun K hK => hK _ _ _ _ ⟨fun e => absurd e (nI_pos (by omega)), fun _ => ⟨fun e => absurd e (by rw [ht.1]; exact nI_ge (by omega) (by omega)), fun _ => ⟨fun _ => ?_, fun e => absurd (by rw [c1]; exact nI_lt (b := 120) (by omega) (by decide)) e⟩⟩⟩⟩
    have e110 : ∀ G r' s', r' = r + (if x.1 = 1 then 1 else 0) → s' = s + (if x.1 = 8 then 1 else 0) → (∀ q, ¬ (q = 3 ∨ q = 16 ∨ q = 17 ∨ q = 18 ∨ q = 19 ∨ q = 20 ∨ q = 21) → G q = h q) → (∀ j, ¬ (j = 7 ∨ j = 8 ∨ j = 9 ∨ j = 10) → G 3 j = h 3 j) → (∀ q, (q = 16 ∨ q = 17 ∨ q = 18 ∨ q = 19 ∨ q = 20) → ∀ j, j < t → G q j = h q j) → (∀ j, j < sc → G 21 j = h 21 j) → G 21 sc = nI t → G 16 t = x.1 → G 17 t = u → G 18 t = hd0.2.2.2.1 → G 19 t = hd0.2.2.2.2.1 → G 20 t = mkC W r s (hd0 :: (A ++ B)) 0 hd0 → LyCnt G (t + 1) r' s' (sc + 1) (A ++ B) → LyCon W G (t + 1) r' s' (sc + 1) (A ++ B) (SA ++ SB) → K 110 [some (.inr 3), some (.inr 2), some (.inl (nI i)), some (.inl u), some (.inl (nI t))] [] G := by
      intro G r' s' hr' hs' g1 g2 g3 g4 g5 g16 g17 g18 g19 g20 gc gl
      obtain ⟨k1, k2, k3, k4⟩ := gc
      rw [List.length_append] at k1 k2
      refine hK _ _ _ _ ?_
      refine s_X3_addStep (by omega) k2 (by omega) _ ?_
      refine ⟨trivial, hQ (hset (hset G 21 (sc + 1 + 2 * (A.length + B.length)) (nI t ^^^ (-1))) 3 8 (nI (sc + 1 + 2 * (A.length + B.length) + 1))) ⟨?_, ?_, ?_, ?_⟩ ⟨?_, ?_, ?_, ?_⟩ ⟨?_, ?_⟩⟩
      · intro q hq; rw [hset_other (by omega), hset_other (by omega), g1 q hq]
      · intro j hj; rw [hset_at, if_neg (by omega), hset_other (by decide), g2 j hj]
      · intro q hq j hj; rw [hset_other (by omega), hset_other (by omega), g3 q hq j hj]
      · intro j hj; rw [hset_other (by decide), hset_at, if_neg (by omega), g4 j hj]
      · rw [hset_at, if_neg (by decide), hset_other (by decide), k1]
        simp only [List.length_cons, List.length_append]; congr 1; omega
      · rw [hset_at, if_pos rfl]
        simp only [List.length_cons, List.length_append]; congr 1; omega
      · rw [hset_at, if_neg (by decide), hset_other (by decide), k3, hr', cntK_cons, hd1]; congr 1; omega
      · rw [hset_at, if_neg (by decide), hset_other (by decide), k4, hs', cntK_cons, hd1]; congr 1; omega
      · intro j y hy
        rw [hset_other (by decide), hset_other (by decide), hset_other (by decide), hset_other (by decide), hset_other (by decide), hset_other (by decide), hset_other (by decide), hset_other (by decide), hset_other (by decide), hset_other (by decide)]
        match j, hy with
        | 0, hy =>
          simp at hy
          subst hy
          rw [Nat.add_zero, g16, g17, g18, g19, g20, hd1]
          refine ⟨rfl, ?_, rfl, rfl, rfl⟩
          rw [← hhd]
        | j + 1, hy =>
          have hy : (A ++ B)[j]? = some y := by simpa using hy
          have := gl.1 j y hy
          rw [show t + 1 + j = t + (j + 1) by omega] at this
          obtain ⟨z1, z2, z3, z4, z5⟩ := this
          refine ⟨z1, z2, z3, z4, ?_⟩
          rw [z5]
          unfold mkC
          rw [List.take_succ_cons, cntK_cons, cntK_cons, hd1, hr', hs', Nat.add_assoc, Nat.add_assoc]
      · intro j y hy
        rw [hset_other (by decide)]
        match j, hy with
        | 0, hy =>
          simp at hy
          subst hy
          rw [hset_at, if_neg (by omega), Nat.add_zero, g5]
        | j + 1, hy =>
          have hy : (SA ++ (SB ++ [nI t ^^^ (-1)]))[j]? = some y := by simpa using hy
          rw [← List.append_assoc] at hy
          have hlS : (SA ++ SB).length = 2 * (A.length + B.length) := by rw [List.length_append]; omega
          by_cases hj : j < (SA ++ SB).length
          · rw [List.getElem?_append_left hj] at hy
            have := gl.2 j y hy
            rw [hset_at, if_neg (by omega), show sc + (j + 1) = sc + 1 + j by omega]
            exact this
          · have hlt := (List.getElem?_eq_some_iff.mp hy).1
            simp only [List.length_append, List.length_cons, List.length_nil] at hlt hlS hj
            have hje : j = 2 * (A.length + B.length) := by omega
            rw [List.getElem?_append_right (by simp only [List.length_append]; omega)] at hy
            simp only [List.length_append] at hy
            rw [show j - (SA.length + SB.length) = 0 by omega] at hy
            simp only [List.getElem?_cons_zero, Option.some.injEq] at hy
            rw [hset_at, if_pos (by omega), hy]
    -- into the thing
    refine hK _ _ _ _ ?_
    conv => whnf
    rw [c1, nI_1]
    refine ⟨hii, hit, hit, ?_⟩
    rw [et, ei]
    have q8 : (hset h 3 7 (nI (t + 1))) 8 i = x.1 := by rw [hset_other (by decide), x8]
    conv => whnf
    rw [q8]
    refine s_X3_addStep (sc := sc) (by omega) (by rw [hset_other (by decide), hset_other (by decide), hset_at, if_neg (by decide)]; exact c2) (by omega) _ ?_
    generalize hg4 : hset (hset (hset (hset (hset h 3 7 (nI (t + 1))) 16 t x.1) 17 t u) 21 sc (nI t)) 3 8 (nI (sc + 1)) = g4
    have gq : ∀ q, ¬ (q = 3 ∨ q = 16 ∨ q = 17 ∨ q = 21) → g4 q = h q := by
      intro q hq
      rw [← hg4, hset_other (by omega), hset_other (by omega), hset_other (by omega), hset_other (by omega), hset_other (by omega)]
    have g16 : ∀ j, g4 16 j = if j = t then x.1 else h 16 j := by
      intro j; rw [← hg4, hset_other (by decide), hset_other (by decide), hset_other (by decide), hset_at, hset_other (by decide)]
    have g17 : ∀ j, g4 17 j = if j = t then u else h 17 j := by
      intro j; rw [← hg4, hset_other (by decide), hset_other (by decide), hset_at, hset_other (by decide), hset_other (by decide)]
    have g21 : ∀ j, g4 21 j = if j = sc then nI t else h 21 j := by
      intro j; rw [← hg4, hset_other (by decide), hset_at, hset_other (by decide), hset_other (by decide), hset_other (by decide)]
    have g3 : ∀ j, g4 3 j = if j = 8 then nI (sc + 1) else if j = 7 then nI (t + 1) else h 3 j := by
      intro j; rw [← hg4, hset_at, hset_other (by decide), hset_other (by decide), hset_other (by decide), hset_at]
    have ht4 : TrOK g4 N := by
      refine ⟨by rw [gq 2 (by decide)]; exact ht.1, fun i x hx => ?_⟩
      rw [gq 8 (by decide), gq 9 (by decide), gq 10 (by decide), gq 11 (by decide)]
      exact ht.2 i x hx
    refine ⟨hit, ?_⟩
    rw [et, g16, if_pos rfl]
    have hWs : ∀ (j : Nat) (y : Th), (A ++ B)[j]? = some y → y.1 = 8 → W (t + 1 + j) = nI (s + (if x.1 = 8 then 1 else 0) + cntK 8 ((A ++ B).take j)) := by
      intro j y hy h8
      have := hW (j + 1) y (by simpa using hy) h8
      rw [show t + (j + 1) = t + 1 + j by omega, List.take_succ_cons, cntK_cons, hd1, ← Nat.add_assoc] at this
      exact this
    have hch : ∀ j, j < N.length → (x.2.2.1 = nI j ∨ x.2.2.2 = nI j) → ∀ c, Lb j c → Lb i c ∨ (x.1 = 8 ∧ sgO x.2.1 = 8 + nI c) := by
      intro j hjN hj c hl
      have one : ∀ y : Int32, y = nI j → (y = -1 ∨ ∃ j', j' < i ∧ y = nI j' ∧ ∀ c, Lb j' c → Lb i c ∨ (x.1 = 8 ∧ sgO x.2.1 = 8 + nI c)) → Lb i c ∨ (x.1 = 8 ∧ sgO x.2.1 = 8 + nI c) := by
        intro y hy ho
        rcases ho with w | ⟨j', hj', w, hlb⟩
        · rw [w] at hy; exact absurd hy.symm (nI_nm1 (by omega))
        · have : j' = j := (nI_eq (by omega) (by omega)).mp (w.symm.trans hy)
          subst this
          exact hlb c hl
      rcases hj with hj | hj
      · exact one _ hj o1
      · exact one _ hj o2
    have own0 : hd0.2.2.2.2.2 = E (ix (sgO x.2.1 - 8)) := by rw [← hhd]
    have arg0 : hd0.2.1 = x.2.1 := by rw [← hhd]
    have k0 : ∀ k, cntK k ((hd0 :: (A ++ B)).take 0) = 0 := fun k => rfl
    refine ⟨fun e8 => ?_, fun e8 => ?_⟩
    · have fin : ∀ g6 r', r' = r + (if x.1 = 1 then 1 else 0) → (∀ q, q ≠ 3 → q ≠ 20 → g6 q = g4 q) → (∀ j, j ≠ 9 → g6 3 j = g4 3 j) → g6 3 9 = nI r' → g6 20 t = mkC W r s (hd0 :: (A ++ B)) 0 hd0 → (∀ j, j < t → g6 20 j = h 20 j) → mvCal mvMT d 47 [.inr 3, .inr 2, .inl (nI i), .inl (nI t)] g6 (fun v h' => K 110 [some (.inr 3), some (.inr 2), some (.inl (nI i)), some (.inl u), some (.inl (nI t))] (mvret v []) h') := by
        intro g6 r' hr' z1 z2 z3 z4 z5
        have ht6 : TrOK g6 N := by
          refine ⟨by rw [z1 2 (by decide) (by decide)]; exact ht4.1, fun i x hx => ?_⟩
          rw [z1 8 (by decide) (by decide), z1 9 (by decide) (by decide), z1 10 (by decide) (by decide), z1 11 (by decide) (by decide)]
          exact ht4.2 i x hx
        have hE1 : lyE x t E = E := by unfold lyE; rw [if_neg e8]
        refine ly_inside (r := r') (s := s) (sc := sc + 1) (E := lyE x t E) (A := A) (B := B) (SA := SA) (SB := SB) hok ih (by omega) hi hiN ht6 ?_ ?_ (by rw [hxe]; exact hA.symm) (by rw [hxe]; exact hSA.symm) (by rw [hxe]; exact hB.symm) (by rw [hxe]; exact hSB.symm) hlA (by rw [List.length_append]; omega) (by rw [List.length_append]; omega) ?_ ?_ ?_
        · refine ⟨by rw [z2 7 (by decide), g3]; rfl, by rw [z2 8 (by decide), g3]; rfl, by rw [z3]; rfl, by rw [z2 10 (by decide), g3]; simp [c4, cntK]⟩
        · rw [z1 16 (by decide) (by decide), g16, if_pos rfl, hxe]
        · rw [hxe]
          intro j hjN hj c hc8 hl
          rw [z1 22 (by decide) (by decide), gq 22 (by decide), hE1]
          refine hE c hc8 ?_
          rcases hch j hjN hj c hl with w | w
          · exact w
          · exact absurd w.1 e8
        · intro j y hy h8
          rw [hWs j y hy h8, if_neg e8, Nat.add_zero]
        · intro g' y1 y2 y3 y4 y5 y6 y7 y8 y9
          rw [hxe] at y6 y7
          refine e110 g' r' s hr' (by rw [if_neg e8, Nat.add_zero]) ?_ ?_ ?_ ?_ ?_ ?_ ?_ ?_ ?_ ?_ y8 y9
          · intro q hq; rw [y1 q hq, z1 q (by omega) (by omega), gq q (by omega)]
          · intro j hj; rw [y2 j hj, z2 j (by omega), g3, if_neg (by omega), if_neg (by omega)]
          · intro q hq j hj
            rcases hq with rfl | rfl | rfl | rfl | rfl
            · rw [y3 16 (by omega) j (by omega), z1 16 (by decide) (by decide), g16, if_neg (by omega)]
            · rw [y3 17 (by omega) j (by omega), z1 17 (by decide) (by decide), g17, if_neg (by omega)]
            · rw [y4 18 (by omega) j hj, z1 18 (by decide) (by decide), gq 18 (by decide)]
            · rw [y4 19 (by omega) j hj, z1 19 (by decide) (by decide), gq 19 (by decide)]
            · rw [y3 20 (by omega) j (by omega), z5 j hj]
          · intro j hj; rw [y5 j (by omega), z1 21 (by decide) (by decide), g21, if_neg (by omega)]
          · rw [y5 sc (by omega), z1 21 (by decide) (by decide), g21, if_pos rfl]
          · rw [y3 16 (by omega) t (by omega), z1 16 (by decide) (by decide), g16, if_pos rfl]
          · rw [y3 17 (by omega) t (by omega), z1 17 (by decide) (by decide), g17, if_pos rfl]
          · rw [y6, ← hhd]
          · rw [y7, ← hhd]
          · rw [y3 20 (by omega) t (by omega), z4]
      refine hK _ _ _ _ ?_
      have m9 : g4 9 i = mkOf x := by rw [gq 9 (by decide), x9]
      have m8 : g4 8 i = x.1 := by rw [gq 8 (by decide), x8]
      refine s_X3_newMark (by omega) (by omega) (fun e => ?_) (fun e => ?_) (fun e => ?_)
      · rw [m8] at e
        refine ⟨hit, ?_⟩
        rw [et]
        refine fin _ (r + 1) (by rw [if_pos e]) ?_ ?_ ?_ ?_ ?_
        · intro q h1 h2; rw [hset_other h2, hset_other h1]
        · intro j hj; rw [hset_other (by decide), hset_at, if_neg hj]
        · rw [hset_other (by decide), hset_at, if_pos rfl, g3, if_neg (by decide), if_neg (by decide), c3, nI_1]
        · rw [hset_at, if_pos rfl, g3, if_neg (by decide), if_neg (by decide), c3]
          unfold mkC
          rw [hd1, if_pos e, k0, Nat.add_zero]
        · intro j hj; rw [hset_at, if_neg (by omega), hset_other (by decide), gq 20 (by decide)]
      · rw [m8] at e
        have e1 : ¬ x.1 = 1 := by rcases e with z | z | z <;> rw [z] <;> decide
        refine ⟨hit, ?_⟩
        rw [et]
        refine fin _ r (by rw [if_neg e1, Nat.add_zero]) ?_ ?_ ?_ ?_ ?_
        · intro q h1 h2; rw [hset_other h2]
        · intro j hj; rw [hset_other (by decide)]
        · rw [hset_other (by decide), g3, if_neg (by decide), if_neg (by decide), c3]
        · rw [hset_at, if_pos rfl, m9, mkOf_sig (by rcases e with z | z | z; exact Or.inl z; exact Or.inr (Or.inl z); exact Or.inr (Or.inr (Or.inl z)))]
          unfold mkC
          rw [hd1, if_neg e1, if_neg e8, if_pos e, arg0, own0]
          obtain ⟨p1, p2⟩ := o4 e
          by_cases hlt : sgO x.2.1 < 8
          · rw [if_pos hlt, cWo_lo hlt p1]
          · obtain ⟨c, hc8, hsg, hl⟩ := p2 hlt
            rw [if_neg hlt, hsg, cWo_hi hc8, gq 22 (by decide), (sg_c hc8).2]
            exact hE c hc8 hl
        · intro j hj; rw [hset_at, if_neg (by omega), gq 20 (by decide)]
      · rw [m8] at e
        have e1 : ¬ x.1 = 1 := fun z => e (Or.inl z)
        have e2 : ¬ (x.1 = 2 ∨ x.1 = 4 ∨ x.1 = 5) := fun z => e (Or.inr z)
        refine ⟨hit, ?_⟩
        rw [et]
        refine fin _ r (by rw [if_neg e1, Nat.add_zero]) ?_ ?_ ?_ ?_ ?_
        · intro q h1 h2; rw [hset_other h2]
        · intro j hj; rw [hset_other (by decide)]
        · rw [hset_other (by decide), g3, if_neg (by decide), if_neg (by decide), c3]
        · rw [hset_at, if_pos rfl, m9, mkOf_no (fun z => by rcases z with z | z | z | z; exact e2 (Or.inl z); exact e2 (Or.inr (Or.inl z)); exact e2 (Or.inr (Or.inr z)); exact e8 z)]
          unfold mkC
          rw [hd1, if_neg e1, if_neg e8, if_neg e2, arg0]
        · intro j hj; rw [hset_at, if_neg (by omega), gq 20 (by decide)]
    · obtain ⟨c0, hc0, hsg⟩ := o3 e8
      have e1 : ¬ x.1 = 1 := by rw [e8]; decide
      have m9 : g4 9 i = 8 + nI c0 := by rw [gq 9 (by decide), x9, mkOf_sig (Or.inr (Or.inr (Or.inr e8))), hsg]
      have hE1 : lyE x t E = fun c => if c = c0 then t else E c := by unfold lyE; rw [if_pos e8, hsg, (sg_c hc0).2]
      have hWt : W t = nI s := by
        have := hW 0 hd0 (by simp) (by rw [hd1]; exact e8)
        rwa [k0, Nat.add_zero, Nat.add_zero] at this
      obtain ⟨d, rfl⟩ : ∃ e, d = e + 1 := ⟨d - 1, by omega⟩
      refine ⟨⟨rfl, by decide, rfl⟩, Nat.le_of_ble_eq_true rfl, fun K' hK' => hK' _ _ _ _ ?_⟩
      have s10 : g4 3 10 = nI s := by rw [g3, if_neg (by decide), if_neg (by decide), c4]
      conv => whnf
      rw [s10, nI_1]
      refine ⟨hit, hii, ?_⟩
      rw [et, ei]
      have m9b : (hset (hset g4 3 10 (nI (s + 1))) 20 t (nI s)) 9 i = 8 + nI c0 := by rw [hset_other (by decide), hset_other (by decide), m9]
      conv => whnf
      rw [m9b]
      refine s_X3_bind (by omega) hc0 _ ?_
      have h22 : (hset (hset g4 3 10 (nI (s + 1))) 20 t (nI s)) 22 = h 22 := by rw [hset_other (by decide), hset_other (by decide), gq 22 (by decide)]
      rw [h22]
      generalize hg7 : hset (hset (hset g4 3 10 (nI (s + 1))) 20 t (nI s)) 22 c0 (nI s) = g7
      have z1 : ∀ q, q ≠ 3 → q ≠ 20 → q ≠ 22 → g7 q = g4 q := by
        intro q h1 h2 h3; rw [← hg7, hset_other h3, hset_other h2, hset_other h1]
      have z2 : ∀ j, g7 3 j = if j = 10 then nI (s + 1) else g4 3 j := by
        intro j; rw [← hg7, hset_other (by decide), hset_other (by decide), hset_at]
      have z4 : ∀ j, g7 20 j = if j = t then nI s else h 20 j := by
        intro j; rw [← hg7, hset_other (by decide), hset_at, hset_other (by decide), gq 20 (by decide)]
      have z22 : ∀ j, g7 22 j = if j = c0 then nI s else h 22 j := by
        intro j; rw [← hg7, hset_at, hset_other (by decide), hset_other (by decide), gq 22 (by decide)]
      have ht7 : TrOK g7 N := by
        refine ⟨by rw [z1 2 (by decide) (by decide) (by decide)]; exact ht4.1, fun i x hx => ?_⟩
        rw [z1 8 (by decide) (by decide) (by decide), z1 9 (by decide) (by decide) (by decide), z1 10 (by decide) (by decide) (by decide), z1 11 (by decide) (by decide) (by decide)]
        exact ht4.2 i x hx
      refine ly_inside (r := r) (s := s + 1) (sc := sc + 1) (E := lyE x t E) (A := A) (B := B) (SA := SA) (SB := SB) hok ih (by omega) hi hiN ht7 ?_ ?_ (by rw [hxe]; exact hA.symm) (by rw [hxe]; exact hSA.symm) (by rw [hxe]; exact hB.symm) (by rw [hxe]; exact hSB.symm) hlA (by rw [List.length_append]; omega) (by rw [List.length_append]; omega) ?_ ?_ ?_
      · refine ⟨by rw [z2, g3]; rfl, by rw [z2, g3]; rfl, by rw [z2, g3]; simp [c3, cntK], by rw [z2]; rfl⟩
      · rw [z1 16 (by decide) (by decide) (by decide), g16, if_pos rfl, hxe]
      · rw [hxe]
        intro j hjN hj c hc8 hl
        rw [z22, hE1]
        by_cases hcc : c = c0
        · rw [if_pos hcc]
          dsimp only
          rw [if_pos hcc, hWt]
        · rw [if_neg hcc]
          dsimp only
          rw [if_neg hcc]
          rcases hch j hjN hj c hl with w | w
          · exact hE c hc8 w
          · exfalso
            have := w.2
            rw [hsg] at this
            have h2 : nI c0 = nI c := by
              have h3 : (8 : Int32) + nI c0 - 8 = (8 : Int32) + nI c - 8 := by rw [this]
              rwa [Int32.add_comm, Int32.add_sub_cancel, Int32.add_comm, Int32.add_sub_cancel] at h3
            exact hcc ((nI_eq (by omega) (by omega)).mp h2).symm
      · intro j y hy h8
        rw [hWs j y hy h8, if_pos e8]
      · intro g' y1 y2 y3 y4 y5 y6 y7 y8 y9
        rw [hxe] at y6 y7
        refine ⟨hii, ?_⟩
        rw [ei]
        have m9c : g' 9 i = 8 + nI c0 := by rw [y1 9 (by decide), z1 9 (by decide) (by decide) (by decide), m9]
        conv => whnf
        rw [m9c]
        refine s_X3_bind (by omega) hc0 _ ?_
        have f22 : (hset g' 22 c0 (h 22 c0)) 22 = h 22 := by
          funext j
          rw [hset_at, y1 22 (by decide), z22]
          by_cases hj : j = c0
          · rw [if_pos hj, hj]
          · rw [if_neg hj, if_neg hj]
        have gl : ∀ q, q ≠ 22 → (hset g' 22 c0 (h 22 c0)) q = g' q := fun q hq => hset_other hq
        have fin := e110 (hset g' 22 c0 (h 22 c0)) r (s + 1) (by rw [if_neg e1, Nat.add_zero]) (by rw [if_pos e8]) ?_ ?_ ?_ ?_ ?_ ?_ ?_ ?_ ?_ ?_ ?_ ?_
        · exact fin
        · intro q hq
          by_cases h22' : q = 22
          · subst h22'; exact f22
          · rw [gl q h22', y1 q hq, z1 q (by omega) (by omega) h22', gq q (by omega)]
        · intro j hj; rw [gl 3 (by decide), y2 j hj, z2, if_neg (by omega), g3, if_neg (by omega), if_neg (by omega)]
        · intro q hq j hj
          rcases hq with rfl | rfl | rfl | rfl | rfl
          · rw [gl 16 (by decide), y3 16 (by omega) j (by omega), z1 16 (by decide) (by decide) (by decide), g16, if_neg (by omega)]
          · rw [gl 17 (by decide), y3 17 (by omega) j (by omega), z1 17 (by decide) (by decide) (by decide), g17, if_neg (by omega)]
          · rw [gl 18 (by decide), y4 18 (by omega) j hj, z1 18 (by decide) (by decide) (by decide), gq 18 (by decide)]
          · rw [gl 19 (by decide), y4 19 (by omega) j hj, z1 19 (by decide) (by decide) (by decide), gq 19 (by decide)]
          · rw [gl 20 (by decide), y3 20 (by omega) j (by omega), z4, if_neg (by omega)]
        · intro j hj; rw [gl 21 (by decide), y5 j (by omega), z1 21 (by decide) (by decide) (by decide), g21, if_neg (by omega)]
        · rw [gl 21 (by decide), y5 sc (by omega), z1 21 (by decide) (by decide) (by decide), g21, if_pos rfl]
        · rw [gl 16 (by decide), y3 16 (by omega) t (by omega), z1 16 (by decide) (by decide) (by decide), g16, if_pos rfl]
        · rw [gl 17 (by decide), y3 17 (by omega) t (by omega), z1 17 (by decide) (by decide) (by decide), g17, if_pos rfl]
        · rw [gl 18 (by decide), y6, ← hhd]
        · rw [gl 19 (by decide), y7, ← hhd]
        · rw [gl 20 (by decide), y3 20 (by omega) t (by omega), z4, if_pos rfl]
          unfold mkC
          rw [hd1, if_neg e1, if_pos e8, k0, Nat.add_zero]
        · unfold LyCnt
          rw [gl 3 (by decide)]
          exact y8
        · exact LyCon_keep y9 (fun q hq j _ _ => by rw [gl q (by omega)]) (fun j _ _ => by rw [gl 21 (by decide)])
