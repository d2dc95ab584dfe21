/-! TREE.refusalOf -/
section R2
variable {d : Nat} {h : mvH} {Q : Option mvV → mvH → Prop}
theorem cTell_14 {t j : Nat} {y : Int32} : cTell h t y 14 j = if y ≠ -1 ∧ j = ix y then h 14 t + (if h 8 t = 7 then 1 else 0) else h 14 j := by
  unfold cTell
  by_cases hy : y = -1
  · rw [if_pos hy, if_neg (fun z => z.1 hy)]
  · rw [if_neg hy, hset_other (by decide), hset_at]
    have hc : (y ≠ -1 ∧ j = ix y) ↔ j = ix y := ⟨fun z => z.2, fun z => ⟨hy, z⟩⟩
    simp only [hc]
theorem cTell_15 {t j : Nat} {y : Int32} : cTell h t y 15 j = if y ≠ -1 ∧ j = ix y then h 15 t ||| (if h 8 t = 8 then cBit (h 9 t) else 0) else h 15 j := by
  unfold cTell
  by_cases hy : y = -1
  · rw [if_pos hy, if_neg (fun z => z.1 hy)]
  · rw [if_neg hy, hset_at, hset_other (by decide)]
    have hc : (y ≠ -1 ∧ j = ix y) ↔ j = ix y := ⟨fun z => z.2, fun z => ⟨hy, z⟩⟩
    simp only [hc]
theorem lie_inv {N : List Nd} {a : Nat} (hN : N.length ≤ 60) (hs : rdS [] N a) (hp : parP [] N a) (ht : TrOK h N) {T L : Nat → Int32} (hA : annOK N T L) : ∀ k, k ≤ N.length → ∀ t, t < N.length → (t = N.length - 1 ∨ ∃ p x, N.length - k ≤ p ∧ N[p]? = some x ∧ t < p ∧ (x.2.2.1 = nI t ∨ x.2.2.2 = nI t)) → (cTa h N.length k) 14 t = T t ∧ (cTa h N.length k) 15 t = L t := by
  have ha1 : a + 1 = N.length := hs.1
  intro k
  induction k with
  | zero =>
    intro _ t htl hc
    have e : t = N.length - 1 := by
      rcases hc with z | ⟨p, x, z1, z2, -⟩
      · exact z
      · have := (List.getElem?_eq_some_iff.mp z2).1
        omega
    subst e
    unfold cTa
    rw [hset_other (by decide), hset_at, if_pos rfl, hset_at, if_pos rfl]
    exact ⟨hA.1.symm, hA.2.1.symm⟩
  | succ k ih =>
    intro hk t htl hc
    have ihk := ih (by omega)
    generalize ht0 : N.length - 1 - k = t0
    have ht0l : t0 < N.length := by omega
    have hx0 := nd_get ht0l
    have hk0 := (hs.2.2.2 t0 _ (Nat.zero_le _) hx0).1
    obtain ⟨t8, t9, t10, t11⟩ := TrOK_nd ht ht0l
    have h0 : (cTa h N.length k) 14 t0 = T t0 ∧ (cTa h N.length k) 15 t0 = L t0 := by
      refine ihk t0 ht0l ?_
      by_cases hr : t0 = N.length - 1
      · exact Or.inl hr
      · obtain ⟨i, x, z1, z2, z3⟩ := hp t0 (Nat.zero_le _) (by omega)
        exact Or.inr ⟨i, x, by omega, z2, z1, z3⟩
    have hun : cTa h N.length (k + 1) = cTell (cTell (cTa h N.length k) t0 ((cTa h N.length k) 10 t0)) t0 ((cTa h N.length k) 11 t0) := by rw [← ht0]; rfl
    have o8 := cTa_o (h := h) (m := N.length) k 8 (by decide) (by decide)
    have o9 := cTa_o (h := h) (m := N.length) k 9 (by decide) (by decide)
    have o10 := cTa_o (h := h) (m := N.length) k 10 (by decide) (by decide)
    have o11 := cTa_o (h := h) (m := N.length) k 11 (by decide) (by decide)
    rw [hun, cTell_14, cTell_15, cTell_14, cTell_15, cTell_14, cTell_15, cTell_o (by decide) (by decide), cTell_o (by decide) (by decide), o8, o9, o10, o11, t8, t9, t10, t11, h0.1, h0.2]
    have hl := ndK_l hk0
    have hr := ndK_r hk0
    have nol : ∀ y : Int32, (y = -1 ∨ ∃ j, j < t0 ∧ y = nI j) → ¬ (y ≠ -1 ∧ t0 = ix y) := by
      intro y hy z
      rcases hy with w | ⟨j, hj, w⟩
      · exact z.1 w
      · rw [w, ix_nI (by omega)] at z; omega
    have mk8 : (nd N t0).1 = 8 → mkOf (nd N t0) = sgO (nd N t0).2.1 := fun z => mkOf_sig (Or.inr (Or.inr (Or.inr z)))
    have hb : (if (nd N t0).1 = 8 then cBit (mkOf (nd N t0)) else 0) = (if (nd N t0).1 = 8 then cBit (sgO (nd N t0).2.1) else 0) := by
      by_cases z : (nd N t0).1 = 8
      · rw [if_pos z, if_pos z, mk8 z]
      · rw [if_neg z, if_neg z]
    rw [if_neg (nol _ hl), if_neg (nol _ hl), hb]
    have edge : ∀ y : Int32, (y = -1 ∨ ∃ j, j < t0 ∧ y = nI j) → (y = (nd N t0).2.2.1 ∨ y = (nd N t0).2.2.2) → y ≠ -1 → t = ix y → T t0 + (if (nd N t0).1 = 7 then 1 else 0) = T t ∧ L t0 ||| (if (nd N t0).1 = 8 then cBit (sgO (nd N t0).2.1) else 0) = L t := by
      intro y hy hyc hne hty
      rcases hy with w | ⟨j, hj, w⟩
      · exact absurd w hne
      · rw [w, ix_nI (by omega)] at hty
        subst hty
        have := hA.2.2 t0 _ hx0 t hj (by rcases hyc with q | q; exact Or.inl (q ▸ w); exact Or.inr (q ▸ w))
        exact ⟨this.1.symm, this.2.symm⟩
    by_cases c2 : (nd N t0).2.2.2 ≠ -1 ∧ t = ix (nd N t0).2.2.2
    · rw [if_pos c2, if_pos c2]
      exact edge _ hr (Or.inr rfl) c2.1 c2.2
    · rw [if_neg c2, if_neg c2]
      by_cases c1 : (nd N t0).2.2.1 ≠ -1 ∧ t = ix (nd N t0).2.2.1
      · rw [if_pos c1, if_pos c1]
        exact edge _ hl (Or.inl rfl) c1.1 c1.2
      · rw [if_neg c1, if_neg c1]
        refine ihk t htl ?_
        rcases hc with z | ⟨p, x, z1, z2, z3, z4⟩
        · exact Or.inl z
        · by_cases hpt : p = t0
          · exfalso
            subst hpt
            have : x = nd N p := Option.some.inj (z2.symm.trans hx0)
            subst this
            rcases z4 with w | w
            · exact c1 ⟨by rw [w]; exact nI_nm1 (by omega), by rw [w, ix_nI (by omega)]⟩
            · exact c2 ⟨by rw [w]; exact nI_nm1 (by omega), by rw [w, ix_nI (by omega)]⟩
          · exact Or.inr ⟨p, x, by omega, z2, z3, z4⟩
theorem lie_fold {N : List Nd} {a : Nat} (hN : N.length ≤ 60) (hs : rdS [] N a) (hp : parP [] N a) (ht : TrOK h N) {T L : Nat → Int32} (hA : annOK N T L) {k : Nat} (hk : k < N.length) : cLrT h N.length k = 0 ↔ lieB N T L (N.length - 1 - k) := by
  have ha1 : a + 1 = N.length := hs.1
  have htl : N.length - 1 - k < N.length := by omega
  obtain ⟨t8, t9, _, _⟩ := TrOK_nd ht htl
  have := lie_inv hN hs hp ht hA k (by omega) (N.length - 1 - k) htl (by
    by_cases hr : N.length - 1 - k = N.length - 1
    · exact Or.inl hr
    · obtain ⟨i, x, z1, z2, z3⟩ := hp (N.length - 1 - k) (Nat.zero_le _) (by omega)
      exact Or.inr ⟨i, x, by omega, z2, z1, z3⟩)
  unfold cLrT lieB
  rw [t8, t9, this.1, this.2]
/-- what refusing leaves as it was -/
def frT (h h' : mvH) : Prop := (∀ q, ¬ (q = 1 ∨ q = 2 ∨ q = 8 ∨ q = 9 ∨ q = 10 ∨ q = 11 ∨ q = 12 ∨ q = 13 ∨ q = 14 ∨ q = 15) → h' q = h q) ∧ (∀ j, j ≠ 2 → h' 1 j = h 1 j) ∧ ∀ j, j ≠ 8 → h' 2 j = h 2 j
theorem frT_of {h1 h2 : mvH} (hf : frP h h1) (hq : ∀ q, ¬ (q = 12 ∨ q = 13 ∨ q = 14 ∨ q = 15) → h2 q = h1 q) : frT h h2 := by
  refine ⟨fun q hq' => by rw [hq q (by omega), hf.1 q (by omega)], fun j hj => by rw [hq 1 (by decide), hf.2.1 j hj], fun j hj => by rw [hq 2 (by decide), hf.2.2 j hj]⟩
theorem TrOK_cells {h' : mvH} {N : List Nd} (ht : TrOK h N) (hq : ∀ q, q = 2 ∨ q = 8 ∨ q = 9 ∨ q = 10 ∨ q = 11 → h' q = h q) : TrOK h' N := by
  refine ⟨by rw [hq 2 (by omega)]; exact ht.1, fun i x hx => ?_⟩
  rw [hq 8 (by omega), hq 9 (by omega), hq 10 (by omega), hq 11 (by omega)]
  exact ht.2 i x hx
set_option maxHeartbeats 4000000 in
theorem s_X2_refusalOf (hd : 170 ≤ d) {tx : Nat → Int32} {n : Nat} (hl : h 1 1 = nI n ∧ n ≤ 60 ∧ ∀ j, j < n → h 7 j = tx j ∧ 33 ≤ tx j ∧ tx j ≤ 126)
    (hbad : (∀ N a, prs tx n = some (n, N, a) → False) → ∀ h', frT h h' → Q (some (.inl (-1))) h')
    (hgood : ∀ N a T L C S, prs tx n = some (n, N, a) → annOK N T L → cdOK N C → szOK N S → S (N.length - 1) < 2 ^ 20 → ∀ h', frT h h' → TrOK h' N → Q (some (.inl (refV N T L C S))) h') : mvCal mvMT d 15 [.inr 2, .inr 1] h Q := by
  obtain ⟨d, rfl⟩ := d_pos hd (by decide)
  obtain ⟨l1, l2, l3⟩ := hl
  refine ⟨⟨rfl, by decide, rfl⟩, Nat.le_of_ble_eq_true rfl, fun K hK => hK _ _ _ _ ?_⟩
  refine s_X0_rewind (by omega) ?_
  have hf0 : frP h (hset (hset h 1 2 0) 2 8 0) := by
    refine ⟨fun q hq => ?_, fun j hj => ?_, fun j hj => ?_⟩
    · rw [hset_other (by omega), hset_other (by omega)]
    · rw [hset_other (by decide), hset_at, if_neg hj]
    · rw [hset_at, if_neg hj, hset_other (by decide)]
  have hl0 : LnOK (hset (hset h 1 2 0) 2 8 0) tx n 0 := by
    refine ⟨?_, l2, ?_, Nat.zero_le _, fun j hj => ?_⟩
    · rw [hset_other (by decide), hset_at, if_neg (by decide)]; exact l1
    · rw [hset_other (by decide), hset_at, if_pos rfl]; decide
    · rw [hset_other (by decide), hset_other (by decide)]; exact l3 j hj
  have ht0 : TrOK (hset (hset h 1 2 0) 2 8 0) [] := ⟨by rw [hset_at, if_pos rfl]; decide, fun i x hx => by simp at hx⟩
  have hunit := rdC_unit (tx := tx) (n := n) 12 (by decide)
  refine rdC_seq (rdU_ok (tx := tx) 12) hunit _ _ _ 0 [] (by omega) hl0 ht0 (Nat.zero_le _) (fun r g hp => ?_)
  have hpr : prs tx n = rdSeq tx n (rdU tx n 12) 0 [] := rfl
  have hfg : frP h g := hf0.trans hp.1
  have hpl : frT h g := frT_of hfg (fun _ _ => rfl)
  rw [← hpr] at hp
  match ho : prs tx n, hp with
  | none, hp =>
    obtain ⟨-, rfl⟩ := hp
    refine ⟨fun _ => ?_, fun e => absurd rfl e⟩
    exact hK _ _ _ _ ⟨trivial, hbad (fun N a z => by rw [ho] at z; cases z) g hpl⟩
  | some (p', N, a), hp =>
    obtain ⟨-, rfl, hlg, htg⟩ := hp
    obtain ⟨hp1, hp2, ha1, hs, hpar, hcx, hsz⟩ := prs_all l2 ho
    have hN : N.length ≤ 60 := by omega
    refine ⟨fun e => absurd e (nI_nm1 (by omega)), fun _ => ?_⟩
    refine s_X0_isReadWhole (by omega) ?_
    rw [hlg.1, hlg.2.2.1]
    by_cases hlt : p' < n
    · rw [if_pos (nI_lt hlt (by omega))]
      refine ⟨fun e => absurd rfl e, fun _ => ?_⟩
      exact hK _ _ _ _ ⟨trivial, hbad (fun N2 a2 z => by rw [ho] at z; cases z; omega) g hpl⟩
    · obtain rfl : p' = n := by omega
      rw [if_neg (nI_nlt (Nat.le_refl _) (by omega))]
      refine ⟨fun _ => ?_, fun e => absurd e (by decide)⟩
      obtain ⟨T, L, hA⟩ := ann_ex l2 ho
      obtain ⟨S, hS, hS2⟩ := sz_ex l2 ho
      have hC := cd_fold hN hs htg
      have hch : ∀ t, t < N.length → (g 10 t = -1 ∨ vp_in (g 10 t) 60) ∧ (g 11 t = -1 ∨ vp_in (g 11 t) 60) := by
        intro t ht
        obtain ⟨_, _, t10, t11⟩ := TrOK_nd htg ht
        have hk := (hs.2.2.2 t _ (Nat.zero_le _) (nd_get ht)).1
        rw [t10, t11]
        constructor
        · rcases ndK_l hk with z | ⟨j, hj, z⟩
          · exact Or.inl z
          · exact Or.inr (by rw [z]; exact vp_in_nI (by omega) (by decide))
        · rcases ndK_r hk with z | ⟨j, hj, z⟩
          · exact Or.inl z
          · exact Or.inr (by rw [z]; exact vp_in_nI (by omega) (by decide))
      refine hK _ _ _ _ ?_
      refine s_X2_allLieRight (by omega) htg.1 (by omega) hN hch (fun k hk hz => ?_) (fun hall => ?_)
      · refine ⟨fun e => absurd rfl e, fun _ => ⟨trivial, ?_⟩⟩
        have hq : ∀ q, ¬ (q = 12 ∨ q = 13 ∨ q = 14 ∨ q = 15) → cTa g N.length k q = g q := fun q hq => cTa_o k q (by omega) (by omega)
        have := hgood N a T L _ S ho hA hC hS hS2 _ (frT_of hfg hq) (TrOK_cells htg (fun q hq' => hq q (by omega)))
        refine mvq this ?_
        unfold refV
        rw [if_pos ⟨N.length - 1 - k, by omega, (lie_fold hN hs hpar htg hA hk).mp hz⟩]
      · have hnl : ¬ ∃ i, i < N.length ∧ lieB N T L i := by
          intro ⟨i, hi, hb⟩
          refine hall (N.length - 1 - i) (by omega) ((lie_fold hN hs hpar htg hA (by omega)).mpr ?_)
          rw [show N.length - 1 - (N.length - 1 - i) = i by omega]
          exact hb
        refine ⟨fun _ => ?_, fun e => absurd e (by decide)⟩
        refine hK _ _ _ _ ?_
        have hq1 : ∀ q, ¬ (q = 12 ∨ q = 13 ∨ q = 14 ∨ q = 15) → cTa g N.length N.length q = g q := fun q hq => cTa_o _ q (by omega) (by omega)
        generalize cTa g N.length N.length = g1 at hq1
        have ht1 : TrOK g1 N := TrOK_cells htg (fun q hq' => hq1 q (by omega))
        refine s_X2_allLoopsAreSafe (by omega) ht1.1 hN (fun t ht hz => ?_) (fun hall2 => ?_)
        · refine ⟨fun e => absurd rfl e, fun _ => ⟨trivial, ?_⟩⟩
          have hq : ∀ q, ¬ (q = 12 ∨ q = 13 ∨ q = 14 ∨ q = 15) → cCd g1 (t + 1) q = g q := fun q hq => by rw [cCd_o _ q (by omega), hq1 q hq]
          have := hgood N a T L _ S ho hA hC hS hS2 _ (frT_of hfg hq) (TrOK_cells htg (fun q hq' => hq q (by omega)))
          refine mvq this ?_
          have hu : unsB N ((cCd g N.length) 12) t := Classical.not_not.mp (fun w => hz ((sf_iff hN hs ht1 hC ht).mpr w))
          unfold refV
          rw [if_neg hnl, if_pos ⟨t, ht, hu⟩]
        · have hnu : ¬ ∃ i, i < N.length ∧ unsB N ((cCd g N.length) 12) i := by
            intro ⟨i, hi, hb⟩
            exact (sf_iff hN hs ht1 hC hi).mp (hall2 i hi) hb
          refine ⟨fun _ => ?_, fun e => absurd e (by decide)⟩
          refine hK _ _ _ _ ?_
          have hq2 : ∀ q, ¬ (q = 12 ∨ q = 13 ∨ q = 14 ∨ q = 15) → cCd g1 N.length q = g q := fun q hq => by rw [cCd_o _ q (by omega), hq1 q hq]
          generalize cCd g1 N.length = g2 at hq2
          have ht2 : TrOK g2 N := TrOK_cells htg (fun q hq' => hq2 q (by omega))
          refine s_X2_thingsOfAll (by omega) ht2.1 hN ?_
          have hq : ∀ q, ¬ (q = 12 ∨ q = 13 ∨ q = 14 ∨ q = 15) → cTh g2 N.length q = g q := fun q hq => by rw [cTh_o _ q (by omega), hq2 q hq]
          have hv : cIns (cTh g2 N.length) 13 (nI N.length - 1) = nI (S (N.length - 1)) := by
            have e1 : nI N.length - 1 = nI (N.length - 1) := by
              have := nI_pred (N.length - 1)
              rwa [show N.length - 1 + 1 = N.length by omega] at this
            rw [e1, cIns_sub (i := N.length) hN (Or.inr ⟨N.length - 1, by omega, rfl⟩)]
            unfold subC
            rw [if_neg (nI_pos (by omega)), ix_nI (by omega), th_fold hN hs ht2 hS _ (by omega)]
          rw [hv]
          have := hgood N a T L _ S ho hA hC hS hS2 _ (frT_of hfg hq) (TrOK_cells htg (fun q hq' => hq q (by omega)))
          unfold refV at this
          rw [if_neg hnl, if_neg hnu] at this
          refine ⟨fun e => ?_, fun e => ?_⟩
          · have hle : ¬ 120 < S (N.length - 1) := by
              have := (nI_leI (b := 120) (by omega) (by decide)).mp e
              omega
            rw [if_neg hle] at this
            refine hK _ _ _ _ ?_
            exact hK _ _ _ _ ⟨trivial, this⟩
          · have hgt : 120 < S (N.length - 1) := by
              rcases Nat.lt_or_ge 120 (S (N.length - 1)) with z | z
              · exact z
              · exact absurd (nI_le (b := 120) z (by decide)) e
            rw [if_pos hgt] at this
            refine hK _ _ _ _ ?_
            exact ⟨trivial, this⟩
end R2
