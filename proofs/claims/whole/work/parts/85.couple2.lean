/-! BOTH SIDES AT ONCE: load, react, states -/
section CQ
variable {d : Nat} {h h' : mvH}
theorem cLd_0 {j : Nat} : cLd h 0 j = if j = 6 then 0 else if j = 5 then 1 else if j = 9 then 0 else if j = 8 then 0 else if j = 7 then 0 else h 0 j := by
  unfold cLd
  rw [cGtb_0, hset_at, hset_at, hset_at, hset_other (by decide), hset_other (by decide)]
theorem cLd_o {q : Nat} (hq : ¬ (q = 0 ∨ q = 1 ∨ q = 4 ∨ q = 6)) : cLd h q = h q := by
  unfold cLd
  rw [cGtb_o (by omega) (by omega), hset_other (by omega), hset_other (by omega), hset_other (by omega), hset_other (by omega), hset_other (by omega)]
set_option maxHeartbeats 4000000 in
theorem cp_load (hd : 430 ≤ d) (hI : INV h) : Pair d 86 115 [] [] h := by
  obtain ⟨⟨n, tx, t1, t2, t3, t4⟩, hT, hi, hp⟩ := hI
  have keep : ∀ h1 h2, frT h h1 → frM h1 h2 → INV h2 := by
    intro h1 h2 f1 f2
    have q2 : ∀ q, ¬ (q = 1 ∨ q = 2 ∨ (8 ≤ q ∧ q ≤ 15) ∨ q = 5 ∨ (34 ≤ q ∧ q ≤ 42)) → h2 q = h q := fun q hq => by rw [f2.1 q (by omega), f1.1 q (by omega)]
    have q5 : ∀ j, ¬ (j = 2 ∨ j = 9 ∨ j = 12 ∨ j = 14 ∨ j = 15 ∨ j = 16) → h2 5 j = h 5 j := fun j hj => by rw [f2.2 j hj, f1.1 5 (by decide)]
    refine ⟨Txt_q ⟨n, tx, t1, t2, t3, t4⟩ ?_ (q5 1 (by decide)) (q2 7 (by decide)) (q2 33 (by decide)), Tld_q hT (q2 0 (by decide)) (fun j hj => q5 j (by omega)), IW_q hi (q2 64 (by decide)), Prg_q hp (fun q hq => q2 q (by omega)) (fun j _ => by rw [q2 3 (by decide)]) (fun j hj => q5 j (by omega))⟩
    rw [f2.1 1 (by decide), f1.2.1 1 (by decide)]
  refine s_X4_load (by omega) (tx := tx) (n := n) ⟨t1, t3, fun j hj => ⟨(t4 j hj).1, (t4 j hj).2.2⟩⟩ (fun hb h1 f1 => ?_) (fun N a T L C S hp1 hA hC hS hS2 hneg h1 f1 => ?_) (fun N a T L C S hp1 hA hC hS hS2 hz h0 h1 f1 k1 hcnt hcon => ?_)
  · refine ⟨⟨_, rfl⟩, s_X5_load_bad (by omega) (tx := tx) (n := n) (by rw [f1.1 5 (by decide)]; exact t2) t3 (fun j hj => by rw [f1.1 33 (by decide)]; exact (t4 j hj).2.1) hb (fun h2 f2 => ⟨rfl, keep h1 h2 f1 f2⟩)⟩
  · refine ⟨⟨_, rfl⟩, s_X5_load_ok (by omega) (tx := tx) (n := n) (by rw [f1.1 5 (by decide)]; exact t2) t3 (fun j hj => by rw [f1.1 33 (by decide)]; exact (t4 j hj).2.1) hp1 hA hC hS hS2 (fun _ h2 f2 => ⟨rfl, keep h1 h2 f1 f2⟩) (fun z => ?_)⟩
    rw [z] at hneg; exact absurd hneg (by decide)
  · have e5 : cLd h1 5 = h 5 := by rw [cLd_o (by decide), k1 5 (by decide), f1.1 5 (by decide)]
    have e33 : cLd h1 33 = h 33 := by rw [cLd_o (by decide), k1 33 (by decide), f1.1 33 (by decide)]
    refine ⟨⟨_, rfl⟩, s_X5_load_ok (by omega) (tx := tx) (n := n) (by rw [e5]; exact t2) t3 (fun j hj => by rw [e33]; exact (t4 j hj).2.1) hp1 hA hC hS hS2 (fun z => ?_) (fun _ hTF h2 f2 r1 r26 r45 r46 r47 r50 r51 r52 r42 r43 r44 r48 r62 r17 r25 rM => ⟨rfl, ?_, ?_, ?_, Or.inr ⟨pgT N, pgS N, fun _ => false, hTF, ?_, rM, r17, r25, r26, ?_, ?_, r62, fun _ _ => rfl, ?_⟩⟩)⟩
    · rw [hz] at z; exact absurd z (by decide)
    · refine ⟨0, tx, ?_, r1, by omega, fun j hj => by omega⟩
      rw [f2 1 (by decide)]
      unfold cLd
      rw [cGtb_o (by decide) (by decide), hset_other (by decide), hset_other (by decide), hset_other (by decide), hset_at, if_pos rfl]
      rfl
    · unfold Tld
      rw [f2 0 (by decide), cLd_0, cLd_0, cLd_0, cLd_0, r48, r45, r46, r47]
      exact ⟨rfl, rfl, rfl, rfl⟩
    · exact IW_q hi (by rw [f2 64 (by decide), cLd_o (by decide), k1 64 (by decide), f1.1 64 (by decide)])
    · have hst := st_ok N N.length (N.length - 1) 0 (-1) (fun _ => 0) (pgT N).length (by rw [Nat.zero_add]; exact Nat.le_refl _)
      have e3 : h2 3 = h1 3 := by rw [f2 3 (by decide), cLd_o (by decide)]
      have eq : ∀ q, 16 ≤ q → q ≤ 21 → h2 q = h1 q := fun q z1 z2 => by rw [f2 q (by omega), cLd_o (by omega)]
      refine ⟨?_, fun t ht => ?_, stT_len N _ _ _ _ _, ?_, fun v hv => ?_, fun i y hiy => ?_⟩
      · rw [e3]
        unfold LyCnt at hcnt
        rw [Nat.zero_add, Nat.zero_add, Nat.zero_add] at hcnt
        exact hcnt
      · have := hcon.1 t _ (tA_some ht)
        rw [Nat.zero_add] at this
        rw [eq 16 (by decide) (by decide), eq 17 (by decide) (by decide), eq 18 (by decide) (by decide), eq 19 (by decide) (by decide), eq 20 (by decide) (by decide)]
        exact this
      · have := hst.1
        rw [Nat.zero_add] at this
        exact this
      · exact hst.2 v (Nat.zero_le _) (by rw [Nat.zero_add]; exact hv)
      · rw [eq 21 (by decide) (by decide)]
        have := hcon.2 i y hiy
        rwa [Nat.zero_add] at this
    · exact Or.inl ⟨by rw [f2 0 (by decide), cLd_0]; rfl, r42, r43, r44⟩
    · refine WRD_0 (fun w hw => ?_)
      rw [f2 6 (by decide), Nat.zero_add]
      unfold cLd
      exact cGtb_6 hw
    · refine Or.inl ⟨?_, r50, r51, r52⟩
      rw [f2 4 (by decide)]
      unfold cLd
      rw [cGtb_o (by decide) (by decide), hset_other (by decide), hset_other (by decide), hset_other (by decide), hset_other (by decide), hset_at, if_pos rfl]
theorem sh_iff {x : Int32} {l : Nat} (hl : l < 32) : (mvsh x (nI l) &&& 1 = 1) ↔ bt x l = true := by
  rw [sh_1 _ hl]
  cases bt x l
  · exact ⟨fun z => absurd z (by decide), fun z => (by cases z)⟩
  · exact ⟨fun _ => rfl, fun _ => rfl⟩
set_option maxHeartbeats 8000000 in
theorem cp_react (hd : 430 ≤ d) (hI : INV h) (x : Int32) : Pair d 87 134 [.inl x] [.inl x] h := by
  have hI0 := hI
  obtain ⟨hX, hTl, hi, hp⟩ := hI
  rcases hp with hn | ⟨A, S, rg, hT, y2, y3, y4, y5, y6, y7, y8, y9, y10, y11⟩
  · have h05 := hn.1
    refine s_X4_react (n := 0) (sc := 0) (sg := 0) (by omega) x (fun _ => ⟨⟨_, rfl⟩, s_X5_react_no (by omega) x (Or.inl hn.2.1) ⟨rfl, hI0⟩⟩) (fun z => ?_) (fun z => ?_)
    · rw [h05] at z; rcases z with z | z <;> exact absurd z (by decide)
    · rw [h05] at z; rcases z with z | z <;> exact absurd z (by decide)
  · have hA := hT.1
    have hw := CPr_WB hT y2
    refine s_X4_react (n := A.length) (sc := 2 * A.length) (sg := 8 + cntK 8 A) (by omega) x (fun z => ⟨⟨_, rfl⟩, s_X5_react_no (by omega) x ?_ ⟨rfl, hI0⟩⟩) (fun _ => hw) (fun hph x0 x15 g hg => ?_)
    · rcases z with z | z | z
      · rcases y7 with ⟨s1, -⟩ | ⟨s1, -⟩ | ⟨s1, s2, s3, s4⟩
        · exact absurd (Or.inl s1) z
        · exact absurd (Or.inr s1) z
        · exact Or.inr (Or.inl (by rw [s4]; decide))
      · exact Or.inr (Or.inr (Or.inl z))
      · exact Or.inr (Or.inr (Or.inr z))
    · obtain ⟨l, hl31, rfl⟩ := nI_of x0
      have hl : l < 16 := by
        rcases Nat.lt_or_ge l 16 with z | z
        · exact z
        · exact absurd (show (15 : Int32) < nI l from nI_lt (a := 15) (by omega) hl31) x15
      -- the stage
      obtain ⟨st, hst1, hst2, h44⟩ : ∃ st : Bool, (if h 0 5 = 2 then (1 : Int32) else 0) = b1I (!st) ∧ h 5 42 = b1I st ∧ h 5 44 = 0 := by
        rcases y7 with ⟨s1, s2, s3, s4⟩ | ⟨s1, s2, s3, s4⟩ | ⟨s1, s2, s3, s4⟩
        · exact ⟨true, by rw [s1]; rfl, s2, s4⟩
        · exact ⟨false, by rw [s1]; rfl, s2, s4⟩
        · rw [s1] at hph; rcases hph with z | z <;> exact absurd z (by decide)
      rw [hst1] at hg
      have hr : RG A rg st g := by rw [hg]; exact RG_run (q := 6) (b := 0) hT y2 hi (Or.inl ⟨rfl, rfl⟩) y8
      have hf : frI h g := by rw [hg]; exact cRun_fr
      obtain ⟨u1, u2, u3, u4, u5, u6, u7⟩ := RG_ok hT hr hl
      have gq : ∀ q, ¬ (q = 3 ∨ (23 ≤ q ∧ q ≤ 30)) → g q = h q := fun q hq => hf.1 q (by omega)
      -- the told heap
      have tq : ∀ q, ¬ q = 0 → cTold g (nI l) A.length (8 + cntK 8 A) q = g q := fun q hq => cTold_o hq
      have t0 : ∀ j, cTold g (nI l) A.length (8 + cntK 8 A) 0 j = if j = 9 then nI (aD A rg l st) else if j = 8 then oW (aU A rg l st) 4 else if j = 7 then oW (aO A rg l st) 4 else h 0 j := by
        intro j
        unfold cTold
        rw [hset_at, hset_at, hset_at, u2, u3, u4, gq 0 (by decide)]
      generalize cTold g (nI l) A.length (8 + cntK 8 A) = g1 at tq t0 ⊢
      have bd : (mvsh (cUnS g (cUnd g A.length) (8 + cntK 8 A)) (nI l) &&& 1 = 1) ↔ ¬ aD A rg l st = 0 := by
        rw [sh_iff (by omega), u1]
        by_cases z : aD A rg l st = 0
        · rw [decide_eq_true z]; exact ⟨fun q => (by cases q), fun q => absurd z q⟩
        · rw [decide_eq_false z]; exact ⟨fun _ => z, fun _ => rfl⟩
      have be : (mvsh (cEl g) (nI l) &&& 1 = 1) ↔ aE A rg l st = true := by rw [sh_iff (by omega), u5]
      -- the reference's part, from a heap that has the class's cells changed alone
      have mdl : ∀ (v : Int32) (g2 : mvH), (∀ q, ¬ (q = 0 ∨ q = 3 ∨ q = 6 ∨ (23 ≤ q ∧ q ≤ 30)) → g2 q = h q) → (∀ j, j ≠ 19 → g2 3 j = h 3 j) → g2 0 7 = oW (aO A rg l st) 4 → g2 0 8 = oW (aU A rg l st) 4 → g2 0 9 = nI (aD A rg l st) → (if aD A rg l st = 0 then (v = b1I (aE A rg l st) ∧ g2 0 5 = (if aE A rg l st = true then 3 else 2) ∧ g2 0 6 = h 0 6 + 1 ∧ WRD g2 6 0 (nxR A rg l st)) else (v = 2 ∧ g2 0 5 = h 0 5 ∧ g2 0 6 = h 0 6 ∧ g2 6 = h 6)) → (∃ w, some (Sum.inl v : mvV) = some (.inl w)) ∧ mvCal mvMT d 134 [.inr 5, .inl (nI l)] g2 (fun r2 h2 => r2 = some (.inl v) ∧ INV h2) := by
        intro v g2 a1 a2 a7 a8 a9 hcase
        refine ⟨⟨v, rfl⟩, ?_⟩
        refine s_X5_react (rg := rg) (st := st) (inp := l) (by omega) hT (MdCon_q y3 (fun q z1 z2 => a1 q (by omega))) (by rw [a1 5 (by decide)]; exact y4) (by rw [a1 5 (by decide)]; exact y5) hl (by rw [a1 5 (by decide), y6]; decide) (by rw [a1 5 (by decide)]; exact h44) (by rw [a1 5 (by decide)]; exact hst2) (by rw [a1 62 (by decide)]; exact y9) y10 (fun h2 f1 f2 r45 r46 r47 => ⟨fun hd0 r42 r43 r44 r48 r62 => ?_, fun hd0 r42 r43 r44 r48 r62 => ?_⟩)
        · rw [if_neg hd0] at hcase
          obtain ⟨hv, c5, c6, c66⟩ := hcase
          refine ⟨by rw [hv], ?_, ?_, ?_, Or.inr ⟨A, S, rg, hT, ?_, ?_, ?_, ?_, ?_, ?_, ?_, r62, y10, ?_⟩⟩
          · exact Txt_q hX (by rw [f1 1 (by decide), a1 1 (by decide)]) (by rw [f2 1 (by decide), a1 5 (by decide)]) (by rw [f1 7 (by decide), a1 7 (by decide)]) (by rw [f1 33 (by decide), a1 33 (by decide)])
          · unfold Tld
            rw [f1 0 (by decide), c6, a7, a8, a9, r45, r46, r47, r48, a1 5 (by decide)]
            exact ⟨hTl.1, rfl, rfl, rfl⟩
          · exact IW_q hi (by rw [f1 64 (by decide), a1 64 (by decide)])
          · exact CPr_cells y2 (fun j hj => by rw [f1 3 (by decide)]; exact a2 j hj) (fun q z1 z2 => by rw [f1 q (by omega), a1 q (by omega)])
          · exact MdCon_q y3 (fun q z1 z2 => by rw [f1 q (by omega), a1 q (by omega)])
          · rw [f2 17 (by decide), a1 5 (by decide)]; exact y4
          · rw [f2 25 (by decide), a1 5 (by decide)]; exact y5
          · rw [f2 26 (by decide), a1 5 (by decide)]; exact y6
          · unfold Stg
            rw [f1 0 (by decide), c5, r42, r43, r44, a1 5 (by decide)]
            exact y7
          · unfold WRD
            rw [f1 6 (by decide), c66]; exact y8
          · unfold Srch
            rw [f1 4 (by decide), a1 4 (by decide), f2 50 (by decide), f2 51 (by decide), f2 52 (by decide), a1 5 (by decide)]
            exact y11
        · rw [if_pos hd0] at hcase
          obtain ⟨hv, c5, c6, c66⟩ := hcase
          refine ⟨by rw [hv], ?_, ?_, ?_, Or.inr ⟨A, S, nxR A rg l st, hT, ?_, ?_, ?_, ?_, ?_, ?_, ?_, r62, nxR_Cn, ?_⟩⟩
          · exact Txt_q hX (by rw [f1 1 (by decide), a1 1 (by decide)]) (by rw [f2 1 (by decide), a1 5 (by decide)]) (by rw [f1 7 (by decide), a1 7 (by decide)]) (by rw [f1 33 (by decide), a1 33 (by decide)])
          · unfold Tld
            rw [f1 0 (by decide), c6, a7, a8, a9, r45, r46, r47, r48, a1 5 (by decide)]
            exact ⟨by rw [hTl.1], rfl, rfl, rfl⟩
          · exact IW_q hi (by rw [f1 64 (by decide), a1 64 (by decide)])
          · exact CPr_cells y2 (fun j hj => by rw [f1 3 (by decide)]; exact a2 j hj) (fun q z1 z2 => by rw [f1 q (by omega), a1 q (by omega)])
          · exact MdCon_q y3 (fun q z1 z2 => by rw [f1 q (by omega), a1 q (by omega)])
          · rw [f2 17 (by decide), a1 5 (by decide)]; exact y4
          · rw [f2 25 (by decide), a1 5 (by decide)]; exact y5
          · rw [f2 26 (by decide), a1 5 (by decide)]; exact y6
          · unfold Stg
            rw [f1 0 (by decide), c5, r42, r43, r44]
            cases aE A rg l st
            · exact Or.inr (Or.inl ⟨rfl, rfl, rfl, rfl⟩)
            · exact Or.inr (Or.inr ⟨rfl, rfl, rfl, rfl⟩)
          · unfold WRD
            rw [f1 6 (by decide)]; exact c66
          · unfold Srch
            rw [f1 4 (by decide), a1 4 (by decide), f2 50 (by decide), f2 51 (by decide), f2 52 (by decide), a1 5 (by decide)]
            exact y11
      have g13 : ∀ j, j ≠ 19 → g1 3 j = h 3 j := fun j hj => by rw [tq 3 (by decide)]; exact hf.2 j hj
      refine ⟨fun z => ?_, fun z z2 => ?_, fun z z2 => ?_⟩
      · have hd0 := bd.mp z
        refine mdl 2 g1 (fun q hq => by rw [tq q (by omega), gq q (by omega)]) g13 (by rw [t0]; rfl) (by rw [t0]; rfl) (by rw [t0]; rfl) ?_
        rw [if_neg hd0]
        exact ⟨rfl, by rw [t0]; rfl, by rw [t0]; rfl, by rw [tq 6 (by decide), gq 6 (by decide)]⟩
      · have hd0 : aD A rg l st = 0 := by
          by_cases w : aD A rg l st = 0
          · exact w
          · exact absurd (bd.mpr w) z
        have hE := be.mp z2
        have k0 : ∀ j, (hfill (hset (hset g1 0 6 (h 0 6 + 1)) 0 5 3) 6 4 0) 0 j = if j = 5 then 3 else if j = 6 then h 0 6 + 1 else g1 0 j := fun j => by rw [hfill_o (by decide), hset_at, hset_at]
        have kq : ∀ q, ¬ (q = 0 ∨ q = 6) → (hfill (hset (hset g1 0 6 (h 0 6 + 1)) 0 5 3) 6 4 0) q = g1 q := fun q hq => by rw [hfill_o (by omega), hset_other (by omega), hset_other (by omega)]
        have k6 : ∀ w, w < 4 → (hfill (hset (hset g1 0 6 (h 0 6 + 1)) 0 5 3) 6 4 0) 6 w = 0 := fun w hw => hfill_at hw
        generalize hfill (hset (hset g1 0 6 (h 0 6 + 1)) 0 5 3) 6 4 0 = g2 at *
        refine mdl 1 g2 (fun q hq => by rw [kq q (by omega), tq q (by omega), gq q (by omega)]) (fun j hj => by rw [kq 3 (by decide)]; exact g13 j hj) (by rw [k0, t0]; rfl) (by rw [k0, t0]; rfl) (by rw [k0, t0]; rfl) ?_
        rw [if_pos hd0, hE]
        refine ⟨rfl, by rw [k0]; rfl, by rw [k0]; rfl, ?_⟩
        unfold nxR
        rw [if_pos hE]
        exact WRD_0 (fun w hw => by rw [Nat.zero_add]; exact k6 w hw)
      · have hd0 : aD A rg l st = 0 := by
          by_cases w : aD A rg l st = 0
          · exact w
          · exact absurd (bd.mpr w) z
        have hE : aE A rg l st = false := by
          cases w : aE A rg l st
          · rfl
          · exact absurd (be.mpr w) z2
        have b0 : ∀ j, (hset (hset g1 0 6 (h 0 6 + 1)) 0 5 2) 0 j = if j = 5 then 2 else if j = 6 then h 0 6 + 1 else g1 0 j := fun j => by rw [hset_at, hset_at]
        have bq : ∀ q, ¬ q = 0 → (hset (hset g1 0 6 (h 0 6 + 1)) 0 5 2) q = g1 q := fun q hq => by rw [hset_other hq, hset_other hq]
        generalize hset (hset g1 0 6 (h 0 6 + 1)) 0 5 2 = g2 at *
        have hr2 : RG A rg st g2 := RG_cells hr (by rw [bq 3 (by decide), tq 3 (by decide)]) (fun q z1 z2 => by rw [bq q (by omega), tq q (by omega)])
        have hw6 := (RG_ok hT hr2 hl).2.2.2.2.2.2 6 (Or.inl rfl)
        have co := cCp_o (h := g2) (q := 6) (l := nI l) A.length
        generalize cCp g2 6 (nI l) A.length = g3 at *
        refine mdl 0 g3 (fun q hq => by rw [co q (by omega), bq q (by omega), tq q (by omega), gq q (by omega)]) (fun j hj => by rw [co 3 (by decide), bq 3 (by decide)]; exact g13 j hj) (by rw [co 0 (by decide), b0, t0]; rfl) (by rw [co 0 (by decide), b0, t0]; rfl) (by rw [co 0 (by decide), b0, t0]; rfl) ?_
        rw [if_pos hd0, hE]
        refine ⟨rfl, by rw [co 0 (by decide), b0]; rfl, by rw [co 0 (by decide), b0]; rfl, ?_⟩
        unfold nxR
        rw [hE, if_neg (by decide)]
        exact hw6
end CQ
