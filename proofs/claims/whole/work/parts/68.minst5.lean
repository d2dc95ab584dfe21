/-! THE REFERENCE's instant -/
section MI6
variable {d : Nat} {h h' : mvH} {Q : Option mvV → mvH → Prop} {A : List Th} {se : Nat → B2} {inp : Nat} {st : Bool}
theorem MS_q (hm : MS A se inp h) (hf : ∀ q, ((43 ≤ q ∧ q ≤ 49) ∨ q = 56 ∨ q = 60) → h' q = h q) (h17 : h' 5 17 = h 5 17) (h37 : h' 5 37 = h 5 37) : MS A se inp h' := by
  obtain ⟨m1, m2, m3, m4, m5, m6⟩ := hm
  refine ⟨fun j x hx => ?_, by rw [h17]; exact m2, by rw [hf 56 (by decide)]; exact m3, by rw [h37]; exact m4, m5, by rw [hf 60 (by decide), hf 56 (by decide)]; exact m6⟩
  rw [hf 43 (by decide), hf 44 (by decide), hf 45 (by decide), hf 46 (by decide), hf 47 (by decide), hf 48 (by decide), hf 49 (by decide)]
  exact m1 j x hx
theorem V3s_q (hv : V3s A h) (hf : ∀ q, (q = 53 ∨ q = 54 ∨ q = 55 ∨ q = 57 ∨ q = 58) → h' q = h q) : V3s A h' :=
  ⟨fun q hq t ht => by rw [hf q (by omega)]; exact hv.1 q hq t ht, fun j hj => by rw [hf 57 (by decide)]; exact hv.2.1 j hj, fun w hw => by rw [hf 58 (by decide)]; exact hv.2.2 w hw⟩
theorem EX_q (hf : ∀ q, (q = 53 ∨ q = 54 ∨ q = 55 ∨ q = 57 ∨ q = 58) → h' q = h q) : eqV (VW A) (EX h') (EX h) := fun q j hq => by
  unfold EX
  rw [hf q (by rcases hq with ⟨z | z | z, -⟩ | ⟨z, -⟩ | ⟨z, -⟩ <;> omega)]
theorem cnt_take_lt {A : List Th} (k : Int32) {t t' : Nat} (h : t < t') (ht : t < A.length) (hk : (tA A t).1 = k) : cntK k (A.take t) < cntK k (A.take t') := by
  have h1 : A.take t' = A.take (t + 1) ++ (A.take t').drop (t + 1) := by
    have := List.take_append_drop (t + 1) (A.take t')
    rw [List.take_take, Nat.min_eq_left (by omega)] at this
    exact this.symm
  rw [h1, cntK_app]
  have h2 : A.take (t + 1) = A.take t ++ [tA A t] := by
    rw [List.take_add_one, tA_some ht]; rfl
  rw [h2, cntK_app, cntK_cons, if_pos hk]
  omega
theorem cnt_take_le {A : List Th} (k : Int32) (t : Nat) : cntK k (A.take t) ≤ t := by
  unfold cntK
  exact Nat.le_trans List.countP_le_length (List.length_take_le _ _)
theorem pOr_z {a : B2} : pOr zB a = a := by obtain ⟨a1, a2⟩ := a; cases a1 <;> cases a2 <;> rfl
theorem pOr_z2 {a : B2} : pOr a zB = a := by obtain ⟨a1, a2⟩ := a; cases a1 <;> cases a2 <;> rfl
theorem b1I_v3 (b : Bool) : v3 (b1I b) := by cases b; exact v3_0; exact v3_1
theorem b1I_enc (b : Bool) : enc (b1I b) = (b, !b) := by cases b <;> rfl
theorem b1I_01 (b : Bool) : b1I b = 0 ∨ b1I b = 1 := by cases b; exact Or.inl rfl; exact Or.inr rfl
theorem thK_leaf1 {x : Th} (h : thK x) (e : x.1 = 1) : x.2.2.2.1 = -1 ∧ x.2.2.2.2.1 = -1 := by
  rcases h with ⟨-, z⟩ | ⟨z | z | z, -⟩ | ⟨z | z | z | z, -⟩
  · exact z
  all_goals rw [e] at z; exact absurd z (by decide)
/-- what the reference has set by the time that it sweeps -/
def MIn (A : List Th) (rg : Nat → Bool) (h g : mvH) (i : Nat) : Prop := (∀ q, ¬ (q = 5 ∨ (53 ≤ q ∧ q ≤ 59) ∨ q = 61) → g q = h q) ∧ (∀ j, ¬ (j = 37 ∨ j = 38) → g 5 j = h 5 j) ∧ ∀ t, i ≤ t → t < A.length → (v3 (g 56 t) ∧ enc (g 56 t) = seV A rg t) ∧ g 53 t = 2 ∧ g 54 t = 2 ∧ g 55 t = 2
set_option maxHeartbeats 16000000 in
theorem s_X5_instant (hd : 6 ≤ d) (hT : TF A) (hM : MdCon h 0 0 A) (h17 : h 5 17 = nI A.length) {rg : Nat → Bool} (hi : inp < 16) (hrg : ∀ t, t < A.length → (tA A t).1 = 1 → h 60 (cntK 1 (A.take t)) = b1I (rg (cntK 1 (A.take t))))
    (hQ : ∀ h', (∀ q, ¬ (q = 5 ∨ (53 ≤ q ∧ q ≤ 59) ∨ q = 61) → h' q = h q) → (∀ j, ¬ (j = 37 ∨ j = 38) → h' 5 j = h 5 j) → MS A (seV A rg) inp h' → V3s A h' → INS A rg inp st (EX h') → (dimX A (EX h') = 0 → ∀ t, t < A.length → (tA A t).1 = 1 → h' 61 (cntK 1 (A.take t)) = b1I (nxT A rg (EX h') t)) → Q (some (.inl (if dimX A (EX h') = 0 then h' 57 0 else 2))) h') : mvCal mvMT d 129 [.inr 5, .inl (b1I st), .inl (nI inp)] h Q := by
  obtain ⟨d, rfl⟩ := d_pos hd (by decide)
  have hA := hT.1
  have hA0 := hT.2.1
  have hse : ∀ t, bco (seV A rg t) := fun t => tot_co (seV_tot t)
  have hF : FOK (VW A) (FW A (seV A rg) inp st) := FW_ok hT hse
  refine ⟨⟨rfl, by decide, rfl⟩, Nat.le_of_ble_eq_true rfl, fun K hK => hK _ _ _ _ ?_⟩
  -- what stays
  have l397 : ∀ k i, i + k = A.length → ∀ (g0 g : mvH), MS A (seV A rg) inp g0 → V3s A g0 → INS A rg inp st (EX g0) → dimX A (EX g0) = 0 → (∀ q, ¬ (q = 5 ∨ (53 ≤ q ∧ q ≤ 59) ∨ q = 61) → g0 q = h q) → (∀ j, ¬ (j = 37 ∨ j = 38) → g0 5 j = h 5 j) → (∀ q, ¬ q = 61 → g q = g0 q) → (∀ t, t < i → (tA A t).1 = 1 → g 61 (cntK 1 (A.take t)) = b1I (nxT A rg (EX g0) t)) → ∀ z4 z5 z6, K 397 [some (.inr 5), some (.inl (b1I st)), some (.inl (nI inp)), some (.inl (nI i)), z4, z5, z6] [] g := by
    intro k
    induction k with
    | zero =>
      intro i hi g0 g hm hv hI hdim f1 f2 hg hn z4 z5 z6
      have hs : g 5 17 = nI A.length := by rw [hg 5 (by decide)]; exact hm.2.1
      have he : eqV (VW A) (EX g) (EX g0) := EX_q (fun q hq => hg q (by omega))
      refine hK _ _ _ _ ⟨fun _ => ?_, fun e => absurd (show g 5 17 ≤ nI i by rw [hs, show i = A.length by omega]; exact Int32.le_refl _) e⟩
      refine hK _ _ _ _ ?_
      refine s_X5_k (by omega) (a := 0) (c := 0) (by decide) (by decide) ⟨trivial, ?_⟩
      have := hQ g (fun q hq => by rw [hg q (by omega)]; exact f1 q hq) (fun j hj => by rw [hg 5 (by decide)]; exact f2 j hj) (MS_q hm (fun q hq => hg q (by omega)) (by rw [hg 5 (by decide)]) (by rw [hg 5 (by decide)])) (V3s_q hv (fun q hq => hg q (by omega))) (LFP_congr hF (eqV_symm he) hI) (fun _ t ht hk => by rw [hn t (by omega) hk, nxT_congr hT he ht])
      rw [if_pos (by rw [dimX_congr he]; exact hdim)] at this
      exact this
    | succ k ih =>
      intro i hi g0 g hm hv hI hdim f1 f2 hg hn z4 z5 z6
      have hs : g 5 17 = nI A.length := by rw [hg 5 (by decide)]; exact hm.2.1
      have he : eqV (VW A) (EX g) (EX g0) := EX_q (fun q hq => hg q (by omega))
      have hm' : MS A (seV A rg) inp g := MS_q hm (fun q hq => hg q (by omega)) (by rw [hg 5 (by decide)]) (by rw [hg 5 (by decide)])
      have hv' : V3s A g := V3s_q hv (fun q hq => hg q (by omega))
      have hiN : i < A.length := by omega
      have hin : vp_in (nI i) 120 := vp_in_nI (by omega) (by decide)
      have ei : (nI i).toNatClampNeg = i := nI_clamp (by omega)
      obtain ⟨m43, _, _, _, _, _, m49⟩ := MS_at hm' hiN
      have c474 : ∀ (g2 : mvH) (z4 : Option mvV), (∀ q, ¬ q = 61 → g2 q = g0 q) → (∀ t, t < i + 1 → (tA A t).1 = 1 → g2 61 (cntK 1 (A.take t)) = b1I (nxT A rg (EX g0) t)) → K 474 [some (.inr 5), some (.inl (b1I st)), some (.inl (nI inp)), some (.inl (nI i)), z4, z5, z6] [] g2 := by
        intro g2 z4 a1 a2
        refine hK _ _ _ _ ?_
        conv => whnf
        rw [nI_1]
        exact ih (i + 1) (by omega) g0 g2 hm hv hI hdim f1 f2 a1 a2 z4 z5 z6
      refine hK _ _ _ _ ⟨fun e => absurd (show g 5 17 ≤ nI i from e) (by rw [hs]; exact nI_ge hiN (by omega)), fun _ => ⟨hin, ?_⟩⟩
      rw [ei, m43]
      refine ⟨fun e => ?_, fun e => ?_⟩
      · refine c474 g z4 hg (fun t ht hk => hn t ?_ hk)
        rcases Nat.lt_or_ge t i with z | z
        · exact z
        · exact absurd (by rw [show i = t by omega]; exact hk) e
      · refine ⟨hin, ?_⟩
        rw [ei, m49, if_pos e]
        have hc := cnt_take_le (A := A) 1 i
        have inc : vp_in (nI (cntK 1 (A.take i))) 120 := vp_in_nI (by omega) (by decide)
        have ec : (nI (cntK 1 (A.take i))).toNatClampNeg = cntK 1 (A.take i) := nI_clamp (by omega)
        have h60 : g 60 (cntK 1 (A.take i)) = b1I (rg (cntK 1 (A.take i))) := by rw [hg 60 (by decide), f1 60 (by decide)]; exact hrg i hiN e
        have c473 : K 473 [some (.inr 5), some (.inl (b1I st)), some (.inl (nI inp)), some (.inl (nI i)), some (.inl (nI (cntK 1 (A.take i)))), z5, z6] [.inl (b1I (nxT A rg (EX g0) i)), .inl (nI (cntK 1 (A.take i))), .inr 61] g := by
          refine hK _ _ _ _ ⟨inc, ?_⟩
          rw [ec]
          refine c474 (hset g 61 (cntK 1 (A.take i)) (b1I (nxT A rg (EX g0) i))) _ (fun q hq => by rw [hset_other hq, hg q hq]) (fun t ht hk => ?_)
          rw [hset_at]
          by_cases hti : t = i
          · rw [hti, if_pos rfl]
          · have := cnt_take_lt (A := A) 1 (show t < i by omega) (by omega) hk
            rw [if_neg (by omega)]
            exact hn t (by omega) hk
        have hx : nxT A rg (EX g0) i = ((decide (g 53 i = 1) || (decide (g 55 i = 1) && rg (cntK 1 (A.take i)))) && !kil A (EX g) 120 i) := by
          rw [← nxT_congr hT he hiN]
          unfold nxT
          rw [show (EX g 53 i).1 = decide (g 53 i = 1) from enc_one (hv'.1 53 (by decide) i hiN), show (EX g 55 i).1 = decide (g 55 i = 1) from enc_one (hv'.1 55 (by decide) i hiN)]
        rw [hx] at c473
        have c472 : ((decide (g 53 i = 1) || (decide (g 55 i = 1) && rg (cntK 1 (A.take i)))) && !kil A (EX g) 120 i) = false → K 472 [some (.inr 5), some (.inl (b1I st)), some (.inl (nI inp)), some (.inl (nI i)), some (.inl (nI (cntK 1 (A.take i)))), z5, z6] [.inl (nI (cntK 1 (A.take i))), .inr 61] g := by
          intro q
          rw [q] at c473
          refine hK _ _ _ _ ?_
          exact c473
        have c468 : ((decide (g 53 i = 1) || (decide (g 55 i = 1) && rg (cntK 1 (A.take i)))) && !kil A (EX g) 120 i) = true → K 468 [some (.inr 5), some (.inl (b1I st)), some (.inl (nI inp)), some (.inl (nI i)), some (.inl (nI (cntK 1 (A.take i)))), z5, z6] [.inl (nI (cntK 1 (A.take i))), .inr 61] g := by
          intro q
          rw [q] at c473
          refine hK _ _ _ _ ?_
          exact c473
        refine s_X5_killed (by omega) hT hm' hv' hiN ?_
        cases hkl : kil A (EX g) 120 i with
        | true =>
          refine ⟨fun _ => ?_, fun q => absurd (show b1I true = 0 from q) (by decide)⟩
          exact c472 (by rw [hkl, Bool.not_true, Bool.and_false])
        | false =>
          refine ⟨fun q => absurd rfl q, fun _ => ⟨hin, ?_⟩⟩
          rw [ei]
          rw [hkl, Bool.not_false, Bool.and_true] at c472 c468
          refine ⟨fun e1 => ?_, fun e1 => ⟨hin, ?_⟩⟩
          · exact c468 (by rw [decide_eq_true e1, Bool.true_or])
          · rw [ei]
            rw [decide_eq_false e1, Bool.false_or] at c472 c468
            refine ⟨fun e2 => ?_, fun e2 => ⟨inc, ?_⟩⟩
            · exact c472 (by rw [decide_eq_false e2, Bool.false_and])
            · rw [ec, h60]
              rw [decide_eq_true e2, Bool.true_and] at c472 c468
              cases hr : rg (cntK 1 (A.take i)) with
              | true =>
                refine ⟨fun q => absurd rfl q, fun _ => ?_⟩
                rw [hr] at c473
                refine hK _ _ _ _ ?_
                rw [hkl, decide_eq_false e1, decide_eq_true e2] at c473
                exact c473
              | false =>
                refine ⟨fun _ => c472 hr, fun q => absurd (show b1I false = 1 from q) (by decide)⟩
  -- the sweeps have ended
  have l386 : ∀ (g : mvH), MS A (seV A rg) inp g → V3s A g → INS A rg inp st (EX g) → (∀ q, ¬ (q = 5 ∨ (53 ≤ q ∧ q ≤ 59) ∨ q = 61) → g q = h q) → (∀ j, ¬ (j = 37 ∨ j = 38) → g 5 j = h 5 j) → ∀ z3 z4 z5 z6, K 386 [some (.inr 5), some (.inl (b1I st)), some (.inl (nI inp)), z3, z4, z5, z6] [] g := by
    intro g hm hv hI f1 f2 z3 z4 z5 z6
    refine hK _ _ _ _ ?_
    refine s_X5_dim (by omega) hT hm hv ?_
    have hb : dimX A (EX g) < 2000 := by
      have h1 : sumN (dimT A (EX g)) A.length ≤ 8 * A.length := sumN_le _ (fun i _ => dimT_le i)
      have h2 : sumN (fun w => unk (EX g 58 w)) 4 ≤ 1 * 4 := sumN_le 4 (fun i _ => unk_le)
      unfold dimX
      omega
    refine ⟨fun e => ?_, fun e => ⟨trivial, ?_⟩⟩
    · have h0 : dimX A (EX g) = 0 := by
        rcases Nat.eq_zero_or_pos (dimX A (EX g)) with z | z
        · exact z
        · exact absurd e (nI_ge (b := dimX A (EX g)) (a := 0) z (by omega))
      refine hK _ _ _ _ ?_
      exact l397 A.length 0 (by omega) g g hm hv hI h0 f1 f2 (fun _ _ => rfl) (fun t ht => by omega) z4 z5 z6
    · have h0 : ¬ dimX A (EX g) = 0 := fun z => e (by rw [z]; decide)
      have := hQ g f1 f2 hm hv hI (fun z => absurd z h0)
      rw [if_neg h0] at this
      exact this
  -- the sweeps
  have l220 : ∀ m k, k + m = 4000 → ∀ (g : mvH) (Xs : Nat → Va), MS A (seV A rg) inp g → V3s A g → swq (VW A) (FW A (seV A rg) inp st) Xs k → eqV (VW A) (Xs k) (EX g) → (g 5 38 = 0 → INS A rg inp st (EX g)) → (∀ q, ¬ (q = 5 ∨ (53 ≤ q ∧ q ≤ 59) ∨ q = 61) → g q = h q) → (∀ j, ¬ (j = 37 ∨ j = 38) → g 5 j = h 5 j) → ∀ z4 z5 z6, K 220 [some (.inr 5), some (.inl (b1I st)), some (.inl (nI inp)), some (.inl (nI k)), z4, z5, z6] [] g := by
    intro m
    induction m with
    | zero =>
      intro k hk g Xs hm hv hsw hX h38 f1 f2 z4 z5 z6
      have hk : k = 4000 := by omega
      subst hk
      have hI : INS A rg inp st (EX g) := LFP_congr hF hX (seq_end hF hsw VLs_ok (Nat.lt_of_le_of_lt (VLs_len hA) (by decide)))
      refine hK _ _ _ _ ⟨fun _ => ?_, fun e => absurd (by decide) e⟩
      exact l386 g hm hv hI f1 f2 _ _ _ _
    | succ m ih =>
      intro k hk g Xs hm hv hsw hX h38 f1 f2 z4 z5 z6
      refine hK _ _ _ _ ⟨fun _ => ?_, fun _ => ⟨fun e => ?_, fun e => ?_⟩⟩
      · exact absurd ‹_› (nI_ge (b := 4000) (by omega) (by omega))
      · exact l386 g hm hv (h38 e) f1 f2 _ _ _ _
      · refine ⟨Or.inl rfl, ?_⟩
        -- the heap with the flag taken back
        have hm0 : MS A (seV A rg) inp (hset g 5 38 0) := MS_q hm (fun q hq => hset_other (by omega)) (by rw [hset_at, if_neg (by decide)]) (by rw [hset_at, if_neg (by decide)])
        have hv0 : V3s A (hset g 5 38 0) := V3s_q hv (fun q hq => hset_other (by omega))
        have he0 : eqV (VW A) (EX (hset g 5 38 0)) (EX g) := EX_q (fun q hq => hset_other (by omega))
        have h380 : (hset g 5 38 0) 5 38 = 0 := by rw [hset_at, if_pos rfl]
        have f10 : ∀ q, ¬ (q = 5 ∨ (53 ≤ q ∧ q ≤ 59) ∨ q = 61) → (hset g 5 38 0) q = h q := fun q hq => by rw [hset_other (by omega)]; exact f1 q hq
        have f20 : ∀ j, ¬ (j = 37 ∨ j = 38) → (hset g 5 38 0) 5 j = h 5 j := fun j hj => by rw [hset_at, if_neg (by omega)]; exact f2 j hj
        generalize hset g 5 38 0 = g0 at *
        have f1m : ∀ g2 l, MU A (FW A (seV A rg) inp st) g0 g2 l → ∀ q, ¬ (q = 5 ∨ (53 ≤ q ∧ q ≤ 59) ∨ q = 61) → g2 q = h q := fun g2 l hmu q hq => by rw [hmu.1.1 q (by omega)]; exact f10 q hq
        have f2m : ∀ g2 l, MU A (FW A (seV A rg) inp st) g0 g2 l → ∀ j, ¬ (j = 37 ∨ j = 38) → g2 5 j = h 5 j := fun g2 l hmu j hj => by rw [hmu.1.2 j (by omega)]; exact f20 j hj
        -- signals
        have c376 : ∀ (g2 : mvH) (l : List (Nat × Nat)), MU A (FW A (seV A rg) inp st) g0 g2 l → (∀ q t, (q = 53 ∨ q = 54 ∨ q = 55) → t < A.length → (q, t) ∈ l) → (∀ j, j < 6 * A.length → (57, j) ∈ l) → ∀ z4 z5 z6, K 376 [some (.inr 5), some (.inl (b1I st)), some (.inl (nI inp)), some (.inl (nI k)), z4, z5, z6] [] g2 := by
          intro g2 l hmu a1 a2 z4 z5 z6
          have hm2 : MS A (seV A rg) inp g2 := MS_fr hm0 hmu.1
          refine hK _ _ _ _ ?_
          refine s_X5_signals (F := FW A (seV A rg) inp st) (st := st) (by omega) hT hse rfl hm2 hmu.2.1 hmu.2.2.2.2.1 (fun g3 l3 hmu3 a3 => ?_)
          conv => whnf
          rw [nI_1]
          have hmu' := MU_trans hF hmu hmu3
          have hstep : eqV (VW A) (EX g3) (runU (FW A (seV A rg) inp st) (l ++ l3) (Xs k)) := eqV_trans hmu'.2.2.2.1 (runU_congr hF _ _ _ hmu'.2.2.1 (eqV_trans he0 (eqV_symm hX)))
          let Xs' : Nat → Va := fun n => if n ≤ k then Xs n else EX g3
          have hsw' : swq (VW A) (FW A (seV A rg) inp st) Xs' (k + 1) := by
            refine ⟨fun q j hq => ?_, fun n hn => ?_⟩
            · show (if 0 ≤ k then Xs 0 else EX g3) q j = _
              rw [if_pos (by omega)]; exact hsw.1 q j hq
            · by_cases hnk : n < k
              · obtain ⟨l0, b1, b2, b3⟩ := hsw.2 n hnk
                refine ⟨l0, b1, b2, ?_⟩
                show eqV _ (if n + 1 ≤ k then Xs (n + 1) else EX g3) (runU _ l0 (if n ≤ k then Xs n else EX g3))
                rw [if_pos (by omega), if_pos (by omega)]; exact b3
              · have hnk : n = k := by omega
                subst hnk
                refine ⟨l ++ l3, hmu'.2.2.1, fun q j hq => ?_, ?_⟩
                · rcases hq with ⟨z, z2⟩ | ⟨z, z2⟩ | z
                  · exact List.mem_append_left _ (a1 q j z z2)
                  · rw [z]; exact List.mem_append_left _ (a2 j z2)
                  · rw [z.1]; exact List.mem_append_right _ (a3 j (Or.inr (Or.inr ⟨rfl, z.2⟩)))
                · show eqV _ (if n + 1 ≤ n then Xs (n + 1) else EX g3) (runU _ (l ++ l3) (if n ≤ n then Xs n else EX g3))
                  rw [if_neg (by omega), if_pos (Nat.le_refl _)]; exact hstep
          have hX' : eqV (VW A) (Xs' (k + 1)) (EX g3) := by
            show eqV _ (if k + 1 ≤ k then Xs (k + 1) else EX g3) _
            rw [if_neg (by omega)]; exact fun _ _ _ => rfl
          refine ih (k + 1) (by omega) g3 Xs' (MS_fr hm0 hmu'.1) hmu'.2.1 hsw' hX' (fun z => ?_) (f1m g3 _ hmu') (f2m g3 _ hmu') z4 z5 z6
          have e0 := (hmu'.2.2.2.2.2 z).2
          have hst := seq_stop hF hsw' (k := k) (by omega) (eqV_trans hX' (eqV_trans e0 (by
            show eqV _ _ (if k ≤ k then Xs k else EX g3)
            rw [if_pos (Nat.le_refl _)]; exact eqV_trans he0 (eqV_symm hX))))
          have ek : Xs' k = Xs k := by show (if k ≤ k then Xs k else EX g3) = _; rw [if_pos (Nat.le_refl _)]
          rw [ek] at hst
          exact LFP_congr hF (eqV_trans hX (eqV_trans (eqV_symm he0) (eqV_symm e0))) hst
        -- out
        have l295 : ∀ i, i ≤ A.length → ∀ (g2 : mvH) (l : List (Nat × Nat)), MU A (FW A (seV A rg) inp st) g0 g2 l → (∀ q t, (q = 53 ∨ q = 54 ∨ q = 55) → t < A.length → (q, t) ∈ l) → (∀ j, 6 * i ≤ j → j < 6 * A.length → (57, j) ∈ l) → ∀ z5 z6, K 295 [some (.inr 5), some (.inl (b1I st)), some (.inl (nI inp)), some (.inl (nI k)), some (.inl (nI i - 1)), z5, z6] [] g2 := by
          intro i
          induction i with
          | zero =>
            intro _ g2 l hmu a1 a2 z5 z6
            refine hK _ _ _ _ ⟨fun _ => ?_, fun e => absurd (by decide) e⟩
            exact c376 g2 l hmu a1 (fun j hj => a2 j (by omega) hj) _ _ _
          | succ t iht =>
            intro hit g2 l hmu a1 a2 z5 z6
            have htN : t < A.length := by omega
            have hin6 : ∀ c, c < 6 → vp_in (nI (6 * t + c)) 720 := fun c hc => vp_in_nI (by omega) (by decide)
            have e6 : ∀ c, 6 * nI t + nI c = nI (6 * t + c) := fun c => by rw [show (6 : Int32) = nI 6 by decide, pk_mul, nI_add]
            have l303 : ∀ n c, c + n = 6 → ∀ (g3 : mvH) (l3 : List (Nat × Nat)), MU A (FW A (seV A rg) inp st) g0 g3 l3 → (∀ q t, (q = 53 ∨ q = 54 ∨ q = 55) → t < A.length → (q, t) ∈ l3) → (∀ j, (6 * (t + 1) ≤ j ∨ (6 * t ≤ j ∧ j < 6 * t + c)) → j < 6 * A.length → (57, j) ∈ l3) → ∀ z6, K 303 [some (.inr 5), some (.inl (b1I st)), some (.inl (nI inp)), some (.inl (nI k)), some (.inl (nI t)), some (.inl (nI c)), z6] [] g3 := by
              intro n
              induction n with
              | zero =>
                intro c hc g3 l3 hmu3 b1 b2 z6
                have hc : c = 6 := by omega
                subst hc
                refine hK _ _ _ _ ⟨fun _ => ?_, fun e => absurd (by decide) e⟩
                refine hK _ _ _ _ ?_
                have := iht (by omega) g3 l3 hmu3 b1 (fun j h1 h2 => b2 j (by omega) h2) (some (.inl (nI 6))) z6
                rw [show nI t - 1 = nI t + (-1) by rw [Int32.sub_eq_add_neg]] at this
                exact this
              | succ n ihn =>
                intro c hc g3 l3 hmu3 b1 b2 z6
                have hm3 : MS A (seV A rg) inp g3 := MS_fr hm0 hmu3.1
                refine hK _ _ _ _ ⟨fun e => absurd e (nI_ge (b := 6) (by omega) (by omega)), fun _ => ?_⟩
                refine s_X5_out (by omega) hT hm3 hmu3.2.1 htN (by omega) (fun v vv ev => ?_)
                have ev' : enc v = FW A (seV A rg) inp st (EX g3) 57 (6 * t + c) := by
                  rw [ev]
                  show _ = fK A (seV A rg) inp (EX g3) ((6 * t + c) / 6) ((6 * t + c) % 6)
                  rw [show (6 * t + c) / 6 = t by omega, show (6 * t + c) % 6 = c by omega]
                have c346 : ∀ fl : Int32, (fl = 0 ∨ fl = 1) → (fl = 0 → g3 5 38 = 0 ∧ g3 57 (6 * t + c) = v) → K 346 [some (.inr 5), some (.inl (b1I st)), some (.inl (nI inp)), some (.inl (nI k)), some (.inl (nI t)), some (.inl (nI c)), some (.inl v)] [.inl fl, .inr 5] g3 := by
                  intro fl hfl hfl0
                  refine hK _ _ _ _ ⟨hfl, ?_⟩
                  conv => whnf
                  rw [e6]
                  refine ⟨hin6 c (by omega), ?_⟩
                  rw [nI_clamp (by omega)]
                  conv => whnf
                  rw [nI_1]
                  have hmu4 := MU_trans hF hmu3 (MU_one (F := FW A (seV A rg) inp st) hmu3.2.1 (Or.inl rfl) (Or.inr (Or.inl ⟨rfl, by omega⟩)) vv ev' hfl hfl0)
                  refine ihn (c + 1) (by omega) (hset (hset g3 5 38 fl) 57 (6 * t + c) v) _ hmu4 (fun q u hq hu => List.mem_append_left _ (b1 q u hq hu)) (fun j h1 h2 => ?_) _
                  by_cases hj : j = 6 * t + c
                  · rw [hj]; exact List.mem_append_right _ (by simp)
                  · exact List.mem_append_left _ (b2 j (by omega) h2)
                have c341 : K 341 [some (.inr 5), some (.inl (b1I st)), some (.inl (nI inp)), some (.inl (nI k)), some (.inl (nI t)), some (.inl (nI c)), some (.inl v)] [.inr 5] g3 := by
                  refine hK _ _ _ _ ?_
                  exact c346 1 (Or.inr rfl) (fun z => absurd z (by decide))
                refine ⟨fun _ => c341, fun q => ?_⟩
                refine s_X5_k (by omega) (a := t) (c := c) (by omega) (by omega) ?_
                refine ⟨fun q2 => ?_, fun _ => c341⟩
                refine hK _ _ _ _ ?_
                exact c346 0 (Or.inl rfl) (fun _ => ⟨q, q2.symm⟩)
            rw [nI_pred]
            refine hK _ _ _ _ ⟨fun e => absurd e (nI_pos (by omega)), fun _ => ?_⟩
            exact l303 6 0 (by omega) g2 l hmu a1 (fun j h1 h2 => a2 j (by omega) h2) z6
        -- inward
        have l266 : ∀ n t, t + n = A.length → ∀ (g2 : mvH) (l : List (Nat × Nat)), MU A (FW A (seV A rg) inp st) g0 g2 l → (∀ q a, (q = 53 ∨ q = 54 ∨ q = 55) → a < A.length → (a = 0 ∨ ∃ p, p < t ∧ (tA A a).2.2.1 = nI p) → (q, a) ∈ l) → ∀ z5 z6, K 266 [some (.inr 5), some (.inl (b1I st)), some (.inl (nI inp)), some (.inl (nI k)), some (.inl (nI t)), z5, z6] [] g2 := by
          intro n
          induction n with
          | zero =>
            intro t ht g2 l hmu a1 z5 z6
            have hs : g2 5 17 = nI A.length := (MS_fr hm0 hmu.1).2.1
            refine hK _ _ _ _ ⟨fun _ => ?_, fun e => absurd (show g2 5 17 ≤ nI t by rw [hs, show t = A.length by omega]; exact Int32.le_refl _) e⟩
            refine hK _ _ _ _ ?_
            conv => whnf
            rw [hs]
            refine l295 A.length (Nat.le_refl _) g2 l hmu (fun q a hq ha => a1 q a hq ha ?_) (fun j h1 h2 => by omega) z5 z6
            rcases Nat.eq_zero_or_pos a with z | z
            · exact Or.inl z
            · obtain ⟨p, hp, e, -⟩ := (tf_at hT ha).2.1 z
              exact Or.inr ⟨p, by omega, e⟩
          | succ n ihn =>
            intro t ht g2 l hmu a1 z5 z6
            have htN : t < A.length := by omega
            have hm2 : MS A (seV A rg) inp g2 := MS_fr hm0 hmu.1
            refine hK _ _ _ _ ⟨fun e => absurd (show g2 5 17 ≤ nI t from e) (by rw [hm2.2.1]; exact nI_ge htN (by omega)), fun _ => ?_⟩
            refine s_X5_inward (F := FW A (seV A rg) inp st) (st := st) (by omega) hT hse rfl hm2 hmu.2.1 hmu.2.2.2.2.1 htN (fun g3 l3 hmu3 a3 => ?_)
            conv => whnf
            rw [nI_1]
            refine ihn (t + 1) (by omega) g3 _ (MU_trans hF hmu hmu3) (fun q a hq ha hx => ?_) z5 z6
            rcases hx with z | ⟨p, hp, e⟩
            · exact List.mem_append_left _ (a1 q a hq ha (Or.inl z))
            · by_cases hpt : p < t
              · exact List.mem_append_left _ (a1 q a hq ha (Or.inr ⟨p, hpt, e⟩))
              · obtain rfl : p = t := by omega
                exact List.mem_append_right _ (a3 a ha e q hq)
        -- the program's own
        have hroot := (tf_at hT hA0).1 rfl
        have c259 : ∀ g r, v3 g → v3 r → enc g = (st, !st) → enc r = (!st, st) → ∀ z4 z5 z6, K 259 [some (.inr 5), some (.inl (b1I st)), some (.inl (nI inp)), some (.inl (nI k)), z4, z5, z6] [.inl r, .inl g, .inl (nI 0), .inr 5] g0 := by
          intro gv r hgv hr eg er z4 z5 z6
          refine hK _ _ _ _ ?_
          refine s_X5_enter (F := FW A (seV A rg) inp st) (t := 0) (by omega) rfl hA hv0 (Or.inl h380) hA0 (fun q => absurd hroot q) hgv hr v3_0 ?_ ?_ ?_ (fun g3 hmu _ => ?_)
          · rw [eg]; unfold fGo; rw [if_pos hroot]
          · rw [er]; unfold fRes; rw [if_pos hroot]
          · unfold fSus; rw [if_pos hroot]; rfl
          · refine l266 A.length 0 (by omega) g3 _ hmu (fun q a hq ha hx => ?_) _ _
            rcases hx with z | ⟨p, hp, -⟩
            · rw [z]; rcases hq with rfl | rfl | rfl <;> simp
            · omega
        cases st with
        | true =>
          refine ⟨fun q => absurd (show b1I true = 0 from q) (by decide), fun _ => ?_⟩
          refine hK _ _ _ _ ⟨fun q => absurd (show b1I true = 0 from q) (by decide), fun _ => ?_⟩
          exact c259 1 0 v3_1 v3_0 rfl rfl _ _ _
        | false =>
          refine ⟨fun _ => ?_, fun q => absurd rfl q⟩
          refine hK _ _ _ _ ?_
          refine hK _ _ _ _ ⟨fun _ => ?_, fun q => absurd rfl q⟩
          refine hK _ _ _ _ ?_
          exact c259 0 1 v3_0 v3_1 rfl rfl _ _ _
  -- signals unknown
  have l190 : ∀ n i, i + n = 4 + A.length → ∀ (g : mvH), MIn A rg h g 0 → g 5 37 = nI inp → (∀ j, j < 6 * A.length → g 57 j = 2) → (∀ j, j < i → g 58 j = 2) → ∀ z4 z5 z6, K 190 [some (.inr 5), some (.inl (b1I st)), some (.inl (nI inp)), some (.inl (nI i)), z4, z5, z6] [] g := by
    intro n
    induction n with
    | zero =>
      intro i hi2 g hg h37 h57 h58 z4 z5 z6
      have hs : g 5 17 = nI A.length := by rw [hg.2.1 17 (by decide)]; exact h17
      refine hK _ _ _ _ ?_
      conv => whnf
      rw [hs, show (4 : Int32) + nI A.length = nI (4 + A.length) from nI_add 4 A.length]
      refine ⟨fun _ => ?_, fun e => absurd (nI_le (by omega) (by omega)) e⟩
      refine hK _ _ _ _ ⟨Or.inr rfl, ?_⟩
      have ho : ∀ q, ¬ q = 5 → (hset g 5 38 1) q = g q := fun q hq => hset_other hq
      have h5 : ∀ j, (hset g 5 38 1) 5 j = if j = 38 then 1 else g 5 j := fun j => hset_at
      have hMd : MdCon (hset g 5 38 1) 0 0 A := fun j x hx => by
        rw [ho 43 (by decide), ho 44 (by decide), ho 45 (by decide), ho 46 (by decide), ho 47 (by decide), ho 48 (by decide), ho 49 (by decide), hg.1 43 (by decide), hg.1 44 (by decide), hg.1 45 (by decide), hg.1 46 (by decide), hg.1 47 (by decide), hg.1 48 (by decide), hg.1 49 (by decide)]
        exact hM j x hx
      refine l220 4000 0 (by omega) (hset g 5 38 1) (fun _ => EX (hset g 5 38 1)) ⟨hMd, by rw [h5, if_neg (by decide)]; exact hs, fun t ht => ?_, by rw [h5, if_neg (by decide)]; exact h37, hi, fun t ht hk => ?_⟩ ⟨fun q hq t ht => ?_, fun j hj => ?_, fun w hw => ?_⟩ ⟨fun q j hq => ?_, fun n hn => by omega⟩ (fun _ _ _ => rfl) (fun z => ?_) (fun q hq => ?_) (fun j hj => ?_) z4 z5 z6
      · obtain ⟨⟨u1, u2⟩, -⟩ := hg.2.2 t (by omega) ht
        rw [ho 56 (by decide)]
        exact ⟨u1, u2, enc_tot u1 (by rw [u2]; exact seV_tot t)⟩
      · obtain ⟨⟨u1, u2⟩, -⟩ := hg.2.2 t (by omega) ht
        rw [ho 56 (by decide), ho 60 (by decide), hg.1 60 (by decide), hrg t ht hk]
        refine enc_inj (b1I_v3 _) u1 ?_
        rw [u2, seV_eq hT ht, b1I_enc]
        unfold seVal
        rw [if_pos hk]
      · obtain ⟨-, u1, u2, u3⟩ := hg.2.2 t (by omega) ht
        rw [ho q (by omega)]
        rcases hq with rfl | rfl | rfl
        · rw [u1]; exact v3_2
        · rw [u2]; exact v3_2
        · rw [u3]; exact v3_2
      · rw [ho 57 (by decide), h57 j hj]; exact v3_2
      · rw [ho 58 (by decide), h58 w (by omega)]; exact v3_2
      · show enc ((hset g 5 38 1) q j) = (false, false)
        rcases hq with ⟨hq, hj⟩ | ⟨rfl, hj⟩ | ⟨rfl, hj⟩
        · obtain ⟨-, u1, u2, u3⟩ := hg.2.2 j (by omega) hj
          rw [ho q (by omega)]
          rcases hq with rfl | rfl | rfl
          · rw [u1]; rfl
          · rw [u2]; rfl
          · rw [u3]; rfl
        · rw [ho 57 (by decide), h57 j hj]; rfl
        · rw [ho 58 (by decide), h58 j (by rcases hj with z | ⟨o, ho, -, z⟩ <;> omega)]; rfl
      · rw [h5, if_pos rfl] at z; exact absurd z (by decide)
      · rw [ho q (by omega)]; exact hg.1 q hq
      · rw [h5, if_neg (by omega)]; exact hg.2.1 j hj
    | succ n ih =>
      intro i hi2 g hg h37 h57 h58 z4 z5 z6
      have hs : g 5 17 = nI A.length := by rw [hg.2.1 17 (by decide)]; exact h17
      refine hK _ _ _ _ ?_
      conv => whnf
      rw [hs, show (4 : Int32) + nI A.length = nI (4 + A.length) from nI_add 4 A.length]
      refine ⟨fun e => absurd e (nI_ge (by omega) (by omega)), fun _ => ⟨vp_in_nI (by omega) (by decide), ?_⟩⟩
      rw [nI_clamp (by omega)]
      conv => whnf
      rw [nI_1]
      refine ih (i + 1) (by omega) (hset g 58 i 2) ⟨fun q hq => by rw [hset_other (by omega)]; exact hg.1 q hq, fun j hj => by rw [hset_other (by decide)]; exact hg.2.1 j hj, by rw [hset_other (by decide), hset_other (by decide), hset_other (by decide), hset_other (by decide)]; exact hg.2.2⟩ (by rw [hset_other (by decide)]; exact h37) (by rw [hset_other (by decide)]; exact h57) (fun j hj => ?_) z4 z5 z6
      rw [hset_at]
      split
      · rfl
      · exact h58 j (by omega)
  have l164 : ∀ n i, i + n = 6 * A.length → ∀ (g : mvH), MIn A rg h g 0 → g 5 37 = nI inp → (∀ j, j < i → g 57 j = 2) → ∀ z4 z5 z6, K 164 [some (.inr 5), some (.inl (b1I st)), some (.inl (nI inp)), some (.inl (nI i)), z4, z5, z6] [] g := by
    intro n
    induction n with
    | zero =>
      intro i hi2 g hg h37 h57 z4 z5 z6
      have hs : g 5 17 = nI A.length := by rw [hg.2.1 17 (by decide)]; exact h17
      refine hK _ _ _ _ ?_
      conv => whnf
      rw [hs, show (6 : Int32) * nI A.length = nI (6 * A.length) from pk_mul 6 A.length]
      refine ⟨fun _ => ?_, fun e => absurd (nI_le (by omega) (by omega)) e⟩
      refine hK _ _ _ _ ?_
      exact l190 (4 + A.length) 0 (by omega) g hg h37 (fun j hj => h57 j (by omega)) (fun j hj => by omega) z4 z5 z6
    | succ n ih =>
      intro i hi2 g hg h37 h57 z4 z5 z6
      have hs : g 5 17 = nI A.length := by rw [hg.2.1 17 (by decide)]; exact h17
      refine hK _ _ _ _ ?_
      conv => whnf
      rw [hs, show (6 : Int32) * nI A.length = nI (6 * A.length) from pk_mul 6 A.length]
      refine ⟨fun e => absurd e (nI_ge (by omega) (by omega)), fun _ => ⟨vp_in_nI (by omega) (by decide), ?_⟩⟩
      rw [nI_clamp (by omega)]
      conv => whnf
      rw [nI_1]
      refine ih (i + 1) (by omega) (hset g 57 i 2) ⟨fun q hq => by rw [hset_other (by omega)]; exact hg.1 q hq, fun j hj => by rw [hset_other (by decide)]; exact hg.2.1 j hj, by rw [hset_other (by decide), hset_other (by decide), hset_other (by decide), hset_other (by decide)]; exact hg.2.2⟩ (by rw [hset_other (by decide)]; exact h37) (fun j hj => ?_) z4 z5 z6
      rw [hset_at]
      split
      · rfl
      · exact h57 j (by omega)
  -- what is selected
  have l12 : ∀ i, i ≤ A.length → ∀ (g : mvH), MIn A rg h g i → g 5 37 = nI inp → ∀ z4 z5 z6, K 12 [some (.inr 5), some (.inl (b1I st)), some (.inl (nI inp)), some (.inl (nI i - 1)), z4, z5, z6] [] g := by
    intro i
    induction i with
    | zero =>
      intro _ g hg h37 z4 z5 z6
      refine hK _ _ _ _ ⟨fun _ => ?_, fun e => absurd (by decide) e⟩
      refine hK _ _ _ _ ?_
      exact l164 (6 * A.length) 0 (by omega) g hg h37 (fun j hj => by omega) z4 z5 z6
    | succ t ih =>
      intro hit g hg h37 z4 z5 z6
      have htN : t < A.length := by omega
      have hin : vp_in (nI t) 120 := vp_in_nI (by omega) (by decide)
      have ei : (nI t).toNatClampNeg = t := nI_clamp (by omega)
      have hMt := hM t _ (tA_some htN)
      rw [Nat.zero_add, Nat.zero_add] at hMt
      obtain ⟨m43, m44, m45, m46, m47, m48, m49⟩ := hMt
      rw [nI_pred]
      -- the end of one turn
      have fin : ∀ v, v3 v → enc v = seV A rg t → ∀ g1 : mvH, (∀ q, ¬ q = 56 → g1 q = g q) → (∀ j, ¬ j = t → g1 56 j = g 56 j) → K 134 [some (.inr 5), some (.inl (b1I st)), some (.inl (nI inp)), some (.inl (nI t)), z4, z5, z6] [.inl v, .inl (nI t), .inr 56] g1 := by
        intro v vv ev g1 b1 b2
        refine hK _ _ _ _ ⟨hin, hin, hin, hin, ?_⟩
        rw [ei]
        have := ih (by omega) (hset (hset (hset (hset g1 56 t v) 53 t 2) 54 t 2) 55 t 2) ⟨fun q hq => ?_, fun j hj => ?_, fun u hu huN => ?_⟩ ?_ z4 z5 z6
        · rw [show nI t - 1 = nI t + (-1) by rw [Int32.sub_eq_add_neg]] at this
          exact this
        · rw [hset_other (by omega), hset_other (by omega), hset_other (by omega), hset_other (by omega), b1 q (by omega)]; exact hg.1 q hq
        · rw [hset_other (by decide), hset_other (by decide), hset_other (by decide), hset_other (by decide), b1 5 (by decide)]; exact hg.2.1 j hj
        · have e56 : (hset (hset (hset (hset g1 56 t v) 53 t 2) 54 t 2) 55 t 2) 56 u = if u = t then v else g 56 u := by
            rw [hset_other (by decide), hset_other (by decide), hset_other (by decide), hset_at]
            split
            · rfl
            · exact b2 u ‹_›
          have e53 : (hset (hset (hset (hset g1 56 t v) 53 t 2) 54 t 2) 55 t 2) 53 u = if u = t then 2 else g 53 u := by rw [hset_other (by decide), hset_other (by decide), hset_at, hset_other (by decide), b1 53 (by decide)]
          have e54 : (hset (hset (hset (hset g1 56 t v) 53 t 2) 54 t 2) 55 t 2) 54 u = if u = t then 2 else g 54 u := by rw [hset_other (by decide), hset_at, hset_other (by decide), hset_other (by decide), b1 54 (by decide)]
          have e55 : (hset (hset (hset (hset g1 56 t v) 53 t 2) 54 t 2) 55 t 2) 55 u = if u = t then 2 else g 55 u := by rw [hset_at, hset_other (by decide), hset_other (by decide), hset_other (by decide), b1 55 (by decide)]
          rw [e56, e53, e54, e55]
          by_cases hut : u = t
          · rw [if_pos hut, if_pos hut, if_pos hut, if_pos hut, hut]
            exact ⟨⟨vv, ev⟩, rfl, rfl, rfl⟩
          · rw [if_neg hut, if_neg hut, if_neg hut, if_neg hut]
            exact hg.2.2 u (by omega) huN
        · rw [hset_other (by decide), hset_other (by decide), hset_other (by decide), hset_other (by decide), b1 5 (by decide)]; exact h37
      -- a child's
      have child : ∀ x, (x = -1 ∨ ∃ a, t < a ∧ a < A.length ∧ x = nI a) → ¬ x < 0 → vp_in x 120 ∧ v3 (g 56 x.toNatClampNeg) ∧ enc (g 56 x.toNatClampNeg) = seO (seV A rg) x ∧ ¬ x.toNatClampNeg = t := by
        intro x hx hx0
        rcases hx with rfl | ⟨a, q1, q2, rfl⟩
        · exact absurd (by decide) hx0
        · have := (hg.2.2 a (by omega) q2).1
          unfold seO
          rw [if_neg hx0, ix_nI (by omega), nI_clamp (by omega)]
          exact ⟨vp_in_nI (by omega) (by decide), this.1, this.2, by omega⟩
      have o1 : (tA A t).2.2.2.1 = -1 ∨ ∃ a, t < a ∧ a < A.length ∧ (tA A t).2.2.2.1 = nI a := (tf_at hT htN).2.2.1.imp id (fun ⟨a, h1, h2, h3, _⟩ => ⟨a, h1, h2, h3⟩)
      have o2 : (tA A t).2.2.2.2.1 = -1 ∨ ∃ a, t < a ∧ a < A.length ∧ (tA A t).2.2.2.2.1 = nI a := (tf_at hT htN).2.2.2.1.imp id (fun ⟨a, b, h1, h2, h3, _, h5, _⟩ => ⟨b, by omega, h3, h5⟩)
      have zn : ∀ x, (x = -1 ∨ ∃ a, t < a ∧ a < A.length ∧ x = nI a) → x < 0 → seO (seV A rg) x = zB := fun x _ hx => by unfold seO; rw [if_pos hx]
      -- the second child
      have c90 : ∀ v, v3 v → pOr (enc v) (seO (seV A rg) (tA A t).2.2.2.2.1) = seV A rg t → ∀ g1 : mvH, (∀ q, ¬ q = 56 → g1 q = g q) → (∀ j, ¬ j = t → g1 56 j = g 56 j) → K 90 [some (.inr 5), some (.inl (b1I st)), some (.inl (nI inp)), some (.inl (nI t)), z4, z5, z6] [.inl v, .inl (nI t), .inr 56] g1 := by
        intro v vv ev g1 b1 b2
        refine hK _ _ _ _ ⟨hin, hin, ?_⟩
        rw [ei]
        have c1 : ∀ q, ¬ q = 56 → (hset g1 56 t v) q = g q := fun q hq => by rw [hset_other hq]; exact b1 q hq
        have c2 : ∀ j, ¬ j = t → (hset g1 56 t v) 56 j = g 56 j := fun j hj => by rw [hset_at, if_neg hj]; exact b2 j hj
        have c3 : (hset g1 56 t v) 56 t = v := by rw [hset_at, if_pos rfl]
        have e47 : (hset g1 56 t v) 47 t = (tA A t).2.2.2.2.1 := by rw [c1 47 (by decide), hg.1 47 (by decide)]; exact m47
        generalize hset g1 56 t v = g2 at *
        rw [e47]
        refine ⟨fun e => ?_, fun e => ⟨hin, hin, ?_⟩⟩
        · refine hK _ _ _ _ ⟨hin, ?_⟩
          rw [ei, c3]
          exact fin v vv (by rw [← ev, zn _ o2 e, pOr_z2]) g2 c1 c2
        · rw [ei, e47, c3]
          obtain ⟨d1, d2, d3, d4⟩ := child _ o2 e
          refine ⟨d1, ?_⟩
          rw [c2 _ d4]
          refine s_X5_or (by omega) vv d2 (fun w vw ew => ?_)
          exact fin w vw (by rw [ew, d3, ev]) g2 c1 c2
      -- the first child
      have c46 : ∀ v, v3 v → pOr (pOr (enc v) (seO (seV A rg) (tA A t).2.2.2.1)) (seO (seV A rg) (tA A t).2.2.2.2.1) = seV A rg t → K 46 [some (.inr 5), some (.inl (b1I st)), some (.inl (nI inp)), some (.inl (nI t)), z4, z5, z6] [.inl v, .inl (nI t), .inr 56] g := by
        intro v vv ev
        refine hK _ _ _ _ ⟨hin, hin, ?_⟩
        rw [ei]
        have c1 : ∀ q, ¬ q = 56 → (hset g 56 t v) q = g q := fun q hq => hset_other hq
        have c2 : ∀ j, ¬ j = t → (hset g 56 t v) 56 j = g 56 j := fun j hj => by rw [hset_at, if_neg hj]
        have c3 : (hset g 56 t v) 56 t = v := by rw [hset_at, if_pos rfl]
        have e46 : (hset g 56 t v) 46 t = (tA A t).2.2.2.1 := by rw [c1 46 (by decide), hg.1 46 (by decide)]; exact m46
        generalize hset g 56 t v = g2 at *
        rw [e46]
        refine ⟨fun e => ?_, fun e => ⟨hin, hin, ?_⟩⟩
        · refine hK _ _ _ _ ⟨hin, ?_⟩
          rw [ei, c3]
          exact c90 v vv (by rw [← ev, zn _ o1 e, pOr_z2]) g2 c1 c2
        · rw [ei, e46, c3]
          obtain ⟨d1, d2, d3, d4⟩ := child _ o1 e
          refine ⟨d1, ?_⟩
          rw [c2 _ d4]
          refine s_X5_or (by omega) vv d2 (fun w vw ew => ?_)
          exact c90 w vw (by rw [ew, d3, ev]) g2 c1 c2
      refine hK _ _ _ _ ⟨fun e => absurd e (nI_pos (by omega)), fun _ => ⟨hin, ?_⟩⟩
      rw [ei, hg.1 43 (by decide), m43]
      have eS := seV_eq (rg := rg) hT htN
      unfold seVal at eS
      refine ⟨fun e => ?_, fun e => ⟨hin, ?_⟩⟩
      · rw [if_neg e] at eS
        refine hK _ _ _ _ ?_
        exact c46 0 v3_0 (by rw [eS, enc_0, pOr_z])
      · rw [if_pos e] at eS
        rw [ei, hg.1 49 (by decide), m49, if_pos e]
        have hc := cnt_take_le (A := A) 1 t
        refine ⟨vp_in_nI (by omega) (by decide), ?_⟩
        rw [nI_clamp (by omega), hg.1 60 (by decide), hrg t htN e]
        have hk := (tf_at hT htN).2.2.2.2.1
        have ch := thK_leaf1 hk e
        refine c46 _ (b1I_v3 _) ?_
        rw [ch.1, ch.2, b1I_enc, eS]
        show pOr (pOr _ zB) zB = _
        rw [pOr_z2, pOr_z2]
  have ho : ∀ q, ¬ q = 5 → (hset h 5 37 (nI inp)) q = h q := fun q hq => hset_other hq
  have h5 : ∀ j, (hset h 5 37 (nI inp)) 5 j = if j = 37 then nI inp else h 5 j := fun j => hset_at
  conv => whnf
  rw [show (hset h 5 37 (nI inp)) 5 17 = nI A.length by rw [h5, if_neg (by decide)]; exact h17]
  exact l12 A.length (Nat.le_refl _) (hset h 5 37 (nI inp)) ⟨fun q hq => ho q (by omega), fun j hj => by rw [h5, if_neg (by omega)], fun t h1 h2 => by omega⟩ (by rw [h5, if_pos rfl]) _ _ _
end MI6
