/-! THE REFERENCE: react, registers -/
section MR
variable {d : Nat} {h : mvH} {Q : Option mvV → mvH → Prop} {A : List Th} {rg : Nat → Bool} {inp : Nat} {st : Bool}
theorem s_X5_react_no (hd : 2 ≤ d) (x : Int32) (hno : h 5 26 = 0 ∨ ¬ h 5 44 = 0 ∨ x < 0 ∨ 15 < x) (hQ : Q (some (.inl (-1))) h) : mvCal mvMT d 134 [.inr 5, .inl x] h Q := by
  obtain ⟨d, rfl⟩ := d_pos hd (by decide)
  refine ⟨⟨rfl, by decide, rfl⟩, Nat.le_of_ble_eq_true rfl, fun K hK => hK _ _ _ _ ⟨fun _ => ?_, fun e => ⟨fun _ => ?_, fun e2 => ?_⟩⟩⟩
  · exact hK _ _ _ _ ⟨trivial, hQ⟩
  · exact hK _ _ _ _ ⟨trivial, hQ⟩
  · refine s_X5_in (by omega) _ _ _ ?_
    have hx : ¬ (0 ≤ x ∧ x ≤ 15) := by
      rintro ⟨x1, x2⟩
      rcases hno with z | z | z | z
      · exact e z
      · exact z e2
      · exact absurd z (Int32.not_lt.mpr x1)
      · exact absurd z (Int32.not_lt.mpr x2)
    rw [if_neg hx]
    exact ⟨fun q => absurd rfl q, fun _ => hK _ _ _ _ ⟨trivial, hQ⟩⟩
noncomputable def nxR (A : List Th) (rg : Nat → Bool) (inp : Nat) (st : Bool) : Nat → Bool := if aE A rg inp st = true then fun _ => false else aN A rg inp st
theorem nxR_Cn : Cn A (nxR A rg inp st) := by
  unfold nxR
  split
  · intro c _; rfl
  · exact nxF_Cn
set_option maxHeartbeats 8000000 in
theorem s_X5_react (hd : 8 ≤ d) (hT : TF A) (hM : MdCon h 0 0 A) (h17 : h 5 17 = nI A.length) (h25 : h 5 25 = nI (cntK 1 A)) (hi : inp < 16) (h26 : ¬ h 5 26 = 0) (h44 : h 5 44 = 0) (h42 : h 5 42 = b1I st) (h62 : ∀ c, c < 120 → h 62 c = b1I (rg c)) (hcn : Cn A rg)
    (hQ : ∀ h', (∀ q, ¬ (q = 5 ∨ (53 ≤ q ∧ q ≤ 62)) → h' q = h q) → (∀ j, ¬ (j = 37 ∨ j = 38 ∨ (42 ≤ j ∧ j ≤ 48)) → h' 5 j = h 5 j) → h' 5 45 = oW (aO A rg inp st) 4 → h' 5 46 = oW (aU A rg inp st) 4 → h' 5 47 = nI (aD A rg inp st) →
      (¬ aD A rg inp st = 0 → h' 5 42 = h 5 42 → h' 5 43 = h 5 43 → h' 5 44 = h 5 44 → h' 5 48 = h 5 48 → (∀ c, c < 120 → h' 62 c = b1I (rg c)) → Q (some (.inl 2)) h') ∧
      (aD A rg inp st = 0 → h' 5 42 = 0 → h' 5 43 = 1 → h' 5 44 = b1I (aE A rg inp st) → h' 5 48 = h 5 48 + 1 → (∀ c, c < 120 → h' 62 c = b1I (nxR A rg inp st c)) → Q (some (.inl (b1I (aE A rg inp st)))) h')) : mvCal mvMT d 134 [.inr 5, .inl (nI inp)] h Q := by
  obtain ⟨d, rfl⟩ := d_pos hd (by decide)
  have hA := hT.1
  have hR := cntK_le (A := A) 1
  have l28 : ∀ (K : Nat → mvL → List mvV → mvH → Prop), (∀ pc L s g, mvRun (mvCal mvMT d) Q K (mvlook C_X5_react pc) L s g → K pc L s g) → ∀ n i, i + n = 120 → ∀ (g : mvH), (∀ q, ¬ q = 60 → g q = h q) → (∀ c, c < i → g 60 c = b1I (rg c)) → ∀ z3, K 28 [some (.inr 5), some (.inl (nI inp)), some (.inl (nI i)), z3] [] g := by
    intro K hK n
    induction n with
    | zero =>
      intro i hi2 g d1 d2 z3
      have hi2 : i = 120 := by omega
      subst hi2
      refine hK _ _ _ _ ⟨fun _ => ?_, fun e => absurd (by decide) e⟩
      refine hK _ _ _ _ ?_
      have e42 : g 5 42 = b1I st := by rw [d1 5 (by decide)]; exact h42
      conv => whnf
      rw [e42]
      refine s_X5_inst2 (rg := rg) (st := st) (inp := inp) (by omega) hT (fun j x hx => by rw [d1 43 (by decide), d1 44 (by decide), d1 45 (by decide), d1 46 (by decide), d1 47 (by decide), d1 48 (by decide), d1 49 (by decide)]; exact hM j x hx) (by rw [d1 5 (by decide)]; exact h17) hi d2 (fun g1 f1 f2 hm hv he hn => ?_)
      have g1q : ∀ q, ¬ (q = 5 ∨ (53 ≤ q ∧ q ≤ 61)) → g1 q = h q := fun q hq => by rw [f1 q (by omega), d1 q (by omega)]
      have g15 : ∀ j, ¬ (j = 37 ∨ j = 38) → g1 5 j = h 5 j := fun j hj => by rw [f2 j hj, d1 5 (by decide)]
      refine s_X5_outputsWith (by omega) 1 ?_
      rw [o1_ok hT hv he]
      refine s_X5_outputsWith (by omega) 2 ?_
      have e58 : oW (fun o => decide ((hset g1 5 45 (oW (aO A rg inp st) 4)) 58 o = 2)) 4 = oW (aU A rg inp st) 4 := by
        rw [← o2_ok hT hv he]
        exact oW_congr 4 (fun o _ => by rw [hset_other (by decide)])
      rw [e58]
      have k1 : ∀ q, ¬ q = 5 → (hset (hset g1 5 45 (oW (aO A rg inp st) 4)) 5 46 (oW (aU A rg inp st) 4)) q = g1 q := fun q hq => by rw [hset_other hq, hset_other hq]
      have k5 : ∀ j, (hset (hset g1 5 45 (oW (aO A rg inp st) 4)) 5 46 (oW (aU A rg inp st) 4)) 5 j = if j = 46 then oW (aU A rg inp st) 4 else if j = 45 then oW (aO A rg inp st) 4 else g1 5 j := fun j => by rw [hset_at, hset_at]
      obtain ⟨g2, hg2⟩ : ∃ g, g = hset (hset g1 5 45 (oW (aO A rg inp st) 4)) 5 46 (oW (aU A rg inp st) 4) := ⟨_, rfl⟩
      rw [← hg2] at k1 k5
      conv => whnf
      rw [← hg2]
      have hm2 : MS A (seV A rg) inp g2 := MS_q hm (fun q hq => k1 q (by omega)) (by rw [k5]; rfl) (by rw [k5]; rfl)
      have hv2 : V3s A g2 := V3s_q hv (fun q hq => k1 q (by omega))
      have he2 : eqV (VW A) (EX g2) (XS A rg inp st) := eqV_trans (EX_q (fun q hq => k1 q (by omega))) he
      refine s_X5_dim (by omega) hT hm2 hv2 ?_
      have ed : dimX A (EX g2) = aD A rg inp st := dimX_congr he2
      rw [ed]
      have m1 : ∀ q, ¬ q = 5 → (hset g2 5 47 (nI (aD A rg inp st))) q = g1 q := fun q hq => by rw [hset_other hq]; exact k1 q hq
      have m5 : ∀ j, (hset g2 5 47 (nI (aD A rg inp st))) 5 j = if j = 47 then nI (aD A rg inp st) else if j = 46 then oW (aU A rg inp st) 4 else if j = 45 then oW (aO A rg inp st) 4 else g1 5 j := fun j => by rw [hset_at, k5]
      obtain ⟨g3, hg3⟩ : ∃ g, g = hset g2 5 47 (nI (aD A rg inp st)) := ⟨_, rfl⟩
      rw [← hg3] at m1 m5
      conv => whnf
      rw [← hg3]
      have n62 : ∀ c, g3 62 c = h 62 c := fun c => by rw [m1 62 (by decide), g1q 62 (by decide)]
      by_cases hd0 : aD A rg inp st = 0
      · rw [if_pos hd0]
        have l95 : ∀ n2 c, c + n2 = cntK 1 A → ∀ (g4 : mvH), (∀ q, ¬ q = 62 → g4 q = g3 q) → (∀ j, j < 120 → g4 62 j = if j < c then b1I (nxR A rg inp st j) else h 62 j) → K 95 [some (.inr 5), some (.inl (nI inp)), some (.inl (b1I (aE A rg inp st))), some (.inl (nI c))] [] g4 := by
          intro n2
          induction n2 with
          | zero =>
            intro c hc g4 p1 p2
            have hc : c = cntK 1 A := by omega
            subst hc
            have g25 : g4 5 25 = nI (cntK 1 A) := by rw [p1 5 (by decide), m5]; exact (g15 25 (by decide)).trans h25
            refine hK _ _ _ _ ⟨fun _ => ?_, fun e => absurd (show g4 5 25 ≤ nI (cntK 1 A) by rw [g25]; exact Int32.le_refl _) e⟩
            have e48 : g4 5 48 = h 5 48 := by rw [p1 5 (by decide), m5]; exact g15 48 (by decide)
            have fin : ∀ v : Int32, (v = 0 ∨ v = 1) → v = b1I (aE A rg inp st) → K 161 [some (.inr 5), some (.inl (nI inp)), some (.inl (b1I (aE A rg inp st))), some (.inl (nI (cntK 1 A)))] [.inl v, .inr 5] (hset (hset (hset g4 5 42 0) 5 43 1) 5 48 (h 5 48 + 1)) := by
              intro v hv01 hv
              refine hK _ _ _ _ ⟨hv01, ?_⟩
              refine hK _ _ _ _ ⟨trivial, ?_⟩
              have q5 : ∀ j, (hset (hset (hset (hset g4 5 42 0) 5 43 1) 5 48 (h 5 48 + 1)) 5 44 v) 5 j = if j = 44 then v else if j = 48 then h 5 48 + 1 else if j = 43 then 1 else if j = 42 then 0 else g4 5 j := fun j => by rw [hset_at, hset_at, hset_at, hset_at]
              have qq : ∀ q, ¬ q = 5 → (hset (hset (hset (hset g4 5 42 0) 5 43 1) 5 48 (h 5 48 + 1)) 5 44 v) q = g4 q := fun q hq => by rw [hset_other hq, hset_other hq, hset_other hq, hset_other hq]
              refine (hQ (hset (hset (hset (hset g4 5 42 0) 5 43 1) 5 48 (h 5 48 + 1)) 5 44 v) (fun q hq => ?_) (fun j hj => ?_) ?_ ?_ ?_).2 hd0 ?_ ?_ ?_ ?_ (fun c hc => ?_)
              · rw [qq q (by omega), p1 q (by omega), m1 q (by omega)]; exact g1q q (by omega)
              · rw [q5, if_neg (by omega), if_neg (by omega), if_neg (by omega), if_neg (by omega), p1 5 (by decide), m5, if_neg (by omega), if_neg (by omega), if_neg (by omega)]; exact g15 j (by omega)
              · rw [q5, p1 5 (by decide), m5]; rfl
              · rw [q5, p1 5 (by decide), m5]; rfl
              · rw [q5, p1 5 (by decide), m5]; rfl
              · rw [q5]; rfl
              · rw [q5]; rfl
              · rw [q5]; exact hv
              · rw [q5]; rfl
              · rw [qq 62 (by decide), p2 c hc]
                by_cases hcc : c < cntK 1 A
                · rw [if_pos hcc]
                · rw [if_neg hcc, h62 c hc, hcn c (by omega), nxR_Cn c (by omega)]
            refine hK _ _ _ _ ⟨Or.inl rfl, Or.inr rfl, ?_⟩
            have e48' : (hset (hset g4 5 42 0) 5 43 1) 5 48 = h 5 48 := by rw [hset_at, if_neg (by decide), hset_at, if_neg (by decide)]; exact e48
            conv => whnf
            rw [e48']
            refine ⟨fun q => ?_, fun q => ?_⟩
            · refine hK _ _ _ _ ?_
              refine fin 0 (Or.inl rfl) ?_
              cases hE : aE A rg inp st
              · rfl
              · exact absurd (show b1I (aE A rg inp st) = 1 by rw [hE]; rfl) q
            · refine fin 1 (Or.inr rfl) ?_
              exact q.symm
          | succ n2 ih2 =>
            intro c hc g4 p1 p2
            have g25 : g4 5 25 = nI (cntK 1 A) := by rw [p1 5 (by decide), m5]; exact (g15 25 (by decide)).trans h25
            have c123 : ∀ v, v = b1I (nxR A rg inp st c) → K 123 [some (.inr 5), some (.inl (nI inp)), some (.inl (b1I (aE A rg inp st))), some (.inl (nI c))] [.inl v, .inl (nI c), .inr 62] g4 := by
              intro v hv
              refine hK _ _ _ _ ⟨vp_in_nI (by omega) (by decide), ?_⟩
              rw [nI_clamp (by omega)]
              conv => whnf
              rw [nI_1]
              refine ih2 (c + 1) (by omega) (hset g4 62 c v) (fun q hq => by rw [hset_other hq]; exact p1 q hq) (fun j hj => ?_)
              rw [hset_at]
              by_cases w : j = c
              · rw [if_pos w, if_pos (by omega), hv, w]
              · rw [if_neg w, p2 j hj]
                by_cases w2 : j < c
                · rw [if_pos w2, if_pos (by omega)]
                · rw [if_neg w2, if_neg (by omega)]
            refine hK _ _ _ _ ⟨fun e => absurd (show g4 5 25 ≤ nI c from e) (by rw [g25]; exact nI_ge (by omega) (by omega)), fun _ => ⟨fun q => ?_, fun q => ?_⟩⟩
            · refine hK _ _ _ _ ⟨vp_in_nI (by omega) (by decide), ?_⟩
              rw [nI_clamp (by omega), p1 61 (by decide), m1 61 (by decide), hn hd0 c (by omega)]
              refine c123 _ ?_
              unfold nxR
              cases hE : aE A rg inp st
              · rfl
              · exact absurd (show b1I (aE A rg inp st) = 1 by rw [hE]; rfl) q
            · refine c123 _ ?_
              unfold nxR
              have hE : aE A rg inp st = true := b1I_inj (show b1I (aE A rg inp st) = b1I true from q)
              rw [if_pos hE]; rfl
        refine ⟨fun q => absurd (show (2 : Int32) ≤ b1I (aE A rg inp st) from q) (by cases aE A rg inp st <;> decide), fun _ => ?_⟩
        exact l95 (cntK 1 A) 0 (by omega) g3 (fun _ _ => rfl) (fun j _ => by rw [if_neg (by omega)]; exact n62 j)
      · rw [if_neg hd0]
        refine ⟨fun _ => ?_, fun q => absurd (show (2 : Int32) ≤ 2 by decide) q⟩
        refine hK _ _ _ _ ⟨trivial, ?_⟩
        refine (hQ g3 (fun q hq => ?_) (fun j hj => ?_) ?_ ?_ ?_).1 hd0 ?_ ?_ ?_ ?_ (fun c hc => ?_)
        · rw [m1 q (by omega)]; exact g1q q (by omega)
        · rw [m5, if_neg (by omega), if_neg (by omega), if_neg (by omega)]; exact g15 j (by omega)
        · rw [m5]; rfl
        · rw [m5]; rfl
        · rw [m5]; rfl
        · rw [m5]; exact g15 42 (by decide)
        · rw [m5]; exact g15 43 (by decide)
        · rw [m5]; exact g15 44 (by decide)
        · rw [m5]; exact g15 48 (by decide)
        · rw [n62]; exact h62 c hc
    | succ n ih =>
      intro i hi2 g d1 d2 z3
      refine hK _ _ _ _ ⟨fun e => absurd e (nI_ge (b := 120) (by omega) (by omega)), fun _ => ⟨vp_in_nI (by omega) (by decide), vp_in_nI (by omega) (by decide), ?_⟩⟩
      rw [nI_clamp (by omega), d1 62 (by decide), h62 i (by omega)]
      conv => whnf
      rw [nI_1]
      refine ih (i + 1) (by omega) (hset g 60 i (b1I (rg i))) (fun q hq => by rw [hset_other hq]; exact d1 q hq) (fun c hc => ?_) _
      rw [hset_at]
      by_cases w : c = i
      · rw [if_pos w, w]
      · rw [if_neg w]; exact d2 c (by omega)
  refine ⟨⟨rfl, by decide, rfl⟩, Nat.le_of_ble_eq_true rfl, fun K hK => hK _ _ _ _ ⟨fun e => absurd e h26, fun _ => ⟨fun e => absurd h44 e, fun _ => ?_⟩⟩⟩
  refine s_X5_in (by omega) _ _ _ ?_
  have hx : (0 : Int32) ≤ nI inp ∧ nI inp ≤ 15 := ⟨Int32.not_lt.mp (nI_pos (by omega)), nI_le (b := 15) (by omega) (by omega)⟩
  rw [if_pos hx]
  refine ⟨fun _ => ?_, fun q => absurd (show (1 : Int32) = 0 from q) (by decide)⟩
  refine hK _ _ _ _ ?_
  exact l28 K hK 120 0 (by omega) h (fun _ _ => rfl) (fun c hc => by omega) _
theorem s_X5_registers (hd : 2 ≤ d) (x : Int32) (hR : cntK 1 A ≤ 120) (h25 : h 5 25 = nI (cntK 1 A)) (h62 : ∀ c, c < 120 → h 62 c = b1I (rg c)) (hcn : Cn A rg) (hQ : Q (some (.inl (if 0 ≤ x ∧ x ≤ 3 then oW (fun b => rg (32 * ix x + b)) 32 else 0))) h) : mvCal mvMT d 138 [.inr 5, .inl x] h Q := by
  obtain ⟨d, rfl⟩ := d_pos hd (by decide)
  refine ⟨⟨rfl, by decide, rfl⟩, Nat.le_of_ble_eq_true rfl, fun K hK => hK _ _ _ _ ?_⟩
  by_cases hx : 0 ≤ x ∧ x ≤ 3
  · rw [if_pos hx] at hQ
    obtain ⟨p, hp31, rfl⟩ := nI_of (x := x) (Int32.not_lt.mpr hx.1)
    have hp : p < 4 := by
      rcases Nat.lt_or_ge p 4 with z | z
      · exact z
      · exact absurd hx.2 (nI_ge (b := p) (a := 3) (by omega) hp31)
    rw [ix_nI (by omega)] at hQ
    have loop : ∀ n b, b + n = 32 → ∀ z4, K 4 [some (.inr 5), some (.inl (nI p)), some (.inl (oW (fun b => rg (32 * p + b)) b)), some (.inl (nI b)), z4] [] h := by
      intro n
      induction n with
      | zero =>
        intro b hb z4
        have hb : b = 32 := by omega
        subst hb
        exact hK _ _ _ _ ⟨fun _ => hK _ _ _ _ ⟨trivial, hQ⟩, fun e => absurd (by decide) e⟩
      | succ n ih =>
        intro b hb z4
        have h1 := ih (b + 1) (by omega)
        unfold oW at h1
        have e32 : 32 * nI p + nI b = nI (32 * p + b) := by rw [show (32 : Int32) = nI 32 by decide, pk_mul, nI_add]
        refine hK _ _ _ _ ⟨fun e => absurd e (nI_ge (b := 32) (by omega) (by omega)), fun _ => ?_⟩
        refine s_X5_in (by omega) _ _ _ ?_
        rw [if_pos hx]
        refine ⟨fun q => absurd (show (1 : Int32) = 0 from q) (by decide), fun _ => ?_⟩
        conv => whnf
        rw [e32, h25]
        have no : rg (32 * p + b) = false → K 55 [some (.inr 5), some (.inl (nI p)), some (.inl (oW (fun b => rg (32 * p + b)) b)), some (.inl (nI b)), some (.inl (nI (32 * p + b)))] [] h := by
          intro hz
          have h1 := h1 (some (.inl (nI (32 * p + b))))
          rw [if_neg (by rw [hz]; decide)] at h1
          refine hK _ _ _ _ ?_
          refine hK _ _ _ _ ?_
          conv => whnf
          rw [nI_1]
          exact h1
        refine ⟨fun q => ?_, fun q => ?_⟩
        · refine no (hcn _ ?_)
          rcases Nat.lt_or_ge (32 * p + b) (cntK 1 A) with z | z
          · exact absurd q (nI_ge z (by omega))
          · exact z
        · have hlt : 32 * p + b < cntK 1 A := by
            rcases Nat.lt_or_ge (32 * p + b) (cntK 1 A) with z | z
            · exact z
            · exact absurd (nI_le z (by omega)) q
          refine ⟨vp_in_nI (by omega) (by decide), ?_⟩
          rw [nI_clamp (by omega), h62 _ (by omega)]
          refine ⟨fun q2 => ?_, fun q2 => ?_⟩
          · refine no ?_
            cases hE : rg (32 * p + b)
            · rfl
            · exact absurd (show b1I (rg (32 * p + b)) = 1 by rw [hE]; rfl) q2
          · have hE : rg (32 * p + b) = true := b1I_inj (show b1I (rg (32 * p + b)) = b1I true from q2)
            have h1 := h1 (some (.inl (nI (32 * p + b))))
            rw [if_pos hE] at h1
            refine hK _ _ _ _ ?_
            conv => whnf
            rw [nI_1]
            exact h1
    exact loop 32 0 (by omega) _
  · rw [if_neg hx] at hQ
    refine hK _ _ _ _ ⟨fun e => absurd e (by decide), fun _ => ?_⟩
    refine s_X5_in (by omega) _ _ _ ?_
    rw [if_neg hx]
    exact ⟨fun _ => hK _ _ _ _ ⟨trivial, hQ⟩, fun q => absurd rfl q⟩
end MR
