/-! THE REFERENCE: laying out: lay -/
def NdM (g : mvH) (N : List Nd) : Prop := ∀ (i : Nat) (x : Nd), N[i]? = some x → g 34 i = x.1 ∧ g 35 i = x.2.1 ∧ g 36 i = x.2.2.1 ∧ g 37 i = x.2.2.2
section MY
variable {N : List Nd} {Lb : Nat → Nat → Prop}
set_option maxHeartbeats 16000000 in
theorem ml_main {d : Nat} {Q : Option mvV → mvH → Prop} (hd : 4 ≤ d) (hok : NdOK N Lb) (hkd : ∀ i, i < N.length → ¬ sgO (nd N i).2.1 = -1 → (nd N i).1 = 2 ∨ (nd N i).1 = 4 ∨ (nd N i).1 = 5 ∨ (nd N i).1 = 8) {K : Nat → mvL → List mvV → mvH → Prop} (hK : ∀ pc L st h, mvRun (mvCal mvMT d) Q K (mvlook C_X5_lay pc) L st h → K pc L st h) (r0 : mvV) :
    ∀ f i (u s : Int32) E t r m (g : mvH), i < f → i < N.length → NdM g N → g 5 17 = nI t → g 5 25 = nI r → t + (layT N f i u t E).length ≤ 120 → m + (layT N f i u t E).length ≤ 159 → g 50 m = nI i → g 51 m = u → g 52 m = s → (s = 0 ∨ ((s = 1 ∨ s = 2) ∧ ∃ j, j < t ∧ u = nI j)) → (∀ c, c < 8 → Lb i c → ∃ k, clm g t (nI (115 + c)) (E c) k u) →
      (∀ g', LmP g g' t r m s u (layT N f i u t E) → ∀ z3 z4 z5, K 20 [some (.inr 5), some r0, some (.inl (nI m)), z3, z4, z5] [] g') → ∀ z3 z4 z5, K 20 [some (.inr 5), some r0, some (.inl (nI (m + 1))), z3, z4, z5] [] g := by
  intro f
  induction f with
  | zero => intro i u s E t r m g hi; omega
  | succ f ih =>
    intro i u s E t r m g hi hiN hNd h17 h25 h120 h159 h50 h51 h52 hsd hcl hQ z3 z4 z5
    have hx0 := nd_get hiN
    have hNi := hok.2 i hiN
    have hki := hkd i hiN
    have hlen60 := hok.1
    obtain ⟨x34, x35, x36, x37⟩ := hNd i _ hx0
    unfold layT at h120 h159 hQ
    dsimp only at h120 h159 hQ
    generalize hxe : nd N i = x at *
    generalize hA : (if x.2.2.1 < 0 then ([] : List Th) else layT N f (ix x.2.2.1) (nI t) (t + 1) (lyE x t E)) = A at *
    generalize hB : (if lySec x < 0 then ([] : List Th) else layT N f (ix (lySec x)) (nI t) (t + 1 + A.length) (lyE x t E)) = B at *
    simp only [List.length_cons, List.length_append] at h120 h159
    have vm : vp_in (nI m) 160 := vp_in_nI (by omega) (by decide)
    have vi : vp_in (nI i) 128 := vp_in_nI (by omega) (by decide)
    have vt : vp_in (nI t) 120 := vp_in_nI (by omega) (by decide)
    have em : (nI m).toNatClampNeg = m := nI_clamp (by omega)
    have ei : (nI i).toNatClampNeg = i := nI_clamp (by omega)
    have et : (nI t).toNatClampNeg = t := nI_clamp (by omega)
    -- the wire that belongs to the thing
    generalize ho : E (ix (sgO x.2.1 - 8)) = o at *
    -- after the head
    have c20 : ∀ g1, LmP g g1 t r m s u [(x.1, x.2.1, u, -1, -1, o)] → ∀ z5, K 241 [some (.inr 5), some r0, some (.inl (nI m)), some (.inl (nI i)), some (.inl (nI t)), z5] [.inl (lySec x)] g1 := by
      intro g1 hp z5
      have hNd1 : ∀ g2, (∀ q, ¬ (q = 5 ∨ (43 ≤ q ∧ q ≤ 52)) → g2 q = g q) → NdM g2 N := fun g2 hq i x hx => by rw [hq 34 (by omega), hq 35 (by omega), hq 36 (by omega), hq 37 (by omega)]; exact hNd i x hx
      -- locals' owners, for what lies inside
      have hcl1 : ∀ j, (∀ c, Lb j c → Lb i c ∨ (x.1 = 8 ∧ sgO x.2.1 = 8 + nI c)) → ∀ g2 t2, t + 1 ≤ t2 → (∀ q, (q = 43 ∨ q = 44 ∨ q = 45) → ∀ j', j' < t + 1 → g2 q j' = g1 q j') → ∀ c, c < 8 → Lb j c → ∃ k, clm g2 t2 (nI (115 + c)) (lyE x t E c) k (nI t) := by
        intro j hj g2 t2 ht2 hq c hc hLb
        obtain ⟨p1, p2, p3, p4, p5, p6, p7, p8, p9⟩ := hp
        obtain ⟨w1, w2, w3, -⟩ := p9 0 (x.1, x.2.1, u, -1, -1, o) (by simp)
        rw [Nat.add_zero] at w1 w2 w3
        by_cases h8 : x.1 = 8 ∧ sgO x.2.1 = 8 + nI c
        · refine ⟨1, t, by omega, rfl, Or.inl ⟨?_, ?_, ?_⟩⟩
          · rw [hq 43 (by omega) t (by omega), w1]; exact h8.1
          · rw [hq 44 (by omega) t (by omega), w2]
            rcases sgO_cases x.2.1 with z | ⟨j, hj, z, -⟩ | ⟨j, hj, z, w⟩
            · rw [z] at h8; have : ∀ c, c < 8 → ¬ (-1 : Int32) = 8 + nI c := by decide +kernel
              exact absurd h8.2 (this c hc)
            · rw [z] at h8; have : ∀ j, j < 8 → ∀ c, c < 8 → ¬ nI j = 8 + nI c := by decide +kernel
              exact absurd h8.2 (this j hj c hc)
            · rw [z] at h8
              have : ∀ j, j < 8 → ∀ c, c < 8 → 8 + nI j = 8 + nI c → j = c := by decide +kernel
              rw [w, this j hj c hc h8.2]
          · unfold lyE
            rw [if_pos h8.1, h8.2]
            have e8 : ix (8 + nI c - 8) = c := by rw [Int32.add_comm, Int32.add_sub_cancel, ix_nI (by omega)]
            rw [e8, if_pos rfl]
        · obtain ⟨k, hk⟩ := hcl c hc ((hj c hLb).resolve_right h8)
          refine ⟨k + 1, t, by omega, rfl, Or.inr ⟨?_, ?_⟩⟩
          · rw [hq 43 (by omega) t (by omega), w1, hq 44 (by omega) t (by omega), w2]
            intro z
            refine h8 ⟨z.1, ?_⟩
            rw [z.2]
            have : ∀ c, c < 8 → sgO (nI (115 + c)) = 8 + nI c := by decide +kernel
            exact this c hc
          · rw [hq 45 (by omega) t (by omega), w3]
            have hE : lyE x t E c = E c := by
              unfold lyE
              by_cases z : x.1 = 8
              · rw [if_pos z]
                have hne : ¬ c = ix (sgO x.2.1 - 8) := by
                  intro w
                  obtain ⟨c', hc', e'⟩ := hNi.2.2.1 z
                  have e8 : ix (8 + nI c' - 8) = c' := by rw [Int32.add_comm, Int32.add_sub_cancel, ix_nI (by omega)]
                  rw [e', e8] at w
                  subst w
                  exact h8 ⟨z, e'⟩
                rw [if_neg hne]
              · rw [if_neg z]
            rw [hE]
            exact clm_congr (by omega) (fun j' hj' => by rw [hq 43 (by omega) j' (by omega), p6 43 (by omega) j' hj']) (fun j' hj' => by rw [hq 44 (by omega) j' (by omega), p6 44 (by omega) j' hj']) (fun j' hj' => by rw [hq 45 (by omega) j' (by omega), p6 45 (by omega) j' hj']) k u hk
      obtain ⟨p1, p2, p3, p4, p5, p6, p7, p8, p9⟩ := id hp
      simp only [List.length_cons, List.length_nil] at p3
      have p4' : g1 5 25 = nI (r + (if x.1 = 1 then 1 else 0)) := by rw [p4, cntK_cons]; simp [cntK]
      have hsec : lySec x = -1 ∨ ∃ j, j < i ∧ lySec x = nI j ∧ ∀ c, Lb j c → Lb i c ∨ (x.1 = 8 ∧ sgO x.2.1 = 8 + nI c) := by
        unfold lySec
        split
        · exact hNi.1
        · exact hNi.2.1
      -- what lies second, from a state behind the first
      have second : ∀ g2 m1 s1, (s1 = 0 ∨ s1 = 1) → m ≤ m1 → LmP g1 g2 (t + 1) (r + (if x.1 = 1 then 1 else 0)) m1 s1 (nI t) A → (s1 = 1 ↔ ¬ x.2.2.1 < 0) → lySec x < 0 → ∀ z3 z4 z5, K 20 [some (.inr 5), some r0, some (.inl (nI m)), z3, z4, z5] [] g2 := by
        intro g2 m1 s1 hs1 hm1 hp2 hs1x hlt z3 z4 z5
        have hBn : B = [] := by rw [← hB, if_pos hlt]
        have h3 : LmP g2 g2 (t + 1 + A.length) (r + (if x.1 = 1 then 1 else 0) + cntK 1 A) m 0 (nI t) B := by
          rw [hBn]
          exact LmP_nil hp2.2.2.1 hp2.2.2.2.1
        have := LmP_comp hp hp2 h3 hm1 hs1 (Or.inl rfl) (by omega)
        refine hQ g2 ?_ _ _ _
        have e1 : (if s1 = 1 then nI (t + 1) else (-1 : Int32)) = if x.2.2.1 < 0 then -1 else nI (t + 1) := by
          by_cases z : x.2.2.1 < 0
          · rw [if_pos z, if_neg (fun w => hs1x.mp w z)]
          · rw [if_neg z, if_pos (hs1x.mpr z)]
        rw [e1, if_neg (show ¬ (0 : Int32) = 2 by decide)] at this
        rw [if_pos hlt]
        exact this
      have c261 : ∀ (g2 : mvH) (m2 : Nat), ((m2 = m ∧ g2 = g1 ∧ lySec x < 0) ∨ (m2 = m + 1 ∧ ∃ j, j < i ∧ lySec x = nI j ∧ (∀ c, Lb j c → Lb i c ∨ (x.1 = 8 ∧ sgO x.2.1 = 8 + nI c)) ∧ g2 = hset (hset (hset g1 50 m (nI j)) 51 m (nI t)) 52 m 2)) → ∀ v5, K 261 [some (.inr 5), some r0, some (.inl (nI m2)), some (.inl (nI i)), some (.inl (nI t)), some (.inl v5)] [] g2 := by
        intro g2 m2 hm2 v5
        have hLg : LmP g g2 t r m s u [(x.1, x.2.1, u, -1, -1, o)] := by
          rcases hm2 with ⟨-, e, -⟩ | ⟨-, j, -, -, -, e⟩
          · rw [e]; exact hp
          · rw [e]; exact LmP_wait hp (Nat.le_refl _) _ _ _
        have hq2 : ∀ q, ¬ (q = 50 ∨ q = 51 ∨ q = 52) → g2 q = g1 q := by
          intro q hq
          rcases hm2 with ⟨-, e, -⟩ | ⟨-, j, -, -, -, e⟩
          · rw [e]
          · rw [e, hset_other (by omega), hset_other (by omega), hset_other (by omega)]
        have g36 : g2 36 i = x.2.2.1 := by rw [hq2 36 (by omega), p1 36 (by omega), x36]
        refine hK _ _ _ _ ⟨vi, ?_⟩
        rw [ei, g36]
        -- behind the first
        have after : ∀ g3 s1, (s1 = 0 ∨ s1 = 1) → LmP g2 g3 (t + 1) (r + (if x.1 = 1 then 1 else 0)) m2 s1 (nI t) A → (s1 = 1 ↔ ¬ x.2.2.1 < 0) → ∀ z3 z4 z5, K 20 [some (.inr 5), some r0, some (.inl (nI m2)), z3, z4, z5] [] g3 := by
          intro g3 s1 hs1 hp3 hs1x z3 z4 z5
          rcases hm2 with ⟨e1, e2, e3⟩ | ⟨e1, j, hj, e2, hLbj, e3⟩
          · subst e1
            subst e2
            exact second g3 m2 s1 hs1 (Nat.le_refl _) hp3 hs1x e3 _ _ _
          · subst e1
            have hjn : ¬ lySec x < 0 := by rw [e2]; exact nI_pos (by omega)
            have hBx : B = layT N f j (nI t) (t + 1 + A.length) (lyE x t E) := by rw [← hB, if_neg hjn, e2, ix_nI (by omega)]
            obtain ⟨q1, q2, q3, q4, q5, q6, q7, q8, q9⟩ := id hp3
            have w50 : g3 50 m = nI j := by rw [q5 50 (by decide) m (by omega), e3, hset_other (by decide), hset_other (by decide), hset_at, if_pos rfl]
            have w51 : g3 51 m = nI t := by rw [q5 51 (by decide) m (by omega), e3, hset_other (by decide), hset_at, if_pos rfl]
            have w52 : g3 52 m = 2 := by rw [q5 52 (by decide) m (by omega), e3, hset_at, if_pos rfl]
            refine ih j (nI t) 2 (lyE x t E) (t + 1 + A.length) (r + (if x.1 = 1 then 1 else 0) + cntK 1 A) m g3 (by omega) (by omega) (hNd1 g3 (fun q hq => by rw [q1 q hq, hq2 q (by omega), p1 q hq])) q3 q4 (by rw [← hBx]; omega) (by rw [← hBx]; omega) w50 w51 w52 (Or.inr ⟨Or.inr rfl, t, by omega, rfl⟩) ?_ ?_ _ _ _
            · exact hcl1 j hLbj g3 _ (by omega) (fun q hq j' hj' => by rw [q6 q (by omega) j' hj', hq2 q (by omega)])
            · intro g4 hp4 z3 z4 z5
              rw [← hBx] at hp4
              have := LmP_comp hLg hp3 hp4 (by omega) hs1 (Or.inr rfl) (by omega)
              refine hQ g4 ?_ _ _ _
              have e1 : (if s1 = 1 then nI (t + 1) else (-1 : Int32)) = if x.2.2.1 < 0 then -1 else nI (t + 1) := by
                by_cases z : x.2.2.1 < 0
                · rw [if_pos z, if_neg (fun w => hs1x.mp w z)]
                · rw [if_neg z, if_pos (hs1x.mpr z)]
              rw [e1, if_pos (show (2 : Int32) = 2 from rfl)] at this
              rw [if_neg hjn]
              exact this
        have h217 : g2 5 17 = nI (t + 1) := by rw [hq2 5 (by omega), p3]
        have h225 : g2 5 25 = nI (r + (if x.1 = 1 then 1 else 0)) := by rw [hq2 5 (by omega), p4']
        refine ⟨fun e => ?_, fun e => ⟨vi, ?_⟩⟩
        · refine hK _ _ _ _ ?_
          have hAn : A = [] := by rw [← hA, if_pos e]
          refine after g2 0 (Or.inl rfl) ?_ ⟨fun z => absurd z (by decide), fun z => absurd e z⟩ _ _ _
          rw [hAn]
          exact LmP_nil h217 h225
        · rw [ei, g36]
          rcases hNi.1 with z | ⟨j, hj, ej, hLbj⟩
          · rw [z] at e; exact absurd (by decide) e
          · have hAx : A = layT N f j (nI t) (t + 1) (lyE x t E) := by rw [← hA, if_neg e, ej, ix_nI (by omega)]
            have hm2b : m2 ≤ m + 1 ∧ m ≤ m2 ∧ (m2 = m + 1 → 1 ≤ B.length) := by
              rcases hm2 with ⟨e1, -, -⟩ | ⟨e1, j2, hj2, e2, -, -⟩
              · exact ⟨by omega, by omega, fun z => by omega⟩
              · refine ⟨by omega, by omega, fun _ => ?_⟩
                rw [← hB, if_neg (by rw [e2]; exact nI_pos (by omega)), e2, ix_nI (by omega)]
                match f, hi with
                | 0, hi => omega
                | f + 1, hi => unfold layT; simp
            have hA1 : 1 ≤ A.length := by
              rw [hAx]
              match f, hi with
              | 0, hi => omega
              | f + 1, hi => unfold layT; simp
            rw [ej]
            refine s_X5_wait (by omega) (by omega) _ _ _ ?_
            conv => whnf
            rw [nI_1]
            refine hK _ _ _ _ ?_
            have hLg2 := LmP_wait hLg (j := m2) (by omega) (nI j) (nI t) 1
            have v50 : (hset (hset (hset g2 50 m2 (nI j)) 51 m2 (nI t)) 52 m2 1) 50 m2 = nI j := by rw [hset_other (by decide), hset_other (by decide), hset_at, if_pos rfl]
            have v51 : (hset (hset (hset g2 50 m2 (nI j)) 51 m2 (nI t)) 52 m2 1) 51 m2 = nI t := by rw [hset_other (by decide), hset_at, if_pos rfl]
            have v52 : (hset (hset (hset g2 50 m2 (nI j)) 51 m2 (nI t)) 52 m2 1) 52 m2 = 1 := by rw [hset_at, if_pos rfl]
            have hq4 : ∀ q, ¬ (q = 50 ∨ q = 51 ∨ q = 52) → (hset (hset (hset g2 50 m2 (nI j)) 51 m2 (nI t)) 52 m2 1) q = g2 q := fun q hq => by rw [hset_other (by omega), hset_other (by omega), hset_other (by omega)]
            have hw4 : ∀ q, (q = 50 ∨ q = 51 ∨ q = 52) → ∀ j', j' < m2 → (hset (hset (hset g2 50 m2 (nI j)) 51 m2 (nI t)) 52 m2 1) q j' = g2 q j' := by
              intro q hq j' hj'
              rcases hq with rfl | rfl | rfl
              · rw [hset_other (by decide), hset_other (by decide), hset_at, if_neg (by omega)]
              · rw [hset_other (by decide), hset_at, if_neg (by omega), hset_other (by decide)]
              · rw [hset_at, if_neg (by omega), hset_other (by decide), hset_other (by decide)]
            generalize hset (hset (hset g2 50 m2 (nI j)) 51 m2 (nI t)) 52 m2 1 = g4 at *
            refine ih j (nI t) 1 (lyE x t E) (t + 1) (r + (if x.1 = 1 then 1 else 0)) m2 g4 (by omega) (by omega) (hNd1 g4 (fun q hq => by rw [hq4 q (by omega), hq2 q (by omega), p1 q hq])) (by rw [hq4 5 (by omega)]; exact h217) (by rw [hq4 5 (by omega)]; exact h225) (by rw [← hAx]; omega) (by rw [← hAx]; omega) v50 v51 v52 (Or.inr ⟨Or.inl rfl, t, by omega, rfl⟩) ?_ ?_ _ _ _
            · exact hcl1 j hLbj g4 _ (by omega) (fun q hq j' hj' => by rw [hq4 q (by omega), hq2 q (by omega)])
            · intro g5 hp5 z3 z4 z5
              rw [← hAx] at hp5
              refine after g5 1 (Or.inr rfl) ?_ ⟨fun _ => e, fun _ => rfl⟩ _ _ _
              obtain ⟨a1, a2, a3, a4, a5, a6, a7, a8, a9⟩ := hp5
              exact ⟨fun q hq => by rw [a1 q hq, hq4 q (by omega)], fun j hj => by rw [a2 j hj, hq4 5 (by omega)], a3, a4, fun q hq j hj => by rw [a5 q hq j hj, hw4 q hq j hj], fun q hq j hj => by rw [a6 q hq j hj, hq4 q (by omega)], fun j hj => by rw [a7 j hj, hq4 46 (by omega)], fun j hj => by rw [a8 j hj, hq4 47 (by omega)], a9⟩
      refine hK _ _ _ _ ⟨fun e => c261 g1 m (Or.inl ⟨rfl, rfl, e⟩) _, fun e => ?_⟩
      obtain ⟨j, hj, ej, hLbj⟩ := hsec.resolve_left (fun z => e (by rw [z]; decide))
      rw [ej]
      refine s_X5_wait (by omega) (by omega) _ _ _ ?_
      conv => whnf
      rw [nI_1]
      exact c261 _ (m + 1) (Or.inr ⟨rfl, j, hj, ej, hLbj, rfl⟩) _
    have edec : nI (m + 1) + (-1) = nI m := by rw [← nI_1, Int32.add_assoc, show (1 : Int32) + -1 = 0 by decide, Int32.add_zero]
    refine hK _ _ _ _ ⟨fun e => absurd e (nI_nle (by omega) (by omega)), fun _ => ?_⟩
    conv => whnf
    rw [edec]
    refine ⟨vm, ?_⟩
    rw [em, h50]
    conv => whnf
    rw [h17, nI_1]
    refine ⟨vi, vt, vi, vt, vm, vt, vt, vt, vm, ?_⟩
    rw [em, ei, et]
    have k34 : (hset g 5 17 (nI (t + 1))) 34 i = x.1 := by rw [hset_other (by decide)]; exact x34
    rw [k34]
    have k35 : (hset (hset g 5 17 (nI (t + 1))) 43 t x.1) 35 i = x.2.1 := by rw [hset_other (by decide), hset_other (by decide)]; exact x35
    rw [k35]
    have k51 : (hset (hset (hset g 5 17 (nI (t + 1))) 43 t x.1) 44 t x.2.1) 51 m = u := by rw [hset_other (by decide), hset_other (by decide), hset_other (by decide)]; exact h51
    rw [k51]
    have aq : ∀ q, ¬ (q = 5 ∨ q = 43 ∨ q = 44 ∨ q = 45 ∨ q = 46 ∨ q = 47) → (hset (hset (hset (hset (hset (hset g 5 17 (nI (t + 1))) 43 t x.1) 44 t x.2.1) 45 t u) 46 t (-1)) 47 t (-1)) q = g q := fun q hq => by rw [hset_other (by omega), hset_other (by omega), hset_other (by omega), hset_other (by omega), hset_other (by omega), hset_other (by omega)]
    have a5 : ∀ j, (hset (hset (hset (hset (hset (hset g 5 17 (nI (t + 1))) 43 t x.1) 44 t x.2.1) 45 t u) 46 t (-1)) 47 t (-1)) 5 j = if j = 17 then nI (t + 1) else g 5 j := fun j => by rw [hset_other (by omega), hset_other (by omega), hset_other (by omega), hset_other (by omega), hset_other (by omega), hset_at]
    have a43 : ∀ j, (hset (hset (hset (hset (hset (hset g 5 17 (nI (t + 1))) 43 t x.1) 44 t x.2.1) 45 t u) 46 t (-1)) 47 t (-1)) 43 j = if j = t then x.1 else g 43 j := fun j => by rw [hset_other (by omega), hset_other (by omega), hset_other (by omega), hset_other (by omega), hset_at, hset_other (by omega)]
    have a44 : ∀ j, (hset (hset (hset (hset (hset (hset g 5 17 (nI (t + 1))) 43 t x.1) 44 t x.2.1) 45 t u) 46 t (-1)) 47 t (-1)) 44 j = if j = t then x.2.1 else g 44 j := fun j => by rw [hset_other (by omega), hset_other (by omega), hset_other (by omega), hset_at, hset_other (by omega), hset_other (by omega)]
    have a45 : ∀ j, (hset (hset (hset (hset (hset (hset g 5 17 (nI (t + 1))) 43 t x.1) 44 t x.2.1) 45 t u) 46 t (-1)) 47 t (-1)) 45 j = if j = t then u else g 45 j := fun j => by rw [hset_other (by omega), hset_other (by omega), hset_at, hset_other (by omega), hset_other (by omega), hset_other (by omega)]
    have a46 : ∀ j, (hset (hset (hset (hset (hset (hset g 5 17 (nI (t + 1))) 43 t x.1) 44 t x.2.1) 45 t u) 46 t (-1)) 47 t (-1)) 46 j = if j = t then -1 else g 46 j := fun j => by rw [hset_other (by omega), hset_at, hset_other (by omega), hset_other (by omega), hset_other (by omega), hset_other (by omega)]
    have a47 : ∀ j, (hset (hset (hset (hset (hset (hset g 5 17 (nI (t + 1))) 43 t x.1) 44 t x.2.1) 45 t u) 46 t (-1)) 47 t (-1)) 47 j = if j = t then -1 else g 47 j := fun j => by rw [hset_at, hset_other (by omega), hset_other (by omega), hset_other (by omega), hset_other (by omega), hset_other (by omega)]
    generalize hset (hset (hset (hset (hset (hset g 5 17 (nI (t + 1))) 43 t x.1) 44 t x.2.1) 45 t u) 46 t (-1)) 47 t (-1) = gA at *
    rw [aq 52 (by omega), h52]
    -- behind the marks in the thing around
    have c153 : ∀ gC, (∀ q, ¬ (q = 46 ∨ q = 47) → gC q = gA q) → gC 46 t = -1 → gC 47 t = -1 → (∀ j, j < t → gC 46 j = if s = 1 ∧ u = nI j then nI t else g 46 j) → (∀ j, j < t → gC 47 j = if s = 2 ∧ u = nI j then nI t else g 47 j) → K 153 [some (.inr 5), some r0, some (.inl (nI m)), some (.inl (nI i)), some (.inl (nI t)), z5] [] gC := by
      intro gC cq ct46 ct47 c46 c47
      have cw : ∀ q, ¬ (q = 5 ∨ (43 ≤ q ∧ q ≤ 47)) → gC q = g q := fun q hq => by rw [cq q (by omega), aq q (by omega)]
      have c5 : ∀ j, gC 5 j = if j = 17 then nI (t + 1) else g 5 j := fun j => by rw [cq 5 (by omega), a5]
      have k34C : ∀ gX : mvH, gX 34 = gC 34 → gX 34 i = x.1 := fun gX hX => by rw [hX, cw 34 (by omega)]; exact x34
      -- the registers
      have c198 : ∀ (v : Int32) (w : Nat), w = (if x.1 = 1 then 1 else 0) → v = (if x.1 = 1 then nI r else -1) → K 198 [some (.inr 5), some r0, some (.inl (nI m)), some (.inl (nI i)), some (.inl (nI t)), z5] [.inl (nI w), .inl (nI r), .inr 5] (hset gC 49 t v) := by
        intro v w hw hv
        refine hK _ _ _ _ ?_
        conv => whnf
        rw [nI_add]
        have d43 : (hset (hset gC 49 t v) 5 25 (nI (r + w))) 43 t = x.1 := by rw [hset_other (by decide), hset_other (by decide), cq 43 (by decide), a43, if_pos rfl]
        have d44 : (hset (hset gC 49 t v) 5 25 (nI (r + w))) 44 t = x.2.1 := by rw [hset_other (by decide), hset_other (by decide), cq 44 (by decide), a44, if_pos rfl]
        have d45 : (hset (hset gC 49 t v) 5 25 (nI (r + w))) 45 t = u := by rw [hset_other (by decide), hset_other (by decide), cq 45 (by decide), a45, if_pos rfl]
        have fin : ∀ wv, wv = mWi t (x.1, x.2.1, u, -1, -1, o) → LmP g (hset (hset (hset gC 49 t v) 5 25 (nI (r + w))) 48 t wv) t r m s u [(x.1, x.2.1, u, -1, -1, o)] := by
          intro wv hwv
          refine ⟨fun q hq => by rw [hset_other (by omega), hset_other (by omega), hset_other (by omega), cw q (by omega)], fun j hj => by rw [hset_other (by omega), hset_at, if_neg (by omega), hset_other (by omega), c5, if_neg (by omega)], ?_, ?_, fun q hq j hj => by rw [hset_other (by omega), hset_other (by omega), hset_other (by omega), cw q (by omega)], fun q hq j hj => ?_, fun j hj => by rw [hset_other (by omega), hset_other (by omega), hset_other (by omega), c46 j hj], fun j hj => by rw [hset_other (by omega), hset_other (by omega), hset_other (by omega), c47 j hj], fun j y hy => ?_⟩
          · rw [hset_other (by omega), hset_at, if_neg (by omega), hset_other (by omega), c5, if_pos rfl]; rfl
          · rw [hset_other (by omega), hset_at, if_pos rfl, cntK_cons, hw]; rfl
          · rcases hq with rfl | rfl | rfl | rfl | rfl
            · rw [hset_other (by omega), hset_other (by omega), hset_other (by omega), cq 43 (by omega), a43, if_neg (by omega)]
            · rw [hset_other (by omega), hset_other (by omega), hset_other (by omega), cq 44 (by omega), a44, if_neg (by omega)]
            · rw [hset_other (by omega), hset_other (by omega), hset_other (by omega), cq 45 (by omega), a45, if_neg (by omega)]
            · rw [hset_at, if_neg (by omega), hset_other (by omega), hset_other (by omega), cw 48 (by omega)]
            · rw [hset_other (by omega), hset_other (by omega), hset_at, if_neg (by omega), cw 49 (by omega)]
          · match j, hy with
            | 0, hy =>
              simp at hy
              subst hy
              rw [Nat.add_zero]
              refine ⟨by rw [hset_other (by decide)]; exact d43, by rw [hset_other (by decide)]; exact d44, by rw [hset_other (by decide)]; exact d45, by rw [hset_other (by decide), hset_other (by decide), hset_other (by decide)]; exact ct46, by rw [hset_other (by decide), hset_other (by decide), hset_other (by decide)]; exact ct47, by rw [hset_at, if_pos rfl]; exact hwv, ?_⟩
              rw [hset_other (by decide), hset_other (by decide), hset_at, if_pos rfl, hv]
              rfl
        have gox : ∀ wv, wv = mWi t (x.1, x.2.1, u, -1, -1, o) → ∀ gE, gE = hset (hset (hset gC 49 t v) 5 25 (nI (r + w))) 48 t wv → (¬ x.1 = 6 → K 235 [some (.inr 5), some r0, some (.inl (nI m)), some (.inl (nI i)), some (.inl (nI t)), z5] [] gE) ∧ (x.1 = 6 → K 241 [some (.inr 5), some r0, some (.inl (nI m)), some (.inl (nI i)), some (.inl (nI t)), z5] [.inl x.2.2.1] gE) := by
          intro wv hwv gE hgE
          have hp := fin wv hwv
          rw [← hgE] at hp
          constructor
          · intro e6
            refine hK _ _ _ _ ⟨vi, ?_⟩
            rw [ei, hp.1 37 (by omega), x37]
            have := c20 gE hp z5
            unfold lySec at this
            rw [if_neg e6] at this
            exact this
          · intro e6
            have := c20 gE hp z5
            unfold lySec at this
            rw [if_pos e6] at this
            exact this
        refine s_X5_wireOf (by omega) (by omega) (fun z => ?_) (fun z1 z2 z3 => ?_) (fun z1 z2 z3 => ?_)
        · rw [d43, d44] at z
          refine ⟨vt, ?_⟩
          rw [et]
          have k34E : (hset (hset (hset gC 49 t v) 5 25 (nI (r + w))) 48 t (nI (4 + t))) 34 i = x.1 := k34C _ (by rw [hset_other (by decide), hset_other (by decide), hset_other (by decide)])
          have k36E : (hset (hset (hset gC 49 t v) 5 25 (nI (r + w))) 48 t (nI (4 + t))) 36 i = x.2.2.1 := by rw [hset_other (by decide), hset_other (by decide), hset_other (by decide), cw 36 (by decide)]; exact x36
          obtain ⟨g1, g2⟩ := gox (nI (4 + t)) (by unfold mWi; rw [if_pos (z.imp id (fun q => by rcases Classical.em (sgO x.2.1 = -1) with w | w; exact w; exact absurd ((isSg_iff x.2.1).mpr w) q))]) _ rfl
          refine ⟨vi, ?_⟩
          rw [ei, k34E]
          refine ⟨g1, fun e6 => ⟨vi, ?_⟩⟩
          rw [ei, k36E]
          exact g2 e6
        · rw [d43] at z1
          rw [d44] at z2 z3 ⊢
          refine ⟨vt, ?_⟩
          rw [et]
          have k34E : (hset (hset (hset gC 49 t v) 5 25 (nI (r + w))) 48 t (x.2.1 - 101)) 34 i = x.1 := k34C _ (by rw [hset_other (by decide), hset_other (by decide), hset_other (by decide)])
          have k36E : (hset (hset (hset gC 49 t v) 5 25 (nI (r + w))) 48 t (x.2.1 - 101)) 36 i = x.2.2.1 := by rw [hset_other (by decide), hset_other (by decide), hset_other (by decide), cw 36 (by decide)]; exact x36
          obtain ⟨g1, g2⟩ := gox (x.2.1 - 101) (by unfold mWi; rw [if_neg (fun q => q.elim z1 ((isSg_iff x.2.1).mp z2)), if_pos z3]) _ rfl
          refine ⟨vi, ?_⟩
          rw [ei, k34E]
          refine ⟨g1, fun e6 => ⟨vi, ?_⟩⟩
          rw [ei, k36E]
          exact g2 e6
        · rw [d43] at z1
          rw [d44] at z2 z3 ⊢
          rw [d45]
          have hs1 := (isSg_iff x.2.1).mp z2
          have hk3 : x.1 = 2 ∨ x.1 = 4 ∨ x.1 = 5 := by
            rcases hki hs1 with q | q | q | q
            · exact Or.inl q
            · exact Or.inr (Or.inl q)
            · exact Or.inr (Or.inr q)
            · exact absurd q z1
          have h8 : ¬ sgO x.2.1 < 8 := fun q => by
            rcases (sgO_8 x.2.1).mp q with w | w
            · exact w z2
            · exact z3 w
          obtain ⟨c, hc8, ec, hLb⟩ := (hNi.2.2.2 hk3).2 h8
          obtain ⟨k, hk⟩ := hcl c hc8 hLb
          have e8 : ix (8 + nI c - 8) = c := by rw [Int32.add_comm, Int32.add_sub_cancel, ix_nI (by omega)]
          have hoc : E c = o := by rw [← ho, ec, e8]
          have hlt : x.2.1 = nI (115 + c) := by
            rcases sgO_cases x.2.1 with z | ⟨j, hj, z, -⟩ | ⟨j, hj, z, w⟩
            · exact absurd z hs1
            · rw [z] at h8; exact absurd (show nI j < nI 8 from nI_lt hj (by decide)) h8
            · rw [z] at ec
              have : ∀ j, j < 8 → ∀ c, c < 8 → 8 + nI j = 8 + nI c → j = c := by decide +kernel
              rw [w, this j hj c hc8 ec]
          rw [hoc, ← hlt] at hk
          refine ⟨o, k, clm_congr (by omega) (fun j hj => ?_) (fun j hj => ?_) (fun j hj => ?_) k u hk, ?_⟩
          · rw [hset_other (by decide), hset_other (by decide), cq 43 (by decide), a43, if_neg (by omega)]
          · rw [hset_other (by decide), hset_other (by decide), cq 44 (by decide), a44, if_neg (by omega)]
          · rw [hset_other (by decide), hset_other (by decide), cq 45 (by decide), a45, if_neg (by omega)]
          refine ⟨vt, ?_⟩
          rw [et]
          have k34E : (hset (hset (hset gC 49 t v) 5 25 (nI (r + w))) 48 t (nI (4 + o))) 34 i = x.1 := k34C _ (by rw [hset_other (by decide), hset_other (by decide), hset_other (by decide)])
          have k36E : (hset (hset (hset gC 49 t v) 5 25 (nI (r + w))) 48 t (nI (4 + o))) 36 i = x.2.2.1 := by rw [hset_other (by decide), hset_other (by decide), hset_other (by decide), cw 36 (by decide)]; exact x36
          obtain ⟨g1, g2⟩ := gox (nI (4 + o)) (by unfold mWi; rw [if_neg (fun q => q.elim z1 hs1), if_neg z3]) _ rfl
          refine ⟨vi, ?_⟩
          rw [ei, k34E]
          refine ⟨g1, fun e6 => ⟨vi, ?_⟩⟩
          rw [ei, k36E]
          exact g2 e6
      have c177 : ∀ v : Int32, v = (if x.1 = 1 then nI r else -1) → K 177 [some (.inr 5), some r0, some (.inl (nI m)), some (.inl (nI i)), some (.inl (nI t)), z5] [.inl v, .inl (nI t), .inr 49] gC := by
        intro v hv
        refine hK _ _ _ _ ⟨vt, ?_⟩
        rw [et]
        have r25 : (hset gC 49 t v) 5 25 = nI r := by rw [hset_other (by decide), c5, if_neg (by decide), h25]
        have r34 : (hset gC 49 t v) 34 i = x.1 := k34C _ (by rw [hset_other (by decide)])
        conv => whnf
        rw [r25]
        refine ⟨vi, ?_⟩
        rw [ei, r34]
        refine ⟨fun e => ?_, fun e => ?_⟩
        · refine hK _ _ _ _ ?_
          exact c198 v 0 (by rw [if_neg e]) hv
        · exact c198 v 1 (by rw [if_pos e]) hv
      refine hK _ _ _ _ ⟨vi, ?_⟩
      rw [ei, k34C gC rfl]
      refine ⟨fun e => ?_, fun e => ?_⟩
      · refine hK _ _ _ _ ?_
        exact c177 (-1) (by rw [if_neg e])
      · have r25 : gC 5 25 = nI r := by rw [c5, if_neg (by decide), h25]
        conv => whnf
        rw [r25]
        exact c177 (nI r) (by rw [if_pos e])
    have c129 : ∀ gB, (∀ q, ¬ q = 46 → gB q = gA q) → gB 46 t = -1 → (∀ j, j < t → gB 46 j = if s = 1 ∧ u = nI j then nI t else g 46 j) → K 129 [some (.inr 5), some r0, some (.inl (nI m)), some (.inl (nI i)), some (.inl (nI t)), z5] [] gB := by
      intro gB bq bt46 b46
      have b47 : ∀ j, gB 47 j = if j = t then -1 else g 47 j := fun j => by rw [bq 47 (by decide), a47]
      refine hK _ _ _ _ ⟨vm, ?_⟩
      rw [em, bq 52 (by decide), aq 52 (by decide), h52]
      refine ⟨fun e => ?_, fun e => ⟨vt, ?_⟩⟩
      · refine c153 gB (fun q hq => bq q (by omega)) bt46 (by rw [b47, if_pos rfl]) b46 (fun j hj => ?_)
        rw [b47, if_neg (by omega), if_neg (fun z => e z.1)]
      · obtain ⟨j0, hj0, hu⟩ := (hsd.resolve_left (fun z => by rw [z] at e; exact absurd e (by decide))).2
        rw [et, bq 45 (by decide), a45, if_pos rfl, hu]
        refine ⟨vp_in_nI (by omega) (by decide), ?_⟩
        rw [nI_clamp (by omega)]
        refine c153 (hset gB 47 j0 (nI t)) (fun q hq => by rw [hset_other (by omega), bq q (by omega)]) (by rw [hset_other (by decide)]; exact bt46) (by rw [hset_at, if_neg (by omega), b47, if_pos rfl]) (fun j hj => by rw [hset_other (by decide)]; exact b46 j hj) (fun j hj => ?_)
        rw [hset_at, b47]
        by_cases hjj : j = j0
        · subst hjj
          rw [if_pos rfl, if_pos ⟨e, hu⟩]
        · rw [if_neg hjj, if_neg (by omega), if_neg (fun z => hjj ?_)]
          have := z.2
          rw [hu] at this
          exact (nI_inj (by omega) (by omega) this).symm
    refine ⟨fun e => ?_, fun e => ⟨vt, ?_⟩⟩
    · refine c129 gA (fun q hq => rfl) (by rw [a46, if_pos rfl]) (fun j hj => ?_)
      rw [a46, if_neg (by omega), if_neg (fun z => e z.1)]
    · obtain ⟨j0, hj0, hu⟩ := (hsd.resolve_left (fun z => by rw [z] at e; exact absurd e (by decide))).2
      rw [et, a45, if_pos rfl, hu]
      refine ⟨vp_in_nI (by omega) (by decide), ?_⟩
      rw [nI_clamp (by omega)]
      refine c129 _ (fun q hq => by rw [hset_other hq]) (by rw [hset_at, if_neg (by omega), a46, if_pos rfl]) (fun j hj => ?_)
      rw [hset_at, a46]
      by_cases hjj : j = j0
      · subst hjj
        rw [if_pos rfl, if_pos ⟨e, hu⟩]
      · rw [if_neg hjj, if_neg (by omega), if_neg (fun z => hjj ?_)]
        have := z.2
        rw [hu] at this
        exact (nI_inj (by omega) (by omega) this).symm
theorem s_X5_lay {d : Nat} {g : mvH} {Q : Option mvV → mvH → Prop} (hd : 5 ≤ d) (hok : NdOK N Lb) (hkd : ∀ i, i < N.length → ¬ sgO (nd N i).2.1 = -1 → (nd N i).1 = 2 ∨ (nd N i).1 = 4 ∨ (nd N i).1 = 5 ∨ (nd N i).1 = 8) (h1 : 1 ≤ N.length) (hroot : ∀ c, ¬ Lb (N.length - 1) c) (hNd : NdM g N) (hlen : (pgT N).length ≤ 120) (hQ : ∀ g', (∀ q, ¬ (q = 5 ∨ (43 ≤ q ∧ q ≤ 52)) → g' q = g q) → (∀ j, ¬ (j = 17 ∨ j = 25) → g' 5 j = g 5 j) → g' 5 17 = nI (pgT N).length → g' 5 25 = nI (cntK 1 (pgT N)) → MdCon g' 0 0 (pgT N) → Q none g') : mvCal mvMT d 117 [.inr 5, .inl (nI (N.length - 1))] g Q := by
  obtain ⟨d, rfl⟩ := d_pos hd (by decide)
  have hN := hok.1
  refine ⟨⟨rfl, by decide, rfl⟩, Nat.le_of_ble_eq_true rfl, fun K hK => hK _ _ _ _ ?_⟩
  refine s_X5_wait (m := 0) (by omega) (by decide) (nI (N.length - 1)) (-1) 0 ?_
  have q : ∀ q, ¬ (q = 5 ∨ (50 ≤ q ∧ q ≤ 52)) → (hset (hset (hset (hset (hset g 5 17 0) 5 25 0) 50 0 (nI (N.length - 1))) 51 0 (-1)) 52 0 0) q = g q := fun q hq => by rw [hset_other (by omega), hset_other (by omega), hset_other (by omega), hset_other (by omega), hset_other (by omega)]
  have q5 : ∀ j, (hset (hset (hset (hset (hset g 5 17 0) 5 25 0) 50 0 (nI (N.length - 1))) 51 0 (-1)) 52 0 0) 5 j = if j = 25 then 0 else if j = 17 then 0 else g 5 j := fun j => by rw [hset_other (by omega), hset_other (by omega), hset_other (by omega), hset_at, hset_at]
  have q50 : (hset (hset (hset (hset (hset g 5 17 0) 5 25 0) 50 0 (nI (N.length - 1))) 51 0 (-1)) 52 0 0) 50 0 = nI (N.length - 1) := by rw [hset_other (by omega), hset_other (by omega), hset_at, if_pos rfl]
  have q51 : (hset (hset (hset (hset (hset g 5 17 0) 5 25 0) 50 0 (nI (N.length - 1))) 51 0 (-1)) 52 0 0) 51 0 = -1 := by rw [hset_other (by omega), hset_at, if_pos rfl]
  have q52 : (hset (hset (hset (hset (hset g 5 17 0) 5 25 0) 50 0 (nI (N.length - 1))) 51 0 (-1)) 52 0 0) 52 0 = 0 := by rw [hset_at, if_pos rfl]
  generalize hset (hset (hset (hset (hset g 5 17 0) 5 25 0) 50 0 (nI (N.length - 1))) 51 0 (-1)) 52 0 0 = g1 at *
  refine ml_main (by omega) hok hkd hK _ N.length (N.length - 1) (-1) 0 (fun _ => 0) 0 0 0 g1 (by omega) (by omega) (fun i x hx => by rw [q 34 (by omega), q 35 (by omega), q 36 (by omega), q 37 (by omega)]; exact hNd i x hx) (by rw [q5]; rfl) (by rw [q5]; rfl) (by show 0 + (pgT N).length ≤ 120; omega) (by show 0 + (pgT N).length ≤ 159; omega) q50 q51 q52 (Or.inl rfl) (fun c _ hl => absurd hl (hroot c)) (fun g' hp z3 z4 z5 => ?_) _ _ _
  obtain ⟨p1, p2, p3, p4, p5, p6, p7, p8, p9⟩ := hp
  refine hK _ _ _ _ ⟨fun _ => ?_, fun e => absurd (by decide) e⟩
  refine hK _ _ _ _ ?_
  refine hQ g' (fun q' hq' => by rw [p1 q' hq', q q' (by omega)]) (fun j hj => by rw [p2 j hj, q5, if_neg (by omega), if_neg (by omega)]) ?_ ?_ p9
  · rw [p3, Nat.zero_add]; rfl
  · rw [p4, Nat.zero_add]; rfl
end MY
