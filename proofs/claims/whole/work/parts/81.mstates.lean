/-! THE REFERENCE's search is the search -/
section MG
variable {d : Nat} {h : mvH} {Q : Option mvV → mvH → Prop} {A : List Th}
theorem aRf_stop {A : List Th} {i : Nat} {rg : Nat → Bool} {S : Nat → Nat → Bool} {m : Nat} : ∀ j k, (aRf A i rg k S m).1 = false → (aRf A i rg (k + j) S m).1 = false := by
  intro j
  induction j with
  | zero => intro k h; exact h
  | succ j ih =>
    intro k h
    have h1 := ih k h
    rcases hB : aRf A i rg (k + j) S m with ⟨b, S', m'⟩
    rw [hB] at h1
    have h1 : b = false := h1
    subst h1
    show (aRf A i rg (k + j + 1) S m).1 = false
    rw [aRf, hB]
/-- what a call of states leaves -/
def FrS (h h' : mvH) : Prop := (∀ q, ¬ (q = 5 ∨ (53 ≤ q ∧ q ≤ 61) ∨ q = 63) → h' q = h q) ∧ ∀ j, ¬ (j = 37 ∨ j = 38 ∨ j = 50 ∨ j = 51 ∨ j = 52) → h' 5 j = h 5 j
def FrS0 (h h' : mvH) : Prop := (∀ q, ¬ (q = 5 ∨ (53 ≤ q ∧ q ≤ 61) ∨ q = 63) → h' q = h q) ∧ ∀ j, ¬ (j = 37 ∨ j = 38) → h' 5 j = h 5 j
def HQs (Q : Option mvV → mvH → Prop) (h : mvH) (B : Bool × (Nat → Nat → Bool) × Nat × Nat × Nat × Int32) : Prop := (B.1 = true → ∀ h', FrS h h' → h' 5 50 = nI B.2.2.2.1 → h' 5 51 = nI B.2.2.2.2.1 → h' 5 52 = B.2.2.2.2.2 → Q (some (.inl (nI B.2.2.1))) h') ∧ (B.1 = false → ∀ h', FrS0 h h' → Q (some (.inl (-2))) h')
theorem aRf_t {A : List Th} {i k : Nat} {rg : Nat → Bool} {S S' : Nat → Nat → Bool} {m m' : Nat} (hB : aRf A i rg k S m = (true, S', m')) : aRf A i rg (k + 1) S m = (if aD A rg k (decide (i = 0)) = 0 ∧ aE A rg k (decide (i = 0)) = false then
        @ite _ (∃ s, 1 ≤ s ∧ s < m' ∧ S' s = aN A rg k (decide (i = 0))) (Classical.propDecidable _) (true, S', m') (if m' < 30 then (true, fun s => if s = m' then aN A rg k (decide (i = 0)) else S' s, m' + 1) else (false, S', m'))
      else (true, S', m')) := by
  rw [aRf, hB]
set_option maxHeartbeats 16000000 in
theorem s_X5_states (hd : 8 ≤ d) (hT : TF A) (hM : MdCon h 0 0 A) (h17 : h 5 17 = nI A.length) (h25 : h 5 25 = nI (cntK 1 A)) (h26 : ¬ h 5 26 = 0) (hQ : HQs Q h (aLt A 30 0 (fun _ _ => false) 1 0 0 0)) : mvCal mvMT d 141 [.inr 5] h Q := by
  obtain ⟨d, rfl⟩ := d_pos hd (by decide)
  have hA := hT.1
  have hR := cntK_le (A := A) 1
  refine ⟨⟨rfl, by decide, rfl⟩, Nat.le_of_ble_eq_true rfl, fun K hK => hK _ _ _ _ ⟨fun _ => ?_, fun e => absurd e h26⟩⟩
  have hMd : ∀ g, FrS0 h g → MdCon g 0 0 A := fun g hg j x hx => by
    rw [hg.1 43 (by decide), hg.1 44 (by decide), hg.1 45 (by decide), hg.1 46 (by decide), hg.1 47 (by decide), hg.1 48 (by decide), hg.1 49 (by decide)]
    exact hM j x hx
  have e6 : ∀ s c, 120 * nI s + nI c = nI (120 * s + c) := fun s c => by rw [show (120 : Int32) = nI 120 by decide, pk_mul, nI_add]
  have outer : ∀ f i (S : Nat → Nat → Bool) (m u e : Nat) (G : Int32) (g : mvH), i + f = 30 → FrS0 h g → SM g S m → (∀ s, s < m → Cn A (S s)) → 1 ≤ m → m ≤ 30 → HQs Q h (aLt A f i S m u e G) → ∀ z6 z7 z8, K 45 [some (.inr 5), some (.inl (nI m)), some (.inl (nI u)), some (.inl (nI e)), some (.inl G), some (.inl (nI i)), z6, z7, z8] [] g := by
    intro f
    induction f with
    | zero =>
      intro i S m u e G g hi hg hs hc hm1 hm hq z6 z7 z8
      refine hK _ _ _ _ ⟨fun _ => ?_, fun e => absurd (nI_le (by omega) (by omega)) e⟩
      refine hK _ _ _ _ ⟨trivial, ?_⟩
      refine hq.1 rfl _ ⟨fun q hq2 => ?_, fun j hj => ?_⟩ ?_ ?_ ?_
      · rw [hset_other (by omega), hset_other (by omega), hset_other (by omega)]; exact hg.1 q hq2
      · rw [hset_at, if_neg (by omega), hset_at, if_neg (by omega), hset_at, if_neg (by omega)]; exact hg.2 j (by omega)
      · rw [hset_at, if_neg (by decide), hset_at, if_neg (by decide), hset_at, if_pos rfl]; rfl
      · rw [hset_at, if_neg (by decide), hset_at, if_pos rfl]; rfl
      · rw [hset_at, if_pos rfl]; rfl
    | succ f ih =>
      intro i S m u e G g hi hg hs hc hm1 hm hq z6 z7 z8
      by_cases him : i < m
      · refine hK _ _ _ _ ⟨fun e => absurd e (nI_ge him (by omega)), fun _ => ?_⟩
        have inner : ∀ n k, k + n = 16 → ∀ (S' : Nat → Nat → Bool) (m' : Nat) (g : mvH), aRf A i (S i) k S m = (true, S', m') → FrS0 h g → SM g S' m' → (∀ s, s < m' → Cn A (S' s)) → m ≤ m' → m' ≤ 30 → (∀ s, s < m → S' s = S s) → ∀ z7 z8, K 54 [some (.inr 5), some (.inl (nI m')), some (.inl (nI (u + tU A i (S i) k))), some (.inl (nI (e + tE A i (S i) k))), some (.inl (tG A i (S i) G k)), some (.inl (nI i)), some (.inl (nI k)), z7, z8] [] g := by
          intro n
          induction n with
          | zero =>
            intro k hk S' m' g hB hg hs' hc' hmm hm' hSS z7 z8
            have hk : k = 16 := by omega
            subst hk
            refine hK _ _ _ _ ⟨fun _ => ?_, fun e => absurd (by decide) e⟩
            refine hK _ _ _ _ ?_
            conv => whnf
            rw [nI_1]
            rw [aLt_s him hB, if_pos rfl] at hq
            exact ih (i + 1) S' m' _ _ _ g (by omega) hg hs' hc' (by omega) hm' hq _ _ _
          | succ n ihn =>
            intro k hk S' m' g hB hg hs' hc' hmm hm' hSS z7 z8
            have hBt := aRf_t hB
            have eU : tU A i (S i) (k + 1) = tU A i (S i) k + (if aD A (S i) k (decide (i = 0)) = 0 then 0 else 1) := rfl
            have eE : tE A i (S i) (k + 1) = tE A i (S i) k + (if aD A (S i) k (decide (i = 0)) = 0 ∧ aE A (S i) k (decide (i = 0)) = true then 1 else 0) := rfl
            have eG : tG A i (S i) G (k + 1) = if aD A (S i) k (decide (i = 0)) = 0 then tG A i (S i) G k ||| oW (aO A (S i) k (decide (i = 0))) 4 else tG A i (S i) G k := rfl
            refine hK _ _ _ _ ⟨fun e => absurd e (nI_ge (b := 16) (by omega) (by omega)), fun _ => ?_⟩
            -- the next lane
            have c237 : ∀ (S2 : Nat → Nat → Bool) (m2 : Nat) (g2 : mvH), aRf A i (S i) (k + 1) S m = (true, S2, m2) → FrS0 h g2 → SM g2 S2 m2 → (∀ s, s < m2 → Cn A (S2 s)) → m ≤ m2 → m2 ≤ 30 → (∀ s, s < m → S2 s = S s) → ∀ z7 z8, K 237 [some (.inr 5), some (.inl (nI m2)), some (.inl (nI (u + tU A i (S i) (k + 1)))), some (.inl (nI (e + tE A i (S i) (k + 1)))), some (.inl (tG A i (S i) G (k + 1))), some (.inl (nI i)), some (.inl (nI k)), z7, z8] [] g2 := by
              intro S2 m2 g2 b1 b2 b3 b4 b5 b6 b7 z7 z8
              refine hK _ _ _ _ ?_
              conv => whnf
              rw [nI_1]
              exact ihn (k + 1) (by omega) S2 m2 g2 b1 b2 b3 b4 b5 b6 b7 _ _
            -- behind the instant
            have c108 : ∀ (g1 : mvH), FrS0 h g1 → SM g1 S' m' → (∀ c, c < 120 → g1 60 c = b1I (S i c)) → ∀ z7 z8, K 108 [some (.inr 5), some (.inl (nI m')), some (.inl (nI (u + tU A i (S i) k))), some (.inl (nI (e + tE A i (S i) k))), some (.inl (tG A i (S i) G k)), some (.inl (nI i)), some (.inl (nI k)), z7, z8] [.inl (b1I (decide (i = 0))), .inr 5] g1 := by
              intro g1 hg1 hs1 h60 z7 z8
              refine hK _ _ _ _ ?_
              refine s_X5_inst2 (rg := S i) (st := decide (i = 0)) (inp := k) (by omega) hT (hMd g1 hg1) (by rw [hg1.2 17 (by decide)]; exact h17) (by omega) h60 (fun g2 f1 f2 hm2 hv2 he2 hn2 => ?_)
              have hg2 : FrS0 h g2 := ⟨fun q hq => by rw [f1 q (by omega)]; exact hg1.1 q hq, fun j hj => by rw [f2 j hj]; exact hg1.2 j hj⟩
              have hs2 : SM g2 S' m' := by unfold SM; rw [f1 63 (by decide)]; exact hs1
              have ho1 := o1_ok hT hv2 he2
              generalize hr : (if aD A (S i) k (decide (i = 0)) = 0 then b1I (aE A (S i) k (decide (i = 0))) else 2) = r
              have c162 : K 162 [some (.inr 5), some (.inl (nI m')), some (.inl (nI (u + tU A i (S i) (k + 1)))), some (.inl (nI (e + tE A i (S i) (k + 1)))), some (.inl (tG A i (S i) G k)), some (.inl (nI i)), some (.inl (nI k)), some (.inl r), z8] [.inl (tG A i (S i) G (k + 1))] g2 := by
                refine hK _ _ _ _ ⟨fun q => ?_, fun q => ?_⟩
                · have hne : ¬ (aD A (S i) k (decide (i = 0)) = 0 ∧ aE A (S i) k (decide (i = 0)) = false) := by
                    rintro ⟨w1, w2⟩
                    rw [if_pos w1, w2] at hr
                    exact q hr.symm
                  rw [if_neg hne] at hBt
                  exact c237 S' m' g2 hBt hg2 hs2 hc' hmm hm' hSS _ _
                · have hd0 : aD A (S i) k (decide (i = 0)) = 0 ∧ aE A (S i) k (decide (i = 0)) = false := by
                    by_cases w1 : aD A (S i) k (decide (i = 0)) = 0
                    · refine ⟨w1, ?_⟩
                      rw [if_pos w1] at hr
                      cases w2 : aE A (S i) k (decide (i = 0))
                      · rfl
                      · rw [w2] at hr; exact absurd (hr.trans q) (by decide)
                    · rw [if_neg w1] at hr; exact absurd (hr.trans q) (by decide)
                  rw [if_pos hd0] at hBt
                  have hnx := hn2 hd0.1
                  have hnc : Cn A (aN A (S i) k (decide (i = 0))) := nxF_Cn
                  refine s_X5_known (nx := aN A (S i) k (decide (i = 0))) (by omega) hA (by omega) hm' hs2 hc' hnx hnc (by rw [hg2.2 25 (by decide)]; exact h25) (fun hy => ?_) (fun hn => ?_)
                  · rw [if_pos hy] at hBt
                    refine ⟨fun _ => ?_, fun q => absurd (show (1 : Int32) = 0 from q) (by decide)⟩
                    exact c237 S' m' g2 hBt hg2 hs2 hc' hmm hm' hSS _ _
                  · rw [if_neg hn] at hBt
                    refine ⟨fun q => absurd rfl q, fun _ => ⟨fun q30 => ?_, fun q30 => ⟨trivial, ?_⟩⟩⟩
                    · have h30 : m' < 30 := by
                        rcases Nat.lt_or_ge m' 30 with w | w
                        · exact w
                        · exact absurd (show nI m' = 30 by rw [show m' = 30 by omega]; rfl) q30
                      rw [if_pos h30] at hBt
                      refine hK _ _ _ _ ?_
                      -- the new row
                      have l189 : ∀ n2 c, c + n2 = 120 → ∀ (g3 : mvH), (∀ q, ¬ q = 63 → g3 q = g2 q) → (∀ j, (j < 120 * m') → g3 63 j = g2 63 j) → (∀ j, j < c → g3 63 (120 * m' + j) = b1I (aN A (S i) k (decide (i = 0)) j)) → K 189 [some (.inr 5), some (.inl (nI m')), some (.inl (nI (u + tU A i (S i) (k + 1)))), some (.inl (nI (e + tE A i (S i) (k + 1)))), some (.inl (tG A i (S i) G (k + 1))), some (.inl (nI i)), some (.inl (nI k)), some (.inl r), some (.inl (nI c))] [] g3 := by
                        intro n2
                        induction n2 with
                        | zero =>
                          intro c hc2 g3 d1 d2 d3
                          have hc2 : c = 120 := by omega
                          subst hc2
                          refine hK _ _ _ _ ⟨fun _ => ?_, fun e => absurd (by decide) e⟩
                          refine hK _ _ _ _ ?_
                          conv => whnf
                          rw [nI_1]
                          refine c237 _ (m' + 1) g3 hBt ⟨fun q hq => by rw [d1 q (by omega)]; exact hg2.1 q hq, fun j hj => by rw [d1 5 (by decide)]; exact hg2.2 j hj⟩ (fun s hs3 c hc3 => ?_) (fun s hs3 => ?_) (by omega) (by omega) (fun s hs3 => ?_) _ _
                          · dsimp only
                            by_cases w : s = m'
                            · rw [if_pos w, w]; exact d3 c hc3
                            · rw [if_neg w, d2 _ (by omega)]; exact hs2 s (by omega) c hc3
                          · by_cases w : s = m'
                            · rw [if_pos w]; exact hnc
                            · rw [if_neg w]; exact hc' s (by omega)
                          · rw [if_neg (by omega)]; exact hSS s hs3
                        | succ n2 ihn2 =>
                          intro c hc2 g3 d1 d2 d3
                          have c227 : ∀ v, v = b1I (aN A (S i) k (decide (i = 0)) c) → K 227 [some (.inr 5), some (.inl (nI m')), some (.inl (nI (u + tU A i (S i) (k + 1)))), some (.inl (nI (e + tE A i (S i) (k + 1)))), some (.inl (tG A i (S i) G (k + 1))), some (.inl (nI i)), some (.inl (nI k)), some (.inl r), some (.inl (nI c))] [.inl v, .inl (nI (120 * m' + c)), .inr 63] g3 := by
                            intro v hv
                            refine hK _ _ _ _ ⟨vp_in_nI (by omega) (by decide), ?_⟩
                            rw [nI_clamp (by omega)]
                            conv => whnf
                            rw [nI_1]
                            refine ihn2 (c + 1) (by omega) (hset g3 63 (120 * m' + c) v) (fun q hq => by rw [hset_other hq]; exact d1 q hq) (fun j hj => by rw [hset_at, if_neg (by omega)]; exact d2 j hj) (fun j hj => ?_)
                            rw [hset_at]
                            by_cases w : j = c
                            · rw [if_pos (by omega), hv, w]
                            · rw [if_neg (by omega)]; exact d3 j (by omega)
                          refine hK _ _ _ _ ⟨fun e => absurd e (nI_ge (b := 120) (by omega) (by omega)), fun _ => ?_⟩
                          conv => whnf
                          rw [e6, d1 5 (by decide), hg2.2 25 (by decide), h25]
                          refine ⟨fun w => ?_, fun w => ?_⟩
                          · have hcc : cntK 1 A ≤ c := by
                              rcases Nat.lt_or_ge c (cntK 1 A) with w2 | w2
                              · exact absurd w (nI_ge w2 (by omega))
                              · exact w2
                            refine hK _ _ _ _ ?_
                            exact c227 0 (by rw [hnc c hcc]; rfl)
                          · have hcc : c < cntK 1 A := by
                              rcases Nat.lt_or_ge c (cntK 1 A) with w2 | w2
                              · exact w2
                              · exact absurd (nI_le w2 (by omega)) w
                            refine ⟨vp_in_nI (by omega) (by decide), ?_⟩
                            rw [nI_clamp (by omega), d1 61 (by decide), hnx c hcc]
                            exact c227 _ rfl
                      exact l189 120 0 (by omega) g2 (fun _ _ => rfl) (fun _ _ => rfl) (fun j hj => by omega)
                    · have h30 : ¬ m' < 30 := fun w => absurd (nI_inj (b := 30) (by omega) (by decide) q30) (by omega)
                      rw [if_neg h30] at hBt
                      have hst : (aRf A i (S i) 16 S m).1 = false := by
                        have := aRf_stop (A := A) (i := i) (rg := S i) (S := S) (m := m) (16 - (k + 1)) (k + 1) (by rw [hBt])
                        rwa [show k + 1 + (16 - (k + 1)) = 16 by omega] at this
                      rcases hB16 : aRf A i (S i) 16 S m with ⟨b16, S16, m16⟩
                      rw [hB16] at hst
                      have hst : b16 = false := hst
                      subst hst
                      rw [aLt_s him hB16, if_neg (by decide)] at hq
                      exact hq.2 rfl g2 hg2
              have c141 : K 141 [some (.inr 5), some (.inl (nI m')), some (.inl (nI (u + tU A i (S i) (k + 1)))), some (.inl (nI (e + tE A i (S i) k))), some (.inl (tG A i (S i) G k)), some (.inl (nI i)), some (.inl (nI k)), some (.inl r), z8] [.inl (if aD A (S i) k (decide (i = 0)) = 0 ∧ aE A (S i) k (decide (i = 0)) = true then 1 else 0), .inl (nI (e + tE A i (S i) k))] g2 := by
                refine hK _ _ _ _ ?_
                conv => whnf
                rw [nI_if, Nat.add_assoc, ← eE]
                refine ⟨fun w => ?_, fun w => ?_⟩
                · have hd2 : ¬ aD A (S i) k (decide (i = 0)) = 0 := by
                    intro z
                    rw [if_pos z] at hr
                    rw [← hr] at w
                    exact absurd w (by cases aE A (S i) k (decide (i = 0)) <;> decide)
                  rw [if_neg hd2] at eG
                  rw [eG] at c162
                  refine hK _ _ _ _ ?_
                  exact c162
                · have hd2 : aD A (S i) k (decide (i = 0)) = 0 := by
                    by_cases z : aD A (S i) k (decide (i = 0)) = 0
                    · exact z
                    · rw [if_neg z] at hr
                      exact absurd (show (2 : Int32) ≤ r by rw [← hr]; decide) w
                  rw [if_pos hd2] at eG
                  rw [eG] at c162
                  refine s_X5_outputsWith (by omega) 1 ?_
                  rw [ho1]
                  exact c162
              have c127 : K 127 [some (.inr 5), some (.inl (nI m')), some (.inl (nI (u + tU A i (S i) k))), some (.inl (nI (e + tE A i (S i) k))), some (.inl (tG A i (S i) G k)), some (.inl (nI i)), some (.inl (nI k)), some (.inl r), z8] [.inl (if ¬ aD A (S i) k (decide (i = 0)) = 0 then 1 else 0), .inl (nI (u + tU A i (S i) k))] g2 := by
                have eU2 : tU A i (S i) k + (if ¬ aD A (S i) k (decide (i = 0)) = 0 then 1 else 0) = tU A i (S i) (k + 1) := by
                  rw [eU]
                  by_cases z : aD A (S i) k (decide (i = 0)) = 0
                  · rw [if_neg (fun q => q z), if_pos z]
                  · rw [if_pos z, if_neg z]
                refine hK _ _ _ _ ?_
                conv => whnf
                rw [nI_if, Nat.add_assoc, eU2]
                refine ⟨fun w => ?_, fun w => ?_⟩
                · rw [if_neg (fun z => w (by rw [← hr, if_pos z.1, z.2]; rfl))] at c141
                  refine hK _ _ _ _ ?_
                  exact c141
                · have hd2 : aD A (S i) k (decide (i = 0)) = 0 ∧ aE A (S i) k (decide (i = 0)) = true := by
                    by_cases z : aD A (S i) k (decide (i = 0)) = 0
                    · refine ⟨z, ?_⟩
                      rw [if_pos z] at hr
                      cases w2 : aE A (S i) k (decide (i = 0))
                      · rw [w2] at hr; exact absurd (hr.trans w) (by decide)
                      · rfl
                    · rw [if_neg z] at hr; exact absurd (hr.trans w) (by decide)
                  rw [if_pos hd2] at c141
                  exact c141
              refine ⟨fun w => ?_, fun w => ?_⟩
              · have hd2 : aD A (S i) k (decide (i = 0)) = 0 := by
                  by_cases z : aD A (S i) k (decide (i = 0)) = 0
                  · exact z
                  · rw [if_neg z] at hr; exact absurd hr.symm w
                rw [if_neg (fun q => q hd2)] at c127
                refine hK _ _ _ _ ?_
                exact c127
              · have hd2 : ¬ aD A (S i) k (decide (i = 0)) = 0 := by
                  intro z
                  rw [if_pos z] at hr
                  rw [← hr] at w
                  exact absurd w (by cases aE A (S i) k (decide (i = 0)) <;> decide)
                rw [if_pos hd2] at c127
                exact c127
            -- the registers are laid
            have l64 : ∀ n2 c, c + n2 = 120 → ∀ (g3 : mvH), (∀ q, ¬ q = 60 → g3 q = g q) → (∀ j, j < c → g3 60 j = b1I (S i j)) → ∀ z8, K 64 [some (.inr 5), some (.inl (nI m')), some (.inl (nI (u + tU A i (S i) k))), some (.inl (nI (e + tE A i (S i) k))), some (.inl (tG A i (S i) G k)), some (.inl (nI i)), some (.inl (nI k)), some (.inl (nI c)), z8] [] g3 := by
              intro n2
              induction n2 with
              | zero =>
                intro c hc2 g3 d1 d2 z8
                have hc2 : c = 120 := by omega
                subst hc2
                have hg3 : FrS0 h g3 := ⟨fun q hq => by rw [d1 q (by omega)]; exact hg.1 q hq, fun j hj => by rw [d1 5 (by decide)]; exact hg.2 j hj⟩
                have hs3 : SM g3 S' m' := by unfold SM; rw [d1 63 (by decide)]; exact hs'
                have := c108 g3 hg3 hs3 d2 (some (.inl (nI 120))) z8
                refine hK _ _ _ _ ⟨fun _ => ?_, fun e => absurd (by decide) e⟩
                refine hK _ _ _ _ ⟨fun q => ?_, fun q => ?_⟩
                · have hi0 : ¬ i = 0 := fun z => q (by rw [z]; rfl)
                  rw [decide_eq_false hi0] at this
                  refine hK _ _ _ _ ?_
                  exact this
                · have hi0 : i = 0 := nI_inj (b := 0) (by omega) (by decide) q
                  rw [decide_eq_true hi0] at this
                  exact this
              | succ n2 ihn2 =>
                intro c hc2 g3 d1 d2 z8
                refine hK _ _ _ _ ⟨fun e => absurd e (nI_ge (b := 120) (by omega) (by omega)), fun _ => ?_⟩
                conv => whnf
                rw [e6]
                refine ⟨vp_in_nI (by omega) (by decide), vp_in_nI (by omega) (by decide), ?_⟩
                rw [nI_clamp (by omega), nI_clamp (by omega), d1 63 (by decide), hs' i (by omega) c (by omega), hSS i him]
                conv => whnf
                rw [nI_1]
                refine ihn2 (c + 1) (by omega) (hset g3 60 c (b1I (S i c))) (fun q hq => by rw [hset_other hq]; exact d1 q hq) (fun j hj => ?_) _
                rw [hset_at]
                by_cases w : j = c
                · rw [if_pos w, w]
                · rw [if_neg w]; exact d2 j (by omega)
            exact l64 120 0 (by omega) g (fun _ _ => rfl) (fun j hj => by omega) _
        exact inner 16 0 (by omega) S m g rfl hg hs hc (Nat.le_refl _) hm (fun _ _ => rfl) _ _
      · rw [aLt_n him] at hq
        refine hK _ _ _ _ ⟨fun _ => ?_, fun e => absurd (nI_le (by omega) (by omega)) e⟩
        refine hK _ _ _ _ ⟨trivial, ?_⟩
        refine hq.1 rfl _ ⟨fun q hq2 => ?_, fun j hj => ?_⟩ ?_ ?_ ?_
        · rw [hset_other (by omega), hset_other (by omega), hset_other (by omega)]; exact hg.1 q hq2
        · rw [hset_at, if_neg (by omega), hset_at, if_neg (by omega), hset_at, if_neg (by omega)]; exact hg.2 j (by omega)
        · rw [hset_at, if_neg (by decide), hset_at, if_neg (by decide), hset_at, if_pos rfl]
        · rw [hset_at, if_neg (by decide), hset_at, if_pos rfl]
        · rw [hset_at, if_pos rfl]
  -- the first row
  have l21 : ∀ n i, i + n = 120 → ∀ (g : mvH), (∀ q, ¬ q = 63 → g q = h q) → (∀ j, j < i → g 63 j = 0) → ∀ z6 z7 z8, K 21 [some (.inr 5), some (.inl (nI 1)), some (.inl (nI 0)), some (.inl (nI 0)), some (.inl 0), some (.inl (nI i)), z6, z7, z8] [] g := by
    intro n
    induction n with
    | zero =>
      intro i hi g d1 d2 z6 z7 z8
      have hi : i = 120 := by omega
      subst hi
      refine hK _ _ _ _ ⟨fun _ => ?_, fun e => absurd (by decide) e⟩
      refine hK _ _ _ _ ?_
      refine outer 30 0 (fun _ _ => false) 1 0 0 0 g (by omega) ⟨fun q hq => d1 q (by omega), fun j hj => by rw [d1 5 (by decide)]⟩ (fun s hs c hc => ?_) (fun s _ c _ => rfl) (by decide) (by decide) hQ _ _ _
      rw [show s = 0 by omega, Nat.mul_zero, Nat.zero_add]
      exact d2 c hc
    | succ n ih =>
      intro i hi g d1 d2 z6 z7 z8
      refine hK _ _ _ _ ⟨fun e => absurd e (nI_ge (b := 120) (by omega) (by omega)), fun _ => ⟨vp_in_nI (by omega) (by decide), ?_⟩⟩
      rw [nI_clamp (by omega)]
      conv => whnf
      rw [nI_1]
      refine ih (i + 1) (by omega) (hset g 63 i 0) (fun q hq => by rw [hset_other hq]; exact d1 q hq) (fun j hj => ?_) _ _ _
      rw [hset_at]
      split
      · rfl
      · exact d2 j (by omega)
  refine hK _ _ _ _ ?_
  exact l21 120 0 (by omega) h (fun _ _ => rfl) (fun j hj => by omega) _ _ _
end MG
