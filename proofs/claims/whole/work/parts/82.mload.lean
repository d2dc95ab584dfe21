/-! THE REFERENCE: load, and what is only read -/
section ML
variable {d : Nat} {h : mvH} {Q : Option mvV → mvH → Prop}
theorem s_X5_load_bad (hd : 8 ≤ d) {tx : Nat → Int32} {n : Nat} (hn : h 5 1 = nI n) (hn2 : n ≤ 60) (htx : ∀ j, j < n → h 33 j = tx j) (hp : ∀ N a, prs tx n = some (n, N, a) → False) (hQ : ∀ g', frM h g' → Q (some (.inl (-1))) g') : mvCal mvMT d 115 [.inr 5] h Q := by
  obtain ⟨d, rfl⟩ := d_pos hd (by decide)
  refine ⟨⟨rfl, by decide, rfl⟩, Nat.le_of_ble_eq_true rfl, fun K hK => hK _ _ _ _ ?_⟩
  refine s_X5_read (by omega) hn hn2 htx (fun o => o = none) (fun _ g' hf h14 => ?_) (fun N a as hF => (by cases hF)) (fun G hG => ?_)
  · refine ⟨fun e => absurd (show g' 5 14 = 0 from e) (by rw [h14]; decide), fun _ => ⟨trivial, hQ g' hf⟩⟩
  · exact sim_line (NF := []) (T := fun _ => 0) (L := fun _ => 0) hG hn2 (fun i x hx => by cases hx) (fun _ => rfl) (fun N a hp2 => absurd hp2 (fun z => hp N a z))
set_option maxHeartbeats 4000000 in
theorem s_X5_load_ok (hd : 8 ≤ d) {tx : Nat → Int32} {n : Nat} (hn : h 5 1 = nI n) (hn2 : n ≤ 60) (htx : ∀ j, j < n → h 33 j = tx j) {N : List Nd} {a : Nat} {T L C : Nat → Int32} {S : Nat → Nat} (hp : prs tx n = some (n, N, a)) (hA : annOK N T L) (hC : cdOK N C) (hS : szOK N S) (hS2 : S (N.length - 1) < 2 ^ 20)
    (hno : refV N T L C S < 0 → ∀ g', frM h g' → Q (some (.inl (refV N T L C S))) g')
    (hgood : refV N T L C S = 0 → TF (pgT N) → ∀ g', (∀ q, ¬ (q = 5 ∨ (34 ≤ q ∧ q ≤ 52) ∨ q = 62) → g' q = h q) → g' 5 1 = 0 → g' 5 26 = 1 → g' 5 45 = 0 → g' 5 46 = 0 → g' 5 47 = 0 → g' 5 50 = 0 → g' 5 51 = 0 → g' 5 52 = 0 → g' 5 42 = 1 → g' 5 43 = 0 → g' 5 44 = 0 → g' 5 48 = 0 → (∀ c, c < 120 → g' 62 c = 0) → g' 5 17 = nI (pgT N).length → g' 5 25 = nI (cntK 1 (pgT N)) → MdCon g' 0 0 (pgT N) → Q (some (.inl (nI (cntK 1 (pgT N))))) g') : mvCal mvMT d 115 [.inr 5] h Q := by
  obtain ⟨d, rfl⟩ := d_pos hd (by decide)
  obtain ⟨_, hp2, ha1, hs, hpar, -, -⟩ := prs_all hn2 hp
  have hN : N.length ≤ 60 := by omega
  have haN : N.length - 1 = a := by omega
  refine ⟨⟨rfl, by decide, rfl⟩, Nat.le_of_ble_eq_true rfl, fun K hK => hK _ _ _ _ ?_⟩
  refine s_X5_read (by omega) hn hn2 htx (fun o => ∃ as, o = some (N, a, as) ∧ (as = 0 ∨ as = 1) ∧ (as = 1 ↔ ∃ i, i < N.length ∧ lieB N T L i)) (fun hF g' hf h14 => ?_) (fun N' a' as hF g' hf hm => ?_) (fun G hG => ?_)
  · obtain ⟨as, z, _⟩ := hF; cases z
  · obtain ⟨as2, z, as01, hlie⟩ := hF
    cases z
    obtain ⟨m1, m2, m3, m4, mN, mU, mC, m14, m15, -, -⟩ := hm
    have hun := mun_ok hN hs mN mU hC
    have hth : g' 39 a = nI (S a) := mth_ok hN hs mN hS a (by omega)
    have haS : S a < 2 ^ 20 := by rw [← haN]; exact hS2
    have hin : vp_in (nI a) 128 := vp_in_nI (by omega) (by decide)
    refine ⟨fun _ => ?_, fun e => absurd (show g' 5 14 = 0 from m14) e⟩
    have c65 : ∀ v, v = refV N T L C S → refV N T L C S < 0 → K 65 [some (.inr 5), some (.inl (nI a))] [.inl v] g' := by
      intro v hv hlt
      refine hK _ _ _ _ ⟨trivial, ?_⟩
      rw [hv]; exact hno hlt g' hf
    have c39 : (as = 1 ∨ g' 5 16 = 1 ∨ 120 < S (N.length - 1)) → K 39 [some (.inr 5), some (.inl (nI a))] [] g' := by
      intro hor
      by_cases hl : ∃ i, i < N.length ∧ lieB N T L i
      · have hr : refV N T L C S = -2 := by unfold refV; rw [if_pos hl]
        refine hK _ _ _ _ ⟨fun e => absurd (show g' 5 15 = 0 from e) (by rw [m15, hlie.mpr hl]; decide), fun _ => ?_⟩
        exact c65 (-2) hr.symm (by rw [hr]; decide)
      · have as0 : as = 0 := as01.resolve_right (fun z => hl (hlie.mp z))
        refine hK _ _ _ _ ⟨fun _ => ?_, fun e => absurd (show g' 5 15 = 0 by rw [m15, as0]) e⟩
        rcases hun with ⟨u0, u1⟩ | ⟨u0, u1⟩
        · have h120 : 120 < S (N.length - 1) := by
            rcases hor with z | z | z
            · rw [as0] at z; exact absurd z (by decide)
            · rw [u0] at z; exact absurd z (by decide)
            · exact z
          have hr : refV N T L C S = -4 := by unfold refV; rw [if_neg hl, if_neg u1, if_pos h120]
          refine hK _ _ _ _ ⟨fun _ => ?_, fun e => absurd u0 e⟩
          refine hK _ _ _ _ ?_
          exact c65 (-4) hr.symm (by rw [hr]; decide)
        · have hr : refV N T L C S = -3 := by unfold refV; rw [if_neg hl, if_pos u1]
          refine hK _ _ _ _ ⟨fun e => absurd (show g' 5 16 = 0 from e) (by rw [u0]; decide), fun _ => ?_⟩
          exact c65 (-3) hr.symm (by rw [hr]; decide)
    refine hK _ _ _ _ ⟨fun e => ?_, fun e => ⟨fun e2 => ?_, fun e2 => ⟨hin, ?_⟩⟩⟩
    · refine c39 (Or.inl (as01.resolve_left (fun z => e (by rw [m15, z]))))
    · refine c39 (Or.inr (Or.inl ?_))
      rcases hun with ⟨u0, -⟩ | ⟨u0, -⟩
      · exact absurd u0 e2
      · exact u0
    · rw [nI_clamp (by omega), hth]
      have as0 : as = 0 := by rw [← m15]; exact e
      have hl : ¬ ∃ i, i < N.length ∧ lieB N T L i := fun z => by
        have := hlie.mpr z
        rw [as0] at this
        exact absurd this (by decide)
      have u1 : ¬ ∃ i, i < N.length ∧ unsB N C i := by
        rcases hun with ⟨-, u1⟩ | ⟨u0, -⟩
        · exact u1
        · rw [u0] at e2; exact absurd e2 (by decide)
      refine ⟨fun e3 => ?_, fun e3 => ?_⟩
      · have h120 : ¬ 120 < S (N.length - 1) := by
          rw [haN]
          intro z
          exact absurd (show nI (S a) ≤ 120 from e3) (nI_ge (b := S a) (a := 120) z (by omega))
        have hr0 : refV N T L C S = 0 := by unfold refV; rw [if_neg hl, if_neg u1, if_neg h120]
        have hok := ndOK_of hN hs hA hl
        have hlen : (pgT N).length ≤ 120 := by
          unfold pgT
          rw [lay_len hS hN hs N.length (N.length - 1) _ _ _ (by omega) (by omega)]
          omega
        have hroot : ∀ c, ¬ LbL L (N.length - 1) c := fun c hc => by
          obtain ⟨_, z⟩ := hc
          rw [hA.2.1, Int32.zero_and] at z
          exact z rfl
        have hsg := lay_SG hs hok N.length (N.length - 1) (-1) 0 (fun _ => 0) (by omega) (by omega) (by rw [Nat.zero_add]; exact Nat.lt_of_le_of_lt hlen (by decide))
        have hTF : TF (pgT N) := ⟨hlen, List.length_pos_iff.mpr hsg.2, fun j x hx => by
          obtain ⟨a1, a2, a3, a4, a5, a6, a7⟩ := hsg.1 j x hx
          exact ⟨a1, a2, a3, a4, a5, a6, fun z1 z2 => (a7 z1 z2).imp id (fun ⟨c, hc, hl, _⟩ => hroot c hl)⟩⟩
        have hkd : ∀ i, i < N.length → ¬ sgO (nd N i).2.1 = -1 → (nd N i).1 = 2 ∨ (nd N i).1 = 4 ∨ (nd N i).1 = 5 ∨ (nd N i).1 = 8 := fun i hi => (ndK_thS (hs.2.2.2 i _ (Nat.zero_le _) (nd_get hi)).1).2.2.2.2
        refine hK _ _ _ _ ?_
        have q1 : ∀ q, ¬ q = 5 → (hset g' 5 1 0) q = g' q := fun q hq => hset_other hq
        rw [← haN]
        refine s_X5_lay (by omega) hok hkd (by omega) hroot (fun i x hx => ?_) hlen (fun g2 f1 f2 f17 f25 fM => ?_)
        · obtain ⟨b1, b2, b3, b4, -, -⟩ := mN.2 i x hx
          rw [q1 34 (by decide), q1 35 (by decide), q1 36 (by decide), q1 37 (by decide)]
          exact ⟨b1, b2, b3, b4⟩
        · refine ⟨Or.inr rfl, ?_⟩
          refine s_X5_reset (by omega) (fun g3 r1 r2 r42 r43 r44 r48 r62 => ?_)
          refine ⟨trivial, ?_⟩
          have r25 : g3 5 25 = nI (cntK 1 (pgT N)) := by
            rw [r2 25 (by decide)]
            simp only [hset_at]
            exact f25
          have := hgood hr0 hTF g3 (fun q hq => ?_) ?_ ?_ ?_ ?_ ?_ ?_ ?_ ?_ r42 r43 r44 r48 r62 ?_ r25 ?_
          · refine mvqh this ?_ rfl
            rw [r25]
          · rw [r1 q (by omega), hset_other (by omega), hset_other (by omega), hset_other (by omega), hset_other (by omega), hset_other (by omega), hset_other (by omega), hset_other (by omega), f1 q (by omega), q1 q (by omega)]
            exact hf.1 q (by omega)
          · rw [r2 1 (by decide)]
            simp only [hset_at]
            rw [if_neg (by decide), if_neg (by decide), if_neg (by decide), if_neg (by decide), if_neg (by decide), if_neg (by decide), if_neg (by decide), f2 1 (by decide), hset_at, if_pos rfl]
          · rw [r2 26 (by decide)]
            simp only [hset_at]
            rfl
          · rw [r2 45 (by decide)]
            simp only [hset_at]
            rfl
          · rw [r2 46 (by decide)]
            simp only [hset_at]
            rfl
          · rw [r2 47 (by decide)]
            simp only [hset_at]
            rfl
          · rw [r2 50 (by decide)]
            simp only [hset_at]
            rfl
          · rw [r2 51 (by decide)]
            simp only [hset_at]
            rfl
          · rw [r2 52 (by decide)]
            simp only [hset_at]
            rfl
          · rw [r2 17 (by decide)]
            simp only [hset_at]
            exact f17
          · intro j x hx
            have e : ∀ q, 43 ≤ q → q ≤ 49 → g3 q = g2 q := fun q h1 h2 => by
              rw [r1 q (by omega), hset_other (by omega), hset_other (by omega), hset_other (by omega), hset_other (by omega), hset_other (by omega), hset_other (by omega), hset_other (by omega)]
            rw [e 43 (by decide) (by decide), e 44 (by decide) (by decide), e 45 (by decide) (by decide), e 46 (by decide) (by decide), e 47 (by decide) (by decide), e 48 (by decide) (by decide), e 49 (by decide) (by decide)]
            exact fM j x hx
      · refine c39 (Or.inr (Or.inr ?_))
        rw [haN]
        rcases Nat.lt_or_ge 120 (S a) with z | z
        · exact z
        · exact absurd (show nI (S a) ≤ 120 from nI_le (b := 120) z (by omega)) e3
  · refine sim_line (NF := N) (T := T) (L := L) hG hn2 (fun i x hx j hj hjx => hA.2.2 i x hx j hj hjx) (fun z => absurd hp (fun w => z N a w)) (fun N' a' hp' as as01 hl => ?_)
    rw [hp] at hp'
    cases hp'
    refine ⟨as, rfl, as01, ?_⟩
    rw [hl (List.prefix_refl N) (by rw [← haN]; exact hA.1) (by rw [← haN]; exact hA.2.1)]
    unfold lieR
    constructor
    · rintro ⟨k, _, k2, k3⟩; exact ⟨k, k2, k3⟩
    · rintro ⟨k, k2, k3⟩; exact ⟨k, Nat.zero_le _, k2, k3⟩
theorem s_X5_outputs (hd : 1 ≤ d) (hQ : Q (some (.inl (h 5 45))) h) : mvCal mvMT d 136 [.inr 5] h Q := by
  obtain ⟨d, rfl⟩ := d_pos hd (by decide)
  exact ⟨⟨rfl, by decide, rfl⟩, Nat.le_of_ble_eq_true rfl, fun K hK => hK _ _ _ _ ⟨trivial, hQ⟩⟩
theorem s_X5_open (hd : 1 ≤ d) (hQ : Q (some (.inl (h 5 46))) h) : mvCal mvMT d 137 [.inr 5] h Q := by
  obtain ⟨d, rfl⟩ := d_pos hd (by decide)
  exact ⟨⟨rfl, by decide, rfl⟩, Nat.le_of_ble_eq_true rfl, fun K hK => hK _ _ _ _ ⟨trivial, hQ⟩⟩
theorem s_X5_restart (hd : 2 ≤ d) (h0 : h 5 26 = 0 → Q (some (.inl 0)) h) (h1 : ¬ h 5 26 = 0 → ∀ h', (∀ q, ¬ (q = 5 ∨ q = 62) → h' q = h q) → (∀ j, ¬ (j = 42 ∨ j = 43 ∨ j = 44 ∨ j = 48) → h' 5 j = h 5 j) → h' 5 42 = 1 → h' 5 43 = 0 → h' 5 44 = 0 → h' 5 48 = 0 → (∀ c, c < 120 → h' 62 c = 0) → Q (some (.inl 1)) h') : mvCal mvMT d 135 [.inr 5] h Q := by
  obtain ⟨d, rfl⟩ := d_pos hd (by decide)
  refine ⟨⟨rfl, by decide, rfl⟩, Nat.le_of_ble_eq_true rfl, fun K hK => hK _ _ _ _ ⟨fun e => ?_, fun e => ⟨Or.inl rfl, h0 e⟩⟩⟩
  refine hK _ _ _ _ ?_
  refine s_X5_reset (by omega) (fun h' a1 a2 a3 a4 a5 a6 a7 => ?_)
  exact ⟨Or.inr rfl, h1 e h' a1 a2 a3 a4 a5 a6 a7⟩
def mLook (h : mvH) (x : Int32) : Int32 := if x = 0 then (if h 5 26 = 0 then 0 else if h 5 44 = 0 then (if h 5 43 = 0 then 1 else 2) else 3) else if x = 1 then h 5 17 else if x = 2 then h 5 25 else if x = 3 then h 5 47 else if x = 4 then h 5 48 else -1
theorem s_X5_look (hd : 1 ≤ d) (x : Int32) (hQ : Q (some (.inl (mLook h x))) h) : mvCal mvMT d 139 [.inr 5, .inl x] h Q := by
  obtain ⟨d, rfl⟩ := d_pos hd (by decide)
  have c38 : ∀ K : Nat → mvL → List mvV → mvH → Prop, True := fun _ => trivial
  unfold mLook at hQ
  refine ⟨⟨rfl, by decide, rfl⟩, Nat.le_of_ble_eq_true rfl, fun K hK => hK _ _ _ _ ⟨fun e => ?_, fun e => ?_⟩⟩
  · have e : ¬ x = 0 := e
    rw [if_neg e] at hQ
    have c88 : ∀ v, Q (some (.inl v)) h → K 88 [some (.inr 5), some (.inl x)] [.inl v] h := fun v hv => hK _ _ _ _ ⟨trivial, hv⟩
    refine hK _ _ _ _ ⟨fun e1 => ?_, fun e1 => ?_⟩
    · have e1 : ¬ x = 1 := e1
      rw [if_neg e1] at hQ
      refine hK _ _ _ _ ⟨fun e2 => ?_, fun e2 => ?_⟩
      · have e2 : ¬ x = 2 := e2
        rw [if_neg e2] at hQ
        refine hK _ _ _ _ ⟨fun e3 => ?_, fun e3 => ?_⟩
        · have e3 : ¬ x = 3 := e3
          rw [if_neg e3] at hQ
          refine hK _ _ _ _ ⟨fun e4 => ?_, fun e4 => ?_⟩
          · have e4 : ¬ x = 4 := e4
            rw [if_neg e4] at hQ
            refine hK _ _ _ _ ?_
            exact c88 _ hQ
          · have e4 : x = 4 := e4
            rw [if_pos e4] at hQ
            exact c88 _ hQ
        · have e3 : x = 3 := e3
          rw [if_pos e3] at hQ
          exact c88 _ hQ
      · have e2 : x = 2 := e2
        rw [if_pos e2] at hQ
        exact c88 _ hQ
    · have e1 : x = 1 := e1
      rw [if_pos e1] at hQ
      exact c88 _ hQ
  · have e : x = 0 := e
    rw [if_pos e] at hQ
    have c38 : ∀ v, Q (some (.inl v)) h → K 38 [some (.inr 5), some (.inl x)] [.inl v] h := fun v hv => hK _ _ _ _ ⟨trivial, hv⟩
    refine ⟨fun e1 => ?_, fun e1 => ?_⟩
    · have e1 : ¬ h 5 26 = 0 := e1
      rw [if_neg e1] at hQ
      refine hK _ _ _ _ ⟨fun e2 => ?_, fun e2 => ?_⟩
      · have e2 : h 5 44 = 0 := e2
        rw [if_pos e2] at hQ
        refine hK _ _ _ _ ⟨fun e3 => ?_, fun e3 => ?_⟩
        · have e3 : h 5 43 = 0 := e3
          rw [if_pos e3] at hQ
          refine hK _ _ _ _ ?_
          exact c38 _ hQ
        · have e3 : ¬ h 5 43 = 0 := e3
          rw [if_neg e3] at hQ
          exact c38 _ hQ
      · have e2 : ¬ h 5 44 = 0 := e2
        rw [if_neg e2] at hQ
        exact c38 _ hQ
    · have e1 : h 5 26 = 0 := e1
      rw [if_pos e1] at hQ
      exact c38 _ hQ
theorem s_X5_found (hd : 1 ≤ d) (x : Int32) (hQ : Q (some (.inl (if x = 0 then h 5 50 else if x = 1 then h 5 51 else if x = 2 then h 5 52 else 0))) h) : mvCal mvMT d 142 [.inr 5, .inl x] h Q := by
  obtain ⟨d, rfl⟩ := d_pos hd (by decide)
  refine ⟨⟨rfl, by decide, rfl⟩, Nat.le_of_ble_eq_true rfl, fun K hK => hK _ _ _ _ ⟨fun e => ?_, fun e => ?_⟩⟩
  · have e : ¬ x = 0 := e
    rw [if_neg e] at hQ
    refine hK _ _ _ _ ⟨fun e1 => ?_, fun e1 => ?_⟩
    · have e1 : ¬ x = 1 := e1
      rw [if_neg e1] at hQ
      refine hK _ _ _ _ ⟨fun e2 => ?_, fun e2 => ?_⟩
      · have e2 : ¬ x = 2 := e2
        rw [if_neg e2] at hQ
        refine hK _ _ _ _ ?_
        exact hK _ _ _ _ ⟨trivial, hQ⟩
      · have e2 : x = 2 := e2
        rw [if_pos e2] at hQ
        exact hK _ _ _ _ ⟨trivial, hQ⟩
    · have e1 : x = 1 := e1
      rw [if_pos e1] at hQ
      exact hK _ _ _ _ ⟨trivial, hQ⟩
  · have e : x = 0 := e
    rw [if_pos e] at hQ
    exact hK _ _ _ _ ⟨trivial, hQ⟩
end ML
