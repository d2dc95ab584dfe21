/-! THE REFERENCE: what it tells of an instant -/
section MF
variable {d : Nat} {h h' : mvH} {Q : Option mvV → mvH → Prop} {A : List Th} {rg : Nat → Bool} {inp : Nat} {st : Bool}
theorem sumN_ge {f : Nat → Nat} : ∀ n i, i < n → f i ≤ sumN f n := by
  intro n
  induction n with
  | zero => intro i hi; omega
  | succ n ih =>
    intro i hi
    unfold sumN
    by_cases e : i = n
    · rw [e]; omega
    · have := ih i (by omega); omega
theorem dim0_k {X : Va} (hT : TF A) (h : dimX A X = 0) : ¬ X 57 0 = (false, false) := by
  intro z
  unfold dimX at h
  have h1 := sumN_ge (f := dimT A X) A.length 0 hT.2.1
  have h2 := sumN_ge (f := fun c => unk (X 57 (6 * 0 + c))) 6 0 (by decide)
  have h3 : unk (X 57 (6 * 0 + 0)) = 1 := by
    show unk (X 57 0) = 1
    rw [z]; rfl
  have h4 : sumN (fun c => unk (X 57 (6 * 0 + c))) 6 ≤ dimT A X 0 := by unfold dimT; omega
  have h2 : unk (X 57 (6 * 0 + 0)) ≤ sumN (fun c => unk (X 57 (6 * 0 + c))) 6 := h2
  omega
theorem s_X5_inst2 (hd : 6 ≤ d) (hT : TF A) (hM : MdCon h 0 0 A) (h17 : h 5 17 = nI A.length) (hi : inp < 16) (hrg : ∀ c, c < 120 → h 60 c = b1I (rg c))
    (hQ : ∀ h', (∀ q, ¬ (q = 5 ∨ (53 ≤ q ∧ q ≤ 59) ∨ q = 61) → h' q = h q) → (∀ j, ¬ (j = 37 ∨ j = 38) → h' 5 j = h 5 j) → MS A (seV A rg) inp h' → V3s A h' → eqV (VW A) (EX h') (XS A rg inp st) → (aD A rg inp st = 0 → ∀ c, c < cntK 1 A → h' 61 c = b1I (aN A rg inp st c)) → Q (some (.inl (if aD A rg inp st = 0 then b1I (aE A rg inp st) else 2))) h') : mvCal mvMT d 129 [.inr 5, .inl (b1I st), .inl (nI inp)] h Q := by
  have hA := hT.1
  refine s_X5_instant hd hT hM h17 (rg := rg) hi (fun t ht hk => hrg _ (by have := cnt_take_le (A := A) 1 t; omega)) (fun h' f1 f2 hm hv hI hn => ?_)
  have he := XS_ok hI
  have ed : dimX A (EX h') = aD A rg inp st := dimX_congr he
  have := hQ h' f1 f2 hm hv he (fun z c hc => ?_)
  · rw [ed]
    by_cases z : aD A rg inp st = 0
    · rw [if_pos z] at this ⊢
      have e0 : h' 57 0 = b1I (aE A rg inp st) := by
        have v0 := hv.2.1 0 (by have := hT.2.1; omega)
        have hv0 : VW A 57 0 := Or.inr (Or.inl ⟨rfl, by have := hT.2.1; omega⟩)
        have n0 : ¬ EX h' 57 0 = (false, false) := dim0_k hT (by rw [ed]; exact z)
        unfold aE
        rw [← he 57 0 hv0]
        show h' 57 0 = b1I (enc (h' 57 0)).1
        rcases v0 with q | q | q
        · rw [q]; rfl
        · rw [q]; rfl
        · exact absurd (show enc (h' 57 0) = _ by rw [q]; rfl) n0
      rw [e0]; exact this
    · rw [if_neg z] at this ⊢
      exact this
  · obtain ⟨t, ht, hk, hc2⟩ := cnt_ex hc
    rw [← hc2, hn (by rw [ed]; exact z) t ht hk]
    unfold aN
    rw [← nxF_congr hT he, nxF_at ht hk]
theorem s_X5_outputsWith (hd : 1 ≤ d) (v : Int32) (hQ : Q (some (.inl (oW (fun o => decide (h 58 o = v)) 4))) h) : mvCal mvMT d 132 [.inr 5, .inl v] h Q := by
  obtain ⟨d, rfl⟩ := d_pos hd (by decide)
  refine ⟨⟨rfl, by decide, rfl⟩, Nat.le_of_ble_eq_true rfl, fun K hK => hK _ _ _ _ ?_⟩
  have loop : ∀ k o, o + k = 4 → K 4 [some (.inr 5), some (.inl v), some (.inl (oW (fun o => decide (h 58 o = v)) o)), some (.inl (nI o))] [] h := by
    intro k
    induction k with
    | zero =>
      intro o ho
      have ho : o = 4 := by omega
      subst ho
      exact hK _ _ _ _ ⟨fun _ => hK _ _ _ _ ⟨trivial, hQ⟩, fun e => absurd (by decide) e⟩
    | succ k ih =>
      intro o ho
      have h1 := ih (o + 1) (by omega)
      unfold oW at h1
      refine hK _ _ _ _ ⟨fun e => absurd e (nI_ge (b := 4) (by omega) (by omega)), fun _ => ⟨vp_in_nI (by omega) (by decide), ?_⟩⟩
      rw [nI_clamp (by omega)]
      refine ⟨fun e => ?_, fun e => ?_⟩
      · rw [if_neg (by rw [decide_eq_false e]; decide)] at h1
        refine hK _ _ _ _ ?_
        refine hK _ _ _ _ ?_
        conv => whnf
        rw [nI_1]
        exact h1
      · rw [if_pos (decide_eq_true e)] at h1
        refine hK _ _ _ _ ?_
        conv => whnf
        rw [nI_1]
        exact h1
  exact loop 4 0 (by omega)
theorem o1_ok (hT : TF A) (hv : V3s A h) (he : eqV (VW A) (EX h) (XS A rg inp st)) : oW (fun o => decide (h 58 o = 1)) 4 = oW (aO A rg inp st) 4 := oW_congr 4 (fun o ho => by
  unfold aO
  rw [← he 58 o (Or.inr (Or.inr ⟨rfl, Or.inl ho⟩))]
  exact (enc_one (hv.2.2 o (by omega))).symm)
theorem o2_ok (hT : TF A) (hv : V3s A h) (he : eqV (VW A) (EX h) (XS A rg inp st)) : oW (fun o => decide (h 58 o = 2)) 4 = oW (aU A rg inp st) 4 := oW_congr 4 (fun o ho => by
  unfold aU
  rw [← he 58 o (Or.inr (Or.inr ⟨rfl, Or.inl ho⟩))]
  show _ = decide (enc (h 58 o) = (false, false))
  rcases hv.2.2 o (by omega) with q | q | q <;> rw [q] <;> rfl)
theorem s_X5_reset (hd : 1 ≤ d) (hQ : ∀ h', (∀ q, ¬ (q = 5 ∨ q = 62) → h' q = h q) → (∀ j, ¬ (j = 42 ∨ j = 43 ∨ j = 44 ∨ j = 48) → h' 5 j = h 5 j) → h' 5 42 = 1 → h' 5 43 = 0 → h' 5 44 = 0 → h' 5 48 = 0 → (∀ c, c < 120 → h' 62 c = 0) → Q none h') : mvCal mvMT d 133 [.inr 5] h Q := by
  obtain ⟨d, rfl⟩ := d_pos hd (by decide)
  refine ⟨⟨rfl, by decide, rfl⟩, Nat.le_of_ble_eq_true rfl, fun K hK => hK _ _ _ _ ⟨Or.inr rfl, Or.inl rfl, Or.inl rfl, ?_⟩⟩
  have g5 : ∀ j, (hset (hset (hset (hset h 5 42 1) 5 43 0) 5 44 0) 5 48 0) 5 j = if j = 48 then 0 else if j = 44 then 0 else if j = 43 then 0 else if j = 42 then 1 else h 5 j := fun j => by rw [hset_at, hset_at, hset_at, hset_at]
  have gq : ∀ q, ¬ q = 5 → (hset (hset (hset (hset h 5 42 1) 5 43 0) 5 44 0) 5 48 0) q = h q := fun q hq => by rw [hset_other hq, hset_other hq, hset_other hq, hset_other hq]
  have loop : ∀ k i, i + k = 120 → ∀ (g : mvH), (∀ q, ¬ (q = 5 ∨ q = 62) → g q = h q) → (∀ j, g 5 j = if j = 48 then 0 else if j = 44 then 0 else if j = 43 then 0 else if j = 42 then 1 else h 5 j) → (∀ c, c < i → g 62 c = 0) → K 22 [some (.inr 5), some (.inl (nI i))] [] g := by
    intro k
    induction k with
    | zero =>
      intro i hi g a1 a2 a3
      have hi : i = 120 := by omega
      subst hi
      refine hK _ _ _ _ ⟨fun _ => hK _ _ _ _ ?_, fun e => absurd (by decide) e⟩
      refine hQ g a1 (fun j hj => ?_) (by rw [a2]; rfl) (by rw [a2]; rfl) (by rw [a2]; rfl) (by rw [a2]; rfl) a3
      rw [a2, if_neg (by omega), if_neg (by omega), if_neg (by omega), if_neg (by omega)]
    | succ k ih =>
      intro i hi g a1 a2 a3
      refine hK _ _ _ _ ⟨fun e => absurd e (nI_ge (b := 120) (by omega) (by omega)), fun _ => ⟨vp_in_nI (by omega) (by decide), ?_⟩⟩
      rw [nI_clamp (by omega)]
      conv => whnf
      rw [nI_1]
      refine ih (i + 1) (by omega) (hset g 62 i 0) (fun q hq => by rw [hset_other (by omega)]; exact a1 q hq) (fun j => by rw [hset_other (by decide)]; exact a2 j) (fun c hc => ?_)
      rw [hset_at]
      split
      · rfl
      · exact a3 c (by omega)
  exact loop 120 0 (by omega) _ (fun q hq => gq q (by omega)) g5 (fun c hc => by omega)
/-- the reference's rows of states -/
def SM (h : mvH) (S : Nat → Nat → Bool) (m : Nat) : Prop := ∀ s, s < m → ∀ c, c < 120 → h 63 (120 * s + c) = b1I (S s c)
theorem b1I_inj {a b : Bool} (h : b1I a = b1I b) : a = b := by cases a <;> cases b <;> first | rfl | (exact absurd h (by decide))
theorem s_X5_known (hd : 1 ≤ d) (hA : A.length ≤ 120) {S : Nat → Nat → Bool} {m : Nat} (hm1 : 1 ≤ m) (hm : m ≤ 30) (hs : SM h S m) (hcn : ∀ s, s < m → Cn A (S s)) {nx : Nat → Bool} (hnx : ∀ c, c < cntK 1 A → h 61 c = b1I (nx c)) (hnc : Cn A nx) (h25 : h 5 25 = nI (cntK 1 A)) (hy : (∃ s, 1 ≤ s ∧ s < m ∧ S s = nx) → Q (some (.inl 1)) h) (hn : (¬ ∃ s, 1 ≤ s ∧ s < m ∧ S s = nx) → Q (some (.inl 0)) h) : mvCal mvMT d 140 [.inr 5, .inl (nI m)] h Q := by
  obtain ⟨d, rfl⟩ := d_pos hd (by decide)
  have hR := cntK_le (A := A) 1
  refine ⟨⟨rfl, by decide, rfl⟩, Nat.le_of_ble_eq_true rfl, fun K hK => hK _ _ _ _ ?_⟩
  have loop : ∀ k s, s + k = m → 1 ≤ s → (∀ j, 1 ≤ j → j < s → ¬ S j = nx) → ∀ z3 z4, K 2 [some (.inr 5), some (.inl (nI m)), some (.inl (nI s)), z3, z4] [] h := by
    intro k
    induction k with
    | zero =>
      intro s hs2 h1 hno z3 z4
      refine hK _ _ _ _ ⟨fun _ => hK _ _ _ _ ⟨Or.inl rfl, hn (fun ⟨j, j1, j2, j3⟩ => hno j j1 (by omega) j3)⟩, fun e => absurd (nI_le (by omega) (by omega)) e⟩
    | succ k ih =>
      intro s hs2 h1 hno z3 z4
      have inner : ∀ n c, c + n = cntK 1 A → ∀ b : Bool, (b = true ↔ ∀ i, i < c → S s i = nx i) → K 12 [some (.inr 5), some (.inl (nI m)), some (.inl (nI s)), some (.inl (b1I b)), some (.inl (nI c))] [] h := by
        intro n
        induction n with
        | zero =>
          intro c hc b hb
          have hc : c = cntK 1 A := by omega
          subst hc
          refine hK _ _ _ _ ⟨fun _ => ?_, fun e => absurd (show h 5 25 ≤ nI (cntK 1 A) by rw [h25]; exact Int32.le_refl _) e⟩
          cases b with
          | false =>
            have hne : ¬ S s = nx := fun z => by
              have := hb.mpr (fun i _ => by rw [z])
              cases this
            refine hK _ _ _ _ ⟨fun _ => ?_, fun q => absurd rfl q⟩
            refine hK _ _ _ _ ?_
            conv => whnf
            rw [nI_1]
            refine ih (s + 1) (by omega) (by omega) (fun j j1 j2 => ?_) _ _
            by_cases e : j = s
            · rw [e]; exact hne
            · exact hno j j1 (by omega)
          | true =>
            have heq : S s = nx := by
              funext i
              by_cases hi : i < cntK 1 A
              · exact hb.mp rfl i hi
              · rw [hcn s (by omega) i (by omega), hnc i (by omega)]
            refine hK _ _ _ _ ⟨fun q => absurd (show b1I true = 0 from q) (by decide), fun _ => ⟨Or.inr rfl, hy ⟨s, h1, by omega, heq⟩⟩⟩
        | succ n ihn =>
          intro c hc b hb
          have e6 : 120 * nI s + nI c = nI (120 * s + c) := by rw [show (120 : Int32) = nI 120 by decide, pk_mul, nI_add]
          have c52 : ∀ b2 : Bool, (b2 = true ↔ ∀ i, i < c + 1 → S s i = nx i) → K 52 [some (.inr 5), some (.inl (nI m)), some (.inl (nI s)), some (.inl (b1I b)), some (.inl (nI c))] [.inl (b1I b2)] h := by
            intro b2 hb2
            refine hK _ _ _ _ ?_
            conv => whnf
            rw [nI_1]
            exact ihn (c + 1) (by omega) b2 hb2
          refine hK _ _ _ _ ⟨fun e => absurd (show h 5 25 ≤ nI c from e) (by rw [h25]; exact nI_ge (by omega) (by omega)), fun _ => ?_⟩
          cases b with
          | false =>
            refine ⟨fun _ => ?_, fun q => absurd rfl q⟩
            refine hK _ _ _ _ ?_
            refine c52 false ⟨fun z => (by cases z), fun z => hb.mpr (fun i hi => z i (by omega))⟩
          | true =>
            refine ⟨fun q => absurd (show b1I true = 0 from q) (by decide), fun _ => ?_⟩
            conv => whnf
            rw [e6]
            refine ⟨vp_in_nI (by omega) (by decide), vp_in_nI (by omega) (by decide), ?_⟩
            rw [nI_clamp (by omega), nI_clamp (by omega), hs s (by omega) c (by omega), hnx c (by omega)]
            refine ⟨fun q => ?_, fun q => ?_⟩
            · refine hK _ _ _ _ ?_
              refine c52 false ⟨fun z => (by cases z), fun z => absurd (by rw [z c (by omega)]) q⟩
            · refine c52 true ⟨fun _ i hi => ?_, fun _ => rfl⟩
              by_cases e : i = c
              · rw [e]; exact b1I_inj q
              · exact hb.mp rfl i (by omega)
      refine hK _ _ _ _ ⟨fun e => absurd e (nI_ge (by omega) (by omega)), fun _ => ?_⟩
      exact inner (cntK 1 A) 0 (by omega) true ⟨fun _ i hi => by omega, fun _ => rfl⟩
  exact loop (m - 1) 1 (by omega) (Nat.le_refl _) (fun j j1 j2 => by omega) _ _
end MF
