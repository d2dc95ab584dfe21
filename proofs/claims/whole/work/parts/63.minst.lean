/-! THE REFERENCE's instant: values, and single updates -/
def v3 (x : Int32) : Prop := x = 0 ∨ x = 1 ∨ x = 2
def enc (x : Int32) : B2 := if x = 1 then oB else if x = 0 then zB else (false, false)
theorem enc_0 : enc 0 = zB := rfl
theorem enc_1 : enc 1 = oB := rfl
theorem enc_2 : enc 2 = (false, false) := rfl
theorem v3_0 : v3 0 := Or.inl rfl
theorem v3_1 : v3 1 := Or.inr (Or.inl rfl)
theorem v3_2 : v3 2 := Or.inr (Or.inr rfl)
theorem enc_inj {a b : Int32} (ha : v3 a) (hb : v3 b) (h : enc a = enc b) : a = b := by
  rcases ha with rfl | rfl | rfl <;> rcases hb with rfl | rfl | rfl <;> first | rfl | (exact absurd h (by decide))
section MI1
variable {d : Nat} {h : mvH} {Q : Option mvV → mvH → Prop}
theorem s_X5_and (hd : 1 ≤ d) {a b : Int32} (ha : v3 a) (hb : v3 b) (hQ : ∀ v, v3 v → enc v = pAnd (enc a) (enc b) → Q (some (.inl v)) h) : mvCal mvMT d 119 [.inl a, .inl b] h Q := by
  obtain ⟨d, rfl⟩ := d_pos hd (by decide)
  refine ⟨rfl, Nat.le_of_ble_eq_true rfl, fun K hK => hK _ _ _ _ ⟨fun e => ?_, fun e => ⟨fun e2 => ?_, fun e2 => ?_⟩⟩⟩
  · repeat refine hK _ _ _ _ ?_
    refine ⟨trivial, hQ 0 v3_0 ?_⟩
    rw [show a = 0 from e, enc_0]
    rcases hb with rfl | rfl | rfl <;> rfl
  · refine hK _ _ _ _ ⟨fun e3 => ?_, fun e3 => ⟨fun e4 => ?_, fun e4 => ?_⟩⟩
    · repeat refine hK _ _ _ _ ?_
      refine ⟨trivial, hQ 2 v3_2 ?_⟩
      rcases ha with rfl | rfl | rfl
      · exact absurd rfl e
      · exact absurd rfl e3
      · rcases hb with rfl | rfl | rfl
        · exact absurd rfl e2
        · rfl
        · rfl
    · repeat refine hK _ _ _ _ ?_
      refine ⟨trivial, hQ 2 v3_2 ?_⟩
      rw [show a = 1 from e3]
      rcases hb with rfl | rfl | rfl
      · exact absurd rfl e2
      · exact absurd rfl e4
      · rfl
    · repeat refine hK _ _ _ _ ?_
      refine ⟨trivial, hQ 1 v3_1 ?_⟩
      rw [show a = 1 from e3, show b = 1 from e4]; rfl
  · repeat refine hK _ _ _ _ ?_
    refine ⟨trivial, hQ 0 v3_0 ?_⟩
    rw [show b = 0 from e2]
    rcases ha with rfl | rfl | rfl <;> rfl
theorem s_X5_or (hd : 1 ≤ d) {a b : Int32} (ha : v3 a) (hb : v3 b) (hQ : ∀ v, v3 v → enc v = pOr (enc a) (enc b) → Q (some (.inl v)) h) : mvCal mvMT d 120 [.inl a, .inl b] h Q := by
  obtain ⟨d, rfl⟩ := d_pos hd (by decide)
  refine ⟨rfl, Nat.le_of_ble_eq_true rfl, fun K hK => hK _ _ _ _ ⟨fun e => ?_, fun e => ⟨fun e2 => ?_, fun e2 => ?_⟩⟩⟩
  · repeat refine hK _ _ _ _ ?_
    refine ⟨trivial, hQ 1 v3_1 ?_⟩
    rw [show a = 1 from e]
    rcases hb with rfl | rfl | rfl <;> rfl
  · refine hK _ _ _ _ ⟨fun e3 => ?_, fun e3 => ⟨fun e4 => ?_, fun e4 => ?_⟩⟩
    · repeat refine hK _ _ _ _ ?_
      refine ⟨trivial, hQ 2 v3_2 ?_⟩
      rcases ha with rfl | rfl | rfl
      · exact absurd rfl e3
      · exact absurd rfl e
      · rcases hb with rfl | rfl | rfl
        · rfl
        · exact absurd rfl e2
        · rfl
    · repeat refine hK _ _ _ _ ?_
      refine ⟨trivial, hQ 2 v3_2 ?_⟩
      rw [show a = 0 from e3]
      rcases hb with rfl | rfl | rfl
      · exact absurd rfl e4
      · exact absurd rfl e2
      · rfl
    · repeat refine hK _ _ _ _ ?_
      refine ⟨trivial, hQ 0 v3_0 ?_⟩
      rw [show a = 0 from e3, show b = 0 from e4]; rfl
  · repeat refine hK _ _ _ _ ?_
    refine ⟨trivial, hQ 1 v3_1 ?_⟩
    rw [show b = 1 from e2]
    rcases ha with rfl | rfl | rfl <;> rfl
theorem s_X5_not (hd : 1 ≤ d) {a : Int32} (ha : v3 a) (hQ : ∀ v, v3 v → enc v = pNot (enc a) → Q (some (.inl v)) h) : mvCal mvMT d 121 [.inl a] h Q := by
  obtain ⟨d, rfl⟩ := d_pos hd (by decide)
  refine ⟨rfl, Nat.le_of_ble_eq_true rfl, fun K hK => hK _ _ _ _ ⟨fun e => ?_, fun e => ?_⟩⟩
  · repeat refine hK _ _ _ _ ?_
    rcases ha with rfl | rfl | rfl
    · exact ⟨trivial, hQ 1 v3_1 rfl⟩
    · exact ⟨trivial, hQ 0 v3_0 rfl⟩
    · exact absurd rfl e
  · repeat refine hK _ _ _ _ ?_
    refine ⟨trivial, ?_⟩
    rw [show a = 2 from e] at hQ ⊢
    exact hQ 2 v3_2 rfl
end MI1
def EX (h : mvH) : Va := fun q j => enc (h q j)
def V3s (A : List Th) (h : mvH) : Prop := (∀ q, (q = 53 ∨ q = 54 ∨ q = 55) → ∀ t, t < A.length → v3 (h q t)) ∧ (∀ j, j < 6 * A.length → v3 (h 57 j)) ∧ ∀ w, w < 4 + A.length → v3 (h 58 w)
/-- what an instant of the reference stands on -/
def MS (A : List Th) (se : Nat → B2) (inp : Nat) (h : mvH) : Prop := MdCon h 0 0 A ∧ h 5 17 = nI A.length ∧ (∀ t, t < A.length → v3 (h 56 t) ∧ enc (h 56 t) = se t ∧ ¬ h 56 t = 2) ∧ h 5 37 = nI inp ∧ inp < 16 ∧ ∀ t, t < A.length → (tA A t).1 = 1 → h 60 (cntK 1 (A.take t)) = h 56 t
def frN (h h' : mvH) : Prop := (∀ q, ¬ (q = 5 ∨ q = 53 ∨ q = 54 ∨ q = 55 ∨ q = 57 ∨ q = 58 ∨ q = 59) → h' q = h q) ∧ ∀ j, ¬ j = 38 → h' 5 j = h 5 j
theorem frN.rfl {h : mvH} : frN h h := ⟨fun _ _ => Eq.refl _, fun _ _ => Eq.refl _⟩
theorem frN.trans {a b c : mvH} (h1 : frN a b) (h2 : frN b c) : frN a c := ⟨fun q hq => (h2.1 q hq).trans (h1.1 q hq), fun j hj => (h2.2 j hj).trans (h1.2 j hj)⟩
theorem MS_fr {A : List Th} {se : Nat → B2} {inp : Nat} {h h' : mvH} (hm : MS A se inp h) (hf : frN h h') : MS A se inp h' := by
  obtain ⟨m1, m2, m3, m4, m5, m6⟩ := hm
  refine ⟨fun j x hx => ?_, by rw [hf.2 17 (by decide)]; exact m2, by rw [hf.1 56 (by decide)]; exact m3, by rw [hf.2 37 (by decide)]; exact m4, m5, by rw [hf.1 60 (by decide), hf.1 56 (by decide)]; exact m6⟩
  rw [hf.1 43 (by decide), hf.1 44 (by decide), hf.1 45 (by decide), hf.1 46 (by decide), hf.1 47 (by decide), hf.1 48 (by decide), hf.1 49 (by decide)]
  exact m1 j x hx
theorem MS_at {A : List Th} {se : Nat → B2} {inp : Nat} {h : mvH} (hm : MS A se inp h) {t : Nat} (ht : t < A.length) : h 43 t = (tA A t).1 ∧ h 44 t = (tA A t).2.1 ∧ h 45 t = (tA A t).2.2.1 ∧ h 46 t = (tA A t).2.2.2.1 ∧ h 47 t = (tA A t).2.2.2.2.1 ∧ h 48 t = mWi t (tA A t) ∧ h 49 t = (if (tA A t).1 = 1 then nI (cntK 1 (A.take t)) else -1) := by
  have := hm.1 t _ (tA_some ht)
  rw [Nat.zero_add, Nat.zero_add] at this
  exact this
/-- a run of updates -/
def MU (A : List Th) (F : Va → Va) (h h' : mvH) (l : List (Nat × Nat)) : Prop := frN h h' ∧ V3s A h' ∧ (∀ v, v ∈ l → VW A v.1 v.2) ∧ eqV (VW A) (EX h') (runU F l (EX h)) ∧ (h' 5 38 = 0 ∨ h' 5 38 = 1) ∧ (h' 5 38 = 0 → h 5 38 = 0 ∧ eqV (VW A) (EX h') (EX h))
theorem runU_app {F : Va → Va} : ∀ (l l' : List (Nat × Nat)) (X : Va), runU F (l ++ l') X = runU F l' (runU F l X) := by
  intro l
  induction l with
  | nil => intro l' X; rfl
  | cons v l ih => intro l' X; obtain ⟨q, j⟩ := v; exact ih l' _
theorem runU_congr {VV : vS} {F : Va → Va} (hF : FOK VV F) : ∀ (l : List (Nat × Nat)) (X Y : Va), (∀ v, v ∈ l → VV v.1 v.2) → eqV VV X Y → eqV VV (runU F l X) (runU F l Y) := by
  intro l
  induction l with
  | nil => intro X Y _ h; exact h
  | cons v l ih =>
    intro X Y hl h
    obtain ⟨q, j⟩ := v
    refine ih _ _ (fun v hv => hl v (List.mem_cons_of_mem _ hv)) (fun q' j' h' => ?_)
    unfold vset
    split
    · exact F_congr hF h q j (hl (q, j) (by simp))
    · exact h q' j' h'
theorem MU_trans {A : List Th} {F : Va → Va} (hF : FOK (VW A) F) {h h1 h2 : mvH} {l l' : List (Nat × Nat)} (a : MU A F h h1 l) (b : MU A F h1 h2 l') : MU A F h h2 (l ++ l') := by
  obtain ⟨a1, a2, a3, a4, a5, a6⟩ := a
  obtain ⟨b1, b2, b3, b4, b5, b6⟩ := b
  refine ⟨a1.trans b1, b2, fun v hv => ?_, ?_, b5, fun z => ?_⟩
  · rcases List.mem_append.mp hv with w | w
    · exact a3 v w
    · exact b3 v w
  · rw [runU_app]
    exact eqV_trans b4 (runU_congr hF l' _ _ b3 a4)
  · obtain ⟨z1, z2⟩ := b6 z
    obtain ⟨w1, w2⟩ := a6 z1
    exact ⟨w1, eqV_trans z2 w2⟩
theorem MU_nil {A : List Th} {F : Va → Va} {h : mvH} (hv : V3s A h) (hc : h 5 38 = 0 ∨ h 5 38 = 1) : MU A F h h [] := ⟨frN.rfl, hv, fun _ z => (by cases z), fun _ _ _ => rfl, hc, fun z => ⟨z, fun _ _ _ => rfl⟩⟩
section MI2
variable {d : Nat} {h : mvH} {Q : Option mvV → mvH → Prop} {A : List Th} {se : Nat → B2} {inp : Nat} {st : Bool}
theorem inp_bit : ∀ i, i < 16 → ∀ j, j < 4 → ((nI i >>> (nI j &&& 31)) &&& 1 = 0 ∨ (nI i >>> (nI j &&& 31)) &&& 1 = 1) ∧ enc ((nI i >>> (nI j &&& 31)) &&& 1) = inB i j := by decide +kernel
theorem mW_lo : ∀ j, j < 4 → nI (97 + j) < 115 ∧ nI (97 + j) - 101 < 0 ∧ nI (97 + j) - 101 + 4 = nI j := by decide +kernel
theorem mW_mid : ∀ j, j < 8 → ¬ j < 4 → nI (97 + j) < 115 ∧ nI (97 + j) - 101 = nI (j - 4) ∧ nI j - 4 = nI (j - 4) := by decide +kernel
/-- a thing that looks at a signal -/
theorem s_X5_valueOf (hd : 1 ≤ d) (hT : TF A) (hm : MS A se inp h) (hv : V3s A h) {t : Nat} (ht : t < A.length) (hk : (tA A t).1 = 4 ∨ (tA A t).1 = 5) (hQ : ∀ v, v3 v → enc v = sv inp (EX h) (tA A t) → Q (some (.inl v)) h) : mvCal mvMT d 122 [.inr 5, .inl (h 48 t)] h Q := by
  obtain ⟨d, rfl⟩ := d_pos hd (by decide)
  have hA := hT.1
  obtain ⟨m1, m2, m3, m4, m5, m6, m7⟩ := MS_at hm ht
  have hS := (tf_at hT ht).2.2.2.2.2.1
  have h0 : ¬ sgO (tA A t).2.1 < 0 := hS.2.1 hk
  have hn1 : ¬ sgO (tA A t).2.1 = -1 := fun z => h0 (by rw [z]; decide)
  have h8k : ¬ (tA A t).1 = 8 := by rcases hk with z | z <;> rw [z] <;> decide
  unfold mWi at m6
  rw [if_neg (fun z => z.elim h8k hn1)] at m6
  unfold sv at hQ
  rw [m6]
  rcases sgO_cases (tA A t).2.1 with z | ⟨j, hj, z, w⟩ | ⟨j, hj, z, w⟩
  · exact absurd z hn1
  · by_cases hj4 : j < 4
    · obtain ⟨w1, w2, w3⟩ := mW_lo j hj4
      rw [w, if_pos w1]
      rw [z, if_pos (show nI j < 4 from nI_lt (b := 4) hj4 (by decide)), ix_nI (by omega)] at hQ
      refine ⟨⟨rfl, by decide, rfl⟩, Nat.le_of_ble_eq_true rfl, fun K hK => hK _ _ _ _ ⟨fun e => absurd w2 (Int32.not_lt.mpr e), fun _ => ?_⟩⟩
      conv => whnf
      rw [w3, hm.2.2.2.1]
      refine hK _ _ _ _ ⟨trivial, ?_⟩
      obtain ⟨b1, b2⟩ := inp_bit inp hm.2.2.2.2.1 j hj4
      exact hQ _ (b1.imp id Or.inl) b2
    · obtain ⟨w1, w2, w3⟩ := mW_mid j hj hj4
      rw [w, if_pos w1, w2]
      rw [z, if_neg (show ¬ nI j < 4 from fun q => hj4 ((nI_ltI (by omega) (by decide)).mp (show nI j < nI 4 from q))), if_pos (show nI j < 8 from nI_lt (b := 8) hj (by decide)), w3, ix_nI (by omega)] at hQ
      refine ⟨⟨rfl, by decide, rfl⟩, Nat.le_of_ble_eq_true rfl, fun K hK => hK _ _ _ _ ⟨fun _ => ?_, fun e => absurd (Int32.not_lt.mp (nI_pos (by omega))) e⟩⟩
      refine hK _ _ _ _ ⟨vp_in_nI (by omega) (by decide), ?_⟩
      rw [nI_clamp (by omega)]
      refine hK _ _ _ _ ⟨trivial, ?_⟩
      exact hQ _ (hv.2.2 _ (by omega)) rfl
  · have h115 : ¬ nI (115 + j) < 115 := Int32.not_lt.mpr (nI_le (a := 115) (by omega) (by omega))
    have h8 : ¬ 8 + nI j < 8 := (sg_c hj).1
    obtain ⟨o1, o2⟩ := (tf_at hT ht).2.2.2.2.2.2 (Or.inr hk) (by rw [z]; exact h8)
    have h4 : ¬ 8 + nI j < 4 := fun q => h8 (Int32.lt_trans q (by decide))
    rw [z, if_neg h4, if_neg h8] at hQ
    have e1 : (if (tA A t).2.1 < 115 then (tA A t).2.1 - 101 else nI (4 + (tA A t).2.2.2.2.2)) = nI (4 + (tA A t).2.2.2.2.2) := by rw [w, if_neg h115]
    rw [e1]
    generalize (tA A t).2.2.2.2.2 = o at *
    refine ⟨⟨rfl, by decide, rfl⟩, Nat.le_of_ble_eq_true rfl, fun K hK => hK _ _ _ _ ⟨fun _ => ?_, fun e => absurd (Int32.not_lt.mp (nI_pos (by omega))) e⟩⟩
    refine hK _ _ _ _ ⟨vp_in_nI (by omega) (by decide), ?_⟩
    rw [nI_clamp (by omega)]
    refine hK _ _ _ _ ⟨trivial, ?_⟩
    exact hQ _ (hv.2.2 _ (by omega)) rfl
theorem s_X5_k (hd : 1 ≤ d) {a c : Nat} (ha : a < 120) (hc : c < 6) (hQ : Q (some (.inl (h 57 (6 * a + c)))) h) : mvCal mvMT d 123 [.inr 5, .inl (nI a), .inl (nI c)] h Q := by
  obtain ⟨d, rfl⟩ := d_pos hd (by decide)
  have e : 6 * nI a + nI c = nI (6 * a + c) := by rw [show (6 : Int32) = nI 6 by decide, pk_mul, nI_add]
  refine ⟨⟨rfl, by decide, rfl⟩, Nat.le_of_ble_eq_true rfl, fun K hK => hK _ _ _ _ ?_⟩
  conv => whnf
  rw [e]
  refine ⟨vp_in_nI (by omega) (by decide), trivial, ?_⟩
  rw [nI_clamp (by omega)]
  exact hQ
end MI2
