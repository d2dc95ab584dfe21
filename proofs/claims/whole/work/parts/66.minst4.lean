/-! THE REFERENCE's instant: signals -/
section MI5
variable {d : Nat} {h : mvH} {Q : Option mvV → mvH → Prop} {A : List Th} {se : Nat → B2} {inp : Nat} {st : Bool}
theorem MU_one {F : Va → Va} (hv : V3s A h) {q j : Nat} (hq : q = 57 ∨ q = 58) (hvw : VW A q j) {v fl : Int32} (hvv : v3 v) (ev : enc v = F (EX h) q j) (hfl : fl = 0 ∨ fl = 1) (hfl0 : fl = 0 → h 5 38 = 0 ∧ h q j = v) : MU A F h (hset (hset h 5 38 fl) q j v) [(q, j)] := by
  have h5 : ∀ i, (hset (hset h 5 38 fl) q j v) 5 i = if i = 38 then fl else h 5 i := fun i => by rw [hset_other (by omega), hset_at]
  have ho : ∀ p i, ¬ p = 5 → (hset (hset h 5 38 fl) q j v) p i = if p = q ∧ i = j then v else h p i := by
    intro p i hp
    rw [hset_get]
    by_cases e : p = q ∧ i = j
    · rw [if_pos e, if_pos e]
    · rw [if_neg e, if_neg e, hset_other hp]
  generalize hset (hset h 5 38 fl) q j v = h' at *
  refine ⟨⟨fun p hp => funext (fun i => by rw [ho p i (by omega), if_neg (by omega)]), fun i hi => by rw [h5, if_neg hi]⟩, ⟨fun p hp t ht => ?_, fun i hi => ?_, fun w hw => ?_⟩, fun x hx => ?_, ?_, by rw [h5, if_pos rfl]; exact hfl, fun z => ?_⟩
  · rw [ho p t (by omega), if_neg (by omega)]; exact hv.1 p hp t ht
  · rw [ho 57 i (by omega)]; split; exact hvv; exact hv.2.1 i hi
  · rw [ho 58 w (by omega)]; split; exact hvv; exact hv.2.2 w hw
  · simp only [List.mem_cons, List.mem_nil_iff, or_false] at hx
    rw [hx]; exact hvw
  · intro p i hpi
    show EX h' p i = vset (EX h) q j (F (EX h) q j) p i
    unfold vset EX
    have hp5 : ¬ p = 5 := by rcases hpi with ⟨z | z | z, -⟩ | ⟨z, -⟩ | ⟨z, -⟩ <;> omega
    rw [ho p i hp5]
    by_cases e : p = q ∧ i = j
    · rw [if_pos e, if_pos e]; exact ev
    · rw [if_neg e, if_neg e]
  · rw [h5, if_pos rfl] at z
    obtain ⟨z0, z1⟩ := hfl0 z
    refine ⟨z0, fun p i hpi => ?_⟩
    have hp5 : ¬ p = 5 := by rcases hpi with ⟨z | z | z, -⟩ | ⟨z, -⟩ | ⟨z, -⟩ <;> omega
    unfold EX
    rw [ho p i hp5]
    by_cases e : p = q ∧ i = j
    · rw [if_pos e, e.1, e.2, z1]
    · rw [if_neg e]
theorem MU_junk {F : Va → Va} (hv : V3s A h) {j : Nat} (hvw : ¬ VW A 58 j) {v fl : Int32} (hvv : v3 v) (hfl : fl = 0 ∨ fl = 1) (hfl0 : fl = 0 → h 5 38 = 0) : MU A F h (hset (hset h 5 38 fl) 58 j v) [] := by
  have h5 : ∀ i, (hset (hset h 5 38 fl) 58 j v) 5 i = if i = 38 then fl else h 5 i := fun i => by rw [hset_other (by omega), hset_at]
  have ho : ∀ p i, ¬ p = 5 → (hset (hset h 5 38 fl) 58 j v) p i = if p = 58 ∧ i = j then v else h p i := by
    intro p i hp
    rw [hset_get]
    by_cases e : p = 58 ∧ i = j
    · rw [if_pos e, if_pos e]
    · rw [if_neg e, if_neg e, hset_other hp]
  generalize hset (hset h 5 38 fl) 58 j v = h' at *
  have heq : eqV (VW A) (EX h') (EX h) := by
    intro p i hpi
    have hp5 : ¬ p = 5 := by rcases hpi with ⟨z | z | z, -⟩ | ⟨z, -⟩ | ⟨z, -⟩ <;> omega
    unfold EX
    rw [ho p i hp5, if_neg (fun e => hvw (by rw [← e.1, ← e.2]; exact hpi))]
  refine ⟨⟨fun p hp => funext (fun i => by rw [ho p i (by omega), if_neg (by omega)]), fun i hi => by rw [h5, if_neg hi]⟩, ⟨fun p hp t ht => ?_, fun i hi => ?_, fun w hw => ?_⟩, fun x hx => (by cases hx), heq, by rw [h5, if_pos rfl]; exact hfl, fun z => ?_⟩
  · rw [ho p t (by omega), if_neg (by omega)]; exact hv.1 p hp t ht
  · rw [ho 57 i (by omega), if_neg (by omega)]; exact hv.2.1 i hi
  · rw [ho 58 w (by omega)]; split; exact hvv; exact hv.2.2 w hw
  · rw [h5, if_pos rfl] at z
    exact ⟨hfl0 z, heq⟩
theorem fSig_53 {X Y : Va} (h : ∀ t, t < A.length → X 53 t = Y 53 t) (w : Nat) : ∀ t, t ≤ A.length → fSig A X w t = fSig A Y w t := by
  intro t
  induction t with
  | zero => intro _; rfl
  | succ t ih =>
    intro ht
    unfold fSig
    rw [ih (by omega), h t (by omega)]
theorem ewi_ok (hT : TF A) {t : Nat} (ht : t < A.length) (hk : (tA A t).1 = 2) : ewi (tA A t) < 4 + A.length ∧ mWi t (tA A t) = nI (ewi (tA A t)) ∧ VW A 58 (ewi (tA A t)) := by
  have hS := (tf_at hT ht).2.2.2.2.2.1
  have h4 := hS.1 hk
  have hn1 : ¬ sgO (tA A t).2.1 = -1 := fun z => h4 (by rw [z]; decide)
  have hw : mWi t (tA A t) = if (tA A t).2.1 < 115 then (tA A t).2.1 - 101 else nI (4 + (tA A t).2.2.2.2.2) := by
    unfold mWi
    rw [if_neg (fun z => z.elim (by rw [hk]; decide) hn1)]
  rcases sgO_cases (tA A t).2.1 with z | ⟨j, hj, z, w⟩ | ⟨j, hj, z, w⟩
  · exact absurd z hn1
  · have hj4 : ¬ j < 4 := fun q => h4 (by rw [z]; exact nI_lt (b := 4) q (by decide))
    obtain ⟨w1, w2, w3⟩ := mW_mid j hj hj4
    have he : ewi (tA A t) = j - 4 := by
      unfold ewi
      rw [z, if_pos (show nI j < 8 from nI_lt (b := 8) hj (by decide)), w3, ix_nI (by omega)]
    rw [hw, he, w, if_pos w1, w2]
    exact ⟨by omega, rfl, Or.inr (Or.inr ⟨rfl, Or.inl (by omega)⟩)⟩
  · have h115 : ¬ nI (115 + j) < 115 := Int32.not_lt.mpr (nI_le (a := 115) (by omega) (by omega))
    have h8 : ¬ 8 + nI j < 8 := (sg_c hj).1
    obtain ⟨o1, o2⟩ := (tf_at hT ht).2.2.2.2.2.2 (Or.inl hk) (by rw [z]; exact h8)
    have he : ewi (tA A t) = 4 + (tA A t).2.2.2.2.2 := by
      unfold ewi
      rw [z, if_neg h8]
    have e1 : (if (tA A t).2.1 < 115 then (tA A t).2.1 - 101 else nI (4 + (tA A t).2.2.2.2.2)) = nI (4 + (tA A t).2.2.2.2.2) := by rw [w, if_neg h115]
    rw [hw, e1, he]
    exact ⟨by omega, rfl, Or.inr (Or.inr ⟨rfl, Or.inr ⟨_, o1, o2, rfl⟩⟩)⟩
set_option maxHeartbeats 8000000 in
theorem s_X5_signals (hd : 2 ≤ d) (hT : TF A) (hse : ∀ t, bco (se t)) {F : Va → Va} (hFd : F = FW A se inp st) (hm : MS A se inp h) (hv : V3s A h) (hc : h 5 38 = 0 ∨ h 5 38 = 1) (hQ : ∀ h' l, MU A F h h' l → (∀ w, VW A 58 w → (58, w) ∈ l) → Q none h') : mvCal mvMT d 128 [.inr 5] h Q := by
  obtain ⟨d, rfl⟩ := d_pos hd (by decide)
  have hA := hT.1
  have hF : FOK (VW A) F := by rw [hFd]; exact FW_ok hT hse
  have e4 : ∀ g : mvH, g 5 17 = nI A.length → 4 + g 5 17 = nI (4 + A.length) := fun g hg => by rw [hg]; exact nI_add 4 A.length
  refine ⟨⟨rfl, by decide, rfl⟩, Nat.le_of_ble_eq_true rfl, fun K hK => hK _ _ _ _ ?_⟩
  -- the third loop
  have loop3 : ∀ k i, i + k = 4 + A.length → ∀ (g : mvH) (l : List (Nat × Nat)), MU A F h g l → (∀ w, w < i → VW A 58 w → (58, w) ∈ l) → (∀ t, t < A.length → g 53 t = h 53 t) → (∀ w, w < 4 + A.length → v3 (g 59 w) ∧ enc (g 59 w) = fSig A (EX h) w A.length) → K 84 [some (.inr 5), some (.inl (nI i))] [] g := by
    intro k
    induction k with
    | zero =>
      intro i hi g l hmu hl h53 h59
      have hs := hmu.1.2 17 (by decide)
      refine hK _ _ _ _ ?_
      conv => whnf
      rw [e4 g (by rw [hs]; exact hm.2.1)]
      refine ⟨fun _ => hK _ _ _ _ (hQ g l hmu (fun w hw => hl w ?_ hw)), fun e => absurd (nI_le (by omega) (by omega)) e⟩
      rcases hw with ⟨z | z | z, -⟩ | ⟨z, -⟩ | ⟨-, z | ⟨o, ho, -, z⟩⟩ <;> omega
    | succ k ih =>
      intro i hi g l hmu hl h53 h59
      have hs := hmu.1.2 17 (by decide)
      have hin : vp_in (nI i) 124 := vp_in_nI (by omega) (by decide)
      have ei : (nI i).toNatClampNeg = i := nI_clamp (by omega)
      obtain ⟨w1, w2⟩ := h59 i (by omega)
      have c122 : ∀ fl : Int32, (fl = 0 ∨ fl = 1) → (fl = 0 → g 5 38 = 0 ∧ g 58 i = g 59 i) → K 122 [some (.inr 5), some (.inl (nI i))] [.inl fl, .inr 5] g := by
        intro fl hfl hfl0
        refine hK _ _ _ _ ⟨hfl, hin, hin, ?_⟩
        rw [ei]
        have e59 : (hset g 5 38 fl) 59 i = g 59 i := by rw [hset_other (by decide)]
        rw [e59]
        conv => whnf
        rw [nI_1]
        have h53' : ∀ t, t < A.length → (hset (hset g 5 38 fl) 58 i (g 59 i)) 53 t = h 53 t := fun t ht => by rw [hset_other (by decide), hset_other (by decide)]; exact h53 t ht
        have h59' : ∀ w, w < 4 + A.length → v3 ((hset (hset g 5 38 fl) 58 i (g 59 i)) 59 w) ∧ enc ((hset (hset g 5 38 fl) 58 i (g 59 i)) 59 w) = fSig A (EX h) w A.length := fun w hw => by rw [hset_other (by decide), hset_other (by decide)]; exact h59 w hw
        by_cases hvw : VW A 58 i
        · have e1 : F (EX g) 58 i = fSig A (EX g) i A.length := by rw [hFd]; rfl
          have hmu1 := MU_one (F := F) hmu.2.1 (Or.inr rfl) hvw w1 (by rw [w2, e1]; exact fSig_53 (fun t ht => by unfold EX; rw [h53 t ht]) i _ (Nat.le_refl _)) hfl hfl0
          refine ih (i + 1) (by omega) (hset (hset g 5 38 fl) 58 i (g 59 i)) _ (MU_trans hF hmu hmu1) (fun w hw hvw' => ?_) h53' h59'
          by_cases hwi : w < i
          · exact List.mem_append_left _ (hl w hwi hvw')
          · obtain rfl : w = i := by omega
            exact List.mem_append_right _ (by simp)
        · have hmu1 := MU_junk (F := F) hmu.2.1 hvw w1 hfl (fun z => (hfl0 z).1)
          refine ih (i + 1) (by omega) (hset (hset g 5 38 fl) 58 i (g 59 i)) _ (MU_trans hF hmu hmu1) (fun w hw hvw' => ?_) h53' h59'
          by_cases hwi : w < i
          · exact List.mem_append_left _ (hl w hwi hvw')
          · obtain rfl : w = i := by omega
            exact absurd hvw' hvw
      have c117 : K 117 [some (.inr 5), some (.inl (nI i))] [.inr 5] g := by
        refine hK _ _ _ _ ?_
        exact c122 1 (Or.inr rfl) (fun z => absurd z (by decide))
      refine hK _ _ _ _ ?_
      conv => whnf
      rw [e4 g (by rw [hs]; exact hm.2.1)]
      refine ⟨fun e => absurd e (nI_ge (by omega) (by omega)), fun _ => ⟨fun _ => c117, fun e0 => ⟨hin, hin, ?_⟩⟩⟩
      rw [ei]
      refine ⟨fun e1 => ?_, fun _ => c117⟩
      refine hK _ _ _ _ ?_
      exact c122 0 (Or.inl rfl) (fun _ => ⟨e0, e1⟩)
  -- the second
  have loop2 : ∀ k i, i + k = A.length → ∀ (g : mvH), (∀ q, ¬ q = 59 → g q = h q) → (∀ w, w < 4 + A.length → v3 (g 59 w) ∧ enc (g 59 w) = fSig A (EX h) w i) → K 27 [some (.inr 5), some (.inl (nI i))] [] g := by
    intro k
    induction k with
    | zero =>
      intro i hi g hg h59
      have hi : i = A.length := by omega
      subst hi
      have hs : g 5 17 = nI A.length := by rw [hg 5 (by decide)]; exact hm.2.1
      refine hK _ _ _ _ ⟨fun _ => ?_, fun e => absurd (show g 5 17 ≤ nI A.length by rw [hs]; exact Int32.le_refl _) e⟩
      refine hK _ _ _ _ ?_
      have heq : eqV (VW A) (EX g) (EX h) := fun q j hv => by
        unfold EX
        rw [hg q (by rcases hv with ⟨z | z | z, -⟩ | ⟨z, -⟩ | ⟨z, -⟩ <;> omega)]
      refine loop3 (4 + A.length) 0 (by omega) g [] ⟨⟨fun q hq => hg q (by omega), fun j hj => by rw [hg 5 (by decide)]⟩, ⟨fun q hq => by rw [hg q (by omega)]; exact hv.1 q hq, by rw [hg 57 (by decide)]; exact hv.2.1, by rw [hg 58 (by decide)]; exact hv.2.2⟩, fun v z => (by cases z), heq, by rw [hg 5 (by decide)]; exact hc, fun z => ⟨by rw [← z, hg 5 (by decide)], heq⟩⟩ (fun w hw => by omega) (fun t _ => by rw [hg 53 (by decide)]) h59
    | succ k ih =>
      intro i hi g hg h59
      have hs : g 5 17 = nI A.length := by rw [hg 5 (by decide)]; exact hm.2.1
      have hin : vp_in (nI i) 120 := vp_in_nI (by omega) (by decide)
      have ei : (nI i).toNatClampNeg = i := nI_clamp (by omega)
      have hiN : i < A.length := by omega
      obtain ⟨m43, _, _, _, _, m48, _⟩ := MS_at hm hiN
      have c76 : ∀ g2 : mvH, (∀ q, ¬ q = 59 → g2 q = h q) → (∀ w, w < 4 + A.length → v3 (g2 59 w) ∧ enc (g2 59 w) = fSig A (EX h) w (i + 1)) → K 76 [some (.inr 5), some (.inl (nI i))] [] g2 := by
        intro g2 a1 a2
        refine hK _ _ _ _ ?_
        conv => whnf
        rw [nI_1]
        exact ih (i + 1) (by omega) g2 a1 a2
      refine hK _ _ _ _ ⟨fun e => absurd (show g 5 17 ≤ nI i from e) (by rw [hs]; exact nI_ge hiN (by omega)), fun _ => ⟨hin, ?_⟩⟩
      rw [ei, hg 43 (by decide), m43]
      refine ⟨fun e => ?_, fun e => ?_⟩
      · refine c76 g hg (fun w hw => ?_)
        have : fSig A (EX h) w (i + 1) = fSig A (EX h) w i := by
          show (if (tA A i).1 = 2 ∧ ewi (tA A i) = w then _ else _) = _
          rw [if_neg (fun z => e z.1)]
        rw [this]; exact h59 w hw
      · obtain ⟨u1, u2, u3⟩ := ewi_ok hT hiN e
        have hw : vp_in (nI (ewi (tA A i))) 124 := vp_in_nI (by omega) (by decide)
        have ew : (nI (ewi (tA A i))).toNatClampNeg = ewi (tA A i) := nI_clamp (by omega)
        refine ⟨hin, hin, ?_⟩
        rw [ei, hg 48 (by decide), m48, u2]
        refine ⟨hw, hin, ?_⟩
        rw [ei, ew]
        have v53 : v3 (g 53 i) := by rw [hg 53 (by decide)]; exact hv.1 53 (by decide) i hiN
        refine s_X5_or (by omega) (h59 _ u1).1 v53 (fun v vv ev => ?_)
        refine ⟨hw, ?_⟩
        rw [ew]
        refine c76 (hset g 59 (ewi (tA A i)) v) (fun q hq => by rw [hset_other hq, hg q hq]) (fun w hw' => ?_)
        rw [hset_at]
        show _ ∧ _ = (if (tA A i).1 = 2 ∧ ewi (tA A i) = w then pOr (fSig A (EX h) w i) ((EX h) 53 i) else fSig A (EX h) w i)
        by_cases hww : w = ewi (tA A i)
        · rw [if_pos hww, if_pos ⟨e, hww.symm⟩, ev, (h59 _ u1).2, hg 53 (by decide), hww]
          exact ⟨vv, rfl⟩
        · rw [if_neg hww, if_neg (fun z => hww z.2.symm)]
          exact h59 w hw'
  -- the first
  have loop1 : ∀ k i, i + k = 4 + A.length → ∀ (g : mvH), (∀ q, ¬ q = 59 → g q = h q) → (∀ w, w < i → g 59 w = 0) → K 2 [some (.inr 5), some (.inl (nI i))] [] g := by
    intro k
    induction k with
    | zero =>
      intro i hi g hg h59
      have hs : g 5 17 = nI A.length := by rw [hg 5 (by decide)]; exact hm.2.1
      refine hK _ _ _ _ ?_
      conv => whnf
      rw [e4 g hs]
      refine ⟨fun _ => ?_, fun e => absurd (nI_le (by omega) (by omega)) e⟩
      refine hK _ _ _ _ ?_
      exact loop2 A.length 0 (by omega) g hg (fun w hw => by rw [h59 w (by omega)]; exact ⟨v3_0, rfl⟩)
    | succ k ih =>
      intro i hi g hg h59
      have hs : g 5 17 = nI A.length := by rw [hg 5 (by decide)]; exact hm.2.1
      refine hK _ _ _ _ ?_
      conv => whnf
      rw [e4 g hs]
      refine ⟨fun e => absurd e (nI_ge (by omega) (by omega)), fun _ => ⟨vp_in_nI (by omega) (by decide), ?_⟩⟩
      rw [nI_clamp (by omega)]
      conv => whnf
      rw [nI_1]
      refine ih (i + 1) (by omega) (hset g 59 i 0) (fun q hq => by rw [hset_other hq, hg q hq]) (fun w hw => ?_)
      rw [hset_at]
      split
      · rfl
      · exact h59 w (by omega)
  exact loop1 (4 + A.length) 0 (by omega) h (fun _ _ => rfl) (fun w hw => by omega)
end MI5
