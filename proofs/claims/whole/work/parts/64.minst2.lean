/-! THE REFERENCE's instant: enter, inward -/
section MI3
variable {d : Nat} {h : mvH} {Q : Option mvV → mvH → Prop} {A : List Th} {se : Nat → B2} {inp : Nat} {st : Bool}
/-- all but what belongs to thing a -/
def exc (a : Nat) (X Y : Va) : Prop := ∀ q j, ¬ (q = 5 ∨ ((q = 53 ∨ q = 54 ∨ q = 55) ∧ j = a)) → Y q j = X q j
theorem sv_exc {a : Nat} {X Y : Va} (h : exc a X Y) (x : Th) : sv inp Y x = sv inp X x := by
  unfold sv
  rw [h 58 _ (by omega), h 58 _ (by omega)]
theorem ed_exc {a : Nat} {X Y : Va} (h : exc a X Y) (x : Int32) (c : Nat) : ed Y x c = ed X x c := by
  unfold ed
  rw [h 57 _ (by omega)]
theorem f3_exc {a p : Nat} {X Y : Va} (h : exc a X Y) {t : Nat} (hp : ¬ (tA A t).2.2.1 = -1 → ix (tA A t).2.2.1 = p) (hne : p ≠ a) : fGo A inp st Y t = fGo A inp st X t ∧ fRes A se inp st Y t = fRes A se inp st X t ∧ fSus A se inp Y t = fSus A se inp X t := by
  unfold fGo fRes fSus
  by_cases hu : (tA A t).2.2.1 = -1
  · rw [if_pos hu, if_pos hu, if_pos hu, if_pos hu, if_pos hu, if_pos hu]
    exact ⟨rfl, rfl, rfl⟩
  · rw [if_neg hu, if_neg hu, if_neg hu, if_neg hu, if_neg hu, if_neg hu]
    dsimp only
    rw [hp hu, h 53 p (by omega), h 54 p (by omega), h 55 p (by omega), sv_exc h, ed_exc h, ed_exc h]
    exact ⟨rfl, rfl, rfl⟩
theorem MU_enter {F : Va → Va} (hFd : F = FW A se inp st) (hv : V3s A h) {t : Nat} (ht : t < A.length) (htp : ¬ (tA A t).2.2.1 = -1 → ∃ p, p ≠ t ∧ ix (tA A t).2.2.1 = p) {g r s fl : Int32} (hg : v3 g) (hr : v3 r) (hs : v3 s) (eg : enc g = fGo A inp st (EX h) t) (er : enc r = fRes A se inp st (EX h) t) (es : enc s = fSus A se inp (EX h) t) (hfl : fl = 0 ∨ fl = 1) (hfl0 : fl = 0 → h 5 38 = 0 ∧ h 53 t = g ∧ h 54 t = r ∧ h 55 t = s) : MU A F h (hset (hset (hset (hset h 5 38 fl) 53 t g) 54 t r) 55 t s) [(53, t), (54, t), (55, t)] := by
  have hq : ∀ q, ¬ (q = 5 ∨ q = 53 ∨ q = 54 ∨ q = 55) → (hset (hset (hset (hset h 5 38 fl) 53 t g) 54 t r) 55 t s) q = h q := fun q hq => by rw [hset_other (by omega), hset_other (by omega), hset_other (by omega), hset_other (by omega)]
  have h53 : ∀ j, (hset (hset (hset (hset h 5 38 fl) 53 t g) 54 t r) 55 t s) 53 j = if j = t then g else h 53 j := fun j => by rw [hset_other (by omega), hset_other (by omega), hset_at, hset_other (by omega)]
  have h54 : ∀ j, (hset (hset (hset (hset h 5 38 fl) 53 t g) 54 t r) 55 t s) 54 j = if j = t then r else h 54 j := fun j => by rw [hset_other (by omega), hset_at, hset_other (by omega), hset_other (by omega)]
  have h55 : ∀ j, (hset (hset (hset (hset h 5 38 fl) 53 t g) 54 t r) 55 t s) 55 j = if j = t then s else h 55 j := fun j => by rw [hset_at, hset_other (by omega), hset_other (by omega), hset_other (by omega)]
  have h5 : ∀ j, (hset (hset (hset (hset h 5 38 fl) 53 t g) 54 t r) 55 t s) 5 j = if j = 38 then fl else h 5 j := fun j => by rw [hset_other (by omega), hset_other (by omega), hset_other (by omega), hset_at]
  generalize hset (hset (hset (hset h 5 38 fl) 53 t g) 54 t r) 55 t s = h' at *
  refine ⟨⟨fun q hq' => hq q (by omega), fun j hj => by rw [h5, if_neg hj]⟩, ⟨fun q hq' j hj => ?_, by rw [hq 57 (by omega)]; exact hv.2.1, by rw [hq 58 (by omega)]; exact hv.2.2⟩, fun v hv' => ?_, ?_, by rw [h5, if_pos rfl]; exact hfl, fun z => ?_⟩
  · rcases hq' with rfl | rfl | rfl
    · rw [h53]; split; exact hg; exact hv.1 53 (by omega) j hj
    · rw [h54]; split; exact hr; exact hv.1 54 (by omega) j hj
    · rw [h55]; split; exact hs; exact hv.1 55 (by omega) j hj
  · simp only [List.mem_cons, List.mem_nil_iff, or_false] at hv'
    rcases hv' with rfl | rfl | rfl
    · exact vw3 (by dsimp only; decide) ht
    · exact vw3 (by dsimp only; decide) ht
    · exact vw3 (by dsimp only; decide) ht
  · intro q j hvw
    have f1 : F (EX h) 53 t = enc g := by rw [hFd, eg]; rfl
    have x1 : exc t (EX h) (vset (EX h) 53 t (F (EX h) 53 t)) := fun q j hn => by unfold vset; rw [if_neg (fun z => hn (Or.inr ⟨Or.inl z.1, z.2⟩))]
    have hpp : ∃ p, p ≠ t ∧ (¬ (tA A t).2.2.1 = -1 → ix (tA A t).2.2.1 = p) := by
      by_cases hu : (tA A t).2.2.1 = -1
      · exact ⟨t + 1, by omega, fun z => absurd hu z⟩
      · obtain ⟨p, p1, p2⟩ := htp hu; exact ⟨p, p1, fun _ => p2⟩
    obtain ⟨p, pne, pix⟩ := hpp
    have f2 : F (vset (EX h) 53 t (F (EX h) 53 t)) 54 t = enc r := by
      rw [er, ← (f3_exc (se := se) (inp := inp) (st := st) x1 pix pne).2.1]
      generalize vset (EX h) 53 t (F (EX h) 53 t) = Y
      rw [hFd]; rfl
    have x2 : exc t (EX h) (vset (vset (EX h) 53 t (F (EX h) 53 t)) 54 t (F (vset (EX h) 53 t (F (EX h) 53 t)) 54 t)) := fun q j hn => by
      rw [← x1 q j hn]
      generalize vset (EX h) 53 t (F (EX h) 53 t) = Y
      unfold vset; rw [if_neg (fun z => hn (Or.inr ⟨Or.inr (Or.inl z.1), z.2⟩))]
    have f3 : F (vset (vset (EX h) 53 t (F (EX h) 53 t)) 54 t (F (vset (EX h) 53 t (F (EX h) 53 t)) 54 t)) 55 t = enc s := by
      rw [es, ← (f3_exc (se := se) (inp := inp) (st := st) x2 pix pne).2.2]
      generalize vset (vset (EX h) 53 t (F (EX h) 53 t)) 54 t (F (vset (EX h) 53 t (F (EX h) 53 t)) 54 t) = Y
      rw [hFd]; rfl
    show EX h' q j = vset (vset (vset (EX h) 53 t (F (EX h) 53 t)) 54 t (F (vset (EX h) 53 t (F (EX h) 53 t)) 54 t)) 55 t (F (vset (vset (EX h) 53 t (F (EX h) 53 t)) 54 t (F (vset (EX h) 53 t (F (EX h) 53 t)) 54 t)) 55 t) q j
    rw [f3, f2, f1]
    unfold vset EX
    by_cases e55 : q = 55 ∧ j = t
    · rw [if_pos e55, e55.1, e55.2, h55, if_pos rfl]
    · rw [if_neg e55]
      by_cases e54 : q = 54 ∧ j = t
      · rw [if_pos e54, e54.1, e54.2, h54, if_pos rfl]
      · rw [if_neg e54]
        by_cases e53 : q = 53 ∧ j = t
        · rw [if_pos e53, e53.1, e53.2, h53, if_pos rfl]
        · rw [if_neg e53]
          by_cases q53 : q = 53
          · subst q53; rw [h53, if_neg (fun z => e53 ⟨rfl, z⟩)]
          · by_cases q54 : q = 54
            · subst q54; rw [h54, if_neg (fun z => e54 ⟨rfl, z⟩)]
            · by_cases q55 : q = 55
              · subst q55; rw [h55, if_neg (fun z => e55 ⟨rfl, z⟩)]
              · have : ¬ q = 5 := by rcases hvw with ⟨z | z | z, -⟩ | ⟨z, -⟩ | ⟨z, -⟩ <;> omega
                rw [hq q (by omega)]
  · rw [h5, if_pos rfl] at z
    obtain ⟨z0, z1, z2, z3⟩ := hfl0 z
    refine ⟨z0, fun q j hvw => ?_⟩
    unfold EX
    have : h' q j = h q j := by
      by_cases q53 : q = 53
      · subst q53; rw [h53]; split
        · rename_i e; rw [e, z1]
        · rfl
      · by_cases q54 : q = 54
        · subst q54; rw [h54]; split
          · rename_i e; rw [e, z2]
          · rfl
        · by_cases q55 : q = 55
          · subst q55; rw [h55]; split
            · rename_i e; rw [e, z3]
            · rfl
          · have : ¬ q = 5 := by rcases hvw with ⟨z | z | z, -⟩ | ⟨z, -⟩ | ⟨z, -⟩ <;> omega
            rw [hq q (by omega)]
    rw [this]
theorem s_X5_enter (hd : 1 ≤ d) {F : Va → Va} (hFd : F = FW A se inp st) (hA : A.length ≤ 120) (hv : V3s A h) (hc : h 5 38 = 0 ∨ h 5 38 = 1) {t : Nat} (ht : t < A.length) (htp : ¬ (tA A t).2.2.1 = -1 → ∃ p, p ≠ t ∧ ix (tA A t).2.2.1 = p) {g r s : Int32} (hg : v3 g) (hr : v3 r) (hs : v3 s) (eg : enc g = fGo A inp st (EX h) t) (er : enc r = fRes A se inp st (EX h) t) (es : enc s = fSus A se inp (EX h) t) (hQ : ∀ h', MU A F h h' [(53, t), (54, t), (55, t)] → exc t (EX h) (EX h') → Q none h') : mvCal mvMT d 124 [.inr 5, .inl (nI t), .inl g, .inl r, .inl s] h Q := by
  obtain ⟨d, rfl⟩ := d_pos hd (by decide)
  have hin : vp_in (nI t) 120 := vp_in_nI (by omega) (by decide)
  have et : (nI t).toNatClampNeg = t := nI_clamp (by omega)
  refine ⟨⟨rfl, by decide, rfl⟩, Nat.le_of_ble_eq_true rfl, fun K hK => hK _ _ _ _ ?_⟩
  have c44 : ∀ fl : Int32, (fl = 0 ∨ fl = 1) → (fl = 0 → h 5 38 = 0 ∧ h 53 t = g ∧ h 54 t = r ∧ h 55 t = s) → K 44 [some (.inr 5), some (.inl (nI t)), some (.inl g), some (.inl r), some (.inl s)] [.inl fl, .inr 5] h := by
    intro fl hfl hfl0
    refine hK _ _ _ _ ⟨hfl, hin, hin, hin, ?_⟩
    rw [et]
    refine hQ (hset (hset (hset (hset h 5 38 fl) 53 t g) 54 t r) 55 t s) (MU_enter hFd hv ht htp hg hr hs eg er es hfl hfl0) (fun q j hn => ?_)
    unfold EX
    by_cases e55 : q = 55
    · subst e55; rw [hset_at, if_neg (fun z => hn (Or.inr ⟨by decide, z⟩)), hset_other (by omega), hset_other (by omega), hset_other (by omega)]
    · rw [hset_other e55]
      by_cases e54 : q = 54
      · subst e54; rw [hset_at, if_neg (fun z => hn (Or.inr ⟨by decide, z⟩)), hset_other (by omega), hset_other (by omega)]
      · rw [hset_other e54]
        by_cases e53 : q = 53
        · subst e53; rw [hset_at, if_neg (fun z => hn (Or.inr ⟨by decide, z⟩)), hset_other (by omega)]
        · rw [hset_other e53]
          by_cases e5 : q = 5
          · exact absurd (Or.inl e5) hn
          · rw [hset_other e5]
  have c39 : K 39 [some (.inr 5), some (.inl (nI t)), some (.inl g), some (.inl r), some (.inl s)] [.inr 5] h := by
    refine hK _ _ _ _ ?_
    exact c44 1 (Or.inr rfl) (fun z => absurd z (by decide))
  refine ⟨fun _ => c39, fun e0 => ⟨hin, ?_⟩⟩
  rw [et]
  refine ⟨fun _ => c39, fun e1 => ⟨hin, ?_⟩⟩
  rw [et]
  refine ⟨fun _ => c39, fun e2 => ⟨hin, ?_⟩⟩
  rw [et]
  refine ⟨fun e3 => ?_, fun _ => c39⟩
  refine hK _ _ _ _ ?_
  exact c44 0 (Or.inl rfl) (fun _ => ⟨e0, e1, e2, e3⟩)
/-- what lies in a thing hears of it -/
theorem ch_f3 (hT : TF A) {X : Va} {t a : Nat} (ht : t < A.length) (ha : a < A.length) (hu : (tA A a).2.2.1 = nI t) :
    fGo A inp st X a = (if (tA A t).1 = 4 then pAnd (X 53 t) (if (tA A t).2.2.2.1 = nI a then sv inp X (tA A t) else pNot (sv inp X (tA A t)))
      else if (tA A t).1 = 6 then (if (tA A t).2.2.2.1 = nI a then pOr (X 53 t) (ed X (tA A t).2.2.2.2.1 0) else ed X (tA A t).2.2.2.1 0)
      else if (tA A t).1 = 9 then (if (tA A t).2.2.2.1 = nI a then X 53 t else ed X (tA A t).2.2.2.1 0) else X 53 t) ∧
    fRes A se inp st X a = (if (tA A t).1 = 5 then pAnd (pAnd (X 54 t) (se t)) (pNot (sv inp X (tA A t))) else X 54 t) ∧
    fSus A se inp X a = (if (tA A t).1 = 5 then pOr (X 55 t) (pAnd (pAnd (X 54 t) (se t)) (sv inp X (tA A t))) else X 55 t) := by
  have hA := hT.1
  have hn : ¬ (tA A a).2.2.1 = -1 := by rw [hu]; exact nI_nm1 (by omega)
  have hx : ix (tA A a).2.2.1 = t := by rw [hu]; exact ix_nI (by omega)
  unfold fGo fRes fSus
  rw [if_neg hn, if_neg hn, if_neg hn]
  dsimp only
  rw [hx]
  exact ⟨rfl, rfl, rfl⟩
set_option maxHeartbeats 8000000 in
theorem s_X5_inward (hd : 3 ≤ d) (hT : TF A) (hse : ∀ t, bco (se t)) {F : Va → Va} (hFd : F = FW A se inp st) (hm : MS A se inp h) (hv : V3s A h) (hc : h 5 38 = 0 ∨ h 5 38 = 1) {t : Nat} (ht : t < A.length) (hQ : ∀ h' l, MU A F h h' l → (∀ a, a < A.length → (tA A a).2.2.1 = nI t → ∀ q, (q = 53 ∨ q = 54 ∨ q = 55) → (q, a) ∈ l) → Q none h') : mvCal mvMT d 125 [.inr 5, .inl (nI t)] h Q := by
  obtain ⟨d, rfl⟩ := d_pos hd (by decide)
  have hA := hT.1
  have hF : FOK (VW A) F := by rw [hFd]; exact FW_ok hT hse
  have hin : vp_in (nI t) 120 := vp_in_nI (by omega) (by decide)
  have et : (nI t).toNatClampNeg = t := nI_clamp (by omega)
  obtain ⟨m43, m44, m45, m46, m47, m48, m49⟩ := MS_at hm ht
  obtain ⟨t1, t2, t3, t4, t5, t6, t7⟩ := tf_at hT ht
  obtain ⟨s1, s2, s3⟩ := hm.2.2.1 t ht
  have v53 := hv.1 53 (by decide) t ht
  have v54 := hv.1 54 (by decide) t ht
  have v55 := hv.1 55 (by decide) t ht
  -- the children of t
  have child : ∀ a, a < A.length → (tA A a).2.2.1 = nI t → (tA A t).2.2.2.1 = nI a ∨ (tA A t).2.2.2.2.1 = nI a := by
    intro a ha hu
    have h0 : 0 < a := by
      rcases Nat.eq_zero_or_pos a with z | z
      · have := (tf_at hT ha).1 z
        rw [hu] at this
        exact absurd this (nI_nm1 (by omega))
      · exact z
    obtain ⟨p, hp, e, hpc⟩ := (tf_at hT ha).2.1 h0
    rw [hu] at e
    have := nI_inj (by omega) (by omega) e
    subst this
    exact hpc
  have notself : ∀ a, a < A.length → (tA A a).2.2.1 = nI t → t < a → (¬ (tA A a).2.2.1 = -1 → ∃ p, p ≠ a ∧ ix (tA A a).2.2.1 = p) := fun a ha hu hlt _ => ⟨t, by omega, by rw [hu]; exact ix_nI (by omega)⟩
  refine ⟨⟨rfl, by decide, rfl⟩, Nat.le_of_ble_eq_true rfl, fun K hK => hK _ _ _ _ ⟨hin, hin, hin, hin, hin, hin, ?_⟩⟩
  rw [et, m43, m46, m47]
  -- the end
  have fin : ∀ h' l, MU A F h h' l → (∀ a, a < A.length → (tA A a).2.2.1 = nI t → ∀ q, (q = 53 ∨ q = 54 ∨ q = 55) → (q, a) ∈ l) → ∀ z2 z3 z4 z5 z6 z7 z8 z9, K 259 [some (.inr 5), some (.inl (nI t)), z2, z3, z4, z5, z6, z7, z8, z9] [] h' := fun h' l hmu hl _ _ _ _ _ _ _ _ => hK _ _ _ _ (hQ h' l hmu hl)
  -- both children are entered
  have in3 : ∀ (a q : Nat), (q = 53 ∨ q = 54 ∨ q = 55) → (q, a) ∈ [(53, a), (54, a), (55, a)] := fun a q hq => by rcases hq with rfl | rfl | rfl <;> simp
  have v5 : ∀ {k : Int32}, (tA A t).1 = k → (tA A t).1 = k := fun z => z
  -- the first child and the second
  have first : ¬ (tA A t).2.2.2.1 = -1 → ∃ a, t < a ∧ a < A.length ∧ (tA A t).2.2.2.1 = nI a ∧ (tA A a).2.2.1 = nI t := fun z => t3.resolve_left z
  have second : ¬ (tA A t).2.2.2.2.1 = -1 → ∃ a b, t < a ∧ a < b ∧ b < A.length ∧ (tA A t).2.2.2.1 = nI a ∧ (tA A t).2.2.2.2.1 = nI b ∧ (tA A a).2.2.1 = nI t ∧ (tA A b).2.2.1 = nI t := by
    intro z
    obtain ⟨a, b, h1, h2, h3, h4, h5, h6⟩ := t4.resolve_left z
    obtain ⟨a', h1', h2', h3', h4'⟩ := first (by rw [h4]; exact nI_nm1 (by omega))
    rw [h4] at h3'
    have := nI_inj (by omega) (by omega) h3'
    subst this
    exact ⟨a, b, h1, h2, h3, h4, h5, h4', h6⟩
  have all1 : ∀ a, a < A.length → (tA A t).2.2.2.1 = nI a → (tA A t).2.2.2.2.1 = -1 → ∀ c, c < A.length → (tA A c).2.2.1 = nI t → ∀ q, (q = 53 ∨ q = 54 ∨ q = 55) → (q, c) ∈ [(53, a), (54, a), (55, a)] := by
    intro a ha e1 e2 c hc hu q hq
    rcases child c hc hu with z | z
    · rw [e1] at z
      have := nI_inj (by omega) (by omega) z
      subst this
      exact in3 a q hq
    · rw [e2] at z
      exact absurd z.symm (nI_nm1 (by omega))
  have all2 : ∀ a b, a < A.length → b < A.length → (tA A t).2.2.2.1 = nI a → (tA A t).2.2.2.2.1 = nI b → ∀ c, c < A.length → (tA A c).2.2.1 = nI t → ∀ q, (q = 53 ∨ q = 54 ∨ q = 55) → (q, c) ∈ [(53, a), (54, a), (55, a)] ++ [(53, b), (54, b), (55, b)] := by
    intro a b ha hb e1 e2 c hc hu q hq
    rcases child c hc hu with z | z
    · rw [e1] at z
      have := nI_inj (by omega) (by omega) z
      subst this
      exact List.mem_append_left _ (in3 a q hq)
    · rw [e2] at z
      have := nI_inj (by omega) (by omega) z
      subst this
      exact List.mem_append_right _ (in3 b q hq)
  by_cases k5 : (tA A t).1 = 5
  · refine ⟨fun e => absurd k5 e, fun _ => ?_⟩
    have hone : ¬ (tA A t).2.2.2.1 = -1 ∧ (tA A t).2.2.2.2.1 = -1 := by
      rcases t5 with ⟨z, -⟩ | ⟨-, z⟩ | ⟨z, -⟩
      · rw [k5] at z; exact absurd z (by decide)
      · exact z
      · rw [k5] at z; exact absurd z (by decide)
    obtain ⟨a, hta, haN, ea, hua⟩ := first hone.1
    obtain ⟨f1, f2, f3⟩ := ch_f3 (se := se) (inp := inp) (st := st) hT (X := EX h) ht haN hua
    rw [if_neg (by rw [k5]; decide), if_neg (by rw [k5]; decide), if_neg (by rw [k5]; decide)] at f1
    rw [if_pos k5] at f2 f3
    refine ⟨hin, ?_⟩
    rw [et]
    refine s_X5_valueOf (by omega) hT hm hv ht (Or.inr k5) (fun v vv ev => ?_)
    refine ⟨hin, ?_⟩
    rw [et]
    refine s_X5_and (by omega) v54 s1 (fun u vu eu => ?_)
    refine s_X5_not (by omega) vv (fun w vw ew => ?_)
    refine s_X5_and (by omega) vu vw (fun r' vr er => ?_)
    refine s_X5_and (by omega) vu vv (fun x vx ex => ?_)
    refine s_X5_or (by omega) v55 vx (fun s' vs es => ?_)
    rw [ea]
    refine s_X5_enter (by omega) hFd hA hv hc haN (notself a haN hua hta) v53 vr vs (by rw [f1]; rfl) (by rw [er, eu, ew, ev, f2, s2]; rfl) (by rw [es, ex, eu, ev, f3, s2]; rfl) (fun h' hmu hex => ?_)
    exact fin h' _ hmu (all1 a haN ea hone.2) _ _ _ _ _ _ _ _
  · refine ⟨fun _ => ?_, fun e => absurd e k5⟩
    by_cases k4 : (tA A t).1 = 4
    · have htwo : ¬ (tA A t).2.2.2.2.1 = -1 := by
        rcases t5 with ⟨z, -⟩ | ⟨z, -⟩ | ⟨-, -, z⟩
        · rw [k4] at z; exact absurd z (by decide)
        · rw [k4] at z; exact absurd z (by decide)
        · exact z
      obtain ⟨a, b, hta, hab, hbN, ea, eb, hua, hub⟩ := second htwo
      obtain ⟨f1, f2, f3⟩ := ch_f3 (se := se) (inp := inp) (st := st) hT (X := EX h) ht (show a < A.length by omega) hua
      obtain ⟨g1, g2, g3⟩ := ch_f3 (se := se) (inp := inp) (st := st) hT (X := EX h) ht hbN hub
      have hne : ¬ nI a = nI b := fun z => by have := nI_inj (by omega) (by omega) z; omega
      rw [if_pos k4, ea] at f1 g1
      rw [if_pos rfl] at f1
      rw [if_neg hne] at g1
      rw [if_neg k5] at f2 f3 g2 g3
      refine hK _ _ _ _ ⟨fun e => absurd k4 e, fun _ => ⟨hin, ?_⟩⟩
      rw [et]
      refine s_X5_valueOf (by omega) hT hm hv ht (Or.inl k4) (fun v vv ev => ?_)
      refine s_X5_and (by omega) v53 vv (fun x vx ex => ?_)
      rw [ea, eb]
      refine s_X5_enter (by omega) hFd hA hv hc (show a < A.length by omega) (notself a (by omega) hua hta) vx v54 v55 (by rw [ex, ev, f1]; rfl) (by rw [f2]; rfl) (by rw [f3]; rfl) (fun h1 hmu1 hex1 => ?_)
      refine s_X5_not (by omega) vv (fun w vw ew => ?_)
      refine s_X5_and (by omega) v53 vw (fun y vy ey => ?_)
      obtain ⟨b1, b2, b3⟩ := f3_exc (A := A) (se := se) (inp := inp) (st := st) hex1 (t := b) (p := t) (fun _ => by rw [hub]; exact ix_nI (by omega)) (by omega)
      refine s_X5_enter (by omega) hFd hA hmu1.2.1 hmu1.2.2.2.2.1 hbN (notself b hbN hub (by omega)) vy v54 v55 (by rw [ey, ew, ev, b1, g1]; rfl) (by rw [b2, g2]; rfl) (by rw [b3, g3]; rfl) (fun h2 hmu2 hex2 => ?_)
      exact fin h2 _ (MU_trans hF hmu1 hmu2) (all2 a b (by omega) hbN ea eb) _ _ _ _ _ _ _ _
    · refine hK _ _ _ _ ⟨fun _ => ?_, fun e => absurd e k4⟩
      -- SEQ and LOOP
      have c179 : ((tA A t).1 = 9 ∨ (tA A t).1 = 6) → ∀ z8 z9, K 179 [some (.inr 5), some (.inl (nI t)), some (.inl (tA A t).2.2.2.1), some (.inl (tA A t).2.2.2.2.1), some (.inl (h 53 t)), some (.inl (h 54 t)), some (.inl (h 55 t)), some (.inl (tA A t).1), z8, z9] [] h := by
        intro k96 z8 z9
        have htwo : ¬ (tA A t).2.2.2.2.1 = -1 := by
          rcases t5 with ⟨z, -⟩ | ⟨z, -⟩ | ⟨-, -, z⟩
          · rcases k96 with k | k <;> rw [k] at z <;> exact absurd z (by decide)
          · rcases k96 with k | k <;> rw [k] at z <;> exact absurd z (by decide)
          · exact z
        obtain ⟨a, b, hta, hab, hbN, ea, eb, hua, hub⟩ := second htwo
        obtain ⟨f1, f2, f3⟩ := ch_f3 (se := se) (inp := inp) (st := st) hT (X := EX h) ht (show a < A.length by omega) hua
        obtain ⟨g1, g2, g3⟩ := ch_f3 (se := se) (inp := inp) (st := st) hT (X := EX h) ht hbN hub
        have hne : ¬ nI a = nI b := fun z => by have := nI_inj (by omega) (by omega) z; omega
        have edb : ed (EX h) (nI b) 0 = enc (h 57 (6 * b + 0)) := by unfold ed; rw [if_neg (nI_pos (by omega)), ix_nI (by omega)]; rfl
        have eda : ed (EX h) (nI a) 0 = enc (h 57 (6 * a + 0)) := by unfold ed; rw [if_neg (nI_pos (by omega)), ix_nI (by omega)]; rfl
        rw [if_neg k5] at f2 f3 g2 g3
        rw [if_neg k4, ea, eb] at f1
        rw [if_neg k4, ea] at g1
        have g1' : fGo A inp st (EX h) b = enc (h 57 (6 * a + 0)) := by
          rw [g1, eda]
          rcases k96 with k | k
          · rw [if_neg (by rw [k]; decide), if_pos k, if_neg hne]
          · rw [if_pos k, if_neg hne]
        rw [ea, eb]
        have c204 : ∀ g : Int32, v3 g → enc g = fGo A inp st (EX h) a → K 204 [some (.inr 5), some (.inl (nI t)), some (.inl (nI a)), some (.inl (nI b)), some (.inl (h 53 t)), some (.inl (h 54 t)), some (.inl (h 55 t)), some (.inl (tA A t).1), z8, z9] [.inl g, .inl (nI a), .inr 5] h := by
          intro g vg eg
          refine hK _ _ _ _ ?_
          refine s_X5_enter (by omega) hFd hA hv hc (show a < A.length by omega) (notself a (by omega) hua hta) vg v54 v55 eg (by rw [f2]; rfl) (by rw [f3]; rfl) (fun h1 hmu1 hex1 => ?_)
          refine s_X5_k (by omega) (a := a) (c := 0) (by omega) (by decide) ?_
          obtain ⟨b1, b2, b3⟩ := f3_exc (A := A) (se := se) (inp := inp) (st := st) hex1 (t := b) (p := t) (fun _ => by rw [hub]; exact ix_nI (by omega)) (by omega)
          have e57 : enc (h1 57 (6 * a + 0)) = enc (h 57 (6 * a + 0)) := hex1 57 _ (by omega)
          refine s_X5_enter (by omega) hFd hA hmu1.2.1 hmu1.2.2.2.2.1 hbN (notself b hbN hub (by omega)) (hmu1.2.1.2.1 _ (by omega)) v54 v55 (by rw [e57, b1, g1']) (by rw [b2, g2]; rfl) (by rw [b3, g3]; rfl) (fun h2 hmu2 hex2 => ?_)
          exact fin h2 _ (MU_trans hF hmu1 hmu2) (all2 a b (by omega) hbN ea eb) _ _ _ _ _ _ _ _
        refine hK _ _ _ _ ⟨fun k9 => ?_, fun k9 => ?_⟩
        · have k6 : (tA A t).1 = 6 := k96.resolve_left k9
          rw [if_pos k6, if_pos rfl, edb] at f1
          refine hK _ _ _ _ ?_
          refine s_X5_k (by omega) (a := b) (c := 0) (by omega) (by decide) ?_
          refine s_X5_or (by omega) v53 (hv.2.1 _ (by omega)) (fun g vg eg => ?_)
          exact c204 g vg (by rw [eg, f1]; rfl)
        · have k9 : (tA A t).1 = 9 := k9
          rw [if_neg (by rw [k9]; decide), if_pos k9, if_pos rfl] at f1
          exact c204 _ v53 (by rw [f1]; rfl)
      by_cases k9 : (tA A t).1 = 9
      · refine hK _ _ _ _ ⟨fun _ => c179 (Or.inl k9) _ _, fun e => absurd k9 e⟩
      · by_cases k6 : (tA A t).1 = 6
        · refine hK _ _ _ _ ⟨fun e => absurd e k9, fun _ => ⟨fun e => absurd k6 e, fun _ => c179 (Or.inr k6) _ _⟩⟩
        · refine hK _ _ _ _ ⟨fun e => absurd e k9, fun _ => ⟨fun _ => ?_, fun e => absurd e k6⟩⟩
          -- the rest
          have fr : ∀ a, a < A.length → (tA A a).2.2.1 = nI t → fGo A inp st (EX h) a = enc (h 53 t) ∧ fRes A se inp st (EX h) a = enc (h 54 t) ∧ fSus A se inp (EX h) a = enc (h 55 t) := by
            intro a ha hua
            obtain ⟨f1, f2, f3⟩ := ch_f3 (se := se) (inp := inp) (st := st) hT (X := EX h) ht ha hua
            rw [if_neg k4, if_neg k6, if_neg k9] at f1
            rw [if_neg k5] at f2 f3
            exact ⟨f1, f2, f3⟩
          by_cases n1 : (tA A t).2.2.2.1 = -1
          · have n2 : (tA A t).2.2.2.2.1 = -1 := by
              rcases t4 with z | ⟨a, b, q1, q2, q3, q4, -⟩
              · exact z
              · rw [n1] at q4; exact absurd q4.symm (nI_nm1 (by omega))
            rw [n1, n2]
            refine hK _ _ _ _ ⟨fun _ => ?_, fun e => absurd (by decide) e⟩
            refine hK _ _ _ _ ⟨fun _ => ?_, fun e => absurd (by decide) e⟩
            refine fin h [] (MU_nil hv hc) (fun c hcN hu => ?_) _ _ _ _ _ _ _ _
            rcases child c hcN hu with z | z
            · rw [n1] at z; exact absurd z.symm (nI_nm1 (by omega))
            · rw [n2] at z; exact absurd z.symm (nI_nm1 (by omega))
          · obtain ⟨a, hta, haN, ea, hua⟩ := first n1
            obtain ⟨f1, f2, f3⟩ := fr a haN hua
            rw [ea]
            refine hK _ _ _ _ ⟨fun e => absurd e (nI_pos (by omega)), fun _ => ?_⟩
            refine s_X5_enter (by omega) hFd hA hv hc haN (notself a haN hua hta) v53 v54 v55 f1.symm f2.symm f3.symm (fun h1 hmu1 hex1 => ?_)
            by_cases n2 : (tA A t).2.2.2.2.1 = -1
            · rw [n2]
              refine hK _ _ _ _ ⟨fun _ => ?_, fun e => absurd (by decide) e⟩
              exact fin h1 _ hmu1 (all1 a haN ea n2) _ _ _ _ _ _ _ _
            · obtain ⟨a', b, hta', hab, hbN, ea', eb, hua', hub⟩ := second n2
              have haa : a' = a := by rw [ea] at ea'; exact (nI_inj (by omega) (by omega) ea').symm
              subst haa
              obtain ⟨g1, g2, g3⟩ := fr b hbN hub
              obtain ⟨b1, b2, b3⟩ := f3_exc (A := A) (se := se) (inp := inp) (st := st) hex1 (t := b) (p := t) (fun _ => by rw [hub]; exact ix_nI (by omega)) (by omega)
              rw [eb]
              refine hK _ _ _ _ ⟨fun e => absurd e (nI_pos (by omega)), fun _ => ?_⟩
              refine s_X5_enter (by omega) hFd hA hmu1.2.1 hmu1.2.2.2.2.1 hbN (notself b hbN hub (by omega)) v53 v54 v55 (by rw [b1, g1]) (by rw [b2, g2]) (by rw [b3, g3]) (fun h2 hmu2 hex2 => ?_)
              exact fin h2 _ (MU_trans hF hmu1 hmu2) (all2 a' b (by omega) hbN ea eb) _ _ _ _ _ _ _ _
end MI3
