/-! THE CLASS's sweep, lane by lane: emitted signals, leaving, steps, a sweep, all sweeps -/
section CN
variable {A : List Th} {se : Nat → B2} {h h' : mvH} {st : Bool}
theorem pl_em (hT : TF A) (hc : CSt A se h) {t : Nat} (ht : t < A.length) (hk : (tA A t).1 = 2) : h 20 t = nI (pl A 58 (ewi (tA A t))) ∧ pl A 58 (ewi (tA A t)) < 128 := by
  have hA := hT.1
  have hS := (tf_at hT ht).2.2.2.2.2.1
  have h4 := hS.1 hk
  have em : h 20 t = (if sgO (tA A t).2.1 < 8 then sgO (tA A t).2.1 else pgW A (tA A t).2.2.2.2.2) := by
    rw [(hc.2.1 t ht).2.2.2.2]
    unfold mkC
    rw [if_neg (by rw [hk]; decide), if_neg (by rw [hk]; decide), if_pos (Or.inl hk)]
  unfold ewi pl
  rw [em, if_pos rfl]
  rcases sgO_cases (tA A t).2.1 with z | ⟨j, hj, z, w⟩ | ⟨j, hj, z, w⟩
  · rw [z] at h4; exact absurd (by decide) h4
  · have hj4 : ¬ j < 4 := fun q => h4 (by rw [z]; exact nI_lt (b := 4) q (by decide))
    obtain ⟨w1, w2, w3⟩ := mW_mid j hj hj4
    have h8 : nI j < 8 := nI_lt (b := 8) hj (by decide)
    rw [z, if_pos h8, if_pos h8, w3, ix_nI (by omega), if_pos (by omega), show 4 + (j - 4) = j by omega]
    exact ⟨rfl, by omega⟩
  · have h8 : ¬ 8 + nI j < 8 := (sg_c hj).1
    obtain ⟨o1, o2⟩ := (tf_at hT ht).2.2.2.2.2.2 (Or.inl hk) (by rw [z]; exact h8)
    have hcn := cnt_take_le (A := A) 8 (tA A t).2.2.2.2.2
    rw [z, if_neg h8, if_neg h8, if_neg (by omega), Nat.add_sub_cancel_left]
    exact ⟨rfl, by omega⟩
theorem come_ok (hT : TF A) (hc : CSt A se h) {t : Nat} (ht : t < A.length) (he : EM A t h) : CU A (FL A se st) h (cCome h t (b1I (!st))) [(53, t), (54, t), (55, t)] ∧ EM A (t + 1) (cCome h t (b1I (!st))) := by
  have hA := hT.1
  obtain ⟨h3, cu, fr, f23, e⟩ := come_v (st := st) hT hc ht
  have hc3 : CSt A se h3 := CSt_S hc cu.1 cu.2.1
  have s53 : ∀ l w, fSig A (LV A l h3) w t = fSig A (LV A l h) w t := fun l w => fSig_c w t (fun u hu => by
    show pj l (h3 23 u) = pj l (h 23 u)
    rw [f23 u (by omega)])
  rw [e, (hc3.2.1 t ht).1]
  by_cases hk : (tA A t).1 = 2
  · rw [if_pos hk]
    obtain ⟨p1, p2⟩ := pl_em hT hc3 ht hk
    have hw0 := (ewi_ok hT ht hk).2.2
    have e4 : cEmit h3 (h3 20 t) (h3 23 t) = hset h3 30 (pl A 58 (ewi (tA A t))) (lOr (h3 30 (pl A 58 (ewi (tA A t)))) (h3 23 t)) := by
      unfold cEmit
      rw [p1, if_neg (nI_pos (by omega)), if_neg (show ¬ (128 : Int32) ≤ nI _ from nI_ge (b := 128) p2 (by omega)), ix_nI (by omega)]
    rw [e4]
    refine ⟨CU_30 cu (fun q hq => hset_other hq), fun l hl w hw => ?_⟩
    have eLV : fSig A (LV A l (hset h3 30 (pl A 58 (ewi (tA A t))) (lOr (h3 30 (pl A 58 (ewi (tA A t)))) (h3 23 t)))) w (t + 1) = fSig A (LV A l h3) w (t + 1) := fSig_c w (t + 1) (fun u _ => by
      show pj l ((hset h3 30 _ _) 23 u) = pj l (h3 23 u)
      rw [hset_other (by decide)])
    rw [eLV, hset_at]
    show _ = (if (tA A t).1 = 2 ∧ ewi (tA A t) = w then pOr (fSig A (LV A l h3) w t) (LV A l h3 53 t) else fSig A (LV A l h3) w t)
    by_cases hww : ewi (tA A t) = w
    · rw [if_pos (show pl A 58 w = pl A 58 (ewi (tA A t)) by rw [hww]), if_pos ⟨hk, hww⟩, pj_or hl, fr 30 (by decide), hww, he l hl w hw, s53]
      rfl
    · rw [if_neg (fun z => hww (pl_inj hw hw0 rfl z).2.symm), if_neg (fun z => hww z.2), fr 30 (by decide), he l hl w hw, s53]
  · rw [if_neg hk]
    refine ⟨cu, fun l hl w hw => ?_⟩
    show _ = (if (tA A t).1 = 2 ∧ ewi (tA A t) = w then _ else fSig A (LV A l h3) w t)
    rw [if_neg (fun z => hk z.1), fr 30 (by decide), he l hl w hw, s53]
def lvs (t c : Nat) : List (Nat × Nat) := (List.range c).map (fun c => (57, 6 * t + c))
theorem lvs_s (t c : Nat) : lvs t (c + 1) = lvs t c ++ [(57, 6 * t + c)] := by unfold lvs; rw [List.range_succ, List.map_append]; rfl
theorem lvs_mem {t c i : Nat} (h : i < c) : (57, 6 * t + i) ∈ lvs t c := List.mem_map.mpr ⟨i, List.mem_range.mpr h, rfl⟩
theorem FL_57 {t c l : Nat} (hc : c < 6) {X : Va} : FL A se st l X 57 (6 * t + c) = fK A se l X t c := by
  show fK A se l X ((6 * t + c) / 6) ((6 * t + c) % 6) = _
  rw [show (6 * t + c) / 6 = t by omega, show (6 * t + c) % 6 = c by omega]
theorem FLok (hT : TF A) (hse : ∀ t, bco (se t)) : ∀ l, l < 16 → FOK (VW A) (FL A se st l) := fun _ _ => FW_ok hT hse
theorem cl_57 {t : Nat} {v : Int32} {c : Nat} (hT : TF A) (ht : t < A.length) (hc : c < 6) (e : ∀ l, l < 16 → pj l v = fK A se l (LV A l h) t c) : CU A (FL A se st) h (cPut h 27 (t * 6 + c) v) [(57, 6 * t + c)] := by
  have := CU_put (A := A) (Fs := FL A se st) (h := h) (p := 57) (j := 6 * t + c) (v := v) (Or.inr (Or.inl ⟨rfl, by omega⟩)) (fun l hl => by rw [FL_57 hc]; exact e l hl)
  rw [Nat.mul_comm t 6]
  exact this
theorem leave_ok (hT : TF A) (hse : ∀ t, bco (se t)) (hc : CSt A se h) {t : Nat} (ht : t < A.length) : CU A (FL A se st) h (cLeave h t) (lvs t 6) ∧ ∀ q, ¬ (q = 3 ∨ q = 27) → cLeave h t q = h q := by
  have hA := hT.1
  obtain ⟨k16, _, k18, k19, _⟩ := hc.2.1 t ht
  unfold cLeave
  rw [k16]
  by_cases hk : (tA A t).1 = 10
  · rw [if_pos hk]
    have one : ∀ a, (tA A t).2.2.2.1 = nI a → ¬ a = t := fun a ha => by
      rcases (tf_at hT ht).2.2.1 with z | ⟨b, h1, h2, h3, _⟩
      · rw [z] at ha
        intro q
        exact nI_nm1 (show a < 2 ^ 31 by omega) ha.symm
      · rw [h3] at ha
        intro q
        have := nI_inj (show b < 2 ^ 31 by omega) (show a < 2 ^ 31 by omega) ha
        omega
    have two : ∀ a, (tA A t).2.2.2.2.1 = nI a → ¬ a = t := fun a ha => by
      rcases (tf_at hT ht).2.2.2.1 with z | ⟨b, b', h1, h2, h3, _, h5, _⟩
      · rw [z] at ha
        intro q
        exact nI_nm1 (show a < 2 ^ 31 by omega) ha.symm
      · rw [h5] at ha
        intro q
        have := nI_inj (show b' < 2 ^ 31 by omega) (show a < 2 ^ 31 by omega) ha
        omega
    -- the ends of the two sides stay
    have edc : ∀ (x : Int32), chO A x → (∀ a, x = nI a → ¬ a = t) → ∀ (g : mvH), (∀ i, ¬ (6 * t ≤ i ∧ i < 6 * t + 6) → g 27 i = h 27 i) → ∀ l c, c < 6 → ed (LV A l g) x c = ed (LV A l h) x c := by
      intro x hx hne g hg l c hc6
      unfold ed
      rcases hx with rfl | ⟨a, ha, rfl⟩
      · rfl
      · rw [if_neg (nI_pos (by omega)), if_neg (nI_pos (by omega)), ix_nI (by omega)]
        show pj l (g 27 (6 * a + c)) = pj l (h 27 (6 * a + c))
        have := hne a rfl
        rw [hg _ (by omega)]
    have upc : ∀ (x y : Int32), chO A x → (∀ a, x = nI a → ¬ a = t) → ∀ (g : mvH), (∀ i, ¬ (6 * t ≤ i ∧ i < 6 * t + 6) → g 27 i = h 27 i) → ∀ l c, c ≤ 6 → upB se (LV A l g) x y c = upB se (LV A l h) x y c := by
      intro x y hx hne g hg l c
      induction c with
      | zero => intro _; rfl
      | succ c ih => intro hc6; unfold upB; rw [ih (by omega), edc x hx hne g hg l c (by omega)]
    have key : ∀ c, c ≤ 6 → CU A (FL A se st) h (cLp h t c).1 (lvs t c) ∧ (∀ q, ¬ (q = 3 ∨ q = 27) → (cLp h t c).1 q = h q) ∧ (∀ i, ¬ (6 * t ≤ i ∧ i < 6 * t + 6) → (cLp h t c).1 27 i = h 27 i) ∧ ∀ l, l < 16 → pj l (cLp h t c).2.1 = upB se (LV A l h) (tA A t).2.2.2.1 (tA A t).2.2.2.2.1 c ∧ pj l (cLp h t c).2.2 = upB se (LV A l h) (tA A t).2.2.2.2.1 (tA A t).2.2.2.1 c := by
      intro c
      induction c with
      | zero =>
        intro _
        refine ⟨CU_nil, fun _ _ => rfl, fun _ _ => rfl, fun l hl => ?_⟩
        show pj l (lAnd (lNot (cSel h (h 18 t))) (cSel h (h 19 t))) = pAnd (pNot (seO se _)) (seO se _) ∧ pj l (lAnd (lNot (cSel h (h 19 t))) (cSel h (h 18 t))) = pAnd (pNot (seO se _)) (seO se _)
        rw [k18, k19, pj_and hl, pj_and hl, pj_not hl, pj_not hl, pj_sel hA hc hl (tf_one hT ht), pj_sel hA hc hl (tf_two hT ht)]
        exact ⟨rfl, rfl⟩
      | succ c ih =>
        intro hc6
        obtain ⟨i1, i2, i3, i4⟩ := ih (by omega)
        have hcg : CSt A se (cLp h t c).1 := CSt_S hc i1.1 i1.2.1
        have pu : ∀ l, l < 16 → pj l (lOr (cLp h t c).2.1 (cEnd (cLp h t c).1 (h 18 t) (nI c))) = upB se (LV A l h) (tA A t).2.2.2.1 (tA A t).2.2.2.2.1 (c + 1) := by
          intro l hl
          rw [pj_or hl, (i4 l hl).1, k18, pj_end hA hl (tf_one hT ht) (by omega), edc _ (tf_one hT ht) one _ i3 l c (by omega)]
          rfl
        have pv : ∀ l, l < 16 → pj l (lOr (cLp h t c).2.2 (cEnd (cLp h t c).1 (h 19 t) (nI c))) = upB se (LV A l h) (tA A t).2.2.2.2.1 (tA A t).2.2.2.1 (c + 1) := by
          intro l hl
          rw [pj_or hl, (i4 l hl).2, k19, pj_end hA hl (tf_two hT ht) (by omega), edc _ (tf_two hT ht) two _ i3 l c (by omega)]
          rfl
        unfold cLp
        dsimp only
        refine ⟨?_, fun q hq => by rw [cPut_o (by omega) (by omega)]; exact i2 q hq, fun i hi => ?_, fun l hl => ⟨pu l hl, pv l hl⟩⟩
        · rw [lvs_s]
          refine CU_trans (FLok hT hse) i1 (cl_57 hT ht (by omega) (fun l hl => ?_))
          rw [pj_and hl, pj_and hl, pu l hl, pv l hl, pj_eith hT hcg hl ht (by omega)]
          unfold fK
          dsimp only
          rw [if_neg (by rw [hk]; decide), if_neg (by rw [hk]; decide), if_neg (by rw [hk]; decide), if_neg (by rw [hk]; decide), if_neg (by rw [hk]; decide), if_neg (by rw [hk]; decide), if_neg (by rw [hk]; decide), if_neg (by rw [hk]; decide), if_pos hk]
          rw [upc _ _ (tf_one hT ht) one _ i3 l (c + 1) (by omega), upc _ _ (tf_two hT ht) two _ i3 l (c + 1) (by omega)]
        · rw [cPut_at (by decide), if_neg (by omega)]
          exact i3 i hi
    exact ⟨(key 6 (Nat.le_refl _)).1, (key 6 (Nat.le_refl _)).2.1⟩
  · rw [if_neg hk]
    have key : ∀ c, c ≤ 6 → CU A (FL A se st) h (cLv h t c) (lvs t c) ∧ ∀ q, ¬ (q = 3 ∨ q = 27) → cLv h t c q = h q := by
      intro c
      induction c with
      | zero => intro _; exact ⟨CU_nil, fun _ _ => rfl⟩
      | succ c ih =>
        intro hc6
        obtain ⟨i1, i2⟩ := ih (by omega)
        have hcg : CSt A se (cLv h t c) := CSt_S hc i1.1 i1.2.1
        unfold cLv
        refine ⟨?_, fun q hq => by rw [cPut_o (by omega) (by omega)]; exact i2 q hq⟩
        rw [lvs_s]
        exact CU_trans (FLok hT hse) i1 (cl_57 hT ht (by omega) (fun l hl => pj_endOf hT hcg hl ht hk (by omega)))
    exact key 6 (Nat.le_refl _)
theorem steps_ok (hT : TF A) (hse : ∀ t, bco (se t)) {h0 : mvH} : ∀ (S : List Int32) (j t : Nat), (∀ i y, S[i]? = some y → h0 21 (j + i) = y) → StOK A.length S t A.length → CSt A se (cSteps h0 (b1I (!st)) j) → EM A t (cSteps h0 (b1I (!st)) j) → ∃ L, CU A (FL A se st) (cSteps h0 (b1I (!st)) j) (cSteps h0 (b1I (!st)) (j + S.length)) L ∧ EM A A.length (cSteps h0 (b1I (!st)) (j + S.length)) ∧ (∀ u q, t ≤ u → u < A.length → (q = 53 ∨ q = 54 ∨ q = 55) → (q, u) ∈ L) ∧ ∀ u c, u < A.length → c < 6 → nI u ^^^ (-1) ∈ S → (57, 6 * u + c) ∈ L := by
  have hA := hT.1
  intro S
  induction S with
  | nil =>
    intro j t hS hst hc he
    have hst : t = A.length := hst
    exact ⟨[], CU_nil, by rw [← hst]; exact he, fun u q h1 h2 => by omega, fun u c _ _ h3 => by cases h3⟩
  | cons y S ih =>
    intro j t hS hst hc he
    have hy : h0 21 j = y := hS 0 y rfl
    have h21 : (cSteps h0 (b1I (!st)) j) 21 j = y := by rw [(sS_steps j).1 21 (by decide)]; exact hy
    have hS' : ∀ i y, S[i]? = some y → h0 21 (j + 1 + i) = y := fun i y hi => by
      have := hS (i + 1) y hi
      rwa [show j + (i + 1) = j + 1 + i by omega] at this
    have e : j + (y :: S).length = j + 1 + S.length := by rw [List.length_cons]; omega
    rw [e]
    rcases hst with ⟨y1, y2, y3⟩ | ⟨⟨u, y1, y2⟩, y3⟩
    · have es : cSteps h0 (b1I (!st)) (j + 1) = cCome (cSteps h0 (b1I (!st)) j) t (b1I (!st)) := by
        show (if _ then _ else _) = _
        rw [h21, y1, if_neg (nI_pos (by omega)), ix_nI (by omega)]
      obtain ⟨c1, c2⟩ := come_ok (st := st) hT hc y2 he
      rw [← es] at c1 c2
      obtain ⟨L, l1, l2, l3, l4⟩ := ih (j + 1) (t + 1) hS' y3 (CSt_S hc c1.1 c1.2.1) c2
      refine ⟨_, CU_trans (FLok hT hse) c1 l1, l2, fun u q h1 h2 hq => ?_, fun u c h1 h2 h3 => ?_⟩
      · by_cases hut : u = t
        · rw [hut]
          refine List.mem_append_left _ ?_
          rcases hq with rfl | rfl | rfl <;> simp
        · exact List.mem_append_right _ (l3 u q (by omega) h2 hq)
      · rcases List.mem_cons.mp h3 with z | z
        · exact absurd (com_neg u (by omega)) (by rw [z, y1]; exact nI_pos (by omega))
        · exact List.mem_append_right _ (l4 u c h1 h2 z)
    · have es : cSteps h0 (b1I (!st)) (j + 1) = cLeave (cSteps h0 (b1I (!st)) j) u := by
        show (if _ then _ else _) = _
        rw [h21, y2, if_pos (com_neg u (by omega)), xor_xor, ix_nI (by omega)]
      obtain ⟨c1, c2⟩ := leave_ok (st := st) hT hse hc y1
      rw [← es] at c1 c2
      have he' : EM A t (cSteps h0 (b1I (!st)) (j + 1)) := fun l hl w hw => by
        rw [c2 30 (by decide), he l hl w hw]
        refine fSig_c w t (fun v _ => ?_)
        show pj l ((cSteps h0 (b1I (!st)) j) 23 v) = pj l ((cSteps h0 (b1I (!st)) (j + 1)) 23 v)
        rw [c2 23 (by decide)]
      obtain ⟨L, l1, l2, l3, l4⟩ := ih (j + 1) t hS' y3 (CSt_S hc c1.1 c1.2.1) he'
      refine ⟨_, CU_trans (FLok hT hse) c1 l1, l2, fun v q h1 h2 hq => List.mem_append_right _ (l3 v q h1 h2 hq), fun v c h1 h2 h3 => ?_⟩
      rcases List.mem_cons.mp h3 with z | z
      · have z2 : nI v = nI u := by rw [← xor_xor (nI v), z, y2, xor_xor]
        rw [nI_inj (by omega) (by omega) z2]
        exact List.mem_append_left _ (lvs_mem h2)
      · exact List.mem_append_right _ (l4 v c h1 h2 z)
theorem sgs_ok (hT : TF A) (hse : ∀ t, bco (se t)) (he : EM A A.length h) : ∀ j, j ≤ 4 + cntK 8 A → ∃ L, CU A (FL A se st) h (cSgs h j) L ∧ (∀ q, ¬ (q = 3 ∨ q = 29) → cSgs h j q = h q) ∧ ∀ w, VW A 58 w → pl A 58 w < 4 + j → (58, w) ∈ L := by
  intro j
  induction j with
  | zero => intro _; exact ⟨[], CU_nil, fun _ _ => rfl, fun w hw h4 => by have := (cl_ok hw).2 rfl; omega⟩
  | succ j ih =>
    intro hj
    obtain ⟨L, l1, l2, l3⟩ := ih (by omega)
    obtain ⟨w, hw, hpw⟩ : ∃ w, VW A 58 w ∧ pl A 58 w = 4 + j := by
      by_cases h4 : j < 4
      · exact ⟨j, Or.inr (Or.inr ⟨rfl, Or.inl h4⟩), by unfold pl; rw [if_pos rfl, if_pos h4]⟩
      · obtain ⟨o, o1, o2, o3⟩ := cnt_ex (A := A) (k := 8) (c := j - 4) (by omega)
        exact ⟨4 + o, Or.inr (Or.inr ⟨rfl, Or.inr ⟨o, o1, o2, rfl⟩⟩), by unfold pl; rw [if_pos rfl, if_neg (by omega), Nat.add_sub_cancel_left, o3]; omega⟩
    unfold cSgs
    have hp : CU A (FL A se st) (cSgs h j) (cPut (cSgs h j) 29 (4 + j) ((cSgs h j) 30 (4 + j))) [(58, w)] := by
      rw [← hpw]
      refine CU_put (p := 58) (j := w) hw (fun l hl => ?_)
      rw [l2 30 (by decide), he l hl w hw]
      show _ = fSig A (LV A l (cSgs h j)) w A.length
      refine fSig_c w _ (fun v _ => ?_)
      show pj l (h 23 v) = pj l ((cSgs h j) 23 v)
      rw [l2 23 (by decide)]
    refine ⟨_, CU_trans (FLok hT hse) l1 hp, fun q hq => by rw [cPut_o (by omega) (by omega)]; exact l2 q hq, fun w' hw' hp' => ?_⟩
    by_cases hww : pl A 58 w' = 4 + j
    · have := (pl_inj hw' hw rfl (by rw [hww, hpw])).2
      rw [this]; exact List.mem_append_right _ (by simp)
    · exact List.mem_append_left _ (l3 w' hw' (by omega))
theorem pl_lt (hA : A.length ≤ 120) {w : Nat} (hw : VW A 58 w) : pl A 58 w < 8 + cntK 8 A ∧ pl A 58 w < 128 := by
  have hle : cntK 8 A ≤ A.length := List.countP_le_length
  rcases hw with ⟨z | z | z, -⟩ | ⟨z, -⟩ | ⟨-, z⟩
  all_goals first | omega | skip
  unfold pl
  rw [if_pos rfl]
  rcases z with z | ⟨o, ho, hk, rfl⟩
  · rw [if_pos z]; omega
  · rw [if_neg (by omega), Nat.add_sub_cancel_left]
    have := cnt_all (A := A) ho hk
    omega
theorem sweep_ok (hT : TF A) (hse : ∀ t, bco (se t)) (hc : CSt A se h) {S : List Int32} (hS : ∀ i y, S[i]? = some y → h 21 i = y) (hst : StOK A.length S 0 A.length) (hcov : ∀ v, v < A.length → nI v ^^^ (-1) ∈ S) : ∃ L, CU A (FL A se st) h (cSweep h (b1I (!st)) S.length (8 + cntK 8 A)) L ∧ ∀ q j, VW A q j → (q, j) ∈ L := by
  have hA := hT.1
  unfold cSweep
  have h30 : ∀ q, ¬ q = 30 → (hfill h 30 128 (-65536)) q = h q := fun q hq => by simp [hfill, hq]
  have c0 : CU A (FL A se st) h (hfill h 30 128 (-65536)) [] := CU_30 CU_nil h30
  have hc0 : CSt A se (hfill h 30 128 (-65536)) := CSt_S hc c0.1 c0.2.1
  have he0 : EM A 0 (hfill h 30 128 (-65536)) := fun l hl w hw => by
    have : (hfill h 30 128 (-65536)) 30 (pl A 58 w) = -65536 := by
      simp only [hfill, if_true]
      rw [if_pos (pl_lt hA hw).2]
    rw [this]
    exact pj_Z hl
  obtain ⟨L, l1, l2, l3, l4⟩ := steps_ok (st := st) (h0 := hfill h 30 128 (-65536)) hT hse S 0 0 (fun i y hi => by rw [h30 21 (by decide), Nat.zero_add]; exact hS i y hi) hst hc0 he0
  rw [Nat.zero_add] at l1 l2
  obtain ⟨L2, m1, m2, m3⟩ := sgs_ok (st := st) hT hse l2 (4 + cntK 8 A) (Nat.le_refl _)
  rw [show 8 + cntK 8 A - 4 = 4 + cntK 8 A by omega]
  refine ⟨_, CU_trans (FLok hT hse) c0 (CU_trans (FLok hT hse) l1 m1), fun q j hv => ?_⟩
  rw [List.nil_append]
  rcases hv with ⟨z, z2⟩ | ⟨z, z2⟩ | z
  · exact List.mem_append_left _ (l3 j q (by omega) z2 z)
  · rw [z]
    have := l4 (j / 6) (j % 6) (by omega) (by omega) (hcov _ (by omega))
    rw [show 6 * (j / 6) + j % 6 = j by omega] at this
    exact List.mem_append_left _ this
  · have hw : VW A 58 j := Or.inr (Or.inr ⟨rfl, z.2⟩)
    rw [z.1]
    exact List.mem_append_right _ (m3 j hw (by have := (pl_lt hA hw).1; omega))
theorem it_ok (hT : TF A) (hse : ∀ t, bco (se t)) {S : List Int32} (hst : StOK A.length S 0 A.length) (hcov : ∀ v, v < A.length → nI v ^^^ (-1) ∈ S) : ∀ k m (h : mvH) (Xs : Nat → Nat → Va), m + k = 2000 → CSt A se h → (∀ i y, S[i]? = some y → h 21 i = y) → (∀ l, l < 16 → swq (VW A) (FL A se st l) (Xs l) m) → (∀ l, l < 16 → eqV (VW A) (Xs l m) (LV A l h)) → (h 3 19 = 0 → ∀ l, l < 16 → LFP (VW A) (FL A se st l) (LV A l h)) → (∀ l, l < 16 → LFP (VW A) (FL A se st l) (LV A l (cIt (b1I (!st)) S.length (8 + cntK 8 A) k h))) ∧ CSt A se (cIt (b1I (!st)) S.length (8 + cntK 8 A) k h) := by
  have hA := hT.1
  have hF := FLok (st := st) hT hse
  intro k
  induction k with
  | zero =>
    intro m h Xs hm hc hS hsw hX hz
    refine ⟨fun l hl => ?_, hc⟩
    have hm : m = 2000 := by omega
    subst hm
    exact LFP_congr (hF l hl) (hX l hl) (seq_end (hF l hl) (hsw l hl) VLs_ok (Nat.lt_of_le_of_lt (VLs_len hA) (by decide)))
  | succ k ih =>
    intro m h Xs hm hc hS hsw hX hz
    unfold cIt
    by_cases h0 : h 3 19 = 0
    · rw [if_pos h0]; exact ⟨hz h0, hc⟩
    · rw [if_neg h0]
      have s0 : sameS h (hset h 3 19 0) := sameS.ch
      have i0 : ∀ i, i < 4 → (hset h 3 19 0) 29 i = h 29 i := fun i _ => by rw [hset_other (by decide)]
      have e0 : ∀ l, eqV (VW A) (LV A l (hset h 3 19 0)) (LV A l h) := fun l q j hq => by
        show pj l _ = pj l _
        rw [hset_other (by have := (cl_ok hq).1; omega)]
      have hc0 := CSt_S hc s0 i0
      have hS0 : ∀ i y, S[i]? = some y → (hset h 3 19 0) 21 i = y := fun i y hi => by rw [hset_other (by decide)]; exact hS i y hi
      generalize hset h 3 19 0 = g at *
      obtain ⟨L, l1, l2⟩ := sweep_ok (st := st) hT hse hc0 hS0 hst hcov
      generalize cSweep g (b1I (!st)) S.length (8 + cntK 8 A) = g1 at *
      have hX' : ∀ l n, (fun n => if n ≤ m then Xs l n else LV A l g1) n = if n ≤ m then Xs l n else LV A l g1 := fun _ _ => rfl
      have hsw' : ∀ l, l < 16 → swq (VW A) (FL A se st l) (fun n => if n ≤ m then Xs l n else LV A l g1) (m + 1) := by
        intro l hl
        refine ⟨fun q j hq => ?_, fun n hn => ?_⟩
        · show (if 0 ≤ m then Xs l 0 else LV A l g1) q j = _
          rw [if_pos (by omega)]; exact (hsw l hl).1 q j hq
        · by_cases hnm : n < m
          · obtain ⟨l0, b1, b2, b3⟩ := (hsw l hl).2 n hnm
            refine ⟨l0, b1, b2, ?_⟩
            show eqV _ (if n + 1 ≤ m then Xs l (n + 1) else LV A l g1) (runU _ l0 (if n ≤ m then Xs l n else LV A l g1))
            rw [if_pos (by omega), if_pos (by omega)]; exact b3
          · have hnm : n = m := by omega
            subst hnm
            refine ⟨L, l1.2.2.1, l2, ?_⟩
            show eqV _ (if n + 1 ≤ n then Xs l (n + 1) else LV A l g1) (runU _ L (if n ≤ n then Xs l n else LV A l g1))
            rw [if_neg (by omega), if_pos (Nat.le_refl _)]
            exact eqV_trans (l1.2.2.2.1 l hl) (runU_congr (hF l hl) _ _ _ l1.2.2.1 (eqV_trans (e0 l) (eqV_symm (hX l hl))))
      refine ih (m + 1) g1 (fun l n => if n ≤ m then Xs l n else LV A l g1) (by omega) (CSt_S hc0 l1.1 l1.2.1) (fun i y hi => by rw [l1.1.1 21 (by decide)]; exact hS0 i y hi) hsw' (fun l hl => ?_) (fun z l hl => ?_)
      · show eqV _ (if m + 1 ≤ m then Xs l (m + 1) else LV A l g1) _
        rw [if_neg (by omega)]; exact fun _ _ _ => rfl
      · have e1 := (l1.2.2.2.2 z).2 l hl
        have hst := seq_stop (hF l hl) (hsw' l hl) (k := m) (by omega) (by
          show eqV _ (if m + 1 ≤ m then Xs l (m + 1) else LV A l g1) (if m ≤ m then Xs l m else LV A l g1)
          rw [if_neg (by omega), if_pos (Nat.le_refl _)]
          exact eqV_trans e1 (eqV_trans (e0 l) (eqV_symm (hX l hl))))
        have hst : LFP (VW A) (FL A se st l) (if m ≤ m then Xs l m else LV A l g1) := hst
        rw [if_pos (Nat.le_refl _)] at hst
        exact LFP_congr (hF l hl) (eqV_trans (hX l hl) (eqV_trans (eqV_symm (e0 l)) (eqV_symm e1))) hst
end CN
