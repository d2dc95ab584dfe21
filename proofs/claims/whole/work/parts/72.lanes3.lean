/-! THE CLASS's sweep, lane by lane -/
def StOK (n : Nat) : List Int32 → Nat → Nat → Prop
  | [], t, t' => t = t'
  | y :: L, t, t' => (y = nI t ∧ t < n ∧ StOK n L (t + 1) t') ∨ ((∃ u, u < n ∧ y = nI u ^^^ (-1)) ∧ StOK n L t t')
theorem StOK_app {n : Nat} : ∀ (L L' : List Int32) (t t1 t2 : Nat), StOK n L t t1 → StOK n L' t1 t2 → StOK n (L ++ L') t t2 := by
  intro L
  induction L with
  | nil => intro L' t t1 t2 h1 h2; rw [List.nil_append]; rw [show t = t1 from h1]; exact h2
  | cons y L ih =>
    intro L' t t1 t2 h1 h2
    rcases h1 with ⟨a, b, c⟩ | ⟨a, c⟩
    · exact Or.inl ⟨a, b, ih L' _ _ _ c h2⟩
    · exact Or.inr ⟨a, ih L' _ _ _ c h2⟩
theorem st_ok (N : List Nd) : ∀ f i t (u : Int32) E n, t + (layT N f i u t E).length ≤ n → StOK n (stT N f i t) t (t + (layT N f i u t E).length) ∧ ∀ v, t ≤ v → v < t + (layT N f i u t E).length → nI v ^^^ (-1) ∈ stT N f i t := by
  intro f
  induction f with
  | zero => intro i t u E n _; exact ⟨rfl, fun v h1 h2 => by simp [layT] at h2; omega⟩
  | succ f ih =>
    intro i t u E n hn
    unfold layT at hn ⊢
    unfold stT
    dsimp only at hn ⊢
    generalize nd N i = x at *
    have e1 : (if x.2.2.1 < 0 then ([] : List Int32) else stT N f (ix x.2.2.1) (t + 1)).length = 2 * (if x.2.2.1 < 0 then ([] : List Th) else layT N f (ix x.2.2.1) (nI t) (t + 1) (lyE x t E)).length := by
      split
      · rfl
      · exact stT_len N f _ _ _ _
    rw [e1, Nat.mul_div_cancel_left _ (by decide : 0 < 2)]
    have sub : ∀ (y : Int32) t', t' + (if y < 0 then ([] : List Th) else layT N f (ix y) (nI t) t' (lyE x t E)).length ≤ n → StOK n (if y < 0 then ([] : List Int32) else stT N f (ix y) t') t' (t' + (if y < 0 then ([] : List Th) else layT N f (ix y) (nI t) t' (lyE x t E)).length) ∧ ∀ v, t' ≤ v → v < t' + (if y < 0 then ([] : List Th) else layT N f (ix y) (nI t) t' (lyE x t E)).length → nI v ^^^ (-1) ∈ (if y < 0 then ([] : List Int32) else stT N f (ix y) t') := by
      intro y t' h
      by_cases hy : y < 0
      · rw [if_pos hy, if_pos hy]; exact ⟨rfl, fun v h1 h2 => by simp at h2; omega⟩
      · rw [if_neg hy] at h ⊢
        rw [if_neg hy]
        exact ih _ _ _ _ _ h
    generalize hX : (if x.2.2.1 < 0 then ([] : List Th) else layT N f (ix x.2.2.1) (nI t) (t + 1) (lyE x t E)) = X at *
    simp only [List.length_cons, List.length_append] at hn ⊢
    have s1 := sub x.2.2.1 (t + 1) (by rw [hX]; omega)
    rw [hX] at s1
    have s2 := sub (lySec x) (t + 1 + X.length) (by omega)
    generalize (if lySec x < 0 then ([] : List Th) else layT N f (ix (lySec x)) (nI t) (t + 1 + X.length) (lyE x t E)) = Y at *
    generalize (if x.2.2.1 < 0 then ([] : List Int32) else stT N f (ix x.2.2.1) (t + 1)) = SX at *
    generalize (if lySec x < 0 then ([] : List Int32) else stT N f (ix (lySec x)) (t + 1 + X.length)) = SY at *
    have e : t + (X.length + Y.length + 1) = t + 1 + X.length + Y.length := by omega
    rw [e]
    refine ⟨Or.inl ⟨rfl, by omega, StOK_app _ _ _ _ _ s1.1 (StOK_app _ _ _ _ _ s2.1 (Or.inr ⟨⟨t, by omega, rfl⟩, rfl⟩))⟩, fun v h1 h2 => ?_⟩
    rcases Nat.eq_or_lt_of_le h1 with z | z
    · rw [← z]; simp
    · rcases Nat.lt_or_ge v (t + 1 + X.length) with w | w
      · exact List.mem_cons_of_mem _ (List.mem_append_left _ (s1.2 v (by omega) w))
      · exact List.mem_cons_of_mem _ (List.mem_append_right _ (List.mem_append_left _ (s2.2 v w (by omega))))
theorem cnt_take_s {A : List Th} (k : Int32) {t : Nat} (ht : t < A.length) : cntK k (A.take (t + 1)) = cntK k (A.take t) + if (tA A t).1 = k then 1 else 0 := by
  have h2 : A.take (t + 1) = A.take t ++ [tA A t] := by rw [List.take_add_one, tA_some ht]; rfl
  rw [h2, cntK_app, cntK_cons]
  rfl
theorem cnt_ex {A : List Th} {k : Int32} {c : Nat} (h : c < cntK k A) : ∃ o, o < A.length ∧ (tA A o).1 = k ∧ cntK k (A.take o) = c := by
  have key : ∀ n, n ≤ A.length → c < cntK k (A.take n) → ∃ o, o < A.length ∧ (tA A o).1 = k ∧ cntK k (A.take o) = c := by
    intro n
    induction n with
    | zero => intro _ hc; simp [cntK] at hc
    | succ n ih =>
      intro hn hc
      rw [cnt_take_s k (by omega)] at hc
      by_cases hk : (tA A n).1 = k
      · rw [if_pos hk] at hc
        by_cases hcn : c < cntK k (A.take n)
        · exact ih (by omega) hcn
        · exact ⟨n, by omega, hk, by omega⟩
      · rw [if_neg hk] at hc
        exact ih (by omega) (by omega)
  exact key A.length (Nat.le_refl _) (by rw [List.take_length]; exact h)
theorem cnt_all {A : List Th} {k : Int32} {t : Nat} (ht : t < A.length) (hk : (tA A t).1 = k) : cntK k (A.take t) < cntK k A := by
  have h1 := cnt_take_s k ht
  rw [if_pos hk] at h1
  have h2 : cntK k A = cntK k (A.take (t + 1)) + cntK k (A.drop (t + 1)) := by rw [← cntK_app, List.take_append_drop]
  omega
theorem cPut_o {h : mvH} {q j : Nat} {v : Int32} {q' : Nat} (h1 : q' ≠ q) (h2 : q' ≠ 3) : cPut h q j v q' = h q' := by
  unfold cPut
  split
  · rfl
  · rw [hset_other h2, hset_other h1]
theorem cPut_at {h : mvH} {q j : Nat} {v : Int32} (h2 : q ≠ 3) (i : Nat) : cPut h q j v q i = if i = j then v else h q i := by
  unfold cPut
  by_cases e : h q j = v
  · rw [if_pos e]
    split
    · rename_i z; rw [z, e]
    · rfl
  · rw [if_neg e, hset_other h2, hset_at]
section CM
variable {A : List Th} {se : Nat → B2} {h h' : mvH} {st : Bool}
def EM (A : List Th) (t : Nat) (h : mvH) : Prop := ∀ l, l < 16 → ∀ w, VW A 58 w → pj l (h 30 (pl A 58 w)) = fSig A (LV A l h) w t
def FL (A : List Th) (se : Nat → B2) (st : Bool) : Nat → Va → Va := fun l => FW A se l st
theorem fSig_c {X Y : Va} (w : Nat) : ∀ t, (∀ u, u < t → X 53 u = Y 53 u) → fSig A X w t = fSig A Y w t := by
  intro t
  induction t with
  | zero => intro _; rfl
  | succ t ih =>
    intro h
    unfold fSig
    rw [ih (fun u hu => h u (by omega)), h t (by omega)]
theorem CU_30 {Fs : Nat → Va → Va} {L : List (Nat × Nat)} {h3 h4 : mvH} (a : CU A Fs h h3 L) (e : ∀ q, ¬ q = 30 → h4 q = h3 q) : CU A Fs h h4 L := by
  obtain ⟨a1, a2, a3, a4, a5⟩ := a
  have eL : ∀ l, eqV (VW A) (LV A l h4) (LV A l h3) := fun l q j hq => by
    show pj l _ = pj l _
    rw [e _ (by have := (cl_ok hq).1; omega)]
  refine ⟨⟨fun q hq => by rw [e q (by omega)]; exact a1.1 q hq, fun j hj => by rw [e 3 (by decide)]; exact a1.2 j hj⟩, fun i hi => by rw [e 29 (by decide)]; exact a2 i hi, a3, fun l hl => eqV_trans (eL l) (a4 l hl), fun z => ?_⟩
  rw [e 3 (by decide)] at z
  exact ⟨(a5 z).1, fun l hl => eqV_trans (eL l) ((a5 z).2 l hl)⟩
set_option maxHeartbeats 4000000 in
theorem come_v (hT : TF A) (hc : CSt A se h) {t : Nat} (ht : t < A.length) : ∃ h3, CU A (FL A se st) h h3 [(53, t), (54, t), (55, t)] ∧ (∀ q, ¬ (q = 3 ∨ q = 23 ∨ q = 24 ∨ q = 25) → h3 q = h q) ∧ (∀ u, ¬ u = t → h3 23 u = h 23 u) ∧ cCome h t (b1I (!st)) = if h3 16 t = 2 then cEmit h3 (h3 20 t) (h3 23 t) else h3 := by
  have hA := hT.1
  obtain ⟨k16, k17, k18, k19, k20⟩ := hc.2.1 t ht
  have v3' : ∀ q, (q = 53 ∨ q = 54 ∨ q = 55) → VW A q t := fun q hq => vw3 hq ht
  have fr : ∀ (v1 v2 v3 : Int32) (h1 h2 h3 : mvH), h1 = cPut h 23 t v1 → h2 = cPut h1 24 t v2 → h3 = cPut h2 25 t v3 → (∀ q, ¬ (q = 3 ∨ q = 23 ∨ q = 24 ∨ q = 25) → h3 q = h q) ∧ (∀ u, ¬ u = t → h3 23 u = h 23 u) := by
    intro v1 v2 v3 h1 h2 h3 e1 e2 e3
    refine ⟨fun q hq => ?_, fun u hu => ?_⟩
    · rw [e3, cPut_o (by omega) (by omega), e2, cPut_o (by omega) (by omega), e1, cPut_o (by omega) (by omega)]
    · rw [e3, cPut_o (by decide) (by decide), e2, cPut_o (by decide) (by decide), e1, cPut_at (by decide), if_neg hu]
  have cu : ∀ (v1 v2 v3 : Int32) (h1 h2 h3 : mvH), h1 = cPut h 23 t v1 → h2 = cPut h1 24 t v2 → h3 = cPut h2 25 t v3 → (∀ l, l < 16 → pj l v1 = fGo A l st (LV A l h) t) → (∀ l, l < 16 → pj l v2 = fRes A se l st (LV A l h1) t) → (∀ l, l < 16 → pj l v3 = fSus A se l (LV A l h2) t) → CU A (FL A se st) h h3 [(53, t), (54, t), (55, t)] := by
    intro v1 v2 v3 h1 h2 h3 e1 e2 e3 p1 p2 p3
    have c1 : CU A (FL A se st) h h1 [(53, t)] := by rw [e1]; exact CU_put (p := 53) (v3' 53 (by decide)) p1
    have c2 : CU A (FL A se st) h1 h2 [(54, t)] := by rw [e2]; exact CU_put (p := 54) (v3' 54 (by decide)) p2
    have c3 : CU A (FL A se st) h2 h3 [(55, t)] := by rw [e3]; exact CU_put (p := 55) (v3' 55 (by decide)) p3
    have hv : ∀ v, v ∈ [(53, t), (54, t), (55, t)] → VW A v.1 v.2 := by
      intro v hv
      simp only [List.mem_cons, List.mem_nil_iff, or_false] at hv
      rcases hv with rfl | rfl | rfl
      · exact v3' 53 (by decide)
      · exact v3' 54 (by decide)
      · exact v3' 55 (by decide)
    obtain ⟨a1, a2, a3, a4, a5⟩ := c1
    obtain ⟨b1, b2, b3, b4, b5⟩ := c2
    obtain ⟨d1, d2, d3, d4, d5⟩ := c3
    refine ⟨(a1.trans b1).trans d1, fun i hi => by rw [d2 i hi, b2 i hi, a2 i hi], hv, fun l hl => ?_, fun z => ?_⟩
    · -- the three puts are three steps
      have L1 : LV A l h1 = vset (LV A l h) 53 t (fGo A l st (LV A l h) t) ∨ True := Or.inr trivial
      show eqV (VW A) (LV A l h3) (runU _ [(54, t), (55, t)] (vset (LV A l h) 53 t (FL A se st l (LV A l h) 53 t)))
      have g1 : eqV (VW A) (LV A l h1) (vset (LV A l h) 53 t (FL A se st l (LV A l h) 53 t)) := a4 l hl
      have g2 : eqV (VW A) (LV A l h2) (vset (LV A l h1) 54 t (FL A se st l (LV A l h1) 54 t)) := b4 l hl
      have g3 : eqV (VW A) (LV A l h3) (vset (LV A l h2) 55 t (FL A se st l (LV A l h2) 55 t)) := d4 l hl
      have vc : ∀ (X Y : Va) (q j : Nat) (v : B2), eqV (VW A) X Y → eqV (VW A) (vset X q j v) (vset Y q j v) := by
        intro X Y q j v hxy q' j' hq'
        unfold vset
        split
        · rfl
        · exact hxy q' j' hq'
      have hFl : ∀ X Y, eqV (VW A) X Y → eqV (VW A) (FL A se st l X) (FL A se st l Y) := fun X Y hxy => leV_anti (FW_le hT (eqV_le hxy)) (FW_le hT (eqV_le (eqV_symm hxy)))
      show eqV (VW A) (LV A l h3) (vset (vset (vset (LV A l h) 53 t (FL A se st l (LV A l h) 53 t)) 54 t (FL A se st l (vset (LV A l h) 53 t (FL A se st l (LV A l h) 53 t)) 54 t)) 55 t (FL A se st l (vset (vset (LV A l h) 53 t (FL A se st l (LV A l h) 53 t)) 54 t (FL A se st l (vset (LV A l h) 53 t (FL A se st l (LV A l h) 53 t)) 54 t)) 55 t))
      have g2' : eqV (VW A) (LV A l h2) (vset (vset (LV A l h) 53 t (FL A se st l (LV A l h) 53 t)) 54 t (FL A se st l (vset (LV A l h) 53 t (FL A se st l (LV A l h) 53 t)) 54 t)) := by
        rw [← hFl _ _ g1 54 t (v3' 54 (by decide))]
        exact eqV_trans g2 (vc _ _ _ _ _ g1)
      rw [← hFl _ _ g2' 55 t (v3' 55 (by decide))]
      exact eqV_trans g3 (vc _ _ _ _ _ g2')
    · obtain ⟨z1, z2⟩ := d5 z
      obtain ⟨y1, y2⟩ := b5 z1
      obtain ⟨x1, x2⟩ := a5 y1
      exact ⟨x1, fun l hl => eqV_trans (z2 l hl) (eqV_trans (y2 l hl) (x2 l hl))⟩
  by_cases hu : (tA A t).2.2.1 = -1
  · have e0 : h 17 t = -1 := by rw [k17]; exact hu
    refine ⟨cPut (cPut (cPut h 23 t (if b1I (!st) = 0 then 65535 else -65536)) 24 t (if b1I (!st) = 0 then -65536 else 65535)) 25 t (-65536), cu _ _ _ _ _ _ rfl rfl rfl ?_ ?_ ?_, (fr _ _ _ _ _ _ rfl rfl rfl).1, (fr _ _ _ _ _ _ rfl rfl rfl).2, ?_⟩
    · intro l hl
      unfold fGo
      rw [if_pos hu]
      cases st
      · exact pj_Z hl
      · exact pj_O hl
    · intro l hl
      unfold fRes
      rw [if_pos hu]
      cases st
      · exact pj_O hl
      · exact pj_Z hl
    · intro l hl
      unfold fSus
      rw [if_pos hu]
      exact pj_Z hl
    · unfold cCome
      dsimp only
      rw [if_pos e0]
  · obtain ⟨p, hp, e, ei⟩ := tf_up hT ht hu
    have hpN : p < A.length := by omega
    have hpt : ¬ p = t := by omega
    have e0 : h 17 t = nI p := by rw [k17]; exact e
    obtain ⟨j16, j17, j18, j19, j20⟩ := hc.2.1 p hpN
    refine ⟨_, cu (cGo h (h 17 t) (if h 18 (ix (h 17 t)) = nI t then 1 else 0)) (cRes (cPut h 23 t (cGo h (h 17 t) (if h 18 (ix (h 17 t)) = nI t then 1 else 0))) (h 17 t)) (cSusp (cPut (cPut h 23 t (cGo h (h 17 t) (if h 18 (ix (h 17 t)) = nI t then 1 else 0))) 24 t (cRes (cPut h 23 t (cGo h (h 17 t) (if h 18 (ix (h 17 t)) = nI t then 1 else 0))) (h 17 t))) (h 17 t)) _ _ _ rfl rfl rfl ?_ ?_ ?_, (fr _ _ _ _ _ _ rfl rfl rfl).1, (fr _ _ _ _ _ _ rfl rfl rfl).2, ?_⟩
    · intro l hl
      unfold fGo cGo
      rw [if_neg hu]
      dsimp only
      rw [ei, e0, ix_nI (by omega), j16, j18, j19]
      have ef : ((if (tA A p).2.2.2.1 = nI t then (1 : Int32) else 0) = 0) ↔ ¬ (tA A p).2.2.2.1 = nI t := by
        by_cases z : (tA A p).2.2.2.1 = nI t
        · rw [if_pos z]; exact ⟨fun q => absurd q (by decide), fun q => absurd z q⟩
        · rw [if_neg z]; exact ⟨fun _ => z, fun _ => rfl⟩
      have a1 := pj_end (h := h) hA hl (tf_one hT hpN) (c := 0) (by decide)
      have a2 := pj_end (h := h) hA hl (tf_two hT hpN) (c := 0) (by decide)
      rw [show nI 0 = 0 from rfl] at a1 a2
      by_cases q4 : (tA A p).1 = 4
      · rw [if_pos q4, if_pos q4, pj_and hl]
        have a3 := pj_sig hT hc hl hpN (Or.inl q4)
        by_cases z : (tA A p).2.2.2.1 = nI t
        · rw [if_pos z, if_neg (show ¬ (1 : Int32) = 0 by decide), if_pos z, a3]; rfl
        · rw [if_neg z, if_pos (show (0 : Int32) = 0 from rfl), if_neg z, pj_not hl, a3]; rfl
      · rw [if_neg q4, if_neg q4]
        by_cases q6 : (tA A p).1 = 6
        · rw [if_pos q6, if_pos q6]
          by_cases z : (tA A p).2.2.2.1 = nI t
          · rw [if_pos z, if_neg (show ¬ (1 : Int32) = 0 by decide), if_pos z, pj_or hl, a2]; rfl
          · rw [if_neg z, if_pos (show (0 : Int32) = 0 from rfl), if_neg z, a1]
        · rw [if_neg q6, if_neg q6]
          by_cases q9 : (tA A p).1 = 9
          · rw [if_pos q9, if_pos q9]
            by_cases z : (tA A p).2.2.2.1 = nI t
            · rw [if_pos z, if_neg (show ¬ (1 : Int32) = 0 by decide), if_pos z]; rfl
            · rw [if_neg z, if_pos (show (0 : Int32) = 0 from rfl), if_neg z, a1]
          · rw [if_neg q9, if_neg q9]; rfl
    · intro l hl
      generalize hg : cPut h 23 t (cGo h (h 17 t) (if h 18 (ix (h 17 t)) = nI t then 1 else 0)) = g
      have hcg : CSt A se g := CSt_S hc (by rw [← hg]; exact sS_put (by decide)) (fun i hi => by rw [← hg, cPut_o (by decide) (by decide)])
      obtain ⟨g16, _⟩ := hcg.2.1 p hpN
      unfold fRes cRes
      rw [if_neg hu]
      dsimp only
      rw [ei, e0, ix_nI (by omega), g16]
      by_cases q5 : (tA A p).1 = 5
      · rw [if_pos q5, if_pos q5, pj_and hl, pj_and hl, pj_not hl, pj_sig hT hcg hl hpN (Or.inr q5), hcg.2.2.1 l hl p hpN]; rfl
      · rw [if_neg q5, if_neg q5]; rfl
    · intro l hl
      generalize hg : cPut (cPut h 23 t (cGo h (h 17 t) (if h 18 (ix (h 17 t)) = nI t then 1 else 0))) 24 t (cRes (cPut h 23 t (cGo h (h 17 t) (if h 18 (ix (h 17 t)) = nI t then 1 else 0))) (h 17 t)) = g
      have hcg : CSt A se g := CSt_S hc (by rw [← hg]; exact (sS_put (by decide)).trans (sS_put (by decide))) (fun i hi => by rw [← hg, cPut_o (by decide) (by decide), cPut_o (by decide) (by decide)])
      obtain ⟨g16, _⟩ := hcg.2.1 p hpN
      unfold fSus cSusp
      rw [if_neg hu]
      dsimp only
      rw [ei, e0, ix_nI (by omega), g16]
      by_cases q5 : (tA A p).1 = 5
      · rw [if_pos q5, if_pos q5, pj_or hl, pj_held hT hcg hl hpN (Or.inr q5)]; rfl
      · rw [if_neg q5, if_neg q5]; rfl
    · unfold cCome
      dsimp only
      have hn : ¬ h 17 t = -1 := by rw [e0]; exact nI_nm1 (show p < 2 ^ 31 by omega)
      simp only [if_neg hn]
end CM
