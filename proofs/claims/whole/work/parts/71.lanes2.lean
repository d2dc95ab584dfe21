/-! THE CLASS's wires, lane by lane: each put is a step of the equations -/
def cl (p : Nat) : Nat := if p = 53 then 23 else if p = 54 then 24 else if p = 55 then 25 else if p = 57 then 27 else 29
def pl (A : List Th) (p j : Nat) : Nat := if p = 58 then (if j < 4 then 4 + j else 8 + cntK 8 (A.take (j - 4))) else j
def LV (A : List Th) (l : Nat) (h : mvH) : Va := fun p j => pj l (h (cl p) (pl A p j))
/-- what a sweep finds: the program, what is selected, the inputs -/
def CSt (A : List Th) (se : Nat → B2) (h : mvH) : Prop := h 3 7 = nI A.length ∧ (∀ t, t < A.length → h 16 t = (tA A t).1 ∧ h 17 t = (tA A t).2.2.1 ∧ h 18 t = (tA A t).2.2.2.1 ∧ h 19 t = (tA A t).2.2.2.2.1 ∧ h 20 t = mkC (pgW A) 0 8 A t (tA A t)) ∧ (∀ l, l < 16 → ∀ t, t < A.length → pj l (h 26 t) = se t) ∧ ∀ l, l < 16 → ∀ i, i < 4 → pj l (h 29 i) = inB l i
def CU (A : List Th) (Fs : Nat → Va → Va) (h h' : mvH) (L : List (Nat × Nat)) : Prop := sameS h h' ∧ (∀ i, i < 4 → h' 29 i = h 29 i) ∧ (∀ v, v ∈ L → VW A v.1 v.2) ∧ (∀ l, l < 16 → eqV (VW A) (LV A l h') (runU (Fs l) L (LV A l h))) ∧ (h' 3 19 = 0 → h 3 19 = 0 ∧ ∀ l, l < 16 → eqV (VW A) (LV A l h') (LV A l h))
section CL
variable {A : List Th} {se : Nat → B2} {h h' : mvH} {st : Bool} {Fs : Nat → Va → Va}
theorem CSt_S (hc : CSt A se h) (hs : sameS h h') (hi : ∀ i, i < 4 → h' 29 i = h 29 i) : CSt A se h' := by
  obtain ⟨c1, c2, c3, c4⟩ := hc
  refine ⟨by rw [hs.2 7 (by decide)]; exact c1, fun t ht => ?_, by rw [hs.1 26 (by decide)]; exact c3, fun l hl i hi4 => by rw [hi i hi4]; exact c4 l hl i hi4⟩
  rw [hs.1 16 (by decide), hs.1 17 (by decide), hs.1 18 (by decide), hs.1 19 (by decide), hs.1 20 (by decide)]
  exact c2 t ht
theorem CU_nil : CU A Fs h h [] := ⟨sameS.rfl, fun _ _ => rfl, fun _ z => (by cases z), fun _ _ _ _ _ => rfl, fun z => ⟨z, fun _ _ _ _ _ => rfl⟩⟩
theorem CU_trans (hF : ∀ l, l < 16 → FOK (VW A) (Fs l)) {h1 h2 : mvH} {L L' : List (Nat × Nat)} (a : CU A Fs h h1 L) (b : CU A Fs h1 h2 L') : CU A Fs h h2 (L ++ L') := by
  obtain ⟨a1, a2, a3, a4, a5⟩ := a
  obtain ⟨b1, b2, b3, b4, b5⟩ := b
  refine ⟨a1.trans b1, fun i hi => (b2 i hi).trans (a2 i hi), fun v hv => (List.mem_append.mp hv).elim (a3 v) (b3 v), fun l hl => ?_, fun z => ?_⟩
  · rw [runU_app]
    exact eqV_trans (b4 l hl) (runU_congr (hF l hl) L' _ _ b3 (a4 l hl))
  · obtain ⟨z1, z2⟩ := b5 z
    obtain ⟨y1, y2⟩ := a5 z1
    exact ⟨y1, fun l hl => eqV_trans (z2 l hl) (y2 l hl)⟩
theorem pl_inj {p j p' j' : Nat} (hv : VW A p j) (hv' : VW A p' j') (h1 : cl p = cl p') (h2 : pl A p j = pl A p' j') : p = p' ∧ j = j' := by
  have key : ∀ o o', o < A.length → o' < A.length → (tA A o).1 = 8 → (tA A o').1 = 8 → cntK 8 (A.take o) = cntK 8 (A.take o') → o = o' := by
    intro o o' ho ho' hk hk' he
    rcases Nat.lt_trichotomy o o' with z | z | z
    · have := cnt_take_lt (A := A) 8 z ho hk; omega
    · exact z
    · have := cnt_take_lt (A := A) 8 z ho' hk'; omega
  unfold cl at h1
  unfold pl at h2
  rcases hv with ⟨z | z | z, hj⟩ | ⟨z, hj⟩ | ⟨z, hj⟩ <;> rcases hv' with ⟨z' | z' | z', hj'⟩ | ⟨z', hj'⟩ | ⟨z', hj'⟩ <;> subst z <;> subst z' <;> first | (simp at h1; done) | skip
  all_goals first | (exact ⟨rfl, by simpa using h2⟩) | skip
  refine ⟨rfl, ?_⟩
  rw [if_pos rfl, if_pos rfl] at h2
  rcases hj with z | ⟨o, ho, hk, rfl⟩ <;> rcases hj' with z' | ⟨o', ho', hk', rfl⟩
  · rw [if_pos z, if_pos z'] at h2; omega
  · rw [if_pos z, if_neg (by omega)] at h2; omega
  · rw [if_neg (by omega), if_pos z'] at h2; omega
  · rw [if_neg (by omega), if_neg (by omega), Nat.add_sub_cancel_left, Nat.add_sub_cancel_left] at h2
    rw [key o o' ho ho' hk hk' (by omega)]
theorem cl_ok {p j : Nat} (hv : VW A p j) : (cl p = 23 ∨ cl p = 24 ∨ cl p = 25 ∨ cl p = 27 ∨ cl p = 29) ∧ (cl p = 29 → 4 ≤ pl A p j) := by
  unfold cl pl
  rcases hv with ⟨z | z | z, -⟩ | ⟨z, -⟩ | ⟨z, -⟩ <;> subst z <;> simp
  split <;> omega
theorem CU_put {p j : Nat} (hv : VW A p j) {v : Int32} (e : ∀ l, l < 16 → pj l v = Fs l (LV A l h) p j) : CU A Fs h (cPut h (cl p) (pl A p j) v) [(p, j)] := by
  obtain ⟨k1, k2⟩ := cl_ok hv
  have hvl : ∀ w, w ∈ [(p, j)] → VW A w.1 w.2 := fun w hw => by
    simp only [List.mem_cons, List.mem_nil_iff, or_false] at hw
    rw [hw]; exact hv
  unfold cPut
  by_cases hc : h (cl p) (pl A p j) = v
  · rw [if_pos hc]
    refine ⟨sameS.rfl, fun _ _ => rfl, hvl, fun l hl q i hq => ?_, fun z => ⟨z, fun _ _ _ _ _ => rfl⟩⟩
    show _ = vset (LV A l h) p j (Fs l (LV A l h) p j) q i
    unfold vset
    split
    · rename_i z
      rw [← e l hl, z.1, z.2]
      show pj l _ = _
      rw [hc]
    · rfl
  · rw [if_neg hc]
    have hg : ∀ q i, ¬ q = 3 → (hset (hset h (cl p) (pl A p j) v) 3 19 1) q i = if q = cl p ∧ i = pl A p j then v else h q i := by
      intro q i hq
      rw [hset_other hq, hset_get]
    refine ⟨(sameS.put (by omega)).trans sameS.ch, fun i hi => ?_, hvl, fun l hl q i hq => ?_, fun z => ?_⟩
    · rw [hg 29 i (by decide), if_neg (fun z => by have := k2 z.1.symm; omega)]
    · show pj l _ = vset (LV A l h) p j (Fs l (LV A l h) p j) q i
      have k3 := (cl_ok hq).1
      rw [hg _ _ (by omega)]
      unfold vset
      by_cases z : q = p ∧ i = j
      · rw [if_pos z, if_pos (by rw [z.1, z.2]; exact ⟨rfl, rfl⟩)]
        exact e l hl
      · rw [if_neg z, if_neg (fun y => z (pl_inj hq hv y.1 y.2))]
        rfl
    · rw [hset_at, if_pos rfl] at z
      exact absurd z (by decide)
/-! what the class works out at a place, lane by lane -/
theorem pj_sel (hA : A.length ≤ 120) (hc : CSt A se h) {l : Nat} (hl : l < 16) {x : Int32} (hx : chO A x) : pj l (cSel h x) = seO se x := by
  unfold cSel seO
  rcases hx with rfl | ⟨a, ha, rfl⟩
  · rw [if_pos (by decide), if_pos (by decide)]; exact pj_Z hl
  · rw [if_neg (nI_pos (by omega)), if_neg (nI_pos (by omega)), hc.1, if_neg (nI_ge ha (by omega)), ix_nI (by omega)]
    exact hc.2.2.1 l hl a ha
theorem pj_end (hA : A.length ≤ 120) {l : Nat} (hl : l < 16) {x : Int32} (hx : chO A x) {c : Nat} (hc : c < 6) : pj l (cEnd h x (nI c)) = ed (LV A l h) x c := by
  unfold cEnd ed
  rcases hx with rfl | ⟨a, ha, rfl⟩
  · have : ∀ c, c < 6 → (-1 : Int32) * 6 + nI c < 0 := by decide
    rw [if_pos (this c hc), if_pos (by decide)]; exact pj_Z hl
  · rw [nI_m6, if_neg (nI_pos (by omega)), if_neg (show ¬ (720 : Int32) ≤ nI (a * 6 + c) from nI_ge (b := 720) (by omega) (by omega)), if_neg (nI_pos (by omega)), ix_nI (by omega), ix_nI (by omega), Nat.mul_comm]
    rfl
theorem pj_sig (hT : TF A) (hc : CSt A se h) {l : Nat} (hl : l < 16) {t : Nat} (ht : t < A.length) (hk : (tA A t).1 = 4 ∨ (tA A t).1 = 5) : pj l (cSig h (nI t)) = sv l (LV A l h) (tA A t) := by
  have hA := hT.1
  have hS := (tf_at hT ht).2.2.2.2.2.1
  have hn0 := hS.2.1 hk
  have em : h 20 t = (if sgO (tA A t).2.1 < 8 then sgO (tA A t).2.1 else pgW A (tA A t).2.2.2.2.2) := by
    rw [(hc.2.1 t ht).2.2.2.2]
    unfold mkC
    rw [if_neg (by rcases hk with z | z <;> rw [z] <;> decide), if_neg (by rcases hk with z | z <;> rw [z] <;> decide), if_pos (Or.inr hk)]
  unfold cSig
  rw [ix_nI (by omega), em]
  unfold sv
  rcases sgO_cases (tA A t).2.1 with z | ⟨j, hj, z, w⟩ | ⟨j, hj, z, w⟩
  · rw [z] at hn0; exact absurd (by decide) hn0
  · rw [z, if_pos (show nI j < 8 from nI_lt (b := 8) hj (by decide)), if_neg (nI_pos (by omega)), if_neg (show ¬ (128 : Int32) ≤ nI j from nI_ge (b := 128) (by omega) (by omega)), ix_nI (by omega)]
    by_cases hj4 : j < 4
    · rw [if_pos (show nI j < 4 from nI_lt (b := 4) hj4 (by decide))]
      exact hc.2.2.2 l hl j hj4
    · obtain ⟨w1, w2, w3⟩ := mW_mid j hj hj4
      rw [if_neg (show ¬ nI j < 4 from fun q => hj4 ((nI_ltI (by omega) (by decide)).mp (show nI j < nI 4 from q))), if_pos (show nI j < 8 from nI_lt (b := 8) hj (by decide)), w3, ix_nI (by omega)]
      show _ = pj l (h 29 (pl A 58 (j - 4)))
      unfold pl
      rw [if_pos rfl, if_pos (by omega), show 4 + (j - 4) = j by omega]
  · have h8 : ¬ 8 + nI j < 8 := (sg_c hj).1
    have h4 : ¬ 8 + nI j < 4 := fun q => h8 (Int32.lt_trans q (by decide))
    obtain ⟨o1, o2⟩ := (tf_at hT ht).2.2.2.2.2.2 (Or.inr hk) (by rw [z]; exact h8)
    rw [z, if_neg h8, if_neg h4]
    generalize (tA A t).2.2.2.2.2 = o at *
    have hcn := cnt_take_le (A := A) 8 o
    unfold pgW
    rw [if_neg (nI_pos (by omega)), if_neg (show ¬ (128 : Int32) ≤ nI (8 + cntK 8 (A.take o)) from nI_ge (b := 128) (by omega) (by omega)), ix_nI (by omega), if_neg h8]
    show _ = pj l (h 29 (pl A 58 (4 + o)))
    unfold pl
    rw [if_pos rfl, if_neg (by omega), Nat.add_sub_cancel_left]
theorem pj_held (hT : TF A) (hc : CSt A se h) {l : Nat} (hl : l < 16) {t : Nat} (ht : t < A.length) (hk : (tA A t).1 = 4 ∨ (tA A t).1 = 5) : pj l (cHeld h (nI t)) = pAnd (pAnd (LV A l h 54 t) (se t)) (sv l (LV A l h) (tA A t)) := by
  have hA := hT.1
  unfold cHeld
  rw [pj_and hl, pj_and hl, pj_sig hT hc hl ht hk, ix_nI (by omega), hc.2.2.1 l hl t ht]
  rfl
theorem pj_eith (hT : TF A) (hc : CSt A se h) {l : Nat} (hl : l < 16) {t : Nat} (ht : t < A.length) {c : Nat} (hc6 : c < 6) : pj l (cEith h (nI t) (nI c)) = pOr (ed (LV A l h) (tA A t).2.2.2.1 c) (ed (LV A l h) (tA A t).2.2.2.2.1 c) := by
  have hA := hT.1
  obtain ⟨_, _, k18, k19, _⟩ := hc.2.1 t ht
  unfold cEith
  rw [pj_or hl, ix_nI (by omega), k18, k19, pj_end hA hl (tf_one hT ht) hc6, pj_end hA hl (tf_two hT ht) hc6]
theorem nIc {c k : Nat} (hc : c < 6) (hk : k < 2 ^ 31) : nI c = nI k ↔ c = k := nI_eq (by omega) hk
theorem pj_only {l : Nat} (hl : l < 16) {w : Int32} {k c : Nat} (hw : w = nI k) (hk : k < 2 ^ 31) (hc : c < 6) {x : Int32} : pj l (cOnly w (nI c) x) = onB k c (pj l x) := by
  unfold cOnly onB
  rw [hw]
  by_cases e : c = k
  · rw [if_pos (by rw [e]), if_pos e]
  · rw [if_neg (fun z => e ((nIc hc hk).mp z)), if_neg e]; exact pj_Z hl
set_option maxHeartbeats 4000000 in
theorem pj_endOf (hT : TF A) (hc : CSt A se h) {l : Nat} (hl : l < 16) {t : Nat} (ht : t < A.length) (hk10 : ¬ (tA A t).1 = 10) {c : Nat} (hc6 : c < 6) : pj l (cEndOf h (nI t) (nI c)) = fK A se l (LV A l h) t c := by
  have hA := hT.1
  obtain ⟨k16, _, k18, k19, k20⟩ := hc.2.1 t ht
  have x3 : pj l (h 23 t) = LV A l h 53 t := rfl
  have x4 : pj l (h 24 t) = LV A l h 54 t := rfl
  have e1 : ∀ c, c < 6 → pj l (cEnd h (h 18 t) (nI c)) = ed (LV A l h) (tA A t).2.2.2.1 c := fun c hc => by rw [k18]; exact pj_end hA hl (tf_one hT ht) hc
  have e2 : ∀ c, c < 6 → pj l (cEnd h (h 19 t) (nI c)) = ed (LV A l h) (tA A t).2.2.2.2.1 c := fun c hc => by rw [k19]; exact pj_end hA hl (tf_two hT ht) hc
  have c0 : (nI c = 0) ↔ c = 0 := nIc (k := 0) hc6 (by decide)
  have c1 : (nI c = 1) ↔ c = 1 := nIc (k := 1) hc6 (by decide)
  unfold cEndOf fK
  dsimp only
  rw [ix_nI (by omega), k16]
  by_cases hk : (tA A t).1 = 1
  · rw [if_pos hk, if_pos hk]
    by_cases z : c = 0
    · rw [if_pos (c0.mpr z), if_pos z, pj_and hl, hc.2.2.1 l hl t ht]; rfl
    · rw [if_neg (fun q => z (c0.mp q)), if_neg z]
      exact pj_only hl (k := 1) rfl (by decide) hc6
  rw [if_neg hk, if_neg hk]
  clear hk
  by_cases hk : (tA A t).1 = 3
  · rw [if_pos hk, if_pos hk]
    obtain ⟨q1, q2⟩ := (tf_at hT ht).2.2.2.2.2.1.2.2.1 hk
    have em : h 20 t = (tA A t).2.1 := by
      rw [k20]
      unfold mkC
      rw [if_neg (by rw [hk]; decide), if_neg (by rw [hk]; decide), if_neg (by rw [hk]; decide)]
    obtain ⟨k, hk2, e⟩ := nI_of (x := (tA A t).2.1) (fun q => absurd (Int32.lt_of_lt_of_le q (by decide : (0 : Int32) ≤ 2)) (Int32.not_lt.mpr q1))
    rw [em, e, ix_nI hk2]
    exact pj_only hl rfl hk2 hc6
  rw [if_neg hk, if_neg hk]
  clear hk
  by_cases hk : (tA A t).1 = 4
  · rw [if_pos hk, if_pos hk]; exact pj_eith hT hc hl ht hc6
  rw [if_neg hk, if_neg hk]
  clear hk
  by_cases hk : (tA A t).1 = 5
  · rw [if_pos hk, if_pos hk]
    by_cases z : c = 1
    · rw [if_pos (c1.mpr z), if_pos z, pj_or hl, pj_held hT hc hl ht (Or.inr hk)]
      have := e1 1 (by decide)
      rw [show nI 1 = 1 from rfl] at this
      rw [this]
    · rw [if_neg (fun q => z (c1.mp q)), if_neg z]; exact e1 c hc6
  rw [if_neg hk, if_neg hk]
  clear hk
  by_cases hk : (tA A t).1 = 6
  · rw [if_pos hk, if_pos hk]
    by_cases z : c = 0
    · rw [if_pos (c0.mpr z), if_pos z]; exact pj_Z hl
    · rw [if_neg (fun q => z (c0.mp q)), if_neg z]; exact pj_eith hT hc hl ht hc6
  rw [if_neg hk, if_neg hk]
  clear hk
  by_cases hk : (tA A t).1 = 7
  · rw [if_pos hk, if_pos hk]
    unfold cTrap
    rw [ix_nI (by omega)]
    by_cases z : c = 0
    · rw [if_pos (c0.mpr z), if_pos z, pj_or hl]
      have a1 := e1 0 (by decide)
      have a2 := e1 2 (by decide)
      rw [show nI 0 = 0 from rfl] at a1
      rw [show nI 2 = 2 from rfl] at a2
      rw [a1, a2]
    · rw [if_neg (fun q => z (c0.mp q)), if_neg z]
      by_cases z1 : c = 1
      · rw [if_pos (c1.mpr z1), if_pos z1]
        have a1 := e1 1 (by decide)
        rw [show nI 1 = 1 from rfl] at a1
        exact a1
      · rw [if_neg (fun q => z1 (c1.mp q)), if_neg z1, nI_1]
        by_cases z2 : c + 1 < 6
        · rw [if_pos (show nI (c + 1) < 6 from nI_lt (b := 6) z2 (by decide)), if_pos z2]; exact e1 (c + 1) z2
        · rw [if_neg (show ¬ nI (c + 1) < 6 from Int32.not_lt.mpr (nI_le (a := 6) (by omega) (by omega))), if_neg z2]; exact pj_Z hl
  rw [if_neg hk, if_neg hk]
  clear hk
  by_cases hk : (tA A t).1 = 8
  · rw [if_pos hk, if_pos hk]; exact e1 c hc6
  rw [if_neg hk, if_neg hk]
  clear hk
  by_cases hk : (tA A t).1 = 9
  · rw [if_pos hk, if_pos hk]
    by_cases z : c = 0
    · rw [if_pos (c0.mpr z), if_pos z]
      have a1 := e2 0 (by decide)
      rw [show nI 0 = 0 from rfl] at a1
      exact a1
    · rw [if_neg (fun q => z (c0.mp q)), if_neg z]; exact pj_eith hT hc hl ht hc6
  rw [if_neg hk, if_neg hk, if_neg hk10]
  exact pj_only hl (k := 0) rfl (by decide) hc6
end CL
