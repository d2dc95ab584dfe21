/-! WIRES lays out as the mathematics does -/
def LyCon (W : Nat → Int32) (h' : mvH) (t r s sc : Nat) (A : List Th) (S : List Int32) : Prop := (∀ (j : Nat) (x : Th), A[j]? = some x → h' 16 (t + j) = x.1 ∧ h' 17 (t + j) = x.2.2.1 ∧ h' 18 (t + j) = x.2.2.2.1 ∧ h' 19 (t + j) = x.2.2.2.2.1 ∧ h' 20 (t + j) = mkC W r s A j x) ∧ ∀ (j : Nat) (y : Int32), S[j]? = some y → h' 21 (sc + j) = y
def LyCnt (h' : mvH) (t r s sc : Nat) (A : List Th) : Prop := h' 3 7 = nI (t + A.length) ∧ h' 3 8 = nI (sc + 2 * A.length) ∧ h' 3 9 = nI (r + cntK 1 A) ∧ h' 3 10 = nI (s + cntK 8 A)
theorem mkC_left {W : Nat → Int32} {r s j : Nat} {A B : List Th} {x : Th} (hj : j < A.length) : mkC W r s (A ++ B) j x = mkC W r s A j x := by
  unfold mkC
  rw [List.take_append_of_le_length (by omega)]
theorem mkC_right {W : Nat → Int32} {r s j : Nat} {A B : List Th} {x : Th} : mkC W r s (A ++ B) (A.length + j) x = mkC W (r + cntK 1 A) (s + cntK 8 A) B j x := by
  unfold mkC
  rw [List.take_append, List.take_of_length_le (by omega), show A.length + j - A.length = j by omega, cntK_app, cntK_app, Nat.add_assoc, Nat.add_assoc]
theorem LyCon_app {W : Nat → Int32} {h' : mvH} {t r s sc : Nat} {A B : List Th} {SA SB : List Int32} (h1 : LyCon W h' t r s sc A SA) (h2 : LyCon W h' (t + A.length) (r + cntK 1 A) (s + cntK 8 A) (sc + SA.length) B SB) : LyCon W h' t r s sc (A ++ B) (SA ++ SB) := by
  refine ⟨fun j x hx => ?_, fun j y hy => ?_⟩
  · by_cases hj : j < A.length
    · rw [List.getElem?_append_left hj] at hx
      rw [mkC_left hj]
      exact h1.1 j x hx
    · rw [List.getElem?_append_right (by omega)] at hx
      have := h2.1 (j - A.length) x hx
      rw [show t + A.length + (j - A.length) = t + j by omega] at this
      rw [show j = A.length + (j - A.length) by omega, mkC_right, show A.length + (j - A.length) = j by omega]
      exact this
  · by_cases hj : j < SA.length
    · rw [List.getElem?_append_left hj] at hy
      exact h1.2 j y hy
    · rw [List.getElem?_append_right (by omega)] at hy
      have := h2.2 (j - SA.length) y hy
      rw [show sc + SA.length + (j - SA.length) = sc + j by omega] at this
      exact this
theorem LyCon_keep {W : Nat → Int32} {h' h'' : mvH} {t r s sc : Nat} {A : List Th} {S : List Int32} (hc : LyCon W h' t r s sc A S) (h1 : ∀ q, (q = 16 ∨ q = 17 ∨ q = 18 ∨ q = 19 ∨ q = 20) → ∀ j, t ≤ j → j < t + A.length → h'' q j = h' q j) (h2 : ∀ j, sc ≤ j → j < sc + S.length → h'' 21 j = h' 21 j) : LyCon W h'' t r s sc A S := by
  refine ⟨fun j x hx => ?_, fun j y hy => ?_⟩
  · have hj := (List.getElem?_eq_some_iff.mp hx).1
    rw [h1 16 (by omega) _ (by omega) (by omega), h1 17 (by omega) _ (by omega) (by omega), h1 18 (by omega) _ (by omega) (by omega), h1 19 (by omega) _ (by omega) (by omega), h1 20 (by omega) _ (by omega) (by omega)]
    exact hc.1 j x hx
  · have hj := (List.getElem?_eq_some_iff.mp hy).1
    rw [h2 _ (by omega) (by omega)]
    exact hc.2 j y hy
theorem nd_get {N : List Nd} {i : Nat} (hi : i < N.length) : N[i]? = some (nd N i) := by
  unfold nd
  rw [List.getD_eq_getElem?_getD, List.getElem?_eq_getElem hi]
  rfl
/-- the nodes are a tree's: children come before, signals are signals, local ones lie where Lb says -/
def NdOK (N : List Nd) (Lb : Nat → Nat → Prop) : Prop := N.length ≤ 60 ∧ ∀ i, i < N.length →
  ((nd N i).2.2.1 = -1 ∨ ∃ j, j < i ∧ (nd N i).2.2.1 = nI j ∧ ∀ c, Lb j c → Lb i c ∨ ((nd N i).1 = 8 ∧ sgO (nd N i).2.1 = 8 + nI c)) ∧
  ((nd N i).2.2.2 = -1 ∨ ∃ j, j < i ∧ (nd N i).2.2.2 = nI j ∧ ∀ c, Lb j c → Lb i c ∨ ((nd N i).1 = 8 ∧ sgO (nd N i).2.1 = 8 + nI c)) ∧
  ((nd N i).1 = 8 → ∃ c, c < 8 ∧ sgO (nd N i).2.1 = 8 + nI c) ∧
  (((nd N i).1 = 2 ∨ (nd N i).1 = 4 ∨ (nd N i).1 = 5) → (¬ sgO (nd N i).2.1 < 0) ∧ (¬ sgO (nd N i).2.1 < 8 → ∃ c, c < 8 ∧ sgO (nd N i).2.1 = 8 + nI c ∧ Lb i c))
def LyC (N : List Nd) (W : Nat → Int32) (Lb : Nat → Nat → Prop) (f : Nat) : Prop :=
  ∀ (d : Nat) (h : mvH) (Q : Option mvV → mvH → Prop) (i : Nat) (u : Int32) (t : Nat) (E : Nat → Nat) (r s sc : Nat), 6 * f + 6 ≤ d → i < f → i < N.length → TrOK h N → LyCnt h t r s sc [] → t + (layT N f i u t E).length ≤ 120 → sc + 2 * (layT N f i u t E).length ≤ 240 → (∀ c, c < 8 → Lb i c → h 22 c = W (E c)) →
  (∀ (j : Nat) (x : Th), (layT N f i u t E)[j]? = some x → x.1 = 8 → W (t + j) = nI (s + cntK 8 ((layT N f i u t E).take j))) →
  (∀ h', frL h h' t sc → LyCnt h' t r s sc (layT N f i u t E) → LyCon W h' t r s sc (layT N f i u t E) (stT N f i t) → Q (some (.inl (nI t))) h') → mvCal mvMT d 42 [.inr 3, .inr 2, .inl (nI i), .inl u] h Q
theorem TrOK_frL {h h' : mvH} {N : List Nd} {t sc : Nat} (ht : TrOK h N) (hf : frL h h' t sc) : TrOK h' N := by
  refine ⟨by rw [hf.1 2 (by decide)]; exact ht.1, fun i x hx => ?_⟩
  rw [hf.1 8 (by decide), hf.1 9 (by decide), hf.1 10 (by decide), hf.1 11 (by decide)]
  exact ht.2 i x hx
theorem frL_put {h : mvH} {q j t sc : Nat} {v : Int32} (hq : q = 16 ∨ q = 17 ∨ q = 18 ∨ q = 19 ∨ q = 20) (hj : t ≤ j) : frL h (hset h q j v) t sc := by
  refine ⟨fun q' hq' => hset_other (by omega), fun j' _ => by rw [hset_other (by omega)], fun q' hq' j' hj' => ?_, fun j' _ => by rw [hset_other (by omega)]⟩
  by_cases e : q' = q
  · subst e; rw [hset_at, if_neg (by omega)]
  · rw [hset_other e]
theorem frL_st {h : mvH} {j t sc : Nat} {v : Int32} (hj : sc ≤ j) : frL h (hset h 21 j v) t sc := by
  refine ⟨fun q' hq' => hset_other (by omega), fun j' _ => by rw [hset_other (by omega)], fun q' hq' j' hj' => by rw [hset_other (by omega)], fun j' hj' => by rw [hset_at, if_neg (by omega)]⟩
theorem frL_3 {h : mvH} {j t sc : Nat} {v : Int32} (hj : j = 7 ∨ j = 8 ∨ j = 9 ∨ j = 10) : frL h (hset h 3 j v) t sc := by
  refine ⟨fun q' hq' => hset_other (by omega), fun j' hj' => by rw [hset_at, if_neg (by omega)], fun q' hq' j' hj' => by rw [hset_other (by omega)], fun j' hj' => by rw [hset_other (by decide)]⟩
/-- a child that may be wanting is laid -/
theorem ly_child {N : List Nd} {W : Nat → Int32} {Lb : Nat → Nat → Prop} {f : Nat} (hN : N.length ≤ 60) (hf : LyC N W Lb f) {d : Nat} {h : mvH} {Q : Option mvV → mvH → Prop} (hd : 6 * f + 6 ≤ d) {y u : Int32} (hy : y = -1 ∨ ∃ j, j < f ∧ j < N.length ∧ y = nI j) {t r s sc : Nat} {E : Nat → Nat} (ht : TrOK h N) (hc : LyCnt h t r s sc []) {A : List Th} {S : List Int32} (hA : A = if y < 0 then [] else layT N f (ix y) u t E) (hS : S = if y < 0 then [] else stT N f (ix y) t) (h120 : t + A.length ≤ 120) (h240 : sc + 2 * A.length ≤ 240) (hE : ∀ j, j < N.length → y = nI j → ∀ c, c < 8 → Lb j c → h 22 c = W (E c)) (hW : ∀ (j : Nat) (x : Th), A[j]? = some x → x.1 = 8 → W (t + j) = nI (s + cntK 8 (A.take j)))
    (hQ : ∀ h', frL h h' t sc → LyCnt h' t r s sc A → LyCon W h' t r s sc A S → Q (some (.inl (if y < 0 then -1 else nI t))) h') : mvCal mvMT d 42 [.inr 3, .inr 2, .inl y, .inl u] h Q := by
  rcases hy with rfl | ⟨j, hj, hjN, rfl⟩
  · rw [if_pos (by decide)] at hA hS
    subst hA
    subst hS
    refine s_X3_lay_neg (by omega) _ _ (by decide) ?_
    have := hQ h frL.rfl hc ⟨fun j x hx => by simp at hx, fun j y hy => by simp at hy⟩
    rwa [if_pos (by decide)] at this
  · have h0 : ¬ nI j < 0 := nI_pos (by omega)
    rw [if_neg h0, ix_nI (by omega)] at hA hS
    subst hA
    subst hS
    refine hf d h Q j u t E r s sc hd hj hjN ht hc h120 h240 (hE j hjN rfl) hW (fun h' a1 a2 a3 => ?_)
    have := hQ h' a1 a2 a3
    rwa [if_neg h0] at this
theorem hset_get {h : mvH} {q j q' j' : Nat} {v : Int32} : hset h q j v q' j' = if q' = q ∧ j' = j then v else h q' j' := by
  by_cases hq : q' = q
  · subst hq
    rw [hset_at]
    by_cases hj : j' = j
    · simp [hj]
    · simp [hj]
  · rw [hset_other hq]
    simp [hq]
theorem mkOf_sig {x : Nd} (h : x.1 = 2 ∨ x.1 = 4 ∨ x.1 = 5 ∨ x.1 = 8) : mkOf x = sgO x.2.1 := by unfold mkOf; rw [if_pos h]
theorem mkOf_no {x : Nd} (h : ¬ (x.1 = 2 ∨ x.1 = 4 ∨ x.1 = 5 ∨ x.1 = 8)) : mkOf x = x.2.1 := by unfold mkOf; rw [if_neg h]
/-- what lies inside a thing is laid -/
theorem ly_inside {N : List Nd} {W : Nat → Int32} {Lb : Nat → Nat → Prop} {f : Nat} (hok : NdOK N Lb) (hf : LyC N W Lb f) {d : Nat} {g : mvH} {Q : Option mvV → mvH → Prop} (hd : 6 * f + 7 ≤ d) {i : Nat} (hi : i < f + 1) (hiN : i < N.length) {t r s sc : Nat} {E : Nat → Nat} (ht : TrOK g N) (hc : LyCnt g (t + 1) r s sc []) (hk : g 16 t = (nd N i).1) {A B : List Th} {SA SB : List Int32}
    (hA : A = if (nd N i).2.2.1 < 0 then [] else layT N f (ix (nd N i).2.2.1) (nI t) (t + 1) E) (hSA : SA = if (nd N i).2.2.1 < 0 then [] else stT N f (ix (nd N i).2.2.1) (t + 1))
    (hB : B = if lySec (nd N i) < 0 then [] else layT N f (ix (lySec (nd N i))) (nI t) (t + 1 + A.length) E) (hSB : SB = if lySec (nd N i) < 0 then [] else stT N f (ix (lySec (nd N i))) (t + 1 + A.length))
    (hlA : SA.length = 2 * A.length) (h120 : t + 1 + (A ++ B).length ≤ 120) (h240 : sc + 2 * (A ++ B).length ≤ 240) (hE : ∀ j, j < N.length → ((nd N i).2.2.1 = nI j ∨ (nd N i).2.2.2 = nI j) → ∀ c, c < 8 → Lb j c → g 22 c = W (E c)) (hW : ∀ (j : Nat) (x : Th), (A ++ B)[j]? = some x → x.1 = 8 → W (t + 1 + j) = nI (s + cntK 8 ((A ++ B).take j)))
    (hQ : ∀ g', (∀ q, ¬ (q = 3 ∨ q = 16 ∨ q = 17 ∨ q = 18 ∨ q = 19 ∨ q = 20 ∨ q = 21) → g' q = g q) → (∀ j, ¬ (j = 7 ∨ j = 8 ∨ j = 9 ∨ j = 10) → g' 3 j = g 3 j) → (∀ q, (q = 16 ∨ q = 17 ∨ q = 20) → ∀ j, j < t + 1 → g' q j = g q j) → (∀ q, (q = 18 ∨ q = 19) → ∀ j, j < t → g' q j = g q j) → (∀ j, j < sc → g' 21 j = g 21 j) → g' 18 t = (if (nd N i).2.2.1 < 0 then -1 else nI (t + 1)) → g' 19 t = (if lySec (nd N i) < 0 then -1 else nI (t + 1 + A.length)) → LyCnt g' (t + 1) r s sc (A ++ B) → LyCon W g' (t + 1) r s sc (A ++ B) (SA ++ SB) → Q none g') : mvCal mvMT d 47 [.inr 3, .inr 2, .inl (nI i), .inl (nI t)] g Q := by
  obtain ⟨d, rfl⟩ := d_pos hd (by omega)
  obtain ⟨hN60, hall⟩ := hok
  obtain ⟨o1, o2, o3, o4⟩ := hall i hiN
  have hx := ht.2 i _ (nd_get hiN)
  simp only [List.length_append] at h120 h240
  have hin : vp_in (nI i) 60 := vp_in_nI (by omega) (by decide)
  have hit : vp_in (nI t) 120 := vp_in_nI (by omega) (by decide)
  have ei : (nI i).toNatClampNeg = i := nI_clamp (by omega)
  have et : (nI t).toNatClampNeg = t := nI_clamp (by omega)
  refine ⟨⟨rfl, by decide, rfl⟩, Nat.le_of_ble_eq_true rfl, fun K hK => hK _ _ _ _ ⟨hin, ?_⟩⟩
  rw [ei, hx.2.2.1]
  refine ⟨hit, ?_⟩
  rw [et, hk]
  have e30 : ∀ y, y = lySec (nd N i) → ∀ z, K 30 [some (.inr 3), some (.inr 2), some (.inl (nI i)), some (.inl (nI t)), some (.inl (nd N i).2.2.1), z] [.inl y] g := by
    intro y hy z
    subst hy
    refine hK _ _ _ _ ?_
    refine ly_child hN60 hf (by omega) (by rcases o1 with z | ⟨j, hj, z, -⟩; exact Or.inl z; exact Or.inr ⟨j, by omega, by omega, z⟩) ht hc hA hSA (by omega) (by omega) (fun j hjN hj => hE j hjN (Or.inl hj)) (fun j x hjx h8 => ?_) (fun g1 a1 a2 a3 => ?_)
    · have hj := (List.getElem?_eq_some_iff.mp hjx).1
      have := hW j x (by rw [List.getElem?_append_left hj]; exact hjx) h8
      rwa [List.take_append_of_le_length (by omega)] at this
    refine ⟨hit, ?_⟩
    rw [et]
    have ht1 : TrOK g1 N := TrOK_frL ht a1
    have ht2 : TrOK (hset g1 18 t (if (nd N i).2.2.1 < 0 then -1 else nI (t + 1))) N := TrOK_frL (t := t) (sc := sc) ht1 (frL_put (by omega) (Nat.le_refl t))
    have hc2 : LyCnt (hset g1 18 t (if (nd N i).2.2.1 < 0 then -1 else nI (t + 1))) (t + 1 + A.length) (r + cntK 1 A) (s + cntK 8 A) (sc + 2 * A.length) [] := by
      unfold LyCnt
      rw [hset_other (by decide)]
      exact a2
    refine ly_child (h := hset g1 18 t (if (nd N i).2.2.1 < 0 then -1 else nI (t + 1))) hN60 hf (by omega) (y := lySec (nd N i)) ?_ ht2 hc2 hB hSB (by omega) (by omega) (fun j hjN hj => ?_) (fun j x hjx h8 => ?_) (fun g2 b1 b2 b3 => ?_)
    · unfold lySec
      split
      · rcases o1 with z | ⟨j, hj, z, -⟩
        · exact Or.inl z
        · exact Or.inr ⟨j, by omega, by omega, z⟩
      · rcases o2 with z | ⟨j, hj, z, -⟩
        · exact Or.inl z
        · exact Or.inr ⟨j, by omega, by omega, z⟩
    · intro c hc8 hl
      rw [hset_other (by decide), a1.1 22 (by decide)]
      refine hE j hjN ?_ c hc8 hl
      unfold lySec at hj
      split at hj
      · exact Or.inl hj
      · exact Or.inr hj
    · have := hW (A.length + j) x (by rw [List.getElem?_append_right (by omega), show A.length + j - A.length = j by omega]; exact hjx) h8
      rw [List.take_append, List.take_of_length_le (by omega), show A.length + j - A.length = j by omega, cntK_app, ← Nat.add_assoc, ← Nat.add_assoc] at this
      exact this
    refine ⟨hit, ?_⟩
    rw [et]
    refine hQ (hset g2 19 t (if lySec (nd N i) < 0 then -1 else nI (t + 1 + A.length))) ?_ ?_ ?_ ?_ ?_ ?_ ?_ ?_ ?_
    · intro q hq
      rw [hset_other (by omega), b1.1 q hq, hset_other (by omega), a1.1 q hq]
    · intro j hj
      rw [hset_other (by decide), b1.2.1 j hj, hset_other (by decide), a1.2.1 j hj]
    · intro q hq j hj
      rw [hset_other (by omega), b1.2.2.1 q (by omega) j (by omega), hset_other (by omega), a1.2.2.1 q (by omega) j (by omega)]
    · intro q hq j hj
      rw [hset_get, if_neg (by omega), b1.2.2.1 q (by omega) j (by omega), hset_get, if_neg (by omega), a1.2.2.1 q (by omega) j (by omega)]
    · intro j hj
      rw [hset_other (by decide), b1.2.2.2 j (by omega), hset_other (by decide), a1.2.2.2 j (by omega)]
    · rw [hset_other (by decide), b1.2.2.1 18 (by omega) t (by omega), hset_at, if_pos rfl]
    · rw [hset_at, if_pos rfl]
    · unfold LyCnt
      rw [hset_other (by decide), List.length_append, cntK_app, cntK_app]
      obtain ⟨c1, c2, c3, c4⟩ := b2
      refine ⟨by rw [c1, Nat.add_assoc], by rw [c2]; congr 1; omega, by rw [c3, Nat.add_assoc], by rw [c4, Nat.add_assoc]⟩
    · refine LyCon_app ?_ ?_
      · refine LyCon_keep a3 (fun q hq j hj1 hj2 => ?_) (fun j hj1 hj2 => ?_)
        · rw [hset_get, if_neg (by omega), b1.2.2.1 q hq j (by omega), hset_get, if_neg (by omega)]
        · rw [hset_other (by decide), b1.2.2.2 j (by omega), hset_other (by decide)]
      · rw [hlA]
        refine LyCon_keep b3 (fun q hq j hj1 hj2 => ?_) (fun j hj1 hj2 => ?_)
        · rw [hset_get, if_neg (by omega)]
        · rw [hset_other (by decide)]
  refine ⟨fun e => ?_, fun e => ?_⟩
  · refine hK _ _ _ _ ⟨hin, ?_⟩
    rw [ei, hx.2.2.2]
    exact e30 _ (by unfold lySec; rw [if_neg e]) _
  · exact e30 _ (by unfold lySec; rw [if_pos e]) _
