/-! THE REFERENCE: laying out: wait, wireOf -/
def clm (g : mvH) (t : Nat) (c : Int32) (o : Nat) : Nat → Int32 → Prop
  | 0, _ => False
  | k + 1, x => ∃ j, j < t ∧ x = nI j ∧ ((g 43 j = 8 ∧ g 44 j = c ∧ o = j) ∨ (¬ (g 43 j = 8 ∧ g 44 j = c) ∧ clm g t c o k (g 45 j)))
theorem clm_congr {g g' : mvH} {t t' : Nat} {c : Int32} {o : Nat} (ht : t ≤ t') (h1 : ∀ j, j < t → g' 43 j = g 43 j) (h2 : ∀ j, j < t → g' 44 j = g 44 j) (h3 : ∀ j, j < t → g' 45 j = g 45 j) : ∀ k x, clm g t c o k x → clm g' t' c o k x := by
  intro k
  induction k with
  | zero => intro x h; exact h
  | succ k ih =>
    intro x ⟨j, hj, e, h⟩
    refine ⟨j, by omega, e, ?_⟩
    rw [h1 j hj, h2 j hj, h3 j hj]
    rcases h with z | ⟨z1, z2⟩
    · exact Or.inl z
    · exact Or.inr ⟨z1, ih _ z2⟩
section ML
variable {d : Nat} {h : mvH} {Q : Option mvV → mvH → Prop}
theorem s_X5_wait (hd : 1 ≤ d) {m : Nat} (hm : m < 160) (a b c : Int32) (hQ : Q none (hset (hset (hset h 50 m a) 51 m b) 52 m c)) : mvCal mvMT d 116 [.inr 5, .inl (nI m), .inl a, .inl b, .inl c] h Q := by
  obtain ⟨d, rfl⟩ := d_pos hd (by decide)
  have hin : vp_in (nI m) 160 := vp_in_nI hm (by decide)
  have em : (nI m).toNatClampNeg = m := nI_clamp (by omega)
  refine ⟨⟨rfl, by decide, rfl⟩, Nat.le_of_ble_eq_true rfl, fun K hK => hK _ _ _ _ ⟨hin, hin, hin, ?_⟩⟩
  rw [em]
  exact hQ
theorem s_X5_wireOf (hd : 3 ≤ d) {t : Nat} (ht : t < 120) (h1 : (h 43 t = 8 ∨ ¬ isSg (h 44 t)) → Q (some (.inl (nI (4 + t)))) h) (h2 : ¬ h 43 t = 8 → isSg (h 44 t) → h 44 t < 115 → Q (some (.inl (h 44 t - 101))) h) (h3 : ¬ h 43 t = 8 → isSg (h 44 t) → ¬ h 44 t < 115 → ∃ o k, clm h 120 (h 44 t) o k (h 45 t) ∧ Q (some (.inl (nI (4 + o)))) h) : mvCal mvMT d 118 [.inr 5, .inl (nI t)] h Q := by
  obtain ⟨d, rfl⟩ := d_pos hd (by decide)
  have hin : vp_in (nI t) 120 := vp_in_nI ht (by decide)
  have et : (nI t).toNatClampNeg = t := nI_clamp (by omega)
  refine ⟨⟨rfl, by decide, rfl⟩, Nat.le_of_ble_eq_true rfl, fun K hK => hK _ _ _ _ ⟨hin, hin, ?_⟩⟩
  rw [et]
  have c25 : (h 43 t = 8 ∨ ¬ isSg (h 44 t)) → ∀ z2 z3, K 25 [some (.inr 5), some (.inl (nI t)), z2, z3] [] h := by
    intro z z2 z3
    refine hK _ _ _ _ ⟨trivial, mvq (h1 z) ?_⟩
    exact nI_add 4 t
  refine ⟨fun e => c25 (Or.inl e) _ _, fun e8 => ?_⟩
  refine s_X5_isSignal (by omega) _ (fun hs => ?_) (fun hs => ?_)
  · refine ⟨fun _ => ?_, fun z => absurd z (by decide)⟩
    refine hK _ _ _ _ ⟨fun e => ?_, fun e => ⟨trivial, h2 e8 hs (Int32.not_le.mp e)⟩⟩
    obtain ⟨o, k, hc, hq⟩ := h3 e8 hs (Int32.not_lt.mpr e)
    refine hK _ _ _ _ ⟨hin, ?_⟩
    rw [et]
    generalize h 44 t = c at *
    have loop : ∀ k x, clm h 120 c o k x → K 47 [some (.inr 5), some (.inl (nI t)), some (.inl c), some (.inl x)] [] h := by
      intro k
      induction k with
      | zero => intro x hx; exact absurd hx (fun z => z)
      | succ k ih =>
        intro x ⟨j, hj, e, hx⟩
        subst e
        have hinj : vp_in (nI j) 120 := vp_in_nI hj (by decide)
        have ej : (nI j).toNatClampNeg = j := nI_clamp (by omega)
        have next : ¬ (h 43 j = 8 ∧ h 44 j = c) → K 68 [some (.inr 5), some (.inl (nI t)), some (.inl c), some (.inl (nI j))] [] h := by
          intro z
          have hx2 := hx.resolve_left (fun w => z ⟨w.1, w.2.1⟩)
          refine hK _ _ _ _ ⟨hinj, ?_⟩
          rw [ej]
          exact ih _ hx2.2
        refine hK _ _ _ _ ⟨hinj, ?_⟩
        rw [ej]
        refine ⟨fun e1 => next (fun z => e1 z.1), fun e1 => ⟨hinj, ?_⟩⟩
        rw [ej]
        refine ⟨fun e2 => ?_, fun e2 => next (fun z => e2 z.2)⟩
        have ho : o = j := by
          rcases hx with z | z
          · exact z.2.2
          · exact absurd ⟨e1, e2⟩ z.1
        subst ho
        refine hK _ _ _ _ ⟨trivial, mvq hq ?_⟩
        exact nI_add 4 o
    exact loop k _ hc
  · exact ⟨fun z => absurd rfl z, fun _ => c25 (Or.inr hs) _ _⟩
end ML
/-- a thing's wire, as the reference writes it -/
def mWi (j : Nat) (x : Th) : Int32 := if x.1 = 8 ∨ sgO x.2.1 = -1 then nI (4 + j) else if x.2.1 < 115 then x.2.1 - 101 else nI (4 + x.2.2.2.2.2)
def MdCon (g' : mvH) (t r : Nat) (X : List Th) : Prop := ∀ (j : Nat) (x : Th), X[j]? = some x → g' 43 (t + j) = x.1 ∧ g' 44 (t + j) = x.2.1 ∧ g' 45 (t + j) = x.2.2.1 ∧ g' 46 (t + j) = x.2.2.2.1 ∧ g' 47 (t + j) = x.2.2.2.2.1 ∧ g' 48 (t + j) = mWi (t + j) x ∧ g' 49 (t + j) = (if x.1 = 1 then nI (r + cntK 1 (X.take j)) else -1)
def LmP (g g' : mvH) (t r m : Nat) (s u : Int32) (X : List Th) : Prop :=
  (∀ q, ¬ (q = 5 ∨ (43 ≤ q ∧ q ≤ 52)) → g' q = g q) ∧ (∀ j, ¬ (j = 17 ∨ j = 25) → g' 5 j = g 5 j) ∧ g' 5 17 = nI (t + X.length) ∧ g' 5 25 = nI (r + cntK 1 X) ∧ (∀ q, (q = 50 ∨ q = 51 ∨ q = 52) → ∀ j, j < m → g' q j = g q j) ∧ (∀ q, (q = 43 ∨ q = 44 ∨ q = 45 ∨ q = 48 ∨ q = 49) → ∀ j, j < t → g' q j = g q j) ∧ (∀ j, j < t → g' 46 j = if s = 1 ∧ u = nI j then nI t else g 46 j) ∧ (∀ j, j < t → g' 47 j = if s = 2 ∧ u = nI j then nI t else g 47 j) ∧ MdCon g' t r X
theorem LmP_nil {g : mvH} {t r m : Nat} {u : Int32} (h1 : g 5 17 = nI t) (h2 : g 5 25 = nI r) : LmP g g t r m 0 u [] := by
  refine ⟨fun _ _ => rfl, fun _ _ => rfl, h1, h2, fun _ _ _ _ => rfl, fun _ _ _ _ => rfl, fun j _ => ?_, fun j _ => ?_, fun j x hx => by cases hx⟩
  · rw [if_neg (fun z => absurd z.1 (by decide))]
  · rw [if_neg (fun z => absurd z.1 (by decide))]
theorem LmP_comp {g g1 g2 g3 : mvH} {t r m m1 : Nat} {s u s1 s2 k c u0 : Int32} {o : Nat} {A B : List Th} (h1 : LmP g g1 t r m s u [(k, c, u0, -1, -1, o)]) (h2 : LmP g1 g2 (t + 1) (r + (if k = 1 then 1 else 0)) m1 s1 (nI t) A) (h3 : LmP g2 g3 (t + 1 + A.length) (r + (if k = 1 then 1 else 0) + cntK 1 A) m s2 (nI t) B) (hm : m ≤ m1) (hs1 : s1 = 0 ∨ s1 = 1) (hs2 : s2 = 0 ∨ s2 = 2) (ht : t + 1 + A.length + B.length < 2 ^ 31) : LmP g g3 t r m s u ((k, c, u0, (if s1 = 1 then nI (t + 1) else -1), (if s2 = 2 then nI (t + 1 + A.length) else -1), o) :: (A ++ B)) := by
  obtain ⟨a1, a2, a3, a4, a5, a6, a7, a8, a9⟩ := h1
  obtain ⟨b1, b2, b3, b4, b5, b6, b7, b8, b9⟩ := h2
  obtain ⟨c1, c2, c3, c4, c5, c6, c7, c8, c9⟩ := h3
  have hs12 : ¬ s1 = 2 := by rcases hs1 with z | z <;> rw [z] <;> decide
  have hs21 : ¬ s2 = 1 := by rcases hs2 with z | z <;> rw [z] <;> decide
  have ne : ∀ j, j < t → ¬ nI t = nI j := fun j hj e => by have := nI_inj (by omega) (by omega) e; omega
  have ne1 : ∀ j, t < j → j < 2 ^ 31 → ¬ nI t = nI j := fun j hj hj2 e => by have := nI_inj (by omega) hj2 e; omega
  refine ⟨fun q hq => by rw [c1 q hq, b1 q hq, a1 q hq], fun j hj => by rw [c2 j hj, b2 j hj, a2 j hj], ?_, ?_, fun q hq j hj => by rw [c5 q hq j hj, b5 q hq j (by omega), a5 q hq j hj], fun q hq j hj => by rw [c6 q hq j (by omega), b6 q hq j (by omega), a6 q hq j hj], fun j hj => ?_, fun j hj => ?_, ?_⟩
  · rw [c3]; simp only [List.length_cons, List.length_append]; congr 1; omega
  · rw [c4, cntK_cons, cntK_app]; dsimp only; congr 1; omega
  · rw [c7 j (by omega), if_neg (fun z => hs21 z.1), b7 j (by omega), if_neg (fun z => ne j hj z.2), a7 j hj]
  · rw [c8 j (by omega), if_neg (fun z => ne j hj z.2), b8 j (by omega), if_neg (fun z => hs12 z.1), a8 j hj]
  · intro j x hx
    match j, hx with
    | 0, hx =>
      simp at hx
      subst hx
      have hq := a9 0 (k, c, u0, -1, -1, o) (by simp)
      obtain ⟨e1, e2, e3, e4, e5, e6, e7⟩ := hq
      rw [Nat.add_zero] at *
      dsimp only at *
      rw [c6 43 (by decide) t (by omega), b6 43 (by decide) t (by omega), c6 44 (by decide) t (by omega), b6 44 (by decide) t (by omega), c6 45 (by decide) t (by omega), b6 45 (by decide) t (by omega), c6 48 (by decide) t (by omega), b6 48 (by decide) t (by omega), c6 49 (by decide) t (by omega), b6 49 (by decide) t (by omega)]
      refine ⟨e1, e2, e3, ?_, ?_, e6, e7⟩
      · rw [c7 t (by omega), if_neg (fun z => hs21 z.1), b7 t (by omega), e4]
        rcases hs1 with z | z
        · rw [z]; rfl
        · rw [z, if_pos ⟨rfl, rfl⟩]; rfl
      · have e5' : g2 47 t = -1 := by rw [b8 t (by omega), if_neg (fun z => hs12 z.1), e5]
        rw [c8 t (by omega), e5']
        rcases hs2 with z | z
        · rw [z]; rfl
        · rw [z, if_pos ⟨rfl, rfl⟩]; rfl
    | j + 1, hx =>
      have hx : (A ++ B)[j]? = some x := by simpa using hx
      have hjl := (List.getElem?_eq_some_iff.mp hx).1
      rw [List.length_append] at hjl
      rw [List.take_succ_cons, cntK_cons]
      dsimp only
      by_cases hjA : j < A.length
      · rw [List.getElem?_append_left hjA] at hx
        obtain ⟨e1, e2, e3, e4, e5, e6, e7⟩ := b9 j x hx
        rw [show t + (j + 1) = t + 1 + j by omega]
        rw [c6 43 (by decide) _ (by omega), c6 44 (by decide) _ (by omega), c6 45 (by decide) _ (by omega), c6 48 (by decide) _ (by omega), c6 49 (by decide) _ (by omega), c7 _ (by omega), c8 _ (by omega), if_neg (fun z => hs21 z.1), if_neg (fun z => ne1 _ (by omega) (by omega) z.2), List.take_append_of_le_length (by omega)]
        refine ⟨e1, e2, e3, e4, e5, e6, ?_⟩
        rw [e7, Nat.add_assoc]
      · rw [List.getElem?_append_right (by omega)] at hx
        obtain ⟨e1, e2, e3, e4, e5, e6, e7⟩ := c9 (j - A.length) x hx
        rw [show t + 1 + A.length + (j - A.length) = t + (j + 1) by omega] at e1 e2 e3 e4 e5 e6 e7
        refine ⟨e1, e2, e3, e4, e5, e6, ?_⟩
        rw [e7, List.take_append, List.take_of_length_le (l := A) (by omega), cntK_app]
        congr 2
        omega
theorem LmP_wait {g g1 : mvH} {t r m : Nat} {s u : Int32} {X : List Th} (h : LmP g g1 t r m s u X) {j : Nat} (hj : m ≤ j) (a b c : Int32) : LmP g (hset (hset (hset g1 50 j a) 51 j b) 52 j c) t r m s u X := by
  obtain ⟨a1, a2, a3, a4, a5, a6, a7, a8, a9⟩ := h
  have q : ∀ q, ¬ (q = 50 ∨ q = 51 ∨ q = 52) → (hset (hset (hset g1 50 j a) 51 j b) 52 j c) q = g1 q := fun q hq => by rw [hset_other (by omega), hset_other (by omega), hset_other (by omega)]
  refine ⟨fun q' hq => by rw [q q' (by omega), a1 q' hq], fun j' hj' => by rw [q 5 (by omega), a2 j' hj'], by rw [q 5 (by omega), a3], by rw [q 5 (by omega), a4], fun q' hq j' hj' => ?_, fun q' hq j' hj' => by rw [q q' (by omega), a6 q' hq j' hj'], fun j' hj' => by rw [q 46 (by omega), a7 j' hj'], fun j' hj' => by rw [q 47 (by omega), a8 j' hj'], fun j' x hx => ?_⟩
  · rw [← a5 q' hq j' hj']
    rcases hq with rfl | rfl | rfl
    · rw [hset_other (by decide), hset_other (by decide), hset_at, if_neg (by omega)]
    · rw [hset_other (by decide), hset_at, if_neg (by omega), hset_other (by decide)]
    · rw [hset_at, if_neg (by omega), hset_other (by decide), hset_other (by decide)]
  · rw [q 43 (by omega), q 44 (by omega), q 45 (by omega), q 46 (by omega), q 47 (by omega), q 48 (by omega), q 49 (by omega)]
    exact a9 j' x hx
