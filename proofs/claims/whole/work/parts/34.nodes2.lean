/-! the shapes, the parents, what lies around, the sizes: for every reading -/
def parP (N N' : List Nd) (a : Nat) : Prop := ∀ j, N.length ≤ j → j < a → ∃ (i : Nat) (x : Nd), j < i ∧ N'[i]? = some x ∧ (x.2.2.1 = nI j ∨ x.2.2.2 = nI j)
def edgT (T L : Nat → Int32) (x : Nd) (i j : Nat) : Prop := T j = T i + (if x.1 = 7 then 1 else 0) ∧ L j = L i ||| (if x.1 = 8 then cBit (sgO x.2.1) else 0)
def ctxP (N N' : List Nd) (a : Nat) : Prop := ∀ (T0 L0 : Nat → Int32) (tc lc : Int32), ∃ T L : Nat → Int32, (∀ i, i < N.length → T i = T0 i ∧ L i = L0 i) ∧ T a = tc ∧ L a = lc ∧ ∀ (i : Nat) (x : Nd), N.length ≤ i → N'[i]? = some x → ∀ j, j < i → (x.2.2.1 = nI j ∨ x.2.2.2 = nI j) → edgT T L x i j
def szE (S : Nat → Nat) (x : Nd) (i : Nat) : Prop := S i = 1 + (if x.2.2.1 < 0 then 0 else S (ix x.2.2.1)) + (if lySec x < 0 then 0 else S (ix (lySec x)))
def szP (f : Nat) (N N' : List Nd) (a : Nat) : Prop := ∀ S0 : Nat → Nat, ∃ S : Nat → Nat, (∀ i, i < N.length → S i = S0 i) ∧ S a ≤ (N'.length - N.length) * 2 ^ f ∧ ∀ (i : Nat) (x : Nd), N.length ≤ i → N'[i]? = some x → szE S x i
/-- nodes are few: their numbers are ints -/
def rdAll (f : Nat) (N N' : List Nd) (a : Nat) : Prop := N'.length < 2 ^ 31 → rdS N N' a ∧ parP N N' a ∧ ctxP N N' a ∧ szP f N N' a
theorem app_get {N : List Nd} {y x : Nd} {i : Nat} (h : (N ++ [y])[i]? = some x) : (i < N.length ∧ N[i]? = some x) ∨ (i = N.length ∧ x = y) := by
  by_cases hi : i < N.length
  · rw [List.getElem?_append_left hi] at h; exact Or.inl ⟨hi, h⟩
  · have hlt := (List.getElem?_eq_some_iff.mp h).1
    simp at hlt
    have : i = N.length := by omega
    subst this
    simp at h
    exact Or.inr ⟨rfl, h.symm⟩
theorem app_last {N : List Nd} {y : Nd} : (N ++ [y])[N.length]? = some y := by simp
theorem app_left {N : List Nd} {y : Nd} {i : Nat} (hi : i < N.length) : (N ++ [y])[i]? = N[i]? := List.getElem?_append_left hi
theorem nI_inj {a b : Nat} (ha : a < 2 ^ 31) (hb : b < 2 ^ 31) (h : nI a = nI b) : a = b := (nI_eq ha hb).mp h
theorem m1_nI {j : Nat} (hj : j < 2 ^ 31) : ¬ (-1 : Int32) = nI j := fun e => nI_nm1 hj e.symm
/-- a leaf -/
theorem rdAll_leaf {f : Nat} {N : List Nd} {k c : Int32} (hk : ndK (k, c, -1, -1) N.length) (hL : lySec (k, c, -1, -1) = -1) : rdAll (f + 1) N (N ++ [(k, c, -1, -1)]) N.length := by
  intro hlen
  simp only [List.length_append, List.length_cons, List.length_nil] at hlen
  have hno : ∀ (i : Nat) (x : Nd), N.length ≤ i → (N ++ [(k, c, -1, -1)])[i]? = some x → i = N.length ∧ x = (k, c, -1, -1) := by
    intro i x hi hx
    rcases app_get hx with z | z
    · omega
    · exact z
  refine ⟨⟨by simp, by simp, fun i hi => app_left hi, fun i x hi hx => ?_⟩, fun j h1 h2 => by omega, fun T0 L0 tc lc => ?_, fun S0 => ?_⟩
  · obtain ⟨rfl, rfl⟩ := hno i x hi hx
    exact ⟨hk, fun j hj hlt => by
      rcases hj with z | z
      · exact absurd z (m1_nI (by omega))
      · exact absurd z (m1_nI (by omega))⟩
  · refine ⟨fun i => if i = N.length then tc else T0 i, fun i => if i = N.length then lc else L0 i, fun i hi => by simp [show ¬ i = N.length by omega], by simp, by simp, fun i x hi hx j hj hc => ?_⟩
    obtain ⟨rfl, rfl⟩ := hno i x hi hx
    rcases hc with z | z
    · exact absurd z (m1_nI (by omega))
    · exact absurd z (m1_nI (by omega))
  · refine ⟨fun i => if i = N.length then 1 else S0 i, fun i hi => by simp [show ¬ i = N.length by omega], ?_, fun i x hi hx => ?_⟩
    · simp
      exact Nat.one_le_two_pow
    · obtain ⟨rfl, rfl⟩ := hno i x hi hx
      unfold szE
      rw [hL]
      simp
/-- a node round one -/
theorem rdAll_ar {f : Nat} {N N' : List Nd} {a : Nat} {k c : Int32} (h : rdAll f N N' a) (hk : (k = 5 ∧ ¬ sgO c = -1) ∨ (k = 6 ∧ c = 0) ∨ (k = 7 ∧ c = 0) ∨ (k = 8 ∧ ¬ sgO c < 8)) : rdAll (f + 1) N (N' ++ [(k, c, nI a, -1)]) N'.length := by
  intro hlen
  simp only [List.length_append, List.length_cons, List.length_nil] at hlen
  obtain ⟨⟨s1, s2, s3, s4⟩, hp, hcx, hsz⟩ := h (by omega)
  have hcase : ∀ (i : Nat) (x : Nd), (N' ++ [(k, c, nI a, -1)])[i]? = some x → (i < N'.length ∧ N'[i]? = some x) ∨ (i = N'.length ∧ x = (k, c, nI a, -1)) := fun i x hx => app_get hx
  have child : ∀ j, j < N'.length → (nI a = nI j ∨ (-1 : Int32) = nI j) → j = a := by
    intro j hj hc
    rcases hc with z | z
    · exact (nI_inj (by omega) (by omega) z).symm
    · exact absurd z (m1_nI (by omega))
  refine ⟨⟨by simp, by simp; omega, fun i hi => by rw [app_left (by omega), s3 i hi], fun i x hi hx => ?_⟩, fun j h1 h2 => ?_, fun T0 L0 tc lc => ?_, fun S0 => ?_⟩
  · rcases hcase i x hx with ⟨z1, z2⟩ | ⟨rfl, rfl⟩
    · exact s4 i x hi z2
    · refine ⟨Or.inr (Or.inr (Or.inr (Or.inr (Or.inl ⟨hk, a, by omega, rfl⟩)))), fun j hj hlt => ?_⟩
      rw [child j hlt hj]
      omega
  · by_cases hj : j < a
    · obtain ⟨i, x, z1, z2, z3⟩ := hp j h1 hj
      exact ⟨i, x, z1, by rw [app_left ((List.getElem?_eq_some_iff.mp z2).1)]; exact z2, z3⟩
    · have : j = a := by omega
      subst this
      exact ⟨N'.length, _, by omega, app_last, Or.inl rfl⟩
  · obtain ⟨T, L, t1, t2, t3, t4⟩ := hcx T0 L0 (tc + (if k = 7 then 1 else 0)) (lc ||| (if k = 8 then cBit (sgO c) else 0))
    have hne : ∀ i, i < N'.length → ¬ i = N'.length := fun i hi => by omega
    refine ⟨fun i => if i = N'.length then tc else T i, fun i => if i = N'.length then lc else L i, fun i hi => ?_, by simp, by simp, fun i x hi hx j hj hc => ?_⟩
    · simp only [show ¬ i = N'.length by omega, if_false]; exact t1 i hi
    · rcases hcase i x hx with ⟨z1, z2⟩ | ⟨rfl, rfl⟩
      · have := t4 i x hi z2 j hj hc
        unfold edgT at this ⊢
        simp only [show ¬ i = N'.length by omega, show ¬ j = N'.length by omega, if_false]
        exact this
      · have := child j hj hc
        subst this
        unfold edgT
        simp only [show ¬ j = N'.length by omega, if_false, if_true, t2, t3]
        exact ⟨trivial, trivial⟩
  · obtain ⟨S, t1, t2, t3⟩ := hsz S0
    have ea : ix (nI a) = a := ix_nI (by omega)
    have ha0 : ¬ nI a < 0 := nI_pos (by omega)
    refine ⟨fun i => if i = N'.length then (1 + S a + (if k = 6 then S a else 0)) else S i, fun i hi => by simp only [show ¬ i = N'.length by omega, if_false]; exact t1 i hi, ?_, fun i x hi hx => ?_⟩
    · simp only [if_true, List.length_append, List.length_cons, List.length_nil]
      have h1 : (N'.length + (0 + 1) - N.length) * 2 ^ (f + 1) = 2 * ((N'.length - N.length) * 2 ^ f) + 2 ^ (f + 1) := by
        rw [show N'.length + (0 + 1) - N.length = (N'.length - N.length) + 1 by omega, Nat.add_mul, Nat.one_mul, Nat.pow_succ]
        have : (N'.length - N.length) * (2 ^ f * 2) = 2 * ((N'.length - N.length) * 2 ^ f) := by rw [Nat.mul_comm (2 ^ f) 2, Nat.mul_left_comm]
        omega
      have h2 : 1 ≤ 2 ^ (f + 1) := Nat.one_le_two_pow
      rw [h1]
      split <;> omega
    · rcases hcase i x hx with ⟨z1, z2⟩ | ⟨rfl, rfl⟩
      · have h5 := t3 i x hi z2
        have h6 := (s4 i x hi z2).1
        unfold szE at h5 ⊢
        have hsm : ∀ y : Int32, (y = -1 ∨ ∃ j, j < i ∧ y = nI j) → (if y < 0 then 0 else (if ix y = N'.length then (1 + S a + (if k = 6 then S a else 0)) else S (ix y))) = (if y < 0 then 0 else S (ix y)) := by
          intro y hy
          rcases hy with rfl | ⟨j, hj, rfl⟩
          · rfl
          · rw [ix_nI (by omega), if_neg (show ¬ j = N'.length by omega)]
        simp only [show ¬ i = N'.length by omega, if_false]
        have hl : x.2.2.1 = -1 ∨ ∃ j, j < i ∧ x.2.2.1 = nI j := by
          rcases h6 with ⟨-, e⟩ | ⟨-, e⟩ | ⟨-, -, e⟩ | ⟨-, -, -, e⟩ | ⟨-, b, hb, e⟩ | ⟨-, b, b2, hb, hb2, e⟩
          · rw [e]; exact Or.inl rfl
          · rw [e]; exact Or.inl rfl
          · rw [e]; exact Or.inl rfl
          · rw [e]; exact Or.inl rfl
          · rw [e]; exact Or.inr ⟨b, hb, rfl⟩
          · rw [e]; exact Or.inr ⟨b, by omega, rfl⟩
        have hr : x.2.2.2 = -1 ∨ ∃ j, j < i ∧ x.2.2.2 = nI j := by
          rcases h6 with ⟨-, e⟩ | ⟨-, e⟩ | ⟨-, -, e⟩ | ⟨-, -, -, e⟩ | ⟨-, b, hb, e⟩ | ⟨-, b, b2, hb, hb2, e⟩
          · rw [e]; exact Or.inl rfl
          · rw [e]; exact Or.inl rfl
          · rw [e]; exact Or.inl rfl
          · rw [e]; exact Or.inl rfl
          · rw [e]; exact Or.inl rfl
          · rw [e]; exact Or.inr ⟨b2, by omega, rfl⟩
        have hs : lySec x = -1 ∨ ∃ j, j < i ∧ lySec x = nI j := by
          unfold lySec
          split
          · exact hl
          · exact hr
        rw [hsm _ hl, hsm _ hs]
        exact h5
      · unfold szE lySec
        dsimp only
        rw [if_pos rfl, if_neg ha0, ea, if_neg (show ¬ a = N'.length by omega)]
        by_cases h6 : k = 6
        · rw [if_pos h6, if_pos h6, if_neg ha0, ea, if_neg (show ¬ a = N'.length by omega)]
        · rw [if_neg h6, if_neg h6]
          rfl
theorem rdAll_up {f : Nat} {N N' : List Nd} {a : Nat} (h : rdAll f N N' a) : rdAll (f + 1) N N' a := by
  intro hlen
  obtain ⟨h1, h2, h3, h4⟩ := h hlen
  refine ⟨h1, h2, h3, fun S0 => ?_⟩
  obtain ⟨S, t1, t2, t3⟩ := h4 S0
  refine ⟨S, t1, Nat.le_trans t2 (Nat.mul_le_mul_left _ (Nat.pow_le_pow_right (by decide) (Nat.le_succ f))), t3⟩
theorem ndK_l {x : Nd} {i : Nat} (h6 : ndK x i) : x.2.2.1 = -1 ∨ ∃ j, j < i ∧ x.2.2.1 = nI j := by
  rcases h6 with ⟨-, e⟩ | ⟨-, e⟩ | ⟨-, -, e⟩ | ⟨-, -, -, e⟩ | ⟨-, b, hb, e⟩ | ⟨-, b, b2, hb, hb2, e⟩
  · rw [e]; exact Or.inl rfl
  · rw [e]; exact Or.inl rfl
  · rw [e]; exact Or.inl rfl
  · rw [e]; exact Or.inl rfl
  · rw [e]; exact Or.inr ⟨b, hb, rfl⟩
  · rw [e]; exact Or.inr ⟨b, by omega, rfl⟩
theorem ndK_r {x : Nd} {i : Nat} (h6 : ndK x i) : x.2.2.2 = -1 ∨ ∃ j, j < i ∧ x.2.2.2 = nI j := by
  rcases h6 with ⟨-, e⟩ | ⟨-, e⟩ | ⟨-, -, e⟩ | ⟨-, -, -, e⟩ | ⟨-, b, hb, e⟩ | ⟨-, b, b2, hb, hb2, e⟩
  · rw [e]; exact Or.inl rfl
  · rw [e]; exact Or.inl rfl
  · rw [e]; exact Or.inl rfl
  · rw [e]; exact Or.inl rfl
  · rw [e]; exact Or.inl rfl
  · rw [e]; exact Or.inr ⟨b2, by omega, rfl⟩
theorem ndK_s {x : Nd} {i : Nat} (h6 : ndK x i) : lySec x = -1 ∨ ∃ j, j < i ∧ lySec x = nI j := by
  unfold lySec
  split
  · exact ndK_l h6
  · exact ndK_r h6
/-- an equation for sizes looks only at what lies inside -/
theorem szE_congr {S S' : Nat → Nat} {x : Nd} {i : Nat} (h6 : ndK x i) (hi : i < 2 ^ 31) (he : ∀ j, j ≤ i → S' j = S j) (h : szE S x i) : szE S' x i := by
  unfold szE at h ⊢
  have hsm : ∀ y : Int32, (y = -1 ∨ ∃ j, j < i ∧ y = nI j) → (if y < 0 then 0 else S' (ix y)) = (if y < 0 then 0 else S (ix y)) := by
    intro y hy
    rcases hy with rfl | ⟨j, hj, rfl⟩
    · rfl
    · rw [ix_nI (by omega), he j (by omega)]
  rw [he i (Nat.le_refl i), hsm _ (ndK_l h6), hsm _ (ndK_s h6)]
  exact h
theorem rdAll_pair {f : Nat} {N N1 N2 : List Nd} {a b : Nat} {k c : Int32} (h1 : rdAll f N N1 a) (h2 : rdAll f N1 N2 b) (hk : (k = 4 ∧ ¬ sgO c = -1) ∨ (k = 9 ∧ c = 0) ∨ (k = 10 ∧ c = 0)) : rdAll f N (N2 ++ [(k, c, nI a, nI b)]) N2.length := by
  intro hlen
  simp only [List.length_append, List.length_cons, List.length_nil] at hlen
  obtain ⟨⟨u1, u2, u3, u4⟩, up, ucx, usz⟩ := h2 (by omega)
  obtain ⟨⟨s1, s2, s3, s4⟩, hp, hcx, hsz⟩ := h1 (by omega)
  have hcase : ∀ (i : Nat) (x : Nd), (N2 ++ [(k, c, nI a, nI b)])[i]? = some x → (i < N1.length ∧ N1[i]? = some x) ∨ (N1.length ≤ i ∧ i < N2.length ∧ N2[i]? = some x) ∨ (i = N2.length ∧ x = (k, c, nI a, nI b)) := by
    intro i x hx
    rcases app_get hx with ⟨z1, z2⟩ | z
    · by_cases hi : i < N1.length
      · exact Or.inl ⟨hi, by rw [← u3 i hi]; exact z2⟩
      · exact Or.inr (Or.inl ⟨by omega, z1, z2⟩)
    · exact Or.inr (Or.inr z)
  have child : ∀ j, j < N2.length → (nI a = nI j ∨ nI b = nI j) → j = a ∨ j = b := by
    intro j hj hc
    rcases hc with z | z
    · exact Or.inl (nI_inj (by omega) (by omega) z).symm
    · exact Or.inr (nI_inj (by omega) (by omega) z).symm
  have k6 : ¬ k = 6 := by rcases hk with z | z | z <;> rw [z.1] <;> decide
  have k7 : ¬ k = 7 := by rcases hk with z | z | z <;> rw [z.1] <;> decide
  have k8 : ¬ k = 8 := by rcases hk with z | z | z <;> rw [z.1] <;> decide
  refine ⟨⟨by simp, by simp; omega, fun i hi => by rw [app_left (by omega), u3 i (by omega), s3 i hi], fun i x hi hx => ?_⟩, fun j h1 h2 => ?_, fun T0 L0 tc lc => ?_, fun S0 => ?_⟩
  · rcases hcase i x hx with ⟨z1, z2⟩ | ⟨z0, z1, z2⟩ | ⟨rfl, rfl⟩
    · exact s4 i x hi z2
    · obtain ⟨w1, w2⟩ := u4 i x z0 z2
      exact ⟨w1, fun j hj hlt => by have := w2 j hj hlt; omega⟩
    · refine ⟨Or.inr (Or.inr (Or.inr (Or.inr (Or.inr ⟨hk, a, b, by omega, by omega, rfl⟩)))), fun j hj hlt => ?_⟩
      rcases child j hlt hj with z | z <;> omega
  · by_cases hja : j < a
    · obtain ⟨i, x, z1, z2, z3⟩ := hp j h1 hja
      have hi := (List.getElem?_eq_some_iff.mp z2).1
      exact ⟨i, x, z1, by rw [app_left (by omega), u3 i hi]; exact z2, z3⟩
    · by_cases hja2 : j = a
      · subst hja2
        exact ⟨N2.length, _, by omega, app_last, Or.inl rfl⟩
      · by_cases hjb : j < b
        · obtain ⟨i, x, z1, z2, z3⟩ := up j (by omega) hjb
          exact ⟨i, x, z1, by rw [app_left ((List.getElem?_eq_some_iff.mp z2).1)]; exact z2, z3⟩
        · have : j = b := by omega
          subst this
          exact ⟨N2.length, _, by omega, app_last, Or.inr rfl⟩
  · obtain ⟨T1, L1, t1, t2, t3, t4⟩ := hcx T0 L0 tc lc
    obtain ⟨T, L, v1, v2, v3, v4⟩ := ucx T1 L1 tc lc
    refine ⟨fun i => if i = N2.length then tc else T i, fun i => if i = N2.length then lc else L i, fun i hi => ?_, by simp, by simp, fun i x hi hx j hj hc => ?_⟩
    · simp only [show ¬ i = N2.length by omega, if_false]
      have := v1 i (by omega)
      have w := t1 i hi
      exact ⟨this.1.trans w.1, this.2.trans w.2⟩
    · rcases hcase i x hx with ⟨z1, z2⟩ | ⟨z0, z1, z2⟩ | ⟨rfl, rfl⟩
      · have := t4 i x hi z2 j hj hc
        unfold edgT at this ⊢
        simp only [show ¬ i = N2.length by omega, show ¬ j = N2.length by omega, if_false]
        rw [(v1 i z1).1, (v1 i z1).2, (v1 j (by omega)).1, (v1 j (by omega)).2]
        exact this
      · have := v4 i x z0 z2 j hj hc
        unfold edgT at this ⊢
        simp only [show ¬ i = N2.length by omega, show ¬ j = N2.length by omega, if_false]
        exact this
      · unfold edgT
        simp only [k7, k8, if_false, if_true, show ¬ j = N2.length by omega]
        rw [Int32.add_zero, Int32.or_zero]
        rcases child j hj hc with rfl | rfl
        · rw [(v1 j (by omega)).1, (v1 j (by omega)).2]
          exact ⟨t2, t3⟩
        · exact ⟨v2, v3⟩
  · obtain ⟨S1, t1, t2, t3⟩ := hsz S0
    obtain ⟨S, v1, v2, v3⟩ := usz S1
    have ea : ix (nI a) = a := ix_nI (by omega)
    have eb : ix (nI b) = b := ix_nI (by omega)
    have ha0 : ¬ nI a < 0 := nI_pos (by omega)
    have hb0 : ¬ nI b < 0 := nI_pos (by omega)
    refine ⟨fun i => if i = N2.length then (1 + S a + S b) else S i, fun i hi => by simp only [show ¬ i = N2.length by omega, if_false]; rw [v1 i (by omega), t1 i hi], ?_, fun i x hi hx => ?_⟩
    · simp only [if_true, List.length_append, List.length_cons, List.length_nil]
      have hSa : S a = S1 a := v1 a (by omega)
      rw [hSa]
      have h2p : 1 ≤ 2 ^ f := Nat.one_le_two_pow
      have e1 : (N2.length + (0 + 1) - N.length) = (N1.length - N.length) + (N2.length - N1.length) + 1 := by omega
      rw [e1, Nat.add_mul, Nat.add_mul, Nat.one_mul]
      omega
    · rcases hcase i x hx with ⟨z1, z2⟩ | ⟨z0, z1, z2⟩ | ⟨rfl, rfl⟩
      · exact szE_congr (s4 i x hi z2).1 (by omega) (fun j hj => by simp only [show ¬ j = N2.length by omega, if_false]; exact v1 j (by omega)) (t3 i x hi z2)
      · exact szE_congr (u4 i x z0 z2).1 (by omega) (fun j hj => by simp only [show ¬ j = N2.length by omega, if_false]) (v3 i x z0 z2)
      · unfold szE lySec
        dsimp only
        rw [if_neg k6, if_pos rfl, if_neg ha0, if_neg hb0, ea, eb, if_neg (show ¬ a = N2.length by omega), if_neg (show ¬ b = N2.length by omega)]
/-- every reading is such a tree -/
theorem rdAll_H : rdH rdAll := by
  refine ⟨fun f N => rdAll_leaf (Or.inl ⟨rfl, rfl⟩) rfl, fun f N => rdAll_leaf (Or.inr (Or.inl ⟨rfl, rfl⟩)) rfl, fun f N c hc => rdAll_leaf (Or.inr (Or.inr (Or.inl ⟨rfl, hc, rfl⟩))) rfl, fun f N c hc => rdAll_leaf (Or.inr (Or.inr (Or.inr (Or.inl ⟨rfl, (exit_rng hc).1, (exit_rng hc).2, rfl⟩)))) rfl, fun f N N' a k c h hk => rdAll_ar h hk, fun f N N1 a N2 b c h1 h2 hc => rdAll_up (rdAll_pair h1 h2 (Or.inl ⟨rfl, hc⟩)), fun f N N1 a N2 b k h1 h2 hk => rdAll_pair h1 h2 ?_, fun f N N' a h => rdAll_up h⟩
  rcases hk with z | z
  · exact Or.inr (Or.inl ⟨z, rfl⟩)
  · exact Or.inr (Or.inr ⟨z, rfl⟩)
