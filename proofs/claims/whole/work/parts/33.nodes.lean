/-! WHAT IS READ IS A TREE: one induction over reading, and what follows from it -/
section RI
variable {tx : Nat → Int32} {n : Nat} (P : Nat → List Nd → List Nd → Nat → Prop)
def rdH (P : Nat → List Nd → List Nd → Nat → Prop) : Prop :=
  (∀ f N, P (f + 1) N (N ++ [(0, 0, -1, -1)]) N.length) ∧ (∀ f N, P (f + 1) N (N ++ [(1, 0, -1, -1)]) N.length) ∧
  (∀ f N c, ¬ sgO c < 4 → P (f + 1) N (N ++ [(2, c, -1, -1)]) N.length) ∧ (∀ f N c, ¬ (c < 50 ∨ 53 < c) → P (f + 1) N (N ++ [(3, c - 48, -1, -1)]) N.length) ∧
  (∀ f N N' a k c, P f N N' a → ((k = 5 ∧ ¬ sgO c = -1) ∨ (k = 6 ∧ c = 0) ∨ (k = 7 ∧ c = 0) ∨ (k = 8 ∧ ¬ sgO c < 8)) → P (f + 1) N (N' ++ [(k, c, nI a, -1)]) N'.length) ∧
  (∀ f N N1 a N2 b c, P f N N1 a → P f N1 N2 b → ¬ sgO c = -1 → P (f + 1) N (N2 ++ [(4, c, nI a, nI b)]) N2.length) ∧
  (∀ f N N1 a N2 b k, P f N N1 a → P f N1 N2 b → (k = 9 ∨ k = 10) → P f N (N2 ++ [(k, 0, nI a, nI b)]) N2.length) ∧
  (∀ f N N' a, P f N N' a → P (f + 1) N N' a)
def rdR (P : Nat → List Nd → List Nd → Nat → Prop) (f : Nat) (u : Nat → List Nd → Option rdT) : Prop := ∀ p N p' N' a, u p N = some (p', N', a) → P f N N' a
theorem rdR_pl {P : Nat → List Nd → List Nd → Nat → Prop} (hP : rdH P) {f : Nat} {u : Nat → List Nd → Option rdT} (hu : rdR P f u) {k c : Int32} (hk : k = 9 ∨ k = 10) {N0 : List Nd} : ∀ m l p N, P f N0 N l → ∀ p' N' a, rdPl tx n u k c m l p N = some (p', N', a) → P f N0 N' a := by
  intro m
  induction m with
  | zero => intro l p N hp p' N' a h; cases h; exact hp
  | succ m ih =>
    intro l p N hp p' N' a h
    unfold rdPl at h
    split at h
    · split at h
      · cases h
      · rename_i p2 N2 r he
        exact ih _ _ _ (hP.2.2.2.2.2.2.1 f N0 N l N2 r k hp (hu _ _ _ _ _ he) hk) p' N' a h
    · cases h; exact hp
theorem rdR_par {P : Nat → List Nd → List Nd → Nat → Prop} (hP : rdH P) {f : Nat} {u : Nat → List Nd → Option rdT} (hu : rdR P f u) : rdR P f (rdPar tx n u) := by
  intro p N p' N' a h
  unfold rdPar at h
  split at h
  · cases h
  · rename_i p1 N1 l he
    exact rdR_pl hP hu (Or.inr rfl) _ _ _ _ (hu _ _ _ _ _ he) _ _ _ h
theorem rdR_seq {P : Nat → List Nd → List Nd → Nat → Prop} (hP : rdH P) {f : Nat} {u : Nat → List Nd → Option rdT} (hu : rdR P f u) : rdR P f (rdSeq tx n u) := by
  intro p N p' N' a h
  unfold rdSeq at h
  split at h
  · cases h
  · rename_i p1 N1 l he
    exact rdR_pl hP (rdR_par hP hu) (Or.inl rfl) _ _ _ _ (rdR_par hP hu _ _ _ _ _ he) _ _ _ h
theorem rdAr_inv {k c : Int32} {o : Option rdT} {p' : Nat} {N' : List Nd} {a : Nat} (h : rdAr k c o = some (p', N', a)) : ∃ N1 a1, o = some (p', N1, a1) ∧ N' = N1 ++ [(k, c, nI a1, -1)] ∧ a = N1.length := by
  match o, h with
  | some (p1, N1, a1), h =>
    unfold rdAr at h
    dsimp only at h
    cases h
    exact ⟨N1, a1, rfl, rfl, rfl⟩
theorem rdCl_inv {c : Int32} {o : Option rdT} {p' : Nat} {N' : List Nd} {a : Nat} (h : rdCl tx n c o = some (p', N', a)) : ∃ p1, o = some (p1, N', a) ∧ p1 < n ∧ tx p1 = c ∧ p' = p1 + 1 := by
  match o, h with
  | some (p1, N1, a1), h =>
    unfold rdCl at h
    dsimp only at h
    split at h
    · rename_i hc
      cases h
      exact ⟨p1, rfl, hc.1, hc.2, rfl⟩
    · cases h
theorem rdR_unit {P : Nat → List Nd → List Nd → Nat → Prop} (hP : rdH P) : ∀ f, rdR P f (rdU tx n f) := by
  intro f
  induction f with
  | zero => intro p N p' N' a h; cases h
  | succ f ih =>
    intro p N p' N' a h
    obtain ⟨q0, q1, q2, q3, q4, q5, q6, q7⟩ := id hP
    unfold rdU at h
    dsimp only at h
    split at h
    · cases h; exact q0 f N
    split at h
    · cases h; exact q1 f N
    split at h
    · split at h
      · cases h
      · rename_i hc; cases h; exact q2 f N _ hc
    split at h
    · split at h
      · cases h
      · rename_i hc; cases h; exact q3 f N _ hc
    split at h
    · split at h
      · cases h
      · rename_i hc
        split at h
        · cases h
        · rename_i p3 N3 a3 he
          split at h
          · split at h
            · cases h
            · rename_i p4 N4 b4 he2
              cases h
              exact q5 f N N3 a3 N4 b4 _ (ih _ _ _ _ _ he) (ih _ _ _ _ _ he2) hc
          · cases h
    split at h
    · split at h
      · cases h
      · rename_i hc
        obtain ⟨N1, a1, e1, e2, e3⟩ := rdAr_inv h
        subst e2; subst e3
        exact q4 f N N1 a1 5 _ (ih _ _ _ _ _ e1) (Or.inl ⟨rfl, hc⟩)
    split at h
    · obtain ⟨N1, a1, e1, e2, e3⟩ := rdAr_inv h
      subst e2; subst e3
      exact q4 f N N1 a1 6 _ (ih _ _ _ _ _ e1) (Or.inr (Or.inl ⟨rfl, rfl⟩))
    split at h
    · split at h
      · cases h
      · rename_i hc
        obtain ⟨N1, a1, e1, e2, e3⟩ := rdAr_inv h
        subst e2; subst e3
        exact q4 f N N1 a1 8 _ (ih _ _ _ _ _ e1) (Or.inr (Or.inr (Or.inr ⟨rfl, hc⟩)))
    split at h
    · obtain ⟨N1, a1, e1, e2, e3⟩ := rdAr_inv h
      subst e2; subst e3
      obtain ⟨p1, e4, -⟩ := rdCl_inv e1
      exact q4 f N N1 a1 7 _ (rdR_seq hP ih _ _ _ _ _ e4) (Or.inr (Or.inr (Or.inl ⟨rfl, rfl⟩)))
    split at h
    · obtain ⟨p1, e4, -⟩ := rdCl_inv h
      exact q7 f N N' a (rdR_seq hP ih _ _ _ _ _ e4)
    · cases h
end RI
/-- the shape of a node, by its kind -/
def ndK (x : Nd) (i : Nat) : Prop :=
  (x.1 = 0 ∧ x.2 = (0, -1, -1)) ∨ (x.1 = 1 ∧ x.2 = (0, -1, -1)) ∨ (x.1 = 2 ∧ ¬ sgO x.2.1 < 4 ∧ x.2.2 = (-1, -1)) ∨ (x.1 = 3 ∧ 2 ≤ x.2.1 ∧ x.2.1 ≤ 5 ∧ x.2.2 = (-1, -1)) ∨
  (((x.1 = 5 ∧ ¬ sgO x.2.1 = -1) ∨ (x.1 = 6 ∧ x.2.1 = 0) ∨ (x.1 = 7 ∧ x.2.1 = 0) ∨ (x.1 = 8 ∧ ¬ sgO x.2.1 < 8)) ∧ ∃ a, a < i ∧ x.2.2 = (nI a, -1)) ∨
  (((x.1 = 4 ∧ ¬ sgO x.2.1 = -1) ∨ (x.1 = 9 ∧ x.2.1 = 0) ∨ (x.1 = 10 ∧ x.2.1 = 0)) ∧ ∃ a b, a < b ∧ b < i ∧ x.2.2 = (nI a, nI b))
/-- reading makes nodes of these shapes, in a tree: a root that is last, each other one with one parent -/
def rdS (N N' : List Nd) (a : Nat) : Prop := a + 1 = N'.length ∧ N.length < N'.length ∧ (∀ i, i < N.length → N'[i]? = N[i]?) ∧ ∀ (i : Nat) (x : Nd), N.length ≤ i → N'[i]? = some x → ndK x i ∧ (∀ j, (x.2.2.1 = nI j ∨ x.2.2.2 = nI j) → j < i → N.length ≤ j)
theorem exit_rng {c : Int32} (h : ¬ (c < 50 ∨ 53 < c)) : 2 ≤ c - 48 ∧ c - 48 ≤ 5 := by
  have h1 : 50 ≤ c := Int32.not_lt.mp (fun z => h (Or.inl z))
  have h2 : c ≤ 53 := Int32.not_lt.mp (fun z => h (Or.inr z))
  obtain ⟨j, hj, rfl⟩ := nI_of2 (x := c) (M := 53) (n := 53) (by decide) (Int32.not_lt.mpr (Int32.le_tr (by decide) h1)) h2
  have hj2 : 50 ≤ j := (nI_leI (by decide) (by omega)).mp (show nI 50 ≤ nI j from h1)
  rw [show (48 : Int32) = nI 48 by decide, pk_sub (by omega)]
  exact ⟨nI_le (a := 2) (by omega) (by omega), nI_le (b := 5) (by omega) (by decide)⟩
