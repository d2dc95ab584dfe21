/-! codes, things and safety: the reference's numbers are the class's -/
def cdR (y : Int32) : Prop := ∃ v, v < 64 ∧ y = nI v
theorem cd_7 : ∀ v, v < 64 → ((nI v &&& 3) ||| ((nI v >>> ((2 : Int32) &&& 31)) &&& 1)) ||| ((nI v >>> ((1 : Int32) &&& 31)) &&& 28) = ((nI v &&& 3) ||| (if nI v &&& 4 = 0 then 0 else 1)) ||| ((nI v >>> ((3 : Int32) &&& 31)) <<< ((2 : Int32) &&& 31)) := by decide +kernel
theorem cd_7b : ∀ v, v < 64 → (((nI v &&& 3) ||| ((nI v >>> ((2 : Int32) &&& 31)) &&& 1)) ||| ((nI v >>> ((1 : Int32) &&& 31)) &&& 28)).toNatClampNeg < 64 ∧ nI (((nI v &&& 3) ||| ((nI v >>> ((2 : Int32) &&& 31)) &&& 1)) ||| ((nI v >>> ((1 : Int32) &&& 31)) &&& 28)).toNatClampNeg = (((nI v &&& 3) ||| ((nI v >>> ((2 : Int32) &&& 31)) &&& 1)) ||| ((nI v >>> ((1 : Int32) &&& 31)) &&& 28)) := by decide +kernel
theorem cd_6 : ∀ v, v < 64 → (nI v &&& 1 = 0 ∨ nI v &&& 1 = 1) ∧ (nI v &&& 1 = 0 → nI v &&& (-2) = nI v) ∧ (nI v &&& (-2)).toNatClampNeg < 64 ∧ nI (nI v &&& (-2)).toNatClampNeg = nI v &&& (-2) := by decide +kernel
theorem cd_or : ∀ v, v < 64 → ∀ w, w < 64 → (nI v ||| nI w).toNatClampNeg < 64 ∧ nI (nI v ||| nI w).toNatClampNeg = nI v ||| nI w := by decide +kernel
theorem cd_3 : ∀ v, v < 6 → cdR ((1 : Int32) <<< (nI v &&& 31)) := by
  intro v hv
  have : ∀ v, v < 6 → ((1 : Int32) <<< (nI v &&& 31)).toNatClampNeg < 64 ∧ nI ((1 : Int32) <<< (nI v &&& 31)).toNatClampNeg = (1 : Int32) <<< (nI v &&& 31) := by decide +kernel
  exact ⟨_, (this v hv).1, (this v hv).2.symm⟩
theorem cdR_0 : cdR 0 := ⟨0, by decide, rfl⟩
theorem cdR_or {x y : Int32} (hx : cdR x) (hy : cdR y) : cdR (x ||| y) := by
  obtain ⟨v, hv, rfl⟩ := hx
  obtain ⟨w, hw, rfl⟩ := hy
  have := cd_or v hv w hw
  exact ⟨_, this.1, this.2.symm⟩
theorem cdR_6 {x : Int32} (hx : cdR x) : cdR (x &&& (-2)) := by
  obtain ⟨v, hv, rfl⟩ := hx
  have := cd_6 v hv
  exact ⟨_, this.2.2.1, this.2.2.2.symm⟩
theorem cdR_bit {x : Int32} (hx : cdR x) : (x &&& 1 = 0 ∨ x &&& 1 = 1) ∧ (x &&& 1 = 0 → x &&& (-2) = x) := by
  obtain ⟨v, hv, rfl⟩ := hx
  have := cd_6 v hv
  exact ⟨this.1, this.2.1⟩
theorem mCo_eq {x : Nd} {i : Nat} (hk : ndK x i) (hi : i < 2 ^ 31) {X Y : Int32} (hX : cdR X) (hY : cdR Y) : mCo x.1 x.2.1 x.2.2.1 X Y = cCo x.1 (mkOf x) X Y ∧ cdR (mCo x.1 x.2.1 x.2.2.1 X Y) := by
  obtain ⟨k, c, a, b⟩ := x
  have leaf : ∀ kk : Int32, ¬ kk = 1 → ¬ kk = 3 → mCo kk c (-1) X Y = 1 := by
    intro kk h1 h3
    unfold mCo
    rw [if_neg h1, if_neg h3, if_pos (by decide)]
  have one : cdR 1 := ⟨1, by decide, rfl⟩
  rcases hk with ⟨e, w⟩ | ⟨e, w⟩ | ⟨e, w1, w⟩ | ⟨e, w1, w2, w⟩ | ⟨hk, j, hj, w⟩ | ⟨hk, j, j2, hj, hj2, w⟩
  · dsimp only at e w ⊢
    cases w
    subst e
    rw [leaf 0 (by decide) (by decide)]
    exact ⟨rfl, one⟩
  · dsimp only at e w ⊢
    cases w
    subst e
    exact ⟨rfl, ⟨2, by decide, rfl⟩⟩
  · dsimp only at e w ⊢
    cases w
    subst e
    rw [leaf 2 (by decide) (by decide)]
    refine ⟨?_, one⟩
    unfold cCo
    rw [if_neg (by decide), if_neg (by decide), if_neg (by decide), if_neg (by decide), if_neg (by decide), if_neg (by decide), if_neg (by decide), if_neg (by decide), if_neg (by decide)]
  · dsimp only at e w w1 w2 ⊢
    cases w
    subst e
    have hmk : mkOf (3, c, -1, -1) = c := mkOf_no (by dsimp only; decide)
    rw [hmk]
    obtain ⟨v, hv, rfl⟩ := nI_of2 (x := c) (M := 5) (n := 5) (by decide) (Int32.not_lt.mpr (Int32.le_tr (by decide) w1)) w2
    have e1 : mCo 3 (nI v) (-1) X Y = (1 : Int32) <<< (nI v &&& 31) := by unfold mCo; rw [if_neg (by decide), if_pos rfl]
    rw [e1]
    refine ⟨?_, cd_3 v (by omega)⟩
    unfold cCo
    rw [if_neg (by decide), if_pos rfl]
  · dsimp only at hk w ⊢
    cases w
    have ha : ¬ nI j < 0 := nI_pos (by omega)
    rcases hk with ⟨e, -⟩ | ⟨e, -⟩ | ⟨e, -⟩ | ⟨e, -⟩
    · subst e
      have e1 : mCo 5 c (nI j) X Y = X := by unfold mCo; rw [if_neg (by decide), if_neg (by decide), if_neg ha, if_neg (by decide), if_neg (by decide), if_neg (by decide), if_neg (by decide), if_neg (by decide)]
      rw [e1]; refine ⟨?_, hX⟩
      unfold cCo; rw [if_neg (by decide), if_neg (by decide), if_neg (by decide), if_pos rfl]
    · subst e
      have e1 : mCo 6 c (nI j) X Y = X &&& (-2) := by unfold mCo; rw [if_neg (by decide), if_neg (by decide), if_neg ha, if_neg (by decide), if_neg (by decide), if_neg (by decide), if_pos rfl]
      rw [e1]; refine ⟨?_, cdR_6 hX⟩
      unfold cCo; rw [if_neg (by decide), if_neg (by decide), if_neg (by decide), if_neg (by decide), if_pos rfl]
    · subst e
      obtain ⟨v, hv, rfl⟩ := hX
      have e1 : mCo 7 c (nI j) (nI v) Y = ((nI v &&& 3) ||| ((nI v >>> ((2 : Int32) &&& 31)) &&& 1)) ||| ((nI v >>> ((1 : Int32) &&& 31)) &&& 28) := by unfold mCo; rw [if_neg (by decide), if_neg (by decide), if_neg ha, if_neg (by decide), if_neg (by decide), if_neg (by decide), if_neg (by decide), if_pos rfl]
      rw [e1]; refine ⟨?_, ⟨_, (cd_7b v hv).1, (cd_7b v hv).2.symm⟩⟩
      rw [cd_7 v hv]
      symm
      unfold cCo; rw [if_neg (by decide), if_neg (by decide), if_neg (by decide), if_neg (by decide), if_neg (by decide), if_pos rfl]
    · subst e
      have e1 : mCo 8 c (nI j) X Y = X := by unfold mCo; rw [if_neg (by decide), if_neg (by decide), if_neg ha, if_neg (by decide), if_neg (by decide), if_neg (by decide), if_neg (by decide), if_neg (by decide)]
      rw [e1]; refine ⟨?_, hX⟩
      unfold cCo; rw [if_neg (by decide), if_neg (by decide), if_neg (by decide), if_neg (by decide), if_neg (by decide), if_neg (by decide), if_pos rfl]
  · dsimp only at hk w ⊢
    cases w
    have ha : ¬ nI j < 0 := nI_pos (by omega)
    rcases hk with ⟨e, -⟩ | ⟨e, -⟩ | ⟨e, -⟩
    · subst e
      have e1 : mCo 4 c (nI j) X Y = X ||| Y := by unfold mCo; rw [if_neg (by decide), if_neg (by decide), if_neg ha, if_pos rfl]
      rw [e1]; refine ⟨?_, cdR_or hX hY⟩
      unfold cCo; rw [if_neg (by decide), if_neg (by decide), if_pos rfl]
    · subst e
      have e1 : mCo 9 c (nI j) X Y = if X &&& 1 = 1 then (X &&& (-2)) ||| Y else X := by unfold mCo; rw [if_neg (by decide), if_neg (by decide), if_neg ha, if_neg (by decide), if_pos rfl]
      rw [e1]
      have e2 : cCo 9 (mkOf (9, c, nI j, nI j2)) X Y = (X &&& (-2)) ||| (if X &&& 1 = 0 then 0 else Y) := by unfold cCo; rw [if_neg (by decide), if_neg (by decide), if_neg (by decide), if_neg (by decide), if_neg (by decide), if_neg (by decide), if_neg (by decide), if_pos rfl]
      rw [e2]
      obtain ⟨b1, b2⟩ := cdR_bit hX
      by_cases z : X &&& 1 = 1
      · rw [if_pos z, if_neg (by rw [z]; decide)]
        exact ⟨rfl, cdR_or (cdR_6 hX) hY⟩
      · have z0 := b1.resolve_right z
        rw [if_neg z, if_pos z0, Int32.or_zero, b2 z0]
        exact ⟨rfl, hX⟩
    · subst e
      have e1 : mCo 10 c (nI j) X Y = mGr X Y 36 := by unfold mCo; rw [if_neg (by decide), if_neg (by decide), if_neg ha, if_neg (by decide), if_neg (by decide), if_pos rfl]
      have e2 : cCo 10 (mkOf (10, c, nI j, nI j2)) X Y = cGr X Y 6 := by unfold cCo; rw [if_neg (by decide), if_neg (by decide), if_neg (by decide), if_neg (by decide), if_neg (by decide), if_neg (by decide), if_neg (by decide), if_neg (by decide), if_pos rfl]
      rw [e1, e2]
      obtain ⟨v, hv, rfl⟩ := hX
      obtain ⟨w, hw, rfl⟩ := hY
      rw [gr_t v hv w hw]
      exact ⟨rfl, ⟨_, (gr_b v hv w hw).1, (gr_b v hv w hw).2.symm⟩⟩
theorem subR {C : Nat → Int32} {y : Int32} {i : Nat} (hi : i ≤ 60) (hy : y = -1 ∨ ∃ j, j < i ∧ y = nI j) (h : ∀ j, j < i → cdR (C j)) : cdR (subC C y) := by
  unfold subC
  rcases hy with rfl | ⟨j, hj, rfl⟩
  · exact cdR_0
  · rw [if_neg (nI_pos (by omega)), ix_nI (by omega)]; exact h j hj
theorem mcd_ok {g : mvH} {N : List Nd} {a : Nat} (hN : N.length ≤ 60) (hs : rdS [] N a) (hm : mNd g N) : cdOK N (g 38) ∧ ∀ i, i < N.length → cdR (g 38 i) := by
  have key : ∀ k i, i < k → i < N.length → cdR (g 38 i) := by
    intro k
    induction k with
    | zero => intro i hi; omega
    | succ k ih =>
      intro i hi hl
      have hx := nd_get hl
      have hk := (hs.2.2.2 i _ (Nat.zero_le _) hx).1
      obtain ⟨_, _, _, _, w, _⟩ := hm.2 i _ hx
      rw [w]
      have hlt : ∀ j, j < i → cdR (g 38 j) := fun j hj => ih j (by omega) (by omega)
      exact (mCo_eq hk (by omega) (subR (by omega) (ndK_l hk) hlt) (subR (by omega) (ndK_r hk) hlt)).2
  have hR : ∀ i, i < N.length → cdR (g 38 i) := fun i hi => key (i + 1) i (by omega) hi
  refine ⟨fun i x hx => ?_, hR⟩
  have hl := (List.getElem?_eq_some_iff.mp hx).1
  have hk := (hs.2.2.2 i _ (Nat.zero_le _) hx).1
  obtain ⟨_, _, _, _, w, _⟩ := hm.2 i _ hx
  rw [w]
  have hlt : ∀ j, j < i → cdR (g 38 j) := fun j hj => hR j (by omega)
  exact (mCo_eq hk (by omega) (subR (by omega) (ndK_l hk) hlt) (subR (by omega) (ndK_r hk) hlt)).1
theorem mun_ok {g : mvH} {N : List Nd} {a : Nat} (hN : N.length ≤ 60) (hs : rdS [] N a) (hm : mNd g N) (hu : mUns g N) {C : Nat → Int32} (hC : cdOK N C) : (g 5 16 = 0 ∧ ¬ ∃ i, i < N.length ∧ unsB N C i) ∨ (g 5 16 = 1 ∧ ∃ i, i < N.length ∧ unsB N C i) := by
  obtain ⟨h1, h2⟩ := mcd_ok hN hs hm
  have hq := cd_uniq hN hs h1 hC
  have hsub : ∀ i, i < N.length → subC (g 38) (nd N i).2.2.1 = subC C (nd N i).2.2.1 ∧ cdR (subC C (nd N i).2.2.1) := by
    intro i hi
    have hk := (hs.2.2.2 i _ (Nat.zero_le _) (nd_get hi)).1
    have e := subC_congr (C := g 38) (C' := C) (i := i) (by omega) (ndK_l hk) (fun j hj => hq j (by omega))
    refine ⟨e, ?_⟩
    rw [← e]
    exact subR (i := i) (by omega) (ndK_l hk) (fun j hj => h2 j (by omega))
  rcases hu with ⟨u1, u2⟩ | ⟨u1, i, x, u2, u3, u4⟩
  · refine Or.inl ⟨u1, fun ⟨i, hi, z⟩ => ?_⟩
    have := u2 i _ (nd_get hi) z.1
    rw [(hsub i hi).1] at this
    rcases (cdR_bit (hsub i hi).2).1 with w | w
    · exact z.2 w
    · exact this w
  · have hi := (List.getElem?_eq_some_iff.mp u2).1
    have hx : nd N i = x := by have := nd_get hi; rw [u2] at this; exact (Option.some.inj this).symm
    refine Or.inr ⟨u1, i, hi, by rw [hx]; exact u3, ?_⟩
    rw [← (hsub i hi).1, hx, u4]
    decide
theorem mth_ok {g : mvH} {N : List Nd} {a : Nat} (hN : N.length ≤ 60) (hs : rdS [] N a) (hm : mNd g N) {S : Nat → Nat} (hS : szOK N S) : ∀ i, i < N.length → g 39 i = nI (S i) := by
  have key : ∀ k i, i < k → i < N.length → g 39 i = nI (S i) := by
    intro k
    induction k with
    | zero => intro i hi; omega
    | succ k ih =>
      intro i hi hl
      have hx := nd_get hl
      have hk := (hs.2.2.2 i _ (Nat.zero_le _) hx).1
      obtain ⟨_, _, _, _, _, w⟩ := hm.2 i _ hx
      unfold mThE at w
      have hSi := hS i _ hx
      unfold szE at hSi
      have hsub : ∀ y : Int32, (y = -1 ∨ ∃ j, j < i ∧ y = nI j) → (if y < 0 then (0 : Int32) else g 39 (ix y)) = nI (if y < 0 then 0 else S (ix y)) := by
        intro y hy
        rcases hy with rfl | ⟨j, hj, rfl⟩
        · rfl
        · rw [if_neg (nI_pos (by omega)), if_neg (nI_pos (by omega)), ix_nI (by omega), ih j (by omega) (by omega)]
      rw [w, hSi, ← nI_add, ← nI_add]
      by_cases h6 : (nd N i).1 = 6
      · have hr : (nd N i).2.2.2 = -1 ∧ ∃ j, j < i ∧ (nd N i).2.2.1 = nI j := by
          rcases hk with ⟨e, -⟩ | ⟨e, -⟩ | ⟨e, -⟩ | ⟨e, -⟩ | ⟨-, j, hj, e⟩ | ⟨⟨e, -⟩ | ⟨e, -⟩ | ⟨e, -⟩, -⟩
          all_goals first | (rw [e] at h6; exact absurd h6 (by decide)) | skip
          rw [e]; exact ⟨rfl, j, hj, rfl⟩
        obtain ⟨r1, j, hj, r2⟩ := hr
        have e1 : lySec (nd N i) = nI j := by unfold lySec; rw [if_pos h6, r2]
        have hj0 : ¬ nI j < 0 := nI_pos (by omega)
        rw [e1, r1, r2, if_neg hj0, if_pos h6, if_pos (by decide), if_neg hj0, ix_nI (by omega), ih j (by omega) (by omega), Int32.add_zero, Int32.two_mul, Int32.add_assoc]
        rfl
      · have e1 : lySec (nd N i) = (nd N i).2.2.2 := by unfold lySec; rw [if_neg h6]
        have e2 : (if (nd N i).2.2.1 < 0 then (0 : Int32) else if (nd N i).1 = 6 then 2 * g 39 (ix (nd N i).2.2.1) else g 39 (ix (nd N i).2.2.1)) = (if (nd N i).2.2.1 < 0 then (0 : Int32) else g 39 (ix (nd N i).2.2.1)) := by rw [if_neg h6]
        rw [e1, e2, hsub _ (ndK_l hk), hsub _ (ndK_r hk)]
        rfl
  exact fun i hi => key (i + 1) i (by omega) hi
