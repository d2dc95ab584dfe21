/-! TREE.refusalOf, in the words of the mathematics -/
def prs (tx : Nat → Int32) (n : Nat) : Option rdT := rdSeq tx n (rdU tx n 12) 0 []
/-- traps and locals around, for every node of a whole line -/
def annOK (N : List Nd) (T L : Nat → Int32) : Prop := T (N.length - 1) = 0 ∧ L (N.length - 1) = 0 ∧ ∀ (i : Nat) (x : Nd), N[i]? = some x → ∀ j, j < i → (x.2.2.1 = nI j ∨ x.2.2.2 = nI j) → edgT T L x i j
def subC (C : Nat → Int32) (y : Int32) : Int32 := if y < 0 then 0 else C (ix y)
def cdOK (N : List Nd) (C : Nat → Int32) : Prop := ∀ (i : Nat) (x : Nd), N[i]? = some x → C i = cCo x.1 (mkOf x) (subC C x.2.2.1) (subC C x.2.2.2)
def szOK (N : List Nd) (S : Nat → Nat) : Prop := ∀ (i : Nat) (x : Nd), N[i]? = some x → szE S x i
def lieB (N : List Nd) (T L : Nat → Int32) (i : Nat) : Prop := cLr (nd N i).1 (mkOf (nd N i)) (T i) (L i) = 0
def unsB (N : List Nd) (C : Nat → Int32) (i : Nat) : Prop := (nd N i).1 = 6 ∧ ¬ subC C (nd N i).2.2.1 &&& 1 = 0
noncomputable def refV (N : List Nd) (T L C : Nat → Int32) (S : Nat → Nat) : Int32 :=
  @ite _ (∃ i, i < N.length ∧ lieB N T L i) (Classical.propDecidable _) (-2) (@ite _ (∃ i, i < N.length ∧ unsB N C i) (Classical.propDecidable _) (-3) (if 120 < S (N.length - 1) then -4 else 0))
/-- what holds of a line that is a SEQ -/
theorem prs_all {tx : Nat → Int32} {n p' a : Nat} {N : List Nd} (hn : n ≤ 60) (h : prs tx n = some (p', N, a)) : p' ≤ n ∧ N.length ≤ p' ∧ a + 1 = N.length ∧ rdS [] N a ∧ parP [] N a ∧ ctxP [] N a ∧ szP 12 [] N a := by
  have hok := rdSeq_ok (tx := tx) (rdU_ok (tx := tx) (n := n) 12) 0 [] (Nat.zero_le n)
  unfold prs at h
  rw [h] at hok
  obtain ⟨k1, k2, k3, k4, k5⟩ := hok
  have hall := rdR_seq (tx := tx) (n := n) rdAll_H (rdR_unit (tx := tx) (n := n) rdAll_H 12) _ _ _ _ _ h
  simp at k3
  obtain ⟨h1, h2, h3, h4⟩ := hall (by omega)
  exact ⟨k2, k3, k4, h1, h2, h3, h4⟩
theorem ann_ex {tx : Nat → Int32} {n p' a : Nat} {N : List Nd} (hn : n ≤ 60) (h : prs tx n = some (p', N, a)) : ∃ T L, annOK N T L := by
  obtain ⟨_, _, ha, _, _, hc, _⟩ := prs_all hn h
  obtain ⟨T, L, _, t2, t3, t4⟩ := hc (fun _ => 0) (fun _ => 0) 0 0
  have e : N.length - 1 = a := by omega
  exact ⟨T, L, by rw [e]; exact t2, by rw [e]; exact t3, fun i x hx => t4 i x (Nat.zero_le _) hx⟩
theorem sz_ex {tx : Nat → Int32} {n p' a : Nat} {N : List Nd} (hn : n ≤ 60) (h : prs tx n = some (p', N, a)) : ∃ S, szOK N S ∧ S (N.length - 1) < 2 ^ 20 := by
  obtain ⟨_, hl, ha, _, _, _, hs⟩ := prs_all hn h
  obtain ⟨S, _, t2, t3⟩ := hs (fun _ => 0)
  refine ⟨S, fun i x hx => t3 i x (Nat.zero_le _) hx, ?_⟩
  rw [show N.length - 1 = a by omega]
  simp at t2
  omega
section RF
variable {d : Nat} {h : mvH} {Q : Option mvV → mvH → Prop}
theorem TrOK_nd {N : List Nd} (ht : TrOK h N) {i : Nat} (hi : i < N.length) : h 8 i = (nd N i).1 ∧ h 9 i = mkOf (nd N i) ∧ h 10 i = (nd N i).2.2.1 ∧ h 11 i = (nd N i).2.2.2 := ht.2 i _ (nd_get hi)
theorem cIns_sub {q : Nat} {y : Int32} {i : Nat} (hi : i ≤ 60) (hy : y = -1 ∨ ∃ j, j < i ∧ y = nI j) : cIns h q y = subC (h q) y := by
  unfold cIns subC
  rcases hy with rfl | ⟨j, hj, rfl⟩
  · rfl
  · rw [if_neg (nI_pos (by omega)), if_neg (nI_pos (by omega)), if_neg (show ¬ (60 : Int32) ≤ nI j from nI_ge (b := 60) (by omega) (by decide))]
theorem subC_congr {C C' : Nat → Int32} {y : Int32} {i : Nat} (hi : i ≤ 60) (hy : y = -1 ∨ ∃ j, j < i ∧ y = nI j) (he : ∀ j, j < i → C j = C' j) : subC C y = subC C' y := by
  unfold subC
  rcases hy with rfl | ⟨j, hj, rfl⟩
  · rfl
  · rw [ix_nI (by omega), he j hj]
theorem cCd_keep : ∀ k j i, i < k → (cCd h (k + j)) 12 i = (cCd h k) 12 i := by
  intro k j
  induction j with
  | zero => intro i _; rfl
  | succ j ih =>
    intro i hi
    rw [show k + (j + 1) = (k + j) + 1 by omega]
    show hset (cCd h (k + j)) 12 (k + j) _ 12 i = _
    rw [hset_at, if_neg (by omega), ih i hi]
theorem cd_fold {N : List Nd} {a : Nat} (hN : N.length ≤ 60) (hs : rdS [] N a) (ht : TrOK h N) : cdOK N ((cCd h N.length) 12) := by
  intro i x hx
  have hi := (List.getElem?_eq_some_iff.mp hx).1
  have hk := (hs.2.2.2 i x (Nat.zero_le _) hx).1
  obtain ⟨t8, t9, t10, t11⟩ := ht.2 i x hx
  have e1 : (cCd h N.length) 12 i = (cCd h (i + 1)) 12 i := by
    have := cCd_keep (h := h) (i + 1) (N.length - (i + 1)) i (by omega)
    rwa [show i + 1 + (N.length - (i + 1)) = N.length by omega] at this
  have e2 : ∀ j, j < i → (cCd h i) 12 j = (cCd h N.length) 12 j := by
    intro j hj
    have := cCd_keep (h := h) i (N.length - i) j hj
    rw [show i + (N.length - i) = N.length by omega] at this
    exact this.symm
  rw [e1]
  show hset (cCd h i) 12 i _ 12 i = _
  rw [hset_at, if_pos rfl, cCd_o i 8 (by decide), cCd_o i 9 (by decide), cCd_o i 10 (by decide), cCd_o i 11 (by decide), t8, t9, t10, t11, cIns_sub (by omega) (ndK_l hk), cIns_sub (by omega) (ndK_r hk), subC_congr (by omega) (ndK_l hk) e2, subC_congr (by omega) (ndK_r hk) e2]
/-- codes are what the equations say: there is one solution -/
theorem cd_uniq {N : List Nd} {a : Nat} (hN : N.length ≤ 60) (hs : rdS [] N a) {C C' : Nat → Int32} (h1 : cdOK N C) (h2 : cdOK N C') : ∀ i, i < N.length → C i = C' i := by
  have key : ∀ k i, i < k → i < N.length → C i = C' i := by
    intro k
    induction k with
    | zero => intro i hi; omega
    | succ k ih =>
      intro i hi hl
      have hx := nd_get hl
      have hk := (hs.2.2.2 i _ (Nat.zero_le _) hx).1
      rw [h1 i _ hx, h2 i _ hx]
      have hlt : ∀ j, j < i → C j = C' j := fun j hj => ih j (by omega) (by omega)
      rw [subC_congr (by omega) (ndK_l hk) hlt, subC_congr (by omega) (ndK_r hk) hlt]
  exact fun i hi => key (i + 1) i (by omega) hi
theorem sf_iff {N : List Nd} {a : Nat} (hN : N.length ≤ 60) (hs : rdS [] N a) (ht : TrOK h N) {C : Nat → Int32} (hC : cdOK N C) {t : Nat} (htl : t < N.length) : cSf h t ↔ ¬ unsB N C t := by
  have hk := (hs.2.2.2 t _ (Nat.zero_le _) (nd_get htl)).1
  obtain ⟨t8, t9, t10, t11⟩ := TrOK_nd ht htl
  unfold cSf unsB
  rw [t8, t10, cIns_sub (i := t) (by omega) (ndK_l hk)]
  have e : subC ((cCd h (t + 1)) 12) (nd N t).2.2.1 = subC C (nd N t).2.2.1 := by
    refine subC_congr (i := t) (by omega) (ndK_l hk) (fun j hj => ?_)
    have := cCd_keep (h := h) (t + 1) (N.length - (t + 1)) j (by omega)
    rw [show t + 1 + (N.length - (t + 1)) = N.length by omega] at this
    rw [← this]
    exact cd_uniq hN hs (cd_fold hN hs ht) hC j (by omega)
  rw [e]
  constructor
  · intro z w; exact w.2 (z w.1)
  · intro z w
    rcases Classical.em (subC C (nd N t).2.2.1 &&& 1 = 0) with q | q
    · exact q
    · exact absurd ⟨w, q⟩ z
theorem cTh_keep : ∀ k j i, i < k → (cTh h (k + j)) 13 i = (cTh h k) 13 i := by
  intro k j
  induction j with
  | zero => intro i _; rfl
  | succ j ih =>
    intro i hi
    rw [show k + (j + 1) = (k + j) + 1 by omega]
    show hset (cTh h (k + j)) 13 (k + j) _ 13 i = _
    rw [hset_at, if_neg (by omega), ih i hi]
theorem th_fold {N : List Nd} {a : Nat} (hN : N.length ≤ 60) (hs : rdS [] N a) (ht : TrOK h N) {S : Nat → Nat} (hS : szOK N S) : ∀ i, i < N.length → (cTh h N.length) 13 i = nI (S i) := by
  have key : ∀ k i, i < k → i < N.length → (cTh h N.length) 13 i = nI (S i) := by
    intro k
    induction k with
    | zero => intro i hi; omega
    | succ k ih =>
      intro i hi hl
      have hx := nd_get hl
      have hk := (hs.2.2.2 i _ (Nat.zero_le _) hx).1
      obtain ⟨t8, t9, t10, t11⟩ := TrOK_nd ht hl
      have e1 : (cTh h N.length) 13 i = (cTh h (i + 1)) 13 i := by
        have := cTh_keep (h := h) (i + 1) (N.length - (i + 1)) i (by omega)
        rwa [show i + 1 + (N.length - (i + 1)) = N.length by omega] at this
      have e2 : ∀ j, j < i → (cTh h i) 13 j = nI (S j) := by
        intro j hj
        have := cTh_keep (h := h) i (N.length - i) j hj
        rw [show i + (N.length - i) = N.length by omega] at this
        rw [← this]
        exact ih j (by omega) (by omega)
      have hsub : ∀ y : Int32, (y = -1 ∨ ∃ j, j < i ∧ y = nI j) → cIns (cTh h i) 13 y = nI (if y < 0 then 0 else S (ix y)) := by
        intro y hy
        rw [cIns_sub (i := i) (by omega) hy]
        unfold subC
        rcases hy with rfl | ⟨j, hj, rfl⟩
        · rfl
        · rw [if_neg (nI_pos (by omega)), if_neg (nI_pos (by omega)), ix_nI (by omega), e2 j hj]
      rw [e1, hS i _ hx]
      show hset (cTh h i) 13 i _ 13 i = _
      rw [hset_at, if_pos rfl, cTh_o i 8 (by decide), cTh_o i 10 (by decide), cTh_o i 11 (by decide), t8, t10, t11, hsub _ (ndK_l hk), ← nI_add, ← nI_add]
      have e3 : (if (nd N i).1 = 6 then nI (if (nd N i).2.2.1 < 0 then 0 else S (ix (nd N i).2.2.1)) else cIns (cTh h i) 13 (nd N i).2.2.2) = nI (if lySec (nd N i) < 0 then 0 else S (ix (lySec (nd N i)))) := by
        unfold lySec
        by_cases h6 : (nd N i).1 = 6
        · rw [if_pos h6, if_pos h6]
        · rw [if_neg h6, if_neg h6, hsub _ (ndK_r hk)]
      rw [e3]
      rfl
  exact fun i hi => key (i + 1) i (by omega) hi
end RF
