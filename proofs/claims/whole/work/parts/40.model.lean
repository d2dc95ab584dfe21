/-! THE REFERENCE: its small methods -/
section M1
variable {d : Nat} {h : mvH} {Q : Option mvV → mvH → Prop}
theorem s_X5_type (hd : 1 ≤ d) (c : Int32) {n : Nat} (hn : h 5 1 = nI n) (hn2 : n ≤ 60) (hbad : (c < 33 ∨ 126 < c ∨ n = 60) → Q (some (.inl 0)) h) (hok : 33 ≤ c → c ≤ 126 → n < 60 → Q (some (.inl 1)) (hset (hset h 33 n c) 5 1 (nI (n + 1)))) : mvCal mvMT d 96 [.inr 5, .inl c] h Q := by
  obtain ⟨d, rfl⟩ := d_pos hd (by decide)
  refine ⟨⟨rfl, by decide, rfl⟩, Nat.le_of_ble_eq_true rfl, fun K hK => hK _ _ _ _ ⟨fun e => ?_, fun e => ⟨fun e2 => ?_, fun e2 => ⟨fun e3 => ?_, fun e3 => ?_⟩⟩⟩⟩
  · exact hK _ _ _ _ ⟨Or.inl rfl, hbad (Or.inl e)⟩
  · exact hK _ _ _ _ ⟨Or.inl rfl, hbad (Or.inr (Or.inl e2))⟩
  · have hlt : n < 60 := by
      rcases Nat.lt_or_ge n 60 with z | z
      · exact z
      · obtain rfl : n = 60 := by omega
        exact absurd (by rw [hn]; decide) e3
    refine hK _ _ _ _ ⟨by rw [hn]; exact vp_in_nI hlt (by decide), ?_⟩
    refine ⟨Or.inr rfl, ?_⟩
    have h1 := hok (Int32.not_lt.mp e) (Int32.not_lt.mp e2) hlt
    refine mvqh h1 rfl ?_
    show hset (hset h 33 (h 5 1).toNatClampNeg c) 5 1 (hset h 33 (h 5 1).toNatClampNeg c 5 1 + 1) = _
    rw [hset_other (by decide), hn, nI_clamp (by omega), nI_1]
  · have h60 : n = 60 := by
      rw [hn] at e3
      exact nI_inj (by omega) (by decide) (show nI n = nI 60 from e3)
    exact hK _ _ _ _ ⟨Or.inl rfl, hbad (Or.inr (Or.inr h60))⟩
theorem s_X5_wipe (hd : 1 ≤ d) (hQ : Q none (hset h 5 1 0)) : mvCal mvMT d 97 [.inr 5] h Q := by
  obtain ⟨d, rfl⟩ := d_pos hd (by decide)
  exact ⟨⟨rfl, by decide, rfl⟩, Nat.le_of_ble_eq_true rfl, fun K hK => hK _ _ _ _ hQ⟩
theorem s_X5_in (hd : 1 ≤ d) (c a b : Int32) (hQ : Q (some (.inl (if a ≤ c ∧ c ≤ b then 1 else 0))) h) : mvCal mvMT d 98 [.inl c, .inl a, .inl b] h Q := by
  obtain ⟨d, rfl⟩ := d_pos hd (by decide)
  refine ⟨rfl, Nat.le_of_ble_eq_true rfl, fun K hK => hK _ _ _ _ ⟨fun e => ?_, fun e => ⟨fun e2 => ?_, fun e2 => ?_⟩⟩⟩
  · repeat refine hK _ _ _ _ ?_
    exact ⟨Or.inl rfl, mvq hQ (by rw [if_neg (fun z => Int32.not_le.mpr e z.1)])⟩
  · repeat refine hK _ _ _ _ ?_
    exact ⟨Or.inl rfl, mvq hQ (by rw [if_neg (fun z => Int32.not_le.mpr e2 z.2)])⟩
  · repeat refine hK _ _ _ _ ?_
    exact ⟨Or.inr rfl, mvq hQ (by rw [if_pos ⟨Int32.not_lt.mp e, Int32.not_lt.mp e2⟩])⟩
theorem s_X5_at (hd : 1 ≤ d) {n k : Nat} (hn : h 5 1 = nI n) (hn2 : n ≤ 60) (hk : k < 2 ^ 31) (hQ : Q (some (.inl (if k < n then h 33 k else 0))) h) : mvCal mvMT d 99 [.inr 5, .inl (nI k)] h Q := by
  obtain ⟨d, rfl⟩ := d_pos hd (by decide)
  refine ⟨⟨rfl, by decide, rfl⟩, Nat.le_of_ble_eq_true rfl, fun K hK => hK _ _ _ _ ⟨fun e => ?_, fun e => ?_⟩⟩
  · have hkn : ¬ k < n := by rw [hn, nI_leI (by omega) hk] at e; omega
    repeat refine hK _ _ _ _ ?_
    exact ⟨trivial, mvq hQ (by rw [if_neg hkn])⟩
  · have hkn : k < n := by rw [hn, nI_leI (by omega) hk] at e; omega
    refine ⟨vp_in_nI (by omega) (by decide), ?_⟩
    rw [nI_clamp hk]
    repeat refine hK _ _ _ _ ?_
    exact ⟨trivial, mvq hQ (by rw [if_pos hkn])⟩
def isSg (c : Int32) : Prop := (97 ≤ c ∧ c ≤ 104) ∨ (115 ≤ c ∧ c ≤ 122)
theorem s_X5_isSignal (hd : 2 ≤ d) (c : Int32) (hy : isSg c → Q (some (.inl 1)) h) (hn : ¬ isSg c → Q (some (.inl 0)) h) : mvCal mvMT d 106 [.inl c] h Q := by
  obtain ⟨d, rfl⟩ := d_pos hd (by decide)
  refine ⟨rfl, Nat.le_of_ble_eq_true rfl, fun K hK => hK _ _ _ _ ?_⟩
  refine s_X5_in (by omega) _ _ _ ?_
  by_cases h1 : 97 ≤ c ∧ c ≤ 104
  · rw [if_pos h1]
    refine ⟨fun _ => ?_, fun e => absurd e (by decide)⟩
    repeat refine hK _ _ _ _ ?_
    exact ⟨Or.inr rfl, hy (Or.inl h1)⟩
  · rw [if_neg h1]
    refine ⟨fun e => absurd rfl e, fun _ => ?_⟩
    refine s_X5_in (by omega) _ _ _ ?_
    by_cases h2 : 115 ≤ c ∧ c ≤ 122
    · rw [if_pos h2]
      refine ⟨fun e => absurd e (by decide), fun _ => ?_⟩
      repeat refine hK _ _ _ _ ?_
      exact ⟨Or.inr rfl, hy (Or.inr h2)⟩
    · rw [if_neg h2]
      refine ⟨fun _ => ?_, fun e => absurd rfl e⟩
      repeat refine hK _ _ _ _ ?_
      exact ⟨Or.inl rfl, hn (fun z => z.elim h1 h2)⟩
theorem isSg_iff (c : Int32) : isSg c ↔ ¬ sgO c = -1 := by
  unfold isSg sgO
  constructor
  · intro z
    rcases z with z | z
    · rw [if_pos z]
      obtain ⟨j, hj, rfl⟩ := nI_of2 (x := c) (M := 104) (n := 104) (by decide) (Int32.not_lt.mpr (Int32.le_tr (by decide) z.1)) z.2
      have h97 : 97 ≤ j := (nI_leI (by decide) (by omega)).mp (show nI 97 ≤ nI j from z.1)
      rw [show (97 : Int32) = nI 97 by decide, pk_sub h97]
      exact nI_nm1 (by omega)
    · split
      · rename_i w
        obtain ⟨j, hj, rfl⟩ := nI_of2 (x := c) (M := 104) (n := 104) (by decide) (Int32.not_lt.mpr (Int32.le_tr (by decide) w.1)) w.2
        have h97 : 97 ≤ j := (nI_leI (by decide) (by omega)).mp (show nI 97 ≤ nI j from w.1)
        rw [show (97 : Int32) = nI 97 by decide, pk_sub h97]
        exact nI_nm1 (by omega)
      · obtain ⟨j, hj, rfl⟩ := nI_of2 (x := c) (M := 122) (n := 122) (by decide) (Int32.not_lt.mpr (Int32.le_tr (by decide) z.1)) z.2
        have h115 : 115 ≤ j := (nI_leI (by decide) (by omega)).mp (show nI 115 ≤ nI j from z.1)
        rw [show (115 : Int32) = nI 115 by decide, pk_sub h115, show (8 : Int32) = nI 8 by decide, nI_add]
        exact nI_nm1 (by omega)
  · intro z
    split at z
    · rename_i w; exact Or.inl w
    · split at z
      · rename_i w; exact Or.inr w
      · exact absurd rfl z
/-- the reference's greater codes: of pairs, the first i of 36 -/
def mGr (x y : Int32) : Nat → Int32
  | 0 => 0
  | i + 1 => let a := nI i / 6
    let b := nI i - nI i / 6 * 6
    if (x >>> (a &&& 31)) &&& 1 = 1 ∧ (y >>> (b &&& 31)) &&& 1 = 1 then mGr x y i ||| ((1 : Int32) <<< ((if b < a then a else b) &&& 31)) else mGr x y i
def mCo (k c a x y : Int32) : Int32 :=
  if k = 1 then 2 else if k = 3 then (1 : Int32) <<< (c &&& 31) else if a < 0 then 1
  else if k = 4 then x ||| y else if k = 9 then (if x &&& 1 = 1 then (x &&& (-2)) ||| y else x) else if k = 10 then mGr x y 36
  else if k = 6 then x &&& (-2) else if k = 7 then ((x &&& 3) ||| ((x >>> ((2 : Int32) &&& 31)) &&& 1)) ||| ((x >>> ((1 : Int32) &&& 31)) &&& 28) else x
def mUn (h : mvH) (k a x : Int32) : mvH := if k = 6 ∧ ¬ a < 0 then hset h 5 16 (if ¬ h 5 16 = 0 then 1 else if x &&& 1 = 1 then 1 else 0) else h
set_option maxHeartbeats 4000000 in
theorem s_X5_codesOf (hd : 1 ≤ d) (k c a b : Int32) (ha : a < 0 ∨ vp_in a 128) (hb : b < 0 ∨ vp_in b 128) (hQ : Q (some (.inl (mCo k c a (subC (h 38) a) (subC (h 38) b)))) (mUn h k a (subC (h 38) a))) : mvCal mvMT d 101 [.inr 5, .inl k, .inl c, .inl a, .inl b] h Q := by
  obtain ⟨d, rfl⟩ := d_pos hd (by decide)
  have c6 : ∀ (z : Int32) {x : Int32}, k = z → z ≠ 6 → mUn h k a x = h := by
    intro z x hz h6
    unfold mUn
    rw [if_neg (fun w => h6 (hz.symm.trans w.1))]
  have c23 : ¬ k = 1 → ¬ k = 3 → ∀ K, (∀ pc L st h, mvRun (mvCal mvMT d) Q K (mvlook C_X5_codesOf pc) L st h → K pc L st h) → ∀ z5 z6 z7 z8 z9, K 23 [some (.inr 5), some (.inl k), some (.inl c), some (.inl a), some (.inl b), z5, z6, z7, z8, z9] [] h := by
    intro k1 k3 K hK z5 z6 z7 z8 z9
    unfold mCo at hQ
    rw [if_neg k1, if_neg k3] at hQ
    refine hK _ _ _ _ ⟨fun e => ?_, fun e => ?_⟩
    · have e0 : ¬ a < 0 := Int32.not_lt.mpr e
      have va := ha.resolve_left e0
      rw [if_neg e0] at hQ
      have sa : subC (h 38) a = h 38 (ix a) := by unfold subC; rw [if_neg e0]
      refine hK _ _ _ _ ⟨va, ?_⟩
      have c53 : ∀ y, y = subC (h 38) b → ∀ z6 z7 z8 z9, K 53 [some (.inr 5), some (.inl k), some (.inl c), some (.inl a), some (.inl b), some (.inl (h 38 (ix a))), z6, z7, z8, z9] [.inl y] h := by
        intro y hy z6 z7 z8 z9
        rw [← hy, sa] at hQ
        generalize h 38 (ix a) = x at hQ
        refine hK _ _ _ _ ⟨fun e4 => ?_, fun e4 => ?_⟩
        · rw [if_neg e4] at hQ
          refine hK _ _ _ _ ⟨fun e9 => ?_, fun e9 => ?_⟩
          · rw [if_neg e9] at hQ
            refine hK _ _ _ _ ⟨fun e10 => ?_, fun e10 => ?_⟩
            · rw [if_neg e10] at hQ
              refine hK _ _ _ _ ⟨fun e6 => ?_, fun e6 => ?_⟩
              · rw [if_neg e6] at hQ
                have hu : mUn h k a x = h := by unfold mUn; rw [if_neg (fun w => e6 w.1)]
                rw [hu] at hQ
                refine hK _ _ _ _ ⟨fun e7 => ?_, fun e7 => ?_⟩
                · rw [if_neg e7] at hQ
                  refine hK _ _ _ _ ?_
                  exact hK _ _ _ _ ⟨trivial, hQ⟩
                · rw [if_pos e7] at hQ
                  refine hK _ _ _ _ ?_
                  exact ⟨trivial, hQ⟩
              · rw [if_pos e6] at hQ
                unfold mUn at hQ
                rw [if_pos ⟨e6, e0⟩] at hQ
                have c227 : ∀ v, v = (if ¬ h 5 16 = 0 then (1 : Int32) else if x &&& 1 = 1 then 1 else 0) → ∀ z7 z8 z9, K 227 [some (.inr 5), some (.inl k), some (.inl c), some (.inl a), some (.inl b), some (.inl x), some (.inl y), z7, z8, z9] [.inl v, .inr 5] h := by
                  intro v hv z7 z8 z9
                  subst hv
                  refine hK _ _ _ _ ⟨?_, trivial, hQ⟩
                  unfold mvfit
                  by_cases h1 : h 5 16 = 0
                  · by_cases h2 : x &&& 1 = 1
                    · simp [h1, h2]
                    · simp [h1, h2]
                  · simp [h1]
                refine ⟨fun w => ?_, fun w => ⟨fun w2 => ?_, fun w2 => ?_⟩⟩
                · refine hK _ _ _ _ ?_
                  exact c227 _ (by rw [if_pos w]) _ _ _
                · refine hK _ _ _ _ ?_
                  exact c227 _ (by rw [if_neg (fun q => q w), if_neg w2]) _ _ _
                · refine hK _ _ _ _ ?_
                  exact c227 _ (by rw [if_neg (fun q => q w), if_pos w2]) _ _ _
            · rw [if_pos e10, c6 10 e10 (by decide)] at hQ
              have loop : ∀ j i, i + j = 36 → ∀ z9, K 106 [some (.inr 5), some (.inl k), some (.inl c), some (.inl a), some (.inl b), some (.inl x), some (.inl y), some (.inl (mGr x y i)), some (.inl (nI i)), z9] [] h := by
                intro j
                induction j with
                | zero =>
                  intro i hi z9
                  obtain rfl : i = 36 := by omega
                  exact hK _ _ _ _ ⟨fun _ => hK _ _ _ _ ⟨trivial, hQ⟩, fun w => absurd (by decide) w⟩
                | succ j ih =>
                  intro i hi z9
                  have h1 := ih (i + 1) (by omega)
                  unfold mGr at h1
                  dsimp only at h1
                  have n6 : ¬ (6 : Int32) = 0 := by decide
                  have c189 : ∀ v, v = (if (x >>> (nI i / 6 &&& 31)) &&& 1 = 1 ∧ (y >>> ((nI i - nI i / 6 * 6) &&& 31)) &&& 1 = 1 then mGr x y i ||| ((1 : Int32) <<< ((if nI i - nI i / 6 * 6 < nI i / 6 then nI i / 6 else nI i - nI i / 6 * 6) &&& 31)) else mGr x y i) → ∀ z9, K 189 [some (.inr 5), some (.inl k), some (.inl c), some (.inl a), some (.inl b), some (.inl x), some (.inl y), some (.inl (mGr x y i)), some (.inl (nI i)), z9] [.inl v] h := by
                    intro v hv z9
                    subst hv
                    refine hK _ _ _ _ ?_
                    rw [← nI_1] at h1
                    exact h1 _
                  have c146 : ∀ v : Int32, (v = 1 ∧ ((x >>> (nI i / 6 &&& 31)) &&& 1 = 1 ∧ (y >>> ((nI i - nI i / 6 * 6) &&& 31)) &&& 1 = 1)) ∨ (v = 0 ∧ ¬ ((x >>> (nI i / 6 &&& 31)) &&& 1 = 1 ∧ (y >>> ((nI i - nI i / 6 * 6) &&& 31)) &&& 1 = 1)) → ∀ z9, K 146 [some (.inr 5), some (.inl k), some (.inl c), some (.inl a), some (.inl b), some (.inl x), some (.inl y), some (.inl (mGr x y i)), some (.inl (nI i)), z9] [.inl v] h := by
                    intro v hv z9
                    refine hK _ _ _ _ ⟨fun w => ?_, fun w => ⟨n6, n6, ⟨fun w2 => ?_, fun w2 => ⟨n6, ?_⟩⟩⟩⟩
                    · refine hK _ _ _ _ ?_
                      refine c189 _ ?_ _
                      rcases hv with q | q
                      · rw [q.1] at w; exact absurd w (by decide)
                      · rw [if_neg q.2]
                    · have hh : (x >>> (nI i / 6 &&& 31)) &&& 1 = 1 ∧ (y >>> ((nI i - nI i / 6 * 6) &&& 31)) &&& 1 = 1 := by
                        rcases hv with q | q
                        · exact q.2
                        · exact absurd q.1 w
                      refine hK _ _ _ _ ⟨n6, ?_⟩
                      refine hK _ _ _ _ ?_
                      exact c189 _ (by rw [if_pos hh, if_neg (Int32.not_lt.mpr w2)]) _
                    · have hh : (x >>> (nI i / 6 &&& 31)) &&& 1 = 1 ∧ (y >>> ((nI i - nI i / 6 * 6) &&& 31)) &&& 1 = 1 := by
                        rcases hv with q | q
                        · exact q.2
                        · exact absurd q.1 w
                      refine hK _ _ _ _ ?_
                      exact c189 _ (by rw [if_pos hh, if_pos (Int32.not_le.mp w2)]) _
                  refine hK _ _ _ _ ⟨fun w => absurd w (nI_ge (b := 36) (by omega) (by decide)), fun _ => ⟨n6, ⟨fun w => ?_, fun w => ⟨n6, ⟨fun w2 => ?_, fun w2 => ?_⟩⟩⟩⟩⟩
                  · refine hK _ _ _ _ ?_
                    exact c146 0 (Or.inr ⟨rfl, fun q => w q.1⟩) _
                  · refine hK _ _ _ _ ?_
                    exact c146 0 (Or.inr ⟨rfl, fun q => w2 q.2⟩) _
                  · exact c146 1 (Or.inl ⟨rfl, w, w2⟩) _
              exact loop 36 0 (by omega) _
          · rw [if_pos e9, c6 9 e9 (by decide)] at hQ
            refine ⟨fun w => ?_, fun w => ?_⟩
            · rw [if_neg w] at hQ
              refine hK _ _ _ _ ?_
              exact hK _ _ _ _ ⟨trivial, hQ⟩
            · rw [if_pos w] at hQ
              refine hK _ _ _ _ ?_
              exact ⟨trivial, hQ⟩
        · rw [if_pos e4, c6 4 e4 (by decide)] at hQ
          exact ⟨trivial, hQ⟩
      refine ⟨fun w => ?_, fun w => ?_⟩
      · have w0 : ¬ b < 0 := Int32.not_lt.mpr w
        refine hK _ _ _ _ ⟨hb.resolve_left w0, ?_⟩
        exact c53 _ (by unfold subC; rw [if_neg w0]) _ _ _ _
      · exact c53 _ (by unfold subC; rw [if_pos (Int32.not_le.mp w)]) _ _ _ _
    · have e0 : a < 0 := Int32.not_le.mp e
      rw [if_pos e0] at hQ
      unfold mUn at hQ
      rw [if_neg (fun w => w.2 e0)] at hQ
      exact ⟨trivial, hQ⟩
  refine ⟨⟨rfl, by decide, rfl⟩, Nat.le_of_ble_eq_true rfl, fun K hK => hK _ _ _ _ ⟨fun e => ?_, fun e => ⟨fun e3 => ?_, fun e3 => ?_⟩⟩⟩
  · rw [c6 1 e (by decide)] at hQ
    unfold mCo at hQ
    rw [if_pos e] at hQ
    refine hK _ _ _ _ ⟨fun w => absurd e w, fun _ => ?_⟩
    refine hK _ _ _ _ ?_
    exact ⟨trivial, hQ⟩
  · exact c23 e e3 K hK _ _ _ _ _
  · rw [c6 3 e3 (by decide)] at hQ
    unfold mCo at hQ
    rw [if_neg e, if_pos e3] at hQ
    refine hK _ _ _ _ ⟨fun _ => ?_, fun w => absurd w e⟩
    refine hK _ _ _ _ ?_
    exact hK _ _ _ _ ⟨trivial, hQ⟩
end M1
