/-! SEARCH: the states that are reached -/
section S2
variable {d : Nat} {h : mvH} {Q : Option mvV → mvH → Prop}
/-- what an instant leaves as it was -/
def frI (h h' : mvH) : Prop := (∀ q, ¬ (q = 3 ∨ q = 23 ∨ q = 24 ∨ q = 25 ∨ q = 26 ∨ q = 27 ∨ q = 28 ∨ q = 29 ∨ q = 30) → h' q = h q) ∧ ∀ j, j ≠ 19 → h' 3 j = h 3 j
theorem cRun_fr {q : Nat} {w f : Int32} {n sc sg : Nat} : frI h (cRun h q w f n sc sg) := by
  have hs := sS_it (f := f) (sc := sc) (sg := sg) 2000 (hset (cSl (cForg h) q w n n) 3 19 1)
  refine ⟨fun q' hq' => ?_, fun j hj => ?_⟩
  · unfold cRun
    rw [cKill_o n q' (by omega), hs.1 q' (by omega), hset_other (by omega), cSl_o n q' (by omega), cForg_o (by omega)]
  · unfold cRun
    rw [cKill_o n 3 (by decide), hs.2 j hj, hset_at, if_neg hj, cSl_o n 3 (by decide), cForg_o (by decide)]
theorem frI_WB {h' : mvH} {n sc sg : Nat} (hf : frI h h') (hw : WB h n sc sg) : WB h' n sc sg := by
  obtain ⟨a1, a2, a3, a4, a5, a6, a7, a8⟩ := hw
  refine ⟨by rw [hf.2 7 (by decide)]; exact a1, a2, by rw [hf.2 8 (by decide)]; exact a3, a4, by rw [hf.2 10 (by decide)]; exact a5, a6, ?_, ?_⟩
  · rw [hf.1 17 (by decide)]; exact a7
  · rw [hf.1 21 (by decide)]; exact a8
theorem WB_cells {h' : mvH} {n sc sg : Nat} (h3 : h' 3 = h 3) (h17 : h' 17 = h 17) (h21 : h' 21 = h 21) (hw : WB h n sc sg) : WB h' n sc sg := by
  unfold WB
  rw [h3, h17, h21]
  exact hw
noncomputable def cRf (n : Nat) (ls : Int32) : Nat → mvH → Nat → Bool × mvH × Nat
  | 0, h, m => (true, h, m)
  | k + 1, h, m => match cRf n ls k h m with
    | (false, g, m') => (false, g, m')
    | (true, g, m') => if mvsh ls (nI k) &&& 1 = 1 then
        @ite _ (cKn (cCp g 32 (nI k) n) m') (Classical.propDecidable _) (true, cCp g 32 (nI k) n, m') (if m' < 30 then (true, cKp (cCp g 32 (nI k) n) m', m' + 1) else (false, cCp g 32 (nI k) n, m'))
      else (true, g, m')
/-- what reaching leaves as it was, and the count -/
theorem cKp_o {m q : Nat} (h1 : q ≠ 31) (h2 : q ≠ 4) : cKp h m q = h q := by
  unfold cKp
  rw [hset_other h2]
  simp [hcpy, h1]
theorem cRf_inv {n : Nat} {ls : Int32} : ∀ k m, h 4 2 = nI m → m ≤ 30 → (∀ q, ¬ (q = 4 ∨ q = 31 ∨ q = 32) → (cRf n ls k h m).2.1 q = h q) ∧ (cRf n ls k h m).2.1 4 2 = nI (cRf n ls k h m).2.2 ∧ (cRf n ls k h m).2.2 ≤ 30 ∧ (∀ j, j ≠ 2 → (cRf n ls k h m).2.1 4 j = h 4 j) ∧ m ≤ (cRf n ls k h m).2.2 := by
  intro k
  induction k with
  | zero => intro m hm hm2; exact ⟨fun _ _ => rfl, hm, hm2, fun _ _ => rfl, Nat.le_refl _⟩
  | succ k ih =>
    intro m hm hm2
    obtain ⟨i1, i2, i3, i4, i5⟩ := ih m hm hm2
    unfold cRf
    split
    · rename_i g m' he
      rw [he] at i1 i2 i3 i4 i5
      exact ⟨i1, i2, i3, i4, i5⟩
    · rename_i g m' he
      rw [he] at i1 i2 i3 i4 i5
      dsimp only at i1 i2 i3 i4 i5
      have c4 : cCp g 32 (nI k) n 4 = g 4 := cCp_o n 4 (by decide)
      have cq : ∀ q, q ≠ 32 → cCp g 32 (nI k) n q = g q := fun q hq => cCp_o n q hq
      split
      · split
        · dsimp only
          refine ⟨fun q hq => ?_, ?_, i3, fun j hj => ?_, i5⟩
          · rw [cq q (by omega), i1 q hq]
          · rw [c4]; exact i2
          · rw [c4]; exact i4 j hj
        · split
          · rename_i hlt
            dsimp only
            refine ⟨fun q hq => ?_, ?_, by omega, fun j hj => ?_, by omega⟩
            · rw [cKp_o (by omega) (by omega), cq q (by omega), i1 q hq]
            · show cKp _ _ 4 2 = _
              unfold cKp
              rw [hset_at, if_pos rfl]
            · show cKp _ _ 4 j = _
              unfold cKp
              rw [hset_at, if_neg hj]
              simp only [hcpy, show ¬ (4 : Nat) = 31 by decide, if_false]
              rw [c4]; exact i4 j hj
          · dsimp only
            refine ⟨fun q hq => ?_, ?_, i3, fun j hj => ?_, i5⟩
            · rw [cq q (by omega), i1 q hq]
            · rw [c4]; exact i2
            · rw [c4]; exact i4 j hj
      · exact ⟨i1, i2, i3, i4, i5⟩
set_option maxHeartbeats 4000000 in
theorem s_X1_reachFrom (hd : 3 ≤ d) (ls : Int32) {m n : Nat} (hm : h 4 2 = nI m) (hm2 : m ≤ 30) (hn : h 3 7 = nI n) (hn2 : n ≤ 120) (hQ0 : ∀ k, k ≤ 16 → (cRf n ls k h m).1 = false → Q (some (.inl 0)) (cRf n ls k h m).2.1) (hQ1 : (cRf n ls 16 h m).1 = true → Q (some (.inl 1)) (cRf n ls 16 h m).2.1) : mvCal mvMT d 11 [.inr 4, .inr 3, .inl ls] h Q := by
  obtain ⟨d, rfl⟩ := d_pos hd (by decide)
  refine ⟨⟨rfl, by decide, rfl⟩, Nat.le_of_ble_eq_true rfl, fun K hK => hK _ _ _ _ ?_⟩
  have loop : ∀ k l, l + k = 16 → (cRf n ls l h m).1 = true → K 2 [some (.inr 4), some (.inr 3), some (.inl ls), some (.inl (nI l))] [] (cRf n ls l h m).2.1 := by
    intro k
    induction k with
    | zero =>
      intro l hl ht
      obtain rfl : l = 16 := by omega
      exact hK _ _ _ _ ⟨fun _ => hK _ _ _ _ ⟨Or.inr rfl, hQ1 ht⟩, fun e => absurd (by decide) e⟩
    | succ k ih =>
      intro l hl ht
      have hinv := cRf_inv (n := n) (ls := ls) l m hm hm2
      have h1 := ih (l + 1) (by omega)
      have hq := hQ0 (l + 1) (by omega)
      generalize hg : cRf n ls l h m = R at ht hinv ⊢
      obtain ⟨b, g, m'⟩ := R
      dsimp only at ht
      subst ht
      obtain ⟨i1, i2, i3, i4, i5⟩ := hinv
      dsimp only at i1 i2 i3 i4 i5 ⊢
      unfold cRf at h1 hq
      rw [hg] at h1 hq
      dsimp only at h1 hq
      have hin : ¬ (15 : Int32) < nI l := by
        rw [show (15 : Int32) = nI 15 by decide]; exact nI_nlt (by omega) (by decide)
      have e42 : ∀ g', K 2 [some (.inr 4), some (.inr 3), some (.inl ls), some (.inl (nI (l + 1)))] [] g' → K 42 [some (.inr 4), some (.inr 3), some (.inl ls), some (.inl (nI l))] [] g' := by
        intro g' hk
        refine hK _ _ _ _ ?_
        rw [← nI_1] at hk
        exact hk
      refine hK _ _ _ _ ⟨fun e => absurd e hin, fun _ => ⟨fun e => ?_, fun e => ?_⟩⟩
      · rw [if_neg e] at h1
        exact e42 _ (h1 rfl)
      · rw [if_pos e] at h1 hq
        refine s_X3_copyNextRegisters (by omega) _ 32 (by decide) (by rw [i1 3 (by decide)]; exact hn) hn2 ?_
        have c4 : cCp g 32 (nI l) n 4 2 = nI m' := by rw [cCp_o n 4 (by decide)]; exact i2
        refine s_X1_isKnown (by omega) c4 i3 (fun hk => ?_) (fun hk => ?_)
        · rw [if_pos hk] at h1
          refine ⟨fun _ => e42 _ (h1 rfl), fun z => absurd z (by decide)⟩
        · rw [if_neg hk] at h1 hq
          refine ⟨fun z => absurd rfl z, fun _ => ?_⟩
          refine s_X1_keep (by omega) c4 i3 (fun hlt => ?_) (fun h30 => ?_)
          · rw [if_pos hlt] at h1
            refine ⟨fun _ => e42 _ (h1 rfl), fun z => absurd z (by decide)⟩
          · rw [if_neg (by omega)] at hq
            refine ⟨fun z => absurd rfl z, fun _ => ?_⟩
            exact ⟨Or.inl rfl, hq rfl⟩
  exact loop 16 0 (by omega) rfl
/-- decided lanes, ending lanes -/
def cDec (h : mvH) (n sg : Nat) : Int32 := (cUnS h (cUnd h n) sg ^^^ (-1)) &&& 65535
def cEl (h : mvH) : Int32 := if h 3 7 = 0 then 0 else cEnd h 0 0 &&& 65535
/-- one state looked at: its heap behind the tallies -/
def cSt (h : mvH) (i n sc sg : Nat) : mvH := let g := cRun h 31 (nI (i * 4)) (if 0 < i then 1 else 0) n sc sg
  cTal g (cDec g n sg) (cEl g &&& cDec g n sg)
def cSl2 (h : mvH) (i n sc sg : Nat) : Int32 := let g := cRun h 31 (nI (i * 4)) (if 0 < i then 1 else 0) n sc sg
  cDec g n sg &&& ((cEl g &&& cDec g n sg) ^^^ (-1))
/-- states from the i-th on -/
noncomputable def cLt (n sc sg : Nat) : Nat → Nat → mvH → Nat → Bool × mvH × Nat
  | 0, _, h, m => (true, h, m)
  | k + 1, i, h, m => if i < m then (match cRf n (cSl2 h i n sc sg) 16 (cSt h i n sc sg) m with
      | (false, g, m') => (false, g, m')
      | (true, g, m') => cLt n sc sg k (i + 1) g m') else (true, h, m)
theorem cRf_stop {n : Nat} {ls : Int32} {m : Nat} : ∀ j k, (cRf n ls k h m).1 = false → cRf n ls (k + j) h m = cRf n ls k h m := by
  intro j
  induction j with
  | zero => intro k _; rfl
  | succ j ih =>
    intro k hk
    have := ih k hk
    rw [show k + (j + 1) = (k + j) + 1 by omega]
    rw [show cRf n ls (k + j + 1) h m = (match cRf n ls (k + j) h m with
      | (false, g, m') => (false, g, m')
      | (true, g, m') => if mvsh ls (nI (k + j)) &&& 1 = 1 then
          @ite _ (cKn (cCp g 32 (nI (k + j)) n) m') (Classical.propDecidable _) (true, cCp g 32 (nI (k + j)) n, m') (if m' < 30 then (true, cKp (cCp g 32 (nI (k + j)) n) m', m' + 1) else (false, cCp g 32 (nI (k + j)) n, m'))
        else (true, g, m')) from rfl]
    rw [this]
    split
    · rename_i he; rw [he]
    · rename_i he; rw [he] at hk; cases hk
end S2
