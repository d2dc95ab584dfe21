/-! THE REFERENCE: read, as steps of a pure machine -/
abbrev whl (c : Int32) : Prop := (48 ≤ c ∧ c ≤ 49) ∨ c = 33 ∨ c = 94
noncomputable def stp (tx : Nat → Int32) (n k : Nat) (w : Bool) (s : mSt) (as : Int32) : Option (Nat × Bool × mSt × Int32) :=
  if w = true then (match bgS (tx k) (rdc tx n (k + 1)) k s.1 s.2.1 s.2.2 as with
    | none => none
    | some (k', s', as') => if whl (tx k) then some (k', false, closeS s'.1 s'.2.1 s'.2.2, as') else some (k', true, s', as'))
  else (match bhS (tx k) s.1 s.2.1 s.2.2 with
    | none => none
    | some (w', s') => some (k + 1, w', s', as))
def RdC (tx : Nat → Int32) (n : Nat) (F : Option (List Nd × Nat × Int32) → Prop) (G : Nat → Bool → mSt → Int32 → Prop) : Prop :=
  (∀ k w s as, k < n → stp tx n k w s as = none → F none → G k w s as) ∧
  (∀ k w s as k' w' s' as', k < n → stp tx n k w s as = some (k', w', s', as') → G k' w' s' as' → G k w s as) ∧
  (∀ k s as, n ≤ k → F none → G k true s as) ∧
  (∀ k s as, n ≤ k → ¬ (joinS true s.1 s.2.1 s.2.2).1 = [] → F none → G k false s as) ∧
  (∀ k s as, n ≤ k → (joinS true s.1 s.2.1 s.2.2).1 = [] → F (some ((joinS true s.1 s.2.1 s.2.2).2.2, (joinS true s.1 s.2.1 s.2.2).2.1.headD 0, as)) → G k false s as)
theorem whl_iff (c : Int32) : whl c ↔ (c = 48 ∨ c = 49 ∨ c = 33 ∨ c = 94) := by
  unfold whl
  constructor
  · intro z
    rcases z with z | z | z
    · rcases Classical.em (c = 48) with q | q
      · exact Or.inl q
      · refine Or.inr (Or.inl ?_)
        have h1 : (48 : Int32) < c := by
          rcases Int32.lt_or_eq_of_le z.1 with w | w
          · exact w
          · exact absurd w.symm q
        obtain ⟨j, hj, rfl⟩ := nI_of2 (x := c) (M := 49) (n := 49) (by decide) (Int32.not_lt.mpr (Int32.le_tr (by decide) z.1)) z.2
        have h2 : 48 < j := by
          rcases Nat.lt_or_ge 48 j with w | w
          · exact w
          · exact absurd (show nI j ≤ nI 48 from nI_le w (by decide)) (Int32.not_le.mpr h1)
        have h3 : j = 49 := by omega
        rw [h3]; rfl
    · exact Or.inr (Or.inr (Or.inl z))
    · exact Or.inr (Or.inr (Or.inr z))
  · intro z
    rcases z with z | z | z | z
    · rw [z]; exact Or.inl (by decide)
    · rw [z]; exact Or.inl (by decide)
    · exact Or.inr (Or.inl z)
    · exact Or.inr (Or.inr z)
theorem bgS_inv {c dd : Int32} {k : Nat} {O : List (Int32 × Int32)} {R : List Nat} {N : List Nd} {as : Int32} {k' : Nat} {s : mSt} {as' : Int32} (h : bgS c dd k O R N as = some (k', s, as')) (hR : R.length = cntB O) (hN : N.length + O.length ≤ k) : s.2.2.length + s.1.length ≤ k' ∧ k' ≤ k + 2 ∧ s.2.1.length = cntB s.1 + (if whl c then 1 else 0) ∧ (whl c → s.1 = O ∧ s.2.1 = N.length :: R) := by
  unfold bgS at h
  split at h
  · cases h
  split at h
  · rename_i _ e
    have hw : whl c := (whl_iff c).mpr (Or.inl e)
    cases h
    refine ⟨by simp; omega, by omega, by rw [if_pos hw]; simp; exact hR, fun _ => ⟨rfl, rfl⟩⟩
  split at h
  · rename_i _ _ e
    have hw : whl c := (whl_iff c).mpr (Or.inr (Or.inl e))
    cases h
    refine ⟨by simp; omega, by omega, by rw [if_pos hw]; simp; exact hR, fun _ => ⟨rfl, rfl⟩⟩
  split at h
  · rename_i _ _ _ e
    have hw : whl c := (whl_iff c).mpr (Or.inr (Or.inr (Or.inl e)))
    split at h
    · cases h
    · cases h
      refine ⟨by simp; omega, by omega, by rw [if_pos hw]; simp; exact hR, fun _ => ⟨rfl, rfl⟩⟩
  split at h
  · rename_i _ _ _ _ e
    have hw : whl c := (whl_iff c).mpr (Or.inr (Or.inr (Or.inr e)))
    split at h
    · cases h
    · cases h
      refine ⟨by simp; omega, by omega, by rw [if_pos hw]; simp; exact hR, fun _ => ⟨rfl, rfl⟩⟩
  rename_i _ e1 e2 e3 e4
  have hw : ¬ whl c := fun z => by
    rcases (whl_iff c).mp z with q | q | q | q
    · exact e1 q
    · exact e2 q
    · exact e3 q
    · exact e4 q
  split at h
  · rename_i e
    split at h
    · cases h
    · cases h
      refine ⟨by simp; omega, by omega, ?_, fun z => absurd z hw⟩
      rw [if_neg hw, cntB_cons, if_neg (by dsimp only; rcases e with z | z | z <;> rw [z] <;> decide)]
      exact hR
  · split at h
    · rename_i e
      cases h
      refine ⟨by simp; omega, by omega, ?_, fun z => absurd z hw⟩
      rw [if_neg hw, cntB_cons, if_neg (by dsimp only; rcases e with z | z | z <;> rw [z] <;> decide)]
      exact hR
    · cases h
theorem bhS_inv {c : Int32} {k : Nat} {O : List (Int32 × Int32)} {R : List Nat} {N : List Nd} {w : Bool} {s : mSt} (h : bhS c O R N = some (w, s)) (hR : R.length = cntB O + 1) (hN : N.length + O.length ≤ k) : s.2.2.length + s.1.length ≤ k + 1 ∧ s.2.1.length = cntB s.1 + (if w = true then 0 else 1) := by
  unfold bhS at h
  have ji := fun b => join_inv b O R N hR
  split at h
  · split at h
    · rename_i _ e
      cases h
      obtain ⟨l, O', hO⟩ := topO_cons e (by decide)
      subst hO
      rw [cntB_cons, if_neg (by dsimp only; decide)] at hR
      simp only [List.length_cons, List.tail_cons, if_true] at hN hR ⊢
      rw [cntB_cons, if_pos (Or.inl rfl)]
      exact ⟨by omega, by omega⟩
    · cases h
  split at h
  · rename_i hc
    split at h
    · cases h
    · cases h
      obtain ⟨j1, j2, j3⟩ := ji (decide (c = 59))
      dsimp only
      rw [cntB_cons, if_pos (Or.inr hc), if_pos rfl]
      simp only [List.length_cons]
      exact ⟨by omega, by omega⟩
  obtain ⟨j1, j2, j3⟩ := ji true
  have pop : ∀ c0, topO (joinS true O R N).1 = c0 → c0 = 40 ∨ c0 = 123 → cntB (joinS true O R N).1.tail = cntB (joinS true O R N).1 ∧ (joinS true O R N).1.tail.length + 1 = (joinS true O R N).1.length := by
    intro c0 h0 hc0
    obtain ⟨l, O', hO⟩ := topO_cons h0 (by rcases hc0 with z | z <;> rw [z] <;> decide)
    rw [hO, cntB_cons, if_neg (by dsimp only; rcases hc0 with z | z <;> rw [z] <;> decide)]
    exact ⟨rfl, rfl⟩
  split at h
  · rename_i e
    cases h
    obtain ⟨p1, p2⟩ := pop _ e.2 (Or.inl rfl)
    obtain ⟨c1, c2, c3⟩ := close_inv (joinS true O R N).1.tail (joinS true O R N).2.1 (joinS true O R N).2.2 (by omega)
    exact ⟨by omega, by rw [c1]; rfl⟩
  split at h
  · rename_i e
    cases h
    obtain ⟨p1, p2⟩ := pop _ e.2 (Or.inr rfl)
    obtain ⟨c1, c2, c3⟩ := close_inv (joinS true O R N).1.tail ((joinS true O R N).2.2.length :: (joinS true O R N).2.1.tail) ((joinS true O R N).2.2 ++ [(7, 0, nI ((joinS true O R N).2.1.headD 0), -1)]) (by simp; omega)
    simp only [List.length_append, List.length_cons, List.length_nil] at c2
    exact ⟨by omega, by rw [c1]; rfl⟩
  · cases h
section M9
variable {d : Nat} {tx : Nat → Int32} {n : Nat}
set_option maxHeartbeats 8000000 in
theorem s_X5_read {h : mvH} {Q : Option mvV → mvH → Prop} (hd : 6 ≤ d) (hn : h 5 1 = nI n) (hn2 : n ≤ 60) (htx : ∀ j, j < n → h 33 j = tx j) (F : Option (List Nd × Nat × Int32) → Prop)
    (hbad : F none → ∀ g', frM h g' → g' 5 14 = 1 → Q (some (.inl (-1))) g')
    (hgood : ∀ N a as, F (some (N, a, as)) → ∀ g', frM h g' → MdOK g' tx n [] [a] N as → Q (some (.inl (nI a))) g')
    (hRd : ∀ G, RdC tx n F G → G 0 true ([], [], []) 0) : mvCal mvMT d 110 [.inr 5] h Q := by
  obtain ⟨d, rfl⟩ := d_pos hd (by decide)
  refine ⟨⟨rfl, by decide, rfl⟩, Nat.le_of_ble_eq_true rfl, fun K hK => hK _ _ _ _ ⟨Or.inl rfl, Or.inl rfl, Or.inl rfl, ?_⟩⟩
  -- ends
  have bad190 : ∀ g', frM h g' → F none → ∀ z1 z2 z3 z4, K 190 [some (.inr 5), z1, z2, z3, z4] [.inl 1, .inr 5] g' := by
    intro g' hf hF z1 z2 z3 z4
    have q14 : (hset g' 5 14 1) 5 14 = 1 := by rw [hset_at, if_pos rfl]
    refine hK _ _ _ _ ⟨Or.inr rfl, ⟨fun e => absurd (show (hset g' 5 14 1) 5 14 = 0 from e) (by rw [q14]; decide), fun _ => ?_⟩⟩
    refine hK _ _ _ _ ⟨trivial, ?_⟩
    exact hbad hF _ (hf.trans (frM_5 (by decide))) q14
  have bad155 : ∀ g', frM h g' → F none → ∀ z1 z2 z3 z4, K 155 [some (.inr 5), z1, z2, z3, z4] [.inl 1, .inr 5] g' := by
    intro g' hf hF z1 z2 z3 z4
    have q14 : (hset g' 5 14 1) 5 14 = 1 := by rw [hset_at, if_pos rfl]
    refine hK _ _ _ _ ⟨Or.inr rfl, ⟨fun _ => ?_, fun e => absurd (show (hset g' 5 14 1) 5 14 = 0 from e) (by rw [q14]; decide)⟩⟩
    refine hK _ _ _ _ ⟨fun _ => ?_, fun e => absurd (show (hset g' 5 14 1) 5 14 = 0 from e) (by rw [q14]; decide)⟩
    refine hK _ _ _ _ ?_
    exact bad190 _ (hf.trans (frM_5 (by decide))) hF _ _ _ _
  have bad138 : ∀ g', frM h g' → g' 5 14 = 1 → F none → ∀ v1 z2 z3 z4, K 138 [some (.inr 5), some (.inl v1), z2, z3, z4] [] g' := by
    intro g' hf h14 hF v1 z2 z3 z4
    refine hK _ _ _ _ ⟨fun _ => ?_, fun e => absurd (show g' 5 14 = 0 from e) (by rw [h14]; decide)⟩
    refine hK _ _ _ _ ?_
    exact bad155 _ hf hF _ _ _ _
  have bad34 : ∀ g', frM h g' → g' 5 14 = 1 → F none → ∀ v1 v2 z3 z4, K 34 [some (.inr 5), some (.inl v1), some (.inl v2), z3, z4] [] g' := by
    intro g' hf h14 hF v1 v2 z3 z4
    refine hK _ _ _ _ ⟨fun _ => bad138 g' hf h14 hF _ _ _ _, fun _ => ⟨fun _ => bad138 g' hf h14 hF _ _ _ _, fun e => absurd (show g' 5 14 = 0 from e) (by rw [h14]; decide)⟩⟩
  -- the machine
  have key := hRd (fun k w s as => s.2.1.length = cntB s.1 + (if w = true then 0 else 1) → s.2.2.length + s.1.length ≤ k → k ≤ 61 → ∀ g, frM h g → MdOK g tx n s.1 s.2.1 s.2.2 as → ∀ z3 z4, K 34 [some (.inr 5), some (.inl (if w = true then 1 else 0)), some (.inl (nI k)), z3, z4] [] g) ?_
  · refine key rfl (Nat.le_refl 0) (by decide) _ ?_ ?_ _ _
    · exact ((((((frM_5 (by decide)).trans (frM_5 (by decide))).trans (frM_5 (by decide))).trans (frM_5 (by decide))).trans (frM_5 (by decide))).trans (frM_5 (by decide)))
    · refine ⟨hn, htx, ⟨rfl, fun j x hx => by cases hx⟩, ⟨rfl, fun j x hx => by cases hx⟩, ⟨rfl, fun j x hx => by cases hx⟩, Or.inl ⟨rfl, fun j x hx => by cases hx⟩, (fun j x hx => by cases hx), rfl, rfl, Or.inl rfl, (fun a ha => by cases ha)⟩
  -- a step's beginning
  have head : ∀ (k : Nat) (v1 : Int32) (g : mvH) (P : Prop), k < n → g 5 1 = nI n → (∀ j, j < n → g 33 j = tx j) → g 5 14 = 0 → k ≤ 61 → True := fun _ _ _ _ _ _ _ _ _ => trivial
  have step : ∀ k w (s : mSt) as, k < n → s.2.1.length = cntB s.1 + (if w = true then 0 else 1) → s.2.2.length + s.1.length ≤ k → (stp tx n k w s as = none → F none) → (∀ k' w' s' as', stp tx n k w s as = some (k', w', s', as') → ∀ g', frM h g' → MdOK g' tx n s'.1 s'.2.1 s'.2.2 as' → s'.2.1.length = cntB s'.1 + (if w' = true then 0 else 1) → s'.2.2.length + s'.1.length ≤ k' → k' ≤ 61 → ∀ z3 z4, K 34 [some (.inr 5), some (.inl (if w' = true then 1 else 0)), some (.inl (nI k')), z3, z4] [] g') → ∀ g, frM h g → MdOK g tx n s.1 s.2.1 s.2.2 as → ∀ z3 z4, K 34 [some (.inr 5), some (.inl (if w = true then 1 else 0)), some (.inl (nI k)), z3, z4] [] g := by
    intro k w s as hkn hR hN hno hyes g hf hm z3 z4
    obtain ⟨O, R, N⟩ := s
    dsimp only at hR hN hno hyes hm
    have hlt : ¬ g 5 1 ≤ nI k := by rw [hm.1]; exact nI_ge hkn (by omega)
    have h14 : g 5 14 = 0 := hm.2.2.2.2.2.2.2.1
    have hcl : cntB O ≤ O.length := List.countP_le_length
    refine hK _ _ _ _ ⟨fun e => absurd e hlt, fun _ => ⟨fun e => absurd h14 e, fun _ => ?_⟩⟩
    refine s_X5_at (by omega) hm.1 hn2 (by omega) ?_
    rw [if_pos hkn, hm.2.1 k hkn]
    cases w
    · -- behind
      refine ⟨fun _ => ?_, fun e => absurd rfl e⟩
      unfold stp at hno hyes
      simp only [Bool.false_eq_true, if_false] at hno hyes hR ⊢
      match R, hR, hm, hno, hyes with
      | a :: R, hR, hm, hno, hyes =>
        simp only [List.length_cons] at hR
        refine hK _ _ _ _ ?_
        refine s_X5_behind (by omega) (tx k) hm (by omega) (by omega) (by omega) (fun hb v g' hv f' q' => ?_) (fun w' s' hb g' f' m' => ?_)
        · rw [hb] at hno
          conv => whnf
          refine hK _ _ _ _ ?_
          exact bad34 g' (hf.trans f') q' (hno rfl) _ _ _ _
        · rw [hb] at hyes
          obtain ⟨i1, i2⟩ := bhS_inv hb (by simp only [List.length_cons]; omega) hN
          conv => whnf
          rw [nI_1]
          refine hK _ _ _ _ ?_
          exact hyes (k + 1) w' s' as rfl g' (hf.trans f') m' i2 i1 (by omega) _ _
    · -- begin
      refine ⟨fun e => absurd e (by decide), fun _ => ?_⟩
      unfold stp at hno hyes
      simp only [if_true, Nat.add_zero] at hno hyes hR ⊢
      have c87 : ∀ (wv : Int32), ((wv = 1 ∧ whl (tx k)) ∨ (wv = 0 ∧ ¬ whl (tx k))) → K 87 [some (.inr 5), some (.inl 1), some (.inl (nI k)), some (.inl (tx k)), z4] [.inl wv] g := by
        intro wv hwv
        refine hK _ _ _ _ ?_
        refine s_X5_begin (by omega) (tx k) hm hn2 (by omega) (by omega) (by omega) (by omega) (fun hb v g' f' q' => ?_) (fun k' s' as' hb g' f' m' => ?_)
        · rw [hb] at hno
          have c135 : ∀ v1 v2, K 135 [some (.inr 5), some (.inl v1), some (.inl v2), some (.inl (tx k)), some (.inl wv)] [] g' := fun v1 v2 => hK _ _ _ _ (bad34 g' (hf.trans f') q' (hno rfl) _ _ _ _)
          have c106 : ∀ v1 v0, K 106 [some (.inr 5), some (.inl v0), some (.inl v), some (.inl (tx k)), some (.inl wv)] [.inl v1] g' := by
            intro v1 v0
            refine hK _ _ _ _ ⟨fun _ => ?_, fun _ => ⟨fun _ => ?_, fun e => absurd (show g' 5 14 = 0 from e) (by rw [q']; decide)⟩⟩
            · refine hK _ _ _ _ ?_
              exact c135 _ _
            · refine hK _ _ _ _ ?_
              exact c135 _ _
          refine ⟨fun _ => ?_, fun _ => ?_⟩
          · refine hK _ _ _ _ ?_
            exact c106 _ _
          · exact c106 _ _
        · rw [hb] at hyes
          obtain ⟨i1, i2, i3, i4⟩ := bgS_inv hb hR hN
          rcases hwv with ⟨z1, z2⟩ | ⟨z1, z2⟩
          · subst z1
            simp only [if_pos z2] at hyes i3
            obtain ⟨j1, j2⟩ := i4 z2
            obtain ⟨c1, c2, c3⟩ := close_inv s'.1 s'.2.1 s'.2.2 i3
            refine ⟨fun _ => ?_, fun e => absurd e (by decide)⟩
            refine hK _ _ _ _ ?_
            refine hK _ _ _ _ ⟨fun e => absurd e (by decide), fun _ => ⟨fun e => absurd (show g' 5 14 = 0 from m'.2.2.2.2.2.2.2.1) e, fun _ => ?_⟩⟩
            have m2 := m'
            rw [j1, j2] at m2
            have hNs : s'.2.2.length + s'.1.length ≤ k + 2 := by omega
            rw [j1] at hNs
            refine s_X5_close (by omega) m2 hR (by omega) (by omega) (by omega) (fun g2 f2 m3 => ?_)
            refine hK _ _ _ _ ?_
            refine hK _ _ _ _ ?_
            rw [← j1, ← j2] at m3
            exact hyes k' false _ as' rfl g2 ((hf.trans f').trans f2) m3 c1 (by omega) (by omega) _ _
          · subst z1
            simp only [if_neg z2] at hyes i3
            refine ⟨fun e => absurd rfl e, fun _ => ?_⟩
            refine hK _ _ _ _ ⟨fun _ => ?_, fun e => absurd rfl e⟩
            refine hK _ _ _ _ ?_
            refine hK _ _ _ _ ?_
            exact hyes k' true s' as' rfl g' (hf.trans f') m' i3 i1 (by omega) _ _
      refine s_X5_in (by omega) _ _ _ ?_
      by_cases h49 : 48 ≤ tx k ∧ tx k ≤ 49
      · rw [if_pos h49]
        refine ⟨fun _ => ?_, fun e => absurd e (by decide)⟩
        refine hK _ _ _ _ ?_
        exact c87 1 (Or.inl ⟨rfl, Or.inl h49⟩)
      · rw [if_neg h49]
        refine ⟨fun e => absurd rfl e, fun _ => ⟨fun e33 => ?_, fun e33 => ⟨fun e94 => ?_, fun e94 => ?_⟩⟩⟩
        · refine hK _ _ _ _ ?_
          exact c87 1 (Or.inl ⟨rfl, Or.inr (Or.inl e33)⟩)
        · refine hK _ _ _ _ ?_
          exact c87 0 (Or.inr ⟨rfl, fun z => z.elim h49 (fun z => z.elim e33 e94)⟩)
        · refine hK _ _ _ _ ?_
          exact c87 1 (Or.inl ⟨rfl, Or.inr (Or.inr e94)⟩)
  have fin : ∀ k (s : mSt) as, n ≤ k → k ≤ 61 → s.2.1.length = cntB s.1 + 1 → s.2.2.length + s.1.length ≤ k → (¬ (joinS true s.1 s.2.1 s.2.2).1 = [] → F none) → ((joinS true s.1 s.2.1 s.2.2).1 = [] → F (some ((joinS true s.1 s.2.1 s.2.2).2.2, (joinS true s.1 s.2.1 s.2.2).2.1.headD 0, as))) → ∀ g, frM h g → MdOK g tx n s.1 s.2.1 s.2.2 as → ∀ z3 z4, K 34 [some (.inr 5), some (.inl 0), some (.inl (nI k)), z3, z4] [] g := by
    intro k s as hk hk61 hR hN hno hyes g hf hm z3 z4
    obtain ⟨O, R, N⟩ := s
    dsimp only at hR hN hno hyes hm
    have hcl : cntB O ≤ O.length := List.countP_le_length
    have hle : g 5 1 ≤ nI k := by rw [hm.1]; exact nI_le hk (by omega)
    have h14 : g 5 14 = 0 := hm.2.2.2.2.2.2.2.1
    refine hK _ _ _ _ ⟨fun _ => ?_, fun e => absurd hle e⟩
    refine hK _ _ _ _ ⟨fun e => absurd h14 e, fun _ => ⟨fun _ => ?_, fun e => absurd rfl e⟩⟩
    refine hK _ _ _ _ ?_
    have hm1 := MdV_14 hm 0
    have f1 : frM h (hset g 5 14 0) := hf.trans (frM_5 (by decide))
    refine hK _ _ _ _ ⟨Or.inl rfl, ?_⟩
    have q14 : (hset g 5 14 0) 5 14 = 0 := hm1.2.2.2.2.2.2.2.1
    generalize hset g 5 14 0 = g1 at *
    refine ⟨fun e => absurd q14 e, fun _ => ?_⟩
    match R, hR, hm1, hno, hyes with
    | a :: R, hR, hm1, hno, hyes =>
      simp only [List.length_cons] at hR
      refine s_X5_join (by omega) true O a R N g1 hm1 (by omega) (by omega) (by omega) (by omega) (fun g2 f2 m2 => ?_)
      have ji := join_inv true O (a :: R) N (by simp only [List.length_cons]; omega)
      generalize joinS true O (a :: R) N = J at *
      obtain ⟨O1, R1, N1⟩ := J
      dsimp only at ji hno hyes m2
      have h214 : g2 5 14 = 0 := m2.2.2.2.2.2.2.2.1
      match O1, m2, ji, hno, hyes with
      | x :: O1, m2, ji, hno, hyes =>
        have h59 : ¬ g2 5 9 ≤ 0 := by rw [m2.2.2.1.1]; exact nI_nle (by simp) (by omega)
        refine hK _ _ _ _ ⟨fun e => absurd h214 e, fun _ => ⟨fun e => absurd e h59, fun _ => ?_⟩⟩
        refine hK _ _ _ _ ?_
        exact bad190 g2 (f1.trans f2) (hno (by simp)) _ _ _ _
      | [], m2, ji, hno, hyes =>
        have h59 : g2 5 9 ≤ 0 := by rw [m2.2.2.1.1]; decide
        have hm3 := MdV_14 m2 0
        have q3 : (hset g2 5 14 0) 5 14 = 0 := hm3.2.2.2.2.2.2.2.1
        have f3 : frM h (hset g2 5 14 0) := (f1.trans f2).trans (frM_5 (by decide))
        refine hK _ _ _ _ ⟨fun e => absurd h214 e, fun _ => ⟨fun _ => ?_, fun e => absurd h59 e⟩⟩
        refine hK _ _ _ _ ?_
        refine hK _ _ _ _ ⟨Or.inl rfl, ?_⟩
        generalize hset g2 5 14 0 = g3 at *
        refine ⟨fun _ => ?_, fun e => absurd q3 e⟩
        match R1, ji, hm3, hyes with
        | [a1], ji, hm3, hyes =>
          refine hK _ _ _ _ ⟨show vp_in (nI 0) 80 from vp_in_nI (by decide) (by decide), ?_⟩
          refine hK _ _ _ _ ⟨trivial, ?_⟩
          have h0 := hm3.2.2.2.1.2 0 a1 (by simp)
          have := hgood N1 a1 as (hyes rfl) g3 f3 hm3
          refine mvq this ?_
          exact h0
        | [], ji, hm3, hyes => exact absurd ji.1 (by simp)
        | _ :: _ :: _, ji, hm3, hyes => exact absurd ji.1 (by simp [cntB])
  refine ⟨fun k w s as h1 h2 h3 hR hN hk g f m z3 z4 => step k w s as h1 hR hN (fun _ => h3) (fun k' w' s' as' e => by rw [h2] at e; cases e) g f m z3 z4, fun k w s as k' w' s' as' h1 h2 h3 hR hN hk g f m z3 z4 => step k w s as h1 hR hN (fun e => by rw [h2] at e; cases e) (fun k2 w2 s2 as2 e g' f' m' i1 i2 i3 => by rw [h2] at e; cases e; exact h3 i1 i2 i3 g' f' m') g f m z3 z4, ?_, fun k s as h1 h2 h3 hR hN hk g f m z3 z4 => fin k s as h1 hk hR hN (fun _ => h3) (fun e => absurd e h2) g f m z3 z4, fun k s as h1 h2 h3 hR hN hk g f m z3 z4 => fin k s as h1 hk hR hN (fun e => absurd h2 e) (fun _ => h3) g f m z3 z4⟩
  intro k s as h1 h2 hR hN hk g f m z3 z4
  have hle : g 5 1 ≤ nI k := by rw [m.1]; exact nI_le h1 (by omega)
  have h14 : g 5 14 = 0 := m.2.2.2.2.2.2.2.1
  refine hK _ _ _ _ ⟨fun _ => ?_, fun e => absurd hle e⟩
  refine hK _ _ _ _ ⟨fun e => absurd h14 e, fun _ => ⟨fun e => absurd e (by decide), fun _ => ?_⟩⟩
  refine hK _ _ _ _ ?_
  exact bad155 g f h2 _ _ _ _
end M9
