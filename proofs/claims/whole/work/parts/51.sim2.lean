/-! THE REFERENCE reads what the grammar reads: a unit; the whole line -/
section SN
variable {tx : Nat → Int32} {n : Nat} {F : Option (List Nd × Nat × Int32) → Prop} {G : Nat → Bool → mSt → Int32 → Prop} {NF : List Nd} {T L : Nat → Int32}
theorem stp_t {k : Nat} {O : List (Int32 × Int32)} {R : List Nat} {N : List Nd} {as : Int32} : stp tx n k true (O, R, N) as = match bgS (tx k) (rdc tx n (k + 1)) k O R N as with
    | none => none
    | some (k', s', as') => if whl (tx k) then some (k', false, closeS s'.1 s'.2.1 s'.2.2, as') else some (k', true, s', as') := by
  unfold stp
  rw [if_pos rfl]
  rfl
theorem bh_none {c : Int32} {O : List (Int32 × Int32)} {R : List Nat} {N : List Nd} (h1 : c = 58 → ¬ topO O = 63) (h2 : c = 124 ∨ c = 59 → topO O = 63) (h3 : c = 41 → ¬ topO (joinS true O R N).1 = 40) (h4 : c = 125 → ¬ topO (joinS true O R N).1 = 123) : bhS c O R N = none := by
  unfold bhS
  by_cases e1 : c = 58
  · rw [if_pos e1, if_neg (h1 e1)]
  · rw [if_neg e1]
    by_cases e2 : c = 124 ∨ c = 59
    · rw [if_pos e2, if_pos (h2 e2)]
    · rw [if_neg e2, if_neg (fun z => h3 z.1 z.2), if_neg (fun z => h4 z.1 z.2)]
/-- no step, no end: refused -/
theorem g_none (hG : RdC tx n F G) {p : Nat} {O : List (Int32 × Int32)} {R : List Nat} {N : List Nd} {as : Int32} (hF : F none) (hb : p < n → bhS (tx p) O R N = none) (he : n ≤ p → ¬ (joinS true O R N).1 = []) : G p false (O, R, N) as := by
  rcases Nat.lt_or_ge p n with z | z
  · refine hG.1 p false (O, R, N) as z ?_ hF
    rw [stp_f, hb z]
  · exact hG.2.2.2.1 p (O, R, N) as z (he z) hF
theorem rdc_lt {p : Nat} (h : ¬ rdc tx n p = 0) : p < n := by
  rcases Nat.lt_or_ge p n with z | z
  · exact z
  · exact absurd (if_neg (Nat.not_lt.mpr z)) h
theorem sgO_0 : sgO 0 = -1 := by decide
set_option maxHeartbeats 8000000 in
theorem sim_unit (hG : RdC tx n F G) (hn : n ≤ 60) (hE : ∀ (i : Nat) (x : Nd), NF[i]? = some x → ∀ j, j < i → (x.2.2.1 = nI j ∨ x.2.2.2 = nI j) → edgT T L x i j) : ∀ f, SimU tx n F G NF T L f := by
  intro f
  induction f with
  | zero =>
    intro p O R N as hp hd hR hw hNp h01
    refine ⟨fun _ hF => ?_, fun p' N' a h => by cases h⟩
    rcases Nat.lt_or_ge p n with z | z
    · refine hG.1 p true (O, R, N) as z ?_ hF
      rw [stp_t]
      have : bgS (tx p) (rdc tx n (p + 1)) p O R N as = none := by unfold bgS; rw [if_pos (by omega)]
      rw [this]
    · exact hG.2.2.1 p (O, R, N) as z hF
  | succ f ih =>
    intro p O R N as hp hd hR hw hNp h01
    rcases Nat.lt_or_ge p n with hpn | hpn
    rotate_left
    · have e0 : rdU tx n (f + 1) p N = none := by
        have e0 : rdc tx n p = 0 := if_neg (Nat.not_lt.mpr hpn)
        unfold rdU
        dsimp only
        rw [e0]
        simp only [show ¬ (0 : Int32) = 48 by decide, show ¬ (0 : Int32) = 49 by decide, show ¬ (0 : Int32) = 33 by decide, show ¬ (0 : Int32) = 94 by decide, show ¬ (0 : Int32) = 63 by decide, show ¬ (0 : Int32) = 38 by decide, show ¬ (0 : Int32) = 42 by decide, show ¬ (0 : Int32) = 92 by decide, show ¬ (0 : Int32) = 123 by decide, show ¬ (0 : Int32) = 40 by decide, if_false]
      rw [e0]
      exact ⟨fun _ hF => hG.2.2.1 p (O, R, N) as hpn hF, fun p' N' a h => by cases h⟩
    have hd12 : ¬ 12 ≤ dpO O := by omega
    have er : rdc tx n p = tx p := if_pos hpn
    have en : rdn n p = p + 1 := if_pos hpn
    have stW : ∀ k' (s' : mSt) as1, bgS (tx p) (rdc tx n (p + 1)) p O R N as = some (k', s', as1) → whl (tx p) → G k' false (closeS s'.1 s'.2.1 s'.2.2) as1 → G p true (O, R, N) as := by
      intro k' s' as1 hb hwh
      refine hG.2.1 p true (O, R, N) as k' false _ as1 hpn ?_
      rw [stp_t, hb]
      dsimp only
      rw [if_pos hwh]
    have stN : ∀ k' (s' : mSt) as1, bgS (tx p) (rdc tx n (p + 1)) p O R N as = some (k', s', as1) → ¬ whl (tx p) → G k' true s' as1 → G p true (O, R, N) as := by
      intro k' s' as1 hb hwh
      refine hG.2.1 p true (O, R, N) as k' true _ as1 hpn ?_
      rw [stp_t, hb]
      dsimp only
      rw [if_neg hwh]
    have stX : bgS (tx p) (rdc tx n (p + 1)) p O R N as = none → F none → G p true (O, R, N) as := by
      intro hb hF
      refine hG.1 p true (O, R, N) as hpn ?_ hF
      rw [stp_t, hb]
    have en2 : ∀ s, rdc tx n (p + 1) = s → ¬ s = 0 → rdn n (p + 1) = p + 2 ∧ p + 1 < n := by
      intro s hs h0
      have := rdc_lt (tx := tx) (n := n) (p := p + 1) (by rw [hs]; exact h0)
      exact ⟨if_pos this, this⟩
    unfold rdU
    dsimp only
    rw [er, en]
    generalize hc : tx p = c at stW stN stX ⊢
    generalize hs : rdc tx n (p + 1) = s at stW stN stX ⊢
    have nonl : ∀ (k : Int32) (N1 : List Nd) (x : Nd) (o : Nat), True := fun _ _ _ _ => trivial
    by_cases h48 : c = 48
    · rw [if_pos h48]
      subst h48
      refine ⟨fun h => (by cases h), fun p' N' a h hg => ?_⟩
      cases h
      refine stW (p + 1) (O, N.length :: R, N ++ [(0, 0, -1, -1)]) as (by unfold bgS; rw [if_neg hd12, if_pos rfl]) (by decide) (hg as h01 (fun hpf _ _ => ?_))
      have := lie_no (T := T) (L := L) hpf (by dsimp only; decide)
      exact ⟨Or.inl, fun z => z.resolve_right this⟩
    rw [if_neg h48]
    by_cases h49 : c = 49
    · rw [if_pos h49]
      subst h49
      refine ⟨fun h => (by cases h), fun p' N' a h hg => ?_⟩
      cases h
      refine stW (p + 1) (O, N.length :: R, N ++ [(1, 0, -1, -1)]) as (by unfold bgS; rw [if_neg hd12, if_neg h48, if_pos rfl]) (by decide) (hg as h01 (fun hpf _ _ => ?_))
      have := lie_no (T := T) (L := L) hpf (by dsimp only; decide)
      exact ⟨Or.inl, fun z => z.resolve_right this⟩
    rw [if_neg h49]
    by_cases h33 : c = 33
    · rw [if_pos h33]
      subst h33
      by_cases h4 : sgO s < 4
      · rw [if_pos h4]
        refine ⟨fun _ hF => stX (by unfold bgS; rw [if_neg hd12, if_neg h48, if_neg h49, if_pos rfl, if_pos h4]) hF, fun p' N' a h => by cases h⟩
      · rw [if_neg h4]
        obtain ⟨e2, hlt⟩ := en2 s hs (fun z => by rw [z, sgO_0] at h4; exact h4 (by decide))
        rw [e2]
        refine ⟨fun h => (by cases h), fun p' N' a h hg => ?_⟩
        cases h
        refine stW (p + 2) (O, N.length :: R, N ++ [(2, s, -1, -1)]) (mAs as (liesO O s)) (by unfold bgS; rw [if_neg hd12, if_neg h48, if_neg h49, if_pos rfl, if_neg h4]) (by decide) (hg _ (mAs_01 _ _) (fun hpf hT hL => ?_))
        have hsn : ¬ sgO s = -1 := fun z => by rw [z] at h4; exact h4 (by decide)
        rw [lieR_one hpf, mAs_1 h01]
        dsimp only
        rw [hL, mkOf_sig (Or.inl rfl), lies_iff hw (Or.inl rfl) hsn]
    rw [if_neg h33]
    by_cases h94 : c = 94
    · rw [if_pos h94]
      subst h94
      by_cases h5 : s < 50 ∨ 53 < s
      · rw [if_pos h5]
        refine ⟨fun _ hF => stX (by unfold bgS; rw [if_neg hd12, if_neg h48, if_neg h49, if_neg h33, if_pos rfl, if_pos h5]) hF, fun p' N' a h => by cases h⟩
      · rw [if_neg h5]
        obtain ⟨e2, hlt⟩ := en2 s hs (fun z => by rw [z] at h5; exact h5 (by decide))
        rw [e2]
        refine ⟨fun h => (by cases h), fun p' N' a h hg => ?_⟩
        cases h
        refine stW (p + 2) (O, N.length :: R, N ++ [(3, s - 48, -1, -1)]) (mAs as (¬ nI (trO O) < s - 48 - 1)) (by unfold bgS; rw [if_neg hd12, if_neg h48, if_neg h49, if_neg h33, if_pos rfl, if_neg h5]) (by decide) (hg _ (mAs_01 _ _) (fun hpf hT hL => ?_))
        rw [lieR_one hpf, mAs_1 h01]
        dsimp only
        rw [hT]
        have hmk : mkOf (3, s - 48, -1, -1) = s - 48 := mkOf_no (by dsimp only; decide)
        rw [hmk]
        unfold cLr
        rw [if_pos rfl]
        by_cases hz : nI (trO O) < s - 48 - 1
        · rw [if_pos hz]; exact ⟨fun _ => Or.inr rfl, fun _ => Or.inr (fun q => q hz)⟩
        · rw [if_neg hz]
          refine ⟨fun z => z.imp id (fun q => absurd hz q), fun z => z.imp id (fun q => absurd q (by decide))⟩
    rw [if_neg h94]
    have nwh : ¬ whl c := fun z => by
      rcases (whl_iff c).mp z with q | q | q | q
      · exact h48 q
      · exact h49 q
      · exact h33 q
      · exact h94 q
    -- what is pushed: '?', '&', '\'
    have pushL : (c = 63 ∨ c = 38 ∨ c = 92) → ¬ (sgO s = -1 ∨ (c = 92 ∧ sgO s < 8)) → G (p + 2) true ((c, s) :: O, R, N) (mAs as (c = 92 ∨ liesO O s)) → G p true (O, R, N) as := by
      intro e1 e2
      exact stN (p + 2) ((c, s) :: O, R, N) _ (by unfold bgS; rw [if_neg hd12, if_neg h48, if_neg h49, if_neg h33, if_neg h94, if_pos e1, if_neg e2]) nwh
    have pushN : (c = 63 ∨ c = 38 ∨ c = 92) → (sgO s = -1 ∨ (c = 92 ∧ sgO s < 8)) → F none → G p true (O, R, N) as := by
      intro e1 e2
      exact stX (by unfold bgS; rw [if_neg hd12, if_neg h48, if_neg h49, if_neg h33, if_neg h94, if_pos e1, if_pos e2])
    have pushO : ¬ (c = 63 ∨ c = 38 ∨ c = 92) → (c = 42 ∨ c = 40 ∨ c = 123) → G (p + 1) true ((c, 0) :: O, R, N) as → G p true (O, R, N) as := by
      intro e1 e2
      exact stN (p + 1) ((c, 0) :: O, R, N) _ (by unfold bgS; rw [if_neg hd12, if_neg h48, if_neg h49, if_neg h33, if_neg h94, if_neg e1, if_pos e2]) nwh
    -- one unit inside, and a node round it
    have around : ∀ (cc l k : Int32) (q : Nat) (as1 : Int32), (cc = 38 ∨ cc = 42 ∨ cc = 92) → clK cc = k → (cc = 92 → ¬ sgO l < 8) → (k = 8 → cc = 92) → ¬ k = 7 → (cc = 92 → k = 8) → q ≤ n → N.length ≤ q → (as1 = 0 ∨ as1 = 1) → (∀ (t x' : Int32), (as1 = 1 ↔ as = 1 ∨ cLr k (mkOf (k, l, x', -1)) t (lO O) = 0)) → (G q true ((cc, l) :: O, R, N) as1 → G p true (O, R, N) as) →
        (rdAr k l (rdU tx n f q N) = none → F none → G p true (O, R, N) as) ∧ (∀ p' N' a, rdAr k l (rdU tx n f q N) = some (p', N', a) → (∀ as', (as' = 0 ∨ as' = 1) → asR NF T L O N N' a as as' → G p' false (closeS O (a :: R) N') as') → G p true (O, R, N) as) := by
      intro cc l k q as1 hcc hk h92 hk8 hk7 hk8' hq hNq ha1 hlie hst
      have ncnt : ¬ (cc = 58 ∨ cc = 124 ∨ cc = 59) := by rcases hcc with z | z | z <;> rw [z] <;> decide
      have ndp : ¬ (cc = 59 ∨ cc = 124) := by rcases hcc with z | z | z <;> rw [z] <;> decide
      have ntr : ¬ cc = 123 := by rcases hcc with z | z | z <;> rw [z] <;> decide
      have hu := ih q ((cc, l) :: O) R N as1 hq (by rw [dpO_cons, if_neg ndp]; omega) (by rw [cntB_cons, if_neg ncnt]; exact hR) (wfO_cons hw h92) hNq ha1
      have hok := rdU_ok (tx := tx) (n := n) f q N hq
      match hr : rdU tx n f q N with
      | none => exact ⟨fun _ hF => hst (hu.1 hr hF), fun p' N' a h => by cases h⟩
      | some (p1, N1, a1) =>
        rw [hr] at hok
        obtain ⟨k1, k2, k3, k4, k5⟩ := hok
        refine ⟨fun h => (by cases h), fun p' N' a h hg => ?_⟩
        cases h
        refine hst (hu.2 p1 N1 a1 hr (fun as2 h2 hr2 => ?_))
        have hcl : closeS ((cc, l) :: O) (a1 :: R) N1 = closeS O (N1.length :: R) (N1 ++ [(k, l, nI a1, -1)]) := by
          rw [closeS, if_pos hcc, hk]
        rw [hcl]
        refine hg as2 h2 (fun hpf hT hL => ?_)
        have he := hE _ _ (pf_get hpf) a1 (by omega) (Or.inl rfl)
        unfold edgT at he
        dsimp only at he
        rw [if_neg hk7, Int32.add_zero] at he
        have hL1 : L a1 = lO ((cc, l) :: O) := by
          rw [he.2, hL]
          simp only [lO]
          by_cases z : k = 8
          · rw [if_pos z, if_pos (hk8 z)]
          · rw [if_neg z, if_neg (fun w => z (hk8' w))]
        have hpre : N <+: N1 := rdR_unit (tx := tx) (n := n) rd_pre f _ _ _ _ _ hr
        have hr3 := hr2 ((List.prefix_append _ _).trans hpf) (by rw [he.1, hT, trO_cons, if_neg ntr, Nat.add_zero]) hL1
        have h1 := lieR_one (T := T) (L := L) hpf
        dsimp only at h1
        rw [hL] at h1
        rw [hr3, hlie (T N1.length) (nI a1), lieR_split (i := N.length) (j := N1.length) (k := (N1 ++ [((k, l, nI a1, -1) : Nd)]).length) (by omega) (by simp), h1]
        constructor
        · intro z
          rcases z with (z | z) | z
          · exact Or.inl z
          · exact Or.inr (Or.inr z)
          · exact Or.inr (Or.inl z)
        · intro z
          rcases z with z | z | z
          · exact Or.inl (Or.inl z)
          · exact Or.inr z
          · exact Or.inl (Or.inr z)
    have noLie : ∀ (k m t l : Int32), ¬ (k = 3 ∨ k = 2 ∨ k = 4 ∨ k = 5) → ¬ cLr k m t l = 0 := by
      intro k m t l hk
      unfold cLr
      rw [if_neg (fun z => hk (Or.inl z)), if_neg (fun z => hk (Or.inr z))]
      decide
    by_cases h63 : c = 63
    · rw [if_pos h63]
      subst h63
      by_cases hsn : sgO s = -1
      · rw [if_pos hsn]
        exact ⟨fun _ hF => pushN (Or.inl rfl) (Or.inl hsn) hF, fun p' N' a h => by cases h⟩
      · rw [if_neg hsn]
        obtain ⟨e2, hlt⟩ := en2 s hs (fun z => by rw [z, sgO_0] at hsn; exact hsn rfl)
        rw [e2]
        have hst := pushL (Or.inl rfl) (fun z => z.elim hsn (fun q => absurd q.1 (by decide)))
        have hu := ih (p + 2) ((63, s) :: O) R N _ (by omega) (by rw [dpO_cons, if_neg (by dsimp only; decide)]; omega) (by rw [cntB_cons, if_neg (by dsimp only; decide)]; exact hR) (wfO_cons hw (fun z => absurd z (by decide))) (by omega) (mAs_01 as ((63 : Int32) = 92 ∨ liesO O s))
        have hok := rdU_ok (tx := tx) (n := n) f (p + 2) N (by omega)
        match hr : rdU tx n f (p + 2) N with
        | none => exact ⟨fun _ hF => hst (hu.1 hr hF), fun p' N' a h => by cases h⟩
        | some (p3, N3, a3) =>
          dsimp only
          rw [hr] at hok
          obtain ⟨k1, k2, k3, k4, k5⟩ := hok
          have hcl : closeS ((63, s) :: O) (a3 :: R) N3 = ((63, s) :: O, a3 :: R, N3) := by
            unfold closeS
            rw [if_neg (by decide), if_neg (by decide)]
          by_cases h58 : p3 < n ∧ tx p3 = 58
          · rw [if_pos h58]
            have hst2 : ∀ as2, G (p3 + 1) true ((58, s) :: O, a3 :: R, N3) as2 → G p3 false ((63, s) :: O, a3 :: R, N3) as2 := by
              intro as2
              refine hG.2.1 p3 false _ as2 (p3 + 1) true _ as2 h58.1 ?_
              rw [stp_f]
              have : bhS (tx p3) ((63, s) :: O) (a3 :: R) N3 = some (true, ((58, s) :: O, a3 :: R, N3)) := by
                unfold bhS
                rw [if_pos h58.2, if_pos (show topO ((63, s) :: O) = 63 from rfl)]
                rfl
              rw [this]
            have hu2 := fun as2 (h2 : as2 = 0 ∨ as2 = 1) => ih (p3 + 1) ((58, s) :: O) (a3 :: R) N3 as2 h58.1 (by rw [dpO_cons, if_neg (by dsimp only; decide)]; omega) (by rw [cntB_cons, if_pos (Or.inl rfl)]; simp; exact hR) (wfO_cons hw (fun z => absurd z (by decide))) (by omega) h2
            have hok2 := rdU_ok (tx := tx) (n := n) f (p3 + 1) N3 h58.1
            match hr4 : rdU tx n f (p3 + 1) N3 with
            | none =>
              refine ⟨fun _ hF => hst (hu.2 p3 N3 a3 hr (fun as2 h2 hr2 => ?_)), fun p' N' a h => by cases h⟩
              rw [hcl]
              exact hst2 as2 ((hu2 as2 h2).1 hr4 hF)
            | some (p4, N4, b) =>
              dsimp only
              rw [hr4] at hok2
              obtain ⟨l1, l2, l3, l4, l5⟩ := hok2
              refine ⟨fun h => (by cases h), fun p' N' a h hg => ?_⟩
              cases h
              refine hst (hu.2 p3 N3 a3 hr (fun as2 h2 hr2 => ?_))
              rw [hcl]
              refine hst2 as2 ((hu2 as2 h2).2 p4 N4 b hr4 (fun as3 h3 hr3 => ?_))
              have hcl2 : closeS ((58, s) :: O) (b :: a3 :: R) N4 = closeS O (N4.length :: R) (N4 ++ [(4, s, nI a3, nI b)]) := by
                rw [closeS, if_neg (by decide), if_pos rfl]
              rw [hcl2]
              refine hg as3 h3 (fun hpf hT hL => ?_)
              have hpre : N3 <+: N4 := rdR_unit (tx := tx) (n := n) rd_pre f _ _ _ _ _ hr4
              have hpf4 := (List.prefix_append N4 [(4, s, nI a3, nI b)]).trans hpf
              have ea := edge_of hE hpf (j := a3) (by omega) (Or.inl rfl) (by dsimp only; decide) (by dsimp only; decide)
              have eb := edge_of hE hpf (j := b) (by omega) (Or.inr rfl) (by dsimp only; decide) (by dsimp only; decide)
              have w1 := hr2 (hpre.trans hpf4) (by rw [ea.1, hT, trO_cons]; rfl) (by rw [ea.2, hL]; simp only [lO]; rw [if_neg (by decide), Int32.or_zero])
              have w2 := hr3 hpf4 (by rw [eb.1, hT, trO_cons]; rfl) (by rw [eb.2, hL]; simp only [lO]; rw [if_neg (by decide), Int32.or_zero])
              have h1 := lieR_one (T := T) (L := L) hpf
              dsimp only at h1
              rw [hL, mkOf_sig (Or.inr (Or.inl rfl)), lies_iff hw (Or.inr (Or.inl rfl)) hsn] at h1
              rw [w2, w1, mAs_1 h01, lieR_split (i := N.length) (j := N3.length) (k := (N4 ++ [((4, s, nI a3, nI b) : Nd)]).length) (by omega) (by simp; omega), lieR_split (i := N3.length) (j := N4.length) (k := (N4 ++ [((4, s, nI a3, nI b) : Nd)]).length) (by omega) (by simp), h1]
              have h92 : ¬ ((63 : Int32) = 92 ∨ liesO O s) ↔ ¬ liesO O s := ⟨fun z q => z (Or.inr q), fun z q => q.elim (fun w => absurd w (by decide)) z⟩
              rw [h92]
              constructor
              · intro z
                rcases z with ((z | z) | z) | z
                · exact Or.inl z
                · exact Or.inr (Or.inr (Or.inr z))
                · exact Or.inr (Or.inl z)
                · exact Or.inr (Or.inr (Or.inl z))
              · intro z
                rcases z with z | z | z | z
                · exact Or.inl (Or.inl (Or.inl z))
                · exact Or.inl (Or.inr z)
                · exact Or.inr z
                · exact Or.inl (Or.inl (Or.inr z))
          · rw [if_neg h58]
            refine ⟨fun _ hF => hst (hu.2 p3 N3 a3 hr (fun as2 h2 hr2 => ?_)), fun p' N' a h => by cases h⟩
            rw [hcl]
            have hjs : joinS true ((63, s) :: O) (a3 :: R) N3 = ((63, s) :: O, a3 :: R, N3) := by
              unfold joinS
              rw [if_neg (by decide)]
            refine g_none hG hF (fun hlt => bh_none (fun e => absurd ⟨hlt, e⟩ h58) (fun _ => rfl) (fun _ => ?_) (fun _ => ?_)) (fun _ => by rw [hjs]; simp)
            · rw [hjs]; show ¬ (63 : Int32) = 40; decide
            · rw [hjs]; show ¬ (63 : Int32) = 123; decide
    rw [if_neg h63]
    by_cases h38 : c = 38
    · rw [if_pos h38]
      subst h38
      by_cases hsn : sgO s = -1
      · rw [if_pos hsn]
        exact ⟨fun _ hF => pushN (Or.inr (Or.inl rfl)) (Or.inl hsn) hF, fun p' N' a h => by cases h⟩
      · rw [if_neg hsn]
        obtain ⟨e2, hlt⟩ := en2 s hs (fun z => by rw [z, sgO_0] at hsn; exact hsn rfl)
        rw [e2]
        have hst := pushL (Or.inr (Or.inl rfl)) (fun z => z.elim hsn (fun q => absurd q.1 (by decide)))
        refine around 38 s 5 (p + 2) _ (Or.inl rfl) (by decide) (fun z => absurd z (by decide)) (fun z => absurd z (by decide)) (by decide) (fun z => absurd z (by decide)) (by omega) (by omega) (mAs_01 _ _) (fun t x' => ?_) hst
        rw [mAs_1 h01, mkOf_sig (Or.inr (Or.inr (Or.inl rfl))), lies_iff hw (Or.inr (Or.inr rfl)) hsn]
        have h92 : ¬ ((38 : Int32) = 92 ∨ liesO O s) ↔ ¬ liesO O s := ⟨fun z q => z (Or.inr q), fun z q => q.elim (fun w => absurd w (by decide)) z⟩
        rw [h92]
    rw [if_neg h38]
    by_cases h42 : c = 42
    · rw [if_pos h42]
      subst h42
      exact around 42 0 6 (p + 1) as (Or.inr (Or.inl rfl)) (by decide) (fun z => absurd z (by decide)) (fun z => absurd z (by decide)) (by decide) (fun z => absurd z (by decide)) hpn (by omega) h01 (fun t x' => ⟨Or.inl, fun z => z.resolve_right (noLie _ _ _ _ (by decide))⟩) (pushO (by decide) (by decide))
    rw [if_neg h42]
    by_cases h92 : c = 92
    · rw [if_pos h92]
      subst h92
      by_cases h8 : sgO s < 8
      · rw [if_pos h8]
        exact ⟨fun _ hF => pushN (Or.inr (Or.inr rfl)) (Or.inr ⟨rfl, h8⟩) hF, fun p' N' a h => by cases h⟩
      · rw [if_neg h8]
        have hsn : ¬ sgO s = -1 := fun z => by rw [z] at h8; exact h8 (by decide)
        obtain ⟨e2, hlt⟩ := en2 s hs (fun z => by rw [z, sgO_0] at hsn; exact hsn rfl)
        rw [e2]
        have hst := pushL (Or.inr (Or.inr rfl)) (fun z => z.elim hsn (fun q => h8 q.2))
        refine around 92 s 8 (p + 2) _ (Or.inr (Or.inr rfl)) (by decide) (fun _ => h8) (fun _ => rfl) (by decide) (fun _ => rfl) (by omega) (by omega) (mAs_01 _ _) (fun t x' => ?_) hst
        rw [mAs_1 h01]
        exact ⟨fun z => z.imp id (fun q => absurd (Or.inl rfl) q), fun z => Or.inl (z.resolve_right (noLie _ _ _ _ (by decide)))⟩
    rw [if_neg h92]
    have n3 : ¬ (c = 63 ∨ c = 38 ∨ c = 92) := fun z => z.elim h63 (fun z => z.elim h38 h92)
    by_cases h123 : c = 123
    · rw [if_pos h123]
      subst h123
      have hst := pushO n3 (Or.inr (Or.inr rfl))
      have hsq := sim_seq hG hn hE ih (B := (123, 0) :: O) (Or.inr (Or.inr rfl)) (R := R) (by rw [cntB_cons, if_neg (by dsimp only; decide)]; exact hR) (by rw [dpO_cons, if_neg (by dsimp only; decide)]; omega) (wfO_cons hw (fun z => absurd z (by decide))) (p := p + 1) (N := N) (as := as) hpn (by omega) h01
      have hok := rdSeq_ok (tx := tx) (rdU_ok (tx := tx) (n := n) f) (p + 1) N hpn
      match hr : rdSeq tx n (rdU tx n f) (p + 1) N with
      | none => exact ⟨fun _ hF => hst (hsq.1 hr hF), fun p' N' a h => by cases h⟩
      | some (p1, N1, a1) =>
        rw [hr] at hok
        obtain ⟨k1, k2, k3, k4, k5⟩ := hok
        unfold rdCl
        dsimp only
        by_cases hcl : p1 < n ∧ tx p1 = 125
        · rw [if_pos hcl]
          refine ⟨fun h => (by cases h), fun p' N' a h hg => ?_⟩
          cases h
          refine hst (hsq.2 p1 N1 a1 hr (fun as2 O2 R2 N2 h2 e1 e2 e3 hr2 => ?_))
          refine hG.2.1 p1 false (O2, R2, N2) as2 (p1 + 1) false (closeS O (N1.length :: R) (N1 ++ [(7, 0, nI a1, -1)])) as2 hcl.1 ?_ ?_
          · rw [stp_f]
            have : bhS (tx p1) O2 R2 N2 = some (false, closeS O (N1.length :: R) (N1 ++ [(7, 0, nI a1, -1)])) := by
              unfold bhS
              rw [e1, hcl.2, if_neg (by decide), if_neg (by decide), if_neg (fun z => absurd z.1 (by decide)), if_pos ⟨rfl, rfl⟩]
              rfl
            rw [this]
          · refine hg as2 h2 (fun hpf hT hL => ?_)
            have he := hE _ _ (pf_get hpf) a1 (by omega) (Or.inl rfl)
            unfold edgT at he
            dsimp only at he
            rw [if_pos rfl, if_neg (by decide), Int32.or_zero] at he
            have w1 := hr2 ((List.prefix_append _ _).trans hpf) (by rw [he.1, hT, trO_cons, if_pos rfl]; exact nI_1 _) (by rw [he.2, hL]; simp only [lO]; rw [if_neg (by decide), Int32.or_zero])
            have hno := lie_no (T := T) (L := L) hpf (by dsimp only; decide)
            rw [w1, lieR_split (i := N.length) (j := N1.length) (k := (N1 ++ [((7, 0, nI a1, -1) : Nd)]).length) (by omega) (by simp)]
            exact ⟨fun z => z.imp id Or.inl, fun z => z.imp id (fun q => q.resolve_right hno)⟩
        · rw [if_neg hcl]
          refine ⟨fun _ hF => hst (hsq.2 p1 N1 a1 hr (fun as2 O2 R2 N2 h2 e1 e2 e3 hr2 => ?_)), fun p' N' a h => by cases h⟩
          refine g_none hG hF (fun hlt => bh_none (fun _ => e2) (fun z => absurd z (fun w => w.elim (e3 hlt).1 (e3 hlt).2)) (fun _ => ?_) (fun e => absurd ⟨hlt, e⟩ hcl)) (fun _ => by rw [e1]; simp)
          rw [e1]; show ¬ (123 : Int32) = 40; decide
    rw [if_neg h123]
    by_cases h40 : c = 40
    · rw [if_pos h40]
      subst h40
      have hst := pushO n3 (Or.inr (Or.inl rfl))
      have hsq := sim_seq hG hn hE ih (B := (40, 0) :: O) (Or.inr (Or.inl rfl)) (R := R) (by rw [cntB_cons, if_neg (by dsimp only; decide)]; exact hR) (by rw [dpO_cons, if_neg (by dsimp only; decide)]; omega) (wfO_cons hw (fun z => absurd z (by decide))) (p := p + 1) (N := N) (as := as) hpn (by omega) h01
      match hr : rdSeq tx n (rdU tx n f) (p + 1) N with
      | none => exact ⟨fun _ hF => hst (hsq.1 hr hF), fun p' N' a h => by cases h⟩
      | some (p1, N1, a1) =>
        unfold rdCl
        dsimp only
        by_cases hcl : p1 < n ∧ tx p1 = 41
        · rw [if_pos hcl]
          refine ⟨fun h => (by cases h), fun p' N' a h hg => ?_⟩
          cases h
          refine hst (hsq.2 p1 N1 a1 hr (fun as2 O2 R2 N2 h2 e1 e2 e3 hr2 => ?_))
          refine hG.2.1 p1 false (O2, R2, N2) as2 (p1 + 1) false (closeS O (a1 :: R) N1) as2 hcl.1 ?_ ?_
          · rw [stp_f]
            have : bhS (tx p1) O2 R2 N2 = some (false, closeS O (a1 :: R) N1) := by
              unfold bhS
              rw [e1, hcl.2, if_neg (by decide), if_neg (by decide), if_pos ⟨rfl, rfl⟩]
              rfl
            rw [this]
          · refine hg as2 h2 (fun hpf hT hL => ?_)
            exact hr2 hpf (by rw [hT, trO_cons]; rfl) (by rw [hL]; simp only [lO]; rw [if_neg (by decide), Int32.or_zero])
        · rw [if_neg hcl]
          refine ⟨fun _ hF => hst (hsq.2 p1 N1 a1 hr (fun as2 O2 R2 N2 h2 e1 e2 e3 hr2 => ?_)), fun p' N' a h => by cases h⟩
          refine g_none hG hF (fun hlt => bh_none (fun _ => e2) (fun z => absurd z (fun w => w.elim (e3 hlt).1 (e3 hlt).2)) (fun e => absurd ⟨hlt, e⟩ hcl) (fun _ => ?_)) (fun _ => by rw [e1]; simp)
          rw [e1]; show ¬ (40 : Int32) = 123; decide
    rw [if_neg h40]
    refine ⟨fun _ hF => stX (by unfold bgS; rw [if_neg hd12, if_neg h48, if_neg h49, if_neg h33, if_neg h94, if_neg n3, if_neg (fun z => z.elim h42 (fun z => z.elim h40 h123))]) hF, fun p' N' a h => by cases h⟩
/-- the whole line -/
theorem sim_line (hG : RdC tx n F G) (hn : n ≤ 60) (hE : ∀ (i : Nat) (x : Nd), NF[i]? = some x → ∀ j, j < i → (x.2.2.1 = nI j ∨ x.2.2.2 = nI j) → edgT T L x i j) (hbad : (∀ N a, prs tx n = some (n, N, a) → False) → F none) (hgood : ∀ N a, prs tx n = some (n, N, a) → ∀ as, (as = 0 ∨ as = 1) → (N <+: NF → T a = 0 → L a = 0 → (as = 1 ↔ lieR NF T L 0 N.length)) → F (some (N, a, as))) : G 0 true ([], [], []) 0 := by
  have hsq := sim_seq hG hn hE (sim_unit hG hn hE 12) (B := []) (Or.inl rfl) (R := []) rfl rfl (fun l hl => by cases hl) (p := 0) (N := []) (as := 0) (Nat.zero_le _) (Nat.le_refl _) (Or.inl rfl)
  have hok := rdSeq_ok (tx := tx) (rdU_ok (tx := tx) (n := n) 12) 0 [] (Nat.zero_le n)
  match hr : rdSeq tx n (rdU tx n 12) 0 [] with
  | none =>
    refine hsq.1 hr (hbad (fun N a h => ?_))
    unfold prs at h
    rw [hr] at h
    cases h
  | some (p1, N1, a1) =>
    rw [hr] at hok
    obtain ⟨k1, k2, k3, k4, k5⟩ := hok
    refine hsq.2 p1 N1 a1 hr (fun as2 O2 R2 N2 h2 e1 e2 e3 hr2 => ?_)
    by_cases hpn : p1 = n
    · subst hpn
      refine hG.2.2.2.2 p1 (O2, R2, N2) as2 (Nat.le_refl _) (by rw [e1]) ?_
      dsimp only
      rw [e1]
      refine hgood N1 a1 hr as2 h2 (fun hpf hT hL => ?_)
      rw [hr2 hpf hT hL]
      exact ⟨fun z => z.resolve_left (by decide), Or.inr⟩
    · have hF : F none := by
        refine hbad (fun N a h => ?_)
        unfold prs at h
        rw [hr] at h
        cases h
        exact hpn rfl
      refine g_none hG hF (fun hlt => bh_none (fun _ => e2) (fun z => absurd z (fun w => w.elim (e3 hlt).1 (e3 hlt).2)) (fun _ => ?_) (fun _ => ?_)) (fun h => by omega)
      · rw [e1]; show ¬ (0 : Int32) = 40; decide
      · rw [e1]; show ¬ (0 : Int32) = 123; decide
end SN
