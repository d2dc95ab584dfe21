/-! THE REFERENCE: begin -/
noncomputable def mAs (as : Int32) (p : Prop) : Int32 := @ite _ (as = 0 ∧ p) (Classical.propDecidable _) 0 1
noncomputable def bgS (c d : Int32) (k : Nat) (O : List (Int32 × Int32)) (R : List Nat) (N : List Nd) (as : Int32) : Option (Nat × mSt × Int32) :=
  if 12 ≤ dpO O then none
  else if c = 48 then some (k + 1, (O, N.length :: R, N ++ [(0, 0, -1, -1)]), as)
  else if c = 49 then some (k + 1, (O, N.length :: R, N ++ [(1, 0, -1, -1)]), as)
  else if c = 33 then (if sgO d < 4 then none else some (k + 2, (O, N.length :: R, N ++ [(2, d, -1, -1)]), mAs as (liesO O d)))
  else if c = 94 then (if d < 50 ∨ 53 < d then none else some (k + 2, (O, N.length :: R, N ++ [(3, d - 48, -1, -1)]), mAs as (¬ nI (trO O) < d - 48 - 1)))
  else if c = 63 ∨ c = 38 ∨ c = 92 then (if sgO d = -1 ∨ (c = 92 ∧ sgO d < 8) then none else some (k + 2, ((c, d) :: O, R, N), mAs as (c = 92 ∨ liesO O d)))
  else if c = 42 ∨ c = 40 ∨ c = 123 then some (k + 1, ((c, 0) :: O, R, N), as) else none
theorem sgO_4 (d : Int32) : sgO d < 4 ↔ (¬ isSg d ∨ d < 101) := by
  rw [isSg_iff]
  rcases sgO_cases d with z | ⟨j, hj, z, w⟩ | ⟨j, hj, z, w⟩
  · rw [z]; exact ⟨fun _ => Or.inl (fun q => q rfl), fun _ => by decide⟩
  · rw [z, w]
    have : ∀ j, j < 8 → (nI j < 4 ↔ (¬ ¬ nI j = -1 ∨ nI (97 + j) < 101)) := by decide +kernel
    exact this j hj
  · rw [z, w]
    have : ∀ j, j < 8 → (8 + nI j < 4 ↔ (¬ ¬ 8 + nI j = -1 ∨ nI (115 + j) < 101)) := by decide +kernel
    exact this j hj
theorem sgO_8 (d : Int32) : sgO d < 8 ↔ (¬ isSg d ∨ d < 115) := by
  rw [isSg_iff]
  rcases sgO_cases d with z | ⟨j, hj, z, w⟩ | ⟨j, hj, z, w⟩
  · rw [z]; exact ⟨fun _ => Or.inl (fun q => q rfl), fun _ => by decide⟩
  · rw [z, w]
    have : ∀ j, j < 8 → (nI j < 8 ↔ (¬ ¬ nI j = -1 ∨ nI (97 + j) < 115)) := by decide +kernel
    exact this j hj
  · rw [z, w]
    have : ∀ j, j < 8 → (8 + nI j < 8 ↔ (¬ ¬ 8 + nI j = -1 ∨ nI (115 + j) < 115)) := by decide +kernel
    exact this j hj
section M7
variable {d : Nat} {tx : Nat → Int32} {n : Nat}
set_option maxHeartbeats 8000000 in
theorem s_X5_begin {g : mvH} {Q : Option mvV → mvH → Prop} (hd : 4 ≤ d) (c : Int32) {k : Nat} {O : List (Int32 × Int32)} {R : List Nat} {N : List Nd} {as : Int32} (hm : MdOK g tx n O R N as) (hn : n ≤ 60) (hk : k < 2 ^ 30) (hO : O.length ≤ 78) (hR : R.length < 79) (hN : N.length < 127)
    (hbad : bgS c (rdc tx n (k + 1)) k O R N as = none → ∀ v g', frM g g' → g' 5 14 = 1 → Q (some (.inl v)) g')
    (hgood : ∀ k' s as', bgS c (rdc tx n (k + 1)) k O R N as = some (k', s, as') → ∀ g', frM g g' → MdOK g' tx n s.1 s.2.1 s.2.2 as' → Q (some (.inl (nI k'))) g') : mvCal mvMT d 111 [.inr 5, .inl c, .inl (nI k)] g Q := by
  obtain ⟨d, rfl⟩ := d_pos hd (by decide)
  generalize hdd : rdc tx n (k + 1) = dd at *
  have hres : ∀ (k' : Nat) (s : mSt) (as' w : Int32) (g' : mvH), (w = 1 ∧ bgS c dd k O R N as = none) ∨ (w = 0 ∧ bgS c dd k O R N as = some (k', s, as')) → frM g g' → MdV g' tx n s.1 s.2.1 s.2.2 as' w → Q (some (.inl (nI k'))) g' := by
    intro k' s as' w g' hw hf hmv
    rcases hw with ⟨w1, w2⟩ | ⟨w1, w2⟩
    · exact hbad w2 _ g' hf (by rw [hmv.2.2.2.2.2.2.2.1, w1])
    · rw [w1] at hmv
      exact hgood k' s as' w2 g' hf hmv
  have e2 : nI k + 2 = nI (k + 2) := nI_add k 2
  have as01 : as = 0 ∨ as = 1 := hm.2.2.2.2.2.2.2.2.2.1
  refine ⟨⟨rfl, by decide, rfl⟩, Nat.le_of_ble_eq_true rfl, fun K hK => hK _ _ _ _ ?_⟩
  refine s_X5_deep (by omega) hm.2.2.1 (by omega) ?_
  have c15 : ∀ w0 : Int32, (w0 = 1 ∧ 12 ≤ dpO O) ∨ (w0 = 0 ∧ ¬ 12 ≤ dpO O) → ∀ z3, K 15 [some (.inr 5), some (.inl c), some (.inl (nI k)), z3] [.inl w0, .inr 5] g := by
    intro w0 hw0 z3
    have hw01 : w0 = 0 ∨ w0 = 1 := hw0.elim (fun z => Or.inr z.1) (fun z => Or.inl z.1)
    have hb1 : w0 = 1 → bgS c dd k O R N as = none := by
      intro z
      unfold bgS
      rcases hw0 with q | q
      · rw [if_pos q.2]
      · rw [q.1] at z; exact absurd z (by decide)
    have hb0 : w0 = 0 → ¬ 12 ≤ dpO O := by
      intro z
      rcases hw0 with q | q
      · rw [q.1] at z; exact absurd z (by decide)
      · exact q.2
    have hm1 := MdV_14 hm w0
    have f1 : frM g (hset g 5 14 w0) := frM_5 (by decide)
    have hrd : (if k + 1 < n then (hset g 5 14 w0) 33 (k + 1) else 0) = dd := by
      rw [← hdd]
      unfold rdc
      split
      · rename_i q; exact hm1.2.1 _ q
      · rfl
    refine hK _ _ _ _ ⟨hw01, ?_⟩
    conv => whnf
    rw [nI_1]
    refine s_X5_at (by omega) hm1.1 (by omega) (by omega) ?_
    rw [hrd]
    generalize hset g 5 14 w0 = g1 at *
    have h14 : g1 5 14 = w0 := hm1.2.2.2.2.2.2.2.1
    have h15 : g1 5 15 = as := hm1.2.2.2.2.2.2.2.2.1
    have asAs : ∀ p : Prop, mAs as p = 0 ∨ mAs as p = 1 := by
      intro p
      unfold mAs
      by_cases z : as = 0 ∧ p
      · rw [if_pos z]; exact Or.inl rfl
      · rw [if_neg z]; exact Or.inr rfl
    have as1 : ∀ p : Prop, ¬ as = 0 → mAs as p = 1 := fun p z => by unfold mAs; rw [if_neg (fun q => z q.1)]
    have as0 : ∀ p : Prop, as = 0 → p → mAs as p = 0 := fun p z w => by unfold mAs; rw [if_pos ⟨z, w⟩]
    have asn : ∀ p : Prop, ¬ p → mAs as p = 1 := fun p w => by unfold mAs; rw [if_neg (fun q => w q.2)]
    have c51 : ∀ kk : Int32, (c = 48 ∧ kk = 0) ∨ (c = 49 ∧ kk = 1) → K 51 [some (.inr 5), some (.inl c), some (.inl (nI k)), some (.inl dd)] [.inl kk, .inr 5, .inr 5] g1 := by
      intro kk hkk
      obtain ⟨n1, n2, n3⟩ := node_md hm1 (by omega) (k := kk) (c := 0) (a := -1) (b := -1) (Or.inl rfl) (Or.inl rfl) (fun z => by rcases hkk with q | q <;> rw [q.2] at z <;> exact absurd z (by decide))
      refine hK _ _ _ _ ?_
      refine s_X5_node (by omega) _ _ _ _ hm1.2.2.2.2.1.1 (by omega) (Or.inl (by decide)) (Or.inl (by decide)) ?_
      refine s_X5_give (by omega) n1 (by omega) ?_
      refine ⟨trivial, mvq (hres (k + 1) (O, N.length :: R, N ++ [(kk, 0, -1, -1)]) as w0 _ ?_ (f1.trans n3) n2) (by rw [nI_1])⟩
      rcases hw01 with z | z
      · refine Or.inr ⟨z, ?_⟩
        unfold bgS
        rw [if_neg (hb0 z)]
        rcases hkk with q | q
        · rw [if_pos q.1, q.2]
        · rw [if_neg (by rw [q.1]; decide), if_pos q.1, q.2]
      · exact Or.inl ⟨z, hb1 z⟩
    have c38 : (c = 48 ∨ c = 49) → K 38 [some (.inr 5), some (.inl c), some (.inl (nI k)), some (.inl dd)] [] g1 := by
      intro hc
      refine hK _ _ _ _ ⟨fun e => ?_, fun e => ?_⟩
      · refine hK _ _ _ _ ?_
        exact c51 1 (Or.inr ⟨hc.resolve_left e, rfl⟩)
      · exact c51 0 (Or.inl ⟨e, rfl⟩)
    -- a push at the end
    have pushEnd : ∀ (g2 : mvH) (l as' w : Int32) (k' : Nat) (kv : Int32), MdV g2 tx n O R N as' w → frM g g2 → kv = nI k' → ((w = 1 ∧ bgS c dd k O R N as = none) ∨ (w = 0 ∧ bgS c dd k O R N as = some (k', ((c, l) :: O, R, N), as'))) → ∀ Q', (∀ g3, Q (some (.inl kv)) g3 → Q' none g3) → mvCal mvMT d 102 [.inr 5, .inl c, .inl l] g2 Q' := by
      intro g2 l as' w k' kv hm2 hf2 hkv hw Q' hq
      obtain ⟨p1, p2⟩ := MdV_push hm2 c l
      refine s_X5_push (by omega) _ _ hm2.2.2.1.1 (by omega) ?_
      refine hq _ ?_
      rw [hkv]
      exact hres k' _ as' w _ hw (hf2.trans p2) p1
    have c324 : ¬ c = 48 → ¬ c = 49 → ¬ c = 33 → ¬ c = 94 → ¬ (c = 63 ∨ c = 38 ∨ c = 92) → K 324 [some (.inr 5), some (.inl c), some (.inl (nI k)), some (.inl dd)] [] g1 := by
      intro n48 n49 n33 n94 nq
      have c355 : ∀ w : Int32, (w = 1 ∧ (w0 = 1 ∨ ¬ (c = 42 ∨ c = 40 ∨ c = 123))) ∨ (w = 0 ∧ w0 = 0 ∧ (c = 42 ∨ c = 40 ∨ c = 123)) → K 355 [some (.inr 5), some (.inl c), some (.inl (nI k)), some (.inl dd)] [.inl w, .inr 5] g1 := by
        intro w hw
        refine hK _ _ _ _ ⟨hw.elim (fun z => Or.inr z.1) (fun z => Or.inl z.1), ?_⟩
        refine pushEnd _ _ as w (k + 1) (nI k + 1) (MdV_14 hm1 w) (f1.trans (frM_5 (by decide))) (nI_1 k) ?_ _ (fun g3 hq => ⟨trivial, hq⟩)
        rcases hw with ⟨z1, z2⟩ | ⟨z1, z2, z3⟩
        · refine Or.inl ⟨z1, ?_⟩
          rcases z2 with z | z
          · exact hb1 z
          · unfold bgS
            split
            · rfl
            · first | rfl | rw [if_neg n48, if_neg n49, if_neg n33, if_neg n94, if_neg nq, if_neg z]
        · refine Or.inr ⟨z1, ?_⟩
          unfold bgS
          rw [if_neg (hb0 z2), if_neg n48, if_neg n49, if_neg n33, if_neg n94, if_neg nq, if_pos z3]
      have c354 : w0 = 0 → (c = 42 ∨ c = 40 ∨ c = 123) → K 354 [some (.inr 5), some (.inl c), some (.inl (nI k)), some (.inl dd)] [.inr 5] g1 := by
        intro z1 z2
        refine hK _ _ _ _ ?_
        exact c355 0 (Or.inr ⟨rfl, z1, z2⟩)
      have c350 : (w0 = 1 ∨ ¬ (c = 42 ∨ c = 40 ∨ c = 123)) → K 350 [some (.inr 5), some (.inl c), some (.inl (nI k)), some (.inl dd)] [.inr 5] g1 := by
        intro z1
        refine hK _ _ _ _ ?_
        exact c355 1 (Or.inl ⟨rfl, z1⟩)
      refine hK _ _ _ _ ?_
      conv => whnf
      rw [h14]
      refine ⟨fun e => c350 (Or.inl (hw01.resolve_left e)), fun e => ?_⟩
      refine ⟨fun e1 => c354 e (Or.inl e1), fun e1 => ⟨fun e2 => c354 e (Or.inr (Or.inl e2)), fun e2 => ⟨fun e3 => c354 e (Or.inr (Or.inr e3)), fun e3 => ?_⟩⟩⟩
      exact c350 (Or.inr (fun z => z.elim e1 (fun z => z.elim e2 e3)))
    have c231 : ¬ c = 48 → ¬ c = 49 → ¬ c = 33 → ¬ c = 94 → K 231 [some (.inr 5), some (.inl c), some (.inl (nI k)), some (.inl dd)] [] g1 := by
      intro n48 n49 n33 n94
      have c311 : ∀ (g2 : mvH) (as' w : Int32), MdV g2 tx n O R N as w → frM g g2 → (c = 63 ∨ c = 38 ∨ c = 92) → ((w = 1 ∧ (w0 = 1 ∨ sgO dd = -1 ∨ (c = 92 ∧ sgO dd < 8))) ∨ (w = 0 ∧ w0 = 0 ∧ ¬ (sgO dd = -1 ∨ (c = 92 ∧ sgO dd < 8)))) → as' = mAs as (c = 92 ∨ liesO O dd) → K 311 [some (.inr 5), some (.inl c), some (.inl (nI k)), some (.inl dd)] [.inl as', .inr 5] g2 := by
        intro g2 as' w hm2 hf2 hc hw has
        have a01 : as' = 0 ∨ as' = 1 := by rw [has]; exact asAs _
        refine hK _ _ _ _ ⟨a01, ?_⟩
        refine pushEnd _ _ as' w (k + 2) (nI k + 2) (MdV_15 hm2 a01) (hf2.trans (frM_5 (by decide))) e2 ?_ _ (fun g3 hq => ⟨trivial, hq⟩)
        rcases hw with ⟨z1, z2⟩ | ⟨z1, z2, z3⟩
        · refine Or.inl ⟨z1, ?_⟩
          rcases z2 with z | z
          · exact hb1 z
          · unfold bgS
            split
            · rfl
            · first | rfl | rw [if_neg n48, if_neg n49, if_neg n33, if_neg n94, if_pos hc, if_pos z]
        · refine Or.inr ⟨z1, ?_⟩
          unfold bgS
          rw [if_neg (hb0 z2), if_neg n48, if_neg n49, if_neg n33, if_neg n94, if_pos hc, if_neg z3, has]
      have c281 : ∀ w : Int32, (c = 63 ∨ c = 38 ∨ c = 92) → ((w = 1 ∧ (w0 = 1 ∨ sgO dd = -1 ∨ (c = 92 ∧ sgO dd < 8))) ∨ (w = 0 ∧ w0 = 0 ∧ ¬ (sgO dd = -1 ∨ (c = 92 ∧ sgO dd < 8)))) → K 281 [some (.inr 5), some (.inl c), some (.inl (nI k)), some (.inl dd)] [.inl w, .inr 5] g1 := by
        intro w hc hw
        have hm2 := MdV_14 hm1 w
        have f2 : frM g (hset g1 5 14 w) := f1.trans (frM_5 (by decide))
        refine hK _ _ _ _ ⟨hw.elim (fun z => Or.inr z.1) (fun z => Or.inl z.1), ?_⟩
        conv => whnf
        have q15 : (hset g1 5 14 w) 5 15 = as := by rw [hset_at, if_neg (by decide), h15]
        rw [q15]
        generalize hset g1 5 14 w = g2 at *
        refine ⟨fun e => ?_, fun e => ⟨fun e92 => ?_, fun e92 => ?_⟩⟩
        · refine hK _ _ _ _ ?_
          exact c311 g2 1 w hm2 f2 hc hw (as1 _ e).symm
        · refine hK _ _ _ _ ?_
          exact c311 g2 0 w hm2 f2 hc hw (as0 _ e (Or.inl e92)).symm
        · refine s_X5_lies (by omega) dd hm2.2.2.1 (by omega) (fun hl => ?_) (fun hl => ?_)
          · refine ⟨fun _ => ?_, fun z => absurd z (by decide)⟩
            refine hK _ _ _ _ ?_
            exact c311 g2 0 w hm2 f2 hc hw (as0 _ e (Or.inr hl)).symm
          · refine ⟨fun z => absurd rfl z, fun _ => ?_⟩
            refine hK _ _ _ _ ?_
            exact c311 g2 1 w hm2 f2 hc hw (asn _ (fun z => z.elim e92 hl)).symm
      have c276 : (c = 63 ∨ c = 38 ∨ c = 92) → (w0 = 1 ∨ sgO dd = -1 ∨ (c = 92 ∧ sgO dd < 8)) → K 276 [some (.inr 5), some (.inl c), some (.inl (nI k)), some (.inl dd)] [.inr 5] g1 := by
        intro hc z
        refine hK _ _ _ _ ?_
        exact c281 1 hc (Or.inl ⟨rfl, z⟩)
      have c280 : (c = 63 ∨ c = 38 ∨ c = 92) → w0 = 0 → ¬ (sgO dd = -1 ∨ (c = 92 ∧ sgO dd < 8)) → K 280 [some (.inr 5), some (.inl c), some (.inl (nI k)), some (.inl dd)] [.inr 5] g1 := by
        intro hc z1 z2
        refine hK _ _ _ _ ?_
        exact c281 0 hc (Or.inr ⟨rfl, z1, z2⟩)
      have c249 : (c = 63 ∨ c = 38 ∨ c = 92) → K 249 [some (.inr 5), some (.inl c), some (.inl (nI k)), some (.inl dd)] [] g1 := by
        intro hc
        refine hK _ _ _ _ ?_
        conv => whnf
        rw [h14]
        refine ⟨fun e => c276 hc (Or.inl (hw01.resolve_left e)), fun e => ?_⟩
        refine s_X5_isSignal (by omega) dd (fun hs => ?_) (fun hs => ?_)
        · have hs1 := (isSg_iff dd).mp hs
          refine ⟨fun z => absurd z (by decide), fun _ => ⟨fun e92 => ?_, fun e92 => ⟨fun e115 => ?_, fun e115 => ?_⟩⟩⟩
          · exact c280 hc e (fun z => z.elim hs1 (fun q => e92 q.1))
          · refine c280 hc e (fun z => z.elim hs1 (fun q => ?_))
            rcases (sgO_8 dd).mp q.2 with w | w
            · exact w hs
            · exact Int32.not_lt.mpr e115 w
          · exact c276 hc (Or.inr (Or.inr ⟨e92, (sgO_8 dd).mpr (Or.inr (Int32.not_le.mp e115))⟩))
        · have hs1 : sgO dd = -1 := by
            rcases Classical.em (sgO dd = -1) with z | z
            · exact z
            · exact absurd ((isSg_iff dd).mpr z) hs
          refine ⟨fun _ => c276 hc (Or.inr (Or.inl hs1)), fun z => absurd rfl z⟩
      refine hK _ _ _ _ ⟨fun e => c249 (Or.inl e), fun e1 => ⟨fun e => c249 (Or.inr (Or.inl e)), fun e2 => ⟨fun e3 => ?_, fun e3 => ?_⟩⟩⟩
      · exact c324 n48 n49 n33 n94 (fun z => z.elim e1 (fun z => z.elim e2 e3))
      · exact c249 (Or.inr (Or.inr e3))
    -- the two leaves with a letter
    have c139 : ¬ c = 48 → ¬ c = 49 → ¬ c = 33 → K 139 [some (.inr 5), some (.inl c), some (.inl (nI k)), some (.inl dd)] [] g1 := by
      intro n48 n49 n33
      have c219 : ∀ (g2 : mvH) (as' w v : Int32), c = 94 → MdV g2 tx n O R N as' w → frM g g2 → ((w = 1 ∧ (w0 = 1 ∨ (dd < 50 ∨ 53 < dd)) ∧ v = 2) ∨ (w = 0 ∧ w0 = 0 ∧ ¬ (dd < 50 ∨ 53 < dd) ∧ v = dd - 48)) → as' = mAs as (¬ nI (trO O) < dd - 48 - 1) → K 219 [some (.inr 5), some (.inl c), some (.inl (nI k)), some (.inl dd)] [.inl v, .inl 3, .inr 5, .inr 5] g2 := by
        intro g2 as' w v hc hm2 hf2 hw has
        obtain ⟨n1, n2, n3⟩ := node_md hm2 (by omega) (k := 3) (c := v) (a := -1) (b := -1) (Or.inl rfl) (Or.inl rfl) (fun z => absurd z (by decide))
        refine hK _ _ _ _ ?_
        refine s_X5_node (by omega) _ _ _ _ hm2.2.2.2.2.1.1 (by omega) (Or.inl (by decide)) (Or.inl (by decide)) ?_
        refine s_X5_give (by omega) n1 (by omega) ?_
        refine ⟨trivial, mvq (hres (k + 2) (O, N.length :: R, N ++ [(3, v, -1, -1)]) as' w _ ?_ (hf2.trans n3) n2) (by rw [e2])⟩
        rcases hw with ⟨z1, z2, -⟩ | ⟨z1, z2, z3, z4⟩
        · refine Or.inl ⟨z1, ?_⟩
          rcases z2 with z | z
          · exact hb1 z
          · unfold bgS
            split
            · rfl
            · first | rfl | rw [if_neg n48, if_neg n49, if_neg n33, if_pos hc, if_pos z]
        · refine Or.inr ⟨z1, ?_⟩
          unfold bgS
          rw [if_neg (hb0 z2), if_neg n48, if_neg n49, if_neg n33, if_pos hc, if_neg z3, has, z4]
      have c198 : ∀ (g2 : mvH) (as' w : Int32), c = 94 → MdV g2 tx n O R N as w → frM g g2 → ((w = 1 ∧ (w0 = 1 ∨ (dd < 50 ∨ 53 < dd))) ∨ (w = 0 ∧ w0 = 0 ∧ ¬ (dd < 50 ∨ 53 < dd))) → as' = mAs as (¬ nI (trO O) < dd - 48 - 1) → K 198 [some (.inr 5), some (.inl c), some (.inl (nI k)), some (.inl dd)] [.inl as', .inr 5] g2 := by
        intro g2 as' w hc hm2 hf2 hw has
        have a01 : as' = 0 ∨ as' = 1 := by rw [has]; exact asAs _
        have hm3 := MdV_15 hm2 a01
        have f3 : frM g (hset g2 5 15 as') := hf2.trans (frM_5 (by decide))
        refine hK _ _ _ _ ⟨a01, ?_⟩
        have q14 : (hset g2 5 15 as') 5 14 = w := hm3.2.2.2.2.2.2.2.1
        conv => whnf
        rw [q14]
        generalize hset g2 5 15 as' = g3 at *
        rcases hw with ⟨z1, z2⟩ | ⟨z1, z2, z3⟩
        · subst z1
          refine ⟨fun e => absurd e (by decide), fun _ => ?_⟩
          exact c219 g3 as' 1 2 hc hm3 f3 (Or.inl ⟨rfl, z2, rfl⟩) has
        · subst z1
          refine ⟨fun _ => ?_, fun e => absurd rfl e⟩
          refine hK _ _ _ _ ?_
          exact c219 g3 as' 0 (dd - 48) hc hm3 f3 (Or.inr ⟨rfl, z2, z3, rfl⟩) has
      have c169 : ∀ w : Int32, c = 94 → ((w = 1 ∧ (w0 = 1 ∨ (dd < 50 ∨ 53 < dd))) ∨ (w = 0 ∧ w0 = 0 ∧ ¬ (dd < 50 ∨ 53 < dd))) → K 169 [some (.inr 5), some (.inl c), some (.inl (nI k)), some (.inl dd)] [.inl w, .inr 5] g1 := by
        intro w hc hw
        have hm2 := MdV_14 hm1 w
        have f2 : frM g (hset g1 5 14 w) := f1.trans (frM_5 (by decide))
        refine hK _ _ _ _ ⟨hw.elim (fun z => Or.inr z.1) (fun z => Or.inl z.1), ?_⟩
        conv => whnf
        have q15 : (hset g1 5 14 w) 5 15 = as := by rw [hset_at, if_neg (by decide), h15]
        rw [q15]
        generalize hset g1 5 14 w = g2 at *
        refine ⟨fun e => ?_, fun e => ?_⟩
        · refine hK _ _ _ _ ?_
          exact c198 g2 1 w hc hm2 f2 hw (as1 _ e).symm
        · refine s_X5_traps (by omega) hm2.2.2.1 (by omega) ?_
          refine ⟨fun e3 => ?_, fun e3 => ?_⟩
          · refine hK _ _ _ _ ?_
            exact c198 g2 0 w hc hm2 f2 hw (as0 _ e (Int32.not_lt.mpr e3)).symm
          · refine hK _ _ _ _ ?_
            exact c198 g2 1 w hc hm2 f2 hw (asn _ (fun z => z (Int32.not_le.mp e3))).symm
      refine hK _ _ _ _ ⟨fun e => c231 n48 n49 n33 e, fun e94 => ?_⟩
      conv => whnf
      rw [h14]
      refine ⟨fun e => ?_, fun e => ?_⟩
      · refine hK _ _ _ _ ?_
        exact c169 1 e94 (Or.inl ⟨rfl, Or.inl (hw01.resolve_left e)⟩)
      · refine s_X5_in (by omega) _ _ _ ?_
        by_cases hr : 50 ≤ dd ∧ dd ≤ 53
        · rw [if_pos hr]
          refine ⟨fun _ => ?_, fun z => absurd z (by decide)⟩
          refine hK _ _ _ _ ?_
          exact c169 0 e94 (Or.inr ⟨rfl, e, fun z => z.elim (Int32.not_lt.mpr hr.1) (Int32.not_lt.mpr hr.2)⟩)
        · rw [if_neg hr]
          refine ⟨fun z => absurd rfl z, fun _ => ?_⟩
          refine hK _ _ _ _ ?_
          refine c169 1 e94 (Or.inl ⟨rfl, Or.inr ?_⟩)
          rcases Classical.em (dd < 50) with z | z
          · exact Or.inl z
          · exact Or.inr (Int32.not_le.mp (fun q => hr ⟨Int32.not_lt.mp z, q⟩))
    have c64 : ¬ c = 48 → ¬ c = 49 → K 64 [some (.inr 5), some (.inl c), some (.inl (nI k)), some (.inl dd)] [] g1 := by
      intro n48 n49
      have c120 : ∀ (g2 : mvH) (as' w : Int32), c = 33 → MdV g2 tx n O R N as w → frM g g2 → ((w = 1 ∧ (w0 = 1 ∨ sgO dd < 4)) ∨ (w = 0 ∧ w0 = 0 ∧ ¬ sgO dd < 4)) → as' = mAs as (liesO O dd) → K 120 [some (.inr 5), some (.inl c), some (.inl (nI k)), some (.inl dd)] [.inl as', .inr 5] g2 := by
        intro g2 as' w hc hm2 hf2 hw has
        have a01 : as' = 0 ∨ as' = 1 := by rw [has]; exact asAs _
        have hm3 := MdV_15 hm2 a01
        have f3 : frM g (hset g2 5 15 as') := hf2.trans (frM_5 (by decide))
        refine hK _ _ _ _ ⟨a01, ?_⟩
        obtain ⟨n1, n2, n3⟩ := node_md hm3 (by omega) (k := 2) (c := dd) (a := -1) (b := -1) (Or.inl rfl) (Or.inl rfl) (fun z => absurd z (by decide))
        refine s_X5_node (by omega) _ _ _ _ hm3.2.2.2.2.1.1 (by omega) (Or.inl (by decide)) (Or.inl (by decide)) ?_
        refine s_X5_give (by omega) n1 (by omega) ?_
        refine ⟨trivial, mvq (hres (k + 2) (O, N.length :: R, N ++ [(2, dd, -1, -1)]) as' w _ ?_ (f3.trans n3) n2) (by rw [e2])⟩
        rcases hw with ⟨z1, z2⟩ | ⟨z1, z2, z3⟩
        · refine Or.inl ⟨z1, ?_⟩
          rcases z2 with z | z
          · exact hb1 z
          · unfold bgS
            split
            · rfl
            · first | rfl | rw [if_neg n48, if_neg n49, if_pos hc, if_pos z]
        · refine Or.inr ⟨z1, ?_⟩
          unfold bgS
          rw [if_neg (hb0 z2), if_neg n48, if_neg n49, if_pos hc, if_neg z3, has]
      have c96 : ∀ w : Int32, c = 33 → ((w = 1 ∧ (w0 = 1 ∨ sgO dd < 4)) ∨ (w = 0 ∧ w0 = 0 ∧ ¬ sgO dd < 4)) → K 96 [some (.inr 5), some (.inl c), some (.inl (nI k)), some (.inl dd)] [.inl w, .inr 5] g1 := by
        intro w hc hw
        have hm2 := MdV_14 hm1 w
        have f2 : frM g (hset g1 5 14 w) := f1.trans (frM_5 (by decide))
        refine hK _ _ _ _ ⟨hw.elim (fun z => Or.inr z.1) (fun z => Or.inl z.1), ?_⟩
        conv => whnf
        have q15 : (hset g1 5 14 w) 5 15 = as := by rw [hset_at, if_neg (by decide), h15]
        rw [q15]
        generalize hset g1 5 14 w = g2 at *
        refine ⟨fun e => ?_, fun e => ?_⟩
        · refine hK _ _ _ _ ?_
          exact c120 g2 1 w hc hm2 f2 hw (as1 _ e).symm
        · refine s_X5_lies (by omega) dd hm2.2.2.1 (by omega) (fun hl => ?_) (fun hl => ?_)
          · refine ⟨fun _ => ?_, fun z => absurd z (by decide)⟩
            refine hK _ _ _ _ ?_
            exact c120 g2 0 w hc hm2 f2 hw (as0 _ e hl).symm
          · refine ⟨fun z => absurd rfl z, fun _ => ?_⟩
            refine hK _ _ _ _ ?_
            exact c120 g2 1 w hc hm2 f2 hw (asn _ hl).symm
      have c91 : c = 33 → (w0 = 1 ∨ sgO dd < 4) → K 91 [some (.inr 5), some (.inl c), some (.inl (nI k)), some (.inl dd)] [.inr 5] g1 := by
        intro hc z
        refine hK _ _ _ _ ?_
        exact c96 1 hc (Or.inl ⟨rfl, z⟩)
      refine hK _ _ _ _ ⟨fun e => c139 n48 n49 e, fun e33 => ?_⟩
      conv => whnf
      rw [h14]
      refine ⟨fun e => c91 e33 (Or.inl (hw01.resolve_left e)), fun e => ?_⟩
      refine s_X5_isSignal (by omega) dd (fun hs => ?_) (fun hs => ?_)
      · refine ⟨fun z => absurd z (by decide), fun _ => ⟨fun e101 => ?_, fun e101 => ?_⟩⟩
        · refine hK _ _ _ _ ?_
          refine c96 0 e33 (Or.inr ⟨rfl, e, fun z => ?_⟩)
          rcases (sgO_4 dd).mp z with w | w
          · exact w hs
          · exact Int32.not_lt.mpr e101 w
        · exact c91 e33 (Or.inr ((sgO_4 dd).mpr (Or.inr (Int32.not_le.mp e101))))
      · refine ⟨fun _ => c91 e33 (Or.inr ((sgO_4 dd).mpr (Or.inl hs))), fun z => absurd rfl z⟩
    refine ⟨fun e => c38 (Or.inl e), fun e48 => ⟨fun e49 => c64 e48 e49, fun e49 => c38 (Or.inr e49)⟩⟩
  refine ⟨fun e => ?_, fun e => ?_⟩
  · refine hK _ _ _ _ ?_
    have h12 : 1 + dpO O ≤ 12 := (nI_leI (by have := List.countP_le_length (p := fun x : Int32 × Int32 => decide (¬ (x.1 = 59 ∨ x.1 = 124))) (l := O); unfold dpO; omega) (by decide)).mp (show nI (1 + dpO O) ≤ nI 12 from e)
    exact c15 0 (Or.inr ⟨rfl, by omega⟩) _
  · have h12 : ¬ 1 + dpO O ≤ 12 := fun z => e (nI_le (b := 12) z (by decide))
    exact c15 1 (Or.inl ⟨rfl, by omega⟩) _
end M7
