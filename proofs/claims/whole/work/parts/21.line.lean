/-! LINE, and the small methods of TREE -/
/-- the line holds the n characters tx, reading stands at p -/
def LnOK (h : mvH) (tx : Nat → Int32) (n p : Nat) : Prop := h 1 1 = nI n ∧ n ≤ 60 ∧ h 1 2 = nI p ∧ p ≤ n ∧ ∀ j, j < n → h 7 j = tx j ∧ 33 ≤ tx j ∧ tx j ≤ 126
theorem Int32.le_tr {a b c : Int32} (h1 : a ≤ b) (h2 : b ≤ c) : a ≤ c := by
  rw [Int32.le_iff_toInt_le] at *
  omega
theorem chr_fit {x : Int32} (h1 : 33 ≤ x) (h2 : x ≤ 126) : 0 ≤ x ∧ x ≤ 65535 := ⟨Int32.le_tr (by decide) h1, Int32.le_tr h2 (by decide)⟩
section LN
variable {d : Nat} {h : mvH} {Q : Option mvV → mvH → Prop}
theorem s_X0_append (hd : 1 ≤ d) (c : Int32) {n : Nat} (hn : h 1 1 = nI n) (hn2 : n ≤ 60) (hbad : (c < 33 ∨ 126 < c ∨ n = 60) → Q (some (.inl 0)) h) (hok : 33 ≤ c → c ≤ 126 → n < 60 → Q (some (.inl 1)) (hset (hset h 7 n c) 1 1 (nI (n + 1)))) : mvCal mvMT d 0 [.inr 1, .inl c] h Q := by
  obtain ⟨d, rfl⟩ := d_pos hd (by decide)
  refine ⟨⟨rfl, by decide, rfl⟩, Nat.le_of_ble_eq_true rfl, fun K hK => hK _ _ _ _ ⟨fun e => ?_, fun e => ⟨fun e2 => ?_, fun e2 => ?_⟩⟩⟩
  · exact hK _ _ _ _ ⟨Or.inl rfl, hbad (Or.inl e)⟩
  · exact hK _ _ _ _ ⟨Or.inl rfl, hbad (Or.inr (Or.inl e2))⟩
  · have c1 : 33 ≤ c := Int32.not_lt.mp e
    have c2 : c ≤ 126 := Int32.not_lt.mp e2
    refine ⟨fun e3 => ?_, fun e3 => ?_⟩
    · have hlt : n < 60 := by
        rcases Nat.lt_or_ge n 60 with z | z
        · exact z
        · obtain rfl : n = 60 := by omega
          rw [hn] at e3
          exact absurd e3 (by decide)
      refine hK _ _ _ _ ⟨by rw [hn]; exact vp_in_nI hlt (by decide), chr_fit c1 c2, ?_⟩
      refine ⟨Or.inr rfl, ?_⟩
      have h1 := hok c1 c2 hlt
      have e4 : hset h 7 (h 1 1).toNatClampNeg c 1 1 = nI n := by rw [hset_other (by decide), hn]
      refine mvqh h1 rfl ?_
      show hset (hset h 7 (h 1 1).toNatClampNeg c) 1 1 (hset h 7 (h 1 1).toNatClampNeg c 1 1 + 1) = _
      rw [e4, hn, nI_clamp (by omega), nI_1]
    · have h60 : n = 60 := by
        rcases Nat.lt_or_ge n 60 with z | z
        · exact absurd (by rw [hn]; exact nI_lt (b := 60) z (by decide)) e3
        · omega
      exact hK _ _ _ _ ⟨Or.inl rfl, hbad (Or.inr (Or.inr h60))⟩
theorem s_X0_clear (hd : 1 ≤ d) (hQ : Q none (hset h 1 1 0)) : mvCal mvMT d 1 [.inr 1] h Q := by
  obtain ⟨d, rfl⟩ := d_pos hd (by decide)
  exact ⟨⟨rfl, by decide, rfl⟩, Nat.le_of_ble_eq_true rfl, fun K hK => hK _ _ _ _ hQ⟩
theorem s_X0_rewind (hd : 1 ≤ d) (hQ : Q none (hset h 1 2 0)) : mvCal mvMT d 2 [.inr 1] h Q := by
  obtain ⟨d, rfl⟩ := d_pos hd (by decide)
  exact ⟨⟨rfl, by decide, rfl⟩, Nat.le_of_ble_eq_true rfl, fun K hK => hK _ _ _ _ hQ⟩
theorem s_X0_isReadWhole (hd : 1 ≤ d) (hQ : Q (some (.inl (if h 1 2 < h 1 1 then 0 else 1))) h) : mvCal mvMT d 3 [.inr 1] h Q := by
  obtain ⟨d, rfl⟩ := d_pos hd (by decide)
  refine ⟨⟨rfl, by decide, rfl⟩, Nat.le_of_ble_eq_true rfl, fun K hK => hK _ _ _ _ ⟨fun e => ?_, fun e => ?_⟩⟩
  · repeat refine hK _ _ _ _ ?_
    exact ⟨Or.inl rfl, mvq hQ (by rw [if_pos e])⟩
  · repeat refine hK _ _ _ _ ?_
    exact ⟨Or.inr rfl, mvq hQ (by rw [if_neg e])⟩
theorem LnOK_at {tx : Nat → Int32} {n p : Nat} (hl : LnOK h tx n p) (hp : p < n) : LnOK (hset h 1 2 (nI (p + 1))) tx n (p + 1) := by
  obtain ⟨a1, a2, a3, a4, a5⟩ := hl
  refine ⟨by rw [hset_at, if_neg (by decide)]; exact a1, a2, by rw [hset_at, if_pos rfl], hp, fun j hj => ?_⟩
  rw [hset_other (by decide)]
  exact a5 j hj
theorem s_X0_take (hd : 1 ≤ d) {tx : Nat → Int32} {n p : Nat} (hl : LnOK h tx n p) (hQ : Q (some (.inl (rdc tx n p))) (if p < n then hset h 1 2 (nI (p + 1)) else h)) : mvCal mvMT d 4 [.inr 1] h Q := by
  obtain ⟨d, rfl⟩ := d_pos hd (by decide)
  obtain ⟨a1, a2, a3, a4, a5⟩ := hl
  refine ⟨⟨rfl, by decide, rfl⟩, Nat.le_of_ble_eq_true rfl, fun K hK => hK _ _ _ _ ⟨fun e => absurd e (by rw [a3]; exact nI_pos (by omega)), fun _ => ⟨fun e => ?_, fun e => ?_⟩⟩⟩
  · rw [a1, a3, nI_ltI (by omega) (by omega)] at e
    rw [if_pos e] at hQ
    have hin : vp_in (h 1 2) 60 := by rw [a3]; exact vp_in_nI (by omega) (by decide)
    refine hK _ _ _ _ ⟨hin, ?_⟩
    rw [a3, nI_clamp (by omega)]
    have e1 : rdc tx n p = h 7 p := by unfold rdc; rw [if_pos e, (a5 p e).1]
    have e2 := a5 p e
    refine ⟨by rw [e2.1]; exact chr_fit e2.2.1 e2.2.2, ?_⟩
    rw [e1] at hQ
    refine mvqh hQ rfl ?_
    show hset h 1 2 (h 1 2 + 1) = _
    rw [a3, nI_1]
  · rw [a1, a3, nI_ltI (by omega) (by omega)] at e
    rw [if_neg e] at hQ
    refine hK _ _ _ _ ⟨⟨by decide, by decide⟩, mvq hQ ?_⟩
    unfold rdc
    rw [if_neg e]
theorem s_X0_skip (hd : 1 ≤ d) (c : Int32) {tx : Nat → Int32} {n p : Nat} (hl : LnOK h tx n p) (hQ : Q (some (.inl (if p < n ∧ tx p = c then 1 else 0))) (if p < n ∧ tx p = c then hset h 1 2 (nI (p + 1)) else h)) : mvCal mvMT d 5 [.inr 1, .inl c] h Q := by
  obtain ⟨d, rfl⟩ := d_pos hd (by decide)
  obtain ⟨a1, a2, a3, a4, a5⟩ := hl
  refine ⟨⟨rfl, by decide, rfl⟩, Nat.le_of_ble_eq_true rfl, fun K hK => hK _ _ _ _ ⟨fun e => absurd e (by rw [a3]; exact nI_pos (by omega)), fun _ => ⟨fun e => ?_, fun e => ?_⟩⟩⟩
  · have e1 : ¬ (p < n ∧ tx p = c) := fun z => by
      rw [a1, a3, nI_leI (by omega) (by omega)] at e
      omega
    rw [if_neg e1, if_neg e1] at hQ
    exact hK _ _ _ _ ⟨Or.inl rfl, hQ⟩
  · have hlt : p < n := by
      rw [a1, a3, nI_leI (by omega) (by omega)] at e
      omega
    have hin : vp_in (h 1 2) 60 := by rw [a3]; exact vp_in_nI (by omega) (by decide)
    refine ⟨hin, ?_⟩
    rw [a3, nI_clamp (by omega), (a5 p hlt).1]
    refine ⟨fun e2 => ?_, fun e2 => ?_⟩
    · rw [if_pos ⟨hlt, e2⟩, if_pos ⟨hlt, e2⟩] at hQ
      refine hK _ _ _ _ ⟨Or.inr rfl, ?_⟩
      refine mvqh hQ rfl ?_
      show hset h 1 2 (h 1 2 + 1) = _
      rw [a3, nI_1]
    · have e1 : ¬ (p < n ∧ tx p = c) := fun z => e2 z.2
      rw [if_neg e1, if_neg e1] at hQ
      exact hK _ _ _ _ ⟨Or.inl rfl, hQ⟩
theorem s_X2_signalOf (hd : 1 ≤ d) (c : Int32) (hQ : Q (some (.inl (sgO c))) h) : mvCal mvMT d 26 [.inl c] h Q := by
  obtain ⟨d, rfl⟩ := d_pos hd (by decide)
  unfold sgO at hQ
  have part2 : ∀ K, (∀ pc L st h, mvRun (mvCal mvMT d) Q K (mvlook C_X2_signalOf pc) L st h → K pc L st h) → Q (some (.inl (if 115 ≤ c ∧ c ≤ 122 then 8 + (c - 115) else -1))) h → K 17 [some (.inl c)] [] h := by
    intro K hK hq
    refine hK _ _ _ _ ⟨fun e => ?_, fun e => ⟨fun e2 => ?_, fun e2 => ?_⟩⟩
    · repeat refine hK _ _ _ _ ?_
      exact ⟨trivial, mvq hq (by rw [if_neg (fun z => Int32.not_le.mpr e z.1)])⟩
    · repeat refine hK _ _ _ _ ?_
      exact ⟨trivial, mvq hq (by rw [if_neg (fun z => Int32.not_le.mpr e2 z.2)])⟩
    · repeat refine hK _ _ _ _ ?_
      exact ⟨trivial, mvq hq (by rw [if_pos ⟨Int32.not_lt.mp e, Int32.not_lt.mp e2⟩])⟩
  refine ⟨rfl, Nat.le_of_ble_eq_true rfl, fun K hK => hK _ _ _ _ ⟨fun e => ?_, fun e => ⟨fun e2 => ?_, fun e2 => ?_⟩⟩⟩
  · rw [if_neg (fun z => Int32.not_le.mpr e z.1)] at hQ
    exact part2 K hK hQ
  · rw [if_neg (fun z => Int32.not_le.mpr e2 z.2)] at hQ
    exact part2 K hK hQ
  · rw [if_pos ⟨Int32.not_lt.mp e, Int32.not_lt.mp e2⟩] at hQ
    exact ⟨trivial, hQ⟩
/-- the tree holds the nodes N -/
def mkOf (x : Nd) : Int32 := if x.1 = 2 ∨ x.1 = 4 ∨ x.1 = 5 ∨ x.1 = 8 then sgO x.2.1 else x.2.1
def TrOK (h : mvH) (N : List Nd) : Prop := h 2 8 = nI N.length ∧ ∀ (i : Nat) (x : Nd), N[i]? = some x → h 8 i = x.1 ∧ h 9 i = mkOf x ∧ h 10 i = x.2.2.1 ∧ h 11 i = x.2.2.2
/-- what reading leaves as it was -/
def frP (h h' : mvH) : Prop := (∀ q, ¬ (q = 1 ∨ q = 2 ∨ q = 8 ∨ q = 9 ∨ q = 10 ∨ q = 11) → h' q = h q) ∧ (∀ j, j ≠ 2 → h' 1 j = h 1 j) ∧ ∀ j, j ≠ 8 → h' 2 j = h 2 j
theorem frP.rfl {h : mvH} : frP h h := ⟨fun _ _ => Eq.refl _, fun _ _ => Eq.refl _, fun _ _ => Eq.refl _⟩
theorem frP.trans {a b c : mvH} (h1 : frP a b) (h2 : frP b c) : frP a c := ⟨fun q hq => (h2.1 q hq).trans (h1.1 q hq), fun j hj => (h2.2.1 j hj).trans (h1.2.1 j hj), fun j hj => (h2.2.2 j hj).trans (h1.2.2 j hj)⟩
theorem frP.at_ {v : Int32} : frP h (hset h 1 2 v) := by
  refine ⟨fun q hq => hset_other (fun e => hq (Or.inl e)), fun j hj => by rw [hset_at, if_neg hj], fun j hj => by rw [hset_other (by decide)]⟩
/-- a node added -/
def cAdd (h : mvH) (m : Nat) (a b c e : Int32) : mvH := hset (hset (hset (hset (hset h 2 8 (nI (m + 1))) 8 m a) 9 m b) 10 m c) 11 m e
theorem s_X2_add (hd : 1 ≤ d) (a b c e : Int32) {m : Nat} (hm : h 2 8 = nI m) (hm2 : m < 60) (hQ : Q (some (.inl (nI m))) (cAdd h m a b c e)) : mvCal mvMT d 29 [.inr 2, .inl a, .inl b, .inl c, .inl e] h Q := by
  obtain ⟨d, rfl⟩ := d_pos hd (by decide)
  have hin : vp_in (nI m) 60 := vp_in_nI hm2 (by decide)
  have em : (nI m).toNatClampNeg = m := nI_clamp (by omega)
  refine ⟨⟨rfl, by decide, rfl⟩, Nat.le_of_ble_eq_true rfl, fun K hK => hK _ _ _ _ ⟨fun _ => ?_, fun z => absurd (by rw [hm]; exact nI_lt (b := 60) hm2 (by decide)) z⟩⟩
  refine hK _ _ _ _ ?_
  conv => whnf
  rw [hm, em]
  refine ⟨hin, hin, hin, hin, trivial, ?_⟩
  rw [nI_1, em]
  exact hQ
theorem frP_add {m : Nat} {a b c e : Int32} : frP h (cAdd h m a b c e) := by
  unfold cAdd
  refine ⟨fun q hq => ?_, fun j hj => ?_, fun j hj => ?_⟩
  · rw [hset_other (by omega), hset_other (by omega), hset_other (by omega), hset_other (by omega), hset_other (by omega)]
  · rw [hset_other (by decide), hset_other (by decide), hset_other (by decide), hset_other (by decide), hset_other (by decide)]
  · rw [hset_other (by decide), hset_other (by decide), hset_other (by decide), hset_other (by decide), hset_at, if_neg hj]
theorem TrOK_add {N : List Nd} {x : Nd} (ht : TrOK h N) : TrOK (cAdd h N.length x.1 (mkOf x) x.2.2.1 x.2.2.2) (N ++ [x]) := by
  obtain ⟨t1, t2⟩ := ht
  unfold cAdd
  refine ⟨?_, fun i y hy => ?_⟩
  · rw [hset_other (by decide), hset_other (by decide), hset_other (by decide), hset_other (by decide), hset_at, if_pos rfl]
    simp
  · by_cases hi : i < N.length
    · rw [List.getElem?_append_left hi] at hy
      have hne : ¬ i = N.length := by omega
      simpa [hset, upd, hne] using t2 i y hy
    · have hlt : i < (N ++ [x]).length := (List.getElem?_eq_some_iff.mp hy).1
      have hie : i = N.length := by simp at hlt; omega
      subst hie
      simp at hy
      subst hy
      simp [hset, upd]
theorem LnOK_fr {h' : mvH} {tx : Nat → Int32} {n p : Nat} (hl : LnOK h tx n p) (hf : h' 1 = h 1) (h7 : h' 7 = h 7) : LnOK h' tx n p := by
  obtain ⟨a1, a2, a3, a4, a5⟩ := hl
  exact ⟨by rw [hf]; exact a1, a2, by rw [hf]; exact a3, a4, by rw [h7]; exact a5⟩
theorem LnOK_add {tx : Nat → Int32} {n p m : Nat} {a b c e : Int32} (hl : LnOK h tx n p) : LnOK (cAdd h m a b c e) tx n p := by
  refine LnOK_fr hl ?_ ?_ <;> funext j <;> unfold cAdd <;> simp [hset]
theorem TrOK_at {N : List Nd} {v : Int32} (ht : TrOK h N) : TrOK (hset h 1 2 v) N := by
  obtain ⟨t1, t2⟩ := ht
  refine ⟨by rw [hset_other (by decide)]; exact t1, fun i x hx => ?_⟩
  rw [hset_other (by decide), hset_other (by decide), hset_other (by decide), hset_other (by decide)]
  exact t2 i x hx
end LN
