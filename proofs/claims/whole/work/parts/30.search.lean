/-! SEARCH -/
section SR
variable {d : Nat} {h : mvH} {Q : Option mvV → mvH → Prop}
def cBc (x0 : Int32) : Int32 :=
  let x1 := x0 - (mvsh x0 1 &&& 1431655765)
  let x2 := (x1 &&& 858993459) + (mvsh x1 2 &&& 858993459)
  let x3 := (x2 + mvsh x2 4) &&& 252645135
  let x4 := x3 + mvsh x3 8
  let x5 := x4 + mvsh x4 16
  x5 &&& 63
theorem s_bitCount (hd : 1 ≤ d) (x : Int32) (hQ : Q (some (.inl (cBc x))) h) : mvCal mvMT d 143 [.inl x] h Q := by
  obtain ⟨d, rfl⟩ := d_pos hd (by decide)
  exact ⟨rfl, Nat.le_of_ble_eq_true rfl, fun K hK => hK _ _ _ _ ⟨trivial, hQ⟩⟩
theorem s_X1_forget (hd : 1 ≤ d) (hQ : Q none (hset h 4 3 0)) : mvCal mvMT d 6 [.inr 4] h Q := by
  obtain ⟨d, rfl⟩ := d_pos hd (by decide)
  exact ⟨⟨rfl, by decide, rfl⟩, Nat.le_of_ble_eq_true rfl, fun K hK => hK _ _ _ _ hQ⟩
def cBeg (h : mvH) : mvH := hset (hset (hset (hset (hfill h 31 120 0) 4 2 1) 4 4 0) 4 5 0) 4 6 0
theorem s_X1_begin (hd : 2 ≤ d) (hQ : Q none (cBeg h)) : mvCal mvMT d 9 [.inr 4] h Q := by
  obtain ⟨d, rfl⟩ := d_pos hd (by decide)
  refine ⟨⟨rfl, by decide, rfl⟩, Nat.le_of_ble_eq_true rfl, fun K hK => hK _ _ _ _ ?_⟩
  refine s_fill (by omega) 31 _ (by unfold isFl; decide) ?_
  exact hQ
def cTly (h : mvH) (x : Int32) : Int32 := if 0 < h 4 3 then (if x = 0 then h 4 4 else if x = 1 then h 4 5 else if x = 2 then h 4 6 else 0) else 0
theorem s_X1_tally (hd : 1 ≤ d) (x : Int32) (hQ : Q (some (.inl (cTly h x))) h) : mvCal mvMT d 8 [.inr 4, .inl x] h Q := by
  obtain ⟨d, rfl⟩ := d_pos hd (by decide)
  refine ⟨⟨rfl, by decide, rfl⟩, Nat.le_of_ble_eq_true rfl, fun K hK => hK _ _ _ _ ⟨fun e => ?_, fun e => ?_⟩⟩
  · refine hK _ _ _ _ ⟨fun e1 => ?_, fun e1 => ⟨fun e2 => ?_, fun e2 => ⟨fun e3 => ?_, fun e3 => ?_⟩⟩⟩
    all_goals
      refine hK _ _ _ _ ?_
      exact ⟨trivial, mvq hQ (by simp [cTly, e, *])⟩
  · exact ⟨trivial, mvq hQ (by simp [cTly, e])⟩
/-- outputs that some decided lane gives, of the first o -/
def cGv (h : mvH) (dec : Int32) : Nat → Int32
  | 0 => h 4 6
  | o + 1 => if (h 29 (4 + o) &&& 65535) &&& dec = 0 then cGv h dec o else cGv h dec o ||| ((1 : Int32) <<< (nI o &&& 31))
def cTal (h : mvH) (dec en : Int32) : mvH := hset (hset (hset h 4 4 (h 4 4 + cBc ((dec ^^^ (-1)) &&& 65535))) 4 5 (h 4 5 + cBc en)) 4 6 (cGv h dec 4)
theorem hset_id {h : mvH} {q j : Nat} {v : Int32} (e : h q j = v) : hset h q j v = h := by
  funext q' j'
  rw [hset_get]
  split
  · rename_i z; rw [z.1, z.2, e]
  · rfl
theorem hset_hset {h : mvH} {q j : Nat} {v w : Int32} : hset (hset h q j v) q j w = hset h q j w := by
  funext q' j'
  rw [hset_get, hset_get, hset_get]
  split <;> rfl
theorem mvK_eq {K : Nat → mvL → List mvV → mvH → Prop} {pc : Nat} {L : mvL} {st : List mvV} {a b : mvH} (hk : K pc L st b) (e : a = b) : K pc L st a := e ▸ hk
set_option maxHeartbeats 4000000 in
theorem s_X1_addToTallies (hd : 2 ≤ d) (dec en : Int32) (hQ : Q none (cTal h dec en)) : mvCal mvMT d 10 [.inr 4, .inr 3, .inl dec, .inl en] h Q := by
  obtain ⟨d, rfl⟩ := d_pos hd (by decide)
  refine ⟨⟨rfl, by decide, rfl⟩, Nat.le_of_ble_eq_true rfl, fun K hK => hK _ _ _ _ ?_⟩
  refine s_bitCount (by omega) _ ?_
  refine s_bitCount (by omega) _ ?_
  generalize hg : hset (hset h 4 4 (h 4 4 + cBc ((dec ^^^ (-1)) &&& 65535))) 4 5 (h 4 5 + cBc en) = g at *
  have loop : ∀ k o, o + k = 4 → K 34 [some (.inr 4), some (.inr 3), some (.inl dec), some (.inl en), some (.inl (nI o))] [] (hset g 4 6 (cGv h dec o)) := by
    intro k
    induction k with
    | zero =>
      intro o ho
      obtain rfl : o = 4 := by omega
      refine hK _ _ _ _ ⟨fun _ => hK _ _ _ _ ?_, fun e => absurd (by decide) e⟩
      refine mvqh hQ rfl ?_
      unfold cTal
      rw [hg]
    | succ k ih =>
      intro o ho
      have h29 : ∀ v, (hset g 4 6 v) 29 = h 29 := fun v => by rw [hset_other (by decide), ← hg, hset_other (by decide), hset_other (by decide)]
      refine hK _ _ _ _ ⟨fun e => absurd e (nI_ge (b := 4) (by omega) (by decide)), fun _ => ?_⟩
      refine s_X3_lanesWithOutput (by omega) o (by omega) ?_
      rw [h29]
      have h1 := ih (o + 1) (by omega)
      rw [← nI_1] at h1
      unfold cGv at h1
      refine ⟨fun e => ?_, fun e => ?_⟩
      · rw [if_pos e] at h1
        exact hK _ _ _ _ h1
      · rw [if_neg e] at h1
        refine hK _ _ _ _ ?_
        refine mvK_eq h1 ?_
        show hset (hset g 4 6 (cGv h dec o)) 4 6 (hset g 4 6 (cGv h dec o) 4 6 ||| ((1 : Int32) <<< (nI o &&& 31))) = _
        rw [hset_at, if_pos rfl, hset_hset]
  have h0 := loop 4 0 (by omega)
  refine mvK_eq h0 (Eq.trans (b := g) ?_ (hset_id ?_).symm)
  · show hset (hset h 4 4 (h 4 4 + cBc ((dec ^^^ (-1)) &&& 65535))) 4 5 (hset h 4 4 (h 4 4 + cBc ((dec ^^^ (-1)) &&& 65535)) 4 5 + cBc en) = g
    rw [hset_at, if_neg (by decide), ← hg]
  · rw [← hg, hset_at, if_neg (by decide), hset_at, if_neg (by decide)]; rfl
def cNx (h : mvH) (b : Nat) : Prop := ∀ w, w < 4 → h 31 (b + w) = h 32 w
theorem s_X1_isNext (hd : 1 ≤ d) {b : Nat} (hb : b + 4 ≤ 120) (hy : cNx h b → Q (some (.inl 1)) h) (hn : ¬ cNx h b → Q (some (.inl 0)) h) : mvCal mvMT d 13 [.inr 4, .inl (nI b)] h Q := by
  obtain ⟨d, rfl⟩ := d_pos hd (by decide)
  refine ⟨⟨rfl, by decide, rfl⟩, Nat.le_of_ble_eq_true rfl, fun K hK => hK _ _ _ _ ?_⟩
  have loop : ∀ k w, w + k = 4 → (∀ v, v < w → h 31 (b + v) = h 32 v) → K 2 [some (.inr 4), some (.inl (nI b)), some (.inl (nI w))] [] h := by
    intro k
    induction k with
    | zero =>
      intro w hw hv
      obtain rfl : w = 4 := by omega
      exact hK _ _ _ _ ⟨fun _ => hK _ _ _ _ ⟨Or.inr rfl, hy hv⟩, fun e => absurd (by decide) e⟩
    | succ k ih =>
      intro w hw hv
      have e1 : nI b + nI w = nI (b + w) := nI_add b w
      have hin : vp_in (nI b + nI w) 120 := by rw [e1]; exact vp_in_nI (by omega) (by decide)
      have hin4 : vp_in (nI w) 4 := vp_in_nI (by omega) (by decide)
      refine hK _ _ _ _ ⟨fun e => absurd e (nI_ge (b := 4) (by omega) (by decide)), fun _ => ⟨hin, ?_⟩⟩
      rw [e1, nI_clamp (by omega)]
      refine ⟨hin4, ?_⟩
      rw [nI_clamp (by omega)]
      refine ⟨fun e => ?_, fun e => ?_⟩
      · refine hK _ _ _ _ ?_
        have h1 := ih (w + 1) (by omega) (fun v hv2 => by
          rcases Nat.lt_or_ge v w with z | z
          · exact hv v z
          · obtain rfl : v = w := by omega
            exact e)
        rw [← nI_1] at h1
        exact h1
      · exact ⟨Or.inl rfl, hn (fun z => e (z w (by omega)))⟩
  exact loop 4 0 (by omega) (fun v hv => by omega)
theorem nI_m4 (s : Nat) : nI s * 4 = nI (s * 4) := by rw [show (4 : Int32) = nI 4 by decide, pk_mul]
def cKn (h : mvH) (m : Nat) : Prop := ∃ s, 1 ≤ s ∧ s < m ∧ cNx h (s * 4)
theorem s_X1_isKnown (hd : 2 ≤ d) {m : Nat} (hm : h 4 2 = nI m) (hm2 : m ≤ 30) (hy : cKn h m → Q (some (.inl 1)) h) (hn : ¬ cKn h m → Q (some (.inl 0)) h) : mvCal mvMT d 12 [.inr 4] h Q := by
  obtain ⟨d, rfl⟩ := d_pos hd (by decide)
  refine ⟨⟨rfl, by decide, rfl⟩, Nat.le_of_ble_eq_true rfl, fun K hK => hK _ _ _ _ ?_⟩
  have loop : ∀ k s, (s + k = m ∨ (k = 0 ∧ m ≤ s ∧ s < 2 ^ 31)) → 1 ≤ s → (∀ v, 1 ≤ v → v < s → ¬ cNx h (v * 4)) → K 2 [some (.inr 4), some (.inl (nI s))] [] h := by
    intro k
    induction k with
    | zero =>
      intro s hs h1 hv
      have hms : m ≤ s := by omega
      refine hK _ _ _ _ ⟨fun _ => hK _ _ _ _ ⟨Or.inl rfl, hn (fun ⟨v, v1, v2, v3⟩ => hv v v1 (by omega) v3)⟩, fun e => absurd (show h 4 2 ≤ nI s by rw [hm]; exact nI_le hms (by omega)) e⟩
    | succ k ih =>
      intro s hs h1 hv
      have hsm : s < m := by omega
      refine hK _ _ _ _ ⟨fun e => absurd (show h 4 2 ≤ nI s from e) (by rw [hm]; exact nI_ge hsm (by omega)), fun _ => ?_⟩
      conv => whnf
      rw [nI_m4]
      refine s_X1_isNext (by omega) (by omega) (fun e => ?_) (fun e => ?_)
      · refine ⟨fun z => absurd z (by decide), fun _ => ⟨Or.inr rfl, hy ⟨s, h1, hsm, e⟩⟩⟩
      · refine ⟨fun _ => ?_, fun z => absurd rfl z⟩
        refine hK _ _ _ _ ?_
        have h2 := ih (s + 1) (by omega) (by omega) (fun v v1 v2 => by
          rcases Nat.lt_or_ge v s with z | z
          · exact hv v v1 z
          · obtain rfl : v = s := by omega
            exact e)
        rw [← nI_1] at h2
        exact h2
  exact loop (m - 1) 1 (by omega) (by omega) (fun v h1 h2 => by omega)
def cKp (h : mvH) (m : Nat) : mvH := hset (hcpy h 32 0 31 (m * 4) 4) 4 2 (nI (m + 1))
theorem s_X1_keep (hd : 2 ≤ d) {m : Nat} (hm : h 4 2 = nI m) (hm2 : m ≤ 30) (hy : m < 30 → Q (some (.inl 1)) (cKp h m)) (hn : m = 30 → Q (some (.inl 0)) h) : mvCal mvMT d 14 [.inr 4] h Q := by
  obtain ⟨d, rfl⟩ := d_pos hd (by decide)
  refine ⟨⟨rfl, by decide, rfl⟩, Nat.le_of_ble_eq_true rfl, fun K hK => hK _ _ _ _ ⟨fun e => ?_, fun e => ?_⟩⟩
  · have hlt : m < 30 := by
      rw [hm] at e
      exact (nI_ltI (by omega) (by decide)).mp (show nI m < nI 30 from e)
    refine hK _ _ _ _ ?_
    conv => whnf
    rw [hm, nI_m4]
    have e0 : (0 : Int32).toNatClampNeg = 0 := by decide
    have e4 : (4 : Int32).toNatClampNeg = 4 := by decide
    have em : (nI (m * 4)).toNatClampNeg = m * 4 := nI_clamp (by omega)
    refine ⟨⟨by decide, nI_pos (by omega), by decide, by rw [e0, e4]; decide, by rw [em, e4]; omega⟩, ?_⟩
    rw [e0, em, e4]
    refine ⟨Or.inr rfl, ?_⟩
    refine mvqh (hy hlt) rfl ?_
    unfold cKp
    have c4 : (hcpy h 32 0 31 (m * 4) 4) 4 2 = nI m := by
      have : (hcpy h 32 0 31 (m * 4) 4) 4 = h 4 := by simp [hcpy]
      rw [this, hm]
    rw [c4, nI_1]
  · have h30 : m = 30 := by
      rcases Nat.lt_or_ge m 30 with z | z
      · exact absurd (by rw [hm]; exact nI_lt (b := 30) z (by decide)) e
      · omega
    exact ⟨Or.inl rfl, hn h30⟩
end SR
