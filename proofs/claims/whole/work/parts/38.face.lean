/-! ReactWires' own methods -/
section FC
variable {d : Nat} {h : mvH} {Q : Option mvV → mvH → Prop}
theorem s_X4_type (hd : 2 ≤ d) (c : Int32) {n : Nat} (hn : h 1 1 = nI n) (hn2 : n ≤ 60) (hbad : (c < 33 ∨ 126 < c ∨ n = 60) → Q (some (.inl 0)) h) (hok : 33 ≤ c → c ≤ 126 → n < 60 → Q (some (.inl 1)) (hset (hset h 7 n c) 1 1 (nI (n + 1)))) : mvCal mvMT d 84 [.inr 0, .inl c] h Q := by
  obtain ⟨d, rfl⟩ := d_pos hd (by decide)
  refine ⟨⟨rfl, by decide, rfl⟩, Nat.le_of_ble_eq_true rfl, fun K hK => hK _ _ _ _ ?_⟩
  refine s_X0_append (by omega) c hn hn2 (fun z => ?_) (fun z1 z2 z3 => ?_)
  · exact ⟨Or.inl rfl, hbad z⟩
  · exact ⟨Or.inr rfl, hok z1 z2 z3⟩
theorem s_X4_wipe (hd : 2 ≤ d) (hQ : Q none (hset h 1 1 0)) : mvCal mvMT d 85 [.inr 0] h Q := by
  obtain ⟨d, rfl⟩ := d_pos hd (by decide)
  refine ⟨⟨rfl, by decide, rfl⟩, Nat.le_of_ble_eq_true rfl, fun K hK => hK _ _ _ _ ?_⟩
  refine s_X0_clear (by omega) ?_
  exact hQ
def cGtb (h : mvH) : mvH := hfill (hset (hset h 0 5 1) 0 6 0) 6 4 0
theorem s_X4_goToBeginning (hd : 2 ≤ d) (hQ : Q none (cGtb h)) : mvCal mvMT d 95 [.inr 0] h Q := by
  obtain ⟨d, rfl⟩ := d_pos hd (by decide)
  refine ⟨⟨rfl, by decide, rfl⟩, Nat.le_of_ble_eq_true rfl, fun K hK => hK _ _ _ _ ?_⟩
  refine s_fill (by omega) 6 _ (by unfold isFl; decide) ?_
  exact hQ
theorem s_X4_restart (hd : 3 ≤ d) (h0 : h 0 5 = 0 → Q (some (.inl 0)) h) (h1 : ¬ h 0 5 = 0 → Q (some (.inl 1)) (cGtb h)) : mvCal mvMT d 88 [.inr 0] h Q := by
  obtain ⟨d, rfl⟩ := d_pos hd (by decide)
  refine ⟨⟨rfl, by decide, rfl⟩, Nat.le_of_ble_eq_true rfl, fun K hK => hK _ _ _ _ ⟨fun e => ?_, fun e => ⟨Or.inl rfl, h0 e⟩⟩⟩
  refine hK _ _ _ _ ?_
  refine s_X4_goToBeginning (by omega) ?_
  exact ⟨Or.inr rfl, h1 e⟩
theorem s_X4_outputs (hd : 1 ≤ d) (hQ : Q (some (.inl (h 0 7))) h) : mvCal mvMT d 89 [.inr 0] h Q := by
  obtain ⟨d, rfl⟩ := d_pos hd (by decide)
  exact ⟨⟨rfl, by decide, rfl⟩, Nat.le_of_ble_eq_true rfl, fun K hK => hK _ _ _ _ ⟨trivial, hQ⟩⟩
theorem s_X4_open (hd : 1 ≤ d) (hQ : Q (some (.inl (h 0 8))) h) : mvCal mvMT d 90 [.inr 0] h Q := by
  obtain ⟨d, rfl⟩ := d_pos hd (by decide)
  exact ⟨⟨rfl, by decide, rfl⟩, Nat.le_of_ble_eq_true rfl, fun K hK => hK _ _ _ _ ⟨trivial, hQ⟩⟩
theorem s_X4_registers (hd : 1 ≤ d) (x : Int32) (hQ : Q (some (.inl (if x < 0 then 0 else if 4 ≤ x then 0 else h 6 (ix x)))) h) : mvCal mvMT d 91 [.inr 0, .inl x] h Q := by
  obtain ⟨d, rfl⟩ := d_pos hd (by decide)
  refine ⟨⟨rfl, by decide, rfl⟩, Nat.le_of_ble_eq_true rfl, fun K hK => hK _ _ _ _ ⟨fun e => ?_, fun e => ⟨fun e2 => ?_, fun e2 => ?_⟩⟩⟩
  · repeat refine hK _ _ _ _ ?_
    exact ⟨trivial, mvq hQ (by rw [if_pos e])⟩
  · refine hK _ _ _ _ ⟨vp_in_i e e2 (by decide), ?_⟩
    repeat refine hK _ _ _ _ ?_
    exact ⟨trivial, mvq hQ (by rw [if_neg e, if_neg (Int32.not_le.mpr e2)])⟩
  · repeat refine hK _ _ _ _ ?_
    exact ⟨trivial, mvq hQ (by rw [if_neg e, if_pos (Int32.not_lt.mp e2)])⟩
theorem s_X3_thingCount (hd : 1 ≤ d) (hQ : Q (some (.inl (h 3 7))) h) : mvCal mvMT d 39 [.inr 3] h Q := by
  obtain ⟨d, rfl⟩ := d_pos hd (by decide)
  exact ⟨⟨rfl, by decide, rfl⟩, Nat.le_of_ble_eq_true rfl, fun K hK => hK _ _ _ _ ⟨trivial, hQ⟩⟩
theorem s_X3_registerCount (hd : 1 ≤ d) (hQ : Q (some (.inl (h 3 9))) h) : mvCal mvMT d 40 [.inr 3] h Q := by
  obtain ⟨d, rfl⟩ := d_pos hd (by decide)
  exact ⟨⟨rfl, by decide, rfl⟩, Nat.le_of_ble_eq_true rfl, fun K hK => hK _ _ _ _ ⟨trivial, hQ⟩⟩
def cLook (h : mvH) (x : Int32) : Int32 := if x = 0 then h 0 5 else if x = 1 then h 3 7 else if x = 2 then h 3 9 else if x = 3 then h 0 9 else if x = 4 then h 0 6 else -1
theorem s_X4_look (hd : 2 ≤ d) (x : Int32) (hQ : Q (some (.inl (cLook h x))) h) : mvCal mvMT d 92 [.inr 0, .inl x] h Q := by
  obtain ⟨d, rfl⟩ := d_pos hd (by decide)
  refine ⟨⟨rfl, by decide, rfl⟩, Nat.le_of_ble_eq_true rfl, fun K hK => hK _ _ _ _ ⟨fun e => ?_, fun e1 => ⟨fun e => ?_, fun e2 => ⟨fun e => ?_, fun e3 => ⟨fun e => ?_, fun e4 => ⟨fun e => ?_, fun e5 => ?_⟩⟩⟩⟩⟩⟩
  · exact hK _ _ _ _ ⟨trivial, mvq hQ (by simp [cLook, e])⟩
  · refine hK _ _ _ _ ?_
    refine s_X3_thingCount (by omega) ?_
    exact ⟨trivial, mvq hQ (by simp [cLook, e])⟩
  · refine hK _ _ _ _ ?_
    refine s_X3_registerCount (by omega) ?_
    exact ⟨trivial, mvq hQ (by simp [cLook, e])⟩
  · exact hK _ _ _ _ ⟨trivial, mvq hQ (by simp [cLook, e])⟩
  · exact hK _ _ _ _ ⟨trivial, mvq hQ (by simp [cLook, e])⟩
  · exact hK _ _ _ _ ⟨trivial, mvq hQ (by simp [cLook, e1, e2, e3, e4, e5])⟩
theorem s_X4_found (hd : 2 ≤ d) (x : Int32) (hQ : Q (some (.inl (cTly h x))) h) : mvCal mvMT d 94 [.inr 0, .inl x] h Q := by
  obtain ⟨d, rfl⟩ := d_pos hd (by decide)
  refine ⟨⟨rfl, by decide, rfl⟩, Nat.le_of_ble_eq_true rfl, fun K hK => hK _ _ _ _ ?_⟩
  refine s_X1_tally (by omega) _ ?_
  exact ⟨trivial, hQ⟩
theorem s_X4_states (hd : 8 ≤ d) (hno : h 0 5 = 0 → Q (some (.inl (-1))) h) {n sc sg : Nat} (hw : ¬ h 0 5 = 0 → WB h n sc sg ∧ 4 ≤ sg) (hold : ¬ h 0 5 = 0 → ¬ h 4 3 = 0 → Q (some (.inl (h 4 3))) h) (hnew : ¬ h 0 5 = 0 → h 4 3 = 0 → Q (some (.inl (if (cLt n sc sg 30 0 (cBeg h) 1).1 = true then nI (cLt n sc sg 30 0 (cBeg h) 1).2.2 else -2))) (hset (cLt n sc sg 30 0 (cBeg h) 1).2.1 4 3 (if (cLt n sc sg 30 0 (cBeg h) 1).1 = true then nI (cLt n sc sg 30 0 (cBeg h) 1).2.2 else -2))) : mvCal mvMT d 93 [.inr 0] h Q := by
  obtain ⟨d, rfl⟩ := d_pos hd (by decide)
  refine ⟨⟨rfl, by decide, rfl⟩, Nat.le_of_ble_eq_true rfl, fun K hK => hK _ _ _ _ ⟨fun e => ?_, fun e => ?_⟩⟩
  · refine hK _ _ _ _ ?_
    refine s_X1_lookThrough (by omega) (hw e).1 (hw e).2 (fun z => ?_) (fun z => ?_)
    · exact hK _ _ _ _ ⟨trivial, hold e z⟩
    · exact hK _ _ _ _ ⟨trivial, hnew e z⟩
  · refine hK _ _ _ _ ?_
    exact ⟨trivial, hno e⟩
/-- behind load: what was laid out is kept, the rest begins anew -/
def cLd (h : mvH) : mvH := cGtb (hset (hset (hset (hset (hset h 4 3 0) 1 1 0) 0 7 0) 0 8 0) 0 9 0)
theorem s_X4_load (hd : 420 ≤ d) {tx : Nat → Int32} {n : Nat} (hl : h 1 1 = nI n ∧ n ≤ 60 ∧ ∀ j, j < n → h 7 j = tx j ∧ 33 ≤ tx j ∧ tx j ≤ 126)
    (hbad : (∀ N a, prs tx n = some (n, N, a) → False) → ∀ h', frT h h' → Q (some (.inl (-1))) h')
    (hno : ∀ N a T L C S, prs tx n = some (n, N, a) → annOK N T L → cdOK N C → szOK N S → S (N.length - 1) < 2 ^ 20 → refV N T L C S < 0 → ∀ h', frT h h' → Q (some (.inl (refV N T L C S))) h')
    (hgood : ∀ N a T L C S, prs tx n = some (n, N, a) → annOK N T L → cdOK N C → szOK N S → S (N.length - 1) < 2 ^ 20 → refV N T L C S = 0 → ∀ h0 h', frT h h0 → (∀ q, ¬ (q = 3 ∨ q = 16 ∨ q = 17 ∨ q = 18 ∨ q = 19 ∨ q = 20 ∨ q = 21 ∨ q = 22) → h' q = h0 q) → LyCnt h' 0 0 8 0 (pgT N) → LyCon (pgW (pgT N)) h' 0 0 8 0 (pgT N) (pgS N) → Q (some (.inl (nI (cntK 1 (pgT N))))) (cLd h')) : mvCal mvMT d 86 [.inr 0] h Q := by
  obtain ⟨d, rfl⟩ := d_pos hd (by decide)
  refine ⟨⟨rfl, by decide, rfl⟩, Nat.le_of_ble_eq_true rfl, fun K hK => hK _ _ _ _ ?_⟩
  refine s_X2_refusalOf (by omega) hl (fun hb h' hf => ?_) (fun N a T L C S hp hA hC hS hS2 h0 hf ht => ?_)
  · refine ⟨fun e => absurd e (by decide), fun _ => ⟨trivial, hbad hb h' hf⟩⟩
  · obtain ⟨hp1, hp2, ha1, hs, hpar, -, -⟩ := prs_all hl.2.1 hp
    refine ⟨fun e => ?_, fun e => ?_⟩
    · have hl2 : ¬ ∃ i, i < N.length ∧ lieB N T L i := by
        intro z
        unfold refV at e
        rw [if_pos z] at e
        exact absurd e (by decide)
      have hu2 : ¬ ∃ i, i < N.length ∧ unsB N C i := by
        intro z
        unfold refV at e
        rw [if_neg hl2, if_pos z] at e
        exact absurd e (by decide)
      have hsz : ¬ 120 < S (N.length - 1) := by
        intro z
        unfold refV at e
        rw [if_neg hl2, if_neg hu2, if_pos z] at e
        exact absurd e (by decide)
      have hr0 : refV N T L C S = 0 := by
        unfold refV
        rw [if_neg hl2, if_neg hu2, if_neg hsz]
      have hN : N.length ≤ 60 := by have := hl.2.1; omega
      have hlen : (pgT N).length ≤ 120 := by
        unfold pgT
        rw [lay_len hS hN hs N.length (N.length - 1) _ _ _ (by omega) (by omega)]
        omega
      refine hK _ _ _ _ ?_
      refine s_X3_layOut (by omega) (by omega) (ndOK_of hN hs hA hl2) (fun c hc => ?_) ht hlen (fun h' hq hc hco => ?_)
      · obtain ⟨_, z⟩ := hc
        rw [hA.2.1, Int32.zero_and] at z
        exact z rfl
      · refine s_X1_forget (by omega) ?_
        refine s_X0_clear (by omega) ?_
        refine s_X4_goToBeginning (by omega) ?_
        refine s_X3_registerCount (by omega) ?_
        refine ⟨trivial, ?_⟩
        have := hgood N a T L C S hp hA hC hS hS2 hr0 h0 h' hf hq hc hco
        refine mvqh this ?_ rfl
        congr 2
        have e9 : cLd h' 3 9 = h' 3 9 := by
          unfold cLd cGtb
          simp only [hfill, show ¬ (3 : Nat) = 6 by decide, if_false]
          rw [hset_other (by decide), hset_other (by decide), hset_other (by decide), hset_other (by decide), hset_other (by decide), hset_other (by decide), hset_other (by decide)]
        show cLd h' 3 9 = _
        rw [e9, hc.2.2.1, Nat.zero_add]
    · exact ⟨trivial, hno N a T L C S hp hA hC hS hS2 (Int32.not_le.mp e) h0 hf⟩
end FC
