/-! ReactWires.react -/
section RE
variable {h h' : mvH}
theorem cEnd_c {x c : Int32} (e : h' 27 = h 27) : cEnd h' x c = cEnd h x c := by unfold cEnd; rw [e]
theorem cU6_c {t : Nat} {a : Int32} (e : h' 27 = h 27) : ∀ c, cU6 h' t a c = cU6 h t a c := by
  intro c
  induction c with
  | zero => rfl
  | succ c ih => unfold cU6; rw [ih, cEnd_c e]
theorem cUnd_c (e27 : h' 27 = h 27) (e23 : h' 23 = h 23) (e26 : h' 26 = h 26) : ∀ n, cUnd h' n = cUnd h n := by
  intro n
  induction n with
  | zero => rfl
  | succ n ih => unfold cUnd; rw [ih, e23, e26, cU6_c e27]
theorem cUnS_c {a : Int32} (e29 : h' 29 = h 29) : ∀ s, cUnS h' a s = cUnS h a s := by
  intro s
  induction s with
  | zero => rfl
  | succ s ih => unfold cUnS; rw [ih, e29]
theorem cW6_c {l : Int32} {t : Nat} {a : Int32} (e : h' 27 = h 27) : ∀ c, cW6 h' l t a c = cW6 h l t a c := by
  intro c
  induction c with
  | zero => rfl
  | succ c ih => unfold cW6; rw [ih, cEnd_c e]
theorem cWun_c {l : Int32} (e27 : h' 27 = h 27) (e23 : h' 23 = h 23) (e26 : h' 26 = h 26) : ∀ n, cWun h' l n = cWun h l n := by
  intro n
  induction n with
  | zero => rfl
  | succ n ih => unfold cWun; rw [ih, e23, e26, cW6_c e27]
theorem cWs_c {l a : Int32} (e29 : h' 29 = h 29) : ∀ s, cWs h' l a s = cWs h l a s := by
  intro s
  induction s with
  | zero => rfl
  | succ s ih => unfold cWs; rw [ih, e29]
theorem cUno_c {l : Int32} (e29 : h' 29 = h 29) : ∀ o, cUno h' l o = cUno h l o := by
  intro o
  induction o with
  | zero => rfl
  | succ o ih => unfold cUno; rw [ih, e29]
/-- what an instant of react leaves to be told, over the wires of g -/
def cTold (g : mvH) (x : Int32) (n sg : Nat) : mvH := hset (hset (hset g 0 7 (cOne g x 4)) 0 8 (cUno g x 4)) 0 9 (cWs g x (cWun g x n) sg)
theorem cTold_o {g : mvH} {x : Int32} {n sg q : Nat} (hq : q ≠ 0) : cTold g x n sg q = g q := by
  unfold cTold
  rw [hset_other hq, hset_other hq, hset_other hq]
end RE
section RE2
variable {d : Nat} {h : mvH} {Q : Option mvV → mvH → Prop}
set_option maxHeartbeats 4000000 in
theorem s_X4_react (hd : 8 ≤ d) (x : Int32) (hno : (¬ (h 0 5 = 1 ∨ h 0 5 = 2) ∨ x < 0 ∨ 15 < x) → Q (some (.inl (-1))) h)
    {n sc sg : Nat} (hw : (h 0 5 = 1 ∨ h 0 5 = 2) → WB h n sc sg ∧ 4 ≤ sg)
    (hyes : (h 0 5 = 1 ∨ h 0 5 = 2) → ¬ x < 0 → ¬ 15 < x → ∀ g, g = cRun h 6 0 (if h 0 5 = 2 then 1 else 0) n sc sg →
      (mvsh (cUnS g (cUnd g n) sg) x &&& 1 = 1 → Q (some (.inl 2)) (cTold g x n sg)) ∧
      (¬ mvsh (cUnS g (cUnd g n) sg) x &&& 1 = 1 → mvsh (cEl g) x &&& 1 = 1 → Q (some (.inl 1)) (hfill (hset (hset (cTold g x n sg) 0 6 (h 0 6 + 1)) 0 5 3) 6 4 0)) ∧
      (¬ mvsh (cUnS g (cUnd g n) sg) x &&& 1 = 1 → ¬ mvsh (cEl g) x &&& 1 = 1 → Q (some (.inl 0)) (cCp (hset (hset (cTold g x n sg) 0 6 (h 0 6 + 1)) 0 5 2) 6 x n))) : mvCal mvMT d 87 [.inr 0, .inl x] h Q := by
  obtain ⟨d, rfl⟩ := d_pos hd (by decide)
  refine ⟨⟨rfl, by decide, rfl⟩, Nat.le_of_ble_eq_true rfl, fun K hK => hK _ _ _ _ ?_⟩
  have e36 : (¬ (h 0 5 = 1 ∨ h 0 5 = 2) ∨ x < 0 ∨ 15 < x) → ∀ z, K 36 [some (.inr 0), some (.inl x), z] [] h := by
    intro hz z
    exact hK _ _ _ _ ⟨trivial, hno hz⟩
  have main : (h 0 5 = 1 ∨ h 0 5 = 2) → ¬ x < 0 → ¬ 15 < x → ∀ z, K 38 [some (.inr 0), some (.inl x), z] [] h := by
    intro hp h0 h15 z
    obtain ⟨hw1, h4⟩ := hw hp
    have hy := hyes hp h0 h15 _ rfl
    have hf : frI h (cRun h 6 0 (if h 0 5 = 2 then 1 else 0) n sc sg) := cRun_fr
    have hwg := frI_WB hf hw1
    have e60 : ∀ v, v = (if h 0 5 = 2 then (1 : Int32) else 0) → K 60 [some (.inr 0), some (.inl x), z] [.inl v, .inl 0, .inr 6, .inr 3] h := by
      intro v hv
      subst hv
      refine hK _ _ _ _ ?_
      refine s_X3_runInstant (by omega) 6 (by decide) _ _ hw1 h4 ?_
      generalize cRun h 6 0 (if h 0 5 = 2 then 1 else 0) n sc sg = g at hy hf hwg
      obtain ⟨y1, y2, y3⟩ := hy
      refine s_X3_outputsThatAreOne (by omega) _ ?_
      refine s_X3_outputsThatAreUnknown (by omega) _ ?_
      have q7 : ∀ q, q ≠ 0 → (hset g 0 7 (cOne g x 4)) q = g q := fun q hq => hset_other hq
      rw [cUno_c (q7 29 (by decide))]
      have q8 : ∀ q, q ≠ 0 → (hset (hset g 0 7 (cOne g x 4)) 0 8 (cUno g x 4)) q = g q := fun q hq => by rw [hset_other hq, hset_other hq]
      refine s_X3_unknownWires (by omega) _ (WB_cells (q8 3 (by decide)) (q8 17 (by decide)) (q8 21 (by decide)) hwg) ?_
      rw [cWs_c (q8 29 (by decide)), cWun_c (q8 27 (by decide)) (q8 23 (by decide)) (q8 26 (by decide))]
      have q9 : ∀ q, q ≠ 0 → cTold g x n sg q = g q := fun q hq => cTold_o hq
      have hT : hset (hset (hset g 0 7 (cOne g x 4)) 0 8 (cUno g x 4)) 0 9 (cWs g x (cWun g x n) sg) = cTold g x n sg := rfl
      refine s_X3_undecidedLanes (n := n) (sc := sc) (sg := sg) (by omega) (WB_cells (q9 3 (by decide)) (q9 17 (by decide)) (q9 21 (by decide)) hwg) ?_
      have hu : cUnS (cTold g x n sg) (cUnd (cTold g x n sg) n) sg = cUnS g (cUnd g n) sg := by rw [cUnS_c (q9 29 (by decide)), cUnd_c (q9 27 (by decide)) (q9 23 (by decide)) (q9 26 (by decide))]
      refine ⟨fun e => ?_, fun e => ⟨trivial, ?_⟩⟩
      · have e : ¬ mvsh (cUnS g (cUnd g n) sg) x &&& 1 = 1 := by rw [← hu]; exact e
        refine hK _ _ _ _ ?_
        have h6 : (cTold g x n sg) 0 6 = h 0 6 := by
          unfold cTold
          rw [hset_at, if_neg (by decide), hset_at, if_neg (by decide), hset_at, if_neg (by decide), hf.1 0 (by decide)]
        have hel : (if (hset (cTold g x n sg) 0 6 ((cTold g x n sg) 0 6 + 1)) 3 7 = 0 then 0 else cEnd (hset (cTold g x n sg) 0 6 ((cTold g x n sg) 0 6 + 1)) 0 0 &&& 65535) = cEl g := by
          unfold cEl
          rw [hset_other (by decide), q9 3 (by decide), cEnd_c (h := g) (by rw [hset_other (by decide), q9 27 (by decide)])]
        refine s_X3_endedLanes (by omega) ?_
        refine ⟨fun e2 => ?_, fun e2 => ?_⟩
        · have e2 : ¬ mvsh (cEl g) x &&& 1 = 1 := by rw [← hel]; exact e2
          refine hK _ _ _ _ ?_
          refine s_X3_copyNextRegisters (n := n) (by omega) x 6 (by decide) (by rw [hset_other (by decide), hset_other (by decide), hT, q9 3 (by decide)]; exact hwg.1) hwg.2.1 ?_
          refine ⟨trivial, ?_⟩
          have := y3 e e2
          rw [← h6] at this
          exact this
        · have e2 : mvsh (cEl g) x &&& 1 = 1 := by rw [← hel]; exact e2
          refine s_fill (by omega) 6 _ (by unfold isFl; decide) ?_
          refine ⟨trivial, ?_⟩
          have := y2 e e2
          rw [← h6] at this
          exact this
      · have e : mvsh (cUnS g (cUnd g n) sg) x &&& 1 = 1 := by rw [← hu]; exact e
        exact y1 e
    refine hK _ _ _ _ ⟨fun e => ?_, fun e => ?_⟩
    · refine hK _ _ _ _ ?_
      exact e60 _ (by rw [if_neg e])
    · exact e60 _ (by rw [if_pos e])
  have e21 : ∀ v, (v = 1 ∧ (h 0 5 = 1 ∨ h 0 5 = 2)) ∨ (v = 0 ∧ ¬ (h 0 5 = 1 ∨ h 0 5 = 2)) → ∀ z, K 21 [some (.inr 0), some (.inl x), z] [.inl v] h := by
    intro v hv z
    refine hK _ _ _ _ ⟨fun e => ?_, fun e => ⟨fun e2 => ?_, fun e2 => ⟨fun e3 => ?_, fun e3 => ?_⟩⟩⟩
    · rcases hv with w | w
      · rw [w.1] at e; exact absurd e (by decide)
      · exact e36 (Or.inl w.2) _
    · exact e36 (Or.inr (Or.inl e2)) _
    · rcases hv with w | w
      · exact main w.2 e2 (Int32.not_lt.mpr e3) _
      · exact absurd w.1 e
    · exact e36 (Or.inr (Or.inr (Int32.not_le.mp e3))) _
  refine ⟨fun e => ?_, fun e => ⟨fun e2 => ?_, fun e2 => ?_⟩⟩
  · refine hK _ _ _ _ ?_
    exact e21 1 (Or.inl ⟨rfl, Or.inl e⟩) _
  · refine hK _ _ _ _ ?_
    exact e21 0 (Or.inr ⟨rfl, fun w => w.elim e e2⟩) _
  · refine hK _ _ _ _ ?_
    exact e21 1 (Or.inl ⟨rfl, Or.inr e2⟩) _
end RE2
