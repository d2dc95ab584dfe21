/-! THE LAW's entry: both objects are made; the cells stand where the small machine has them -/
def lw_h0 : mvH := fun q => match Nat.beq q 64 with
  | true => mvIn
  | false => fun _ => 0
theorem lw_inv0 : INV lw_h0 := by
  refine ⟨⟨0, fun _ => 0, nI_0.symm, nI_0.symm, by decide, fun j hj => absurd hj (Nat.not_lt_zero j)⟩, ⟨rfl, rfl, rfl, rfl⟩, fun j _ => rfl, Or.inl ⟨rfl, rfl, rfl, rfl, rfl, rfl, rfl, rfl, rfl, rfl, fun _ _ => rfl, fun _ _ => rfl⟩⟩
def lw_ad (l : List Nat) : Nat → Nat := fun q => (mvget l q).getD 0
section LWS
variable {s : State} {args : Array Value}
theorem lw_known (hts : ∀ w ∈ mvWS, w.before args s = true) : ∃ (D : va_G) (cI cC : ClassId), va_K D vwCl (mvTy cI cC) s := by
  obtain ⟨c0, i0, k0⟩ := u_known (C := RX0) (T := TX0) (N := 3) (n := 3) hts mvin0 (hts (.instantiable RX0 3) (mvWS_at 103 (by decide +kernel) (by decide +kernel)))
  obtain ⟨c1, i1, k1⟩ := u_known (C := RX1) (T := TX1) (N := 7) (n := 7) hts mvin1 (hts (.instantiable RX1 7) (mvWS_at 227 (by decide +kernel) (by decide +kernel)))
  obtain ⟨c2, i2, k2⟩ := u_known (C := RX2) (T := TX2) (N := 9) (n := 9) hts mvin2 (hts (.instantiable RX2 9) (mvWS_at 120 (by decide +kernel) (by decide +kernel)))
  obtain ⟨c3, i3, k3⟩ := u_known (C := RX3) (T := TX3) (N := 20) (n := 20) hts mvin3 (hts (.instantiable RX3 20) (mvWS_at 160 (by decide +kernel) (by decide +kernel)))
  obtain ⟨c4, i4, k4⟩ := u_known (C := RX4) (T := TX4) (N := 10) (n := 10) hts mvin4 (hts (.instantiable RX4 10) (mvWS_at 95 (by decide +kernel) (by decide +kernel)))
  obtain ⟨c5, i5, k5⟩ := u_known (C := RX5) (T := TX5) (N := 53) (n := 53) hts mvin5 (hts (.instantiable RX5 53) (mvWS_at 685 (by decide +kernel) (by decide +kernel)))
  obtain ⟨cI, kI, pI, a1, a2, a3⟩ := Cond.arrayClass_spec (hts (.arrayClass .int) (mvWS_at 158 (by decide +kernel) (by decide +kernel)))
  obtain ⟨cC, kC, pC, b1, b2, b3⟩ := Cond.arrayClass_spec (hts (.arrayClass .char) (mvWS_at 118 (by decide +kernel) (by decide +kernel)))
  refine ⟨(fun k => match k with | 0 => c0 | 1 => c1 | 2 => c2 | 3 => c3 | 4 => c4 | _ => c5, fun k => match k with | 0 => i0 | 1 => i1 | 2 => i2 | 3 => i3 | 4 => i4 | _ => i5), cI, cC, fun k q hq => ?_, fun k q hq => ?_⟩
  · match k, hq with
    | 0, hq => cases hq; exact k0
    | 1, hq => cases hq; exact k1
    | 2, hq => cases hq; exact k2
    | 3, hq => cases hq; exact k3
    | 4, hq => cases hq; exact k4
    | 5, hq => cases hq; exact k5
    | k + 6, hq => simp [vwCl] at hq
  · match k, hq with
    | 0, hq => cases hq; exact ⟨fun n z => ⟨fun k h => (by cases h), kI, a2, pI, a3⟩, a1⟩
    | 1, hq => cases hq; exact ⟨fun n z => ⟨fun k h => (by cases h), kC, b2, pC, b3⟩, b1⟩
    | k + 2, hq => simp [mvTy] at hq
theorem lw_static {A : Nat → Prop} (hts0 : ∀ w ∈ lw_tbl, w.before args s = true) (hgv : (Jvm.Cond.and given_1 narrow_1).before args s = true) (hA : ∀ a : Nat, a < s.heap.size → ¬ A a) : ∃ t : Nat, va_Z "ReactWires$Wires" "INPUT_WIRES" "[I" (.ref t) A s s.heap ∧ va_T .int t 4 (fun j => .int (mvIn j)) A s s.heap := by
  have hs := flat_of_before _ hgv
  have harr : (Cond.arrayOf (.static "ReactWires$Wires" "INPUT_WIRES" "[I") .int).before args s = true := hs _ (by decide +kernel)
  have hlen : (Cond.eq (.length (.static "ReactWires$Wires" "INPUT_WIRES" "[I")) (.int 4)).before args s = true := hs _ (by decide +kernel)
  have e0 : (Cond.eq (.elem (.static "ReactWires$Wires" "INPUT_WIRES" "[I") (.int 0)) (.int 1431677610)).before args s = true := hs _ (by decide +kernel)
  have e1 : (Cond.eq (.elem (.static "ReactWires$Wires" "INPUT_WIRES" "[I") (.int 1)) (.int 859032780)).before args s = true := hs _ (by decide +kernel)
  have e2 : (Cond.eq (.elem (.static "ReactWires$Wires" "INPUT_WIRES" "[I") (.int 2)) (.int 252702960)).before args s = true := hs _ (by decide +kernel)
  have e3 : (Cond.eq (.elem (.static "ReactWires$Wires" "INPUT_WIRES" "[I") (.int 3)) (.int 16776960)).before args s = true := hs _ (by decide +kernel)
  obtain ⟨t, ht, hT⟩ := va_Tof (tm := (.static "ReactWires$Wires" "INPUT_WIRES" "[I")) (ty := .int) (N := 4) (f := fun j => .int (mvIn j)) (A := A) (by decide) harr (va_eqt hlen) (fun j hj => by
    match j, hj with
    | 0, _ => exact va_eqt e0
    | 1, _ => exact va_eqt e1
    | 2, _ => exact va_eqt e2
    | 3, _ => exact va_eqt e3
    | k + 4, h => exact absurd h (by omega)) hA
  exact ⟨t, va_Zref (hts0 _ (List.mem_of_getElem? (i := 476) (by decide +kernel))) (hts0 (.initialized "ReactWires$Wires") (List.mem_of_getElem? (i := 88) (by decide +kernel))) ht hA, hT⟩
theorem lw_nw (hts0 : ∀ w ∈ lw_tbl, w.before args s = true) : ∀ w ∈ mvNW, va_Nw w s := by
  intro w hw
  have h1 : w ∈ lw_tbl := by
    rw [mvNW_in] at hw
    obtain ⟨i, -, hi⟩ := List.mem_filterMap.mp hw
    exact List.mem_of_getElem? hi
  exact va_Nw.of (mvNW_tab w hw) (hts0 w h1)
theorem lw_cw (hts0 : ∀ w ∈ lw_tbl, w.before args s = true) : ∀ w ∈ csNW, va_Nw w s := by
  intro w hw
  have h1 : w ∈ lw_tbl := by
    rw [csNW_in] at hw
    obtain ⟨i, -, hi⟩ := List.mem_filterMap.mp hw
    exact List.mem_of_getElem? hi
  exact va_Nw.of (csNW_tab w hw) (hts0 w h1)
end LWS
theorem lw_cw_warm {s U : State} (hW : s.WarmedH U.vm) (h : ∀ w ∈ csNW, va_Nw w s) : ∀ w ∈ csNW, va_Nw w U := by
  have hk : ∀ w ∈ csNW, ∃ a i x h, w = .methodLinkNest a i x h := by
    simp only [csNW, List.forall_mem_cons]
    exact ⟨⟨_, _, _, _, rfl⟩, ⟨_, _, _, _, rfl⟩, ⟨_, _, _, _, rfl⟩, ⟨_, _, _, _, rfl⟩, fun _ h => absurd h List.not_mem_nil⟩
  intro w hw
  obtain ⟨a, i, x, n, rfl⟩ := hk w hw
  exact va_Nw.warmM hW (h _ hw)
theorem gdX4 : GoodIn mvWS (Cond.code yX4_init cX4_init 1 none :: mvWS) := mvgood (fun w hw => by
  rcases List.mem_cons.mp hw with h | h
  · rw [h]; exact (mvWS_at 98 (by decide +kernel) (by decide +kernel))
  · exact h)
set_option maxRecDepth 100000 in
set_option maxHeartbeats 4000000 in
theorem lw_perm {D : va_G} {cI cC : ClassId} {H : Heap} {A : Nat → Prop} {h0 qL a1 qT t1 t2 t3 t4 t5 t6 t7 t8 qW w1 w2 w3 w4 w5 w6 w7 w8 w9 w10 w11 w12 w13 w14 w15 qS s1 s2 qc h5 q1 q2 q3 q4 q5 q6 q7 q8 q9 q10 q11 q12 q13 q14 q15 q16 q17 q18 q19 q20 q21 q22 q23 q24 q25 q26 q27 q28 q29 q30 q31 : Nat} (tS : Nat) (hP : va_P D vwCl (wX4 cI cC h0 qL a1 qT t1 t2 t3 t4 t5 t6 t7 t8 qW w1 w2 w3 w4 w5 w6 w7 w8 w9 w10 w11 w12 w13 w14 w15 qS s1 s2 qc ++ wX5 cI cC h5 q1 q2 q3 q4 q5 q6 q7 q8 q9 q10 q11 q12 q13 q14 q15 q16 q17 q18 q19 q20 q21 q22 q23 q24 q25 q26 q27 q28 q29 q30 q31) H) (hD : va_D A (wX4 cI cC h0 qL a1 qT t1 t2 t3 t4 t5 t6 t7 t8 qW w1 w2 w3 w4 w5 w6 w7 w8 w9 w10 w11 w12 w13 w14 w15 qS s1 s2 qc ++ wX5 cI cC h5 q1 q2 q3 q4 q5 q6 q7 q8 q9 q10 q11 q12 q13 q14 q15 q16 q17 q18 q19 q20 q21 q22 q23 q24 q25 q26 q27 q28 q29 q30 q31)) : va_P D vwCl (mvW (lw_ad [h0, qL, qT, qW, qS, h5, qc, a1, t1, t2, t3, t4, t5, t6, t7, t8, w1, w2, w3, w4, w5, w6, w7, w8, w9, w10, w11, w12, w13, w14, w15, s1, s2, q1, q2, q3, q4, q5, q6, q7, q8, q9, q10, q11, q12, q13, q14, q15, q16, q17, q18, q19, q20, q21, q22, q23, q24, q25, q26, q27, q28, q29, q30, q31, tS]) cI cC lw_h0) H ∧ va_D A (mvW (lw_ad [h0, qL, qT, qW, qS, h5, qc, a1, t1, t2, t3, t4, t5, t6, t7, t8, w1, w2, w3, w4, w5, w6, w7, w8, w9, w10, w11, w12, w13, w14, w15, s1, s2, q1, q2, q3, q4, q5, q6, q7, q8, q9, q10, q11, q12, q13, q14, q15, q16, q17, q18, q19, q20, q21, q22, q23, q24, q25, q26, q27, q28, q29, q30, q31, tS]) cI cC lw_h0) :=
  ⟨hP.sub [0, 1, 3, 12, 28, 32, 31, 2, 4, 5, 6, 7, 8, 9, 10, 11, 13, 14, 15, 16, 17, 18, 19, 20, 21, 22, 23, 24, 25, 26, 27, 29, 30, 33, 34, 35, 36, 37, 38, 39, 40, 41, 42, 43, 44, 45, 46, 47, 48, 49, 50, 51, 52, 53, 54, 55, 56, 57, 58, 59, 60, 61, 62, 63] rfl, hD.sub [0, 1, 3, 12, 28, 32, 31, 2, 4, 5, 6, 7, 8, 9, 10, 11, 13, 14, 15, 16, 17, 18, 19, 20, 21, 22, 23, 24, 25, 26, 27, 29, 30, 33, 34, 35, 36, 37, 38, 39, 40, 41, 42, 43, 44, 45, 46, 47, 48, 49, 50, 51, 52, 53, 54, 55, 56, 57, 58, 59, 60, 61, 62, 63] (by decide) rfl⟩
set_option maxRecDepth 100000 in
set_option maxHeartbeats 4000000 in
theorem whole_start {p : Program} {e : Env} {s : State} {m : MethodId} {below : List Frame} {meth : Method} {c : Code} (l : Launch) {b L : Nat} {xs : Nat → Int32} (hL : L ≤ 128) (C0 : lw_At p s m meth c b L xs) : W p l e room_1 s m #[Value.ref b] below meth c s.heap [] 0 0 (lw_Z below #[Value.ref b] s) (entryFrame m ([Value.ref b] : List Value).toArray 4) := by
  obtain ⟨hx, hb, hr, hml, hown, hts0, hX, hbl, hlocks, hgv⟩ := id C0
  have hts : ∀ w ∈ mvWS, w.before #[Value.ref b] s = true := fun w hw => hts0 w (List.mem_filter.mp hw).1
  have hown : s.vm.findClass RL = some m.cls := hown
  obtain ⟨D, cI, cC, hK⟩ := lw_known hts
  obtain ⟨tS, hZ, hT⟩ := lw_static (A := (fun q : Nat => s.heap.size ≤ q)) hts0 hgv (fun a h => Nat.not_le.mpr h)
  have hNw := lw_nw hts0
  have hCw := lw_cw hts0
  have hS : va_S (fun q : Nat => s.heap.size ≤ q) s.heap s.heap [] := va_S.rf
  have hP : va_P D vwCl [] s.heap := fun k q h => by simp at h
  have hD : va_D (fun q : Nat => s.heap.size ≤ q) [] := ⟨fun i j p q h => by simp at h, fun k q h => by simp at h⟩
  generalize hAe : (fun q : Nat => s.heap.size ≤ q) = A at hD hS hZ hT
  have hA : ∀ q : Nat, s.heap.size ≤ q → A q := fun q h => by rw [← hAe]; exact h
  have hl := lv_entry ([.ref b]) (n := 4) (Nat.le_of_ble_eq_true rfl)
  rw [lg_entry_eq]
  generalize (lg_sl ([.ref b]) ++ List.replicate (4 - (lg_sl ([.ref b])).length) Slot.unset).toArray = ls at hl ⊢
  have hl : lv_has ls 4 [(0, .ref b)] := hl
  refine va_new (ci := 4) (fs := fsX4) (C := RX4) (T := TX4) (N := 10) hx hb hts mvin4 tyX4 tyX4_ok hown (hts (.classLink RL 7 RX4) (mvWS_at 94 (by decide +kernel) (by decide +kernel))) (hts (.instantiable RX4 10) (mvWS_at 95 (by decide +kernel) (by decide +kernel))) (hts (.initialized RX4) (mvWS_at 85 (by decide +kernel) (by decide +kernel))) hK hP hD hS hA rfl dfX4 (Nat.le_of_ble_eq_true rfl) (Nat.le_of_ble_eq_true rfl) dL_law_0 (fun h0 H hP hD hS => ?_)
  have hP : va_P D vwCl [(h0, .inr (4, fsX4))] H := hP
  have hD : va_D A [(h0, .inr (4, fsX4))] := hD
  refine lv_dup hx hb dL_law_3 rfl ?_
  have hFc := va_free (wc := [(h0, .inr (4, fsX4))]) hD hS hA [0] rfl
  refine va_callv (va_runI (As := []) (rest := [.ref h0]) ⟨hx, hb, hml, hown, hts⟩ (c_X4_init l D cI cC h0 H.size) (cwI 0 hts gdX4 rfl rfl rfl (hts (.initialized RX4) (mvWS_at 85 (by decide +kernel) (by decide +kernel))) (hts (.methodLink RL 9 yX4_init) (mvWS_at 96 (by decide +kernel) (by decide +kernel))) (hts (.instanceMethod yX4_init) (mvWS_at 97 (by decide +kernel) (by decide +kernel))) rfl (by decide +kernel) ⟨Nat.le_of_ble_eq_true rfl, Nat.le_of_ble_eq_true rfl⟩) ⟨fun a U g mk q => by obtain ⟨q0, q1, qP, qK, qD, qN⟩ := q; exact ⟨q0, q1, qP, va_K.moved (u := U) (U := U.calling g mk a) (Vm.Alike.refl U.vm) qK, qD, fun w hw => va_Nw.same (u := U) (U := U.calling g mk a) (csNW_tab w hw) rfl (qN w hw)⟩, fun U hU hW => ⟨rfl, by rw [hU], by rw [hU]; exact hP, va_K.moved hW.alike hK, hD.weaken (fun _ _ _ _ => trivial), lw_cw_warm hW hCw⟩⟩ rfl rfl hl.1 rfl (lv_room (Nat.le_of_ble_eq_true rfl)) dL_law_4 ⟨Nat.le_of_ble_eq_true rfl, Nat.le_of_ble_eq_true rfl⟩) hS (fun q _ h => hFc q h) hFc (fun u t H1 locs ht hvm hw hB hz1 hk1 hS => ?_)
  obtain ⟨qL, a1, qT, t1, t2, t3, t4, t5, t6, t7, t8, qW, w1, w2, w3, w4, w5, w6, w7, w8, w9, w10, w11, w12, w13, w14, w15, qS, s1, s2, qc, hP1, hK1, hD1⟩ := hB
  rw [ht] at hP1
  obtain ⟨hP, hD⟩ := va_join (wr := []) (w1 := wX4 cI cC h0 qL a1 qT t1 t2 t3 t4 t5 t6 t7 t8 qW w1 w2 w3 w4 w5 w6 w7 w8 w9 w10 w11 w12 w13 w14 w15 qS s1 s2 qc) hP hD [0] [] rfl rfl (by decide) (by decide) hk1 hFc hP1 hD1
  generalize H1 = H at hP hS ⊢
  have hP : va_P D vwCl (wX4 cI cC h0 qL a1 qT t1 t2 t3 t4 t5 t6 t7 t8 qW w1 w2 w3 w4 w5 w6 w7 w8 w9 w10 w11 w12 w13 w14 w15 qS s1 s2 qc) H := hP
  have hD : va_D A (wX4 cI cC h0 qL a1 qT t1 t2 t3 t4 t5 t6 t7 t8 qW w1 w2 w3 w4 w5 w6 w7 w8 w9 w10 w11 w12 w13 w14 w15 qS s1 s2 qc) := hD
  refine lv_astore_n (lv' := [(1, .ref h0), (0, .ref b)]) hx hb dL_law_7 rfl hl (by decide) rfl (fun ls hl => ?_)
  refine va_new (ci := 5) (fs := fsX5) (C := RX5) (T := TX5) (N := 53) hx hb hts mvin5 tyX5 tyX5_ok hown (hts (.classLink RL 10 RX5) (mvWS_at 684 (by decide +kernel) (by decide +kernel))) (hts (.instantiable RX5 53) (mvWS_at 685 (by decide +kernel) (by decide +kernel))) (hts (.initialized RX5) (mvWS_at 90 (by decide +kernel) (by decide +kernel))) hK hP hD hS hA rfl dfX5 (Nat.le_of_ble_eq_true rfl) (Nat.le_of_ble_eq_true rfl) dL_law_8 (fun h5 H hP hD hS => ?_)
  refine lv_dup hx hb dL_law_11 rfl ?_
  have hPc := hP.sub (ws' := [(h5, .inr (5, fsX5))]) [32] rfl
  have hDc := hD.sub (ws' := [(h5, .inr (5, fsX5))]) [32] (by decide) rfl
  have hFc := va_free (wc := [(h5, .inr (5, fsX5))]) hD hS hA [32] rfl
  refine va_callv (va_runI (As := []) (rest := [.ref h5]) ⟨hx, hb, hml, hown, hts⟩ (c_X5_init l D cI cC h5 H.size) (cwI 0 hts gdX5 rfl rfl rfl (hts (.initialized RX5) (mvWS_at 90 (by decide +kernel) (by decide +kernel))) (hts (.methodLink RL 12 yX5_init) (mvWS_at 686 (by decide +kernel) (by decide +kernel))) (hts (.instanceMethod yX5_init) (mvWS_at 687 (by decide +kernel) (by decide +kernel))) rfl (by decide +kernel) ⟨Nat.le_of_ble_eq_true rfl, Nat.le_of_ble_eq_true rfl⟩) ⟨fun a U g mk q => by obtain ⟨q0, q1, qP, qK, qD⟩ := q; exact ⟨q0, q1, qP, va_K.moved (u := U) (U := U.calling g mk a) (Vm.Alike.refl U.vm) qK, qD⟩, fun U hU hW => ⟨rfl, by rw [hU], by rw [hU]; exact hPc, va_K.moved hW.alike hK, hDc.weaken (fun _ _ _ _ => trivial)⟩⟩ rfl rfl hl.1 rfl (lv_room (Nat.le_of_ble_eq_true rfl)) dL_law_12 ⟨Nat.le_of_ble_eq_true rfl, Nat.le_of_ble_eq_true rfl⟩) hS (fun q _ h => hFc q h) hFc (fun u t H1 locs ht hvm hw hB hz1 hk1 hS => ?_)
  obtain ⟨q1, q2, q3, q4, q5, q6, q7, q8, q9, q10, q11, q12, q13, q14, q15, q16, q17, q18, q19, q20, q21, q22, q23, q24, q25, q26, q27, q28, q29, q30, q31, hP1, hK1, hD1⟩ := hB
  rw [ht] at hP1
  obtain ⟨hP, hD⟩ := va_join (wr := wX4 cI cC h0 qL a1 qT t1 t2 t3 t4 t5 t6 t7 t8 qW w1 w2 w3 w4 w5 w6 w7 w8 w9 w10 w11 w12 w13 w14 w15 qS s1 s2 qc) (w1 := wX5 cI cC h5 q1 q2 q3 q4 q5 q6 q7 q8 q9 q10 q11 q12 q13 q14 q15 q16 q17 q18 q19 q20 q21 q22 q23 q24 q25 q26 q27 q28 q29 q30 q31) hP hD [32] [0, 1, 2, 3, 4, 5, 6, 7, 8, 9, 10, 11, 12, 13, 14, 15, 16, 17, 18, 19, 20, 21, 22, 23, 24, 25, 26, 27, 28, 29, 30, 31] rfl rfl (by decide) (by decide) hk1 hFc hP1 hD1
  generalize H1 = H at hP hS ⊢
  refine lv_astore_n (lv' := [(2, .ref h5), (1, .ref h0), (0, .ref b)]) hx hb dL_law_15 rfl hl (by decide) rfl (fun ls hl => ?_)
  refine lv_iconst (v := 0) hx hb dL_law_16 (by decide) ?_
  refine lv_istore_n (lv' := [(3, .int 0), (2, .ref h5), (1, .ref h0), (0, .ref b)]) hx hb dL_law_17 rfl hl (by decide) rfl (fun ls hl => ?_)
  obtain ⟨hP2, hD2⟩ := lw_perm tS hP hD
  have hl : lv_has ls 4 [(0, .ref b), (1, .ref (lw_ad [h0, qL, qT, qW, qS, h5, qc, a1, t1, t2, t3, t4, t5, t6, t7, t8, w1, w2, w3, w4, w5, w6, w7, w8, w9, w10, w11, w12, w13, w14, w15, s1, s2, q1, q2, q3, q4, q5, q6, q7, q8, q9, q10, q11, q12, q13, q14, q15, q16, q17, q18, q19, q20, q21, q22, q23, q24, q25, q26, q27, q28, q29, q30, q31, tS] 0)), (2, .ref (lw_ad [h0, qL, qT, qW, qS, h5, qc, a1, t1, t2, t3, t4, t5, t6, t7, t8, w1, w2, w3, w4, w5, w6, w7, w8, w9, w10, w11, w12, w13, w14, w15, s1, s2, q1, q2, q3, q4, q5, q6, q7, q8, q9, q10, q11, q12, q13, q14, q15, q16, q17, q18, q19, q20, q21, q22, q23, q24, q25, q26, q27, q28, q29, q30, q31, tS] 5)), (3, .int 0)] := lv_sub hl [3, 2, 1, 0] rfl
  have e64 : lw_ad [h0, qL, qT, qW, qS, h5, qc, a1, t1, t2, t3, t4, t5, t6, t7, t8, w1, w2, w3, w4, w5, w6, w7, w8, w9, w10, w11, w12, w13, w14, w15, s1, s2, q1, q2, q3, q4, q5, q6, q7, q8, q9, q10, q11, q12, q13, q14, q15, q16, q17, q18, q19, q20, q21, q22, q23, q24, q25, q26, q27, q28, q29, q30, q31, tS] mvNC = tS := rfl
  generalize lw_ad [h0, qL, qT, qW, qS, h5, qc, a1, t1, t2, t3, t4, t5, t6, t7, t8, w1, w2, w3, w4, w5, w6, w7, w8, w9, w10, w11, w12, w13, w14, w15, s1, s2, q1, q2, q3, q4, q5, q6, q7, q8, q9, q10, q11, q12, q13, q14, q15, q16, q17, q18, q19, q20, q21, q22, q23, q24, q25, q26, q27, q28, q29, q30, q31, tS] = ad at hP2 hD2 hl e64
  have hAd : mvAd ad := fun i j hi hj e => hD2.1 i j _ _ (mvW_get hi) (mvW_get hj) e
  have hge0 : ∀ q, mvA ad q → A q := fun q hq => by
    obtain ⟨k, hk, rfl⟩ := hq
    exact hD2.2 k _ (mvW_get hk)
  have hZ2 : mvZ ad s := by
    refine ⟨?_, ?_⟩
    · rw [e64]; exact hZ.narrow hge0
    · rw [e64]; exact hT.narrow hge0
  subst hAe
  exact law_loop hL C0 hK hAd hge0 hZ2 hNw ⟨Nat.le_of_ble_eq_true rfl, Nat.le_of_ble_eq_true rfl⟩ (L + 2) 0 0 (Nat.zero_le _) (by omega) nI_0.symm lw_h0 _ _ lw_inv0 ⟨hP2, fun j _ => rfl⟩ hS ls hl
