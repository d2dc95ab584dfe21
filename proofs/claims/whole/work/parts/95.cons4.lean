/-! THE CONSTRUCTORS: the class itself -/
theorem dfX0 : ∀ j, j < 3 → defaultValue (tyX0 j) = vp_V fsX0 j := by
  intro j hj
  match j, hj with
  | 0, _ => rfl
  | 1, _ => rfl
  | 2, _ => rfl
  | k + 3, h => exact absurd h (by omega)
theorem dfX1 : ∀ j, j < 7 → defaultValue (tyX1 j) = vp_V fsX1 j := by
  intro j hj
  match j, hj with
  | 0, _ => rfl
  | 1, _ => rfl
  | 2, _ => rfl
  | 3, _ => rfl
  | 4, _ => rfl
  | 5, _ => rfl
  | 6, _ => rfl
  | k + 7, h => exact absurd h (by omega)
theorem dfX2 : ∀ j, j < 9 → defaultValue (tyX2 j) = vp_V fsX2 j := by
  intro j hj
  match j, hj with
  | 0, _ => rfl
  | 1, _ => rfl
  | 2, _ => rfl
  | 3, _ => rfl
  | 4, _ => rfl
  | 5, _ => rfl
  | 6, _ => rfl
  | 7, _ => rfl
  | 8, _ => rfl
  | k + 9, h => exact absurd h (by omega)
theorem dfX3 : ∀ j, j < 20 → defaultValue (tyX3 j) = vp_V fsX3 j := by
  intro j hj
  match j, hj with
  | 0, _ => rfl
  | 1, _ => rfl
  | 2, _ => rfl
  | 3, _ => rfl
  | 4, _ => rfl
  | 5, _ => rfl
  | 6, _ => rfl
  | 7, _ => rfl
  | 8, _ => rfl
  | 9, _ => rfl
  | 10, _ => rfl
  | 11, _ => rfl
  | 12, _ => rfl
  | 13, _ => rfl
  | 14, _ => rfl
  | 15, _ => rfl
  | 16, _ => rfl
  | 17, _ => rfl
  | 18, _ => rfl
  | 19, _ => rfl
  | k + 20, h => exact absurd h (by omega)
theorem dfX4 : ∀ j, j < 10 → defaultValue (tyX4 j) = vp_V fsX4 j := by
  intro j hj
  match j, hj with
  | 0, _ => rfl
  | 1, _ => rfl
  | 2, _ => rfl
  | 3, _ => rfl
  | 4, _ => rfl
  | 5, _ => rfl
  | 6, _ => rfl
  | 7, _ => rfl
  | 8, _ => rfl
  | 9, _ => rfl
  | k + 10, h => exact absurd h (by omega)
theorem dfX5 : ∀ j, j < 53 → defaultValue (tyX5 j) = vp_V fsX5 j := by
  intro j hj
  match j, hj with
  | 0, _ => rfl
  | 1, _ => rfl
  | 2, _ => rfl
  | 3, _ => rfl
  | 4, _ => rfl
  | 5, _ => rfl
  | 6, _ => rfl
  | 7, _ => rfl
  | 8, _ => rfl
  | 9, _ => rfl
  | 10, _ => rfl
  | 11, _ => rfl
  | 12, _ => rfl
  | 13, _ => rfl
  | 14, _ => rfl
  | 15, _ => rfl
  | 16, _ => rfl
  | 17, _ => rfl
  | 18, _ => rfl
  | 19, _ => rfl
  | 20, _ => rfl
  | 21, _ => rfl
  | 22, _ => rfl
  | 23, _ => rfl
  | 24, _ => rfl
  | 25, _ => rfl
  | 26, _ => rfl
  | 27, _ => rfl
  | 28, _ => rfl
  | 29, _ => rfl
  | 30, _ => rfl
  | 31, _ => rfl
  | 32, _ => rfl
  | 33, _ => rfl
  | 34, _ => rfl
  | 35, _ => rfl
  | 36, _ => rfl
  | 37, _ => rfl
  | 38, _ => rfl
  | 39, _ => rfl
  | 40, _ => rfl
  | 41, _ => rfl
  | 42, _ => rfl
  | 43, _ => rfl
  | 44, _ => rfl
  | 45, _ => rfl
  | 46, _ => rfl
  | 47, _ => rfl
  | 48, _ => rfl
  | 49, _ => rfl
  | 50, _ => rfl
  | 51, _ => rfl
  | 52, _ => rfl
  | k + 53, h => exact absurd h (by omega)
theorem gdX0 : GoodIn mvWS (Cond.code yX0_init cX0_init 1 none :: mvWS) := mvgood (fun w hw => by
  rcases List.mem_cons.mp hw with h | h
  · rw [h]; exact (mvWS_at 106 (by decide +kernel) (by decide +kernel))
  · exact h)
theorem gdX1 : GoodIn mvWS (Cond.code yX1_init cX1_init 1 none :: mvWS) := mvgood (fun w hw => by
  rcases List.mem_cons.mp hw with h | h
  · rw [h]; exact (mvWS_at 230 (by decide +kernel) (by decide +kernel))
  · exact h)
theorem gdX2 : GoodIn mvWS (Cond.code yX2_init cX2_init 1 none :: mvWS) := mvgood (fun w hw => by
  rcases List.mem_cons.mp hw with h | h
  · rw [h]; exact (mvWS_at 123 (by decide +kernel) (by decide +kernel))
  · exact h)
theorem gdX3 : GoodIn mvWS (Cond.code yX3_init cX3_init 1 none :: mvWS) := mvgood (fun w hw => by
  rcases List.mem_cons.mp hw with h | h
  · rw [h]; exact (mvWS_at 163 (by decide +kernel) (by decide +kernel))
  · exact h)
theorem gdX5 : GoodIn mvWS (Cond.code yX5_init cX5_init 1 none :: mvWS) := mvgood (fun w hw => by
  rcases List.mem_cons.mp hw with h | h
  · rw [h]; exact (mvWS_at 688 (by decide +kernel) (by decide +kernel))
  · exact h)
def csNW : List Cond := [.methodLinkNest RX4 9 yX0_init "ReactWires", .methodLinkNest RX4 18 yX2_init "ReactWires", .methodLinkNest RX4 25 yX3_init "ReactWires", .methodLinkNest RX4 32 yX1_init "ReactWires"]
theorem csNW_in : csNW = ([104, 121, 161, 228] : List Nat).filterMap (fun i => lw_tbl[i]?) := by decide +kernel
theorem csNW_tab : ∀ w ∈ csNW, w.onTables = true := by decide +kernel
def wX4 (cI cC : ClassId) (h0 qL a1 qT t1 t2 t3 t4 t5 t6 t7 t8 qW w1 w2 w3 w4 w5 w6 w7 w8 w9 w10 w11 w12 w13 w14 w15 qS s1 s2 qc : Nat) : va_W := [(h0, .inr (4, [.ref qL, .ref qT, .ref qW, .ref qS, .ref qc, .int 0, .int 0, .int 0, .int 0, .int 0])), (qL, .inr (0, [.ref a1, .int 0, .int 0])), (a1, .inl (cC, 60, .inl (fun _ => 0))), (qT, .inr (2, [.ref t1, .ref t2, .ref t3, .ref t4, .ref t5, .ref t6, .ref t7, .ref t8, .int 0])), (t1, .inl (cI, 60, .inl (fun _ => 0))), (t2, .inl (cI, 60, .inl (fun _ => 0))), (t3, .inl (cI, 60, .inl (fun _ => 0))), (t4, .inl (cI, 60, .inl (fun _ => 0))), (t5, .inl (cI, 60, .inl (fun _ => 0))), (t6, .inl (cI, 60, .inl (fun _ => 0))), (t7, .inl (cI, 60, .inl (fun _ => 0))), (t8, .inl (cI, 60, .inl (fun _ => 0))), (qW, .inr (3, [.ref w1, .ref w2, .ref w3, .ref w4, .ref w5, .ref w6, .ref w7, .int 0, .int 0, .int 0, .int 0, .ref w8, .ref w9, .ref w10, .ref w11, .ref w12, .ref w13, .ref w14, .ref w15, .int 0])), (w1, .inl (cI, 120, .inl (fun _ => 0))), (w2, .inl (cI, 120, .inl (fun _ => 0))), (w3, .inl (cI, 120, .inl (fun _ => 0))), (w4, .inl (cI, 120, .inl (fun _ => 0))), (w5, .inl (cI, 120, .inl (fun _ => 0))), (w6, .inl (cI, 240, .inl (fun _ => 0))), (w7, .inl (cI, 8, .inl (fun _ => 0))), (w8, .inl (cI, 120, .inl (fun _ => 0))), (w9, .inl (cI, 120, .inl (fun _ => 0))), (w10, .inl (cI, 120, .inl (fun _ => 0))), (w11, .inl (cI, 120, .inl (fun _ => 0))), (w12, .inl (cI, 720, .inl (fun _ => 0))), (w13, .inl (cI, 120, .inl (fun _ => 0))), (w14, .inl (cI, 128, .inl (fun _ => 0))), (w15, .inl (cI, 128, .inl (fun _ => 0))), (qS, .inr (1, [.ref s1, .ref s2, .int 0, .int 0, .int 0, .int 0, .int 0])), (s1, .inl (cI, 120, .inl (fun _ => 0))), (s2, .inl (cI, 4, .inl (fun _ => 0))), (qc, .inl (cI, 4, .inl (fun _ => 0)))]
set_option maxRecDepth 100000 in
set_option maxHeartbeats 4000000 in
theorem c_X4_init (l : Launch) (D : va_G) (cI cC : ClassId) (h0 sz : Nat) : Met l yX4_init (Cond.code yX4_init cX4_init 1 none :: mvWS) ({ frames := 2, cells := 31, slots := 3131, locals := 60 }) (va_Pc [.ref h0] (fun U => U.heap.size = sz ∧ va_P D vwCl [(h0, .inr (4, fsX4))] U.heap ∧ va_K D vwCl (mvTy cI cC) U ∧ va_D (fun _ => True) [(h0, .inr (4, fsX4))] ∧ ∀ w ∈ csNW, va_Nw w U)) (va_Qv (fun _ : Unit => True) (fun _ t => ∃ qL a1 qT t1 t2 t3 t4 t5 t6 t7 t8 qW w1 w2 w3 w4 w5 w6 w7 w8 w9 w10 w11 w12 w13 w14 w15 qS s1 s2 qc : Nat, va_P D vwCl (wX4 cI cC h0 qL a1 qT t1 t2 t3 t4 t5 t6 t7 t8 qW w1 w2 w3 w4 w5 w6 w7 w8 w9 w10 w11 w12 w13 w14 w15 qS s1 s2 qc) t.heap ∧ va_K D vwCl (mvTy cI cC) t ∧ va_D (va_A [(h0, .inr (4, fsX4))] sz) (wX4 cI cC h0 qL a1 qT t1 t2 t3 t4 t5 t6 t7 t8 qW w1 w2 w3 w4 w5 w6 w7 w8 w9 w10 w11 w12 w13 w14 w15 qS s1 s2 qc)) (va_A [(h0, .inr (4, fsX4))] sz)) 31 3131 (va_A [(h0, .inr (4, fsX4))] sz) := by
  refine Met.ofW (cc := cX4_init) (maxL := 1) (ret := none) (by decide) rfl ?_
  intro p e s m args below meth c s₁ B hml hv
  obtain ⟨rfl, hsz, hP, hK, hD0, hNw⟩ := hv
  have hx := B.exec
  have hb := B.bytes
  have hr := B.returns
  have hts0 := atoms_spec (ws := Cond.code yX4_init cX4_init 1 none :: mvWS) B.pre
  have hts : ∀ w ∈ mvWS, w.before ([Value.ref h0] : List Value).toArray s = true := fun w hw => hts0 w (List.mem_cons_of_mem _ hw)
  have hown : s.vm.findClass RX4 = some m.cls := findClass_of_methodNamed B.named
  have hlocks := B.notSynchronized
  have hin : meth.name = "<init>" := (name_of_methodNamed B.named B.method).1
  subst hsz
  have hD := hD0.self (sz := s.heap.size)
  generalize hAe : va_A [(h0, .inr (4, fsX4))] s.heap.size = A at hD ⊢
  have hA : ∀ q : Nat, s.heap.size ≤ q → A q := fun q h => by rw [← hAe]; exact Or.inr h
  have hS : va_S A s.heap s.heap [] := va_S.rf
  have hl := lv_entry ([.ref h0]) (n := 1) (Nat.le_of_ble_eq_true rfl)
  rw [lg_entry_eq]
  generalize (lg_sl ([.ref h0]) ++ List.replicate (1 - (lg_sl ([.ref h0])).length) Slot.unset).toArray = ls at hl ⊢
  have hl : lv_has ls 1 [(0, .ref h0)] := hl
  refine lv_aload_n hx hb dX4_init_0 rfl (lv_at hl 0 rfl) ?_
  refine W.objInit hx hb hown (hts (.methodLink RX4 1 objectInit) (mvWS_at 99 (by decide +kernel) (by decide +kernel))) (hts (.instanceMethod objectInit) (mvWS_at 100 (by decide +kernel) (by decide +kernel))) (hts (.code objectInit ⟨#[0xb1]⟩ 1 none) (mvWS_at 101 (by decide +kernel) (by decide +kernel))) rfl (by rw [hml]; exact hl.1) rfl dX4_init_1 (Nat.le_of_ble_eq_true rfl) (Nat.le_of_ble_eq_true rfl) ?_
  refine W.eq (g2 := F0 m 4 ls []) rfl ?_
  have hP : va_P D vwCl [(h0, .inr (4, [.null, .null, .null, .null, .null, .int 0, .int 0, .int 0, .int 0, .int 0]))] s.heap := hP
  have hD : va_D A [(h0, .inr (4, [.null, .null, .null, .null, .null, .int 0, .int 0, .int 0, .int 0, .int 0]))] := hD
  refine lv_aload_n hx hb dX4_init_4 rfl (lv_at hl 0 rfl) ?_
  refine va_new (ci := 0) (fs := fsX0) (C := RX0) (T := TX0) (N := 3) hx hb hts mvin0 tyX0 tyX0_ok hown (hts (.classLink RX4 7 RX0) (mvWS_at 102 (by decide +kernel) (by decide +kernel))) (hts (.instantiable RX0 3) (mvWS_at 103 (by decide +kernel) (by decide +kernel))) (hts (.initialized RX0) (mvWS_at 86 (by decide +kernel) (by decide +kernel))) hK hP hD hS hA rfl dfX0 (Nat.le_of_ble_eq_true rfl) (Nat.le_of_ble_eq_true rfl) dX4_init_5 (fun qL H hP hD hS => ?_)
  have hP : va_P D vwCl [(h0, .inr (4, [.null, .null, .null, .null, .null, .int 0, .int 0, .int 0, .int 0, .int 0])), (qL, .inr (0, fsX0))] H := hP
  have hD : va_D A [(h0, .inr (4, [.null, .null, .null, .null, .null, .int 0, .int 0, .int 0, .int 0, .int 0])), (qL, .inr (0, fsX0))] := hD
  refine lv_dup hx hb dX4_init_8 rfl ?_
  have hPc := hP.sub (ws' := [(qL, .inr (0, fsX0))]) [1] rfl
  have hDc := hD.sub (ws' := [(qL, .inr (0, fsX0))]) [1] (by decide) rfl
  have hFc := va_free (wc := [(qL, .inr (0, fsX0))]) hD hS hA [1] rfl
  refine va_callv (va_runIN (As := []) (rest := [.ref qL, .ref h0]) ⟨hx, hb, hml, hown, hts⟩ (c_X0_init l D cI cC qL H.size) ⟨va_cnB (own := RX4) (host := "ReactWires") (index := 9) 0 hts gdX0 rfl rfl rfl (hNw _ (List.mem_of_getElem? (i := 0) rfl)) (hts (.initialized RX0) (mvWS_at 86 (by decide +kernel) (by decide +kernel))) (by decide +kernel) ⟨Nat.le_of_ble_eq_true rfl, Nat.le_of_ble_eq_true rfl⟩, rfl, hts (.instanceMethod yX0_init) (mvWS_at 105 (by decide +kernel) (by decide +kernel))⟩ ⟨fun a U g mk q => by obtain ⟨q0, q1, qP, qK, qD⟩ := q; exact ⟨q0, q1, qP, va_K.moved (u := U) (U := U.calling g mk a) (Vm.Alike.refl U.vm) qK, qD⟩, fun U hU hW => ⟨rfl, by rw [hU], by rw [hU]; exact hPc, va_K.moved hW.alike hK, hDc.weaken (fun _ _ _ _ => trivial)⟩⟩ rfl rfl hl.1 rfl (lv_room (Nat.le_of_ble_eq_true rfl)) dX4_init_9 ⟨Nat.le_of_ble_eq_true rfl, Nat.le_of_ble_eq_true rfl⟩) hS (fun q _ h => hFc q h) hFc (fun u t H1 locs ht hvm hw hB hz1 hk1 hS => ?_)
  obtain ⟨a1, hP1, hK1, hD1⟩ := hB
  rw [ht] at hP1
  obtain ⟨hP, hD⟩ := va_join (wr := [(h0, .inr (4, [.null, .null, .null, .null, .null, .int 0, .int 0, .int 0, .int 0, .int 0]))]) (w1 := wX0 cI cC qL a1) hP hD [1] [0] rfl rfl (by decide) (by decide) hk1 hFc hP1 hD1
  generalize H1 = H at hP hS ⊢
  have hP : va_P D vwCl [(h0, .inr (4, [.null, .null, .null, .null, .null, .int 0, .int 0, .int 0, .int 0, .int 0])), (qL, .inr (0, [.ref a1, .int 0, .int 0])), (a1, .inl (cC, 60, .inl (fun _ => 0)))] H := hP
  have hD : va_D A [(h0, .inr (4, [.null, .null, .null, .null, .null, .int 0, .int 0, .int 0, .int 0, .int 0])), (qL, .inr (0, [.ref a1, .int 0, .int 0])), (a1, .inl (cC, 60, .inl (fun _ => 0)))] := hD
  refine va_putF (D := D) (ci := 4) (v := .ref qL) (ty := .object "ReactWires$Line") (C := RX4) (T := TX4) (N := 10) (own := RX4) (ref := RX4) hx hb hts mvin4 tyX4 tyX4_ok nmX4 hown hK hP hD hS 0 rfl rfl 0 (by decide) (hts _ (mvWS_at 254 (by decide +kernel) (by decide +kernel))) (fun _ h9 => h9) rfl hin rfl (by decide +kernel) rfl rfl (Nat.le_of_ble_eq_true rfl) dX4_init_12 (fun H locs hP hD hS => ?_)
  have hP : va_P D vwCl [(h0, .inr (4, [.ref qL, .null, .null, .null, .null, .int 0, .int 0, .int 0, .int 0, .int 0])), (qL, .inr (0, [.ref a1, .int 0, .int 0])), (a1, .inl (cC, 60, .inl (fun _ => 0)))] H := hP
  have hD : va_D A [(h0, .inr (4, [.ref qL, .null, .null, .null, .null, .int 0, .int 0, .int 0, .int 0, .int 0])), (qL, .inr (0, [.ref a1, .int 0, .int 0])), (a1, .inl (cC, 60, .inl (fun _ => 0)))] := hD
  refine lv_aload_n hx hb dX4_init_15 rfl (lv_at hl 0 rfl) ?_
  refine va_new (ci := 2) (fs := fsX2) (C := RX2) (T := TX2) (N := 9) hx hb hts mvin2 tyX2 tyX2_ok hown (hts (.classLink RX4 16 RX2) (mvWS_at 119 (by decide +kernel) (by decide +kernel))) (hts (.instantiable RX2 9) (mvWS_at 120 (by decide +kernel) (by decide +kernel))) (hts (.initialized RX2) (mvWS_at 87 (by decide +kernel) (by decide +kernel))) hK hP hD hS hA rfl dfX2 (Nat.le_of_ble_eq_true rfl) (Nat.le_of_ble_eq_true rfl) dX4_init_16 (fun qT H hP hD hS => ?_)
  have hP : va_P D vwCl [(h0, .inr (4, [.ref qL, .null, .null, .null, .null, .int 0, .int 0, .int 0, .int 0, .int 0])), (qL, .inr (0, [.ref a1, .int 0, .int 0])), (a1, .inl (cC, 60, .inl (fun _ => 0))), (qT, .inr (2, fsX2))] H := hP
  have hD : va_D A [(h0, .inr (4, [.ref qL, .null, .null, .null, .null, .int 0, .int 0, .int 0, .int 0, .int 0])), (qL, .inr (0, [.ref a1, .int 0, .int 0])), (a1, .inl (cC, 60, .inl (fun _ => 0))), (qT, .inr (2, fsX2))] := hD
  refine lv_dup hx hb dX4_init_19 rfl ?_
  have hPc := hP.sub (ws' := [(qT, .inr (2, fsX2))]) [3] rfl
  have hDc := hD.sub (ws' := [(qT, .inr (2, fsX2))]) [3] (by decide) rfl
  have hFc := va_free (wc := [(qT, .inr (2, fsX2))]) hD hS hA [3] rfl
  refine va_callv (va_runIN (As := []) (rest := [.ref qT, .ref h0]) ⟨hx, hb, hml, hown, hts⟩ (c_X2_init l D cI cC qT H.size) ⟨va_cnB (own := RX4) (host := "ReactWires") (index := 18) 0 hts gdX2 rfl rfl rfl (hNw _ (List.mem_of_getElem? (i := 1) rfl)) (hts (.initialized RX2) (mvWS_at 87 (by decide +kernel) (by decide +kernel))) (by decide +kernel) ⟨Nat.le_of_ble_eq_true rfl, Nat.le_of_ble_eq_true rfl⟩, rfl, hts (.instanceMethod yX2_init) (mvWS_at 122 (by decide +kernel) (by decide +kernel))⟩ ⟨fun a U g mk q => by obtain ⟨q0, q1, qP, qK, qD⟩ := q; exact ⟨q0, q1, qP, va_K.moved (u := U) (U := U.calling g mk a) (Vm.Alike.refl U.vm) qK, qD⟩, fun U hU hW => ⟨rfl, by rw [hU], by rw [hU]; exact hPc, va_K.moved hW.alike hK, hDc.weaken (fun _ _ _ _ => trivial)⟩⟩ rfl rfl hl.1 rfl (lv_room (Nat.le_of_ble_eq_true rfl)) dX4_init_20 ⟨Nat.le_of_ble_eq_true rfl, Nat.le_of_ble_eq_true rfl⟩) hS (fun q _ h => hFc q h) hFc (fun u t H1 locs ht hvm hw hB hz1 hk1 hS => ?_)
  obtain ⟨t1, t2, t3, t4, t5, t6, t7, t8, hP1, hK1, hD1⟩ := hB
  rw [ht] at hP1
  obtain ⟨hP, hD⟩ := va_join (wr := [(h0, .inr (4, [.ref qL, .null, .null, .null, .null, .int 0, .int 0, .int 0, .int 0, .int 0])), (qL, .inr (0, [.ref a1, .int 0, .int 0])), (a1, .inl (cC, 60, .inl (fun _ => 0)))]) (w1 := wX2 cI cC qT t1 t2 t3 t4 t5 t6 t7 t8) hP hD [3] [0, 1, 2] rfl rfl (by decide) (by decide) hk1 hFc hP1 hD1
  generalize H1 = H at hP hS ⊢
  have hP : va_P D vwCl [(h0, .inr (4, [.ref qL, .null, .null, .null, .null, .int 0, .int 0, .int 0, .int 0, .int 0])), (qL, .inr (0, [.ref a1, .int 0, .int 0])), (a1, .inl (cC, 60, .inl (fun _ => 0))), (qT, .inr (2, [.ref t1, .ref t2, .ref t3, .ref t4, .ref t5, .ref t6, .ref t7, .ref t8, .int 0])), (t1, .inl (cI, 60, .inl (fun _ => 0))), (t2, .inl (cI, 60, .inl (fun _ => 0))), (t3, .inl (cI, 60, .inl (fun _ => 0))), (t4, .inl (cI, 60, .inl (fun _ => 0))), (t5, .inl (cI, 60, .inl (fun _ => 0))), (t6, .inl (cI, 60, .inl (fun _ => 0))), (t7, .inl (cI, 60, .inl (fun _ => 0))), (t8, .inl (cI, 60, .inl (fun _ => 0)))] H := hP
  have hD : va_D A [(h0, .inr (4, [.ref qL, .null, .null, .null, .null, .int 0, .int 0, .int 0, .int 0, .int 0])), (qL, .inr (0, [.ref a1, .int 0, .int 0])), (a1, .inl (cC, 60, .inl (fun _ => 0))), (qT, .inr (2, [.ref t1, .ref t2, .ref t3, .ref t4, .ref t5, .ref t6, .ref t7, .ref t8, .int 0])), (t1, .inl (cI, 60, .inl (fun _ => 0))), (t2, .inl (cI, 60, .inl (fun _ => 0))), (t3, .inl (cI, 60, .inl (fun _ => 0))), (t4, .inl (cI, 60, .inl (fun _ => 0))), (t5, .inl (cI, 60, .inl (fun _ => 0))), (t6, .inl (cI, 60, .inl (fun _ => 0))), (t7, .inl (cI, 60, .inl (fun _ => 0))), (t8, .inl (cI, 60, .inl (fun _ => 0)))] := hD
  refine va_putF (D := D) (ci := 4) (v := .ref qT) (ty := .object "ReactWires$Tree") (C := RX4) (T := TX4) (N := 10) (own := RX4) (ref := RX4) hx hb hts mvin4 tyX4 tyX4_ok nmX4 hown hK hP hD hS 0 rfl rfl 1 (by decide) (hts _ (mvWS_at 255 (by decide +kernel) (by decide +kernel))) (fun _ h9 => h9) rfl hin rfl (by decide +kernel) rfl rfl (Nat.le_of_ble_eq_true rfl) dX4_init_23 (fun H locs hP hD hS => ?_)
  have hP : va_P D vwCl [(h0, .inr (4, [.ref qL, .ref qT, .null, .null, .null, .int 0, .int 0, .int 0, .int 0, .int 0])), (qL, .inr (0, [.ref a1, .int 0, .int 0])), (a1, .inl (cC, 60, .inl (fun _ => 0))), (qT, .inr (2, [.ref t1, .ref t2, .ref t3, .ref t4, .ref t5, .ref t6, .ref t7, .ref t8, .int 0])), (t1, .inl (cI, 60, .inl (fun _ => 0))), (t2, .inl (cI, 60, .inl (fun _ => 0))), (t3, .inl (cI, 60, .inl (fun _ => 0))), (t4, .inl (cI, 60, .inl (fun _ => 0))), (t5, .inl (cI, 60, .inl (fun _ => 0))), (t6, .inl (cI, 60, .inl (fun _ => 0))), (t7, .inl (cI, 60, .inl (fun _ => 0))), (t8, .inl (cI, 60, .inl (fun _ => 0)))] H := hP
  have hD : va_D A [(h0, .inr (4, [.ref qL, .ref qT, .null, .null, .null, .int 0, .int 0, .int 0, .int 0, .int 0])), (qL, .inr (0, [.ref a1, .int 0, .int 0])), (a1, .inl (cC, 60, .inl (fun _ => 0))), (qT, .inr (2, [.ref t1, .ref t2, .ref t3, .ref t4, .ref t5, .ref t6, .ref t7, .ref t8, .int 0])), (t1, .inl (cI, 60, .inl (fun _ => 0))), (t2, .inl (cI, 60, .inl (fun _ => 0))), (t3, .inl (cI, 60, .inl (fun _ => 0))), (t4, .inl (cI, 60, .inl (fun _ => 0))), (t5, .inl (cI, 60, .inl (fun _ => 0))), (t6, .inl (cI, 60, .inl (fun _ => 0))), (t7, .inl (cI, 60, .inl (fun _ => 0))), (t8, .inl (cI, 60, .inl (fun _ => 0)))] := hD
  refine lv_aload_n hx hb dX4_init_26 rfl (lv_at hl 0 rfl) ?_
  refine va_new (ci := 3) (fs := fsX3) (C := RX3) (T := TX3) (N := 20) hx hb hts mvin3 tyX3 tyX3_ok hown (hts (.classLink RX4 23 RX3) (mvWS_at 159 (by decide +kernel) (by decide +kernel))) (hts (.instantiable RX3 20) (mvWS_at 160 (by decide +kernel) (by decide +kernel))) (hts (.initialized RX3) (mvWS_at 88 (by decide +kernel) (by decide +kernel))) hK hP hD hS hA rfl dfX3 (Nat.le_of_ble_eq_true rfl) (Nat.le_of_ble_eq_true rfl) dX4_init_27 (fun qW H hP hD hS => ?_)
  have hP : va_P D vwCl [(h0, .inr (4, [.ref qL, .ref qT, .null, .null, .null, .int 0, .int 0, .int 0, .int 0, .int 0])), (qL, .inr (0, [.ref a1, .int 0, .int 0])), (a1, .inl (cC, 60, .inl (fun _ => 0))), (qT, .inr (2, [.ref t1, .ref t2, .ref t3, .ref t4, .ref t5, .ref t6, .ref t7, .ref t8, .int 0])), (t1, .inl (cI, 60, .inl (fun _ => 0))), (t2, .inl (cI, 60, .inl (fun _ => 0))), (t3, .inl (cI, 60, .inl (fun _ => 0))), (t4, .inl (cI, 60, .inl (fun _ => 0))), (t5, .inl (cI, 60, .inl (fun _ => 0))), (t6, .inl (cI, 60, .inl (fun _ => 0))), (t7, .inl (cI, 60, .inl (fun _ => 0))), (t8, .inl (cI, 60, .inl (fun _ => 0))), (qW, .inr (3, fsX3))] H := hP
  have hD : va_D A [(h0, .inr (4, [.ref qL, .ref qT, .null, .null, .null, .int 0, .int 0, .int 0, .int 0, .int 0])), (qL, .inr (0, [.ref a1, .int 0, .int 0])), (a1, .inl (cC, 60, .inl (fun _ => 0))), (qT, .inr (2, [.ref t1, .ref t2, .ref t3, .ref t4, .ref t5, .ref t6, .ref t7, .ref t8, .int 0])), (t1, .inl (cI, 60, .inl (fun _ => 0))), (t2, .inl (cI, 60, .inl (fun _ => 0))), (t3, .inl (cI, 60, .inl (fun _ => 0))), (t4, .inl (cI, 60, .inl (fun _ => 0))), (t5, .inl (cI, 60, .inl (fun _ => 0))), (t6, .inl (cI, 60, .inl (fun _ => 0))), (t7, .inl (cI, 60, .inl (fun _ => 0))), (t8, .inl (cI, 60, .inl (fun _ => 0))), (qW, .inr (3, fsX3))] := hD
  refine lv_dup hx hb dX4_init_30 rfl ?_
  have hPc := hP.sub (ws' := [(qW, .inr (3, fsX3))]) [12] rfl
  have hDc := hD.sub (ws' := [(qW, .inr (3, fsX3))]) [12] (by decide) rfl
  have hFc := va_free (wc := [(qW, .inr (3, fsX3))]) hD hS hA [12] rfl
  refine va_callv (va_runIN (As := []) (rest := [.ref qW, .ref h0]) ⟨hx, hb, hml, hown, hts⟩ (c_X3_init l D cI cC qW H.size) ⟨va_cnB (own := RX4) (host := "ReactWires") (index := 25) 0 hts gdX3 rfl rfl rfl (hNw _ (List.mem_of_getElem? (i := 2) rfl)) (hts (.initialized RX3) (mvWS_at 88 (by decide +kernel) (by decide +kernel))) (by decide +kernel) ⟨Nat.le_of_ble_eq_true rfl, Nat.le_of_ble_eq_true rfl⟩, rfl, hts (.instanceMethod yX3_init) (mvWS_at 162 (by decide +kernel) (by decide +kernel))⟩ ⟨fun a U g mk q => by obtain ⟨q0, q1, qP, qK, qD⟩ := q; exact ⟨q0, q1, qP, va_K.moved (u := U) (U := U.calling g mk a) (Vm.Alike.refl U.vm) qK, qD⟩, fun U hU hW => ⟨rfl, by rw [hU], by rw [hU]; exact hPc, va_K.moved hW.alike hK, hDc.weaken (fun _ _ _ _ => trivial)⟩⟩ rfl rfl hl.1 rfl (lv_room (Nat.le_of_ble_eq_true rfl)) dX4_init_31 ⟨Nat.le_of_ble_eq_true rfl, Nat.le_of_ble_eq_true rfl⟩) hS (fun q _ h => hFc q h) hFc (fun u t H1 locs ht hvm hw hB hz1 hk1 hS => ?_)
  obtain ⟨w1, w2, w3, w4, w5, w6, w7, w8, w9, w10, w11, w12, w13, w14, w15, hP1, hK1, hD1⟩ := hB
  rw [ht] at hP1
  obtain ⟨hP, hD⟩ := va_join (wr := [(h0, .inr (4, [.ref qL, .ref qT, .null, .null, .null, .int 0, .int 0, .int 0, .int 0, .int 0])), (qL, .inr (0, [.ref a1, .int 0, .int 0])), (a1, .inl (cC, 60, .inl (fun _ => 0))), (qT, .inr (2, [.ref t1, .ref t2, .ref t3, .ref t4, .ref t5, .ref t6, .ref t7, .ref t8, .int 0])), (t1, .inl (cI, 60, .inl (fun _ => 0))), (t2, .inl (cI, 60, .inl (fun _ => 0))), (t3, .inl (cI, 60, .inl (fun _ => 0))), (t4, .inl (cI, 60, .inl (fun _ => 0))), (t5, .inl (cI, 60, .inl (fun _ => 0))), (t6, .inl (cI, 60, .inl (fun _ => 0))), (t7, .inl (cI, 60, .inl (fun _ => 0))), (t8, .inl (cI, 60, .inl (fun _ => 0)))]) (w1 := wX3 cI cC qW w1 w2 w3 w4 w5 w6 w7 w8 w9 w10 w11 w12 w13 w14 w15) hP hD [12] [0, 1, 2, 3, 4, 5, 6, 7, 8, 9, 10, 11] rfl rfl (by decide) (by decide) hk1 hFc hP1 hD1
  generalize H1 = H at hP hS ⊢
  have hP : va_P D vwCl [(h0, .inr (4, [.ref qL, .ref qT, .null, .null, .null, .int 0, .int 0, .int 0, .int 0, .int 0])), (qL, .inr (0, [.ref a1, .int 0, .int 0])), (a1, .inl (cC, 60, .inl (fun _ => 0))), (qT, .inr (2, [.ref t1, .ref t2, .ref t3, .ref t4, .ref t5, .ref t6, .ref t7, .ref t8, .int 0])), (t1, .inl (cI, 60, .inl (fun _ => 0))), (t2, .inl (cI, 60, .inl (fun _ => 0))), (t3, .inl (cI, 60, .inl (fun _ => 0))), (t4, .inl (cI, 60, .inl (fun _ => 0))), (t5, .inl (cI, 60, .inl (fun _ => 0))), (t6, .inl (cI, 60, .inl (fun _ => 0))), (t7, .inl (cI, 60, .inl (fun _ => 0))), (t8, .inl (cI, 60, .inl (fun _ => 0))), (qW, .inr (3, [.ref w1, .ref w2, .ref w3, .ref w4, .ref w5, .ref w6, .ref w7, .int 0, .int 0, .int 0, .int 0, .ref w8, .ref w9, .ref w10, .ref w11, .ref w12, .ref w13, .ref w14, .ref w15, .int 0])), (w1, .inl (cI, 120, .inl (fun _ => 0))), (w2, .inl (cI, 120, .inl (fun _ => 0))), (w3, .inl (cI, 120, .inl (fun _ => 0))), (w4, .inl (cI, 120, .inl (fun _ => 0))), (w5, .inl (cI, 120, .inl (fun _ => 0))), (w6, .inl (cI, 240, .inl (fun _ => 0))), (w7, .inl (cI, 8, .inl (fun _ => 0))), (w8, .inl (cI, 120, .inl (fun _ => 0))), (w9, .inl (cI, 120, .inl (fun _ => 0))), (w10, .inl (cI, 120, .inl (fun _ => 0))), (w11, .inl (cI, 120, .inl (fun _ => 0))), (w12, .inl (cI, 720, .inl (fun _ => 0))), (w13, .inl (cI, 120, .inl (fun _ => 0))), (w14, .inl (cI, 128, .inl (fun _ => 0))), (w15, .inl (cI, 128, .inl (fun _ => 0)))] H := hP
  have hD : va_D A [(h0, .inr (4, [.ref qL, .ref qT, .null, .null, .null, .int 0, .int 0, .int 0, .int 0, .int 0])), (qL, .inr (0, [.ref a1, .int 0, .int 0])), (a1, .inl (cC, 60, .inl (fun _ => 0))), (qT, .inr (2, [.ref t1, .ref t2, .ref t3, .ref t4, .ref t5, .ref t6, .ref t7, .ref t8, .int 0])), (t1, .inl (cI, 60, .inl (fun _ => 0))), (t2, .inl (cI, 60, .inl (fun _ => 0))), (t3, .inl (cI, 60, .inl (fun _ => 0))), (t4, .inl (cI, 60, .inl (fun _ => 0))), (t5, .inl (cI, 60, .inl (fun _ => 0))), (t6, .inl (cI, 60, .inl (fun _ => 0))), (t7, .inl (cI, 60, .inl (fun _ => 0))), (t8, .inl (cI, 60, .inl (fun _ => 0))), (qW, .inr (3, [.ref w1, .ref w2, .ref w3, .ref w4, .ref w5, .ref w6, .ref w7, .int 0, .int 0, .int 0, .int 0, .ref w8, .ref w9, .ref w10, .ref w11, .ref w12, .ref w13, .ref w14, .ref w15, .int 0])), (w1, .inl (cI, 120, .inl (fun _ => 0))), (w2, .inl (cI, 120, .inl (fun _ => 0))), (w3, .inl (cI, 120, .inl (fun _ => 0))), (w4, .inl (cI, 120, .inl (fun _ => 0))), (w5, .inl (cI, 120, .inl (fun _ => 0))), (w6, .inl (cI, 240, .inl (fun _ => 0))), (w7, .inl (cI, 8, .inl (fun _ => 0))), (w8, .inl (cI, 120, .inl (fun _ => 0))), (w9, .inl (cI, 120, .inl (fun _ => 0))), (w10, .inl (cI, 120, .inl (fun _ => 0))), (w11, .inl (cI, 120, .inl (fun _ => 0))), (w12, .inl (cI, 720, .inl (fun _ => 0))), (w13, .inl (cI, 120, .inl (fun _ => 0))), (w14, .inl (cI, 128, .inl (fun _ => 0))), (w15, .inl (cI, 128, .inl (fun _ => 0)))] := hD
  refine va_putF (D := D) (ci := 4) (v := .ref qW) (ty := .object "ReactWires$Wires") (C := RX4) (T := TX4) (N := 10) (own := RX4) (ref := RX4) hx hb hts mvin4 tyX4 tyX4_ok nmX4 hown hK hP hD hS 0 rfl rfl 2 (by decide) (hts _ (mvWS_at 256 (by decide +kernel) (by decide +kernel))) (fun _ h9 => h9) rfl hin rfl (by decide +kernel) rfl rfl (Nat.le_of_ble_eq_true rfl) dX4_init_34 (fun H locs hP hD hS => ?_)
  have hP : va_P D vwCl [(h0, .inr (4, [.ref qL, .ref qT, .ref qW, .null, .null, .int 0, .int 0, .int 0, .int 0, .int 0])), (qL, .inr (0, [.ref a1, .int 0, .int 0])), (a1, .inl (cC, 60, .inl (fun _ => 0))), (qT, .inr (2, [.ref t1, .ref t2, .ref t3, .ref t4, .ref t5, .ref t6, .ref t7, .ref t8, .int 0])), (t1, .inl (cI, 60, .inl (fun _ => 0))), (t2, .inl (cI, 60, .inl (fun _ => 0))), (t3, .inl (cI, 60, .inl (fun _ => 0))), (t4, .inl (cI, 60, .inl (fun _ => 0))), (t5, .inl (cI, 60, .inl (fun _ => 0))), (t6, .inl (cI, 60, .inl (fun _ => 0))), (t7, .inl (cI, 60, .inl (fun _ => 0))), (t8, .inl (cI, 60, .inl (fun _ => 0))), (qW, .inr (3, [.ref w1, .ref w2, .ref w3, .ref w4, .ref w5, .ref w6, .ref w7, .int 0, .int 0, .int 0, .int 0, .ref w8, .ref w9, .ref w10, .ref w11, .ref w12, .ref w13, .ref w14, .ref w15, .int 0])), (w1, .inl (cI, 120, .inl (fun _ => 0))), (w2, .inl (cI, 120, .inl (fun _ => 0))), (w3, .inl (cI, 120, .inl (fun _ => 0))), (w4, .inl (cI, 120, .inl (fun _ => 0))), (w5, .inl (cI, 120, .inl (fun _ => 0))), (w6, .inl (cI, 240, .inl (fun _ => 0))), (w7, .inl (cI, 8, .inl (fun _ => 0))), (w8, .inl (cI, 120, .inl (fun _ => 0))), (w9, .inl (cI, 120, .inl (fun _ => 0))), (w10, .inl (cI, 120, .inl (fun _ => 0))), (w11, .inl (cI, 120, .inl (fun _ => 0))), (w12, .inl (cI, 720, .inl (fun _ => 0))), (w13, .inl (cI, 120, .inl (fun _ => 0))), (w14, .inl (cI, 128, .inl (fun _ => 0))), (w15, .inl (cI, 128, .inl (fun _ => 0)))] H := hP
  have hD : va_D A [(h0, .inr (4, [.ref qL, .ref qT, .ref qW, .null, .null, .int 0, .int 0, .int 0, .int 0, .int 0])), (qL, .inr (0, [.ref a1, .int 0, .int 0])), (a1, .inl (cC, 60, .inl (fun _ => 0))), (qT, .inr (2, [.ref t1, .ref t2, .ref t3, .ref t4, .ref t5, .ref t6, .ref t7, .ref t8, .int 0])), (t1, .inl (cI, 60, .inl (fun _ => 0))), (t2, .inl (cI, 60, .inl (fun _ => 0))), (t3, .inl (cI, 60, .inl (fun _ => 0))), (t4, .inl (cI, 60, .inl (fun _ => 0))), (t5, .inl (cI, 60, .inl (fun _ => 0))), (t6, .inl (cI, 60, .inl (fun _ => 0))), (t7, .inl (cI, 60, .inl (fun _ => 0))), (t8, .inl (cI, 60, .inl (fun _ => 0))), (qW, .inr (3, [.ref w1, .ref w2, .ref w3, .ref w4, .ref w5, .ref w6, .ref w7, .int 0, .int 0, .int 0, .int 0, .ref w8, .ref w9, .ref w10, .ref w11, .ref w12, .ref w13, .ref w14, .ref w15, .int 0])), (w1, .inl (cI, 120, .inl (fun _ => 0))), (w2, .inl (cI, 120, .inl (fun _ => 0))), (w3, .inl (cI, 120, .inl (fun _ => 0))), (w4, .inl (cI, 120, .inl (fun _ => 0))), (w5, .inl (cI, 120, .inl (fun _ => 0))), (w6, .inl (cI, 240, .inl (fun _ => 0))), (w7, .inl (cI, 8, .inl (fun _ => 0))), (w8, .inl (cI, 120, .inl (fun _ => 0))), (w9, .inl (cI, 120, .inl (fun _ => 0))), (w10, .inl (cI, 120, .inl (fun _ => 0))), (w11, .inl (cI, 120, .inl (fun _ => 0))), (w12, .inl (cI, 720, .inl (fun _ => 0))), (w13, .inl (cI, 120, .inl (fun _ => 0))), (w14, .inl (cI, 128, .inl (fun _ => 0))), (w15, .inl (cI, 128, .inl (fun _ => 0)))] := hD
  refine lv_aload_n hx hb dX4_init_37 rfl (lv_at hl 0 rfl) ?_
  refine va_new (ci := 1) (fs := fsX1) (C := RX1) (T := TX1) (N := 7) hx hb hts mvin1 tyX1 tyX1_ok hown (hts (.classLink RX4 30 RX1) (mvWS_at 226 (by decide +kernel) (by decide +kernel))) (hts (.instantiable RX1 7) (mvWS_at 227 (by decide +kernel) (by decide +kernel))) (hts (.initialized RX1) (mvWS_at 89 (by decide +kernel) (by decide +kernel))) hK hP hD hS hA rfl dfX1 (Nat.le_of_ble_eq_true rfl) (Nat.le_of_ble_eq_true rfl) dX4_init_38 (fun qS H hP hD hS => ?_)
  have hP : va_P D vwCl [(h0, .inr (4, [.ref qL, .ref qT, .ref qW, .null, .null, .int 0, .int 0, .int 0, .int 0, .int 0])), (qL, .inr (0, [.ref a1, .int 0, .int 0])), (a1, .inl (cC, 60, .inl (fun _ => 0))), (qT, .inr (2, [.ref t1, .ref t2, .ref t3, .ref t4, .ref t5, .ref t6, .ref t7, .ref t8, .int 0])), (t1, .inl (cI, 60, .inl (fun _ => 0))), (t2, .inl (cI, 60, .inl (fun _ => 0))), (t3, .inl (cI, 60, .inl (fun _ => 0))), (t4, .inl (cI, 60, .inl (fun _ => 0))), (t5, .inl (cI, 60, .inl (fun _ => 0))), (t6, .inl (cI, 60, .inl (fun _ => 0))), (t7, .inl (cI, 60, .inl (fun _ => 0))), (t8, .inl (cI, 60, .inl (fun _ => 0))), (qW, .inr (3, [.ref w1, .ref w2, .ref w3, .ref w4, .ref w5, .ref w6, .ref w7, .int 0, .int 0, .int 0, .int 0, .ref w8, .ref w9, .ref w10, .ref w11, .ref w12, .ref w13, .ref w14, .ref w15, .int 0])), (w1, .inl (cI, 120, .inl (fun _ => 0))), (w2, .inl (cI, 120, .inl (fun _ => 0))), (w3, .inl (cI, 120, .inl (fun _ => 0))), (w4, .inl (cI, 120, .inl (fun _ => 0))), (w5, .inl (cI, 120, .inl (fun _ => 0))), (w6, .inl (cI, 240, .inl (fun _ => 0))), (w7, .inl (cI, 8, .inl (fun _ => 0))), (w8, .inl (cI, 120, .inl (fun _ => 0))), (w9, .inl (cI, 120, .inl (fun _ => 0))), (w10, .inl (cI, 120, .inl (fun _ => 0))), (w11, .inl (cI, 120, .inl (fun _ => 0))), (w12, .inl (cI, 720, .inl (fun _ => 0))), (w13, .inl (cI, 120, .inl (fun _ => 0))), (w14, .inl (cI, 128, .inl (fun _ => 0))), (w15, .inl (cI, 128, .inl (fun _ => 0))), (qS, .inr (1, fsX1))] H := hP
  have hD : va_D A [(h0, .inr (4, [.ref qL, .ref qT, .ref qW, .null, .null, .int 0, .int 0, .int 0, .int 0, .int 0])), (qL, .inr (0, [.ref a1, .int 0, .int 0])), (a1, .inl (cC, 60, .inl (fun _ => 0))), (qT, .inr (2, [.ref t1, .ref t2, .ref t3, .ref t4, .ref t5, .ref t6, .ref t7, .ref t8, .int 0])), (t1, .inl (cI, 60, .inl (fun _ => 0))), (t2, .inl (cI, 60, .inl (fun _ => 0))), (t3, .inl (cI, 60, .inl (fun _ => 0))), (t4, .inl (cI, 60, .inl (fun _ => 0))), (t5, .inl (cI, 60, .inl (fun _ => 0))), (t6, .inl (cI, 60, .inl (fun _ => 0))), (t7, .inl (cI, 60, .inl (fun _ => 0))), (t8, .inl (cI, 60, .inl (fun _ => 0))), (qW, .inr (3, [.ref w1, .ref w2, .ref w3, .ref w4, .ref w5, .ref w6, .ref w7, .int 0, .int 0, .int 0, .int 0, .ref w8, .ref w9, .ref w10, .ref w11, .ref w12, .ref w13, .ref w14, .ref w15, .int 0])), (w1, .inl (cI, 120, .inl (fun _ => 0))), (w2, .inl (cI, 120, .inl (fun _ => 0))), (w3, .inl (cI, 120, .inl (fun _ => 0))), (w4, .inl (cI, 120, .inl (fun _ => 0))), (w5, .inl (cI, 120, .inl (fun _ => 0))), (w6, .inl (cI, 240, .inl (fun _ => 0))), (w7, .inl (cI, 8, .inl (fun _ => 0))), (w8, .inl (cI, 120, .inl (fun _ => 0))), (w9, .inl (cI, 120, .inl (fun _ => 0))), (w10, .inl (cI, 120, .inl (fun _ => 0))), (w11, .inl (cI, 120, .inl (fun _ => 0))), (w12, .inl (cI, 720, .inl (fun _ => 0))), (w13, .inl (cI, 120, .inl (fun _ => 0))), (w14, .inl (cI, 128, .inl (fun _ => 0))), (w15, .inl (cI, 128, .inl (fun _ => 0))), (qS, .inr (1, fsX1))] := hD
  refine lv_dup hx hb dX4_init_41 rfl ?_
  have hPc := hP.sub (ws' := [(qS, .inr (1, fsX1))]) [28] rfl
  have hDc := hD.sub (ws' := [(qS, .inr (1, fsX1))]) [28] (by decide) rfl
  have hFc := va_free (wc := [(qS, .inr (1, fsX1))]) hD hS hA [28] rfl
  refine va_callv (va_runIN (As := []) (rest := [.ref qS, .ref h0]) ⟨hx, hb, hml, hown, hts⟩ (c_X1_init l D cI cC qS H.size) ⟨va_cnB (own := RX4) (host := "ReactWires") (index := 32) 0 hts gdX1 rfl rfl rfl (hNw _ (List.mem_of_getElem? (i := 3) rfl)) (hts (.initialized RX1) (mvWS_at 89 (by decide +kernel) (by decide +kernel))) (by decide +kernel) ⟨Nat.le_of_ble_eq_true rfl, Nat.le_of_ble_eq_true rfl⟩, rfl, hts (.instanceMethod yX1_init) (mvWS_at 229 (by decide +kernel) (by decide +kernel))⟩ ⟨fun a U g mk q => by obtain ⟨q0, q1, qP, qK, qD⟩ := q; exact ⟨q0, q1, qP, va_K.moved (u := U) (U := U.calling g mk a) (Vm.Alike.refl U.vm) qK, qD⟩, fun U hU hW => ⟨rfl, by rw [hU], by rw [hU]; exact hPc, va_K.moved hW.alike hK, hDc.weaken (fun _ _ _ _ => trivial)⟩⟩ rfl rfl hl.1 rfl (lv_room (Nat.le_of_ble_eq_true rfl)) dX4_init_42 ⟨Nat.le_of_ble_eq_true rfl, Nat.le_of_ble_eq_true rfl⟩) hS (fun q _ h => hFc q h) hFc (fun u t H1 locs ht hvm hw hB hz1 hk1 hS => ?_)
  obtain ⟨s1, s2, hP1, hK1, hD1⟩ := hB
  rw [ht] at hP1
  obtain ⟨hP, hD⟩ := va_join (wr := [(h0, .inr (4, [.ref qL, .ref qT, .ref qW, .null, .null, .int 0, .int 0, .int 0, .int 0, .int 0])), (qL, .inr (0, [.ref a1, .int 0, .int 0])), (a1, .inl (cC, 60, .inl (fun _ => 0))), (qT, .inr (2, [.ref t1, .ref t2, .ref t3, .ref t4, .ref t5, .ref t6, .ref t7, .ref t8, .int 0])), (t1, .inl (cI, 60, .inl (fun _ => 0))), (t2, .inl (cI, 60, .inl (fun _ => 0))), (t3, .inl (cI, 60, .inl (fun _ => 0))), (t4, .inl (cI, 60, .inl (fun _ => 0))), (t5, .inl (cI, 60, .inl (fun _ => 0))), (t6, .inl (cI, 60, .inl (fun _ => 0))), (t7, .inl (cI, 60, .inl (fun _ => 0))), (t8, .inl (cI, 60, .inl (fun _ => 0))), (qW, .inr (3, [.ref w1, .ref w2, .ref w3, .ref w4, .ref w5, .ref w6, .ref w7, .int 0, .int 0, .int 0, .int 0, .ref w8, .ref w9, .ref w10, .ref w11, .ref w12, .ref w13, .ref w14, .ref w15, .int 0])), (w1, .inl (cI, 120, .inl (fun _ => 0))), (w2, .inl (cI, 120, .inl (fun _ => 0))), (w3, .inl (cI, 120, .inl (fun _ => 0))), (w4, .inl (cI, 120, .inl (fun _ => 0))), (w5, .inl (cI, 120, .inl (fun _ => 0))), (w6, .inl (cI, 240, .inl (fun _ => 0))), (w7, .inl (cI, 8, .inl (fun _ => 0))), (w8, .inl (cI, 120, .inl (fun _ => 0))), (w9, .inl (cI, 120, .inl (fun _ => 0))), (w10, .inl (cI, 120, .inl (fun _ => 0))), (w11, .inl (cI, 120, .inl (fun _ => 0))), (w12, .inl (cI, 720, .inl (fun _ => 0))), (w13, .inl (cI, 120, .inl (fun _ => 0))), (w14, .inl (cI, 128, .inl (fun _ => 0))), (w15, .inl (cI, 128, .inl (fun _ => 0)))]) (w1 := wX1 cI cC qS s1 s2) hP hD [28] [0, 1, 2, 3, 4, 5, 6, 7, 8, 9, 10, 11, 12, 13, 14, 15, 16, 17, 18, 19, 20, 21, 22, 23, 24, 25, 26, 27] rfl rfl (by decide) (by decide) hk1 hFc hP1 hD1
  generalize H1 = H at hP hS ⊢
  have hP : va_P D vwCl [(h0, .inr (4, [.ref qL, .ref qT, .ref qW, .null, .null, .int 0, .int 0, .int 0, .int 0, .int 0])), (qL, .inr (0, [.ref a1, .int 0, .int 0])), (a1, .inl (cC, 60, .inl (fun _ => 0))), (qT, .inr (2, [.ref t1, .ref t2, .ref t3, .ref t4, .ref t5, .ref t6, .ref t7, .ref t8, .int 0])), (t1, .inl (cI, 60, .inl (fun _ => 0))), (t2, .inl (cI, 60, .inl (fun _ => 0))), (t3, .inl (cI, 60, .inl (fun _ => 0))), (t4, .inl (cI, 60, .inl (fun _ => 0))), (t5, .inl (cI, 60, .inl (fun _ => 0))), (t6, .inl (cI, 60, .inl (fun _ => 0))), (t7, .inl (cI, 60, .inl (fun _ => 0))), (t8, .inl (cI, 60, .inl (fun _ => 0))), (qW, .inr (3, [.ref w1, .ref w2, .ref w3, .ref w4, .ref w5, .ref w6, .ref w7, .int 0, .int 0, .int 0, .int 0, .ref w8, .ref w9, .ref w10, .ref w11, .ref w12, .ref w13, .ref w14, .ref w15, .int 0])), (w1, .inl (cI, 120, .inl (fun _ => 0))), (w2, .inl (cI, 120, .inl (fun _ => 0))), (w3, .inl (cI, 120, .inl (fun _ => 0))), (w4, .inl (cI, 120, .inl (fun _ => 0))), (w5, .inl (cI, 120, .inl (fun _ => 0))), (w6, .inl (cI, 240, .inl (fun _ => 0))), (w7, .inl (cI, 8, .inl (fun _ => 0))), (w8, .inl (cI, 120, .inl (fun _ => 0))), (w9, .inl (cI, 120, .inl (fun _ => 0))), (w10, .inl (cI, 120, .inl (fun _ => 0))), (w11, .inl (cI, 120, .inl (fun _ => 0))), (w12, .inl (cI, 720, .inl (fun _ => 0))), (w13, .inl (cI, 120, .inl (fun _ => 0))), (w14, .inl (cI, 128, .inl (fun _ => 0))), (w15, .inl (cI, 128, .inl (fun _ => 0))), (qS, .inr (1, [.ref s1, .ref s2, .int 0, .int 0, .int 0, .int 0, .int 0])), (s1, .inl (cI, 120, .inl (fun _ => 0))), (s2, .inl (cI, 4, .inl (fun _ => 0)))] H := hP
  have hD : va_D A [(h0, .inr (4, [.ref qL, .ref qT, .ref qW, .null, .null, .int 0, .int 0, .int 0, .int 0, .int 0])), (qL, .inr (0, [.ref a1, .int 0, .int 0])), (a1, .inl (cC, 60, .inl (fun _ => 0))), (qT, .inr (2, [.ref t1, .ref t2, .ref t3, .ref t4, .ref t5, .ref t6, .ref t7, .ref t8, .int 0])), (t1, .inl (cI, 60, .inl (fun _ => 0))), (t2, .inl (cI, 60, .inl (fun _ => 0))), (t3, .inl (cI, 60, .inl (fun _ => 0))), (t4, .inl (cI, 60, .inl (fun _ => 0))), (t5, .inl (cI, 60, .inl (fun _ => 0))), (t6, .inl (cI, 60, .inl (fun _ => 0))), (t7, .inl (cI, 60, .inl (fun _ => 0))), (t8, .inl (cI, 60, .inl (fun _ => 0))), (qW, .inr (3, [.ref w1, .ref w2, .ref w3, .ref w4, .ref w5, .ref w6, .ref w7, .int 0, .int 0, .int 0, .int 0, .ref w8, .ref w9, .ref w10, .ref w11, .ref w12, .ref w13, .ref w14, .ref w15, .int 0])), (w1, .inl (cI, 120, .inl (fun _ => 0))), (w2, .inl (cI, 120, .inl (fun _ => 0))), (w3, .inl (cI, 120, .inl (fun _ => 0))), (w4, .inl (cI, 120, .inl (fun _ => 0))), (w5, .inl (cI, 120, .inl (fun _ => 0))), (w6, .inl (cI, 240, .inl (fun _ => 0))), (w7, .inl (cI, 8, .inl (fun _ => 0))), (w8, .inl (cI, 120, .inl (fun _ => 0))), (w9, .inl (cI, 120, .inl (fun _ => 0))), (w10, .inl (cI, 120, .inl (fun _ => 0))), (w11, .inl (cI, 120, .inl (fun _ => 0))), (w12, .inl (cI, 720, .inl (fun _ => 0))), (w13, .inl (cI, 120, .inl (fun _ => 0))), (w14, .inl (cI, 128, .inl (fun _ => 0))), (w15, .inl (cI, 128, .inl (fun _ => 0))), (qS, .inr (1, [.ref s1, .ref s2, .int 0, .int 0, .int 0, .int 0, .int 0])), (s1, .inl (cI, 120, .inl (fun _ => 0))), (s2, .inl (cI, 4, .inl (fun _ => 0)))] := hD
  refine va_putF (D := D) (ci := 4) (v := .ref qS) (ty := .object "ReactWires$Search") (C := RX4) (T := TX4) (N := 10) (own := RX4) (ref := RX4) hx hb hts mvin4 tyX4 tyX4_ok nmX4 hown hK hP hD hS 0 rfl rfl 3 (by decide) (hts _ (mvWS_at 257 (by decide +kernel) (by decide +kernel))) (fun _ h9 => h9) rfl hin rfl (by decide +kernel) rfl rfl (Nat.le_of_ble_eq_true rfl) dX4_init_45 (fun H locs hP hD hS => ?_)
  have hP : va_P D vwCl [(h0, .inr (4, [.ref qL, .ref qT, .ref qW, .ref qS, .null, .int 0, .int 0, .int 0, .int 0, .int 0])), (qL, .inr (0, [.ref a1, .int 0, .int 0])), (a1, .inl (cC, 60, .inl (fun _ => 0))), (qT, .inr (2, [.ref t1, .ref t2, .ref t3, .ref t4, .ref t5, .ref t6, .ref t7, .ref t8, .int 0])), (t1, .inl (cI, 60, .inl (fun _ => 0))), (t2, .inl (cI, 60, .inl (fun _ => 0))), (t3, .inl (cI, 60, .inl (fun _ => 0))), (t4, .inl (cI, 60, .inl (fun _ => 0))), (t5, .inl (cI, 60, .inl (fun _ => 0))), (t6, .inl (cI, 60, .inl (fun _ => 0))), (t7, .inl (cI, 60, .inl (fun _ => 0))), (t8, .inl (cI, 60, .inl (fun _ => 0))), (qW, .inr (3, [.ref w1, .ref w2, .ref w3, .ref w4, .ref w5, .ref w6, .ref w7, .int 0, .int 0, .int 0, .int 0, .ref w8, .ref w9, .ref w10, .ref w11, .ref w12, .ref w13, .ref w14, .ref w15, .int 0])), (w1, .inl (cI, 120, .inl (fun _ => 0))), (w2, .inl (cI, 120, .inl (fun _ => 0))), (w3, .inl (cI, 120, .inl (fun _ => 0))), (w4, .inl (cI, 120, .inl (fun _ => 0))), (w5, .inl (cI, 120, .inl (fun _ => 0))), (w6, .inl (cI, 240, .inl (fun _ => 0))), (w7, .inl (cI, 8, .inl (fun _ => 0))), (w8, .inl (cI, 120, .inl (fun _ => 0))), (w9, .inl (cI, 120, .inl (fun _ => 0))), (w10, .inl (cI, 120, .inl (fun _ => 0))), (w11, .inl (cI, 120, .inl (fun _ => 0))), (w12, .inl (cI, 720, .inl (fun _ => 0))), (w13, .inl (cI, 120, .inl (fun _ => 0))), (w14, .inl (cI, 128, .inl (fun _ => 0))), (w15, .inl (cI, 128, .inl (fun _ => 0))), (qS, .inr (1, [.ref s1, .ref s2, .int 0, .int 0, .int 0, .int 0, .int 0])), (s1, .inl (cI, 120, .inl (fun _ => 0))), (s2, .inl (cI, 4, .inl (fun _ => 0)))] H := hP
  have hD : va_D A [(h0, .inr (4, [.ref qL, .ref qT, .ref qW, .ref qS, .null, .int 0, .int 0, .int 0, .int 0, .int 0])), (qL, .inr (0, [.ref a1, .int 0, .int 0])), (a1, .inl (cC, 60, .inl (fun _ => 0))), (qT, .inr (2, [.ref t1, .ref t2, .ref t3, .ref t4, .ref t5, .ref t6, .ref t7, .ref t8, .int 0])), (t1, .inl (cI, 60, .inl (fun _ => 0))), (t2, .inl (cI, 60, .inl (fun _ => 0))), (t3, .inl (cI, 60, .inl (fun _ => 0))), (t4, .inl (cI, 60, .inl (fun _ => 0))), (t5, .inl (cI, 60, .inl (fun _ => 0))), (t6, .inl (cI, 60, .inl (fun _ => 0))), (t7, .inl (cI, 60, .inl (fun _ => 0))), (t8, .inl (cI, 60, .inl (fun _ => 0))), (qW, .inr (3, [.ref w1, .ref w2, .ref w3, .ref w4, .ref w5, .ref w6, .ref w7, .int 0, .int 0, .int 0, .int 0, .ref w8, .ref w9, .ref w10, .ref w11, .ref w12, .ref w13, .ref w14, .ref w15, .int 0])), (w1, .inl (cI, 120, .inl (fun _ => 0))), (w2, .inl (cI, 120, .inl (fun _ => 0))), (w3, .inl (cI, 120, .inl (fun _ => 0))), (w4, .inl (cI, 120, .inl (fun _ => 0))), (w5, .inl (cI, 120, .inl (fun _ => 0))), (w6, .inl (cI, 240, .inl (fun _ => 0))), (w7, .inl (cI, 8, .inl (fun _ => 0))), (w8, .inl (cI, 120, .inl (fun _ => 0))), (w9, .inl (cI, 120, .inl (fun _ => 0))), (w10, .inl (cI, 120, .inl (fun _ => 0))), (w11, .inl (cI, 120, .inl (fun _ => 0))), (w12, .inl (cI, 720, .inl (fun _ => 0))), (w13, .inl (cI, 120, .inl (fun _ => 0))), (w14, .inl (cI, 128, .inl (fun _ => 0))), (w15, .inl (cI, 128, .inl (fun _ => 0))), (qS, .inr (1, [.ref s1, .ref s2, .int 0, .int 0, .int 0, .int 0, .int 0])), (s1, .inl (cI, 120, .inl (fun _ => 0))), (s2, .inl (cI, 4, .inl (fun _ => 0)))] := hD
  refine lv_aload_n hx hb dX4_init_48 rfl (lv_at hl 0 rfl) ?_
  refine lv_iconst (v := 4) hx hb dX4_init_49 (by decide) ?_
  refine cs_arrI (C := RX4) (T := TX4) (N := 10) (ci := 4) hx hb hts mvin4 tyX4 tyX4_ok nmX4 hown hin hK hA rfl hP hD hS 4 (by decide) (Nat.le_of_ble_eq_true rfl) (mvWS_at 258 (by decide +kernel) (by decide +kernel)) rfl rfl (by decide +kernel) (n := 4) (len := 4) (by decide) (by decide) (by decide) (Nat.le_of_ble_eq_true rfl) (Nat.le_of_ble_eq_true rfl) dX4_init_50 dX4_init_52 (fun qc H locs hP hD hS => ?_)
  have hP : va_P D vwCl [(h0, .inr (4, [.ref qL, .ref qT, .ref qW, .ref qS, .ref qc, .int 0, .int 0, .int 0, .int 0, .int 0])), (qL, .inr (0, [.ref a1, .int 0, .int 0])), (a1, .inl (cC, 60, .inl (fun _ => 0))), (qT, .inr (2, [.ref t1, .ref t2, .ref t3, .ref t4, .ref t5, .ref t6, .ref t7, .ref t8, .int 0])), (t1, .inl (cI, 60, .inl (fun _ => 0))), (t2, .inl (cI, 60, .inl (fun _ => 0))), (t3, .inl (cI, 60, .inl (fun _ => 0))), (t4, .inl (cI, 60, .inl (fun _ => 0))), (t5, .inl (cI, 60, .inl (fun _ => 0))), (t6, .inl (cI, 60, .inl (fun _ => 0))), (t7, .inl (cI, 60, .inl (fun _ => 0))), (t8, .inl (cI, 60, .inl (fun _ => 0))), (qW, .inr (3, [.ref w1, .ref w2, .ref w3, .ref w4, .ref w5, .ref w6, .ref w7, .int 0, .int 0, .int 0, .int 0, .ref w8, .ref w9, .ref w10, .ref w11, .ref w12, .ref w13, .ref w14, .ref w15, .int 0])), (w1, .inl (cI, 120, .inl (fun _ => 0))), (w2, .inl (cI, 120, .inl (fun _ => 0))), (w3, .inl (cI, 120, .inl (fun _ => 0))), (w4, .inl (cI, 120, .inl (fun _ => 0))), (w5, .inl (cI, 120, .inl (fun _ => 0))), (w6, .inl (cI, 240, .inl (fun _ => 0))), (w7, .inl (cI, 8, .inl (fun _ => 0))), (w8, .inl (cI, 120, .inl (fun _ => 0))), (w9, .inl (cI, 120, .inl (fun _ => 0))), (w10, .inl (cI, 120, .inl (fun _ => 0))), (w11, .inl (cI, 120, .inl (fun _ => 0))), (w12, .inl (cI, 720, .inl (fun _ => 0))), (w13, .inl (cI, 120, .inl (fun _ => 0))), (w14, .inl (cI, 128, .inl (fun _ => 0))), (w15, .inl (cI, 128, .inl (fun _ => 0))), (qS, .inr (1, [.ref s1, .ref s2, .int 0, .int 0, .int 0, .int 0, .int 0])), (s1, .inl (cI, 120, .inl (fun _ => 0))), (s2, .inl (cI, 4, .inl (fun _ => 0))), (qc, .inl (cI, 4, .inl (fun _ => 0)))] H := hP
  have hD : va_D A [(h0, .inr (4, [.ref qL, .ref qT, .ref qW, .ref qS, .ref qc, .int 0, .int 0, .int 0, .int 0, .int 0])), (qL, .inr (0, [.ref a1, .int 0, .int 0])), (a1, .inl (cC, 60, .inl (fun _ => 0))), (qT, .inr (2, [.ref t1, .ref t2, .ref t3, .ref t4, .ref t5, .ref t6, .ref t7, .ref t8, .int 0])), (t1, .inl (cI, 60, .inl (fun _ => 0))), (t2, .inl (cI, 60, .inl (fun _ => 0))), (t3, .inl (cI, 60, .inl (fun _ => 0))), (t4, .inl (cI, 60, .inl (fun _ => 0))), (t5, .inl (cI, 60, .inl (fun _ => 0))), (t6, .inl (cI, 60, .inl (fun _ => 0))), (t7, .inl (cI, 60, .inl (fun _ => 0))), (t8, .inl (cI, 60, .inl (fun _ => 0))), (qW, .inr (3, [.ref w1, .ref w2, .ref w3, .ref w4, .ref w5, .ref w6, .ref w7, .int 0, .int 0, .int 0, .int 0, .ref w8, .ref w9, .ref w10, .ref w11, .ref w12, .ref w13, .ref w14, .ref w15, .int 0])), (w1, .inl (cI, 120, .inl (fun _ => 0))), (w2, .inl (cI, 120, .inl (fun _ => 0))), (w3, .inl (cI, 120, .inl (fun _ => 0))), (w4, .inl (cI, 120, .inl (fun _ => 0))), (w5, .inl (cI, 120, .inl (fun _ => 0))), (w6, .inl (cI, 240, .inl (fun _ => 0))), (w7, .inl (cI, 8, .inl (fun _ => 0))), (w8, .inl (cI, 120, .inl (fun _ => 0))), (w9, .inl (cI, 120, .inl (fun _ => 0))), (w10, .inl (cI, 120, .inl (fun _ => 0))), (w11, .inl (cI, 120, .inl (fun _ => 0))), (w12, .inl (cI, 720, .inl (fun _ => 0))), (w13, .inl (cI, 120, .inl (fun _ => 0))), (w14, .inl (cI, 128, .inl (fun _ => 0))), (w15, .inl (cI, 128, .inl (fun _ => 0))), (qS, .inr (1, [.ref s1, .ref s2, .int 0, .int 0, .int 0, .int 0, .int 0])), (s1, .inl (cI, 120, .inl (fun _ => 0))), (s2, .inl (cI, 4, .inl (fun _ => 0))), (qc, .inl (cI, 4, .inl (fun _ => 0)))] := hD
  refine lv_aload_n hx hb dX4_init_55 rfl (lv_at hl 0 rfl) ?_
  refine lv_iconst (v := 0) hx hb dX4_init_56 (by decide) ?_
  refine va_put (D := D) (ci := 4) (v := .int 0) (ty := .int) (C := RX4) (T := TX4) (N := 10) (own := RX4) (ref := RX4) hx hb hts mvin4 tyX4 tyX4_ok nmX4 hown hK hP hD hS 0 rfl rfl 5 (by decide) (hts _ (mvWS_at 259 (by decide +kernel) (by decide +kernel))) (fun _ h9 => h9) rfl (by decide +kernel) rfl rfl (Nat.le_of_ble_eq_true rfl) dX4_init_57 (fun H locs hP hD hS => ?_)
  have hP : va_P D vwCl [(h0, .inr (4, [.ref qL, .ref qT, .ref qW, .ref qS, .ref qc, .int 0, .int 0, .int 0, .int 0, .int 0])), (qL, .inr (0, [.ref a1, .int 0, .int 0])), (a1, .inl (cC, 60, .inl (fun _ => 0))), (qT, .inr (2, [.ref t1, .ref t2, .ref t3, .ref t4, .ref t5, .ref t6, .ref t7, .ref t8, .int 0])), (t1, .inl (cI, 60, .inl (fun _ => 0))), (t2, .inl (cI, 60, .inl (fun _ => 0))), (t3, .inl (cI, 60, .inl (fun _ => 0))), (t4, .inl (cI, 60, .inl (fun _ => 0))), (t5, .inl (cI, 60, .inl (fun _ => 0))), (t6, .inl (cI, 60, .inl (fun _ => 0))), (t7, .inl (cI, 60, .inl (fun _ => 0))), (t8, .inl (cI, 60, .inl (fun _ => 0))), (qW, .inr (3, [.ref w1, .ref w2, .ref w3, .ref w4, .ref w5, .ref w6, .ref w7, .int 0, .int 0, .int 0, .int 0, .ref w8, .ref w9, .ref w10, .ref w11, .ref w12, .ref w13, .ref w14, .ref w15, .int 0])), (w1, .inl (cI, 120, .inl (fun _ => 0))), (w2, .inl (cI, 120, .inl (fun _ => 0))), (w3, .inl (cI, 120, .inl (fun _ => 0))), (w4, .inl (cI, 120, .inl (fun _ => 0))), (w5, .inl (cI, 120, .inl (fun _ => 0))), (w6, .inl (cI, 240, .inl (fun _ => 0))), (w7, .inl (cI, 8, .inl (fun _ => 0))), (w8, .inl (cI, 120, .inl (fun _ => 0))), (w9, .inl (cI, 120, .inl (fun _ => 0))), (w10, .inl (cI, 120, .inl (fun _ => 0))), (w11, .inl (cI, 120, .inl (fun _ => 0))), (w12, .inl (cI, 720, .inl (fun _ => 0))), (w13, .inl (cI, 120, .inl (fun _ => 0))), (w14, .inl (cI, 128, .inl (fun _ => 0))), (w15, .inl (cI, 128, .inl (fun _ => 0))), (qS, .inr (1, [.ref s1, .ref s2, .int 0, .int 0, .int 0, .int 0, .int 0])), (s1, .inl (cI, 120, .inl (fun _ => 0))), (s2, .inl (cI, 4, .inl (fun _ => 0))), (qc, .inl (cI, 4, .inl (fun _ => 0)))] H := hP
  have hD : va_D A [(h0, .inr (4, [.ref qL, .ref qT, .ref qW, .ref qS, .ref qc, .int 0, .int 0, .int 0, .int 0, .int 0])), (qL, .inr (0, [.ref a1, .int 0, .int 0])), (a1, .inl (cC, 60, .inl (fun _ => 0))), (qT, .inr (2, [.ref t1, .ref t2, .ref t3, .ref t4, .ref t5, .ref t6, .ref t7, .ref t8, .int 0])), (t1, .inl (cI, 60, .inl (fun _ => 0))), (t2, .inl (cI, 60, .inl (fun _ => 0))), (t3, .inl (cI, 60, .inl (fun _ => 0))), (t4, .inl (cI, 60, .inl (fun _ => 0))), (t5, .inl (cI, 60, .inl (fun _ => 0))), (t6, .inl (cI, 60, .inl (fun _ => 0))), (t7, .inl (cI, 60, .inl (fun _ => 0))), (t8, .inl (cI, 60, .inl (fun _ => 0))), (qW, .inr (3, [.ref w1, .ref w2, .ref w3, .ref w4, .ref w5, .ref w6, .ref w7, .int 0, .int 0, .int 0, .int 0, .ref w8, .ref w9, .ref w10, .ref w11, .ref w12, .ref w13, .ref w14, .ref w15, .int 0])), (w1, .inl (cI, 120, .inl (fun _ => 0))), (w2, .inl (cI, 120, .inl (fun _ => 0))), (w3, .inl (cI, 120, .inl (fun _ => 0))), (w4, .inl (cI, 120, .inl (fun _ => 0))), (w5, .inl (cI, 120, .inl (fun _ => 0))), (w6, .inl (cI, 240, .inl (fun _ => 0))), (w7, .inl (cI, 8, .inl (fun _ => 0))), (w8, .inl (cI, 120, .inl (fun _ => 0))), (w9, .inl (cI, 120, .inl (fun _ => 0))), (w10, .inl (cI, 120, .inl (fun _ => 0))), (w11, .inl (cI, 120, .inl (fun _ => 0))), (w12, .inl (cI, 720, .inl (fun _ => 0))), (w13, .inl (cI, 120, .inl (fun _ => 0))), (w14, .inl (cI, 128, .inl (fun _ => 0))), (w15, .inl (cI, 128, .inl (fun _ => 0))), (qS, .inr (1, [.ref s1, .ref s2, .int 0, .int 0, .int 0, .int 0, .int 0])), (s1, .inl (cI, 120, .inl (fun _ => 0))), (s2, .inl (cI, 4, .inl (fun _ => 0))), (qc, .inl (cI, 4, .inl (fun _ => 0)))] := hD
  refine W.widen (k := 31) (n := 3131) (Nat.le_of_ble_eq_true rfl) (Nat.le_of_ble_eq_true rfl) ?_
  exact W.vret hx hb hr (fun t ht hW => ⟨⟨(), rfl, trivial, qL, a1, qT, t1, t2, t3, t4, t5, t6, t7, t8, qW, w1, w2, w3, w4, w5, w6, w7, w8, w9, w10, w11, w12, w13, w14, w15, qS, s1, s2, qc, by rw [ht]; exact hP, va_K.moved hW.alike hK, hD⟩, hS.F ht⟩) hS.2.2 dX4_init_60
