/-! THE CONSTRUCTORS: contracts -/
def fsX0 : List Value := [.null, .int 0, .int 0]
def fsX1 : List Value := [.null, .null, .int 0, .int 0, .int 0, .int 0, .int 0]
def fsX2 : List Value := [.null, .null, .null, .null, .null, .null, .null, .null, .int 0]
def fsX3 : List Value := [.null, .null, .null, .null, .null, .null, .null, .int 0, .int 0, .int 0, .int 0, .null, .null, .null, .null, .null, .null, .null, .null, .int 0]
def fsX4 : List Value := [.null, .null, .null, .null, .null, .int 0, .int 0, .int 0, .int 0, .int 0]
def fsX5 : List Value := [.null, .int 0, .int 0, .null, .null, .null, .null, .null, .null, .int 0, .null, .null, .int 0, .null, .int 0, .int 0, .int 0, .int 0, .null, .null, .null, .null, .null, .null, .null, .int 0, .int 0, .null, .null, .null, .null, .null, .null, .null, .null, .null, .null, .int 0, .int 0, .null, .null, .null, .int 0, .int 0, .int 0, .int 0, .int 0, .int 0, .int 0, .null, .int 0, .int 0, .int 0]
def wX0 (cI cC : ClassId) (h0 q1 : Nat) : va_W := [(h0, .inr (0, [.ref q1, .int 0, .int 0])), (q1, .inl (cC, 60, .inl (fun _ => 0)))]
set_option maxRecDepth 100000 in
set_option maxHeartbeats 4000000 in
theorem c_X0_init (l : Launch) (D : va_G) (cI cC : ClassId) (h0 sz : Nat) : Met l yX0_init (Cond.code yX0_init cX0_init 1 none :: mvWS) ({ frames := 1, cells := 1, slots := 60, locals := 21 }) (va_Pc [.ref h0] (fun U => U.heap.size = sz ∧ va_P D vwCl [(h0, .inr (0, fsX0))] U.heap ∧ va_K D vwCl (mvTy cI cC) U ∧ va_D (fun _ => True) [(h0, .inr (0, fsX0))])) (va_Qv (fun _ : Unit => True) (fun _ t => ∃ q1 : Nat, va_P D vwCl (wX0 cI cC h0 q1) t.heap ∧ va_K D vwCl (mvTy cI cC) t ∧ va_D (va_A [(h0, .inr (0, fsX0))] sz) (wX0 cI cC h0 q1)) (va_A [(h0, .inr (0, fsX0))] sz)) 1 60 (va_A [(h0, .inr (0, fsX0))] sz) := by
  refine Met.ofW (cc := cX0_init) (maxL := 1) (ret := none) (by decide) rfl ?_
  intro p e s m args below meth c s₁ B hml hv
  obtain ⟨rfl, hsz, hP, hK, hD0⟩ := hv
  have hx := B.exec
  have hb := B.bytes
  have hr := B.returns
  have hts0 := atoms_spec (ws := Cond.code yX0_init cX0_init 1 none :: mvWS) B.pre
  have hts : ∀ w ∈ mvWS, w.before ([Value.ref h0] : List Value).toArray s = true := fun w hw => hts0 w (List.mem_cons_of_mem _ hw)
  have hown : s.vm.findClass RX0 = some m.cls := findClass_of_methodNamed B.named
  have hlocks := B.notSynchronized
  have hin : meth.name = "<init>" := (name_of_methodNamed B.named B.method).1
  subst hsz
  have hD := hD0.self (sz := s.heap.size)
  generalize hAe : va_A [(h0, .inr (0, fsX0))] s.heap.size = A at hD ⊢
  have hA : ∀ q : Nat, s.heap.size ≤ q → A q := fun q h => by rw [← hAe]; exact Or.inr h
  have hS : va_S A s.heap s.heap [] := va_S.rf
  have hl := lv_entry ([.ref h0]) (n := 1) (Nat.le_of_ble_eq_true rfl)
  rw [lg_entry_eq]
  generalize (lg_sl ([.ref h0]) ++ List.replicate (1 - (lg_sl ([.ref h0])).length) Slot.unset).toArray = ls at hl ⊢
  have hl : lv_has ls 1 [(0, .ref h0)] := hl
  refine lv_aload_n hx hb dX0_init_0 rfl (lv_at hl 0 rfl) ?_
  refine W.objInit hx hb hown (hts (.methodLink RX0 3 objectInit) (mvWS_at 107 (by decide +kernel) (by decide +kernel))) (hts (.instanceMethod objectInit) (mvWS_at 100 (by decide +kernel) (by decide +kernel))) (hts (.code objectInit ⟨#[0xb1]⟩ 1 none) (mvWS_at 101 (by decide +kernel) (by decide +kernel))) rfl (by rw [hml]; exact hl.1) rfl dX0_init_1 (Nat.le_of_ble_eq_true rfl) (Nat.le_of_ble_eq_true rfl) ?_
  refine W.eq (g2 := F0 m 4 ls []) rfl ?_
  refine lv_aload_n hx hb dX0_init_4 rfl (lv_at hl 0 rfl) ?_
  refine lv_bipush (v := 60) hx hb dX0_init_5 (by decide) ?_
  refine cs_arrC (C := RX0) (T := TX0) (N := 3) (ci := 0) hx hb hts mvin0 tyX0 tyX0_ok nmX0 hown hin hK hA rfl hP hD hS 0 (by decide) (Nat.le_of_ble_eq_true rfl) (mvWS_at 108 (by decide +kernel) (by decide +kernel)) rfl rfl (by decide +kernel) (n := 60) (len := 60) (by decide) (by decide) (by decide) (Nat.le_of_ble_eq_true rfl) (Nat.le_of_ble_eq_true rfl) dX0_init_7 dX0_init_9 (fun q1 H locs hP hD hS => ?_)
  have hP : va_P D vwCl [(h0, .inr (0, [.ref q1, .int 0, .int 0])), (q1, .inl (cC, 60, .inl (fun _ => 0)))] H := hP
  have hD : va_D A [(h0, .inr (0, [.ref q1, .int 0, .int 0])), (q1, .inl (cC, 60, .inl (fun _ => 0)))] := hD
  refine W.widen (k := 1) (n := 60) (Nat.le_of_ble_eq_true rfl) (Nat.le_of_ble_eq_true rfl) ?_
  exact W.vret hx hb hr (fun t ht hW => ⟨⟨(), rfl, trivial, q1, by rw [ht]; exact hP, va_K.moved hW.alike hK, hD⟩, hS.F ht⟩) hS.2.2 dX0_init_12
def wX1 (cI cC : ClassId) (h0 q1 q2 : Nat) : va_W := [(h0, .inr (1, [.ref q1, .ref q2, .int 0, .int 0, .int 0, .int 0, .int 0])), (q1, .inl (cI, 120, .inl (fun _ => 0))), (q2, .inl (cI, 4, .inl (fun _ => 0)))]
set_option maxRecDepth 100000 in
set_option maxHeartbeats 4000000 in
theorem c_X1_init (l : Launch) (D : va_G) (cI cC : ClassId) (h0 sz : Nat) : Met l yX1_init (Cond.code yX1_init cX1_init 1 none :: mvWS) ({ frames := 1, cells := 2, slots := 124, locals := 21 }) (va_Pc [.ref h0] (fun U => U.heap.size = sz ∧ va_P D vwCl [(h0, .inr (1, fsX1))] U.heap ∧ va_K D vwCl (mvTy cI cC) U ∧ va_D (fun _ => True) [(h0, .inr (1, fsX1))])) (va_Qv (fun _ : Unit => True) (fun _ t => ∃ q1 q2 : Nat, va_P D vwCl (wX1 cI cC h0 q1 q2) t.heap ∧ va_K D vwCl (mvTy cI cC) t ∧ va_D (va_A [(h0, .inr (1, fsX1))] sz) (wX1 cI cC h0 q1 q2)) (va_A [(h0, .inr (1, fsX1))] sz)) 2 124 (va_A [(h0, .inr (1, fsX1))] sz) := by
  refine Met.ofW (cc := cX1_init) (maxL := 1) (ret := none) (by decide) rfl ?_
  intro p e s m args below meth c s₁ B hml hv
  obtain ⟨rfl, hsz, hP, hK, hD0⟩ := hv
  have hx := B.exec
  have hb := B.bytes
  have hr := B.returns
  have hts0 := atoms_spec (ws := Cond.code yX1_init cX1_init 1 none :: mvWS) B.pre
  have hts : ∀ w ∈ mvWS, w.before ([Value.ref h0] : List Value).toArray s = true := fun w hw => hts0 w (List.mem_cons_of_mem _ hw)
  have hown : s.vm.findClass RX1 = some m.cls := findClass_of_methodNamed B.named
  have hlocks := B.notSynchronized
  have hin : meth.name = "<init>" := (name_of_methodNamed B.named B.method).1
  subst hsz
  have hD := hD0.self (sz := s.heap.size)
  generalize hAe : va_A [(h0, .inr (1, fsX1))] s.heap.size = A at hD ⊢
  have hA : ∀ q : Nat, s.heap.size ≤ q → A q := fun q h => by rw [← hAe]; exact Or.inr h
  have hS : va_S A s.heap s.heap [] := va_S.rf
  have hl := lv_entry ([.ref h0]) (n := 1) (Nat.le_of_ble_eq_true rfl)
  rw [lg_entry_eq]
  generalize (lg_sl ([.ref h0]) ++ List.replicate (1 - (lg_sl ([.ref h0])).length) Slot.unset).toArray = ls at hl ⊢
  have hl : lv_has ls 1 [(0, .ref h0)] := hl
  refine lv_aload_n hx hb dX1_init_0 rfl (lv_at hl 0 rfl) ?_
  refine W.objInit hx hb hown (hts (.methodLink RX1 3 objectInit) (mvWS_at 231 (by decide +kernel) (by decide +kernel))) (hts (.instanceMethod objectInit) (mvWS_at 100 (by decide +kernel) (by decide +kernel))) (hts (.code objectInit ⟨#[0xb1]⟩ 1 none) (mvWS_at 101 (by decide +kernel) (by decide +kernel))) rfl (by rw [hml]; exact hl.1) rfl dX1_init_1 (Nat.le_of_ble_eq_true rfl) (Nat.le_of_ble_eq_true rfl) ?_
  refine W.eq (g2 := F0 m 4 ls []) rfl ?_
  refine lv_aload_n hx hb dX1_init_4 rfl (lv_at hl 0 rfl) ?_
  refine lv_bipush (v := 120) hx hb dX1_init_5 (by decide) ?_
  refine cs_arrI (C := RX1) (T := TX1) (N := 7) (ci := 1) hx hb hts mvin1 tyX1 tyX1_ok nmX1 hown hin hK hA rfl hP hD hS 0 (by decide) (Nat.le_of_ble_eq_true rfl) (mvWS_at 232 (by decide +kernel) (by decide +kernel)) rfl rfl (by decide +kernel) (n := 120) (len := 120) (by decide) (by decide) (by decide) (Nat.le_of_ble_eq_true rfl) (Nat.le_of_ble_eq_true rfl) dX1_init_7 dX1_init_9 (fun q1 H locs hP hD hS => ?_)
  refine lv_aload_n hx hb dX1_init_12 rfl (lv_at hl 0 rfl) ?_
  refine lv_iconst (v := 4) hx hb dX1_init_13 (by decide) ?_
  refine cs_arrI (C := RX1) (T := TX1) (N := 7) (ci := 1) hx hb hts mvin1 tyX1 tyX1_ok nmX1 hown hin hK hA rfl hP hD hS 1 (by decide) (Nat.le_of_ble_eq_true rfl) (mvWS_at 233 (by decide +kernel) (by decide +kernel)) rfl rfl (by decide +kernel) (n := 4) (len := 4) (by decide) (by decide) (by decide) (Nat.le_of_ble_eq_true rfl) (Nat.le_of_ble_eq_true rfl) dX1_init_14 dX1_init_16 (fun q2 H locs hP hD hS => ?_)
  refine lv_aload_n hx hb dX1_init_19 rfl (lv_at hl 0 rfl) ?_
  refine lv_iconst (v := 0) hx hb dX1_init_20 (by decide) ?_
  refine va_put (D := D) (ci := 1) (v := .int 0) (ty := .int) (C := RX1) (T := TX1) (N := 7) (own := RX1) (ref := RX1) hx hb hts mvin1 tyX1 tyX1_ok nmX1 hown hK hP hD hS 0 rfl rfl 3 (by decide) (hts _ (mvWS_at 235 (by decide +kernel) (by decide +kernel))) (fun _ h9 => h9) rfl (by decide +kernel) rfl rfl (Nat.le_of_ble_eq_true rfl) dX1_init_21 (fun H locs hP hD hS => ?_)
  have hP : va_P D vwCl [(h0, .inr (1, [.ref q1, .ref q2, .int 0, .int 0, .int 0, .int 0, .int 0])), (q1, .inl (cI, 120, .inl (fun _ => 0))), (q2, .inl (cI, 4, .inl (fun _ => 0)))] H := hP
  have hD : va_D A [(h0, .inr (1, [.ref q1, .ref q2, .int 0, .int 0, .int 0, .int 0, .int 0])), (q1, .inl (cI, 120, .inl (fun _ => 0))), (q2, .inl (cI, 4, .inl (fun _ => 0)))] := hD
  refine W.widen (k := 2) (n := 124) (Nat.le_of_ble_eq_true rfl) (Nat.le_of_ble_eq_true rfl) ?_
  exact W.vret hx hb hr (fun t ht hW => ⟨⟨(), rfl, trivial, q1, q2, by rw [ht]; exact hP, va_K.moved hW.alike hK, hD⟩, hS.F ht⟩) hS.2.2 dX1_init_24
def wX2 (cI cC : ClassId) (h0 q1 q2 q3 q4 q5 q6 q7 q8 : Nat) : va_W := [(h0, .inr (2, [.ref q1, .ref q2, .ref q3, .ref q4, .ref q5, .ref q6, .ref q7, .ref q8, .int 0])), (q1, .inl (cI, 60, .inl (fun _ => 0))), (q2, .inl (cI, 60, .inl (fun _ => 0))), (q3, .inl (cI, 60, .inl (fun _ => 0))), (q4, .inl (cI, 60, .inl (fun _ => 0))), (q5, .inl (cI, 60, .inl (fun _ => 0))), (q6, .inl (cI, 60, .inl (fun _ => 0))), (q7, .inl (cI, 60, .inl (fun _ => 0))), (q8, .inl (cI, 60, .inl (fun _ => 0)))]
set_option maxRecDepth 100000 in
set_option maxHeartbeats 4000000 in
theorem c_X2_init (l : Launch) (D : va_G) (cI cC : ClassId) (h0 sz : Nat) : Met l yX2_init (Cond.code yX2_init cX2_init 1 none :: mvWS) ({ frames := 1, cells := 8, slots := 480, locals := 21 }) (va_Pc [.ref h0] (fun U => U.heap.size = sz ∧ va_P D vwCl [(h0, .inr (2, fsX2))] U.heap ∧ va_K D vwCl (mvTy cI cC) U ∧ va_D (fun _ => True) [(h0, .inr (2, fsX2))])) (va_Qv (fun _ : Unit => True) (fun _ t => ∃ q1 q2 q3 q4 q5 q6 q7 q8 : Nat, va_P D vwCl (wX2 cI cC h0 q1 q2 q3 q4 q5 q6 q7 q8) t.heap ∧ va_K D vwCl (mvTy cI cC) t ∧ va_D (va_A [(h0, .inr (2, fsX2))] sz) (wX2 cI cC h0 q1 q2 q3 q4 q5 q6 q7 q8)) (va_A [(h0, .inr (2, fsX2))] sz)) 8 480 (va_A [(h0, .inr (2, fsX2))] sz) := by
  refine Met.ofW (cc := cX2_init) (maxL := 1) (ret := none) (by decide) rfl ?_
  intro p e s m args below meth c s₁ B hml hv
  obtain ⟨rfl, hsz, hP, hK, hD0⟩ := hv
  have hx := B.exec
  have hb := B.bytes
  have hr := B.returns
  have hts0 := atoms_spec (ws := Cond.code yX2_init cX2_init 1 none :: mvWS) B.pre
  have hts : ∀ w ∈ mvWS, w.before ([Value.ref h0] : List Value).toArray s = true := fun w hw => hts0 w (List.mem_cons_of_mem _ hw)
  have hown : s.vm.findClass RX2 = some m.cls := findClass_of_methodNamed B.named
  have hlocks := B.notSynchronized
  have hin : meth.name = "<init>" := (name_of_methodNamed B.named B.method).1
  subst hsz
  have hD := hD0.self (sz := s.heap.size)
  generalize hAe : va_A [(h0, .inr (2, fsX2))] s.heap.size = A at hD ⊢
  have hA : ∀ q : Nat, s.heap.size ≤ q → A q := fun q h => by rw [← hAe]; exact Or.inr h
  have hS : va_S A s.heap s.heap [] := va_S.rf
  have hl := lv_entry ([.ref h0]) (n := 1) (Nat.le_of_ble_eq_true rfl)
  rw [lg_entry_eq]
  generalize (lg_sl ([.ref h0]) ++ List.replicate (1 - (lg_sl ([.ref h0])).length) Slot.unset).toArray = ls at hl ⊢
  have hl : lv_has ls 1 [(0, .ref h0)] := hl
  refine lv_aload_n hx hb dX2_init_0 rfl (lv_at hl 0 rfl) ?_
  refine W.objInit hx hb hown (hts (.methodLink RX2 3 objectInit) (mvWS_at 124 (by decide +kernel) (by decide +kernel))) (hts (.instanceMethod objectInit) (mvWS_at 100 (by decide +kernel) (by decide +kernel))) (hts (.code objectInit ⟨#[0xb1]⟩ 1 none) (mvWS_at 101 (by decide +kernel) (by decide +kernel))) rfl (by rw [hml]; exact hl.1) rfl dX2_init_1 (Nat.le_of_ble_eq_true rfl) (Nat.le_of_ble_eq_true rfl) ?_
  refine W.eq (g2 := F0 m 4 ls []) rfl ?_
  refine lv_aload_n hx hb dX2_init_4 rfl (lv_at hl 0 rfl) ?_
  refine lv_bipush (v := 60) hx hb dX2_init_5 (by decide) ?_
  refine cs_arrI (C := RX2) (T := TX2) (N := 9) (ci := 2) hx hb hts mvin2 tyX2 tyX2_ok nmX2 hown hin hK hA rfl hP hD hS 0 (by decide) (Nat.le_of_ble_eq_true rfl) (mvWS_at 125 (by decide +kernel) (by decide +kernel)) rfl rfl (by decide +kernel) (n := 60) (len := 60) (by decide) (by decide) (by decide) (Nat.le_of_ble_eq_true rfl) (Nat.le_of_ble_eq_true rfl) dX2_init_7 dX2_init_9 (fun q1 H locs hP hD hS => ?_)
  refine lv_aload_n hx hb dX2_init_12 rfl (lv_at hl 0 rfl) ?_
  refine lv_bipush (v := 60) hx hb dX2_init_13 (by decide) ?_
  refine cs_arrI (C := RX2) (T := TX2) (N := 9) (ci := 2) hx hb hts mvin2 tyX2 tyX2_ok nmX2 hown hin hK hA rfl hP hD hS 1 (by decide) (Nat.le_of_ble_eq_true rfl) (mvWS_at 127 (by decide +kernel) (by decide +kernel)) rfl rfl (by decide +kernel) (n := 60) (len := 60) (by decide) (by decide) (by decide) (Nat.le_of_ble_eq_true rfl) (Nat.le_of_ble_eq_true rfl) dX2_init_15 dX2_init_17 (fun q2 H locs hP hD hS => ?_)
  refine lv_aload_n hx hb dX2_init_20 rfl (lv_at hl 0 rfl) ?_
  refine lv_bipush (v := 60) hx hb dX2_init_21 (by decide) ?_
  refine cs_arrI (C := RX2) (T := TX2) (N := 9) (ci := 2) hx hb hts mvin2 tyX2 tyX2_ok nmX2 hown hin hK hA rfl hP hD hS 2 (by decide) (Nat.le_of_ble_eq_true rfl) (mvWS_at 129 (by decide +kernel) (by decide +kernel)) rfl rfl (by decide +kernel) (n := 60) (len := 60) (by decide) (by decide) (by decide) (Nat.le_of_ble_eq_true rfl) (Nat.le_of_ble_eq_true rfl) dX2_init_23 dX2_init_25 (fun q3 H locs hP hD hS => ?_)
  refine lv_aload_n hx hb dX2_init_28 rfl (lv_at hl 0 rfl) ?_
  refine lv_bipush (v := 60) hx hb dX2_init_29 (by decide) ?_
  refine cs_arrI (C := RX2) (T := TX2) (N := 9) (ci := 2) hx hb hts mvin2 tyX2 tyX2_ok nmX2 hown hin hK hA rfl hP hD hS 3 (by decide) (Nat.le_of_ble_eq_true rfl) (mvWS_at 131 (by decide +kernel) (by decide +kernel)) rfl rfl (by decide +kernel) (n := 60) (len := 60) (by decide) (by decide) (by decide) (Nat.le_of_ble_eq_true rfl) (Nat.le_of_ble_eq_true rfl) dX2_init_31 dX2_init_33 (fun q4 H locs hP hD hS => ?_)
  refine lv_aload_n hx hb dX2_init_36 rfl (lv_at hl 0 rfl) ?_
  refine lv_bipush (v := 60) hx hb dX2_init_37 (by decide) ?_
  refine cs_arrI (C := RX2) (T := TX2) (N := 9) (ci := 2) hx hb hts mvin2 tyX2 tyX2_ok nmX2 hown hin hK hA rfl hP hD hS 4 (by decide) (Nat.le_of_ble_eq_true rfl) (mvWS_at 133 (by decide +kernel) (by decide +kernel)) rfl rfl (by decide +kernel) (n := 60) (len := 60) (by decide) (by decide) (by decide) (Nat.le_of_ble_eq_true rfl) (Nat.le_of_ble_eq_true rfl) dX2_init_39 dX2_init_41 (fun q5 H locs hP hD hS => ?_)
  refine lv_aload_n hx hb dX2_init_44 rfl (lv_at hl 0 rfl) ?_
  refine lv_bipush (v := 60) hx hb dX2_init_45 (by decide) ?_
  refine cs_arrI (C := RX2) (T := TX2) (N := 9) (ci := 2) hx hb hts mvin2 tyX2 tyX2_ok nmX2 hown hin hK hA rfl hP hD hS 5 (by decide) (Nat.le_of_ble_eq_true rfl) (mvWS_at 134 (by decide +kernel) (by decide +kernel)) rfl rfl (by decide +kernel) (n := 60) (len := 60) (by decide) (by decide) (by decide) (Nat.le_of_ble_eq_true rfl) (Nat.le_of_ble_eq_true rfl) dX2_init_47 dX2_init_49 (fun q6 H locs hP hD hS => ?_)
  refine lv_aload_n hx hb dX2_init_52 rfl (lv_at hl 0 rfl) ?_
  refine lv_bipush (v := 60) hx hb dX2_init_53 (by decide) ?_
  refine cs_arrI (C := RX2) (T := TX2) (N := 9) (ci := 2) hx hb hts mvin2 tyX2 tyX2_ok nmX2 hown hin hK hA rfl hP hD hS 6 (by decide) (Nat.le_of_ble_eq_true rfl) (mvWS_at 135 (by decide +kernel) (by decide +kernel)) rfl rfl (by decide +kernel) (n := 60) (len := 60) (by decide) (by decide) (by decide) (Nat.le_of_ble_eq_true rfl) (Nat.le_of_ble_eq_true rfl) dX2_init_55 dX2_init_57 (fun q7 H locs hP hD hS => ?_)
  refine lv_aload_n hx hb dX2_init_60 rfl (lv_at hl 0 rfl) ?_
  refine lv_bipush (v := 60) hx hb dX2_init_61 (by decide) ?_
  refine cs_arrI (C := RX2) (T := TX2) (N := 9) (ci := 2) hx hb hts mvin2 tyX2 tyX2_ok nmX2 hown hin hK hA rfl hP hD hS 7 (by decide) (Nat.le_of_ble_eq_true rfl) (mvWS_at 136 (by decide +kernel) (by decide +kernel)) rfl rfl (by decide +kernel) (n := 60) (len := 60) (by decide) (by decide) (by decide) (Nat.le_of_ble_eq_true rfl) (Nat.le_of_ble_eq_true rfl) dX2_init_63 dX2_init_65 (fun q8 H locs hP hD hS => ?_)
  have hP : va_P D vwCl [(h0, .inr (2, [.ref q1, .ref q2, .ref q3, .ref q4, .ref q5, .ref q6, .ref q7, .ref q8, .int 0])), (q1, .inl (cI, 60, .inl (fun _ => 0))), (q2, .inl (cI, 60, .inl (fun _ => 0))), (q3, .inl (cI, 60, .inl (fun _ => 0))), (q4, .inl (cI, 60, .inl (fun _ => 0))), (q5, .inl (cI, 60, .inl (fun _ => 0))), (q6, .inl (cI, 60, .inl (fun _ => 0))), (q7, .inl (cI, 60, .inl (fun _ => 0))), (q8, .inl (cI, 60, .inl (fun _ => 0)))] H := hP
  have hD : va_D A [(h0, .inr (2, [.ref q1, .ref q2, .ref q3, .ref q4, .ref q5, .ref q6, .ref q7, .ref q8, .int 0])), (q1, .inl (cI, 60, .inl (fun _ => 0))), (q2, .inl (cI, 60, .inl (fun _ => 0))), (q3, .inl (cI, 60, .inl (fun _ => 0))), (q4, .inl (cI, 60, .inl (fun _ => 0))), (q5, .inl (cI, 60, .inl (fun _ => 0))), (q6, .inl (cI, 60, .inl (fun _ => 0))), (q7, .inl (cI, 60, .inl (fun _ => 0))), (q8, .inl (cI, 60, .inl (fun _ => 0)))] := hD
  refine W.widen (k := 8) (n := 480) (Nat.le_of_ble_eq_true rfl) (Nat.le_of_ble_eq_true rfl) ?_
  exact W.vret hx hb hr (fun t ht hW => ⟨⟨(), rfl, trivial, q1, q2, q3, q4, q5, q6, q7, q8, by rw [ht]; exact hP, va_K.moved hW.alike hK, hD⟩, hS.F ht⟩) hS.2.2 dX2_init_68
def wX3 (cI cC : ClassId) (h0 q1 q2 q3 q4 q5 q6 q7 q8 q9 q10 q11 q12 q13 q14 q15 : Nat) : va_W := [(h0, .inr (3, [.ref q1, .ref q2, .ref q3, .ref q4, .ref q5, .ref q6, .ref q7, .int 0, .int 0, .int 0, .int 0, .ref q8, .ref q9, .ref q10, .ref q11, .ref q12, .ref q13, .ref q14, .ref q15, .int 0])), (q1, .inl (cI, 120, .inl (fun _ => 0))), (q2, .inl (cI, 120, .inl (fun _ => 0))), (q3, .inl (cI, 120, .inl (fun _ => 0))), (q4, .inl (cI, 120, .inl (fun _ => 0))), (q5, .inl (cI, 120, .inl (fun _ => 0))), (q6, .inl (cI, 240, .inl (fun _ => 0))), (q7, .inl (cI, 8, .inl (fun _ => 0))), (q8, .inl (cI, 120, .inl (fun _ => 0))), (q9, .inl (cI, 120, .inl (fun _ => 0))), (q10, .inl (cI, 120, .inl (fun _ => 0))), (q11, .inl (cI, 120, .inl (fun _ => 0))), (q12, .inl (cI, 720, .inl (fun _ => 0))), (q13, .inl (cI, 120, .inl (fun _ => 0))), (q14, .inl (cI, 128, .inl (fun _ => 0))), (q15, .inl (cI, 128, .inl (fun _ => 0)))]
set_option maxRecDepth 100000 in
set_option maxHeartbeats 4000000 in
theorem c_X3_init (l : Launch) (D : va_G) (cI cC : ClassId) (h0 sz : Nat) : Met l yX3_init (Cond.code yX3_init cX3_init 1 none :: mvWS) ({ frames := 1, cells := 15, slots := 2424, locals := 21 }) (va_Pc [.ref h0] (fun U => U.heap.size = sz ∧ va_P D vwCl [(h0, .inr (3, fsX3))] U.heap ∧ va_K D vwCl (mvTy cI cC) U ∧ va_D (fun _ => True) [(h0, .inr (3, fsX3))])) (va_Qv (fun _ : Unit => True) (fun _ t => ∃ q1 q2 q3 q4 q5 q6 q7 q8 q9 q10 q11 q12 q13 q14 q15 : Nat, va_P D vwCl (wX3 cI cC h0 q1 q2 q3 q4 q5 q6 q7 q8 q9 q10 q11 q12 q13 q14 q15) t.heap ∧ va_K D vwCl (mvTy cI cC) t ∧ va_D (va_A [(h0, .inr (3, fsX3))] sz) (wX3 cI cC h0 q1 q2 q3 q4 q5 q6 q7 q8 q9 q10 q11 q12 q13 q14 q15)) (va_A [(h0, .inr (3, fsX3))] sz)) 15 2424 (va_A [(h0, .inr (3, fsX3))] sz) := by
  refine Met.ofW (cc := cX3_init) (maxL := 1) (ret := none) (by decide) rfl ?_
  intro p e s m args below meth c s₁ B hml hv
  obtain ⟨rfl, hsz, hP, hK, hD0⟩ := hv
  have hx := B.exec
  have hb := B.bytes
  have hr := B.returns
  have hts0 := atoms_spec (ws := Cond.code yX3_init cX3_init 1 none :: mvWS) B.pre
  have hts : ∀ w ∈ mvWS, w.before ([Value.ref h0] : List Value).toArray s = true := fun w hw => hts0 w (List.mem_cons_of_mem _ hw)
  have hown : s.vm.findClass RX3 = some m.cls := findClass_of_methodNamed B.named
  have hlocks := B.notSynchronized
  have hin : meth.name = "<init>" := (name_of_methodNamed B.named B.method).1
  subst hsz
  have hD := hD0.self (sz := s.heap.size)
  generalize hAe : va_A [(h0, .inr (3, fsX3))] s.heap.size = A at hD ⊢
  have hA : ∀ q : Nat, s.heap.size ≤ q → A q := fun q h => by rw [← hAe]; exact Or.inr h
  have hS : va_S A s.heap s.heap [] := va_S.rf
  have hl := lv_entry ([.ref h0]) (n := 1) (Nat.le_of_ble_eq_true rfl)
  rw [lg_entry_eq]
  generalize (lg_sl ([.ref h0]) ++ List.replicate (1 - (lg_sl ([.ref h0])).length) Slot.unset).toArray = ls at hl ⊢
  have hl : lv_has ls 1 [(0, .ref h0)] := hl
  refine lv_aload_n hx hb dX3_init_0 rfl (lv_at hl 0 rfl) ?_
  refine W.objInit hx hb hown (hts (.methodLink RX3 3 objectInit) (mvWS_at 164 (by decide +kernel) (by decide +kernel))) (hts (.instanceMethod objectInit) (mvWS_at 100 (by decide +kernel) (by decide +kernel))) (hts (.code objectInit ⟨#[0xb1]⟩ 1 none) (mvWS_at 101 (by decide +kernel) (by decide +kernel))) rfl (by rw [hml]; exact hl.1) rfl dX3_init_1 (Nat.le_of_ble_eq_true rfl) (Nat.le_of_ble_eq_true rfl) ?_
  refine W.eq (g2 := F0 m 4 ls []) rfl ?_
  refine lv_aload_n hx hb dX3_init_4 rfl (lv_at hl 0 rfl) ?_
  refine lv_bipush (v := 120) hx hb dX3_init_5 (by decide) ?_
  refine cs_arrI (C := RX3) (T := TX3) (N := 20) (ci := 3) hx hb hts mvin3 tyX3 tyX3_ok nmX3 hown hin hK hA rfl hP hD hS 0 (by decide) (Nat.le_of_ble_eq_true rfl) (mvWS_at 165 (by decide +kernel) (by decide +kernel)) rfl rfl (by decide +kernel) (n := 120) (len := 120) (by decide) (by decide) (by decide) (Nat.le_of_ble_eq_true rfl) (Nat.le_of_ble_eq_true rfl) dX3_init_7 dX3_init_9 (fun q1 H locs hP hD hS => ?_)
  refine lv_aload_n hx hb dX3_init_12 rfl (lv_at hl 0 rfl) ?_
  refine lv_bipush (v := 120) hx hb dX3_init_13 (by decide) ?_
  refine cs_arrI (C := RX3) (T := TX3) (N := 20) (ci := 3) hx hb hts mvin3 tyX3 tyX3_ok nmX3 hown hin hK hA rfl hP hD hS 1 (by decide) (Nat.le_of_ble_eq_true rfl) (mvWS_at 166 (by decide +kernel) (by decide +kernel)) rfl rfl (by decide +kernel) (n := 120) (len := 120) (by decide) (by decide) (by decide) (Nat.le_of_ble_eq_true rfl) (Nat.le_of_ble_eq_true rfl) dX3_init_15 dX3_init_17 (fun q2 H locs hP hD hS => ?_)
  refine lv_aload_n hx hb dX3_init_20 rfl (lv_at hl 0 rfl) ?_
  refine lv_bipush (v := 120) hx hb dX3_init_21 (by decide) ?_
  refine cs_arrI (C := RX3) (T := TX3) (N := 20) (ci := 3) hx hb hts mvin3 tyX3 tyX3_ok nmX3 hown hin hK hA rfl hP hD hS 2 (by decide) (Nat.le_of_ble_eq_true rfl) (mvWS_at 167 (by decide +kernel) (by decide +kernel)) rfl rfl (by decide +kernel) (n := 120) (len := 120) (by decide) (by decide) (by decide) (Nat.le_of_ble_eq_true rfl) (Nat.le_of_ble_eq_true rfl) dX3_init_23 dX3_init_25 (fun q3 H locs hP hD hS => ?_)
  refine lv_aload_n hx hb dX3_init_28 rfl (lv_at hl 0 rfl) ?_
  refine lv_bipush (v := 120) hx hb dX3_init_29 (by decide) ?_
  refine cs_arrI (C := RX3) (T := TX3) (N := 20) (ci := 3) hx hb hts mvin3 tyX3 tyX3_ok nmX3 hown hin hK hA rfl hP hD hS 3 (by decide) (Nat.le_of_ble_eq_true rfl) (mvWS_at 168 (by decide +kernel) (by decide +kernel)) rfl rfl (by decide +kernel) (n := 120) (len := 120) (by decide) (by decide) (by decide) (Nat.le_of_ble_eq_true rfl) (Nat.le_of_ble_eq_true rfl) dX3_init_31 dX3_init_33 (fun q4 H locs hP hD hS => ?_)
  refine lv_aload_n hx hb dX3_init_36 rfl (lv_at hl 0 rfl) ?_
  refine lv_bipush (v := 120) hx hb dX3_init_37 (by decide) ?_
  refine cs_arrI (C := RX3) (T := TX3) (N := 20) (ci := 3) hx hb hts mvin3 tyX3 tyX3_ok nmX3 hown hin hK hA rfl hP hD hS 4 (by decide) (Nat.le_of_ble_eq_true rfl) (mvWS_at 169 (by decide +kernel) (by decide +kernel)) rfl rfl (by decide +kernel) (n := 120) (len := 120) (by decide) (by decide) (by decide) (Nat.le_of_ble_eq_true rfl) (Nat.le_of_ble_eq_true rfl) dX3_init_39 dX3_init_41 (fun q5 H locs hP hD hS => ?_)
  refine lv_aload_n hx hb dX3_init_44 rfl (lv_at hl 0 rfl) ?_
  refine lv_sipush (v := 240) hx hb dX3_init_45 (by decide) ?_
  refine cs_arrI (C := RX3) (T := TX3) (N := 20) (ci := 3) hx hb hts mvin3 tyX3 tyX3_ok nmX3 hown hin hK hA rfl hP hD hS 5 (by decide) (Nat.le_of_ble_eq_true rfl) (mvWS_at 170 (by decide +kernel) (by decide +kernel)) rfl rfl (by decide +kernel) (n := 240) (len := 240) (by decide) (by decide) (by decide) (Nat.le_of_ble_eq_true rfl) (Nat.le_of_ble_eq_true rfl) dX3_init_48 dX3_init_50 (fun q6 H locs hP hD hS => ?_)
  refine lv_aload_n hx hb dX3_init_53 rfl (lv_at hl 0 rfl) ?_
  refine lv_bipush (v := 8) hx hb dX3_init_54 (by decide) ?_
  refine cs_arrI (C := RX3) (T := TX3) (N := 20) (ci := 3) hx hb hts mvin3 tyX3 tyX3_ok nmX3 hown hin hK hA rfl hP hD hS 6 (by decide) (Nat.le_of_ble_eq_true rfl) (mvWS_at 171 (by decide +kernel) (by decide +kernel)) rfl rfl (by decide +kernel) (n := 8) (len := 8) (by decide) (by decide) (by decide) (Nat.le_of_ble_eq_true rfl) (Nat.le_of_ble_eq_true rfl) dX3_init_56 dX3_init_58 (fun q7 H locs hP hD hS => ?_)
  refine lv_aload_n hx hb dX3_init_61 rfl (lv_at hl 0 rfl) ?_
  refine lv_bipush (v := 120) hx hb dX3_init_62 (by decide) ?_
  refine cs_arrI (C := RX3) (T := TX3) (N := 20) (ci := 3) hx hb hts mvin3 tyX3 tyX3_ok nmX3 hown hin hK hA rfl hP hD hS 11 (by decide) (Nat.le_of_ble_eq_true rfl) (mvWS_at 176 (by decide +kernel) (by decide +kernel)) rfl rfl (by decide +kernel) (n := 120) (len := 120) (by decide) (by decide) (by decide) (Nat.le_of_ble_eq_true rfl) (Nat.le_of_ble_eq_true rfl) dX3_init_64 dX3_init_66 (fun q8 H locs hP hD hS => ?_)
  refine lv_aload_n hx hb dX3_init_69 rfl (lv_at hl 0 rfl) ?_
  refine lv_bipush (v := 120) hx hb dX3_init_70 (by decide) ?_
  refine cs_arrI (C := RX3) (T := TX3) (N := 20) (ci := 3) hx hb hts mvin3 tyX3 tyX3_ok nmX3 hown hin hK hA rfl hP hD hS 12 (by decide) (Nat.le_of_ble_eq_true rfl) (mvWS_at 177 (by decide +kernel) (by decide +kernel)) rfl rfl (by decide +kernel) (n := 120) (len := 120) (by decide) (by decide) (by decide) (Nat.le_of_ble_eq_true rfl) (Nat.le_of_ble_eq_true rfl) dX3_init_72 dX3_init_74 (fun q9 H locs hP hD hS => ?_)
  refine lv_aload_n hx hb dX3_init_77 rfl (lv_at hl 0 rfl) ?_
  refine lv_bipush (v := 120) hx hb dX3_init_78 (by decide) ?_
  refine cs_arrI (C := RX3) (T := TX3) (N := 20) (ci := 3) hx hb hts mvin3 tyX3 tyX3_ok nmX3 hown hin hK hA rfl hP hD hS 13 (by decide) (Nat.le_of_ble_eq_true rfl) (mvWS_at 178 (by decide +kernel) (by decide +kernel)) rfl rfl (by decide +kernel) (n := 120) (len := 120) (by decide) (by decide) (by decide) (Nat.le_of_ble_eq_true rfl) (Nat.le_of_ble_eq_true rfl) dX3_init_80 dX3_init_82 (fun q10 H locs hP hD hS => ?_)
  refine lv_aload_n hx hb dX3_init_85 rfl (lv_at hl 0 rfl) ?_
  refine lv_bipush (v := 120) hx hb dX3_init_86 (by decide) ?_
  refine cs_arrI (C := RX3) (T := TX3) (N := 20) (ci := 3) hx hb hts mvin3 tyX3 tyX3_ok nmX3 hown hin hK hA rfl hP hD hS 14 (by decide) (Nat.le_of_ble_eq_true rfl) (mvWS_at 179 (by decide +kernel) (by decide +kernel)) rfl rfl (by decide +kernel) (n := 120) (len := 120) (by decide) (by decide) (by decide) (Nat.le_of_ble_eq_true rfl) (Nat.le_of_ble_eq_true rfl) dX3_init_88 dX3_init_90 (fun q11 H locs hP hD hS => ?_)
  refine lv_aload_n hx hb dX3_init_93 rfl (lv_at hl 0 rfl) ?_
  refine lv_sipush (v := 720) hx hb dX3_init_94 (by decide) ?_
  refine cs_arrI (C := RX3) (T := TX3) (N := 20) (ci := 3) hx hb hts mvin3 tyX3 tyX3_ok nmX3 hown hin hK hA rfl hP hD hS 15 (by decide) (Nat.le_of_ble_eq_true rfl) (mvWS_at 180 (by decide +kernel) (by decide +kernel)) rfl rfl (by decide +kernel) (n := 720) (len := 720) (by decide) (by decide) (by decide) (Nat.le_of_ble_eq_true rfl) (Nat.le_of_ble_eq_true rfl) dX3_init_97 dX3_init_99 (fun q12 H locs hP hD hS => ?_)
  refine lv_aload_n hx hb dX3_init_102 rfl (lv_at hl 0 rfl) ?_
  refine lv_bipush (v := 120) hx hb dX3_init_103 (by decide) ?_
  refine cs_arrI (C := RX3) (T := TX3) (N := 20) (ci := 3) hx hb hts mvin3 tyX3 tyX3_ok nmX3 hown hin hK hA rfl hP hD hS 16 (by decide) (Nat.le_of_ble_eq_true rfl) (mvWS_at 181 (by decide +kernel) (by decide +kernel)) rfl rfl (by decide +kernel) (n := 120) (len := 120) (by decide) (by decide) (by decide) (Nat.le_of_ble_eq_true rfl) (Nat.le_of_ble_eq_true rfl) dX3_init_105 dX3_init_107 (fun q13 H locs hP hD hS => ?_)
  refine lv_aload_n hx hb dX3_init_110 rfl (lv_at hl 0 rfl) ?_
  refine lv_sipush (v := 128) hx hb dX3_init_111 (by decide) ?_
  refine cs_arrI (C := RX3) (T := TX3) (N := 20) (ci := 3) hx hb hts mvin3 tyX3 tyX3_ok nmX3 hown hin hK hA rfl hP hD hS 17 (by decide) (Nat.le_of_ble_eq_true rfl) (mvWS_at 182 (by decide +kernel) (by decide +kernel)) rfl rfl (by decide +kernel) (n := 128) (len := 128) (by decide) (by decide) (by decide) (Nat.le_of_ble_eq_true rfl) (Nat.le_of_ble_eq_true rfl) dX3_init_114 dX3_init_116 (fun q14 H locs hP hD hS => ?_)
  refine lv_aload_n hx hb dX3_init_119 rfl (lv_at hl 0 rfl) ?_
  refine lv_sipush (v := 128) hx hb dX3_init_120 (by decide) ?_
  refine cs_arrI (C := RX3) (T := TX3) (N := 20) (ci := 3) hx hb hts mvin3 tyX3 tyX3_ok nmX3 hown hin hK hA rfl hP hD hS 18 (by decide) (Nat.le_of_ble_eq_true rfl) (mvWS_at 183 (by decide +kernel) (by decide +kernel)) rfl rfl (by decide +kernel) (n := 128) (len := 128) (by decide) (by decide) (by decide) (Nat.le_of_ble_eq_true rfl) (Nat.le_of_ble_eq_true rfl) dX3_init_123 dX3_init_125 (fun q15 H locs hP hD hS => ?_)
  have hP : va_P D vwCl [(h0, .inr (3, [.ref q1, .ref q2, .ref q3, .ref q4, .ref q5, .ref q6, .ref q7, .int 0, .int 0, .int 0, .int 0, .ref q8, .ref q9, .ref q10, .ref q11, .ref q12, .ref q13, .ref q14, .ref q15, .int 0])), (q1, .inl (cI, 120, .inl (fun _ => 0))), (q2, .inl (cI, 120, .inl (fun _ => 0))), (q3, .inl (cI, 120, .inl (fun _ => 0))), (q4, .inl (cI, 120, .inl (fun _ => 0))), (q5, .inl (cI, 120, .inl (fun _ => 0))), (q6, .inl (cI, 240, .inl (fun _ => 0))), (q7, .inl (cI, 8, .inl (fun _ => 0))), (q8, .inl (cI, 120, .inl (fun _ => 0))), (q9, .inl (cI, 120, .inl (fun _ => 0))), (q10, .inl (cI, 120, .inl (fun _ => 0))), (q11, .inl (cI, 120, .inl (fun _ => 0))), (q12, .inl (cI, 720, .inl (fun _ => 0))), (q13, .inl (cI, 120, .inl (fun _ => 0))), (q14, .inl (cI, 128, .inl (fun _ => 0))), (q15, .inl (cI, 128, .inl (fun _ => 0)))] H := hP
  have hD : va_D A [(h0, .inr (3, [.ref q1, .ref q2, .ref q3, .ref q4, .ref q5, .ref q6, .ref q7, .int 0, .int 0, .int 0, .int 0, .ref q8, .ref q9, .ref q10, .ref q11, .ref q12, .ref q13, .ref q14, .ref q15, .int 0])), (q1, .inl (cI, 120, .inl (fun _ => 0))), (q2, .inl (cI, 120, .inl (fun _ => 0))), (q3, .inl (cI, 120, .inl (fun _ => 0))), (q4, .inl (cI, 120, .inl (fun _ => 0))), (q5, .inl (cI, 120, .inl (fun _ => 0))), (q6, .inl (cI, 240, .inl (fun _ => 0))), (q7, .inl (cI, 8, .inl (fun _ => 0))), (q8, .inl (cI, 120, .inl (fun _ => 0))), (q9, .inl (cI, 120, .inl (fun _ => 0))), (q10, .inl (cI, 120, .inl (fun _ => 0))), (q11, .inl (cI, 120, .inl (fun _ => 0))), (q12, .inl (cI, 720, .inl (fun _ => 0))), (q13, .inl (cI, 120, .inl (fun _ => 0))), (q14, .inl (cI, 128, .inl (fun _ => 0))), (q15, .inl (cI, 128, .inl (fun _ => 0)))] := hD
  refine W.widen (k := 15) (n := 2424) (Nat.le_of_ble_eq_true rfl) (Nat.le_of_ble_eq_true rfl) ?_
  exact W.vret hx hb hr (fun t ht hW => ⟨⟨(), rfl, trivial, q1, q2, q3, q4, q5, q6, q7, q8, q9, q10, q11, q12, q13, q14, q15, by rw [ht]; exact hP, va_K.moved hW.alike hK, hD⟩, hS.F ht⟩) hS.2.2 dX3_init_128
