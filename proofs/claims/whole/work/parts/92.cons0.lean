/-! THE CONSTRUCTORS: decoded instructions, and a row for an array that is made and put into a final field -/
section CK
variable {p : Program} {l : Launch} {e : Env} {R : Room} {s : State} {m : MethodId} {args : Array Value} {below : List Frame} {meth : Method} {c : Code} {H H0 : Heap} {locs : List Loc} {cells slots : Nat} {Q : State → Prop} {pc : Nat} {ls : Array Slot} {rest : List Value} {cc : ByteArray} {D : va_G} {cI cC : ClassId} {A : Nat → Prop} {ws : va_W}
theorem cs_cA (hK : va_K D vwCl (mvTy cI cC) s) {cA : ClassId} {ty : FieldType} (hK2 : va_K D vwCl (mvTy cI cC ++ [(cA, ty)]) s) : (ty = .int → cA = cI) ∧ (ty = .char → cA = cC) := by
  have h0 := (hK.2 0 (cI, .int) rfl).2
  have h1 := (hK.2 1 (cC, .char) rfl).2
  have h2 := (hK2.2 2 (cA, ty) rfl).2
  refine ⟨fun z => ?_, fun z => ?_⟩
  · subst z
    exact Option.some.inj (h2.symm.trans h0)
  · subst z
    exact Option.some.inj (h2.symm.trans h1)
set_option maxHeartbeats 400000 in
theorem cs_arrI (hx : p.tables.exec = Jvm.exec) (hb : c.code = cc) (hts : ∀ w ∈ mvWS, w.before args s = true) {C : String} {T : u_T} {N ci idx : Nat} (hws : ∀ w ∈ u_ws C T N, w ∈ mvWS) (ty0 : Nat → FieldType) (hty : ∀ k, k < N → parseFieldDescriptor (T k).2.2.1 = some (ty0 k)) (hnm : ∀ a, a < N → ∀ b, b < N → a ≠ b → (T a).2.1 ≠ (T b).2.1) (hown : s.vm.findClass C = some m.cls) (hin : meth.name = "<init>") (hK : va_K D vwCl (mvTy cI cC) s) (hA : ∀ q, H0.size ≤ q → A q) (hC : vwCl[ci]? = some (C, T, N)) {a : Nat} {fs : List Value}
    (hP : va_P D vwCl ((a, .inr (ci, fs)) :: ws) H) (hD : va_D A ((a, .inr (ci, fs)) :: ws)) (hS : va_S A H0 H locs) (k : Nat) (hk : k < N) (hl : k < fs.length) (hlk : Cond.fieldLink C idx C (T k).2.1 (T k).2.2.1 ∈ mvWS) (hfin : (T k).2.2.2 = true) (hdecl : (T k).1 = C) (hd : parseFieldDescriptor (T k).2.2.1 = some (.array .int)) {n : Int32} {len : Nat} (hn : ¬ n < 0) (hN : n.toNatClampNeg = len) (hlen : len ≤ 10000) (hcells : cells + 1 ≤ R.cells) (hslots : slots + len ≤ R.slots)
    (d1 : decode cc pc = .ok (.newarray .int, 2)) (d2 : decode cc (pc + 2) = .ok (.putfield idx, 3)) (kk : ∀ (q : Nat) (H1 : Heap) (locs1 : List Loc), va_P D vwCl ((a, .inr (ci, fs.set k (.ref q))) :: (ws ++ [(q, .inl (cI, len, .inl (fun _ => 0)))])) H1 → va_D A ((a, .inr (ci, fs.set k (.ref q))) :: (ws ++ [(q, .inl (cI, len, .inl (fun _ => 0)))])) → va_S A H0 H1 locs1 → W p l e R s m args below meth c H1 locs1 (cells + 1) (slots + len) Q (F0 m (pc + 5) ls rest)) : W p l e R s m args below meth c H locs cells slots Q (F0 m pc ls (.int n :: .ref a :: rest)) := by
  have harr : (Cond.arrayClass .int).before args s = true := hts _ (mvWS_at 158 (by decide +kernel) (by decide +kernel))
  refine va_newa (atype := .int) (a0 := (len, .inl (fun _ => 0))) hx hb harr (ty := .int) rfl hK hP hD hS hA (fun _ => rfl) hn hN (by show len * 4 ≤ 536870912; omega) hcells hslots d1 (fun q cA H1 hK2 hP hD hS => ?_)
  have e1 : cA = cI := (cs_cA hK hK2).1 rfl
  rw [e1] at hP hD
  refine va_putF (D := D) (ci := ci) (v := .ref q) (ty := .array .int) (C := C) (T := T) (N := N) (own := C) (ref := C) hx hb hts hws ty0 hty hnm hown hK hP hD hS 0 rfl hC k hk (hts _ hlk) (fun x hx => by rw [hdecl] at hx; exact hx) hfin hin hdecl hd rfl rfl hl d2 (fun H2 locs2 hP hD hS => ?_)
  exact kk q H2 locs2 hP hD hS
set_option maxHeartbeats 400000 in
theorem cs_arrC (hx : p.tables.exec = Jvm.exec) (hb : c.code = cc) (hts : ∀ w ∈ mvWS, w.before args s = true) {C : String} {T : u_T} {N ci idx : Nat} (hws : ∀ w ∈ u_ws C T N, w ∈ mvWS) (ty0 : Nat → FieldType) (hty : ∀ k, k < N → parseFieldDescriptor (T k).2.2.1 = some (ty0 k)) (hnm : ∀ a, a < N → ∀ b, b < N → a ≠ b → (T a).2.1 ≠ (T b).2.1) (hown : s.vm.findClass C = some m.cls) (hin : meth.name = "<init>") (hK : va_K D vwCl (mvTy cI cC) s) (hA : ∀ q, H0.size ≤ q → A q) (hC : vwCl[ci]? = some (C, T, N)) {a : Nat} {fs : List Value}
    (hP : va_P D vwCl ((a, .inr (ci, fs)) :: ws) H) (hD : va_D A ((a, .inr (ci, fs)) :: ws)) (hS : va_S A H0 H locs) (k : Nat) (hk : k < N) (hl : k < fs.length) (hlk : Cond.fieldLink C idx C (T k).2.1 (T k).2.2.1 ∈ mvWS) (hfin : (T k).2.2.2 = true) (hdecl : (T k).1 = C) (hd : parseFieldDescriptor (T k).2.2.1 = some (.array .char)) {n : Int32} {len : Nat} (hn : ¬ n < 0) (hN : n.toNatClampNeg = len) (hlen : len ≤ 10000) (hcells : cells + 1 ≤ R.cells) (hslots : slots + len ≤ R.slots)
    (d1 : decode cc pc = .ok (.newarray .char, 2)) (d2 : decode cc (pc + 2) = .ok (.putfield idx, 3)) (kk : ∀ (q : Nat) (H1 : Heap) (locs1 : List Loc), va_P D vwCl ((a, .inr (ci, fs.set k (.ref q))) :: (ws ++ [(q, .inl (cC, len, .inl (fun _ => 0)))])) H1 → va_D A ((a, .inr (ci, fs.set k (.ref q))) :: (ws ++ [(q, .inl (cC, len, .inl (fun _ => 0)))])) → va_S A H0 H1 locs1 → W p l e R s m args below meth c H1 locs1 (cells + 1) (slots + len) Q (F0 m (pc + 5) ls rest)) : W p l e R s m args below meth c H locs cells slots Q (F0 m pc ls (.int n :: .ref a :: rest)) := by
  have harr : (Cond.arrayClass .char).before args s = true := hts _ (mvWS_at 118 (by decide +kernel) (by decide +kernel))
  refine va_newa (atype := .char) (a0 := (len, .inl (fun _ => 0))) hx hb harr (ty := .char) rfl hK hP hD hS hA (fun _ => rfl) hn hN (by show len * 2 ≤ 536870912; omega) hcells hslots d1 (fun q cA H1 hK2 hP hD hS => ?_)
  have e1 : cA = cC := (cs_cA hK hK2).2 rfl
  rw [e1] at hP hD
  refine va_putF (D := D) (ci := ci) (v := .ref q) (ty := .array .char) (C := C) (T := T) (N := N) (own := C) (ref := C) hx hb hts hws ty0 hty hnm hown hK hP hD hS 0 rfl hC k hk (hts _ hlk) (fun x hx => by rw [hdecl] at hx; exact hx) hfin hin hdecl hd rfl rfl hl d2 (fun H2 locs2 hP hD hS => ?_)
  exact kk q H2 locs2 hP hD hS
end CK
