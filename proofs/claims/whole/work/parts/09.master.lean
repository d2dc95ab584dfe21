/-! THE CHECK of an instruction against the bytes, and what it gives -/
/-- names of the methods: name, arguments, 0 static or 1 + class -/
abbrev mvN : Type := MethodName × Nat × Nat
def mvchk (YT : List mvN) (own : String) (cc : ByteArray) (nL : Nat) (ret : Option FieldType) (pc : Nat) (e : mvE) : Bool :=
  match e with
  | (i, nx, a, b, lk, c, sw) => decide (pc < nx) && decide (decode cc pc = .ok (i, nx - pc)) && (match i with
    | .iconst z => nx == pc + 1 && Int32.ofInt z == c
    | .bipush z => nx == pc + 2 && (Int8.ofInt z).toInt32 == c
    | .sipush z => nx == pc + 3 && (Int16.ofInt z).toInt32 == c
    | .ldc z => nx == pc + 2 && decide (mvKL[lk]? = some (.constant own z c))
    | .ldc_w z => nx == pc + 3 && decide (mvKL[lk]? = some (.constant own z c))
    | .iload z => nx == pc + 2 && z == a
    | .iload_n z => nx == pc + 1 && z.val == a
    | .aload_n z => nx == pc + 1 && z.val == a
    | .istore z => nx == pc + 2 && z == a && decide (a < nL)
    | .istore_n z => nx == pc + 1 && z.val == a && decide (a < nL)
    | .iinc z v => nx == pc + 3 && z == a && Int32.ofInt v == c && decide (a < nL)
    | .iadd | .isub | .imul | .idiv | .irem | .iand | .ior | .ixor | .ishl | .ishr | .iushr | .dup | .dup2 | .pop | .iaload | .caload | .iastore | .castore | .arraylength => nx == pc + 1
    | .goto off => nx == pc + 3 && decide ((pc : Int) + off = (a : Int))
    | .if_icmp _ off => nx == pc + 3 && decide ((pc : Int) + off = (a : Int))
    | .ifCond _ off => nx == pc + 3 && decide ((pc : Int) + off = (a : Int))
    | .tableswitch df lo hi offs => decide ((pc : Int) + df = (a : Int)) && decide (lo + offs.toList.length = hi + 1) && mvtab pc lo offs.toList sw
    | .lookupswitch df ps => decide ((pc : Int) + df = (a : Int)) && (ps.toList.zip (ps.toList.drop 1)).all (fun (a, next) => a.1 < next.1) && mvlks pc ps.toList sw
    | .getfield z => nx == pc + 3 && (match vwCl[b]? with
      | some (_, T, _) => decide (mvFL[lk]? = some (.fieldLink own z (T a).1 (T a).2.1 (T a).2.2.1)) || decide (mvNW[lk]? = some (.fieldLinkNest own z (T a).1 (T a).2.1 (T a).2.2.1 "ReactWires"))
      | none => false)
    | .putfield z => nx == pc + 3 && (match vwCl[b]? with
      | some (_, T, _) => decide (mvFL[lk]? = some (.fieldLink own z (T a).1 (T a).2.1 (T a).2.2.1))
      | none => false)
    | .getstatic z => nx == pc + 3 && decide (mvFL[lk]? = some (.fieldLink own z "ReactWires$Wires" "INPUT_WIRES" "[I"))
    | .invokevirtual z => nx == pc + 3 && (match YT[a]? with
      | some (y, n, k) => decide (mvML[lk]? = some (.methodLink own z y)) && n == b && decide (0 < k)
      | none => false)
    | .invokestatic z => nx == pc + 3 && (match Nat.beq a 9999 with
      | true => decide (mvML[lk]? = some (.methodLink own z arraycopyName))
      | false => (match YT[a]? with
        | some (y, n, k) => decide (mvML[lk]? = some (.methodLink own z y)) && n == b && k == 0
        | none => false))
    | .ireturn => nx == pc + 1 && (match b with
      | 0 => decide (ret = some .int)
      | 1 => decide (ret = some .boolean)
      | 2 => decide (ret = some .char)
      | _ => false)
    | .return_ => nx == pc + 1 && decide (ret = none)
    | _ => false)
/-- a block, from pc on -/
def mvchkB (YT : List mvN) (own : String) (cc : ByteArray) (nL : Nat) (ret : Option FieldType) : Nat → List mvE → Bool
  | _, [] => true
  | pc, e :: bl => mvchk YT own cc nL ret pc e && mvchkB YT own cc nL ret e.2.1 bl
/-- what a call's contract is -/
def mvSnd (YT : List mvN) (l : Launch) (D : va_G) (cI cC : ClassId) (ad : Nat → Nat) (d mid : Nat) (as : List mvV) (h : mvH) (Q : Option mvV → mvH → Prop) : Prop :=
  ∃ (y : MethodName) (bytes : ByteArray) (maxL : Nat) (rt : Option FieldType) (n k : Nat), YT[mid]? = some (y, n, k) ∧ mvMw y bytes maxL rt n k ∧ mvrecv k n as ∧ Met l y (Cond.code y bytes maxL rt :: mvWS) (mvRm d) (mvPc D cI cC ad as h) (mvQc D cI cC ad Q) 0 0 (mvA ad)
theorem mvcopy_ws : Cond.native arraycopyName ∈ mvWS ∧ Cond.static arraycopyName ∈ mvWS ∧ Cond.initialized "java/lang/System" ∈ mvWS := ⟨mvWS_at 675 (by decide +kernel) (by decide +kernel), mvWS_at 674 (by decide +kernel) (by decide +kernel), mvWS_at 93 (by decide +kernel) (by decide +kernel)⟩
section MVM
variable {YT : List mvN} {p : Program} {l : Launch} {e : Env} {R : Room} {s : State} {m : MethodId} {args : Array Value} {below : List Frame} {meth : Method} {c : Code} {own : String} {cc : ByteArray} {nL : Nat} {ret : Option FieldType} {D : va_G} {cI cC : ClassId} {ad : Nat → Nat} {pc d : Nat} {L : mvL} {st : List mvV} {h : mvH} {Q : Option mvV → mvH → Prop} {cal : mvC} {k : mvL → List mvV → mvH → Prop}
set_option maxHeartbeats 4000000 in
theorem mv_step (C : mvCx p s m args meth c own cc nL ret D cI cC ad) (hR : (mvRm d).frames + 1 ≤ R.frames ∧ (mvRm d).locals + 40 ≤ R.locals) (hcal : ∀ mid as h Q, cal mid as h Q → mvSnd YT l D cI cC ad d mid as h Q) (ee : mvE) (hc : mvchk YT own cc nL ret pc ee = true)
    (hk : ∀ L st h, k L st h → mvKK p l e R s m args below meth c nL D cI cC ad (MQ below (mvQc D cI cC ad Q) args s 0 0 (mvA ad)) ee.2.1 L st h)
    (hs : mvStep cal Q (mvKK p l e R s m args below meth c nL D cI cC ad (MQ below (mvQc D cI cC ad Q) args s 0 0 (mvA ad))) ee k L st h) : mvKK p l e R s m args below meth c nL D cI cC ad (MQ below (mvQc D cI cC ad Q) args s 0 0 (mvA ad)) pc L st h := by
  obtain ⟨i, nx, a, b, lk, cst, sw⟩ := ee
  simp only [mvchk, Bool.and_eq_true, decide_eq_true_eq] at hc
  obtain ⟨⟨hlt, hd⟩, hc⟩ := hc
  obtain ⟨n, rfl⟩ : ∃ n, nx = pc + n := ⟨nx - pc, by omega⟩
  rw [show pc + n - pc = n by omega] at hd
  dsimp only at hk
  cases i
  case iconst z => simp at hc; exact ms_const C hd (Or.inl ⟨z, rfl, hc.1, hc.2⟩) (hk _ _ _ hs)
  case bipush z => simp at hc; exact ms_const C hd (Or.inr (Or.inl ⟨z, rfl, hc.1, hc.2⟩)) (hk _ _ _ hs)
  case sipush z => simp at hc; exact ms_const C hd (Or.inr (Or.inr (Or.inl ⟨z, rfl, hc.1, hc.2⟩))) (hk _ _ _ hs)
  case ldc z => simp at hc; exact ms_const C hd (Or.inr (Or.inr (Or.inr (Or.inl ⟨z, rfl, hc.1, mvKL_in _ (List.mem_of_getElem? hc.2)⟩)))) (hk _ _ _ hs)
  case ldc_w z => simp at hc; exact ms_const C hd (Or.inr (Or.inr (Or.inr (Or.inr ⟨z, rfl, hc.1, mvKL_in _ (List.mem_of_getElem? hc.2)⟩)))) (hk _ _ _ hs)
  case iload z =>
    simp at hc
    obtain ⟨h1, rfl⟩ := hc
    simp only [mvStep] at hs
    split at hs
    · rename_i x hx; exact ms_iload C hd (Or.inl ⟨rfl, h1⟩) hx (hk _ _ _ hs)
    · exact hs.elim
  case iload_n z =>
    simp at hc
    simp only [mvStep] at hs
    split at hs
    · rename_i x hx; exact ms_iload C hd (Or.inr ⟨z, rfl, hc.1, hc.2⟩) hx (hk _ _ _ hs)
    · exact hs.elim
  case aload_n z =>
    simp at hc
    simp only [mvStep] at hs
    split at hs
    · rename_i x hx; exact ms_aload C hd hc.1 hc.2 hx (hk _ _ _ hs)
    · exact hs.elim
  case istore z =>
    simp at hc
    obtain ⟨⟨h1, rfl⟩, h3⟩ := hc
    simp only [mvStep] at hs
    split at hs
    · obtain ⟨L', g1, g2, g3, g4⟩ := mvset_spec _ _ _ _ hs
      exact ms_istore C hd (Or.inl ⟨rfl, h1⟩) h3 (mvset_mono (fun L' z => hk _ _ _ z) hs)
    · exact hs.elim
  case istore_n z =>
    simp at hc
    obtain ⟨⟨h1, h2⟩, h3⟩ := hc
    simp only [mvStep] at hs
    split at hs
    · exact ms_istore C hd (Or.inr ⟨z, rfl, h1, h2⟩) h3 (mvset_mono (fun L' z => hk _ _ _ z) hs)
    · exact hs.elim
  case iinc z v =>
    simp at hc
    obtain ⟨⟨⟨h1, rfl⟩, h2⟩, h3⟩ := hc
    simp only [mvStep] at hs
    split at hs
    · rename_i x hx; exact ms_iinc C hd h1 h2 h3 hx (mvset_mono (fun L' z => hk _ _ _ z) hs)
    · exact hs.elim
  case iadd => simp at hc; simp only [mvStep] at hs; split at hs; (exact ms_bin C hd hc (by simp) (hk _ _ _ hs)); exact hs.elim
  case isub => simp at hc; simp only [mvStep] at hs; split at hs; (exact ms_bin C hd hc (by simp) (hk _ _ _ hs)); exact hs.elim
  case imul => simp at hc; simp only [mvStep] at hs; split at hs; (exact ms_bin C hd hc (by simp) (hk _ _ _ hs)); exact hs.elim
  case idiv => simp at hc; simp only [mvStep] at hs; split at hs; (exact ms_bin C hd hc (by simp [hs.1]) (hk _ _ _ hs.2)); exact hs.elim
  case irem => simp at hc; simp only [mvStep] at hs; split at hs; (exact ms_bin C hd hc (by simp [hs.1]) (hk _ _ _ hs.2)); exact hs.elim
  case iand => simp at hc; simp only [mvStep] at hs; split at hs; (exact ms_bin C hd hc (by simp) (hk _ _ _ hs)); exact hs.elim
  case ior => simp at hc; simp only [mvStep] at hs; split at hs; (exact ms_bin C hd hc (by simp) (hk _ _ _ hs)); exact hs.elim
  case ixor => simp at hc; simp only [mvStep] at hs; split at hs; (exact ms_bin C hd hc (by simp) (hk _ _ _ hs)); exact hs.elim
  case ishl => simp at hc; simp only [mvStep] at hs; split at hs; (exact ms_bin C hd hc (by simp) (hk _ _ _ hs)); exact hs.elim
  case ishr => simp at hc; simp only [mvStep] at hs; split at hs; (exact ms_bin C hd hc (by simp) (hk _ _ _ hs)); exact hs.elim
  case iushr => simp at hc; simp only [mvStep] at hs; split at hs; (exact ms_bin C hd hc (by simp) (hk _ _ _ hs)); exact hs.elim
  case dup => simp at hc; simp only [mvStep] at hs; split at hs; (exact ms_dup C hd hc (hk _ _ _ hs)); exact hs.elim
  case dup2 => simp at hc; simp only [mvStep] at hs; split at hs; (exact ms_dup2 C hd hc (hk _ _ _ hs)); exact hs.elim
  case pop => simp at hc; simp only [mvStep] at hs; split at hs; (exact ms_pop C hd hc (hk _ _ _ hs)); exact hs.elim
  case goto off => simp at hc; exact ms_goto C hd hc.1 hc.2 hs
  case if_icmp cd off =>
    simp at hc
    simp only [mvStep] at hs
    split at hs
    · cases cd
      · exact ms_icmp C hd hc.1 hc.2 (P := _) (Iff.rfl) hs.1 (fun z => hk _ _ _ (hs.2 z))
      · exact ms_icmp C hd hc.1 hc.2 (P := _) (Iff.rfl) hs.1 (fun z => hk _ _ _ (hs.2 (Classical.not_not.mp z)))
      · exact ms_icmp C hd hc.1 hc.2 (P := _) (Iff.rfl) hs.1 (fun z => hk _ _ _ (hs.2 z))
      · exact ms_icmp C hd hc.1 hc.2 (P := _) (Iff.rfl) hs.1 (fun z => hk _ _ _ (hs.2 z))
      · exact ms_icmp C hd hc.1 hc.2 (P := _) (Iff.rfl) hs.1 (fun z => hk _ _ _ (hs.2 z))
      · exact ms_icmp C hd hc.1 hc.2 (P := _) (Iff.rfl) hs.1 (fun z => hk _ _ _ (hs.2 z))
    · exact hs.elim
  case ifCond cd off =>
    simp at hc
    simp only [mvStep] at hs
    split at hs
    · cases cd
      · exact ms_if C hd hc.1 hc.2 (P := _) (Iff.rfl) hs.1 (fun z => hk _ _ _ (hs.2 z))
      · exact ms_if C hd hc.1 hc.2 (P := _) (Iff.rfl) hs.1 (fun z => hk _ _ _ (hs.2 (Classical.not_not.mp z)))
      · exact ms_if C hd hc.1 hc.2 (P := _) (Iff.rfl) hs.1 (fun z => hk _ _ _ (hs.2 z))
      · exact ms_if C hd hc.1 hc.2 (P := _) (Iff.rfl) hs.1 (fun z => hk _ _ _ (hs.2 z))
      · exact ms_if C hd hc.1 hc.2 (P := _) (Iff.rfl) hs.1 (fun z => hk _ _ _ (hs.2 z))
      · exact ms_if C hd hc.1 hc.2 (P := _) (Iff.rfl) hs.1 (fun z => hk _ _ _ (hs.2 z))
    · exact hs.elim
  case tableswitch df lo hi offs =>
    simp only [Bool.and_eq_true, decide_eq_true_eq] at hc
    simp only [mvStep] at hs
    split at hs
    · exact ms_tsw C hd hc.1.1 hc.1.2 hc.2 hs
    · exact hs.elim
  case lookupswitch df ps =>
    simp only [Bool.and_eq_true, decide_eq_true_eq] at hc
    simp only [mvStep] at hs
    split at hs
    · exact ms_lsw C hd hc.1.1 hc.1.2 hc.2 hs
    · exact hs.elim
  case getstatic z =>
    simp at hc
    exact ms_gets C hd hc.1 (List.mem_of_getElem? hc.2) (hk _ _ _ hs)
  case iaload =>
    simp at hc; simp only [mvStep] at hs; split at hs
    · split at hs
      · rename_i n hn; exact ms_iald C hd hc hn hs.1 (hk _ _ _ hs.2)
      · exact hs.elim
    · exact hs.elim
  case caload =>
    simp at hc; simp only [mvStep] at hs; split at hs
    · split at hs
      · rename_i n hn; exact ms_cald C hd hc hn hs.1 (hk _ _ _ hs.2)
      · exact hs.elim
    · exact hs.elim
  case iastore =>
    simp at hc; simp only [mvStep] at hs; split at hs
    · split at hs
      · rename_i hq
        split at hs
        · rename_i n hn; exact ms_iast C hd hc (Nat.le_of_ble_eq_true hq) hn hs.1 (hk _ _ _ hs.2)
        · exact hs.elim
      · exact hs.elim
    · exact hs.elim
  case castore =>
    simp at hc; simp only [mvStep] at hs; split at hs
    · split at hs
      · rename_i hq
        split at hs
        · rename_i n hn; exact ms_cast C hd hc (Nat.le_of_ble_eq_true hq) hn hs.1 (mvnar_char hs.2.1).2 (hk _ _ _ hs.2.2)
        · exact hs.elim
      · exact hs.elim
    · exact hs.elim
  case arraylength =>
    simp at hc; simp only [mvStep] at hs; split at hs
    · split at hs
      · rename_i hq
        split at hs
        · rename_i n hn; exact ms_alen C hd hc (Nat.le_of_ble_eq_true hq) hn (by decide) (hk _ _ _ hs)
        · rename_i n hn; exact ms_alen C hd hc (Nat.le_of_ble_eq_true hq) hn (by decide) (hk _ _ _ hs)
        · exact hs.elim
      · exact hs.elim
    · exact hs.elim
  case getfield z =>
    simp only [Bool.and_eq_true, beq_iff_eq] at hc
    obtain ⟨hn, hc⟩ := hc
    have hn : n = 3 := by omega
    simp only [mvStep] at hs
    split at hs
    · split at hs
      · rename_i q r ci fs ho
        split at hs
        · rename_i hci
          have hci : ci = b := Nat.eq_of_beq_eq_true hci
          subst hci
          split at hc
          · rename_i Cn T N hcl
            have hl : Cond.fieldLink own z (T a).1 (T a).2.1 (T a).2.2.1 ∈ mvFL ∨ Cond.fieldLinkNest own z (T a).1 (T a).2.1 (T a).2.2.1 "ReactWires" ∈ mvNW := by
              simp only [Bool.or_eq_true, decide_eq_true_eq] at hc
              rcases hc with hc | hc
              · exact Or.inl (List.mem_of_getElem? hc)
              · exact Or.inr (List.mem_of_getElem? hc)
            unfold mvfld at hs
            split at hs
            · rename_i f hf; exact ms_getf C hd hn ho hcl hf rfl hl (hk _ _ _ hs)
            · rename_i f hf0 hf
              match f, hf0, hf with
              | 0, _, hf => exact ms_getf C hd hn ho hcl hf rfl hl (hk _ _ _ hs)
              | 1, _, hf => exact ms_getf C hd hn ho hcl hf rfl hl (hk _ _ _ hs)
              | f + 2, hf0, _ => exact absurd rfl (hf0 f)
            · exact hs.elim
          · simp at hc
        · exact hs.elim
      · exact hs.elim
    · exact hs.elim
  case putfield z =>
    simp only [Bool.and_eq_true, beq_iff_eq] at hc
    obtain ⟨hn, hc⟩ := hc
    have hn : n = 3 := by omega
    simp only [mvStep] at hs
    split at hs
    · split at hs
      · rename_i v q r ci fs ho
        split at hs
        · rename_i hci
          have hci : ci = b := Nat.eq_of_beq_eq_true hci
          subst hci
          split at hc
          · rename_i Cn T N hcl
            have hl : Cond.fieldLink own z (T a).1 (T a).2.1 (T a).2.2.1 ∈ mvFL := List.mem_of_getElem? (by simpa using hc)
            split at hs
            · rename_i hf; exact ms_putf C hd hn ho hcl hf (Or.inl rfl) hl (hk _ _ _ hs)
            · rename_i hf; exact ms_putf C hd hn ho hcl hf (Or.inr ⟨rfl, hs.1⟩) hl (hk _ _ _ hs.2)
            · exact hs.elim
          · simp at hc
        · exact hs.elim
      · exact hs.elim
    · exact hs.elim
  case invokevirtual z =>
    simp only [Bool.and_eq_true, beq_iff_eq] at hc
    obtain ⟨hn, hc⟩ := hc
    obtain rfl : n = 3 := by omega
    simp only [mvStep] at hs
    obtain ⟨as, r, rfl, hlen, hs⟩ := mvpop_spec _ _ _ _ hs
    split at hs
    · rename_i hr
      obtain ⟨y, bytes, maxL, rt, n', k', hy, hw, hrv, hM⟩ := hcal _ _ _ _ hs
      rw [hy] at hc
      simp only [Bool.and_eq_true, beq_iff_eq, decide_eq_true_eq] at hc
      obtain ⟨⟨hc1, rfl⟩, hc2⟩ := hc
      match k', hc2, hw, hrv with
      | ci + 1, _, hw, hrv =>
        rw [List.append_nil] at hM hrv
        have has : as = as.reverse.reverse := by simp
        rw [has]
        unfold mvrecv at hrv
        simp only at hrv
        split at hrv
        · rename_i q tl heq
          rw [heq] at hM ⊢
          obtain ⟨hr1, hr2, hr3⟩ := hrv
          obtain ⟨⟨ci', fs⟩, ho, rfl⟩ := Option.map_eq_some_iff.mp hr3
          rw [List.reverse_cons, List.append_assoc]
          exact ms_callV C hR hd hM hw (mvML_in _ (List.mem_of_getElem? hc1)) ho hr1 (Nat.le_of_ble_eq_true hr) (fun v h' z => hk _ _ _ z)
        · exact hrv.elim
    · exact hs.elim
  case invokestatic z =>
    simp only [Bool.and_eq_true, beq_iff_eq] at hc
    obtain ⟨hn, hc⟩ := hc
    obtain rfl : n = 3 := by omega
    simp only [mvStep] at hs
    split at hs
    · rename_i ha
      rw [ha] at hc
      obtain ⟨as, r, rfl, hlen, hs⟩ := mvpop_spec _ _ _ _ hs
      split at hs
      · rename_i hr
        obtain ⟨y, bytes, maxL, rt, n', k', hy, hw, hrv, hM⟩ := hcal _ _ _ _ hs
        rw [hy] at hc
        simp only [Bool.and_eq_true, beq_iff_eq, decide_eq_true_eq] at hc
        obtain ⟨⟨hc1, rfl⟩, rfl⟩ := hc
        rw [List.append_nil] at hM hrv
        have has : as = as.reverse.reverse := by simp
        rw [has]
        exact ms_callS C hR hd hM hw (mvML_in _ (List.mem_of_getElem? hc1)) hrv (Nat.le_of_ble_eq_true hr) (fun v h' z => hk _ _ _ z)
      · exact hs.elim
    · rename_i ha
      rw [ha] at hc
      simp only [decide_eq_true_eq] at hc
      split at hs
      · split at hs
        · rename_i hqs
          simp only [Bool.and_eq_true] at hqs
          split at hs
          · rename_i n0 n1 h0 h1
            exact ms_copy C hd rfl (mvML_in _ (List.mem_of_getElem? hc)) mvcopy_ws.1 mvcopy_ws.2.1 mvcopy_ws.2.2 (Nat.le_of_ble_eq_true hqs.1.2) (Nat.le_of_ble_eq_true hqs.2) h0 h1 hs.1.1 hs.1.2.1 hs.1.2.2.1 hs.1.2.2.2.1 hs.1.2.2.2.2 ⟨by omega, by have := hR.2; simp only [mvRm] at this; omega⟩ (Nat.le_of_ble_eq_true hqs.1.1) (hk _ _ _ hs.2)
          · exact hs.elim
        · exact hs.elim
      · exact hs.elim
  case ireturn =>
    simp only [Bool.and_eq_true, beq_iff_eq] at hc
    simp only [mvStep] at hs
    split at hs
    · refine ms_iret C hd (by omega) ?_ hs.1 hs.2
      have hc2 := hc.2
      unfold mvRb
      match b, hc2 with
      | 0, hc2 => simpa using hc2
      | 1, hc2 => simpa using hc2
      | 2, hc2 => simpa using hc2
      | _ + 3, hc2 => simp at hc2
    · exact hs.elim
  case return_ =>
    simp only [Bool.and_eq_true, beq_iff_eq, decide_eq_true_eq] at hc
    simp only [mvStep] at hs
    split at hs
    · exact ms_vret C hd (by omega) hc.2 hs
    · exact hs.elim
  all_goals exact absurd hc (by simp)
end MVM
