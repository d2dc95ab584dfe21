/-! THE LAW's loop -/
set_option maxHeartbeats 4000000 in
set_option maxRecDepth 100000 in
theorem law_loop {p : Program} {l : Launch} {e : Env} {s : State} {m : MethodId} {below : List Frame} {meth : Method} {c : Code} {D : va_G} {cI cC : ClassId} {ad : Nat → Nat} {b L cells slots : Nat} {xs : Nat → Int32} (hL : L ≤ 128) (C0 : lw_At p s m meth c b L xs) (hK : va_K D vwCl (mvTy cI cC) s) (hAd : mvAd ad) (hge : ∀ q, mvA ad q → s.heap.size ≤ q) (hZ : mvZ ad s) (hN : ∀ w ∈ mvNW, va_Nw w s) (hcs : cells ≤ 600000 ∧ slots ≤ 7302250) :
    ∀ (n i : Nat) (x3 : Int32), i ≤ L + 1 → L + 2 ≤ i + n → x3 = nI i → ∀ (h : mvH) (H : Heap) (locs : List Loc), INV h → mvWd D cI cC ad h H → va_S (fun q : Nat => s.heap.size ≤ q) s.heap H locs → ∀ (ls : Array Slot), lv_has ls 4 [(0, .ref b), (1, .ref (ad 0)), (2, .ref (ad 5)), (3, .int x3)] → W p l e room_1 s m #[Value.ref b] below meth c H locs cells slots (lw_Z below #[Value.ref b] s) (F0 m 18 ls []) := by
  obtain ⟨hx, hb, hr, hml, hown, hts0, hX, hbl, hlocks, hgv⟩ := C0
  have hts : ∀ w ∈ mvWS, w.before #[Value.ref b] s = true := fun w hw => hts0 w (List.mem_filter.mp hw).1
  have hbA : ¬ (fun q : Nat => s.heap.size ≤ q) b := Nat.not_le.mpr hbl
  intro n
  induction n with
  | zero => intro i x3 h1 h2; exact absurd h2 (by omega)
  | succ n ih =>
    intro i x3 hi hin ex3 h H locs hI hwd hS ls hl
    refine lv_iload_n hx hb dL_law_18 rfl (lv_at hl 3 rfl) ?_
    refine lv_aload_n hx hb dL_law_19 rfl (lv_at hl 0 rfl) ?_
    refine va_slen hx hb hX hbl hbA hS dL_law_20 ?_
    refine lv_iconst (v := 2) hx hb dL_law_21 (by decide) ?_
    refine lv_isub hx hb dL_law_22 ?_
    refine lv_icmp_gt (tgt := 291) hx hb dL_law_23 (by decide) (fun _ => ?_) (fun c10 => ?_)
    · refine lv_iconst (v := 1) hx hb dL_law_291 (by decide) ?_
      refine va_forget (fun q hq => hS.2.2 q hq) ?_
      refine W.widen (k := 600000) (n := 7302250) hcs.1 hcs.2 ?_
      exact lw_ret hx hb hr hlocks dL_law_292
    · have hlt : i + 2 ≤ L := lw_more L (by omega) i (by omega) (by rw [← ex3]; exact c10)
      have hin0 : vp_in x3 L := by rw [ex3]; exact vp_in_nI (by omega) (by omega)
      have hin1 : vp_in (x3 + 1) L := by rw [ex3, nI_1]; exact vp_in_nI (by omega) (by omega)
      refine lv_aload_n hx hb dL_law_26 rfl (lv_at hl 0 rfl) ?_
      refine lv_iload_n hx hb dL_law_27 rfl (lv_at hl 3 rfl) ?_
      refine va_sld hx hb hX hbl hbA hS hin0 dL_law_28 ?_
      refine lv_bipush (v := 15) hx hb dL_law_29 (by decide) ?_
      refine lv_iand hx hb dL_law_31 ?_
      have c285 : ∀ (h2 : mvH) (H2 : Heap) (locs2 : List Loc), INV h2 → mvWd D cI cC ad h2 H2 → va_S (fun q : Nat => s.heap.size ≤ q) s.heap H2 locs2 → W p l e room_1 s m #[Value.ref b] below meth c H2 locs2 cells slots (lw_Z below #[Value.ref b] s) (F0 m 285 ls []) := by
        intro h2 H2 locs2 hI2 hwd2 hS2
        refine lv_iinc (v := nI (i + 2)) (lv' := [(3, .int (nI (i + 2))), (0, .ref b), (1, .ref (ad 0)), (2, .ref (ad 5))]) hx hb dL_law_285 hl (k := 3) rfl (by rw [ex3]; exact nI_add i 2) (by decide) rfl (fun ls hl => ?_)
        refine lv_goto (tgt := 18) hx hb dL_law_288 (by decide) ?_
        exact ih (i + 2) (nI (i + 2)) (by omega) (by omega) rfl h2 H2 locs2 hI2 hwd2 hS2 ls (lv_sub hl [1, 2, 3, 0] rfl)
      obtain ⟨k, hk, ek⟩ := and_15 (xs x3.toNatClampNeg)
      have dflt : ∀ k, 11 ≤ k → k < 16 → xs x3.toNatClampNeg &&& 15 = nI k → W p l e room_1 s m #[Value.ref b] below meth c H locs cells slots (lw_Z below #[Value.ref b] s) (F0 m 32 ls [.int (xs x3.toNatClampNeg &&& 15)]) := by
        intro k k1 k2 ek
        have hgt : ∀ k, k < 16 → 11 ≤ k → (10 : Int) < (nI k).toInt := by decide
        refine lv_tableOut (tgt := 285) hx hb dL_law_32 (Or.inr (by rw [ek]; exact hgt k k2 k1)) (by decide) ?_
        exact c285 h H locs hI hwd hS
      match k, hk, ek with
      | 0, _, ek => -- type
        refine lv_tableIn (off := 60) (tgt := 92) hx hb dL_law_32 (by rw [ek]; decide) (by rw [ek]; decide) (by rw [ek]; rfl) (by decide) ?_
        refine lv_aload_n hx hb dL_law_92 rfl (lv_at hl 1 rfl) ?_
        refine lv_aload_n hx hb dL_law_93 rfl (lv_at hl 0 rfl) ?_
        refine lv_iload_n hx hb dL_law_94 rfl (lv_at hl 3 rfl) ?_
        refine lv_iconst (v := 1) hx hb dL_law_95 (by decide) ?_
        refine lv_iadd hx hb dL_law_96 ?_
        refine va_sld hx hb hX hbl hbA hS hin1 dL_law_97 ?_
        refine lv_i2c (v := ((xs (x3 + 1).toNatClampNeg).toUInt32 % 65536).toInt32) hx hb dL_law_98 rfl ?_
        refine lw_call (mid := 84) (q := 0) (tl := [.inl (((xs (x3 + 1).toNatClampNeg).toUInt32 % 65536).toInt32)]) (rest := []) hx hb hml hown hts hK hAd hge hZ hN hwd hS hl.1 hcs (cp_type (d := 430) (Nat.le_refl _) hI (((xs (x3 + 1).toNatClampNeg).toUInt32 % 65536).toInt32)) rfl rfl (mvWS_at 285 (by decide +kernel) (by decide +kernel)) dL_law_99 (Nat.le_of_ble_eq_true rfl) (fun r h1 H1 locs1 hQ hwd1 hS1 => ?_)
        obtain ⟨⟨w, rfl⟩, hcal2⟩ := hQ
        refine lv_aload_n hx hb dL_law_102 rfl (lv_at hl 2 rfl) ?_
        refine lv_aload_n hx hb dL_law_103 rfl (lv_at hl 0 rfl) ?_
        refine lv_iload_n hx hb dL_law_104 rfl (lv_at hl 3 rfl) ?_
        refine lv_iconst (v := 1) hx hb dL_law_105 (by decide) ?_
        refine lv_iadd hx hb dL_law_106 ?_
        refine va_sld hx hb hX hbl hbA hS1 hin1 dL_law_107 ?_
        refine lv_i2c (v := ((xs (x3 + 1).toNatClampNeg).toUInt32 % 65536).toInt32) hx hb dL_law_108 rfl ?_
        refine lw_call (mid := 96) (q := 5) (tl := [.inl (((xs (x3 + 1).toNatClampNeg).toUInt32 % 65536).toInt32)]) (rest := [.int w]) hx hb hml hown hts hK hAd hge hZ hN hwd1 hS1 hl.1 hcs hcal2 rfl rfl (mvWS_at 850 (by decide +kernel) (by decide +kernel)) dL_law_109 (Nat.le_of_ble_eq_true rfl) (fun r2 h2 H2 locs2 hQ2 hwd2 hS2 => ?_)
        obtain ⟨rfl, hI2⟩ := hQ2
        refine lv_icmp_eq (tgt := 285) hx hb dL_law_112 (by decide) (fun _ => ?_) (fun z => absurd rfl z)
        exact c285 h2 H2 locs2 hI2 hwd2 hS2
      | 1, _, ek => -- wipe
        refine lv_tableIn (off := 85) (tgt := 117) hx hb dL_law_32 (by rw [ek]; decide) (by rw [ek]; decide) (by rw [ek]; rfl) (by decide) ?_
        refine lv_aload_n hx hb dL_law_117 rfl (lv_at hl 1 rfl) ?_
        refine lw_call (mid := 85) (q := 0) (tl := []) (rest := []) hx hb hml hown hts hK hAd hge hZ hN hwd hS hl.1 hcs (cp_wipe (d := 430) (Nat.le_refl _) hI) rfl rfl (mvWS_at 293 (by decide +kernel) (by decide +kernel)) dL_law_118 (Nat.le_of_ble_eq_true rfl) (fun r h1 H1 locs1 hQ hwd1 hS1 => ?_)
        obtain ⟨rfl, hcal2⟩ := hQ
        refine lv_aload_n hx hb dL_law_121 rfl (lv_at hl 2 rfl) ?_
        refine lw_call (mid := 97) (q := 5) (tl := []) (rest := []) hx hb hml hown hts hK hAd hge hZ hN hwd1 hS1 hl.1 hcs hcal2 rfl rfl (mvWS_at 854 (by decide +kernel) (by decide +kernel)) dL_law_122 (Nat.le_of_ble_eq_true rfl) (fun r2 h2 H2 locs2 hQ2 hwd2 hS2 => ?_)
        obtain ⟨rfl, hI2⟩ := hQ2
        refine lv_goto (tgt := 285) hx hb dL_law_125 (by decide) ?_
        exact c285 h2 H2 locs2 hI2 hwd2 hS2
      | 2, _, ek => -- load
        refine lv_tableIn (off := 96) (tgt := 128) hx hb dL_law_32 (by rw [ek]; decide) (by rw [ek]; decide) (by rw [ek]; rfl) (by decide) ?_
        refine lv_aload_n hx hb dL_law_128 rfl (lv_at hl 1 rfl) ?_
        refine lw_call (mid := 86) (q := 0) (tl := []) (rest := []) hx hb hml hown hts hK hAd hge hZ hN hwd hS hl.1 hcs (cp_load (d := 430) (Nat.le_refl _) hI) rfl rfl (mvWS_at 301 (by decide +kernel) (by decide +kernel)) dL_law_129 (Nat.le_of_ble_eq_true rfl) (fun r h1 H1 locs1 hQ hwd1 hS1 => ?_)
        obtain ⟨⟨w, rfl⟩, hcal2⟩ := hQ
        refine lv_aload_n hx hb dL_law_132 rfl (lv_at hl 2 rfl) ?_
        refine lw_call (mid := 115) (q := 5) (tl := []) (rest := [.int w]) hx hb hml hown hts hK hAd hge hZ hN hwd1 hS1 hl.1 hcs hcal2 rfl rfl (mvWS_at 858 (by decide +kernel) (by decide +kernel)) dL_law_133 (Nat.le_of_ble_eq_true rfl) (fun r2 h2 H2 locs2 hQ2 hwd2 hS2 => ?_)
        obtain ⟨rfl, hI2⟩ := hQ2
        refine lv_icmp_eq (tgt := 285) hx hb dL_law_136 (by decide) (fun _ => ?_) (fun z => absurd rfl z)
        exact c285 h2 H2 locs2 hI2 hwd2 hS2
      | 3, _, ek => -- react
        refine lv_tableIn (off := 109) (tgt := 141) hx hb dL_law_32 (by rw [ek]; decide) (by rw [ek]; decide) (by rw [ek]; rfl) (by decide) ?_
        refine lv_aload_n hx hb dL_law_141 rfl (lv_at hl 1 rfl) ?_
        refine lv_aload_n hx hb dL_law_142 rfl (lv_at hl 0 rfl) ?_
        refine lv_iload_n hx hb dL_law_143 rfl (lv_at hl 3 rfl) ?_
        refine lv_iconst (v := 1) hx hb dL_law_144 (by decide) ?_
        refine lv_iadd hx hb dL_law_145 ?_
        refine va_sld hx hb hX hbl hbA hS hin1 dL_law_146 ?_
        refine lw_call (mid := 87) (q := 0) (tl := [.inl (xs (x3 + 1).toNatClampNeg)]) (rest := []) hx hb hml hown hts hK hAd hge hZ hN hwd hS hl.1 hcs (cp_react (d := 430) (Nat.le_refl _) hI (xs (x3 + 1).toNatClampNeg)) rfl rfl (mvWS_at 463 (by decide +kernel) (by decide +kernel)) dL_law_147 (Nat.le_of_ble_eq_true rfl) (fun r h1 H1 locs1 hQ hwd1 hS1 => ?_)
        obtain ⟨⟨w, rfl⟩, hcal2⟩ := hQ
        refine lv_aload_n hx hb dL_law_150 rfl (lv_at hl 2 rfl) ?_
        refine lv_aload_n hx hb dL_law_151 rfl (lv_at hl 0 rfl) ?_
        refine lv_iload_n hx hb dL_law_152 rfl (lv_at hl 3 rfl) ?_
        refine lv_iconst (v := 1) hx hb dL_law_153 (by decide) ?_
        refine lv_iadd hx hb dL_law_154 ?_
        refine va_sld hx hb hX hbl hbA hS1 hin1 dL_law_155 ?_
        refine lw_call (mid := 134) (q := 5) (tl := [.inl (xs (x3 + 1).toNatClampNeg)]) (rest := [.int w]) hx hb hml hown hts hK hAd hge hZ hN hwd1 hS1 hl.1 hcs hcal2 rfl rfl (mvWS_at 944 (by decide +kernel) (by decide +kernel)) dL_law_156 (Nat.le_of_ble_eq_true rfl) (fun r2 h2 H2 locs2 hQ2 hwd2 hS2 => ?_)
        obtain ⟨rfl, hI2⟩ := hQ2
        refine lv_icmp_eq (tgt := 285) hx hb dL_law_159 (by decide) (fun _ => ?_) (fun z => absurd rfl z)
        exact c285 h2 H2 locs2 hI2 hwd2 hS2
      | 4, _, ek => -- restart
        refine lv_tableIn (off := 132) (tgt := 164) hx hb dL_law_32 (by rw [ek]; decide) (by rw [ek]; decide) (by rw [ek]; rfl) (by decide) ?_
        refine lv_aload_n hx hb dL_law_164 rfl (lv_at hl 1 rfl) ?_
        refine lw_call (mid := 88) (q := 0) (tl := []) (rest := []) hx hb hml hown hts hK hAd hge hZ hN hwd hS hl.1 hcs (cp_restart (d := 430) (Nat.le_refl _) hI) rfl rfl (mvWS_at 604 (by decide +kernel) (by decide +kernel)) dL_law_165 (Nat.le_of_ble_eq_true rfl) (fun r h1 H1 locs1 hQ hwd1 hS1 => ?_)
        obtain ⟨⟨w, rfl⟩, hcal2⟩ := hQ
        refine lv_aload_n hx hb dL_law_168 rfl (lv_at hl 2 rfl) ?_
        refine lw_call (mid := 135) (q := 5) (tl := []) (rest := [.int w]) hx hb hml hown hts hK hAd hge hZ hN hwd1 hS1 hl.1 hcs hcal2 rfl rfl (mvWS_at 1001 (by decide +kernel) (by decide +kernel)) dL_law_169 (Nat.le_of_ble_eq_true rfl) (fun r2 h2 H2 locs2 hQ2 hwd2 hS2 => ?_)
        obtain ⟨rfl, hI2⟩ := hQ2
        refine lv_icmp_eq (tgt := 285) hx hb dL_law_172 (by decide) (fun _ => ?_) (fun z => absurd rfl z)
        exact c285 h2 H2 locs2 hI2 hwd2 hS2
      | 5, _, ek => -- outputs
        refine lv_tableIn (off := 145) (tgt := 177) hx hb dL_law_32 (by rw [ek]; decide) (by rw [ek]; decide) (by rw [ek]; rfl) (by decide) ?_
        refine lv_aload_n hx hb dL_law_177 rfl (lv_at hl 1 rfl) ?_
        refine lw_call (mid := 89) (q := 0) (tl := []) (rest := []) hx hb hml hown hts hK hAd hge hZ hN hwd hS hl.1 hcs (cp_outputs (d := 430) (Nat.le_refl _) hI) rfl rfl (mvWS_at 608 (by decide +kernel) (by decide +kernel)) dL_law_178 (Nat.le_of_ble_eq_true rfl) (fun r h1 H1 locs1 hQ hwd1 hS1 => ?_)
        obtain ⟨⟨w, rfl⟩, hcal2⟩ := hQ
        refine lv_aload_n hx hb dL_law_181 rfl (lv_at hl 2 rfl) ?_
        refine lw_call (mid := 136) (q := 5) (tl := []) (rest := [.int w]) hx hb hml hown hts hK hAd hge hZ hN hwd1 hS1 hl.1 hcs hcal2 rfl rfl (mvWS_at 1005 (by decide +kernel) (by decide +kernel)) dL_law_182 (Nat.le_of_ble_eq_true rfl) (fun r2 h2 H2 locs2 hQ2 hwd2 hS2 => ?_)
        obtain ⟨rfl, hI2⟩ := hQ2
        refine lv_icmp_eq (tgt := 285) hx hb dL_law_185 (by decide) (fun _ => ?_) (fun z => absurd rfl z)
        exact c285 h2 H2 locs2 hI2 hwd2 hS2
      | 6, _, ek => -- open
        refine lv_tableIn (off := 158) (tgt := 190) hx hb dL_law_32 (by rw [ek]; decide) (by rw [ek]; decide) (by rw [ek]; rfl) (by decide) ?_
        refine lv_aload_n hx hb dL_law_190 rfl (lv_at hl 1 rfl) ?_
        refine lw_call (mid := 90) (q := 0) (tl := []) (rest := []) hx hb hml hown hts hK hAd hge hZ hN hwd hS hl.1 hcs (cp_open (d := 430) (Nat.le_refl _) hI) rfl rfl (mvWS_at 612 (by decide +kernel) (by decide +kernel)) dL_law_191 (Nat.le_of_ble_eq_true rfl) (fun r h1 H1 locs1 hQ hwd1 hS1 => ?_)
        obtain ⟨⟨w, rfl⟩, hcal2⟩ := hQ
        refine lv_aload_n hx hb dL_law_194 rfl (lv_at hl 2 rfl) ?_
        refine lw_call (mid := 137) (q := 5) (tl := []) (rest := [.int w]) hx hb hml hown hts hK hAd hge hZ hN hwd1 hS1 hl.1 hcs hcal2 rfl rfl (mvWS_at 1009 (by decide +kernel) (by decide +kernel)) dL_law_195 (Nat.le_of_ble_eq_true rfl) (fun r2 h2 H2 locs2 hQ2 hwd2 hS2 => ?_)
        obtain ⟨rfl, hI2⟩ := hQ2
        refine lv_icmp_eq (tgt := 285) hx hb dL_law_198 (by decide) (fun _ => ?_) (fun z => absurd rfl z)
        exact c285 h2 H2 locs2 hI2 hwd2 hS2
      | 7, _, ek => -- registers
        refine lv_tableIn (off := 171) (tgt := 203) hx hb dL_law_32 (by rw [ek]; decide) (by rw [ek]; decide) (by rw [ek]; rfl) (by decide) ?_
        refine lv_aload_n hx hb dL_law_203 rfl (lv_at hl 1 rfl) ?_
        refine lv_aload_n hx hb dL_law_204 rfl (lv_at hl 0 rfl) ?_
        refine lv_iload_n hx hb dL_law_205 rfl (lv_at hl 3 rfl) ?_
        refine lv_iconst (v := 1) hx hb dL_law_206 (by decide) ?_
        refine lv_iadd hx hb dL_law_207 ?_
        refine va_sld hx hb hX hbl hbA hS hin1 dL_law_208 ?_
        refine lw_call (mid := 91) (q := 0) (tl := [.inl (xs (x3 + 1).toNatClampNeg)]) (rest := []) hx hb hml hown hts hK hAd hge hZ hN hwd hS hl.1 hcs (cp_registers (d := 430) (Nat.le_refl _) hI (xs (x3 + 1).toNatClampNeg)) rfl rfl (mvWS_at 616 (by decide +kernel) (by decide +kernel)) dL_law_209 (Nat.le_of_ble_eq_true rfl) (fun r h1 H1 locs1 hQ hwd1 hS1 => ?_)
        obtain ⟨⟨w, rfl⟩, hcal2⟩ := hQ
        refine lv_aload_n hx hb dL_law_212 rfl (lv_at hl 2 rfl) ?_
        refine lv_aload_n hx hb dL_law_213 rfl (lv_at hl 0 rfl) ?_
        refine lv_iload_n hx hb dL_law_214 rfl (lv_at hl 3 rfl) ?_
        refine lv_iconst (v := 1) hx hb dL_law_215 (by decide) ?_
        refine lv_iadd hx hb dL_law_216 ?_
        refine va_sld hx hb hX hbl hbA hS1 hin1 dL_law_217 ?_
        refine lw_call (mid := 138) (q := 5) (tl := [.inl (xs (x3 + 1).toNatClampNeg)]) (rest := [.int w]) hx hb hml hown hts hK hAd hge hZ hN hwd1 hS1 hl.1 hcs hcal2 rfl rfl (mvWS_at 1013 (by decide +kernel) (by decide +kernel)) dL_law_218 (Nat.le_of_ble_eq_true rfl) (fun r2 h2 H2 locs2 hQ2 hwd2 hS2 => ?_)
        obtain ⟨rfl, hI2⟩ := hQ2
        refine lv_icmp_eq (tgt := 285) hx hb dL_law_221 (by decide) (fun _ => ?_) (fun z => absurd rfl z)
        exact c285 h2 H2 locs2 hI2 hwd2 hS2
      | 8, _, ek => -- look
        refine lv_tableIn (off := 194) (tgt := 226) hx hb dL_law_32 (by rw [ek]; decide) (by rw [ek]; decide) (by rw [ek]; rfl) (by decide) ?_
        refine lv_aload_n hx hb dL_law_226 rfl (lv_at hl 1 rfl) ?_
        refine lv_aload_n hx hb dL_law_227 rfl (lv_at hl 0 rfl) ?_
        refine lv_iload_n hx hb dL_law_228 rfl (lv_at hl 3 rfl) ?_
        refine lv_iconst (v := 1) hx hb dL_law_229 (by decide) ?_
        refine lv_iadd hx hb dL_law_230 ?_
        refine va_sld hx hb hX hbl hbA hS hin1 dL_law_231 ?_
        refine lw_call (mid := 92) (q := 0) (tl := [.inl (xs (x3 + 1).toNatClampNeg)]) (rest := []) hx hb hml hown hts hK hAd hge hZ hN hwd hS hl.1 hcs (cp_look (d := 430) (Nat.le_refl _) hI (xs (x3 + 1).toNatClampNeg)) rfl rfl (mvWS_at 620 (by decide +kernel) (by decide +kernel)) dL_law_232 (Nat.le_of_ble_eq_true rfl) (fun r h1 H1 locs1 hQ hwd1 hS1 => ?_)
        obtain ⟨⟨w, rfl⟩, hcal2⟩ := hQ
        refine lv_aload_n hx hb dL_law_235 rfl (lv_at hl 2 rfl) ?_
        refine lv_aload_n hx hb dL_law_236 rfl (lv_at hl 0 rfl) ?_
        refine lv_iload_n hx hb dL_law_237 rfl (lv_at hl 3 rfl) ?_
        refine lv_iconst (v := 1) hx hb dL_law_238 (by decide) ?_
        refine lv_iadd hx hb dL_law_239 ?_
        refine va_sld hx hb hX hbl hbA hS1 hin1 dL_law_240 ?_
        refine lw_call (mid := 139) (q := 5) (tl := [.inl (xs (x3 + 1).toNatClampNeg)]) (rest := [.int w]) hx hb hml hown hts hK hAd hge hZ hN hwd1 hS1 hl.1 hcs hcal2 rfl rfl (mvWS_at 1017 (by decide +kernel) (by decide +kernel)) dL_law_241 (Nat.le_of_ble_eq_true rfl) (fun r2 h2 H2 locs2 hQ2 hwd2 hS2 => ?_)
        obtain ⟨rfl, hI2⟩ := hQ2
        refine lv_icmp_eq (tgt := 285) hx hb dL_law_244 (by decide) (fun _ => ?_) (fun z => absurd rfl z)
        exact c285 h2 H2 locs2 hI2 hwd2 hS2
      | 9, _, ek => -- states
        refine lv_tableIn (off := 217) (tgt := 249) hx hb dL_law_32 (by rw [ek]; decide) (by rw [ek]; decide) (by rw [ek]; rfl) (by decide) ?_
        refine lv_aload_n hx hb dL_law_249 rfl (lv_at hl 1 rfl) ?_
        refine lw_call (mid := 93) (q := 0) (tl := []) (rest := []) hx hb hml hown hts hK hAd hge hZ hN hwd hS hl.1 hcs (cp_states (d := 430) (Nat.le_refl _) hI) rfl rfl (mvWS_at 628 (by decide +kernel) (by decide +kernel)) dL_law_250 (Nat.le_of_ble_eq_true rfl) (fun r h1 H1 locs1 hQ hwd1 hS1 => ?_)
        obtain ⟨⟨w, rfl⟩, hcal2⟩ := hQ
        refine lv_aload_n hx hb dL_law_253 rfl (lv_at hl 2 rfl) ?_
        refine lw_call (mid := 141) (q := 5) (tl := []) (rest := [.int w]) hx hb hml hown hts hK hAd hge hZ hN hwd1 hS1 hl.1 hcs hcal2 rfl rfl (mvWS_at 1021 (by decide +kernel) (by decide +kernel)) dL_law_254 (Nat.le_of_ble_eq_true rfl) (fun r2 h2 H2 locs2 hQ2 hwd2 hS2 => ?_)
        obtain ⟨rfl, hI2⟩ := hQ2
        refine lv_icmp_eq (tgt := 285) hx hb dL_law_257 (by decide) (fun _ => ?_) (fun z => absurd rfl z)
        exact c285 h2 H2 locs2 hI2 hwd2 hS2
      | 10, _, ek => -- found
        refine lv_tableIn (off := 230) (tgt := 262) hx hb dL_law_32 (by rw [ek]; decide) (by rw [ek]; decide) (by rw [ek]; rfl) (by decide) ?_
        refine lv_aload_n hx hb dL_law_262 rfl (lv_at hl 1 rfl) ?_
        refine lv_aload_n hx hb dL_law_263 rfl (lv_at hl 0 rfl) ?_
        refine lv_iload_n hx hb dL_law_264 rfl (lv_at hl 3 rfl) ?_
        refine lv_iconst (v := 1) hx hb dL_law_265 (by decide) ?_
        refine lv_iadd hx hb dL_law_266 ?_
        refine va_sld hx hb hX hbl hbA hS hin1 dL_law_267 ?_
        refine lw_call (mid := 94) (q := 0) (tl := [.inl (xs (x3 + 1).toNatClampNeg)]) (rest := []) hx hb hml hown hts hK hAd hge hZ hN hwd hS hl.1 hcs (cp_found (d := 430) (Nat.le_refl _) hI (xs (x3 + 1).toNatClampNeg)) rfl rfl (mvWS_at 676 (by decide +kernel) (by decide +kernel)) dL_law_268 (Nat.le_of_ble_eq_true rfl) (fun r h1 H1 locs1 hQ hwd1 hS1 => ?_)
        obtain ⟨⟨w, rfl⟩, hcal2⟩ := hQ
        refine lv_aload_n hx hb dL_law_271 rfl (lv_at hl 2 rfl) ?_
        refine lv_aload_n hx hb dL_law_272 rfl (lv_at hl 0 rfl) ?_
        refine lv_iload_n hx hb dL_law_273 rfl (lv_at hl 3 rfl) ?_
        refine lv_iconst (v := 1) hx hb dL_law_274 (by decide) ?_
        refine lv_iadd hx hb dL_law_275 ?_
        refine va_sld hx hb hX hbl hbA hS1 hin1 dL_law_276 ?_
        refine lw_call (mid := 142) (q := 5) (tl := [.inl (xs (x3 + 1).toNatClampNeg)]) (rest := [.int w]) hx hb hml hown hts hK hAd hge hZ hN hwd1 hS1 hl.1 hcs hcal2 rfl rfl (mvWS_at 1029 (by decide +kernel) (by decide +kernel)) dL_law_277 (Nat.le_of_ble_eq_true rfl) (fun r2 h2 H2 locs2 hQ2 hwd2 hS2 => ?_)
        obtain ⟨rfl, hI2⟩ := hQ2
        refine lv_icmp_eq (tgt := 285) hx hb dL_law_280 (by decide) (fun _ => ?_) (fun z => absurd rfl z)
        exact c285 h2 H2 locs2 hI2 hwd2 hS2
      | 11, _, ek => exact dflt 11 (by decide) (by decide) ek
      | 12, _, ek => exact dflt 12 (by decide) (by decide) ek
      | 13, _, ek => exact dflt 13 (by decide) (by decide) ek
      | 14, _, ek => exact dflt 14 (by decide) (by decide) ek
      | 15, _, ek => exact dflt 15 (by decide) (by decide) ek
      | k + 16, h, _ => exact absurd h (by omega)
