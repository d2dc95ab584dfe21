/-! the blocks held against the bytes; printed by program -/
set_option maxRecDepth 20000 in
theorem k_X5_known : mvMok mvYT 140 (yX5_known, cX5_known, 5, some .boolean, 1, 6, C_X5_known) := ⟨by decide +kernel, ⟨(mvWS_at 1028 (by decide +kernel) (by decide +kernel)), (mvWS_at 90 (by decide +kernel) (by decide +kernel)), ⟨(mvWS_at 1027 (by decide +kernel) (by decide +kernel)), (mvWS_at 83 (by decide +kernel) (by decide +kernel)), _, _, rfl⟩, ⟨by decide +kernel, by decide +kernel, by decide +kernel⟩, by decide, by decide +kernel⟩, fun q hq => List.all_eq_true.mp (show C_X5_known.all (fun q => mvchkB mvYT yX5_known.cls cX5_known 5 (some .boolean) q.1 q.2) = true by decide +kernel) q hq⟩
set_option maxRecDepth 20000 in
theorem k_X5_states : mvMok mvYT 141 (yX5_states, cX5_states, 9, some .int, 0, 6, C_X5_states) := ⟨by decide +kernel, ⟨(mvWS_at 1024 (by decide +kernel) (by decide +kernel)), (mvWS_at 90 (by decide +kernel) (by decide +kernel)), ⟨(mvWS_at 1022 (by decide +kernel) (by decide +kernel)), (mvWS_at 1023 (by decide +kernel) (by decide +kernel)), _, _, rfl⟩, ⟨by decide +kernel, by decide +kernel, by decide +kernel⟩, by decide, by decide +kernel⟩, fun q hq => List.all_eq_true.mp (show C_X5_states.all (fun q => mvchkB mvYT yX5_states.cls cX5_states 9 (some .int) q.1 q.2) = true by decide +kernel) q hq⟩
set_option maxRecDepth 20000 in
theorem k_X5_found : mvMok mvYT 142 (yX5_found, cX5_found, 2, some .int, 1, 6, C_X5_found) := ⟨by decide +kernel, ⟨(mvWS_at 1032 (by decide +kernel) (by decide +kernel)), (mvWS_at 90 (by decide +kernel) (by decide +kernel)), ⟨(mvWS_at 1030 (by decide +kernel) (by decide +kernel)), (mvWS_at 1031 (by decide +kernel) (by decide +kernel)), _, _, rfl⟩, ⟨by decide +kernel, by decide +kernel, by decide +kernel⟩, by decide, by decide +kernel⟩, fun q hq => List.all_eq_true.mp (show C_X5_found.all (fun q => mvchkB mvYT yX5_found.cls cX5_found 2 (some .int) q.1 q.2) = true by decide +kernel) q hq⟩
set_option maxRecDepth 20000 in
theorem k_J6_bitCount_0f7a4 : mvMok mvYT 143 (yJ6_bitCount_0f7a4, cJ6_bitCount_0f7a4, 1, some .int, 1, 0, C_J6_bitCount_0f7a4) := ⟨by decide +kernel, ⟨(mvWS_at 651 (by decide +kernel) (by decide +kernel)), (mvWS_at 92 (by decide +kernel) (by decide +kernel)), (mvWS_at 650 (by decide +kernel) (by decide +kernel)), ⟨by decide +kernel, by decide +kernel, by decide +kernel⟩, by decide, by decide +kernel⟩, fun q hq => List.all_eq_true.mp (show C_J6_bitCount_0f7a4.all (fun q => mvchkB mvYT yJ6_bitCount_0f7a4.cls cJ6_bitCount_0f7a4 1 (some .int) q.1 q.2) = true by decide +kernel) q hq⟩
set_option maxRecDepth 20000 in
theorem k_J7_fill_53178 : mvMok mvYT 144 (yJ7_fill_53178, cJ7_fill_53178, 4, none, 2, 0, C_J7_fill_53178) := ⟨by decide +kernel, ⟨(mvWS_at 420 (by decide +kernel) (by decide +kernel)), (mvWS_at 91 (by decide +kernel) (by decide +kernel)), (mvWS_at 419 (by decide +kernel) (by decide +kernel)), ⟨by decide +kernel, by decide +kernel, by decide +kernel⟩, by decide, by decide +kernel⟩, fun q hq => List.all_eq_true.mp (show C_J7_fill_53178.all (fun q => mvchkB mvYT yJ7_fill_53178.cls cJ7_fill_53178 4 (none) q.1 q.2) = true by decide +kernel) q hq⟩
theorem mvMT_ok : ∀ mid M, mvMT mid = some M → mvMok mvYT mid M := by
  intro mid M h
  unfold mvMT at h
  match mid, h with
  | 0, h => exact (Option.some.inj h) ▸ k_X0_append
  | 1, h => exact (Option.some.inj h) ▸ k_X0_clear
  | 2, h => exact (Option.some.inj h) ▸ k_X0_rewind
  | 3, h => exact (Option.some.inj h) ▸ k_X0_isReadWhole
  | 4, h => exact (Option.some.inj h) ▸ k_X0_take
  | 5, h => exact (Option.some.inj h) ▸ k_X0_skip
  | 6, h => exact (Option.some.inj h) ▸ k_X1_forget
  | 7, h => exact (Option.some.inj h) ▸ k_X1_lookThrough
  | 8, h => exact (Option.some.inj h) ▸ k_X1_tally
  | 9, h => exact (Option.some.inj h) ▸ k_X1_begin
  | 10, h => exact (Option.some.inj h) ▸ k_X1_addToTallies
  | 11, h => exact (Option.some.inj h) ▸ k_X1_reachFrom
  | 12, h => exact (Option.some.inj h) ▸ k_X1_isKnown
  | 13, h => exact (Option.some.inj h) ▸ k_X1_isNext
  | 14, h => exact (Option.some.inj h) ▸ k_X1_keep
  | 15, h => exact (Option.some.inj h) ▸ k_X2_refusalOf
  | 16, h => exact (Option.some.inj h) ▸ k_X2_root
  | 17, h => exact (Option.some.inj h) ▸ k_X2_readSeq
  | 18, h => exact (Option.some.inj h) ▸ k_X2_readPar
  | 19, h => exact (Option.some.inj h) ▸ k_X2_readUnit
  | 20, h => exact (Option.some.inj h) ▸ k_X2_readEmit
  | 21, h => exact (Option.some.inj h) ▸ k_X2_readExit
  | 22, h => exact (Option.some.inj h) ▸ k_X2_readPresent
  | 23, h => exact (Option.some.inj h) ▸ k_X2_readSuspend
  | 24, h => exact (Option.some.inj h) ▸ k_X2_readLocal
  | 25, h => exact (Option.some.inj h) ▸ k_X2_readClosedSeq
  | 26, h => exact (Option.some.inj h) ▸ k_X2_signalOf
  | 27, h => exact (Option.some.inj h) ▸ k_X2_addAround
  | 28, h => exact (Option.some.inj h) ▸ k_X2_addPair
  | 29, h => exact (Option.some.inj h) ▸ k_X2_add
  | 30, h => exact (Option.some.inj h) ▸ k_X2_allLieRight
  | 31, h => exact (Option.some.inj h) ▸ k_X2_liesRight
  | 32, h => exact (Option.some.inj h) ▸ k_X2_tellAround
  | 33, h => exact (Option.some.inj h) ▸ k_X2_localBit
  | 34, h => exact (Option.some.inj h) ▸ k_X2_allLoopsAreSafe
  | 35, h => exact (Option.some.inj h) ▸ k_X2_codesOf
  | 36, h => exact (Option.some.inj h) ▸ k_X2_greaterCodes
  | 37, h => exact (Option.some.inj h) ▸ k_X2_thingsOfAll
  | 38, h => exact (Option.some.inj h) ▸ k_X2_inside
  | 39, h => exact (Option.some.inj h) ▸ k_X3_thingCount
  | 40, h => exact (Option.some.inj h) ▸ k_X3_registerCount
  | 41, h => exact (Option.some.inj h) ▸ k_X3_layOut
  | 42, h => exact (Option.some.inj h) ▸ k_X3_lay
  | 43, h => exact (Option.some.inj h) ▸ k_X3_addStep
  | 44, h => exact (Option.some.inj h) ▸ k_X3_layLocal
  | 45, h => exact (Option.some.inj h) ▸ k_X3_bind
  | 46, h => exact (Option.some.inj h) ▸ k_X3_wireOf
  | 47, h => exact (Option.some.inj h) ▸ k_X3_layInside
  | 48, h => exact (Option.some.inj h) ▸ k_X3_newMark
  | 49, h => exact (Option.some.inj h) ▸ k_X3_runInstant
  | 50, h => exact (Option.some.inj h) ▸ k_X3_forgetWires
  | 51, h => exact (Option.some.inj h) ▸ k_X3_select
  | 52, h => exact (Option.some.inj h) ▸ k_X3_isSet
  | 53, h => exact (Option.some.inj h) ▸ k_X3_selOf
  | 54, h => exact (Option.some.inj h) ▸ k_X3_sweepOnce
  | 55, h => exact (Option.some.inj h) ▸ k_X3_comeInto
  | 56, h => exact (Option.some.inj h) ▸ k_X3_emit
  | 57, h => exact (Option.some.inj h) ▸ k_X3_signalWire
  | 58, h => exact (Option.some.inj h) ▸ k_X3_goInside
  | 59, h => exact (Option.some.inj h) ▸ k_X3_resInside
  | 60, h => exact (Option.some.inj h) ▸ k_X3_suspInside
  | 61, h => exact (Option.some.inj h) ▸ k_X3_heldBack
  | 62, h => exact (Option.some.inj h) ▸ k_X3_leave
  | 63, h => exact (Option.some.inj h) ▸ k_X3_leavePar
  | 64, h => exact (Option.some.inj h) ▸ k_X3_endOf
  | 65, h => exact (Option.some.inj h) ▸ k_X3_onlyFor
  | 66, h => exact (Option.some.inj h) ▸ k_X3_endOfEither
  | 67, h => exact (Option.some.inj h) ▸ k_X3_endOfTrap
  | 68, h => exact (Option.some.inj h) ▸ k_X3_end
  | 69, h => exact (Option.some.inj h) ▸ k_X3_put
  | 70, h => exact (Option.some.inj h) ▸ k_X3_findKilled
  | 71, h => exact (Option.some.inj h) ▸ k_X3_undecidedLanes
  | 72, h => exact (Option.some.inj h) ▸ k_X3_unknownWires
  | 73, h => exact (Option.some.inj h) ▸ k_X3_endedLanes
  | 74, h => exact (Option.some.inj h) ▸ k_X3_lanesWithOutput
  | 75, h => exact (Option.some.inj h) ▸ k_X3_outputsThatAreOne
  | 76, h => exact (Option.some.inj h) ▸ k_X3_outputsThatAreUnknown
  | 77, h => exact (Option.some.inj h) ▸ k_X3_copyNextRegisters
  | 78, h => exact (Option.some.inj h) ▸ k_X3_staysLanes
  | 79, h => exact (Option.some.inj h) ▸ k_X3_isUnknown
  | 80, h => exact (Option.some.inj h) ▸ k_X3_unknownLanes
  | 81, h => exact (Option.some.inj h) ▸ k_X3_and
  | 82, h => exact (Option.some.inj h) ▸ k_X3_or
  | 83, h => exact (Option.some.inj h) ▸ k_X3_not
  | 84, h => exact (Option.some.inj h) ▸ k_X4_type
  | 85, h => exact (Option.some.inj h) ▸ k_X4_wipe
  | 86, h => exact (Option.some.inj h) ▸ k_X4_load
  | 87, h => exact (Option.some.inj h) ▸ k_X4_react
  | 88, h => exact (Option.some.inj h) ▸ k_X4_restart
  | 89, h => exact (Option.some.inj h) ▸ k_X4_outputs
  | 90, h => exact (Option.some.inj h) ▸ k_X4_open
  | 91, h => exact (Option.some.inj h) ▸ k_X4_registers
  | 92, h => exact (Option.some.inj h) ▸ k_X4_look
  | 93, h => exact (Option.some.inj h) ▸ k_X4_states
  | 94, h => exact (Option.some.inj h) ▸ k_X4_found
  | 95, h => exact (Option.some.inj h) ▸ k_X4_goToBeginning
  | 96, h => exact (Option.some.inj h) ▸ k_X5_type
  | 97, h => exact (Option.some.inj h) ▸ k_X5_wipe
  | 98, h => exact (Option.some.inj h) ▸ k_X5_in
  | 99, h => exact (Option.some.inj h) ▸ k_X5_at
  | 100, h => exact (Option.some.inj h) ▸ k_X5_node
  | 101, h => exact (Option.some.inj h) ▸ k_X5_codesOf
  | 102, h => exact (Option.some.inj h) ▸ k_X5_push
  | 103, h => exact (Option.some.inj h) ▸ k_X5_top
  | 104, h => exact (Option.some.inj h) ▸ k_X5_take
  | 105, h => exact (Option.some.inj h) ▸ k_X5_give
  | 106, h => exact (Option.some.inj h) ▸ k_X5_isSignal
  | 107, h => exact (Option.some.inj h) ▸ k_X5_lies
  | 108, h => exact (Option.some.inj h) ▸ k_X5_traps
  | 109, h => exact (Option.some.inj h) ▸ k_X5_deep
  | 110, h => exact (Option.some.inj h) ▸ k_X5_read
  | 111, h => exact (Option.some.inj h) ▸ k_X5_begin
  | 112, h => exact (Option.some.inj h) ▸ k_X5_close
  | 113, h => exact (Option.some.inj h) ▸ k_X5_join
  | 114, h => exact (Option.some.inj h) ▸ k_X5_behind
  | 115, h => exact (Option.some.inj h) ▸ k_X5_load
  | 116, h => exact (Option.some.inj h) ▸ k_X5_wait
  | 117, h => exact (Option.some.inj h) ▸ k_X5_lay
  | 118, h => exact (Option.some.inj h) ▸ k_X5_wireOf
  | 119, h => exact (Option.some.inj h) ▸ k_X5_and
  | 120, h => exact (Option.some.inj h) ▸ k_X5_or
  | 121, h => exact (Option.some.inj h) ▸ k_X5_not
  | 122, h => exact (Option.some.inj h) ▸ k_X5_valueOf
  | 123, h => exact (Option.some.inj h) ▸ k_X5_k
  | 124, h => exact (Option.some.inj h) ▸ k_X5_enter
  | 125, h => exact (Option.some.inj h) ▸ k_X5_inward
  | 126, h => exact (Option.some.inj h) ▸ k_X5_out
  | 127, h => exact (Option.some.inj h) ▸ k_X5_upTo
  | 128, h => exact (Option.some.inj h) ▸ k_X5_signals
  | 129, h => exact (Option.some.inj h) ▸ k_X5_instant
  | 130, h => exact (Option.some.inj h) ▸ k_X5_killed
  | 131, h => exact (Option.some.inj h) ▸ k_X5_dim
  | 132, h => exact (Option.some.inj h) ▸ k_X5_outputsWith
  | 133, h => exact (Option.some.inj h) ▸ k_X5_reset
  | 134, h => exact (Option.some.inj h) ▸ k_X5_react
  | 135, h => exact (Option.some.inj h) ▸ k_X5_restart
  | 136, h => exact (Option.some.inj h) ▸ k_X5_outputs
  | 137, h => exact (Option.some.inj h) ▸ k_X5_open
  | 138, h => exact (Option.some.inj h) ▸ k_X5_registers
  | 139, h => exact (Option.some.inj h) ▸ k_X5_look
  | 140, h => exact (Option.some.inj h) ▸ k_X5_known
  | 141, h => exact (Option.some.inj h) ▸ k_X5_states
  | 142, h => exact (Option.some.inj h) ▸ k_X5_found
  | 143, h => exact (Option.some.inj h) ▸ k_J6_bitCount_0f7a4
  | 144, h => exact (Option.some.inj h) ▸ k_J7_fill_53178
  | n + 145, h => exact absurd h (by rw [mvget_eq]; rw [List.getElem?_eq_none (by show mvMTl.length ≤ n + 145; rw [show mvMTl.length = 145 by decide +kernel]; omega)]; simp)
