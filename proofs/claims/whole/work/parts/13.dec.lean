/-! every instruction of every method: it decodes, and its numbers fit -/
def xdecOk (M : Nat) : Bool := (xcodeOf M).all (fun q => decide (decode (xy M).2.1 q.1 = .ok (q.2.1, q.2.2)))
theorem xdec_0 : ∀ k, k < 16 → 16 * 0 + k < xN → xdecOk (16 * 0 + k) = true := by
  intro k hk hlt
  rcases (show k = 0 ∨ k = 1 ∨ k = 2 ∨ k = 3 ∨ k = 4 ∨ k = 5 ∨ k = 6 ∨ k = 7 ∨ k = 8 ∨ k = 9 ∨ k = 10 ∨ k = 11 ∨ k = 12 ∨ k = 13 ∨ k = 14 ∨ k = 15 by omega) with rfl | rfl | rfl | rfl | rfl | rfl | rfl | rfl | rfl | rfl | rfl | rfl | rfl | rfl | rfl | rfl
  · exact xd_P_init
  · exact xd_P_part
  · exact xd_P_partIs
  · exact xd_P_become
  · exact xd_P_as
  · exact xd_P_child
  · exact xd_P_childIs
  · exact xd_P_wishes
  · exact xd_P_falls
  · exact xd_P_worth
  · exact xd_P_cast
  · exact xd_P_feed
  · exact xd_P_text
  · exact xd_P_untell
  · exact xd_P_law
  · exact xd_P_play
theorem xdec_1 : ∀ k, k < 16 → 16 * 1 + k < xN → xdecOk (16 * 1 + k) = true := by
  intro k hk hlt
  rcases (show k = 0 ∨ k = 1 ∨ k = 2 ∨ k = 3 ∨ k = 4 ∨ k = 5 ∨ k = 6 ∨ k = 7 ∨ k = 8 ∨ k = 9 ∨ k = 10 ∨ k = 11 ∨ k = 12 ∨ k = 13 ∨ k = 14 ∨ k = 15 by omega) with rfl | rfl | rfl | rfl | rfl | rfl | rfl | rfl | rfl | rfl | rfl | rfl | rfl | rfl | rfl | rfl
  · exact xd_P_lots
  · exact xd_P_loose
  · exact xd_P_seed
  · exact xd_P_best
  · exact xd_P_wished
  · exact xd_P_without
  · exact xd_P_lies
  · exact xd_P_odds
  · exact xd_P_fits
  · exact xd_P_voice
  · exact xd_P_body
  · exact xd_P_sheet
  · exact xd_P_put
  · exact xd_P_move
  · exact xd_P_casts
  · exact xd_P_judge
theorem xdec_2 : ∀ k, k < 16 → 16 * 2 + k < xN → xdecOk (16 * 2 + k) = true := by
  intro k hk hlt
  rcases (show k = 0 ∨ k = 1 ∨ k = 2 ∨ k = 3 ∨ k = 4 ∨ k = 5 ∨ k = 6 ∨ k = 7 ∨ k = 8 ∨ k = 9 ∨ k = 10 ∨ k = 11 ∨ k = 12 ∨ k = 13 ∨ k = 14 ∨ k = 15 by omega) with rfl | rfl | rfl | rfl | rfl | rfl | rfl | rfl | rfl | rfl | rfl | rfl | rfl | rfl | rfl | rfl
  · exact xd_P_image
  · exact xd_P_restore
  · exact xd_P_tell
  · exact xd_P_check
  · exact xd_P_count
  · exact xd_P_told
  · exact xd_P_fail
  · exact xd_P_isWithin
  · exact xd_P_isKindAndNumber
  · exact xd_P_isUse
  · exact xd_P_isSheet
  · exact xd_P_commonDivisor
  · exact xd_P_held
  · exact xd_S_init
  · exact xd_S_copyFrom
  · exact xd_S_hasPart
theorem xdec_3 : ∀ k, k < 16 → 16 * 3 + k < xN → xdecOk (16 * 3 + k) = true := by
  intro k hk hlt
  rcases (show k = 0 ∨ k = 1 ∨ k = 2 ∨ k = 3 ∨ k = 4 ∨ k = 5 ∨ k = 6 ∨ k = 7 ∨ k = 8 ∨ k = 9 ∨ k = 10 ∨ k = 11 ∨ k = 12 ∨ k = 13 ∨ k = 14 ∨ k = 15 by omega) with rfl | rfl | rfl | rfl | rfl | rfl | rfl | rfl | rfl | rfl | rfl | rfl | rfl | rfl | rfl | rfl
  · exact xd_S_hasPartOrNone
  · exact xd_S_hasChild
  · exact xd_S_mayPlay
  · exact xd_S_holderOf
  · exact xd_S_childrenFor
  · exact xd_S_partsFor
  · exact xd_S_given
  · exact xd_S_worthOf
  · exact xd_S_worthIfDear
  · exact xd_S_joyOf
  · exact xd_S_theyPlay
  · exact xd_S_drawLots
  · exact xd_S_partAt
  · exact xd_S_castByLots
  · exact xd_S_castByRow
  · exact xd_S_rightInRow
theorem xdec_4 : ∀ k, k < 16 → 16 * 4 + k < xN → xdecOk (16 * 4 + k) = true := by
  intro k hk hlt
  rcases (show k = 0 ∨ k = 1 ∨ k = 2 ∨ k = 3 ∨ k = 4 ∨ k = 5 ∨ k = 6 ∨ k = 7 ∨ k = 8 ∨ k = 9 ∨ k = 10 ∨ k = 11 ∨ k = 12 ∨ k = 13 ∨ k = 14 ∨ k = 15 by omega) with rfl | rfl | rfl | rfl | rfl | rfl | rfl | rfl | rfl | rfl | rfl | rfl | rfl | rfl | rfl | rfl
  · exact xd_R_init
  · exact xd_R_turnInto
  · exact xd_R_copyFrom
  · exact xd_R_isOf
  · exact xd_R_suits
  · exact xd_R_lines
  · exact xd_C_init
  · exact xd_C_startAs
  · exact xd_C_copyFrom
  · exact xd_C_valueOf
  · exact xd_C_dear
  · exact xd_C_wishSet
  · exact xd_T_init
  · exact xd_T_add
  · exact xd_T_copyFrom
  · exact xd_T_workOut
theorem xdec_5 : ∀ k, k < 16 → 16 * 5 + k < xN → xdecOk (16 * 5 + k) = true := by
  intro k hk hlt
  rcases (show k = 0 ∨ k = 1 ∨ k = 2 ∨ k = 3 ∨ k = 4 ∨ k = 5 ∨ k = 6 ∨ k = 7 ∨ k = 8 ∨ k = 9 ∨ k = 10 ∨ k = 11 ∨ k = 12 ∨ k = 13 ∨ k = 14 ∨ k = 15 by omega) with rfl | rfl | rfl | rfl | rfl | rfl | rfl | rfl | rfl | rfl | rfl | rfl | rfl | rfl | rfl | rfl
  · exact xd_T_named
  · exact xd_T_apply
  · exact xd_D_init
  · exact xd_D_read
  · exact xd_D_failHere
  · exact xd_D_next
  · exact xd_D_isDigit
  · exact xd_D_levelOf
  · exact xd_D_readLevel
  · exact xd_D_readFactor
  · exact xd_D_readClosing
  · exact xd_D_readNumber
  · exact xd_A_init
  · exact xd_A_weighByWorth
  · exact xd_A_weighByWishes
  · exact xd_A_leaveOut
theorem xdec_6 : ∀ k, k < 16 → 16 * 6 + k < xN → xdecOk (16 * 6 + k) = true := by
  intro k hk hlt
  rcases (show k = 0 ∨ k = 1 ∨ k = 2 ∨ k = 3 ∨ k = 4 ∨ k = 5 ∨ k = 6 ∨ k = 7 ∨ k = 8 ∨ k = 9 ∨ k = 10 ∨ k = 11 ∨ k = 12 ∨ k = 13 ∨ k = 14 ∨ k = 15 by omega) with rfl | rfl | rfl | rfl | rfl | rfl | rfl | rfl | rfl | rfl | rfl | rfl | rfl | rfl | rfl | rfl
  · exact xd_A_workOut
  · exact xd_A_mostFrom
  · exact xd_A_isFree
  · exact xd_A_comesTo
  · exact xd_A_mostWithout
  · exact xd_A_assignWithout
  · exact xd_A_leastPart
  · exact xd_L_init
  · exact xd_L_tryAll
  · exact xd_L_learnOthers
  · exact xd_L_rankOf
  · exact xd_L_learnWorth
  · exact xd_L_claim
  · exact xd_L_chosenBy
  · exact xd_V_init
  · exact xd_V_speak
theorem xdec_7 : ∀ k, k < 16 → 16 * 7 + k < xN → xdecOk (16 * 7 + k) = true := by
  intro k hk hlt
  rcases (show k = 0 ∨ k = 1 ∨ k = 2 ∨ k = 3 ∨ k = 4 ∨ k = 5 ∨ k = 6 ∨ k = 7 ∨ k = 8 ∨ k = 9 ∨ k = 10 ∨ k = 11 ∨ k = 12 ∨ k = 13 ∨ k = 14 ∨ k = 15 by omega) with rfl | rfl | rfl | rfl | rfl | rfl | rfl | rfl | rfl | rfl | rfl | rfl | rfl | rfl | rfl | rfl
  · exact xd_V_begin
  · exact xd_V_above
  · exact xd_V_says
  · exact xd_V_sings
  · exact xd_V_waits
  · exact xd_V_parts
  · exact xd_H_init
  · exact xd_H_clearTo
  · exact xd_H_lowestBits
  · exact xd_H_hasRun
  · exact xd_H_startsLike
  · exact xd_M_init
  · exact xd_M_error
  · exact xd_M_in
  · exact xd_M_held
  · exact xd_M_copyAll
theorem xdec_8 : ∀ k, k < 16 → 16 * 8 + k < xN → xdecOk (16 * 8 + k) = true := by
  intro k hk hlt
  rcases (show k = 0 ∨ k = 1 ∨ k = 2 ∨ k = 3 ∨ k = 4 ∨ k = 5 ∨ k = 6 ∨ k = 7 ∨ k = 8 ∨ k = 9 ∨ k = 10 ∨ k = 11 ∨ k = 12 ∨ k = 13 ∨ k = 14 ∨ k = 15 by omega) with rfl | rfl | rfl | rfl | rfl | rfl | rfl | rfl | rfl | rfl | rfl | rfl | rfl | rfl | rfl | rfl
  · exact xd_M_thinks
  · exact xd_M_putsBack
  · exact xd_M_bits
  · exact xd_M_isPart
  · exact xd_M_isChild
  · exact xd_M_becomes
  · exact xd_M_of
  · exact xd_M_about
  · exact xd_M_lets
  · exact xd_M_mayPlay
  · exact xd_M_linesOf
  · exact xd_M_dearTo
  · exact xd_M_worthTo
  · exact xd_M_joyOf
  · exact xd_M_joyOfAll
  · exact xd_M_whoHas
theorem xdec_9 : ∀ k, k < 16 → 16 * 9 + k < xN → xdecOk (16 * 9 + k) = true := by
  intro k hk hlt
  rcases (show k = 0 ∨ k = 1 ∨ k = 2 ∨ k = 3 ∨ k = 4 ∨ k = 5 ∨ k = 6 ∨ k = 7 ∨ k = 8 ∨ k = 9 ∨ k = 10 ∨ k = 11 ∨ k = 12 ∨ k = 13 ∨ k = 14 ∨ k = 15 by omega) with rfl | rfl | rfl | rfl | rfl | rfl | rfl | rfl | rfl | rfl | rfl | rfl | rfl | rfl | rfl | rfl
  · exact xd_M_isKm
  · exact xd_M_part
  · exact xd_M_whoMay
  · exact xd_M_partIs
  · exact xd_M_become
  · exact xd_M_as
  · exact xd_M_child
  · exact xd_M_childIs
  · exact xd_M_wishes
  · exact xd_M_falls
  · exact xd_M_worth
  · exact xd_M_cast
  · exact xd_M_feed
  · exact xd_M_look
  · exact xd_M_step
  · exact xd_M_nameOf
theorem xdec_10 : ∀ k, k < 16 → 16 * 10 + k < xN → xdecOk (16 * 10 + k) = true := by
  intro k hk hlt
  rcases (show k = 0 ∨ k = 1 ∨ k = 2 ∨ k = 3 ∨ k = 4 ∨ k = 5 ∨ k = 6 ∨ k = 7 ∨ k = 8 ∨ k = 9 ∨ k = 10 ∨ k = 11 ∨ k = 12 ∨ k = 13 ∨ k = 14 ∨ k = 15 by omega) with rfl | rfl | rfl | rfl | rfl | rfl | rfl | rfl | rfl | rfl | rfl | rfl | rfl | rfl | rfl | rfl
  · exact xd_M_number
  · exact xd_M_opens
  · exact xd_M_one
  · exact xd_M_times
  · exact xd_M_sum
  · exact xd_M_compares
  · exact xd_M_all
  · exact xd_M_any
  · exact xd_M_text
  · exact xd_M_untell
  · exact xd_M_twoOf
  · exact xd_M_works
  · exact xd_M_gives
  · exact xd_M_law
  · exact xd_M_plays
  · exact xd_M_play
theorem xdec_11 : ∀ k, k < 16 → 16 * 11 + k < xN → xdecOk (16 * 11 + k) = true := by
  intro k hk hlt
  rcases (show k = 0 ∨ k = 1 ∨ k = 2 ∨ k = 3 ∨ k = 4 ∨ k = 5 ∨ k = 6 ∨ k = 7 ∨ k = 8 ∨ k = 9 ∨ k = 10 ∨ k = 11 ∨ k = 12 ∨ k = 13 ∨ k = 14 ∨ k = 15 by omega) with rfl | rfl | rfl | rfl | rfl | rfl | rfl | rfl | rfl | rfl | rfl | rfl | rfl | rfl | rfl | rfl
  · exact xd_M_draw
  · exact xd_M_freeFor
  · exact xd_M_nobodyHas
  · exact xd_M_drawn
  · exact xd_M_lots
  · exact xd_M_loose
  · exact xd_M_seed
  · exact xd_M_findWorths
  · exact xd_M_findValues
  · exact xd_M_findBest
  · exact xd_M_best
  · exact xd_M_wished
  · exact xd_M_without
  · exact xd_M_lies
  · exact xd_M_odds
  · exact xd_M_rightOf
theorem xdec_12 : ∀ k, k < 16 → 16 * 12 + k < xN → xdecOk (16 * 12 + k) = true := by
  intro k hk hlt
  rcases (show k = 0 ∨ k = 1 ∨ k = 2 ∨ k = 3 ∨ k = 4 ∨ k = 5 ∨ k = 6 ∨ k = 7 ∨ k = 8 ∨ k = 9 ∨ k = 10 ∨ k = 11 ∨ k = 12 ∨ k = 13 ∨ k = 14 ∨ k = 15 by omega) with rfl | rfl | rfl | rfl | rfl | rfl | rfl | rfl | rfl | rfl | rfl | rfl | rfl | rfl | rfl | rfl
  · exact xd_M_fits
  · exact xd_M_begins
  · exact xd_M_plainSays
  · exact xd_M_speakerSays
  · exact xd_M_says
  · exact xd_M_plainSings
  · exact xd_M_crownSings
  · exact xd_M_sings
  · exact xd_M_plainWaits
  · exact xd_M_waits
  · exact xd_M_plainParts
  · exact xd_M_partsBy
  · exact xd_M_voice
  · exact xd_M_body
  · exact xd_M_isSheet
  · exact xd_M_sheet
theorem xdec_13 : ∀ k, k < 16 → 16 * 13 + k < xN → xdecOk (16 * 13 + k) = true := by
  intro k hk hlt
  rcases (show k = 0 ∨ k = 1 ∨ k = 2 ∨ k = 3 ∨ k = 4 ∨ k = 5 ∨ k = 6 ∨ k = 7 ∨ k = 8 ∨ k = 9 ∨ k = 10 ∨ k = 11 ∨ k = 12 ∨ k = 13 ∨ k = 14 ∨ k = 15 by omega) with rfl | rfl | rfl | rfl | rfl | rfl | rfl | rfl | rfl | rfl | rfl | rfl | rfl | rfl | rfl | rfl
  · exact xd_M_notThere
  · exact xd_M_put
  · exact xd_M_notMoved
  · exact xd_M_move
  · exact xd_M_casts
  · exact xd_M_judge
  · exact xd_M_image
  · exact xd_M_restore
  · exact xd_M_tell
  · exact xd_M_check
  · exact xd_M_count
  · exact xd_M_told
  · exact xd_I_bitCount
  · exact xd_G_length
  · exact xd_G_indexOf
  · exact xd_G_indexOf2
theorem xdec_14 : ∀ k, k < 16 → 16 * 14 + k < xN → xdecOk (16 * 14 + k) = true := by
  intro k hk hlt
  rcases (show k = 0 ∨ k = 1 ∨ k = 2 ∨ k = 3 ∨ k = 4 ∨ k = 5 ∨ k = 6 ∨ k = 7 ∨ k = 8 ∨ k = 9 ∨ k = 10 ∨ k = 11 ∨ k = 12 ∨ k = 13 ∨ k = 14 ∨ k = 15 by omega) with rfl | rfl | rfl | rfl | rfl | rfl | rfl | rfl | rfl | rfl | rfl | rfl | rfl | rfl | rfl | rfl
  · exact xd_G_coder
  · exact xd_G_isLatin1
  · exact xd_N_canEncode
  · exact xd_N_indexOf
  · exact xd_N_indexOfChar
  · exact absurd hlt (by decide)
  · exact absurd hlt (by decide)
  · exact absurd hlt (by decide)
  · exact absurd hlt (by decide)
  · exact absurd hlt (by decide)
  · exact absurd hlt (by decide)
  · exact absurd hlt (by decide)
  · exact absurd hlt (by decide)
  · exact absurd hlt (by decide)
  · exact absurd hlt (by decide)
  · exact absurd hlt (by decide)
theorem xdec_all {M : Nat} (hM : M < xN) : xdecOk M = true := by
  refine xN_ch (P := fun M => xdecOk M = true) (fun j hj k hk hlt => ?_) hM
  rcases (show j = 0 ∨ j = 1 ∨ j = 2 ∨ j = 3 ∨ j = 4 ∨ j = 5 ∨ j = 6 ∨ j = 7 ∨ j = 8 ∨ j = 9 ∨ j = 10 ∨ j = 11 ∨ j = 12 ∨ j = 13 ∨ j = 14 by omega) with rfl | rfl | rfl | rfl | rfl | rfl | rfl | rfl | rfl | rfl | rfl | rfl | rfl | rfl | rfl
  · exact xdec_0 k hk hlt
  · exact xdec_1 k hk hlt
  · exact xdec_2 k hk hlt
  · exact xdec_3 k hk hlt
  · exact xdec_4 k hk hlt
  · exact xdec_5 k hk hlt
  · exact xdec_6 k hk hlt
  · exact xdec_7 k hk hlt
  · exact xdec_8 k hk hlt
  · exact xdec_9 k hk hlt
  · exact xdec_10 k hk hlt
  · exact xdec_11 k hk hlt
  · exact xdec_12 k hk hlt
  · exact xdec_13 k hk hlt
  · exact xdec_14 k hk hlt
def xtg (pc : Nat) (o : Int) : Bool := decide (0 ≤ (pc : Int) + o)
def xinsOk (M pc : Nat) (i : Instr) (n : Nat) : Bool := match i with
  | .iconst k => Nat.beq n 1 && decide (-1 ≤ k ∧ k ≤ 5)
  | .bipush k => Nat.beq n 2 && decide (-128 ≤ k ∧ k ≤ 127)
  | .sipush k => Nat.beq n 3 && decide (-32768 ≤ k ∧ k ≤ 32767)
  | .ldc _ => Nat.beq n 2
  | .ldc_w _ => Nat.beq n 3
  | .ldc2_w _ => Nat.beq n 3
  | .iload _ => Nat.beq n 2
  | .aload _ => Nat.beq n 2
  | .istore k => Nat.beq n 2 && Nat.blt k (xrec M).2.1
  | .astore k => Nat.beq n 2 && Nat.blt k (xrec M).2.1
  | .istore_n k => Nat.beq n 1 && Nat.blt k.val (xrec M).2.1
  | .astore_n k => Nat.beq n 1 && Nat.blt k.val (xrec M).2.1
  | .iinc k _ => Nat.beq n 3 && Nat.blt k (xrec M).2.1
  | .ifCond _ o => Nat.beq n 3 && xtg pc o
  | .if_icmp _ o => Nat.beq n 3 && xtg pc o
  | .goto o => Nat.beq n 3 && xtg pc o
  | .tableswitch d lo hi os => xtg pc d && os.toList.all (xtg pc) && decide (hi - lo + 1 = (os.toList.length : Int))
  | .lookupswitch d ps => xtg pc d && ps.toList.all (fun q => xtg pc q.2) && (ps.toList.zip (ps.toList.drop 1)).all (fun (a, next) => a.1 < next.1)
  | .getfield _ => Nat.beq n 3
  | .putfield _ => Nat.beq n 3
  | .getstatic _ => Nat.beq n 3
  | .invokevirtual _ => Nat.beq n 3
  | .invokestatic _ => Nat.beq n 3
  | .invokespecial _ => Nat.beq n 3
  | .new _ => Nat.beq n 3
  | .anewarray _ => Nat.beq n 3
  | .newarray _ => Nat.beq n 2
  | .multianewarray _ _ => Nat.beq n 4
  | _ => Nat.beq n 1
theorem xins_all : (List.range xN).all (fun M => (xcodeOf M).all (fun q => xinsOk M q.1 q.2.1 q.2.2)) = true := by decide +kernel
theorem xlook_mem : ∀ (l : List (Nat × Instr × Nat)) (k : Nat) (v : Instr × Nat), xlook l k = some v → (k, v) ∈ l
  | [], _, _, h => by cases h
  | q :: r, k, v, h => by
    simp only [xlook] at h
    cases hb : Nat.beq q.1 k with
    | true =>
      rw [hb] at h
      have e : q.1 = k := Nat.eq_of_beq_eq_true hb
      have e2 : q.2 = v := Option.some.inj h
      subst e; subst e2
      exact List.mem_cons_self
    | false =>
      rw [hb] at h
      exact List.mem_cons_of_mem _ (xlook_mem r k v h)
theorem xat_lt {M pc : Nat} {q : Instr × Nat} (h : xat M pc = some q) : M < xN := by
  rcases Nat.lt_or_ge M xN with h1 | h1
  · exact h1
  · have h2 : xcodeOf M = [] := by
      unfold xcodeOf
      have h229 : 229 ≤ M := h1
      by_cases h15 : M / 16 = 14
      · rw [h15]
        exact xnth_out _ _ _ (by show 5 ≤ M % 16; omega)
      · rw [xnth_out [] xcodes (M / 16) (by show 15 ≤ M / 16; omega)]
        exact xnth_out _ _ _ (Nat.zero_le _)
    unfold xat at h
    rw [h2] at h
    cases h
theorem xat_ok {M pc : Nat} {q : Instr × Nat} (h : xat M pc = some q) : decode (xy M).2.1 pc = .ok (q.1, q.2) ∧ xinsOk M pc q.1 q.2 = true ∧ M < xN := by
  have hM := xat_lt h
  have hm := xlook_mem _ _ _ h
  refine ⟨?_, ?_, hM⟩
  · have h1 := List.all_eq_true.mp (xdec_all hM) _ hm
    exact of_decide_eq_true h1
  · exact List.all_eq_true.mp (List.all_eq_true.mp xins_all M (List.mem_range.mpr hM)) _ hm
