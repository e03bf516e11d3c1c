/-! ===== what is checked of the blocks, by computing ===== -/
def om_fk (own ix : Nat) (f : Nat × Nat × Nat × Nat) : Bool := Nat.blt f.1 8 && (Nat.blt f.2.1 (om_fds f.1).length && (Nat.beq ((om_fds f.1).getD f.2.1 9) f.2.2.1 && (bif Nat.blt f.2.2.2 10000 then decide (om_nth om_fwl f.2.2.2 = some (own, ix, f.1, f.2.1)) else decide (om_nth om_fnl (f.2.2.2 - 10000) = some (own, ix, f.1, f.2.1)))))
def om_mk (own ix k w : Nat) : Bool := bif Nat.blt w 10000 then decide (om_nth om_mwl w = some (own, ix, k)) else decide (om_nth om_mnl (w - 10000) = some (own, ix, k))
def om_swk (pc : Nat) : Int → List Int → List (Int32 × Nat) → Bool
  | _, [], [] => true
  | lo, o :: os, q :: qs => decide (q.1.toInt = lo) && (decide ((pc : Int) + o = q.2) && om_swk pc (lo + 1) os qs)
  | _, _, _ => false
/-- class numbers of receivers: 0 .. 7 own ones, 99 String -/
def om_rcn (c : Nat) : Nat := bif Nat.beq c 99 then 8 else c
def om_ek (own nL : Nat) : om_E → Bool
  | (pc, i, n, c, t, f, sw) => match i with
    | .iconst k => decide (c = .inl (Int32.ofInt k)) && Nat.beq n 1
    | .bipush k => decide (c = .inl (Int8.ofInt k).toInt32) && Nat.beq n 2
    | .sipush k => decide (c = .inl (Int16.ofInt k).toInt32) && Nat.beq n 3
    | .lconst k => decide (c = .inr (.inl (Int64.ofNat (k : Nat)))) && Nat.beq n 1
    | .ldc ix => (match c with
      | .inl v => decide (om_nth om_cil f.2.2.2 = some (own, ix, v))
      | .inr (.inr a) => decide (a = 1000 + f.2.2.2) && (match om_sr[f.2.2.2]? with
        | some q => decide (q.1 = om_cn own) && Nat.beq q.2.1 ix
        | none => false)
      | _ => false) && Nat.beq n 2
    | .ldc_w ix => (match c with
      | .inl v => decide (om_nth om_cil f.2.2.2 = some (own, ix, v))
      | _ => false) && Nat.beq n 3
    | .ldc2_w ix => (match c with
      | .inr (.inl v) => decide (om_nth om_cll f.2.2.2 = some (own, ix, v))
      | _ => false) && Nat.beq n 3
    | .getstatic ix => Nat.beq own 8 && (((Nat.beq ix 38 && decide (c = om_i 1)) || (Nat.beq ix 1053 && decide (c = om_r 3000))) && Nat.beq n 3)
    | .iload_n _ | .lload_n _ | .aload_n _ => Nat.beq n 1
    | .iload _ | .lload _ | .aload _ => Nat.beq n 2
    | .istore_n k | .astore_n k => Nat.beq n 1 && Nat.blt k nL
    | .istore k => Nat.beq n 2 && Nat.blt k nL
    | .lstore_n k => Nat.beq n 1 && Nat.blt (k + 1) nL
    | .lstore k => Nat.beq n 2 && Nat.blt (k + 1) nL
    | .iinc k d => decide (c = .inl (Int32.ofInt d)) && (Nat.beq n 3 && Nat.blt k nL)
    | .iadd | .isub | .imul | .idiv | .irem | .ineg | .iand | .ior | .ixor | .ishl | .ishr | .iushr | .ladd | .lsub | .lmul | .ldiv | .lneg | .land | .lor | .lxor | .lshl | .lshr | .lcmp | .i2l | .l2i | .i2c | .pop | .dup | .dup_x1 | .dup2 | .arraylength | .iaload | .baload | .aaload | .iastore | .bastore | .ireturn | .return_ => Nat.beq n 1
    | .goto o | .ifCond _ o | .if_icmp _ o => Nat.beq n 3 && decide ((pc : Int) + o = t)
    | .tableswitch d lo hi os => decide ((pc : Int) + d = t) && (om_swk pc lo os.toList sw && decide (hi + 1 = lo + os.size))
    | .getfield ix => Nat.beq n 3 && (bif Nat.beq f.1 99 then (Nat.beq own 8 && ((Nat.beq f.2.2.1 2 && Nat.beq ix 9) || (Nat.beq f.2.2.1 3 && Nat.beq ix 15))) else om_fk own ix f)
    | .putfield ix => Nat.beq n 3 && om_fk own ix f
    | .invokevirtual ix => Nat.beq n 3 && (om_mk own ix f.2.1 f.2.2.2 && (match om_nth om_sig f.2.1 with
      | some q => Nat.beq f.2.2.1 (q.2.2.2.2.2.2 + 1) && (!q.2.2.2.2.2.1 && decide (q.1.cls = om_cn (om_rcn f.1)) && (Nat.blt f.1 8 || Nat.beq f.1 99))
      | none => false))
    | .invokestatic ix => Nat.beq n 3 && (match f.1 with
      | 0 => om_mk own ix f.2.1 f.2.2.2 && (match om_nth om_sig f.2.1 with
        | some q => Nat.beq f.2.2.1 q.2.2.2.2.2.2 && q.2.2.2.2.2.1
        | none => false)
      | c + 1 => decide (om_nth om_iwl f.2.2.2 = some (own, ix, c + 1)))
    | _ => false
def om_cks (own nL nx : Nat) (cc : ByteArray) : Nat → List om_E → Bool
  | pc, [] => Nat.beq pc nx
  | pc, e :: r => Nat.beq e.1 pc && (decide (decode cc e.1 = .ok (e.2.1, e.2.2.1)) && (om_ek own nL e && om_cks own nL nx cc (pc + e.2.2.1) r))
def om_bks (own nL : Nat) (cc : ByteArray) (B : List om_Bk) : Bool := B.all fun q => om_cks own nL q.2.2.2 cc q.1 q.2.2.1

set_option maxRecDepth 100000 in
theorem om_bk0 : om_bks 0 3 cX0_giveTo om_B0 = true := by decide +kernel
set_option maxRecDepth 100000 in
theorem om_bk1 : om_bks 0 4 cX0_addPlace om_B1 = true := by decide +kernel
set_option maxRecDepth 100000 in
theorem om_bk2 : om_bks 0 5 cX0_addArrow om_B2 = true := by decide +kernel
set_option maxRecDepth 100000 in
theorem om_bk3 : om_bks 0 3 cX0_removeArrow om_B3 = true := by decide +kernel
set_option maxRecDepth 100000 in
theorem om_bk4 : om_bks 0 4 cX0_find om_B4 = true := by decide +kernel
set_option maxRecDepth 100000 in
theorem om_bk5 : om_bks 0 2 cX0_ownerOf om_B5 = true := by decide +kernel
set_option maxRecDepth 100000 in
theorem om_bk6 : om_bks 0 4 cX0_isOpen om_B6 = true := by decide +kernel
set_option maxRecDepth 100000 in
theorem om_bk7 : om_bks 0 3 cX0_toldPlaces om_B7 = true := by decide +kernel
set_option maxRecDepth 100000 in
theorem om_bk8 : om_bks 1 8 cX1_isLeastOfLoop om_B8 = true := by decide +kernel
set_option maxRecDepth 100000 in
theorem om_bk9 : om_bks 1 7 cX1_wrongPlaces om_B9 = true := by decide +kernel
set_option maxRecDepth 100000 in
theorem om_bk10 : om_bks 1 4 cX1_indexOf om_B10 = true := by decide +kernel
set_option maxRecDepth 100000 in
theorem om_bk11 : om_bks 1 6 cX1_leastOf om_B11 = true := by decide +kernel
set_option maxRecDepth 100000 in
theorem om_bk12 : om_bks 1 8 cX1_isExtended om_B12 = true := by decide +kernel
set_option maxRecDepth 100000 in
theorem om_bk13 : om_bks 1 6 cX1_findBreaker om_B13 = true := by decide +kernel
set_option maxRecDepth 100000 in
theorem om_bk14 : om_bks 2 6 cX2_addMove om_B14 = true := by decide +kernel
set_option maxRecDepth 100000 in
theorem om_bk15 : om_bks 2 5 cX2_sumAfter om_B15 = true := by decide +kernel
set_option maxRecDepth 100000 in
theorem om_bk16 : om_bks 3 2 cX3_placesOf om_B16 = true := by decide +kernel
set_option maxRecDepth 100000 in
theorem om_bk17 : om_bks 11 1 cJ6_bitCount_0f7a4 om_B17 = true := by decide +kernel
set_option maxRecDepth 100000 in
theorem om_bk18 : om_bks 2 6 cX2_plansOf om_B18 = true := by decide +kernel
set_option maxRecDepth 100000 in
theorem om_bk19 : om_bks 2 4 cX2_bitAt om_B19 = true := by decide +kernel
set_option maxRecDepth 100000 in
theorem om_bk20 : om_bks 2 8 cX2_choosePlan om_B20 = true := by decide +kernel
set_option maxRecDepth 100000 in
theorem om_bk21 : om_bks 2 9 cX2_walk om_B21 = true := by decide +kernel
set_option maxRecDepth 100000 in
theorem om_bk22 : om_bks 2 12 cX2_findLeastLoop om_B22 = true := by decide +kernel
set_option maxRecDepth 100000 in
theorem om_bk23 : om_bks 2 7 cX2_findBest om_B23 = true := by decide +kernel
set_option maxRecDepth 100000 in
theorem om_bk24 : om_bks 2 6 cX2_findSure om_B24 = true := by decide +kernel
set_option maxRecDepth 100000 in
theorem om_bk25 : om_bks 2 12 cX2_isRaised om_B25 = true := by decide +kernel
set_option maxRecDepth 100000 in
theorem om_bk26 : om_bks 2 7 cX2_isHeld om_B26 = true := by decide +kernel
set_option maxRecDepth 100000 in
theorem om_bk27 : om_bks 2 4 cX2_findLeft om_B27 = true := by decide +kernel
set_option maxRecDepth 100000 in
theorem om_bk28 : om_bks 3 4 cX3_clear om_B28 = true := by decide +kernel
set_option maxRecDepth 100000 in
theorem om_bk29 : om_bks 3 4 cX3_add om_B29 = true := by decide +kernel
set_option maxRecDepth 100000 in
theorem om_bk30 : om_bks 3 2 cX3_addStays om_B30 = true := by decide +kernel
set_option maxRecDepth 100000 in
theorem om_bk31 : om_bks 3 5 cX3_load om_B31 = true := by decide +kernel
set_option maxRecDepth 100000 in
theorem om_bk32 : om_bks 3 4 cX3_loadTold om_B32 = true := by decide +kernel
set_option maxRecDepth 100000 in
theorem om_bk33 : om_bks 3 3 cX3_weighBySet om_B33 = true := by decide +kernel
set_option maxRecDepth 100000 in
theorem om_bk34 : om_bks 3 1 cX3_everywhere om_B34 = true := by decide +kernel
set_option maxRecDepth 100000 in
theorem om_bk35 : om_bks 3 3 cX3_branching om_B35 = true := by decide +kernel
set_option maxRecDepth 100000 in
theorem om_bk36 : om_bks 3 9 cX3_oneMoveFrom om_B36 = true := by decide +kernel
set_option maxRecDepth 100000 in
theorem om_bk37 : om_bks 3 7 cX3_attracted om_B37 = true := by decide +kernel
set_option maxRecDepth 100000 in
theorem om_bk38 : om_bks 3 6 cX3_movesInto om_B38 = true := by decide +kernel
set_option maxRecDepth 100000 in
theorem om_bk39 : om_bks 3 4 cX3_keeping om_B39 = true := by decide +kernel
set_option maxRecDepth 100000 in
theorem om_bk40 : om_bks 3 5 cX3_withoutLost om_B40 = true := by decide +kernel
set_option maxRecDepth 100000 in
theorem om_bk41 : om_bks 3 7 cX3_meeting om_B41 = true := by decide +kernel
set_option maxRecDepth 100000 in
theorem om_bk42 : om_bks 3 5 cX3_leastNumber om_B42 = true := by decide +kernel
set_option maxRecDepth 100000 in
theorem om_bk43 : om_bks 3 6 cX3_holders om_B43 = true := by decide +kernel
set_option maxRecDepth 100000 in
theorem om_bk44 : om_bks 3 12 cX3_evenPlaces om_B44 = true := by decide +kernel
set_option maxRecDepth 100000 in
theorem om_bk45 : om_bks 3 4 cX3_wonBy om_B45 = true := by decide +kernel
set_option maxRecDepth 100000 in
theorem om_bk46 : om_bks 4 1 cX4_clear om_B46 = true := by decide +kernel
set_option maxRecDepth 100000 in
theorem om_bk47 : om_bks 4 3 cX4_begin om_B47 = true := by decide +kernel
set_option maxRecDepth 100000 in
theorem om_bk48 : om_bks 4 2 cX4_emit om_B48 = true := by decide +kernel
set_option maxRecDepth 100000 in
theorem om_bk49 : om_bks 4 1 cX4_lastHeld om_B49 = true := by decide +kernel
set_option maxRecDepth 100000 in
theorem om_bk50 : om_bks 4 2 cX4_emitNots om_B50 = true := by decide +kernel
set_option maxRecDepth 100000 in
theorem om_bk51 : om_bks 4 1 cX4_endUnit om_B51 = true := by decide +kernel
set_option maxRecDepth 100000 in
theorem om_bk52 : om_bks 4 2 cX4_hold om_B52 = true := by decide +kernel
set_option maxRecDepth 100000 in
theorem om_bk53 : om_bks 4 4 cX4_join om_B53 = true := by decide +kernel
set_option maxRecDepth 100000 in
theorem om_bk54 : om_bks 4 2 cX4_emitHeld om_B54 = true := by decide +kernel
set_option maxRecDepth 100000 in
theorem om_bk55 : om_bks 4 1 cX4_closeParenthesis om_B55 = true := by decide +kernel
set_option maxRecDepth 100000 in
theorem om_bk56 : om_bks 4 6 cX4_isUnitTrue om_B56 = true := by decide +kernel
set_option maxRecDepth 100000 in
theorem om_bk57 : om_bks 4 12 cX4_isTrue om_B57 = true := by decide +kernel
set_option maxRecDepth 100000 in
theorem om_bk58 : om_bks 5 2 cX5_add om_B58 = true := by decide +kernel
set_option maxRecDepth 100000 in
theorem om_bk59 : om_bks 5 1 cX5_isLetter om_B59 = true := by decide +kernel
set_option maxRecDepth 100000 in
theorem om_bk60 : om_bks 8 1 cJ0_coder_7d493 om_B60 = true := by decide +kernel
set_option maxRecDepth 100000 in
theorem om_bk61 : om_bks 8 1 cJ0_length_8abf5 om_B61 = true := by decide +kernel
set_option maxRecDepth 100000 in
theorem om_bk62 : om_bks 8 1 cJ0_isLatin1_aae02 om_B62 = true := by decide +kernel
set_option maxRecDepth 100000 in
theorem om_bk63 : om_bks 10 3 cJ3_checkIndex_8e157 om_B63 = true := by decide +kernel
set_option maxRecDepth 100000 in
theorem om_bk64 : om_bks 8 2 cJ0_checkIndex_df160 om_B64 = true := by decide +kernel
set_option maxRecDepth 100000 in
theorem om_bk65 : om_bks 9 2 cJ1_charAt_3b067 om_B65 = true := by decide +kernel
set_option maxRecDepth 100000 in
theorem om_bk66 : om_bks 8 2 cJ0_charAt_5068e om_B66 = true := by decide +kernel
set_option maxRecDepth 100000 in
theorem om_bk67 : om_bks 5 3 cX5_isWord om_B67 = true := by decide +kernel
set_option maxRecDepth 100000 in
theorem om_bk68 : om_bks 5 1 cX5_wordToken om_B68 = true := by decide +kernel
set_option maxRecDepth 100000 in
theorem om_bk69 : om_bks 5 1 cX5_isDigit om_B69 = true := by decide +kernel
set_option maxRecDepth 100000 in
theorem om_bk70 : om_bks 5 3 cX5_numberValue om_B70 = true := by decide +kernel
set_option maxRecDepth 100000 in
theorem om_bk71 : om_bks 5 2 cX5_readToken om_B71 = true := by decide +kernel
set_option maxRecDepth 100000 in
theorem om_bk72 : om_bks 5 1 cX5_beginUnit om_B72 = true := by decide +kernel
set_option maxRecDepth 100000 in
theorem om_bk73 : om_bks 5 1 cX5_joinUnits om_B73 = true := by decide +kernel
set_option maxRecDepth 100000 in
theorem om_bk74 : om_bks 5 1 cX5_takeVerb om_B74 = true := by decide +kernel
set_option maxRecDepth 100000 in
theorem om_bk75 : om_bks 5 2 cX5_isPlaceNumber om_B75 = true := by decide +kernel
set_option maxRecDepth 100000 in
theorem om_bk76 : om_bks 5 2 cX5_takeMember om_B76 = true := by decide +kernel
set_option maxRecDepth 100000 in
theorem om_bk77 : om_bks 5 2 cX5_takePlace om_B77 = true := by decide +kernel
set_option maxRecDepth 100000 in
theorem om_bk78 : om_bks 5 1 cX5_endUnit om_B78 = true := by decide +kernel
set_option maxRecDepth 100000 in
theorem om_bk79 : om_bks 5 1 cX5_takeSide om_B79 = true := by decide +kernel
set_option maxRecDepth 100000 in
theorem om_bk80 : om_bks 5 1 cX5_takeBound om_B80 = true := by decide +kernel
set_option maxRecDepth 100000 in
theorem om_bk81 : om_bks 5 3 cX5_stateAfter om_B81 = true := by decide +kernel
set_option maxRecDepth 100000 in
theorem om_bk82 : om_bks 5 5 cX5_read om_B82 = true := by decide +kernel
set_option maxRecDepth 100000 in
theorem om_bk83 : om_bks 6 1 cX6_isPlayer om_B83 = true := by decide +kernel
set_option maxRecDepth 100000 in
theorem om_bk84 : om_bks 6 1 cX6_isNumber om_B84 = true := by decide +kernel
set_option maxRecDepth 100000 in
theorem om_bk85 : om_bks 6 3 cX6_place om_B85 = true := by decide +kernel
set_option maxRecDepth 100000 in
theorem om_bk86 : om_bks 6 2 cX6_isPlace om_B86 = true := by decide +kernel
set_option maxRecDepth 100000 in
theorem om_bk87 : om_bks 6 1 cX6_isWeight om_B87 = true := by decide +kernel
set_option maxRecDepth 100000 in
theorem om_bk88 : om_bks 6 4 cX6_arrow om_B88 = true := by decide +kernel
set_option maxRecDepth 100000 in
theorem om_bk89 : om_bks 6 2 cX6_isArrow om_B89 = true := by decide +kernel
set_option maxRecDepth 100000 in
theorem om_bk90 : om_bks 6 2 cX6_cut om_B90 = true := by decide +kernel
set_option maxRecDepth 100000 in
theorem om_bk91 : om_bks 6 4 cX6_give om_B91 = true := by decide +kernel
set_option maxRecDepth 100000 in
theorem om_bk92 : om_bks 6 5 cX6_set om_B92 = true := by decide +kernel
set_option maxRecDepth 100000 in
theorem om_bk93 : om_bks 6 3 cX6_from om_B93 = true := by decide +kernel
set_option maxRecDepth 100000 in
theorem om_bk94 : om_bks 6 2 cX6_isSet om_B94 = true := by decide +kernel
set_option maxRecDepth 100000 in
theorem om_bk95 : om_bks 6 3 cX6_forced om_B95 = true := by decide +kernel
set_option maxRecDepth 100000 in
theorem om_bk96 : om_bks 6 4 cX6_steps om_B96 = true := by decide +kernel
set_option maxRecDepth 100000 in
theorem om_bk97 : om_bks 6 3 cX6_kept om_B97 = true := by decide +kernel
set_option maxRecDepth 100000 in
theorem om_bk98 : om_bks 6 4 cX6_both om_B98 = true := by decide +kernel
set_option maxRecDepth 100000 in
theorem om_bk99 : om_bks 6 3 cX6_again om_B99 = true := by decide +kernel
set_option maxRecDepth 100000 in
theorem om_bk100 : om_bks 6 1 cX6_won om_B100 = true := by decide +kernel
set_option maxRecDepth 100000 in
theorem om_bk101 : om_bks 6 5 cX6_narrowed om_B101 = true := by decide +kernel
set_option maxRecDepth 100000 in
theorem om_bk102 : om_bks 6 7 cX6_plan om_B102 = true := by decide +kernel
set_option maxRecDepth 100000 in
theorem om_bk103 : om_bks 6 3 cX6_after om_B103 = true := by decide +kernel
set_option maxRecDepth 100000 in
theorem om_bk104 : om_bks 6 1 cX6_isPart om_B104 = true := by decide +kernel
set_option maxRecDepth 100000 in
theorem om_bk105 : om_bks 6 3 cX6_mean om_B105 = true := by decide +kernel
set_option maxRecDepth 100000 in
theorem om_bk106 : om_bks 6 5 cX6_rate om_B106 = true := by decide +kernel
set_option maxRecDepth 100000 in
theorem om_bk107 : om_bks 6 4 cX6_tell om_B107 = true := by decide +kernel
set_option maxRecDepth 100000 in
theorem om_bk108 : om_bks 6 3 cX6_untell om_B108 = true := by decide +kernel
set_option maxRecDepth 100000 in
theorem om_bk109 : om_bks 6 1 cX6_oddness om_B109 = true := by decide +kernel
set_option maxRecDepth 100000 in
theorem om_bk110 : om_bks 6 2 cX6_judged om_B110 = true := by decide +kernel
set_option maxRecDepth 100000 in
theorem om_bk111 : om_bks 6 5 cX6_breaker om_B111 = true := by decide +kernel
set_option maxRecDepth 100000 in
theorem om_bk112 : om_bks 6 4 cX6_worth om_B112 = true := by decide +kernel
set_option maxRecDepth 100000 in
theorem om_bk113 : om_bks 6 5 cX6_write om_B113 = true := by decide +kernel
set_option maxRecDepth 100000 in
theorem om_bk114 : om_bks 6 2 cX6_erase om_B114 = true := by decide +kernel
set_option maxRecDepth 100000 in
theorem om_bk115 : om_bks 6 1 cX6_fault om_B115 = true := by decide +kernel
set_option maxRecDepth 100000 in
theorem om_bk116 : om_bks 6 2 cX6_ask om_B116 = true := by decide +kernel
set_option maxRecDepth 100000 in
theorem om_bk117 : om_bks 6 1 cX6_holds om_B117 = true := by decide +kernel
set_option maxRecDepth 100000 in
theorem om_bk118 : om_bks 6 4 cX6_turned om_B118 = true := by decide +kernel
set_option maxRecDepth 100000 in
theorem om_bk119 : om_bks 6 4 cX6_bought om_B119 = true := by decide +kernel
set_option maxRecDepth 100000 in
theorem om_bk120 : om_bks 6 2 cX6_count om_B120 = true := by decide +kernel
set_option maxRecDepth 100000 in
theorem om_bk121 : om_bks 7 6 cX7_in om_B121 = true := by decide +kernel
set_option maxRecDepth 100000 in
theorem om_bk122 : om_bks 7 2 cX7_isPlace om_B122 = true := by decide +kernel
set_option maxRecDepth 100000 in
theorem om_bk123 : om_bks 7 2 cX7_isArrow om_B123 = true := by decide +kernel
set_option maxRecDepth 100000 in
theorem om_bk124 : om_bks 7 2 cX7_isSet om_B124 = true := by decide +kernel
set_option maxRecDepth 100000 in
theorem om_bk125 : om_bks 7 1 cX7_isPlayer om_B125 = true := by decide +kernel
set_option maxRecDepth 100000 in
theorem om_bk126 : om_bks 7 3 cX7_place om_B126 = true := by decide +kernel
set_option maxRecDepth 100000 in
theorem om_bk127 : om_bks 7 5 cX7_arrowOf om_B127 = true := by decide +kernel
set_option maxRecDepth 100000 in
theorem om_bk128 : om_bks 7 4 cX7_arrow om_B128 = true := by decide +kernel
set_option maxRecDepth 100000 in
theorem om_bk129 : om_bks 7 3 cX7_cut om_B129 = true := by decide +kernel
set_option maxRecDepth 100000 in
theorem om_bk130 : om_bks 7 4 cX7_give om_B130 = true := by decide +kernel
set_option maxRecDepth 100000 in
theorem om_bk131 : om_bks 7 6 cX7_set om_B131 = true := by decide +kernel
set_option maxRecDepth 100000 in
theorem om_bk132 : om_bks 7 3 cX7_from om_B132 = true := by decide +kernel
set_option maxRecDepth 100000 in
theorem om_bk133 : om_bks 7 2 cX7_isUsed om_B133 = true := by decide +kernel
set_option maxRecDepth 100000 in
theorem om_bk134 : om_bks 7 2 cX7_layMoves om_B134 = true := by decide +kernel
set_option maxRecDepth 100000 in
theorem om_bk135 : om_bks 7 2 cX7_noneAlone om_B135 = true := by decide +kernel
set_option maxRecDepth 100000 in
theorem om_bk136 : om_bks 7 6 cX7_bring om_B136 = true := by decide +kernel
set_option maxRecDepth 100000 in
theorem om_bk137 : om_bks 7 5 cX7_forcedTo om_B137 = true := by decide +kernel
set_option maxRecDepth 100000 in
theorem om_bk138 : om_bks 7 3 cX7_forced om_B138 = true := by decide +kernel
set_option maxRecDepth 100000 in
theorem om_bk139 : om_bks 7 6 cX7_steps om_B139 = true := by decide +kernel
set_option maxRecDepth 100000 in
theorem om_bk140 : om_bks 7 5 cX7_keptIn om_B140 = true := by decide +kernel
set_option maxRecDepth 100000 in
theorem om_bk141 : om_bks 7 3 cX7_kept om_B141 = true := by decide +kernel
set_option maxRecDepth 100000 in
theorem om_bk142 : om_bks 7 7 cX7_bothOf om_B142 = true := by decide +kernel
set_option maxRecDepth 100000 in
theorem om_bk143 : om_bks 7 3 cX7_again om_B143 = true := by decide +kernel
set_option maxRecDepth 100000 in
theorem om_bk144 : om_bks 7 4 cX7_both om_B144 = true := by decide +kernel
set_option maxRecDepth 100000 in
theorem om_bk145 : om_bks 7 1 cX7_unit om_B145 = true := by decide +kernel
set_option maxRecDepth 100000 in
theorem om_bk146 : om_bks 7 6 cX7_needed om_B146 = true := by decide +kernel
set_option maxRecDepth 100000 in
theorem om_bk147 : om_bks 7 5 cX7_liftOf om_B147 = true := by decide +kernel
set_option maxRecDepth 100000 in
theorem om_bk148 : om_bks 7 4 cX7_wonNow om_B148 = true := by decide +kernel
set_option maxRecDepth 100000 in
theorem om_bk149 : om_bks 7 1 cX7_won om_B149 = true := by decide +kernel
set_option maxRecDepth 100000 in
theorem om_bk150 : om_bks 7 3 cX7_wonBy om_B150 = true := by decide +kernel
set_option maxRecDepth 100000 in
theorem om_bk151 : om_bks 7 4 cX7_hasArrows om_B151 = true := by decide +kernel
set_option maxRecDepth 100000 in
theorem om_bk152 : om_bks 7 7 cX7_plan om_B152 = true := by decide +kernel
set_option maxRecDepth 100000 in
theorem om_bk153 : om_bks 7 3 cX7_weightOf om_B153 = true := by decide +kernel
set_option maxRecDepth 100000 in
theorem om_bk154 : om_bks 7 9 cX7_oneMore om_B154 = true := by decide +kernel
set_option maxRecDepth 100000 in
theorem om_bk155 : om_bks 7 5 cX7_layValues om_B155 = true := by decide +kernel
set_option maxRecDepth 100000 in
theorem om_bk156 : om_bks 7 3 cX7_after om_B156 = true := by decide +kernel
set_option maxRecDepth 100000 in
theorem om_bk157 : om_bks 7 7 cX7_nearest om_B157 = true := by decide +kernel
set_option maxRecDepth 100000 in
theorem om_bk158 : om_bks 7 3 cX7_mean om_B158 = true := by decide +kernel
set_option maxRecDepth 100000 in
theorem om_bk159 : om_bks 7 5 cX7_rate om_B159 = true := by decide +kernel
set_option maxRecDepth 100000 in
theorem om_bk160 : om_bks 7 3 cX7_tell om_B160 = true := by decide +kernel
set_option maxRecDepth 100000 in
theorem om_bk161 : om_bks 7 3 cX7_untell om_B161 = true := by decide +kernel
set_option maxRecDepth 100000 in
theorem om_bk162 : om_bks 7 3 cX7_layTold om_B162 = true := by decide +kernel
set_option maxRecDepth 100000 in
theorem om_bk163 : om_bks 7 6 cX7_reachFrom om_B163 = true := by decide +kernel
set_option maxRecDepth 100000 in
theorem om_bk164 : om_bks 7 6 cX7_badFor om_B164 = true := by decide +kernel
set_option maxRecDepth 100000 in
theorem om_bk165 : om_bks 7 5 cX7_rightOf om_B165 = true := by decide +kernel
set_option maxRecDepth 100000 in
theorem om_bk166 : om_bks 7 2 cX7_judged om_B166 = true := by decide +kernel
set_option maxRecDepth 100000 in
theorem om_bk167 : om_bks 7 4 cX7_placeIn om_B167 = true := by decide +kernel
set_option maxRecDepth 100000 in
theorem om_bk168 : om_bks 7 5 cX7_isBadFrom om_B168 = true := by decide +kernel
set_option maxRecDepth 100000 in
theorem om_bk169 : om_bks 7 6 cX7_closes om_B169 = true := by decide +kernel
set_option maxRecDepth 100000 in
theorem om_bk170 : om_bks 7 5 cX7_breaker om_B170 = true := by decide +kernel
set_option maxRecDepth 100000 in
theorem om_bk171 : om_bks 7 6 cX7_addMoves om_B171 = true := by decide +kernel
set_option maxRecDepth 100000 in
theorem om_bk172 : om_bks 7 5 cX7_divisor om_B172 = true := by decide +kernel
set_option maxRecDepth 100000 in
theorem om_bk173 : om_bks 7 9 cX7_worth om_B173 = true := by decide +kernel
set_option maxRecDepth 100000 in
theorem om_bk174 : om_bks 7 5 cX7_write om_B174 = true := by decide +kernel
set_option maxRecDepth 100000 in
theorem om_bk175 : om_bks 7 2 cX7_erase om_B175 = true := by decide +kernel
set_option maxRecDepth 100000 in
theorem om_bk176 : om_bks 7 1 cX7_sort om_B176 = true := by decide +kernel
set_option maxRecDepth 100000 in
theorem om_bk177 : om_bks 7 1 cX7_token om_B177 = true := by decide +kernel
set_option maxRecDepth 100000 in
theorem om_bk178 : om_bks 7 5 cX7_isWord om_B178 = true := by decide +kernel
set_option maxRecDepth 100000 in
theorem om_bk179 : om_bks 7 4 cX7_skips om_B179 = true := by decide +kernel
set_option maxRecDepth 100000 in
theorem om_bk180 : om_bks 7 2 cX7_isSign om_B180 = true := by decide +kernel
set_option maxRecDepth 100000 in
theorem om_bk181 : om_bks 7 4 cX7_isNumber om_B181 = true := by decide +kernel
set_option maxRecDepth 100000 in
theorem om_bk182 : om_bks 7 5 cX7_emit om_B182 = true := by decide +kernel
set_option maxRecDepth 100000 in
theorem om_bk183 : om_bks 7 1 cX7_readsPlace om_B183 = true := by decide +kernel
set_option maxRecDepth 100000 in
theorem om_bk184 : om_bks 7 4 cX7_readsFrom om_B184 = true := by decide +kernel
set_option maxRecDepth 100000 in
theorem om_bk185 : om_bks 7 5 cX7_readsForce om_B185 = true := by decide +kernel
set_option maxRecDepth 100000 in
theorem om_bk186 : om_bks 7 3 cX7_readsMean om_B186 = true := by decide +kernel
set_option maxRecDepth 100000 in
theorem om_bk187 : om_bks 7 1 cX7_readsPlain om_B187 = true := by decide +kernel
set_option maxRecDepth 100000 in
theorem om_bk188 : om_bks 7 2 cX7_emitWhile om_B188 = true := by decide +kernel
set_option maxRecDepth 100000 in
theorem om_bk189 : om_bks 7 2 cX7_readsUnit om_B189 = true := by decide +kernel
set_option maxRecDepth 100000 in
theorem om_bk190 : om_bks 7 1 cX7_closeAll om_B190 = true := by decide +kernel
set_option maxRecDepth 100000 in
theorem om_bk191 : om_bks 7 2 cX7_fault om_B191 = true := by decide +kernel
set_option maxRecDepth 100000 in
theorem om_bk192 : om_bks 7 5 cX7_plainHolds om_B192 = true := by decide +kernel
set_option maxRecDepth 100000 in
theorem om_bk193 : om_bks 7 4 cX7_holdsNow om_B193 = true := by decide +kernel
set_option maxRecDepth 100000 in
theorem om_bk194 : om_bks 7 2 cX7_ask om_B194 = true := by decide +kernel
set_option maxRecDepth 100000 in
theorem om_bk195 : om_bks 7 1 cX7_holds om_B195 = true := by decide +kernel
set_option maxRecDepth 100000 in
theorem om_bk196 : om_bks 7 4 cX7_turned om_B196 = true := by decide +kernel
set_option maxRecDepth 100000 in
theorem om_bk197 : om_bks 7 3 cX7_change om_B197 = true := by decide +kernel
set_option maxRecDepth 100000 in
theorem om_bk198 : om_bks 7 5 cX7_bought om_B198 = true := by decide +kernel
set_option maxRecDepth 100000 in
theorem om_bk199 : om_bks 7 4 cX7_count om_B199 = true := by decide +kernel
