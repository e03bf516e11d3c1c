/-! ===== what is checked of the blocks, by computing ===== -/
def om_fk (own ix : Nat) (f : Nat × Nat × Nat × Nat) : Bool := Nat.blt f.1 8 && (Nat.blt f.2.1 (om_fds f.1).length && (Nat.beq ((om_fds f.1).getD f.2.1 9) f.2.2.1 && (bif Nat.blt f.2.2.2 10000 then decide (om_nth om_fwl f.2.2.2 = some (own, ix, f.1, f.2.1)) else decide (om_nth om_fnl (f.2.2.2 - 10000) = some (own, ix, f.1, f.2.1)))))
def om_mk (own ix k w : Nat) : Bool := bif Nat.blt w 10000 then decide (om_nth om_mwl w = some (own, ix, k)) else decide (om_nth om_mnl (w - 10000) = some (own, ix, k))
def om_swk (pc : Nat) : Int → List Int → List (Int32 × Nat) → Bool
  | _, [], [] => true
  | lo, o :: os, q :: qs => decide (q.1.toInt = lo) && (decide ((pc : Int) + o = q.2) && om_swk pc (lo + 1) os qs)
  | _, _, _ => false
/-- class numbers of receivers: 0 .. 7 own ones, 99 String -/
def om_rcn (c : Nat) : Nat := bif Nat.beq c 99 then 8 else c
def om_ek (own nL : Nat) (rv : Bool) : om_E → Bool
  | (pc, i, n, c, t, f, sw) => match i with
    | .iconst k => decide (c = .inl (Int32.ofInt k)) && Nat.beq n 1
    | .bipush k => decide (c = .inl (Int8.ofInt k).toInt32) && Nat.beq n 2
    | .sipush k => decide (c = .inl (Int16.ofInt k).toInt32) && Nat.beq n 3
    | .lconst k => decide (c = .inr (.inl (Int64.ofNat (k : Nat)))) && Nat.beq n 1
    | .ldc ix => (match c with
      | .inl v => decide (om_nth om_cil f.2.2.2 = some (own, ix, v))
      | .inr (.inr a) => decide (a = 1000 + f.2.2.2) && (match om_sr[f.2.2.2]? with
        | some q => decide (q.1 = om_cn own) && Nat.beq q.2.1 ix
        | none => false)
      | _ => false) && Nat.beq n 2
    | .ldc_w ix => (match c with
      | .inl v => decide (om_nth om_cil f.2.2.2 = some (own, ix, v))
      | _ => false) && Nat.beq n 3
    | .ldc2_w ix => (match c with
      | .inr (.inl v) => decide (om_nth om_cll f.2.2.2 = some (own, ix, v))
      | _ => false) && Nat.beq n 3
    | .getstatic ix => Nat.beq own 8 && ((Nat.beq ix 38 && decide (c = om_i 1)) && Nat.beq n 3)
    | .iload_n _ | .lload_n _ | .aload_n _ => Nat.beq n 1
    | .iload _ | .lload _ | .aload _ => Nat.beq n 2
    | .istore_n k | .astore_n k => Nat.beq n 1 && Nat.blt k nL
    | .istore k => Nat.beq n 2 && Nat.blt k nL
    | .lstore_n k => Nat.beq n 1 && Nat.blt (k + 1) nL
    | .lstore k => Nat.beq n 2 && Nat.blt (k + 1) nL
    | .iinc k d => decide (c = .inl (Int32.ofInt d)) && (Nat.beq n 3 && Nat.blt k nL)
    | .iadd | .isub | .imul | .idiv | .irem | .ineg | .iand | .ior | .ixor | .ishl | .ishr | .iushr | .ladd | .lsub | .lmul | .ldiv | .lneg | .land | .lor | .lxor | .lshl | .lshr | .lcmp | .i2l | .l2i | .i2c | .pop | .dup | .dup_x1 | .dup2 | .arraylength | .iaload | .baload | .aaload | .iastore | .bastore => Nat.beq n 1
    | .ireturn => Nat.beq n 1 && rv
    | .return_ => Nat.beq n 1 && !rv
    | .goto o | .ifCond _ o | .if_icmp _ o => Nat.beq n 3 && decide ((pc : Int) + o = t)
    | .tableswitch d lo hi os => decide ((pc : Int) + d = t) && (om_swk pc lo os.toList sw && decide (hi + 1 = lo + os.size))
    | .getfield ix => Nat.beq n 3 && (bif Nat.beq f.1 99 then (Nat.beq own 8 && ((Nat.beq f.2.2.1 2 && Nat.beq ix 9) || (Nat.beq f.2.2.1 3 && Nat.beq ix 15))) else om_fk own ix f)
    | .putfield ix => Nat.beq n 3 && om_fk own ix f
    | .invokevirtual ix => Nat.beq n 3 && (om_mk own ix f.2.1 f.2.2.2 && (match om_nth om_sig f.2.1 with
      | some q => Nat.beq f.2.2.1 (q.2.2.2.2.2.2 + 1) && (!q.2.2.2.2.2.1 && decide (q.1.cls = om_cn (om_rcn f.1)) && (Nat.blt f.1 8 || Nat.beq f.1 99))
      | none => false))
    | .invokestatic ix => Nat.beq n 3 && (match f.1 with
      | 0 => om_mk own ix f.2.1 f.2.2.2 && (match om_nth om_sig f.2.1 with
        | some q => Nat.beq f.2.2.1 q.2.2.2.2.2.2 && q.2.2.2.2.2.1
        | none => false)
      | c + 1 => decide (om_nth om_iwl f.2.2.2 = some (own, ix, c + 1)))
    | _ => false
def om_cks (own nL : Nat) (rv : Bool) (nx : Nat) (cc : ByteArray) : Nat → List om_E → Bool
  | pc, [] => Nat.beq pc nx
  | pc, e :: r => Nat.beq e.1 pc && (decide (decode cc e.1 = .ok (e.2.1, e.2.2.1)) && (om_ek own nL rv e && om_cks own nL rv nx cc (pc + e.2.2.1) r))
def om_bks (own nL : Nat) (rv : Bool) (cc : ByteArray) (B : List om_Bk) : Bool := B.all fun q => om_cks own nL rv q.2.2.2 cc q.1 q.2.2.1

set_option maxRecDepth 100000 in
theorem om_bk0 : om_bks 0 3 false cX0_giveTo om_B0 = true := by decide +kernel
set_option maxRecDepth 100000 in
theorem om_bk1 : om_bks 0 4 true cX0_addPlace om_B1 = true := by decide +kernel
set_option maxRecDepth 100000 in
theorem om_bk2 : om_bks 0 5 true cX0_addArrow om_B2 = true := by decide +kernel
set_option maxRecDepth 100000 in
theorem om_bk3 : om_bks 0 3 false cX0_removeArrow om_B3 = true := by decide +kernel
set_option maxRecDepth 100000 in
theorem om_bk4 : om_bks 0 4 true cX0_find om_B4 = true := by decide +kernel
set_option maxRecDepth 100000 in
theorem om_bk5 : om_bks 0 2 true cX0_ownerOf om_B5 = true := by decide +kernel
set_option maxRecDepth 100000 in
theorem om_bk6 : om_bks 0 4 true cX0_isOpen om_B6 = true := by decide +kernel
set_option maxRecDepth 100000 in
theorem om_bk7 : om_bks 0 3 true cX0_toldPlaces om_B7 = true := by decide +kernel
set_option maxRecDepth 100000 in
theorem om_bk8 : om_bks 1 8 true cX1_isLeastOfLoop om_B8 = true := by decide +kernel
set_option maxRecDepth 100000 in
theorem om_bk9 : om_bks 1 7 true cX1_wrongPlaces om_B9 = true := by decide +kernel
set_option maxRecDepth 100000 in
theorem om_bk10 : om_bks 1 4 true cX1_indexOf om_B10 = true := by decide +kernel
set_option maxRecDepth 100000 in
theorem om_bk11 : om_bks 1 6 true cX1_leastOf om_B11 = true := by decide +kernel
set_option maxRecDepth 100000 in
theorem om_bk12 : om_bks 1 8 true cX1_isExtended om_B12 = true := by decide +kernel
set_option maxRecDepth 100000 in
theorem om_bk13 : om_bks 1 6 false cX1_findBreaker om_B13 = true := by decide +kernel
set_option maxRecDepth 100000 in
theorem om_bk14 : om_bks 2 6 false cX2_addMove om_B14 = true := by decide +kernel
set_option maxRecDepth 100000 in
theorem om_bk15 : om_bks 2 5 true cX2_sumAfter om_B15 = true := by decide +kernel
set_option maxRecDepth 100000 in
theorem om_bk16 : om_bks 3 2 true cX3_placesOf om_B16 = true := by decide +kernel
set_option maxRecDepth 100000 in
theorem om_bk17 : om_bks 11 1 true cJ6_bitCount_0f7a4 om_B17 = true := by decide +kernel
set_option maxRecDepth 100000 in
theorem om_bk18 : om_bks 2 6 true cX2_plansOf om_B18 = true := by decide +kernel
set_option maxRecDepth 100000 in
theorem om_bk19 : om_bks 2 4 true cX2_bitAt om_B19 = true := by decide +kernel
set_option maxRecDepth 100000 in
theorem om_bk20 : om_bks 2 8 false cX2_choosePlan om_B20 = true := by decide +kernel
set_option maxRecDepth 100000 in
theorem om_bk21 : om_bks 2 9 false cX2_walk om_B21 = true := by decide +kernel
set_option maxRecDepth 100000 in
theorem om_bk22 : om_bks 2 12 false cX2_findLeastLoop om_B22 = true := by decide +kernel
set_option maxRecDepth 100000 in
theorem om_bk23 : om_bks 2 7 false cX2_findBest om_B23 = true := by decide +kernel
set_option maxRecDepth 100000 in
theorem om_bk24 : om_bks 2 6 false cX2_findSure om_B24 = true := by decide +kernel
set_option maxRecDepth 100000 in
theorem om_bk25 : om_bks 2 12 true cX2_isRaised om_B25 = true := by decide +kernel
set_option maxRecDepth 100000 in
theorem om_bk26 : om_bks 2 7 true cX2_isHeld om_B26 = true := by decide +kernel
set_option maxRecDepth 100000 in
theorem om_bk27 : om_bks 2 4 false cX2_findLeft om_B27 = true := by decide +kernel
set_option maxRecDepth 100000 in
theorem om_bk28 : om_bks 3 4 false cX3_clear om_B28 = true := by decide +kernel
set_option maxRecDepth 100000 in
theorem om_bk29 : om_bks 3 4 false cX3_add om_B29 = true := by decide +kernel
set_option maxRecDepth 100000 in
theorem om_bk30 : om_bks 3 2 false cX3_addStays om_B30 = true := by decide +kernel
set_option maxRecDepth 100000 in
theorem om_bk31 : om_bks 3 5 false cX3_load om_B31 = true := by decide +kernel
set_option maxRecDepth 100000 in
theorem om_bk32 : om_bks 3 4 false cX3_loadTold om_B32 = true := by decide +kernel
set_option maxRecDepth 100000 in
theorem om_bk33 : om_bks 3 3 false cX3_weighBySet om_B33 = true := by decide +kernel
set_option maxRecDepth 100000 in
theorem om_bk34 : om_bks 3 1 true cX3_everywhere om_B34 = true := by decide +kernel
set_option maxRecDepth 100000 in
theorem om_bk35 : om_bks 3 3 true cX3_branching om_B35 = true := by decide +kernel
set_option maxRecDepth 100000 in
theorem om_bk36 : om_bks 3 9 true cX3_oneMoveFrom om_B36 = true := by decide +kernel
set_option maxRecDepth 100000 in
theorem om_bk37 : om_bks 3 7 true cX3_attracted om_B37 = true := by decide +kernel
set_option maxRecDepth 100000 in
theorem om_bk38 : om_bks 3 6 true cX3_movesInto om_B38 = true := by decide +kernel
set_option maxRecDepth 100000 in
theorem om_bk39 : om_bks 3 4 true cX3_keeping om_B39 = true := by decide +kernel
set_option maxRecDepth 100000 in
theorem om_bk40 : om_bks 3 5 true cX3_withoutLost om_B40 = true := by decide +kernel
set_option maxRecDepth 100000 in
theorem om_bk41 : om_bks 3 7 true cX3_meeting om_B41 = true := by decide +kernel
set_option maxRecDepth 100000 in
theorem om_bk42 : om_bks 3 5 true cX3_leastNumber om_B42 = true := by decide +kernel
set_option maxRecDepth 100000 in
theorem om_bk43 : om_bks 3 6 true cX3_holders om_B43 = true := by decide +kernel
set_option maxRecDepth 100000 in
theorem om_bk44 : om_bks 3 12 true cX3_evenPlaces om_B44 = true := by decide +kernel
set_option maxRecDepth 100000 in
theorem om_bk45 : om_bks 3 4 true cX3_wonBy om_B45 = true := by decide +kernel
set_option maxRecDepth 100000 in
theorem om_bk46 : om_bks 4 1 false cX4_clear om_B46 = true := by decide +kernel
set_option maxRecDepth 100000 in
theorem om_bk47 : om_bks 4 3 false cX4_begin om_B47 = true := by decide +kernel
set_option maxRecDepth 100000 in
theorem om_bk48 : om_bks 4 2 false cX4_emit om_B48 = true := by decide +kernel
set_option maxRecDepth 100000 in
theorem om_bk49 : om_bks 4 1 true cX4_lastHeld om_B49 = true := by decide +kernel
set_option maxRecDepth 100000 in
theorem om_bk50 : om_bks 4 2 false cX4_emitNots om_B50 = true := by decide +kernel
set_option maxRecDepth 100000 in
theorem om_bk51 : om_bks 4 1 false cX4_endUnit om_B51 = true := by decide +kernel
set_option maxRecDepth 100000 in
theorem om_bk52 : om_bks 4 2 false cX4_hold om_B52 = true := by decide +kernel
set_option maxRecDepth 100000 in
theorem om_bk53 : om_bks 4 4 false cX4_join om_B53 = true := by decide +kernel
set_option maxRecDepth 100000 in
theorem om_bk54 : om_bks 4 2 false cX4_emitHeld om_B54 = true := by decide +kernel
set_option maxRecDepth 100000 in
theorem om_bk55 : om_bks 4 1 false cX4_closeParenthesis om_B55 = true := by decide +kernel
set_option maxRecDepth 100000 in
theorem om_bk56 : om_bks 4 6 true cX4_isUnitTrue om_B56 = true := by decide +kernel
set_option maxRecDepth 100000 in
theorem om_bk57 : om_bks 4 12 true cX4_isTrue om_B57 = true := by decide +kernel
set_option maxRecDepth 100000 in
theorem om_bk58 : om_bks 5 2 false cX5_add om_B58 = true := by decide +kernel
set_option maxRecDepth 100000 in
theorem om_bk59 : om_bks 5 1 true cX5_isLetter om_B59 = true := by decide +kernel
set_option maxRecDepth 100000 in
theorem om_bk60 : om_bks 8 1 true cJ0_coder_7d493 om_B60 = true := by decide +kernel
set_option maxRecDepth 100000 in
theorem om_bk61 : om_bks 8 1 true cJ0_length_8abf5 om_B61 = true := by decide +kernel
set_option maxRecDepth 100000 in
theorem om_bk62 : om_bks 8 1 true cJ0_isLatin1_aae02 om_B62 = true := by decide +kernel
set_option maxRecDepth 100000 in
theorem om_bk63 : om_bks 9 2 true cJ1_charAt_3b067 om_B63 = true := by decide +kernel
set_option maxRecDepth 100000 in
theorem om_bk64 : om_bks 8 2 true cJ0_charAt_5068e om_B64 = true := by decide +kernel
set_option maxRecDepth 100000 in
theorem om_bk65 : om_bks 5 3 true cX5_isWord om_B65 = true := by decide +kernel
set_option maxRecDepth 100000 in
theorem om_bk66 : om_bks 5 1 true cX5_wordToken om_B66 = true := by decide +kernel
set_option maxRecDepth 100000 in
theorem om_bk67 : om_bks 5 1 true cX5_isDigit om_B67 = true := by decide +kernel
set_option maxRecDepth 100000 in
theorem om_bk68 : om_bks 5 3 true cX5_numberValue om_B68 = true := by decide +kernel
set_option maxRecDepth 100000 in
theorem om_bk69 : om_bks 5 2 false cX5_readToken om_B69 = true := by decide +kernel
set_option maxRecDepth 100000 in
theorem om_bk70 : om_bks 5 1 true cX5_beginUnit om_B70 = true := by decide +kernel
set_option maxRecDepth 100000 in
theorem om_bk71 : om_bks 5 1 true cX5_joinUnits om_B71 = true := by decide +kernel
set_option maxRecDepth 100000 in
theorem om_bk72 : om_bks 5 1 true cX5_takeVerb om_B72 = true := by decide +kernel
set_option maxRecDepth 100000 in
theorem om_bk73 : om_bks 5 2 true cX5_isPlaceNumber om_B73 = true := by decide +kernel
set_option maxRecDepth 100000 in
theorem om_bk74 : om_bks 5 2 true cX5_takeMember om_B74 = true := by decide +kernel
set_option maxRecDepth 100000 in
theorem om_bk75 : om_bks 5 2 true cX5_takePlace om_B75 = true := by decide +kernel
set_option maxRecDepth 100000 in
theorem om_bk76 : om_bks 5 1 true cX5_endUnit om_B76 = true := by decide +kernel
set_option maxRecDepth 100000 in
theorem om_bk77 : om_bks 5 1 true cX5_takeSide om_B77 = true := by decide +kernel
set_option maxRecDepth 100000 in
theorem om_bk78 : om_bks 5 1 true cX5_takeBound om_B78 = true := by decide +kernel
set_option maxRecDepth 100000 in
theorem om_bk79 : om_bks 5 3 true cX5_stateAfter om_B79 = true := by decide +kernel
set_option maxRecDepth 100000 in
theorem om_bk80 : om_bks 5 5 true cX5_read om_B80 = true := by decide +kernel
set_option maxRecDepth 100000 in
theorem om_bk81 : om_bks 6 1 true cX6_isPlayer om_B81 = true := by decide +kernel
set_option maxRecDepth 100000 in
theorem om_bk82 : om_bks 6 1 true cX6_isNumber om_B82 = true := by decide +kernel
set_option maxRecDepth 100000 in
theorem om_bk83 : om_bks 6 3 true cX6_place om_B83 = true := by decide +kernel
set_option maxRecDepth 100000 in
theorem om_bk84 : om_bks 6 2 true cX6_isPlace om_B84 = true := by decide +kernel
set_option maxRecDepth 100000 in
theorem om_bk85 : om_bks 6 1 true cX6_isWeight om_B85 = true := by decide +kernel
set_option maxRecDepth 100000 in
theorem om_bk86 : om_bks 6 4 true cX6_arrow om_B86 = true := by decide +kernel
set_option maxRecDepth 100000 in
theorem om_bk87 : om_bks 6 2 true cX6_isArrow om_B87 = true := by decide +kernel
set_option maxRecDepth 100000 in
theorem om_bk88 : om_bks 6 2 true cX6_cut om_B88 = true := by decide +kernel
set_option maxRecDepth 100000 in
theorem om_bk89 : om_bks 6 4 true cX6_give om_B89 = true := by decide +kernel
set_option maxRecDepth 100000 in
theorem om_bk90 : om_bks 6 5 true cX6_set om_B90 = true := by decide +kernel
set_option maxRecDepth 100000 in
theorem om_bk91 : om_bks 6 3 true cX6_from om_B91 = true := by decide +kernel
set_option maxRecDepth 100000 in
theorem om_bk92 : om_bks 6 2 true cX6_isSet om_B92 = true := by decide +kernel
set_option maxRecDepth 100000 in
theorem om_bk93 : om_bks 6 3 true cX6_forced om_B93 = true := by decide +kernel
set_option maxRecDepth 100000 in
theorem om_bk94 : om_bks 6 4 true cX6_steps om_B94 = true := by decide +kernel
set_option maxRecDepth 100000 in
theorem om_bk95 : om_bks 6 3 true cX6_kept om_B95 = true := by decide +kernel
set_option maxRecDepth 100000 in
theorem om_bk96 : om_bks 6 4 true cX6_both om_B96 = true := by decide +kernel
set_option maxRecDepth 100000 in
theorem om_bk97 : om_bks 6 3 true cX6_again om_B97 = true := by decide +kernel
set_option maxRecDepth 100000 in
theorem om_bk98 : om_bks 6 1 true cX6_won om_B98 = true := by decide +kernel
set_option maxRecDepth 100000 in
theorem om_bk99 : om_bks 6 5 true cX6_narrowed om_B99 = true := by decide +kernel
set_option maxRecDepth 100000 in
theorem om_bk100 : om_bks 6 7 true cX6_plan om_B100 = true := by decide +kernel
set_option maxRecDepth 100000 in
theorem om_bk101 : om_bks 6 3 true cX6_after om_B101 = true := by decide +kernel
set_option maxRecDepth 100000 in
theorem om_bk102 : om_bks 6 1 true cX6_isPart om_B102 = true := by decide +kernel
set_option maxRecDepth 100000 in
theorem om_bk103 : om_bks 6 3 true cX6_mean om_B103 = true := by decide +kernel
set_option maxRecDepth 100000 in
theorem om_bk104 : om_bks 6 5 true cX6_rate om_B104 = true := by decide +kernel
set_option maxRecDepth 100000 in
theorem om_bk105 : om_bks 6 4 true cX6_tell om_B105 = true := by decide +kernel
set_option maxRecDepth 100000 in
theorem om_bk106 : om_bks 6 3 true cX6_untell om_B106 = true := by decide +kernel
set_option maxRecDepth 100000 in
theorem om_bk107 : om_bks 6 1 true cX6_oddness om_B107 = true := by decide +kernel
set_option maxRecDepth 100000 in
theorem om_bk108 : om_bks 6 2 true cX6_judged om_B108 = true := by decide +kernel
set_option maxRecDepth 100000 in
theorem om_bk109 : om_bks 6 5 true cX6_breaker om_B109 = true := by decide +kernel
set_option maxRecDepth 100000 in
theorem om_bk110 : om_bks 6 4 true cX6_worth om_B110 = true := by decide +kernel
set_option maxRecDepth 100000 in
theorem om_bk111 : om_bks 6 5 true cX6_write om_B111 = true := by decide +kernel
set_option maxRecDepth 100000 in
theorem om_bk112 : om_bks 6 2 true cX6_erase om_B112 = true := by decide +kernel
set_option maxRecDepth 100000 in
theorem om_bk113 : om_bks 6 1 true cX6_fault om_B113 = true := by decide +kernel
set_option maxRecDepth 100000 in
theorem om_bk114 : om_bks 6 2 true cX6_ask om_B114 = true := by decide +kernel
set_option maxRecDepth 100000 in
theorem om_bk115 : om_bks 6 1 true cX6_holds om_B115 = true := by decide +kernel
set_option maxRecDepth 100000 in
theorem om_bk116 : om_bks 6 4 true cX6_turned om_B116 = true := by decide +kernel
set_option maxRecDepth 100000 in
theorem om_bk117 : om_bks 6 4 true cX6_bought om_B117 = true := by decide +kernel
set_option maxRecDepth 100000 in
theorem om_bk118 : om_bks 6 2 true cX6_count om_B118 = true := by decide +kernel
set_option maxRecDepth 100000 in
theorem om_bk119 : om_bks 7 6 true cX7_in om_B119 = true := by decide +kernel
set_option maxRecDepth 100000 in
theorem om_bk120 : om_bks 7 2 true cX7_isPlace om_B120 = true := by decide +kernel
set_option maxRecDepth 100000 in
theorem om_bk121 : om_bks 7 2 true cX7_isArrow om_B121 = true := by decide +kernel
set_option maxRecDepth 100000 in
theorem om_bk122 : om_bks 7 2 true cX7_isSet om_B122 = true := by decide +kernel
set_option maxRecDepth 100000 in
theorem om_bk123 : om_bks 7 1 true cX7_isPlayer om_B123 = true := by decide +kernel
set_option maxRecDepth 100000 in
theorem om_bk124 : om_bks 7 3 true cX7_place om_B124 = true := by decide +kernel
set_option maxRecDepth 100000 in
theorem om_bk125 : om_bks 7 5 true cX7_arrowOf om_B125 = true := by decide +kernel
set_option maxRecDepth 100000 in
theorem om_bk126 : om_bks 7 4 true cX7_arrow om_B126 = true := by decide +kernel
set_option maxRecDepth 100000 in
theorem om_bk127 : om_bks 7 3 true cX7_cut om_B127 = true := by decide +kernel
set_option maxRecDepth 100000 in
theorem om_bk128 : om_bks 7 4 true cX7_give om_B128 = true := by decide +kernel
set_option maxRecDepth 100000 in
theorem om_bk129 : om_bks 7 6 true cX7_set om_B129 = true := by decide +kernel
set_option maxRecDepth 100000 in
theorem om_bk130 : om_bks 7 3 true cX7_from om_B130 = true := by decide +kernel
set_option maxRecDepth 100000 in
theorem om_bk131 : om_bks 7 2 true cX7_isUsed om_B131 = true := by decide +kernel
set_option maxRecDepth 100000 in
theorem om_bk132 : om_bks 7 2 false cX7_layMoves om_B132 = true := by decide +kernel
set_option maxRecDepth 100000 in
theorem om_bk133 : om_bks 7 2 false cX7_noneAlone om_B133 = true := by decide +kernel
set_option maxRecDepth 100000 in
theorem om_bk134 : om_bks 7 6 true cX7_bring om_B134 = true := by decide +kernel
set_option maxRecDepth 100000 in
theorem om_bk135 : om_bks 7 5 true cX7_forcedTo om_B135 = true := by decide +kernel
set_option maxRecDepth 100000 in
theorem om_bk136 : om_bks 7 3 true cX7_forced om_B136 = true := by decide +kernel
set_option maxRecDepth 100000 in
theorem om_bk137 : om_bks 7 6 true cX7_steps om_B137 = true := by decide +kernel
set_option maxRecDepth 100000 in
theorem om_bk138 : om_bks 7 5 true cX7_keptIn om_B138 = true := by decide +kernel
set_option maxRecDepth 100000 in
theorem om_bk139 : om_bks 7 3 true cX7_kept om_B139 = true := by decide +kernel
set_option maxRecDepth 100000 in
theorem om_bk140 : om_bks 7 7 true cX7_bothOf om_B140 = true := by decide +kernel
set_option maxRecDepth 100000 in
theorem om_bk141 : om_bks 7 3 true cX7_again om_B141 = true := by decide +kernel
set_option maxRecDepth 100000 in
theorem om_bk142 : om_bks 7 4 true cX7_both om_B142 = true := by decide +kernel
set_option maxRecDepth 100000 in
theorem om_bk143 : om_bks 7 1 true cX7_unit om_B143 = true := by decide +kernel
set_option maxRecDepth 100000 in
theorem om_bk144 : om_bks 7 6 true cX7_needed om_B144 = true := by decide +kernel
set_option maxRecDepth 100000 in
theorem om_bk145 : om_bks 7 5 true cX7_liftOf om_B145 = true := by decide +kernel
set_option maxRecDepth 100000 in
theorem om_bk146 : om_bks 7 4 true cX7_wonNow om_B146 = true := by decide +kernel
set_option maxRecDepth 100000 in
theorem om_bk147 : om_bks 7 1 true cX7_won om_B147 = true := by decide +kernel
set_option maxRecDepth 100000 in
theorem om_bk148 : om_bks 7 3 true cX7_wonBy om_B148 = true := by decide +kernel
set_option maxRecDepth 100000 in
theorem om_bk149 : om_bks 7 4 true cX7_hasArrows om_B149 = true := by decide +kernel
set_option maxRecDepth 100000 in
theorem om_bk150 : om_bks 7 7 true cX7_plan om_B150 = true := by decide +kernel
set_option maxRecDepth 100000 in
theorem om_bk151 : om_bks 7 3 true cX7_weightOf om_B151 = true := by decide +kernel
set_option maxRecDepth 100000 in
theorem om_bk152 : om_bks 7 9 false cX7_oneMore om_B152 = true := by decide +kernel
set_option maxRecDepth 100000 in
theorem om_bk153 : om_bks 7 5 false cX7_layValues om_B153 = true := by decide +kernel
set_option maxRecDepth 100000 in
theorem om_bk154 : om_bks 7 3 true cX7_after om_B154 = true := by decide +kernel
set_option maxRecDepth 100000 in
theorem om_bk155 : om_bks 7 7 false cX7_nearest om_B155 = true := by decide +kernel
set_option maxRecDepth 100000 in
theorem om_bk156 : om_bks 7 3 true cX7_mean om_B156 = true := by decide +kernel
set_option maxRecDepth 100000 in
theorem om_bk157 : om_bks 7 5 true cX7_rate om_B157 = true := by decide +kernel
set_option maxRecDepth 100000 in
theorem om_bk158 : om_bks 7 3 true cX7_tell om_B158 = true := by decide +kernel
set_option maxRecDepth 100000 in
theorem om_bk159 : om_bks 7 3 true cX7_untell om_B159 = true := by decide +kernel
set_option maxRecDepth 100000 in
theorem om_bk160 : om_bks 7 3 false cX7_layTold om_B160 = true := by decide +kernel
set_option maxRecDepth 100000 in
theorem om_bk161 : om_bks 7 6 true cX7_reachFrom om_B161 = true := by decide +kernel
set_option maxRecDepth 100000 in
theorem om_bk162 : om_bks 7 6 true cX7_badFor om_B162 = true := by decide +kernel
set_option maxRecDepth 100000 in
theorem om_bk163 : om_bks 7 5 true cX7_rightOf om_B163 = true := by decide +kernel
set_option maxRecDepth 100000 in
theorem om_bk164 : om_bks 7 2 true cX7_judged om_B164 = true := by decide +kernel
set_option maxRecDepth 100000 in
theorem om_bk165 : om_bks 7 4 true cX7_placeIn om_B165 = true := by decide +kernel
set_option maxRecDepth 100000 in
theorem om_bk166 : om_bks 7 5 true cX7_isBadFrom om_B166 = true := by decide +kernel
set_option maxRecDepth 100000 in
theorem om_bk167 : om_bks 7 6 true cX7_closes om_B167 = true := by decide +kernel
set_option maxRecDepth 100000 in
theorem om_bk168 : om_bks 7 5 true cX7_breaker om_B168 = true := by decide +kernel
set_option maxRecDepth 100000 in
theorem om_bk169 : om_bks 7 6 false cX7_addMoves om_B169 = true := by decide +kernel
set_option maxRecDepth 100000 in
theorem om_bk170 : om_bks 7 5 true cX7_divisor om_B170 = true := by decide +kernel
set_option maxRecDepth 100000 in
theorem om_bk171 : om_bks 7 9 true cX7_worth om_B171 = true := by decide +kernel
set_option maxRecDepth 100000 in
theorem om_bk172 : om_bks 7 5 true cX7_write om_B172 = true := by decide +kernel
set_option maxRecDepth 100000 in
theorem om_bk173 : om_bks 7 2 true cX7_erase om_B173 = true := by decide +kernel
set_option maxRecDepth 100000 in
theorem om_bk174 : om_bks 7 1 true cX7_sort om_B174 = true := by decide +kernel
set_option maxRecDepth 100000 in
theorem om_bk175 : om_bks 7 1 false cX7_token om_B175 = true := by decide +kernel
set_option maxRecDepth 100000 in
theorem om_bk176 : om_bks 7 5 true cX7_isWord om_B176 = true := by decide +kernel
set_option maxRecDepth 100000 in
theorem om_bk177 : om_bks 7 4 true cX7_skips om_B177 = true := by decide +kernel
set_option maxRecDepth 100000 in
theorem om_bk178 : om_bks 7 2 true cX7_isSign om_B178 = true := by decide +kernel
set_option maxRecDepth 100000 in
theorem om_bk179 : om_bks 7 4 true cX7_isNumber om_B179 = true := by decide +kernel
set_option maxRecDepth 100000 in
theorem om_bk180 : om_bks 7 5 false cX7_emit om_B180 = true := by decide +kernel
set_option maxRecDepth 100000 in
theorem om_bk181 : om_bks 7 1 true cX7_readsPlace om_B181 = true := by decide +kernel
set_option maxRecDepth 100000 in
theorem om_bk182 : om_bks 7 4 true cX7_readsFrom om_B182 = true := by decide +kernel
set_option maxRecDepth 100000 in
theorem om_bk183 : om_bks 7 5 true cX7_readsForce om_B183 = true := by decide +kernel
set_option maxRecDepth 100000 in
theorem om_bk184 : om_bks 7 3 true cX7_readsMean om_B184 = true := by decide +kernel
set_option maxRecDepth 100000 in
theorem om_bk185 : om_bks 7 1 true cX7_readsPlain om_B185 = true := by decide +kernel
set_option maxRecDepth 100000 in
theorem om_bk186 : om_bks 7 2 false cX7_emitWhile om_B186 = true := by decide +kernel
set_option maxRecDepth 100000 in
theorem om_bk187 : om_bks 7 2 true cX7_readsUnit om_B187 = true := by decide +kernel
set_option maxRecDepth 100000 in
theorem om_bk188 : om_bks 7 1 false cX7_closeAll om_B188 = true := by decide +kernel
set_option maxRecDepth 100000 in
theorem om_bk189 : om_bks 7 2 true cX7_fault om_B189 = true := by decide +kernel
set_option maxRecDepth 100000 in
theorem om_bk190 : om_bks 7 5 true cX7_plainHolds om_B190 = true := by decide +kernel
set_option maxRecDepth 100000 in
theorem om_bk191 : om_bks 7 4 true cX7_holdsNow om_B191 = true := by decide +kernel
set_option maxRecDepth 100000 in
theorem om_bk192 : om_bks 7 2 true cX7_ask om_B192 = true := by decide +kernel
set_option maxRecDepth 100000 in
theorem om_bk193 : om_bks 7 1 true cX7_holds om_B193 = true := by decide +kernel
set_option maxRecDepth 100000 in
theorem om_bk194 : om_bks 7 4 true cX7_turned om_B194 = true := by decide +kernel
set_option maxRecDepth 100000 in
theorem om_bk195 : om_bks 7 3 false cX7_change om_B195 = true := by decide +kernel
set_option maxRecDepth 100000 in
theorem om_bk196 : om_bks 7 5 true cX7_bought om_B196 = true := by decide +kernel
set_option maxRecDepth 100000 in
theorem om_bk197 : om_bks 7 4 true cX7_count om_B197 = true := by decide +kernel
def om_allok : List om_Sg → List (List om_Bk) → Prop
  | q :: qs, B :: Bs => (∃ own, q.1.cls = om_cn own ∧ om_bks own q.2.2.1 q.2.2.2.1.isSome q.2.1 B = true) ∧ om_allok qs Bs
  | _, _ => True
set_option maxRecDepth 100000 in
theorem om_allok_ok : om_allok om_sig om_blk := ⟨⟨0, rfl, om_bk0⟩, ⟨⟨0, rfl, om_bk1⟩, ⟨⟨0, rfl, om_bk2⟩, ⟨⟨0, rfl, om_bk3⟩, ⟨⟨0, rfl, om_bk4⟩, ⟨⟨0, rfl, om_bk5⟩, ⟨⟨0, rfl, om_bk6⟩, ⟨⟨0, rfl, om_bk7⟩, ⟨⟨1, rfl, om_bk8⟩, ⟨⟨1, rfl, om_bk9⟩, ⟨⟨1, rfl, om_bk10⟩, ⟨⟨1, rfl, om_bk11⟩, ⟨⟨1, rfl, om_bk12⟩, ⟨⟨1, rfl, om_bk13⟩, ⟨⟨2, rfl, om_bk14⟩, ⟨⟨2, rfl, om_bk15⟩, ⟨⟨3, rfl, om_bk16⟩, ⟨⟨11, rfl, om_bk17⟩, ⟨⟨2, rfl, om_bk18⟩, ⟨⟨2, rfl, om_bk19⟩, ⟨⟨2, rfl, om_bk20⟩, ⟨⟨2, rfl, om_bk21⟩, ⟨⟨2, rfl, om_bk22⟩, ⟨⟨2, rfl, om_bk23⟩, ⟨⟨2, rfl, om_bk24⟩, ⟨⟨2, rfl, om_bk25⟩, ⟨⟨2, rfl, om_bk26⟩, ⟨⟨2, rfl, om_bk27⟩, ⟨⟨3, rfl, om_bk28⟩, ⟨⟨3, rfl, om_bk29⟩, ⟨⟨3, rfl, om_bk30⟩, ⟨⟨3, rfl, om_bk31⟩, ⟨⟨3, rfl, om_bk32⟩, ⟨⟨3, rfl, om_bk33⟩, ⟨⟨3, rfl, om_bk34⟩, ⟨⟨3, rfl, om_bk35⟩, ⟨⟨3, rfl, om_bk36⟩, ⟨⟨3, rfl, om_bk37⟩, ⟨⟨3, rfl, om_bk38⟩, ⟨⟨3, rfl, om_bk39⟩, ⟨⟨3, rfl, om_bk40⟩, ⟨⟨3, rfl, om_bk41⟩, ⟨⟨3, rfl, om_bk42⟩, ⟨⟨3, rfl, om_bk43⟩, ⟨⟨3, rfl, om_bk44⟩, ⟨⟨3, rfl, om_bk45⟩, ⟨⟨4, rfl, om_bk46⟩, ⟨⟨4, rfl, om_bk47⟩, ⟨⟨4, rfl, om_bk48⟩, ⟨⟨4, rfl, om_bk49⟩, ⟨⟨4, rfl, om_bk50⟩, ⟨⟨4, rfl, om_bk51⟩, ⟨⟨4, rfl, om_bk52⟩, ⟨⟨4, rfl, om_bk53⟩, ⟨⟨4, rfl, om_bk54⟩, ⟨⟨4, rfl, om_bk55⟩, ⟨⟨4, rfl, om_bk56⟩, ⟨⟨4, rfl, om_bk57⟩, ⟨⟨5, rfl, om_bk58⟩, ⟨⟨5, rfl, om_bk59⟩, ⟨⟨8, rfl, om_bk60⟩, ⟨⟨8, rfl, om_bk61⟩, ⟨⟨8, rfl, om_bk62⟩, ⟨⟨9, rfl, om_bk63⟩, ⟨⟨8, rfl, om_bk64⟩, ⟨⟨5, rfl, om_bk65⟩, ⟨⟨5, rfl, om_bk66⟩, ⟨⟨5, rfl, om_bk67⟩, ⟨⟨5, rfl, om_bk68⟩, ⟨⟨5, rfl, om_bk69⟩, ⟨⟨5, rfl, om_bk70⟩, ⟨⟨5, rfl, om_bk71⟩, ⟨⟨5, rfl, om_bk72⟩, ⟨⟨5, rfl, om_bk73⟩, ⟨⟨5, rfl, om_bk74⟩, ⟨⟨5, rfl, om_bk75⟩, ⟨⟨5, rfl, om_bk76⟩, ⟨⟨5, rfl, om_bk77⟩, ⟨⟨5, rfl, om_bk78⟩, ⟨⟨5, rfl, om_bk79⟩, ⟨⟨5, rfl, om_bk80⟩, ⟨⟨6, rfl, om_bk81⟩, ⟨⟨6, rfl, om_bk82⟩, ⟨⟨6, rfl, om_bk83⟩, ⟨⟨6, rfl, om_bk84⟩, ⟨⟨6, rfl, om_bk85⟩, ⟨⟨6, rfl, om_bk86⟩, ⟨⟨6, rfl, om_bk87⟩, ⟨⟨6, rfl, om_bk88⟩, ⟨⟨6, rfl, om_bk89⟩, ⟨⟨6, rfl, om_bk90⟩, ⟨⟨6, rfl, om_bk91⟩, ⟨⟨6, rfl, om_bk92⟩, ⟨⟨6, rfl, om_bk93⟩, ⟨⟨6, rfl, om_bk94⟩, ⟨⟨6, rfl, om_bk95⟩, ⟨⟨6, rfl, om_bk96⟩, ⟨⟨6, rfl, om_bk97⟩, ⟨⟨6, rfl, om_bk98⟩, ⟨⟨6, rfl, om_bk99⟩, ⟨⟨6, rfl, om_bk100⟩, ⟨⟨6, rfl, om_bk101⟩, ⟨⟨6, rfl, om_bk102⟩, ⟨⟨6, rfl, om_bk103⟩, ⟨⟨6, rfl, om_bk104⟩, ⟨⟨6, rfl, om_bk105⟩, ⟨⟨6, rfl, om_bk106⟩, ⟨⟨6, rfl, om_bk107⟩, ⟨⟨6, rfl, om_bk108⟩, ⟨⟨6, rfl, om_bk109⟩, ⟨⟨6, rfl, om_bk110⟩, ⟨⟨6, rfl, om_bk111⟩, ⟨⟨6, rfl, om_bk112⟩, ⟨⟨6, rfl, om_bk113⟩, ⟨⟨6, rfl, om_bk114⟩, ⟨⟨6, rfl, om_bk115⟩, ⟨⟨6, rfl, om_bk116⟩, ⟨⟨6, rfl, om_bk117⟩, ⟨⟨6, rfl, om_bk118⟩, ⟨⟨7, rfl, om_bk119⟩, ⟨⟨7, rfl, om_bk120⟩, ⟨⟨7, rfl, om_bk121⟩, ⟨⟨7, rfl, om_bk122⟩, ⟨⟨7, rfl, om_bk123⟩, ⟨⟨7, rfl, om_bk124⟩, ⟨⟨7, rfl, om_bk125⟩, ⟨⟨7, rfl, om_bk126⟩, ⟨⟨7, rfl, om_bk127⟩, ⟨⟨7, rfl, om_bk128⟩, ⟨⟨7, rfl, om_bk129⟩, ⟨⟨7, rfl, om_bk130⟩, ⟨⟨7, rfl, om_bk131⟩, ⟨⟨7, rfl, om_bk132⟩, ⟨⟨7, rfl, om_bk133⟩, ⟨⟨7, rfl, om_bk134⟩, ⟨⟨7, rfl, om_bk135⟩, ⟨⟨7, rfl, om_bk136⟩, ⟨⟨7, rfl, om_bk137⟩, ⟨⟨7, rfl, om_bk138⟩, ⟨⟨7, rfl, om_bk139⟩, ⟨⟨7, rfl, om_bk140⟩, ⟨⟨7, rfl, om_bk141⟩, ⟨⟨7, rfl, om_bk142⟩, ⟨⟨7, rfl, om_bk143⟩, ⟨⟨7, rfl, om_bk144⟩, ⟨⟨7, rfl, om_bk145⟩, ⟨⟨7, rfl, om_bk146⟩, ⟨⟨7, rfl, om_bk147⟩, ⟨⟨7, rfl, om_bk148⟩, ⟨⟨7, rfl, om_bk149⟩, ⟨⟨7, rfl, om_bk150⟩, ⟨⟨7, rfl, om_bk151⟩, ⟨⟨7, rfl, om_bk152⟩, ⟨⟨7, rfl, om_bk153⟩, ⟨⟨7, rfl, om_bk154⟩, ⟨⟨7, rfl, om_bk155⟩, ⟨⟨7, rfl, om_bk156⟩, ⟨⟨7, rfl, om_bk157⟩, ⟨⟨7, rfl, om_bk158⟩, ⟨⟨7, rfl, om_bk159⟩, ⟨⟨7, rfl, om_bk160⟩, ⟨⟨7, rfl, om_bk161⟩, ⟨⟨7, rfl, om_bk162⟩, ⟨⟨7, rfl, om_bk163⟩, ⟨⟨7, rfl, om_bk164⟩, ⟨⟨7, rfl, om_bk165⟩, ⟨⟨7, rfl, om_bk166⟩, ⟨⟨7, rfl, om_bk167⟩, ⟨⟨7, rfl, om_bk168⟩, ⟨⟨7, rfl, om_bk169⟩, ⟨⟨7, rfl, om_bk170⟩, ⟨⟨7, rfl, om_bk171⟩, ⟨⟨7, rfl, om_bk172⟩, ⟨⟨7, rfl, om_bk173⟩, ⟨⟨7, rfl, om_bk174⟩, ⟨⟨7, rfl, om_bk175⟩, ⟨⟨7, rfl, om_bk176⟩, ⟨⟨7, rfl, om_bk177⟩, ⟨⟨7, rfl, om_bk178⟩, ⟨⟨7, rfl, om_bk179⟩, ⟨⟨7, rfl, om_bk180⟩, ⟨⟨7, rfl, om_bk181⟩, ⟨⟨7, rfl, om_bk182⟩, ⟨⟨7, rfl, om_bk183⟩, ⟨⟨7, rfl, om_bk184⟩, ⟨⟨7, rfl, om_bk185⟩, ⟨⟨7, rfl, om_bk186⟩, ⟨⟨7, rfl, om_bk187⟩, ⟨⟨7, rfl, om_bk188⟩, ⟨⟨7, rfl, om_bk189⟩, ⟨⟨7, rfl, om_bk190⟩, ⟨⟨7, rfl, om_bk191⟩, ⟨⟨7, rfl, om_bk192⟩, ⟨⟨7, rfl, om_bk193⟩, ⟨⟨7, rfl, om_bk194⟩, ⟨⟨7, rfl, om_bk195⟩, ⟨⟨7, rfl, om_bk196⟩, ⟨⟨7, rfl, om_bk197⟩, trivial⟩⟩⟩⟩⟩⟩⟩⟩⟩⟩⟩⟩⟩⟩⟩⟩⟩⟩⟩⟩⟩⟩⟩⟩⟩⟩⟩⟩⟩⟩⟩⟩⟩⟩⟩⟩⟩⟩⟩⟩⟩⟩⟩⟩⟩⟩⟩⟩⟩⟩⟩⟩⟩⟩⟩⟩⟩⟩⟩⟩⟩⟩⟩⟩⟩⟩⟩⟩⟩⟩⟩⟩⟩⟩⟩⟩⟩⟩⟩⟩⟩⟩⟩⟩⟩⟩⟩⟩⟩⟩⟩⟩⟩⟩⟩⟩⟩⟩⟩⟩⟩⟩⟩⟩⟩⟩⟩⟩⟩⟩⟩⟩⟩⟩⟩⟩⟩⟩⟩⟩⟩⟩⟩⟩⟩⟩⟩⟩⟩⟩⟩⟩⟩⟩⟩⟩⟩⟩⟩⟩⟩⟩⟩⟩⟩⟩⟩⟩⟩⟩⟩⟩⟩⟩⟩⟩⟩⟩⟩⟩⟩⟩⟩⟩⟩⟩⟩⟩⟩⟩⟩⟩⟩⟩⟩⟩⟩⟩⟩⟩⟩⟩⟩⟩⟩⟩⟩⟩⟩⟩⟩⟩⟩⟩⟩⟩⟩⟩
