theorem hp_nmi {l : Launch} {own : String} {cc : ByteArray} {nL : Nat} {rt : Option FieldType} {ini : Bool} {X : Option (Nat × (Nat → Int32))} {d : Nat} {zr : Bool} {Q : Option Value → hp_H → Prop} {zz : Bool} {k n : Nat} {pc : Nat} {lv : List (Nat × Value)} {st : List Value} {h : hp_H} {x y : Int32} (e : some x = some y) (kk : hp_G l (own, cc, nL, rt, ini) X d zr Q zz k n pc lv (.int y :: st) h) : hp_G l (own, cc, nL, rt, ini) X d zr Q zz k n pc lv (.int x :: st) h := by cases e; exact kk
theorem hp_nml {l : Launch} {own : String} {cc : ByteArray} {nL : Nat} {rt : Option FieldType} {ini : Bool} {X : Option (Nat × (Nat → Int32))} {d : Nat} {zr : Bool} {Q : Option Value → hp_H → Prop} {zz : Bool} {k n : Nat} {pc : Nat} {lv : List (Nat × Value)} {st : List Value} {h : hp_H} {x y : Int64} (e : some x = some y) (kk : hp_G l (own, cc, nL, rt, ini) X d zr Q zz k n pc lv (.long y :: st) h) : hp_G l (own, cc, nL, rt, ini) X d zr Q zz k n pc lv (.long x :: st) h := by cases e; exact kk
theorem hp_nh {l : Launch} {own : String} {cc : ByteArray} {nL : Nat} {rt : Option FieldType} {ini : Bool} {X : Option (Nat × (Nat → Int32))} {d : Nat} {zr : Bool} {Q : Option Value → hp_H → Prop} {zz : Bool} {k n : Nat} {pc : Nat} {lv : List (Nat × Value)} {st : List Value} {a a' : Nat} {h h' : hp_H} (e : some a = some a') (e2 : some h = some h') (kk : hp_G l (own, cc, nL, rt, ini) X d zr Q zz k n pc lv (.ref a' :: st) h') : hp_G l (own, cc, nL, rt, ini) X d zr Q zz k n pc lv (.ref a :: st) h := by cases e; cases e2; exact kk
theorem hp_inc {x c v : Int32} {z : Int} (hz : Int32.ofInt z = c) (e : some (x + c) = some v) : x + Int32.ofInt z = v := by rw [hz]; exact Option.some.inj e
theorem hp_nei {x k : Int32} {z : Int} (hz : k.toInt = z) (h : ¬ x = k) : ¬ z = x.toInt := fun e => h (Int32.toInt_inj.mp (by rw [hz, e]))
def mx_ (x y : Int32) : Int32 := if x < y then y else x
def mn_ (x y : Int32) : Int32 := if y < x then y else x
def sl_ (L : Nat) (xs : Nat → Int32) (j : Int32) : Option Int32 := if j < 0 ∨ L ≤ j.toNatClampNeg then none else some (xs j.toNatClampNeg)
section HPS
variable {l : Launch} {own : String} {cc : ByteArray} {nL : Nat} {rt : Option FieldType} {ini : Bool} {X : Option (Nat × (Nat → Int32))} {d : Nat} {zr : Bool} {Q : Option Value → hp_H → Prop} {zz : Bool} {k n : Nat} {pc : Nat} {lv : List (Nat × Value)} {st : List Value} {h : hp_H}
theorem hp_lookup {dflt : Int} {ps : Array (Int × Int)} {len : Nat} {x : Int32} {tgt : Nat} (hdg : decode cc pc = .ok (.lookupswitch dflt ps, len)) (hp : (ps.toList.zip (ps.toList.drop 1)).all (fun (a, next) => a.1 < next.1) = true) (ho : (pc : Int) + Op.lookupswitch.offset ps.toList dflt x.toInt = (tgt : Int)) (kk : hp_G l (own, cc, nL, rt, ini) X d zr Q zz k n tgt lv st h) : hp_G l (own, cc, nL, rt, ini) X d zr Q zz k n pc lv (.int x :: st) h := by
  intro p e R s m args below meth c Z D A b H locs ls cells slots mc ms F a1 a2 hP hS hl
  exact lv_lookup F.1.1 F.1.2.1 hdg hp rfl ho (kk p e R s m args below meth c Z D A b H locs ls cells slots mc ms F a1 a2 hP hS hl)
theorem hp_tableIn {dflt lo hi : Int} {offs : Array Int} {len : Nat} {x : Int32} {off : Int} {tgt : Nat} (hdg : decode cc pc = .ok (.tableswitch dflt lo hi offs, len)) (h1 : ¬ x.toInt < lo) (h2 : ¬ hi < x.toInt) (ho : offs[(x.toInt - lo).toNat]? = some off) (ht : (pc : Int) + off = (tgt : Int)) (kk : hp_G l (own, cc, nL, rt, ini) X d zr Q zz k n tgt lv st h) : hp_G l (own, cc, nL, rt, ini) X d zr Q zz k n pc lv (.int x :: st) h := by
  intro p e R s m args below meth c Z D A b H locs ls cells slots mc ms F a1 a2 hP hS hl
  exact lv_tableIn F.1.1 F.1.2.1 hdg h1 h2 ho ht (kk p e R s m args below meth c Z D A b H locs ls cells slots mc ms F a1 a2 hP hS hl)
theorem hp_tableOut {dflt lo hi : Int} {offs : Array Int} {len : Nat} {x : Int32} {tgt : Nat} (hdg : decode cc pc = .ok (.tableswitch dflt lo hi offs, len)) (hx : x.toInt < lo ∨ hi < x.toInt) (ht : (pc : Int) + dflt = (tgt : Int)) (kk : hp_G l (own, cc, nL, rt, ini) X d zr Q zz k n tgt lv st h) : hp_G l (own, cc, nL, rt, ini) X d zr Q zz k n pc lv (.int x :: st) h := by
  intro p e R s m args below meth c Z D A b H locs ls cells slots mc ms F a1 a2 hP hS hl
  exact lv_tableOut F.1.1 F.1.2.1 hdg hx ht (kk p e R s m args below meth c Z D A b H locs ls cells slots mc ms F a1 a2 hP hS hl)
theorem hp_sl {L : Nat} {xs : Nat → Int32} {j x : Int32} {u : UInt32} (hdg : decode cc pc = .ok (.iaload, 1)) (hx : sl_ L xs j = some x) (kk : hp_G l (own, cc, nL, rt, ini) (some (L, xs)) d zr Q zz k n (pc + 1) lv (.int x :: st) h) : hp_G l (own, cc, nL, rt, ini) (some (L, xs)) d zr Q zz k n pc lv (.int j :: .float u :: st) h := by
  unfold sl_ at hx
  split at hx
  · cases hx
  · rename_i hj
    cases hx
    exact hp_sload (q := (L, xs)) rfl hj hdg kk
end HPS
theorem bi_6 : (Int8.ofInt 6).toInt32 = 6 := by decide
theorem ic_0 : Int32.ofInt 0 = 0 := by decide
theorem bi_8 : (Int8.ofInt 8).toInt32 = 8 := by decide
theorem bi_64 : (Int8.ofInt 64).toInt32 = 64 := by decide
theorem bi_60 : (Int8.ofInt 60).toInt32 = 60 := by decide
theorem ic_4 : Int32.ofInt 4 = 4 := by decide
theorem bi_m9 : (Int8.ofInt (-9)).toInt32 = (-9) := by decide
theorem ic_1 : Int32.ofInt 1 = 1 := by decide
theorem ic_2 : Int32.ofInt 2 = 2 := by decide
theorem ic_3 : Int32.ofInt 3 = 3 := by decide
theorem si_240 : (Int16.ofInt 240).toInt32 = 240 := by decide
theorem bi_18 : (Int8.ofInt 18).toInt32 = 18 := by decide
theorem bi_m10 : (Int8.ofInt (-10)).toInt32 = (-10) := by decide
theorem bi_10 : (Int8.ofInt 10).toInt32 = 10 := by decide
theorem bi_24 : (Int8.ofInt 24).toInt32 = 24 := by decide
theorem bi_59 : (Int8.ofInt 59).toInt32 = 59 := by decide
theorem bi_48 : (Int8.ofInt 48).toInt32 = 48 := by decide
theorem bi_118 : (Int8.ofInt 118).toInt32 = 118 := by decide
theorem bi_9 : (Int8.ofInt 9).toInt32 = 9 := by decide
theorem bi_m100 : (Int8.ofInt (-100)).toInt32 = (-100) := by decide
theorem bi_m2 : (Int8.ofInt (-2)).toInt32 = (-2) := by decide
theorem ic_m1 : Int32.ofInt (-1) = (-1) := by decide
theorem bi_57 : (Int8.ofInt 57).toInt32 = 57 := by decide
theorem bi_112 : (Int8.ofInt 112).toInt32 = 112 := by decide
theorem bi_108 : (Int8.ofInt 108).toInt32 = 108 := by decide
theorem bi_99 : (Int8.ofInt 99).toInt32 = 99 := by decide
theorem bi_m3 : (Int8.ofInt (-3)).toInt32 = (-3) := by decide
theorem bi_16 : (Int8.ofInt 16).toInt32 = 16 := by decide
theorem bi_63 : (Int8.ofInt 63).toInt32 = 63 := by decide
theorem bi_20 : (Int8.ofInt 20).toInt32 = 20 := by decide
theorem bi_29 : (Int8.ofInt 29).toInt32 = 29 := by decide
theorem bi_15 : (Int8.ofInt 15).toInt32 = 15 := by decide
theorem ic_5 : Int32.ofInt 5 = 5 := by decide
theorem bi_36 : (Int8.ofInt 36).toInt32 = 36 := by decide
theorem bi_m4 : (Int8.ofInt (-4)).toInt32 = (-4) := by decide
theorem bi_31 : (Int8.ofInt 31).toInt32 = 31 := by decide
theorem bi_100 : (Int8.ofInt 100).toInt32 = 100 := by decide
theorem bi_30 : (Int8.ofInt 30).toInt32 = 30 := by decide
theorem ic_6 : Int32.ofInt 6 = 6 := by decide
abbrev mX2_init : hp_Mi := (RX2, cX2_init, 1, none, true)
abbrev mX7_init : hp_Mi := (RX7, cX7_init, 2, none, true)
abbrev mX0_init : hp_Mi := (RX0, cX0_init, 1, none, true)
abbrev mX4_init : hp_Mi := (RX4, cX4_init, 1, none, true)
abbrev mX1_init : hp_Mi := (RX1, cX1_init, 1, none, true)
abbrev mX3_init : hp_Mi := (RX3, cX3_init, 1, none, true)
abbrev mX5_init : hp_Mi := (RX5, cX5_init, 1, none, true)
abbrev mX8_init : hp_Mi := (RX8, cX8_init, 2, none, true)
abbrev mX9_init : hp_Mi := (RX9, cX9_init, 1, none, true)
abbrev mX8_isSheet : hp_Mi := (RX8, cX8_isSheet, 1, (some .boolean), false)
abbrev mX8_isLane : hp_Mi := (RX8, cX8_isLane, 1, (some .boolean), false)
abbrev mX5_reaches : hp_Mi := (RX5, cX5_reaches, 3, (some .boolean), false)
abbrev mX5_faultOfRow : hp_Mi := (RX5, cX5_faultOfRow, 4, (some .int), false)
abbrev mX8_faulted : hp_Mi := (RX8, cX8_faulted, 2, (some .int), false)
abbrev mX5_read : hp_Mi := (RX5, cX5_read, 2, (some .int), false)
abbrev mX6_kindOf : hp_Mi := (RX6, cX6_kindOf, 1, (some .int), false)
abbrev mX8_isDigit : hp_Mi := (RX8, cX8_isDigit, 1, (some .boolean), false)
abbrev mX6_goesOn : hp_Mi := (RX6, cX6_goesOn, 2, (some .boolean), false)
abbrev mX6_firstFault : hp_Mi := (RX6, cX6_firstFault, 4, (some .int), false)
abbrev mX2_become : hp_Mi := (RX2, cX2_become, 5, none, false)
abbrev mX6_settle : hp_Mi := (RX6, cX6_settle, 9, none, false)
abbrev mX0_forget : hp_Mi := (RX0, cX0_forget, 2, none, false)
abbrev mX8_harbour : hp_Mi := (RX8, cX8_harbour, 8, (some .int), false)
abbrev mX9_within : hp_Mi := (RX9, cX9_within, 3, (some .boolean), false)
abbrev mX9_isSheet : hp_Mi := (RX9, cX9_isSheet, 1, (some .boolean), false)
abbrev mX9_isSort : hp_Mi := (RX9, cX9_isSort, 1, (some .boolean), false)
abbrev mX9_against : hp_Mi := (RX9, cX9_against, 5, (some .int), false)
abbrev mX9_fails : hp_Mi := (RX9, cX9_fails, 2, (some .int), false)
abbrev mX9_isSign : hp_Mi := (RX9, cX9_isSign, 3, (some .boolean), false)
abbrev mX9_digit : hp_Mi := (RX9, cX9_digit, 2, (some .int), false)
abbrev mX9_readPerson : hp_Mi := (RX9, cX9_readPerson, 4, (some .boolean), false)
abbrev mX9_readHarbour : hp_Mi := (RX9, cX9_readHarbour, 2, (some .boolean), false)
abbrev mX9_harbour : hp_Mi := (RX9, cX9_harbour, 8, (some .int), false)
abbrev mX7_has : hp_Mi := (RX7, cX7_has, 2, (some .boolean), false)
abbrev mX2_trait : hp_Mi := (RX2, cX2_trait, 2, (some .int), false)
abbrev mX2_best : hp_Mi := (RX2, cX2_best, 1, (some .int), false)
abbrev mX2_worst : hp_Mi := (RX2, cX2_worst, 1, (some .int), false)
abbrev mX8_ofPerson : hp_Mi := (RX8, cX8_ofPerson, 4, (some .int), false)
abbrev mX9_isPerson : hp_Mi := (RX9, cX9_isPerson, 2, (some .boolean), false)
abbrev mX9_bestOf : hp_Mi := (RX9, cX9_bestOf, 2, (some .int), false)
abbrev mX9_worstOf : hp_Mi := (RX9, cX9_worstOf, 3, (some .int), false)
abbrev mX9_ofPerson : hp_Mi := (RX9, cX9_ofPerson, 3, (some .int), false)
abbrev mX2_setTrait : hp_Mi := (RX2, cX2_setTrait, 3, none, false)
abbrev mX8_changed : hp_Mi := (RX8, cX8_changed, 5, (some .int), false)
abbrev mX8_train : hp_Mi := (RX8, cX8_train, 3, (some .int), false)
abbrev mX9_train : hp_Mi := (RX9, cX9_train, 4, (some .int), false)
abbrev mX8_learn : hp_Mi := (RX8, cX8_learn, 3, (some .int), false)
abbrev mX9_learn : hp_Mi := (RX9, cX9_learn, 4, (some .int), false)
abbrev mX7_hasTwo : hp_Mi := (RX7, cX7_hasTwo, 3, (some .boolean), false)
abbrev mX2_canPlay : hp_Mi := (RX2, cX2_canPlay, 2, (some .boolean), false)
abbrev mX7_bothHere : hp_Mi := (RX7, cX7_bothHere, 3, (some .boolean), false)
abbrev mX7_winnerLeaves : hp_Mi := (RX7, cX7_winnerLeaves, 6, (some .int), false)
abbrev mX8_game : hp_Mi := (RX8, cX8_game, 5, (some .int), false)
abbrev mX9_areTwo : hp_Mi := (RX9, cX9_areTwo, 3, (some .boolean), false)
abbrev mX9_isOf : hp_Mi := (RX9, cX9_isOf, 2, (some .boolean), false)
abbrev mX9_isAway : hp_Mi := (RX9, cX9_isAway, 3, (some .boolean), false)
abbrev mX9_play : hp_Mi := (RX9, cX9_play, 6, (some .int), false)
abbrev mX9_game : hp_Mi := (RX9, cX9_game, 5, (some .int), false)
abbrev mX8_shy : hp_Mi := (RX8, cX8_shy, 3, (some .int), false)
abbrev mX9_shy : hp_Mi := (RX9, cX9_shy, 3, (some .int), false)
abbrev mX7_goneSet : hp_Mi := (RX7, cX7_goneSet, 3, (some .int), false)
abbrev mJ6_bitCount_0f7a4 : hp_Mi := (RJ6, cJ6_bitCount_0f7a4, 1, (some .int), false)
abbrev mX8_fetch : hp_Mi := (RX8, cX8_fetch, 2, (some .int), false)
abbrev mX9_size : hp_Mi := (RX9, cX9_size, 3, (some .int), false)
abbrev mX9_fetch : hp_Mi := (RX9, cX9_fetch, 2, (some .int), false)
abbrev mX8_refusalOfRow : hp_Mi := (RX8, cX8_refusalOfRow, 7, (some .int), false)
abbrev mX4_isAct : hp_Mi := (RX4, cX4_isAct, 1, (some .boolean), false)
abbrev mX8_refusalOfActs : hp_Mi := (RX8, cX8_refusalOfActs, 5, (some .int), false)
abbrev mX7_becomeLike : hp_Mi := (RX7, cX7_becomeLike, 4, none, false)
abbrev mJ7_fill_53178 : hp_Mi := (RJ7, cJ7_fill_53178, 4, none, false)
abbrev mX4_comesBack : hp_Mi := (RX4, cX4_comesBack, 2, (some .boolean), false)
abbrev mX4_playShy : hp_Mi := (RX4, cX4_playShy, 4, (some .boolean), false)
abbrev mX4_goesOn : hp_Mi := (RX4, cX4_goesOn, 3, (some .boolean), false)
abbrev mX4_run : hp_Mi := (RX4, cX4_run, 6, none, false)
abbrev mX4_answer : hp_Mi := (RX4, cX4_answer, 2, (some .int), false)
abbrev mX8_season : hp_Mi := (RX8, cX8_season, 9, (some .int), false)
abbrev mX9_refusesPair : hp_Mi := (RX9, cX9_refusesPair, 3, (some .int), false)
abbrev mX9_does : hp_Mi := (RX9, cX9_does, 4, (some .boolean), false)
abbrev mX9_goSeason : hp_Mi := (RX9, cX9_goSeason, 4, (some .int), false)
abbrev mX9_tellSeason : hp_Mi := (RX9, cX9_tellSeason, 2, (some .int), false)
abbrev mX9_season : hp_Mi := (RX9, cX9_season, 12, (some .int), false)
abbrev mX8_safe : hp_Mi := (RX8, cX8_safe, 3, (some .int), false)
abbrev mX9_safe : hp_Mi := (RX9, cX9_safe, 3, (some .int), false)
abbrev mX8_sure : hp_Mi := (RX8, cX8_sure, 6, (some .int), false)
abbrev mX9_sure : hp_Mi := (RX9, cX9_sure, 4, (some .int), false)
abbrev mX8_common : hp_Mi := (RX8, cX8_common, 7, (some .int), false)
abbrev mX9_common : hp_Mi := (RX9, cX9_common, 5, (some .int), false)
abbrev mX1_pairFrom : hp_Mi := (RX1, cX1_pairFrom, 7, none, false)
abbrev mX1_find : hp_Mi := (RX1, cX1_find, 4, none, false)
abbrev mX1_partnerOf : hp_Mi := (RX1, cX1_partnerOf, 2, (some .int), false)
abbrev mX8_pairs : hp_Mi := (RX8, cX8_pairs, 2, (some .int), false)
abbrev mX9_tryPartners : hp_Mi := (RX9, cX9_tryPartners, 6, none, false)
abbrev mX9_isPut : hp_Mi := (RX9, cX9_isPut, 4, (some .boolean), false)
abbrev mX9_leaves : hp_Mi := (RX9, cX9_leaves, 2, (some .int), false)
abbrev mX9_take : hp_Mi := (RX9, cX9_take, 2, none, false)
abbrev mX9_findSecond : hp_Mi := (RX9, cX9_findSecond, 4, none, false)
abbrev mX9_findPairs : hp_Mi := (RX9, cX9_findPairs, 2, none, false)
abbrev mX9_pairs : hp_Mi := (RX9, cX9_pairs, 2, (some .int), false)
abbrev mX8_refusalOfTwos : hp_Mi := (RX8, cX8_refusalOfTwos, 9, (some .int), false)
abbrev mX3_take : hp_Mi := (RX3, cX3_take, 9, none, false)
abbrev mX3_mayFollow : hp_Mi := (RX3, cX3_mayFollow, 3, (some .boolean), false)
abbrev mX3_howMany : hp_Mi := (RX3, cX3_howMany, 4, (some .int), false)
abbrev mX3_lineUp : hp_Mi := (RX3, cX3_lineUp, 4, (some .boolean), false)
abbrev mX3_placeOfFirst : hp_Mi := (RX3, cX3_placeOfFirst, 2, (some .int), false)
abbrev mX8_orders : hp_Mi := (RX8, cX8_orders, 8, (some .int), false)
abbrev mX9_refusesTwos : hp_Mi := (RX9, cX9_refusesTwos, 4, (some .int), false)
abbrev mX9_ordersOf : hp_Mi := (RX9, cX9_ordersOf, 3, (some .int), false)
abbrev mX9_findRow : hp_Mi := (RX9, cX9_findRow, 8, none, false)
abbrev mX9_areAhead : hp_Mi := (RX9, cX9_areAhead, 4, (some .boolean), false)
abbrev mX9_orders : hp_Mi := (RX9, cX9_orders, 11, (some .int), false)
abbrev mX3_fewestLeftOut : hp_Mi := (RX3, cX3_fewestLeftOut, 7, (some .int), false)
abbrev mX8_drops : hp_Mi := (RX8, cX8_drops, 6, (some .int), false)
abbrev mX9_isOrder : hp_Mi := (RX9, cX9_isOrder, 9, (some .boolean), false)
abbrev mX9_drops : hp_Mi := (RX9, cX9_drops, 10, (some .int), false)
abbrev mX0_note : hp_Mi := (RX0, cX0_note, 5, (some .int), false)
abbrev mX8_reading : hp_Mi := (RX8, cX8_reading, 5, (some .int), false)
abbrev mX9_reading : hp_Mi := (RX9, cX9_reading, 5, (some .int), false)
abbrev mX8_back : hp_Mi := (RX8, cX8_back, 2, (some .int), false)
abbrev mX9_back : hp_Mi := (RX9, cX9_back, 2, (some .int), false)
abbrev mJ6_compare_7cf53 : hp_Mi := (RJ6, cJ6_compare_7cf53, 2, (some .int), false)
abbrev mX0_resultOf : hp_Mi := (RX0, cX0_resultOf, 5, (some .int), false)
abbrev mX0_agrees : hp_Mi := (RX0, cX0_agrees, 3, (some .boolean), false)
abbrev mX8_agreeing : hp_Mi := (RX8, cX8_agreeing, 8, (some .int), false)
abbrev mX8_strengths : hp_Mi := (RX8, cX8_strengths, 2, (some .int), false)
abbrev mX9_areSo : hp_Mi := (RX9, cX9_areSo, 7, (some .boolean), false)
abbrev mX9_strengths : hp_Mi := (RX9, cX9_strengths, 5, (some .int), false)
abbrev mX8_feints : hp_Mi := (RX8, cX8_feints, 2, (some .int), false)
abbrev mX9_feints : hp_Mi := (RX9, cX9_feints, 5, (some .int), false)
abbrev mX8_kinds : hp_Mi := (RX8, cX8_kinds, 2, (some .int), false)
abbrev mX9_kinds : hp_Mi := (RX9, cX9_kinds, 5, (some .int), false)
abbrev mX8_waysToWin : hp_Mi := (RX8, cX8_waysToWin, 6, (some .int), false)
abbrev mX8_odds : hp_Mi := (RX8, cX8_odds, 10, (some .long), false)
abbrev mX9_inLeastTerms : hp_Mi := (RX9, cX9_inLeastTerms, 11, (some .long), false)
abbrev mX9_odds : hp_Mi := (RX9, cX9_odds, 8, (some .long), false)
abbrev mX5_renew : hp_Mi := (RX5, cX5_renew, 3, none, false)
abbrev mX8_sheet : hp_Mi := (RX8, cX8_sheet, 4, (some .int), false)
abbrev mX9_sheet : hp_Mi := (RX9, cX9_sheet, 5, (some .int), false)
abbrev mX8_lose : hp_Mi := (RX8, cX8_lose, 3, (some .int), false)
abbrev mX9_lose : hp_Mi := (RX9, cX9_lose, 3, (some .int), false)
abbrev mX5_write : hp_Mi := (RX5, cX5_write, 3, none, false)
abbrev mX8_put : hp_Mi := (RX8, cX8_put, 5, (some .int), false)
abbrev mX9_put : hp_Mi := (RX9, cX9_put, 4, (some .int), false)
abbrev mX8_cell : hp_Mi := (RX8, cX8_cell, 4, (some .long), false)
abbrev mX9_lost : hp_Mi := (RX9, cX9_lost, 2, (some .long), false)
abbrev mX9_cell : hp_Mi := (RX9, cX9_cell, 4, (some .long), false)
abbrev mX8_copy : hp_Mi := (RX8, cX8_copy, 8, (some .int), false)
abbrev mX9_copy : hp_Mi := (RX9, cX9_copy, 10, (some .int), false)
abbrev mX8_mark : hp_Mi := (RX8, cX8_mark, 2, none, false)
abbrev mX8_tellPlayer : hp_Mi := (RX8, cX8_tellPlayer, 2, (some .int), false)
abbrev mX8_tellLefty : hp_Mi := (RX8, cX8_tellLefty, 2, (some .int), false)
abbrev mX8_tellChampion : hp_Mi := (RX8, cX8_tellChampion, 3, (some .int), false)
abbrev mX8_tell : hp_Mi := (RX8, cX8_tell, 3, (some .int), false)
abbrev mX9_begins : hp_Mi := (RX9, cX9_begins, 2, none, false)
abbrev mX9_tell : hp_Mi := (RX9, cX9_tell, 3, (some .int), false)
abbrev mX8_wave : hp_Mi := (RX8, cX8_wave, 2, (some .int), false)
abbrev mX9_wave : hp_Mi := (RX9, cX9_wave, 2, (some .int), false)
abbrev mX8_as : hp_Mi := (RX8, cX8_as, 3, (some .int), false)
abbrev mX9_as : hp_Mi := (RX9, cX9_as, 3, (some .int), false)
abbrev mX8_trace : hp_Mi := (RX8, cX8_trace, 1, (some .int), false)
abbrev mX9_trace : hp_Mi := (RX9, cX9_trace, 1, (some .int), false)
abbrev mX8_fault : hp_Mi := (RX8, cX8_fault, 1, (some .int), false)
abbrev mX9_fault : hp_Mi := (RX9, cX9_fault, 1, (some .int), false)
abbrev mX8_many : hp_Mi := (RX8, cX8_many, 2, (some .int), false)
abbrev mX9_many : hp_Mi := (RX9, cX9_many, 2, (some .int), false)
abbrev mL_law : hp_Mi := (RL, cL_law, 4, (some .boolean), false)
section HPT
variable {l : Launch} {own : String} {cc : ByteArray} {nL : Nat} {rt : Option FieldType} {ini : Bool} {X : Option (Nat × (Nat → Int32))} {d : Nat} {zr : Bool} {Q : Option Value → hp_H → Prop} {zz : Bool} {k n : Nat} {pc : Nat} {lv : List (Nat × Value)} {st : List Value} {h : hp_H}
theorem fpX7_11 (ho : own = RX7) (hini : ini = true) {i x : Nat} {h' : hp_H} (hdg : decode cc pc = .ok (.putfield 11, 3)) (hx : pq_ h i 6 0 x = some h') (kk : hp_G l (own, cc, nL, rt, ini) X d zr Q zz k n (pc + 3) lv st h') : hp_G l (own, cc, nL, rt, ini) X d zr Q zz k n pc lv (.ref x :: .ref i :: st) h := by
  subst ho
  exact hp_putq (C := RX7) (T := TX7) (N := 2) (ci := 6) tinX7 rfl 0 (by decide) tyX7 tyX7_ok nmX7 wd_132 rfl rfl hini (ty := tyX7 0) (tyX7_ok 0 (by decide)) (fun _ => rfl) (fun _ => rfl) hdg hx kk
theorem fgX7_11 (ho : own = RX7) {i : Nat} {x : Nat} (hdg : decode cc pc = .ok (.getfield 11, 3)) (hx : gq_ h i 6 0 = some x) (kk : hp_G l (own, cc, nL, rt, ini) X d zr Q zz k n (pc + 3) lv (.ref x :: st) h) : hp_G l (own, cc, nL, rt, ini) X d zr Q zz k n pc lv (.ref i :: st) h := by
  subst ho
  exact hp_getq (C := RX7) (T := TX7) (N := 2) (ci := 6) tinX7 rfl 0 (by decide) wd_132 hdg hx kk
theorem nnX7_9 (ho : own = RX7) (hdg : decode cc pc = .ok (.new 9, 3)) (kk : hp_G l (own, cc, nL, rt, ini) X d zr Q true k n (pc + 3) lv (.ref (List.length h) :: st) (h ++ [.inl (2, [.int 0, .int 0, .int 0, .int 0])])) : hp_G l (own, cc, nL, rt, ini) X d zr Q true (k + 1) (n + 4) pc lv st h := by
  subst ho
  exact hp_new (C := RX2) (T := TX2) (N := 4) tinX2 rfl tyX2 tyX2_ok (fs := [.int 0, .int 0, .int 0, .int 0]) (by decide) (fun _ => rfl) (List.forall_mem_cons.mpr ⟨wd_101, (List.forall_mem_cons.mpr ⟨wd_103, (List.forall_mem_cons.mpr ⟨wd_75, (fun _ h => absurd h List.not_mem_nil)⟩)⟩)⟩) hdg kk
theorem fpX0_9 (ho : own = RX0) (hini : ini = true) {i x : Nat} {h' : hp_H} (hdg : decode cc pc = .ok (.putfield 9, 3)) (hx : pq_ h i 0 0 x = some h') (kk : hp_G l (own, cc, nL, rt, ini) X d zr Q zz k n (pc + 3) lv st h') : hp_G l (own, cc, nL, rt, ini) X d zr Q zz k n pc lv (.ref x :: .ref i :: st) h := by
  subst ho
  exact hp_putq (C := RX0) (T := TX0) (N := 5) (ci := 0) tinX0 rfl 0 (by decide) tyX0 tyX0_ok nmX0 wd_156 rfl rfl hini (ty := tyX0 0) (tyX0_ok 0 (by decide)) (fun _ => rfl) (fun _ => rfl) hdg hx kk
theorem fpX0_15 (ho : own = RX0) (hini : ini = true) {i x : Nat} {h' : hp_H} (hdg : decode cc pc = .ok (.putfield 15, 3)) (hx : pq_ h i 0 1 x = some h') (kk : hp_G l (own, cc, nL, rt, ini) X d zr Q zz k n (pc + 3) lv st h') : hp_G l (own, cc, nL, rt, ini) X d zr Q zz k n pc lv (.ref x :: .ref i :: st) h := by
  subst ho
  exact hp_putq (C := RX0) (T := TX0) (N := 5) (ci := 0) tinX0 rfl 1 (by decide) tyX0 tyX0_ok nmX0 wd_157 rfl rfl hini (ty := tyX0 1) (tyX0_ok 1 (by decide)) (fun _ => rfl) (fun _ => rfl) hdg hx kk
theorem fpX0_18 (ho : own = RX0) (hini : ini = true) {i x : Nat} {h' : hp_H} (hdg : decode cc pc = .ok (.putfield 18, 3)) (hx : pq_ h i 0 2 x = some h') (kk : hp_G l (own, cc, nL, rt, ini) X d zr Q zz k n (pc + 3) lv st h') : hp_G l (own, cc, nL, rt, ini) X d zr Q zz k n pc lv (.ref x :: .ref i :: st) h := by
  subst ho
  exact hp_putq (C := RX0) (T := TX0) (N := 5) (ci := 0) tinX0 rfl 2 (by decide) tyX0 tyX0_ok nmX0 wd_158 rfl rfl hini (ty := tyX0 2) (tyX0_ok 2 (by decide)) (fun _ => rfl) (fun _ => rfl) hdg hx kk
theorem fpX0_21 (ho : own = RX0) (hini : ini = true) {i x : Nat} {h' : hp_H} (hdg : decode cc pc = .ok (.putfield 21, 3)) (hx : pq_ h i 0 3 x = some h') (kk : hp_G l (own, cc, nL, rt, ini) X d zr Q zz k n (pc + 3) lv st h') : hp_G l (own, cc, nL, rt, ini) X d zr Q zz k n pc lv (.ref x :: .ref i :: st) h := by
  subst ho
  exact hp_putq (C := RX0) (T := TX0) (N := 5) (ci := 0) tinX0 rfl 3 (by decide) tyX0 tyX0_ok nmX0 wd_159 rfl rfl hini (ty := tyX0 3) (tyX0_ok 3 (by decide)) (fun _ => rfl) (fun _ => rfl) hdg hx kk
theorem nnX4_9 (ho : own = RX4) (hdg : decode cc pc = .ok (.new 9, 3)) (kk : hp_G l (own, cc, nL, rt, ini) X d zr Q true k n (pc + 3) lv (.ref (List.length h) :: st) (h ++ [.inl (6, [.null, .int 0])])) : hp_G l (own, cc, nL, rt, ini) X d zr Q true (k + 1) (n + 2) pc lv st h := by
  subst ho
  exact hp_new (C := RX7) (T := TX7) (N := 2) tinX7 rfl tyX7 tyX7_ok (fs := [.null, .int 0]) (by decide) (fun _ => rfl) (List.forall_mem_cons.mpr ⟨wd_180, (List.forall_mem_cons.mpr ⟨wd_96, (List.forall_mem_cons.mpr ⟨wd_74, (fun _ h => absurd h List.not_mem_nil)⟩)⟩)⟩) hdg kk
theorem fpX4_12 (ho : own = RX4) (hini : ini = true) {i x : Nat} {h' : hp_H} (hdg : decode cc pc = .ok (.putfield 12, 3)) (hx : pq_ h i 4 0 x = some h') (kk : hp_G l (own, cc, nL, rt, ini) X d zr Q zz k n (pc + 3) lv st h') : hp_G l (own, cc, nL, rt, ini) X d zr Q zz k n pc lv (.ref x :: .ref i :: st) h := by
  subst ho
  exact hp_putq (C := RX4) (T := TX4) (N := 5) (ci := 4) tinX4 rfl 0 (by decide) tyX4 tyX4_ok nmX4 wd_182 rfl rfl hini (ty := tyX4 0) (tyX4_ok 0 (by decide)) (fun _ => rfl) (fun _ => rfl) hdg hx kk
theorem fpX4_18 (ho : own = RX4) (hini : ini = true) {i x : Nat} {h' : hp_H} (hdg : decode cc pc = .ok (.putfield 18, 3)) (hx : pq_ h i 4 1 x = some h') (kk : hp_G l (own, cc, nL, rt, ini) X d zr Q zz k n (pc + 3) lv st h') : hp_G l (own, cc, nL, rt, ini) X d zr Q zz k n pc lv (.ref x :: .ref i :: st) h := by
  subst ho
  exact hp_putq (C := RX4) (T := TX4) (N := 5) (ci := 4) tinX4 rfl 1 (by decide) tyX4 tyX4_ok nmX4 wd_183 rfl rfl hini (ty := tyX4 1) (tyX4_ok 1 (by decide)) (fun _ => rfl) (fun _ => rfl) hdg hx kk
theorem fpX1_9 (ho : own = RX1) (hini : ini = true) {i x : Nat} {h' : hp_H} (hdg : decode cc pc = .ok (.putfield 9, 3)) (hx : pq_ h i 1 0 x = some h') (kk : hp_G l (own, cc, nL, rt, ini) X d zr Q zz k n (pc + 3) lv st h') : hp_G l (own, cc, nL, rt, ini) X d zr Q zz k n pc lv (.ref x :: .ref i :: st) h := by
  subst ho
  exact hp_putq (C := RX1) (T := TX1) (N := 3) (ci := 1) tinX1 rfl 0 (by decide) tyX1 tyX1_ok nmX1 wd_204 rfl rfl hini (ty := tyX1 0) (tyX1_ok 0 (by decide)) (fun _ => rfl) (fun _ => rfl) hdg hx kk
theorem fpX1_15 (ho : own = RX1) (hini : ini = true) {i x : Nat} {h' : hp_H} (hdg : decode cc pc = .ok (.putfield 15, 3)) (hx : pq_ h i 1 1 x = some h') (kk : hp_G l (own, cc, nL, rt, ini) X d zr Q zz k n (pc + 3) lv st h') : hp_G l (own, cc, nL, rt, ini) X d zr Q zz k n pc lv (.ref x :: .ref i :: st) h := by
  subst ho
  exact hp_putq (C := RX1) (T := TX1) (N := 3) (ci := 1) tinX1 rfl 1 (by decide) tyX1 tyX1_ok nmX1 wd_205 rfl rfl hini (ty := tyX1 1) (tyX1_ok 1 (by decide)) (fun _ => rfl) (fun _ => rfl) hdg hx kk
theorem fpX3_9 (ho : own = RX3) (hini : ini = true) {i x : Nat} {h' : hp_H} (hdg : decode cc pc = .ok (.putfield 9, 3)) (hx : pq_ h i 3 0 x = some h') (kk : hp_G l (own, cc, nL, rt, ini) X d zr Q zz k n (pc + 3) lv st h') : hp_G l (own, cc, nL, rt, ini) X d zr Q zz k n pc lv (.ref x :: .ref i :: st) h := by
  subst ho
  exact hp_putq (C := RX3) (T := TX3) (N := 4) (ci := 3) tinX3 rfl 0 (by decide) tyX3 tyX3_ok nmX3 wd_221 rfl rfl hini (ty := tyX3 0) (tyX3_ok 0 (by decide)) (fun _ => rfl) (fun _ => rfl) hdg hx kk
theorem fpX3_15 (ho : own = RX3) (hini : ini = true) {i x : Nat} {h' : hp_H} (hdg : decode cc pc = .ok (.putfield 15, 3)) (hx : pq_ h i 3 1 x = some h') (kk : hp_G l (own, cc, nL, rt, ini) X d zr Q zz k n (pc + 3) lv st h') : hp_G l (own, cc, nL, rt, ini) X d zr Q zz k n pc lv (.ref x :: .ref i :: st) h := by
  subst ho
  exact hp_putq (C := RX3) (T := TX3) (N := 4) (ci := 3) tinX3 rfl 1 (by decide) tyX3 tyX3_ok nmX3 wd_222 rfl rfl hini (ty := tyX3 1) (tyX3_ok 1 (by decide)) (fun _ => rfl) (fun _ => rfl) hdg hx kk
theorem fpX3_18 (ho : own = RX3) (hini : ini = true) {i x : Nat} {h' : hp_H} (hdg : decode cc pc = .ok (.putfield 18, 3)) (hx : pq_ h i 3 2 x = some h') (kk : hp_G l (own, cc, nL, rt, ini) X d zr Q zz k n (pc + 3) lv st h') : hp_G l (own, cc, nL, rt, ini) X d zr Q zz k n pc lv (.ref x :: .ref i :: st) h := by
  subst ho
  exact hp_putq (C := RX3) (T := TX3) (N := 4) (ci := 3) tinX3 rfl 2 (by decide) tyX3 tyX3_ok nmX3 wd_223 rfl rfl hini (ty := tyX3 2) (tyX3_ok 2 (by decide)) (fun _ => rfl) (fun _ => rfl) hdg hx kk
theorem fpX5_9 (ho : own = RX5) (hini : ini = true) {i x : Nat} {h' : hp_H} (hdg : decode cc pc = .ok (.putfield 9, 3)) (hx : pq_ h i 5 0 x = some h') (kk : hp_G l (own, cc, nL, rt, ini) X d zr Q zz k n (pc + 3) lv st h') : hp_G l (own, cc, nL, rt, ini) X d zr Q zz k n pc lv (.ref x :: .ref i :: st) h := by
  subst ho
  exact hp_putq (C := RX5) (T := TX5) (N := 4) (ci := 5) tinX5 rfl 0 (by decide) tyX5 tyX5_ok nmX5 wd_239 rfl rfl hini (ty := tyX5 0) (tyX5_ok 0 (by decide)) (fun _ => rfl) (fun _ => rfl) hdg hx kk
theorem nnX8_9 (ho : own = RX8) (hdg : decode cc pc = .ok (.new 9, 3)) (kk : hp_G l (own, cc, nL, rt, ini) X d zr Q true k n (pc + 3) lv (.ref (List.length h) :: st) (h ++ [.inl (6, [.null, .int 0])])) : hp_G l (own, cc, nL, rt, ini) X d zr Q true (k + 1) (n + 2) pc lv st h := by
  subst ho
  exact hp_new (C := RX7) (T := TX7) (N := 2) tinX7 rfl tyX7 tyX7_ok (fs := [.null, .int 0]) (by decide) (fun _ => rfl) (List.forall_mem_cons.mpr ⟨wd_95, (List.forall_mem_cons.mpr ⟨wd_96, (List.forall_mem_cons.mpr ⟨wd_74, (fun _ h => absurd h List.not_mem_nil)⟩)⟩)⟩) hdg kk
theorem fpX8_12 (ho : own = RX8) (hini : ini = true) {i x : Nat} {h' : hp_H} (hdg : decode cc pc = .ok (.putfield 12, 3)) (hx : pq_ h i 7 0 x = some h') (kk : hp_G l (own, cc, nL, rt, ini) X d zr Q zz k n (pc + 3) lv st h') : hp_G l (own, cc, nL, rt, ini) X d zr Q zz k n pc lv (.ref x :: .ref i :: st) h := by
  subst ho
  exact hp_putq (C := RX8) (T := TX8) (N := 9) (ci := 7) tinX8 rfl 0 (by decide) tyX8 tyX8_ok nmX8 wd_255 rfl rfl hini (ty := tyX8 0) (tyX8_ok 0 (by decide)) (fun _ => rfl) (fun _ => rfl) hdg hx kk
theorem fpX8_20 (ho : own = RX8) (hini : ini = true) {i x : Nat} {h' : hp_H} (hdg : decode cc pc = .ok (.putfield 20, 3)) (hx : pq_ h i 7 1 x = some h') (kk : hp_G l (own, cc, nL, rt, ini) X d zr Q zz k n (pc + 3) lv st h') : hp_G l (own, cc, nL, rt, ini) X d zr Q zz k n pc lv (.ref x :: .ref i :: st) h := by
  subst ho
  exact hp_putq (C := RX8) (T := TX8) (N := 9) (ci := 7) tinX8 rfl 1 (by decide) tyX8 tyX8_ok nmX8 wd_256 rfl rfl hini (ty := tyX8 1) (tyX8_ok 1 (by decide)) (fun _ => rfl) (fun _ => rfl) hdg hx kk
theorem nnX8_24 (ho : own = RX8) (hdg : decode cc pc = .ok (.new 24, 3)) (kk : hp_G l (own, cc, nL, rt, ini) X d zr Q true k n (pc + 3) lv (.ref (List.length h) :: st) (h ++ [.inl (0, [.null, .null, .null, .null, .int 0])])) : hp_G l (own, cc, nL, rt, ini) X d zr Q true (k + 1) (n + 5) pc lv st h := by
  subst ho
  exact hp_new (C := RX0) (T := TX0) (N := 5) tinX0 rfl tyX0 tyX0_ok (fs := [.null, .null, .null, .null, .int 0]) (by decide) (fun _ => rfl) (List.forall_mem_cons.mpr ⟨wd_150, (List.forall_mem_cons.mpr ⟨wd_151, (List.forall_mem_cons.mpr ⟨wd_76, (fun _ h => absurd h List.not_mem_nil)⟩)⟩)⟩) hdg kk
theorem fpX8_27 (ho : own = RX8) (hini : ini = true) {i x : Nat} {h' : hp_H} (hdg : decode cc pc = .ok (.putfield 27, 3)) (hx : pq_ h i 7 2 x = some h') (kk : hp_G l (own, cc, nL, rt, ini) X d zr Q zz k n (pc + 3) lv st h') : hp_G l (own, cc, nL, rt, ini) X d zr Q zz k n pc lv (.ref x :: .ref i :: st) h := by
  subst ho
  exact hp_putq (C := RX8) (T := TX8) (N := 9) (ci := 7) tinX8 rfl 2 (by decide) tyX8 tyX8_ok nmX8 wd_257 rfl rfl hini (ty := tyX8 2) (tyX8_ok 2 (by decide)) (fun _ => rfl) (fun _ => rfl) hdg hx kk
theorem nnX8_31 (ho : own = RX8) (hdg : decode cc pc = .ok (.new 31, 3)) (kk : hp_G l (own, cc, nL, rt, ini) X d zr Q true k n (pc + 3) lv (.ref (List.length h) :: st) (h ++ [.inl (4, [.null, .null, .int 0, .int 0, .int 0])])) : hp_G l (own, cc, nL, rt, ini) X d zr Q true (k + 1) (n + 5) pc lv st h := by
  subst ho
  exact hp_new (C := RX4) (T := TX4) (N := 5) tinX4 rfl tyX4 tyX4_ok (fs := [.null, .null, .int 0, .int 0, .int 0]) (by decide) (fun _ => rfl) (List.forall_mem_cons.mpr ⟨wd_174, (List.forall_mem_cons.mpr ⟨wd_175, (List.forall_mem_cons.mpr ⟨wd_77, (fun _ h => absurd h List.not_mem_nil)⟩)⟩)⟩) hdg kk
theorem fpX8_34 (ho : own = RX8) (hini : ini = true) {i x : Nat} {h' : hp_H} (hdg : decode cc pc = .ok (.putfield 34, 3)) (hx : pq_ h i 7 3 x = some h') (kk : hp_G l (own, cc, nL, rt, ini) X d zr Q zz k n (pc + 3) lv st h') : hp_G l (own, cc, nL, rt, ini) X d zr Q zz k n pc lv (.ref x :: .ref i :: st) h := by
  subst ho
  exact hp_putq (C := RX8) (T := TX8) (N := 9) (ci := 7) tinX8 rfl 3 (by decide) tyX8 tyX8_ok nmX8 wd_258 rfl rfl hini (ty := tyX8 3) (tyX8_ok 3 (by decide)) (fun _ => rfl) (fun _ => rfl) hdg hx kk
theorem nnX8_38 (ho : own = RX8) (hdg : decode cc pc = .ok (.new 38, 3)) (kk : hp_G l (own, cc, nL, rt, ini) X d zr Q true k n (pc + 3) lv (.ref (List.length h) :: st) (h ++ [.inl (1, [.null, .null, .int 0])])) : hp_G l (own, cc, nL, rt, ini) X d zr Q true (k + 1) (n + 3) pc lv st h := by
  subst ho
  exact hp_new (C := RX1) (T := TX1) (N := 3) tinX1 rfl tyX1 tyX1_ok (fs := [.null, .null, .int 0]) (by decide) (fun _ => rfl) (List.forall_mem_cons.mpr ⟨wd_198, (List.forall_mem_cons.mpr ⟨wd_199, (List.forall_mem_cons.mpr ⟨wd_78, (fun _ h => absurd h List.not_mem_nil)⟩)⟩)⟩) hdg kk
theorem fpX8_41 (ho : own = RX8) (hini : ini = true) {i x : Nat} {h' : hp_H} (hdg : decode cc pc = .ok (.putfield 41, 3)) (hx : pq_ h i 7 4 x = some h') (kk : hp_G l (own, cc, nL, rt, ini) X d zr Q zz k n (pc + 3) lv st h') : hp_G l (own, cc, nL, rt, ini) X d zr Q zz k n pc lv (.ref x :: .ref i :: st) h := by
  subst ho
  exact hp_putq (C := RX8) (T := TX8) (N := 9) (ci := 7) tinX8 rfl 4 (by decide) tyX8 tyX8_ok nmX8 wd_259 rfl rfl hini (ty := tyX8 4) (tyX8_ok 4 (by decide)) (fun _ => rfl) (fun _ => rfl) hdg hx kk
theorem nnX8_45 (ho : own = RX8) (hdg : decode cc pc = .ok (.new 45, 3)) (kk : hp_G l (own, cc, nL, rt, ini) X d zr Q true k n (pc + 3) lv (.ref (List.length h) :: st) (h ++ [.inl (3, [.null, .null, .null, .int 0])])) : hp_G l (own, cc, nL, rt, ini) X d zr Q true (k + 1) (n + 4) pc lv st h := by
  subst ho
  exact hp_new (C := RX3) (T := TX3) (N := 4) tinX3 rfl tyX3 tyX3_ok (fs := [.null, .null, .null, .int 0]) (by decide) (fun _ => rfl) (List.forall_mem_cons.mpr ⟨wd_215, (List.forall_mem_cons.mpr ⟨wd_216, (List.forall_mem_cons.mpr ⟨wd_79, (fun _ h => absurd h List.not_mem_nil)⟩)⟩)⟩) hdg kk
theorem fpX8_48 (ho : own = RX8) (hini : ini = true) {i x : Nat} {h' : hp_H} (hdg : decode cc pc = .ok (.putfield 48, 3)) (hx : pq_ h i 7 5 x = some h') (kk : hp_G l (own, cc, nL, rt, ini) X d zr Q zz k n (pc + 3) lv st h') : hp_G l (own, cc, nL, rt, ini) X d zr Q zz k n pc lv (.ref x :: .ref i :: st) h := by
  subst ho
  exact hp_putq (C := RX8) (T := TX8) (N := 9) (ci := 7) tinX8 rfl 5 (by decide) tyX8 tyX8_ok nmX8 wd_260 rfl rfl hini (ty := tyX8 5) (tyX8_ok 5 (by decide)) (fun _ => rfl) (fun _ => rfl) hdg hx kk
theorem fgX8_20 (ho : own = RX8) {i : Nat} {x : Nat} (hdg : decode cc pc = .ok (.getfield 20, 3)) (hx : gq_ h i 7 1 = some x) (kk : hp_G l (own, cc, nL, rt, ini) X d zr Q zz k n (pc + 3) lv (.ref x :: st) h) : hp_G l (own, cc, nL, rt, ini) X d zr Q zz k n pc lv (.ref i :: st) h := by
  subst ho
  exact hp_getq (C := RX8) (T := TX8) (N := 9) (ci := 7) tinX8 rfl 1 (by decide) wd_256 hdg hx kk
theorem nnX8_18 (ho : own = RX8) (hdg : decode cc pc = .ok (.new 18, 3)) (kk : hp_G l (own, cc, nL, rt, ini) X d zr Q true k n (pc + 3) lv (.ref (List.length h) :: st) (h ++ [.inl (5, [.null, .int 0, .int 0, .int 0])])) : hp_G l (own, cc, nL, rt, ini) X d zr Q true (k + 1) (n + 4) pc lv st h := by
  subst ho
  exact hp_new (C := RX5) (T := TX5) (N := 4) tinX5 rfl tyX5 tyX5_ok (fs := [.null, .int 0, .int 0, .int 0]) (by decide) (fun _ => rfl) (List.forall_mem_cons.mpr ⟨wd_148, (List.forall_mem_cons.mpr ⟨wd_234, (List.forall_mem_cons.mpr ⟨wd_80, (fun _ h => absurd h List.not_mem_nil)⟩)⟩)⟩) hdg kk
theorem fpX9_9 (ho : own = RX9) (hini : ini = true) {i x : Nat} {h' : hp_H} (hdg : decode cc pc = .ok (.putfield 9, 3)) (hx : pq_ h i 8 2 x = some h') (kk : hp_G l (own, cc, nL, rt, ini) X d zr Q zz k n (pc + 3) lv st h') : hp_G l (own, cc, nL, rt, ini) X d zr Q zz k n pc lv (.ref x :: .ref i :: st) h := by
  subst ho
  exact hp_putq (C := RX9) (T := TX9) (N := 29) (ci := 8) tinX9 rfl 2 (by decide) tyX9 tyX9_ok nmX9 wd_673 rfl rfl hini (ty := tyX9 2) (tyX9_ok 2 (by decide)) (fun _ => rfl) (fun _ => rfl) hdg hx kk
theorem fpX9_13 (ho : own = RX9) (hini : ini = true) {i x : Nat} {h' : hp_H} (hdg : decode cc pc = .ok (.putfield 13, 3)) (hx : pq_ h i 8 3 x = some h') (kk : hp_G l (own, cc, nL, rt, ini) X d zr Q zz k n (pc + 3) lv st h') : hp_G l (own, cc, nL, rt, ini) X d zr Q zz k n pc lv (.ref x :: .ref i :: st) h := by
  subst ho
  exact hp_putq (C := RX9) (T := TX9) (N := 29) (ci := 8) tinX9 rfl 3 (by decide) tyX9 tyX9_ok nmX9 wd_674 rfl rfl hini (ty := tyX9 3) (tyX9_ok 3 (by decide)) (fun _ => rfl) (fun _ => rfl) hdg hx kk
theorem fpX9_16 (ho : own = RX9) (hini : ini = true) {i x : Nat} {h' : hp_H} (hdg : decode cc pc = .ok (.putfield 16, 3)) (hx : pq_ h i 8 4 x = some h') (kk : hp_G l (own, cc, nL, rt, ini) X d zr Q zz k n (pc + 3) lv st h') : hp_G l (own, cc, nL, rt, ini) X d zr Q zz k n pc lv (.ref x :: .ref i :: st) h := by
  subst ho
  exact hp_putq (C := RX9) (T := TX9) (N := 29) (ci := 8) tinX9 rfl 4 (by decide) tyX9 tyX9_ok nmX9 wd_675 rfl rfl hini (ty := tyX9 4) (tyX9_ok 4 (by decide)) (fun _ => rfl) (fun _ => rfl) hdg hx kk
theorem fpX9_19 (ho : own = RX9) (hini : ini = true) {i x : Nat} {h' : hp_H} (hdg : decode cc pc = .ok (.putfield 19, 3)) (hx : pq_ h i 8 8 x = some h') (kk : hp_G l (own, cc, nL, rt, ini) X d zr Q zz k n (pc + 3) lv st h') : hp_G l (own, cc, nL, rt, ini) X d zr Q zz k n pc lv (.ref x :: .ref i :: st) h := by
  subst ho
  exact hp_putq (C := RX9) (T := TX9) (N := 29) (ci := 8) tinX9 rfl 8 (by decide) tyX9 tyX9_ok nmX9 wd_679 rfl rfl hini (ty := tyX9 8) (tyX9_ok 8 (by decide)) (fun _ => rfl) (fun _ => rfl) hdg hx kk
theorem fpX9_22 (ho : own = RX9) (hini : ini = true) {i x : Nat} {h' : hp_H} (hdg : decode cc pc = .ok (.putfield 22, 3)) (hx : pq_ h i 8 9 x = some h') (kk : hp_G l (own, cc, nL, rt, ini) X d zr Q zz k n (pc + 3) lv st h') : hp_G l (own, cc, nL, rt, ini) X d zr Q zz k n pc lv (.ref x :: .ref i :: st) h := by
  subst ho
  exact hp_putq (C := RX9) (T := TX9) (N := 29) (ci := 8) tinX9 rfl 9 (by decide) tyX9 tyX9_ok nmX9 wd_680 rfl rfl hini (ty := tyX9 9) (tyX9_ok 9 (by decide)) (fun _ => rfl) (fun _ => rfl) hdg hx kk
theorem fpX9_25 (ho : own = RX9) (hini : ini = true) {i x : Nat} {h' : hp_H} (hdg : decode cc pc = .ok (.putfield 25, 3)) (hx : pq_ h i 8 10 x = some h') (kk : hp_G l (own, cc, nL, rt, ini) X d zr Q zz k n (pc + 3) lv st h') : hp_G l (own, cc, nL, rt, ini) X d zr Q zz k n pc lv (.ref x :: .ref i :: st) h := by
  subst ho
  exact hp_putq (C := RX9) (T := TX9) (N := 29) (ci := 8) tinX9 rfl 10 (by decide) tyX9 tyX9_ok nmX9 wd_681 rfl rfl hini (ty := tyX9 10) (tyX9_ok 10 (by decide)) (fun _ => rfl) (fun _ => rfl) hdg hx kk
theorem fpX9_28 (ho : own = RX9) (hini : ini = true) {i x : Nat} {h' : hp_H} (hdg : decode cc pc = .ok (.putfield 28, 3)) (hx : pq_ h i 8 13 x = some h') (kk : hp_G l (own, cc, nL, rt, ini) X d zr Q zz k n (pc + 3) lv st h') : hp_G l (own, cc, nL, rt, ini) X d zr Q zz k n pc lv (.ref x :: .ref i :: st) h := by
  subst ho
  exact hp_putq (C := RX9) (T := TX9) (N := 29) (ci := 8) tinX9 rfl 13 (by decide) tyX9 tyX9_ok nmX9 wd_684 rfl rfl hini (ty := tyX9 13) (tyX9_ok 13 (by decide)) (fun _ => rfl) (fun _ => rfl) hdg hx kk
theorem fpX9_31 (ho : own = RX9) (hini : ini = true) {i x : Nat} {h' : hp_H} (hdg : decode cc pc = .ok (.putfield 31, 3)) (hx : pq_ h i 8 14 x = some h') (kk : hp_G l (own, cc, nL, rt, ini) X d zr Q zz k n (pc + 3) lv st h') : hp_G l (own, cc, nL, rt, ini) X d zr Q zz k n pc lv (.ref x :: .ref i :: st) h := by
  subst ho
  exact hp_putq (C := RX9) (T := TX9) (N := 29) (ci := 8) tinX9 rfl 14 (by decide) tyX9 tyX9_ok nmX9 wd_685 rfl rfl hini (ty := tyX9 14) (tyX9_ok 14 (by decide)) (fun _ => rfl) (fun _ => rfl) hdg hx kk
theorem fpX9_34 (ho : own = RX9) (hini : ini = true) {i x : Nat} {h' : hp_H} (hdg : decode cc pc = .ok (.putfield 34, 3)) (hx : pq_ h i 8 15 x = some h') (kk : hp_G l (own, cc, nL, rt, ini) X d zr Q zz k n (pc + 3) lv st h') : hp_G l (own, cc, nL, rt, ini) X d zr Q zz k n pc lv (.ref x :: .ref i :: st) h := by
  subst ho
  exact hp_putq (C := RX9) (T := TX9) (N := 29) (ci := 8) tinX9 rfl 15 (by decide) tyX9 tyX9_ok nmX9 wd_686 rfl rfl hini (ty := tyX9 15) (tyX9_ok 15 (by decide)) (fun _ => rfl) (fun _ => rfl) hdg hx kk
theorem fpX9_37 (ho : own = RX9) (hini : ini = true) {i x : Nat} {h' : hp_H} (hdg : decode cc pc = .ok (.putfield 37, 3)) (hx : pq_ h i 8 18 x = some h') (kk : hp_G l (own, cc, nL, rt, ini) X d zr Q zz k n (pc + 3) lv st h') : hp_G l (own, cc, nL, rt, ini) X d zr Q zz k n pc lv (.ref x :: .ref i :: st) h := by
  subst ho
  exact hp_putq (C := RX9) (T := TX9) (N := 29) (ci := 8) tinX9 rfl 18 (by decide) tyX9 tyX9_ok nmX9 wd_689 rfl rfl hini (ty := tyX9 18) (tyX9_ok 18 (by decide)) (fun _ => rfl) (fun _ => rfl) hdg hx kk
theorem fpX9_40 (ho : own = RX9) (hini : ini = true) {i x : Nat} {h' : hp_H} (hdg : decode cc pc = .ok (.putfield 40, 3)) (hx : pq_ h i 8 19 x = some h') (kk : hp_G l (own, cc, nL, rt, ini) X d zr Q zz k n (pc + 3) lv st h') : hp_G l (own, cc, nL, rt, ini) X d zr Q zz k n pc lv (.ref x :: .ref i :: st) h := by
  subst ho
  exact hp_putq (C := RX9) (T := TX9) (N := 29) (ci := 8) tinX9 rfl 19 (by decide) tyX9 tyX9_ok nmX9 wd_690 rfl rfl hini (ty := tyX9 19) (tyX9_ok 19 (by decide)) (fun _ => rfl) (fun _ => rfl) hdg hx kk
theorem fpX9_43 (ho : own = RX9) (hini : ini = true) {i x : Nat} {h' : hp_H} (hdg : decode cc pc = .ok (.putfield 43, 3)) (hx : pq_ h i 8 22 x = some h') (kk : hp_G l (own, cc, nL, rt, ini) X d zr Q zz k n (pc + 3) lv st h') : hp_G l (own, cc, nL, rt, ini) X d zr Q zz k n pc lv (.ref x :: .ref i :: st) h := by
  subst ho
  exact hp_putq (C := RX9) (T := TX9) (N := 29) (ci := 8) tinX9 rfl 22 (by decide) tyX9 tyX9_ok nmX9 wd_693 rfl rfl hini (ty := tyX9 22) (tyX9_ok 22 (by decide)) (fun _ => rfl) (fun _ => rfl) hdg hx kk
theorem fpX9_46 (ho : own = RX9) (hini : ini = true) {i x : Nat} {h' : hp_H} (hdg : decode cc pc = .ok (.putfield 46, 3)) (hx : pq_ h i 8 23 x = some h') (kk : hp_G l (own, cc, nL, rt, ini) X d zr Q zz k n (pc + 3) lv st h') : hp_G l (own, cc, nL, rt, ini) X d zr Q zz k n pc lv (.ref x :: .ref i :: st) h := by
  subst ho
  exact hp_putq (C := RX9) (T := TX9) (N := 29) (ci := 8) tinX9 rfl 23 (by decide) tyX9 tyX9_ok nmX9 wd_694 rfl rfl hini (ty := tyX9 23) (tyX9_ok 23 (by decide)) (fun _ => rfl) (fun _ => rfl) hdg hx kk
theorem fpX9_49 (ho : own = RX9) (hini : ini = true) {i x : Nat} {h' : hp_H} (hdg : decode cc pc = .ok (.putfield 49, 3)) (hx : pq_ h i 8 25 x = some h') (kk : hp_G l (own, cc, nL, rt, ini) X d zr Q zz k n (pc + 3) lv st h') : hp_G l (own, cc, nL, rt, ini) X d zr Q zz k n pc lv (.ref x :: .ref i :: st) h := by
  subst ho
  exact hp_putq (C := RX9) (T := TX9) (N := 29) (ci := 8) tinX9 rfl 25 (by decide) tyX9 tyX9_ok nmX9 wd_696 rfl rfl hini (ty := tyX9 25) (tyX9_ok 25 (by decide)) (fun _ => rfl) (fun _ => rfl) hdg hx kk
theorem fpX9_52 (ho : own = RX9) (hini : ini = true) {i x : Nat} {h' : hp_H} (hdg : decode cc pc = .ok (.putfield 52, 3)) (hx : pq_ h i 8 26 x = some h') (kk : hp_G l (own, cc, nL, rt, ini) X d zr Q zz k n (pc + 3) lv st h') : hp_G l (own, cc, nL, rt, ini) X d zr Q zz k n pc lv (.ref x :: .ref i :: st) h := by
  subst ho
  exact hp_putq (C := RX9) (T := TX9) (N := 29) (ci := 8) tinX9 rfl 26 (by decide) tyX9 tyX9_ok nmX9 wd_697 rfl rfl hini (ty := tyX9 26) (tyX9_ok 26 (by decide)) (fun _ => rfl) (fun _ => rfl) hdg hx kk
theorem fpX9_55 (ho : own = RX9) (hini : ini = true) {i x : Nat} {h' : hp_H} (hdg : decode cc pc = .ok (.putfield 55, 3)) (hx : pq_ h i 8 27 x = some h') (kk : hp_G l (own, cc, nL, rt, ini) X d zr Q zz k n (pc + 3) lv st h') : hp_G l (own, cc, nL, rt, ini) X d zr Q zz k n pc lv (.ref x :: .ref i :: st) h := by
  subst ho
  exact hp_putq (C := RX9) (T := TX9) (N := 29) (ci := 8) tinX9 rfl 27 (by decide) tyX9 tyX9_ok nmX9 wd_698 rfl rfl hini (ty := tyX9 27) (tyX9_ok 27 (by decide)) (fun _ => rfl) (fun _ => rfl) hdg hx kk
theorem fpX9_58 (ho : own = RX9) (hini : ini = true) {i x : Nat} {h' : hp_H} (hdg : decode cc pc = .ok (.putfield 58, 3)) (hx : pq_ h i 8 28 x = some h') (kk : hp_G l (own, cc, nL, rt, ini) X d zr Q zz k n (pc + 3) lv st h') : hp_G l (own, cc, nL, rt, ini) X d zr Q zz k n pc lv (.ref x :: .ref i :: st) h := by
  subst ho
  exact hp_putq (C := RX9) (T := TX9) (N := 29) (ci := 8) tinX9 rfl 28 (by decide) tyX9 tyX9_ok nmX9 wd_699 rfl rfl hini (ty := tyX9 28) (tyX9_ok 28 (by decide)) (fun _ => rfl) (fun _ => rfl) hdg hx kk
theorem fgX5_29 (ho : own = RX5) {i : Nat} {x : Int32} (hdg : decode cc pc = .ok (.getfield 29, 3)) (hx : gi_ h i 5 3 = some x) (kk : hp_G l (own, cc, nL, rt, ini) X d zr Q zz k n (pc + 3) lv (.int x :: st) h) : hp_G l (own, cc, nL, rt, ini) X d zr Q zz k n pc lv (.ref i :: st) h := by
  subst ho
  exact hp_geti (C := RX5) (T := TX5) (N := 4) (ci := 5) tinX5 rfl 3 (by decide) wd_245 hdg hx kk
theorem fgX5_21 (ho : own = RX5) {i : Nat} {x : Int32} (hdg : decode cc pc = .ok (.getfield 21, 3)) (hx : gi_ h i 5 1 = some x) (kk : hp_G l (own, cc, nL, rt, ini) X d zr Q zz k n (pc + 3) lv (.int x :: st) h) : hp_G l (own, cc, nL, rt, ini) X d zr Q zz k n pc lv (.ref i :: st) h := by
  subst ho
  exact hp_geti (C := RX5) (T := TX5) (N := 4) (ci := 5) tinX5 rfl 1 (by decide) wd_241 hdg hx kk
theorem fgX5_25 (ho : own = RX5) {i : Nat} {x : Int32} (hdg : decode cc pc = .ok (.getfield 25, 3)) (hx : gi_ h i 5 2 = some x) (kk : hp_G l (own, cc, nL, rt, ini) X d zr Q zz k n (pc + 3) lv (.int x :: st) h) : hp_G l (own, cc, nL, rt, ini) X d zr Q zz k n pc lv (.ref i :: st) h := by
  subst ho
  exact hp_geti (C := RX5) (T := TX5) (N := 4) (ci := 5) tinX5 rfl 2 (by decide) wd_243 hdg hx kk
theorem fpX8_53 (ho : own = RX8) {i : Nat} {x : Int32} {h' : hp_H} (hdg : decode cc pc = .ok (.putfield 53, 3)) (hx : pi_ h i 7 8 x = some h') (kk : hp_G l (own, cc, nL, rt, ini) X d zr Q false k n (pc + 3) lv st h') : hp_G l (own, cc, nL, rt, ini) X d zr Q false k n pc lv (.int x :: .ref i :: st) h := by
  subst ho
  exact hp_puti (C := RX8) (T := TX8) (N := 9) (ci := 7) tinX8 rfl 8 (by decide) tyX8 tyX8_ok nmX8 wd_263 rfl (tyX8_ok 8 (by decide)) hdg hx kk
theorem fgX5_9 (ho : own = RX5) {i : Nat} {x : Nat} (hdg : decode cc pc = .ok (.getfield 9, 3)) (hx : gq_ h i 5 0 = some x) (kk : hp_G l (own, cc, nL, rt, ini) X d zr Q zz k n (pc + 3) lv (.ref x :: st) h) : hp_G l (own, cc, nL, rt, ini) X d zr Q zz k n pc lv (.ref i :: st) h := by
  subst ho
  exact hp_getq (C := RX5) (T := TX5) (N := 4) (ci := 5) tinX5 rfl 0 (by decide) wd_239 hdg hx kk
theorem fpX2_9 (ho : own = RX2) {i : Nat} {x : Int32} {h' : hp_H} (hdg : decode cc pc = .ok (.putfield 9, 3)) (hx : pi_ h i 2 0 x = some h') (kk : hp_G l (own, cc, nL, rt, ini) X d zr Q false k n (pc + 3) lv st h') : hp_G l (own, cc, nL, rt, ini) X d zr Q false k n pc lv (.int x :: .ref i :: st) h := by
  subst ho
  exact hp_puti (C := RX2) (T := TX2) (N := 4) (ci := 2) tinX2 rfl 0 (by decide) tyX2 tyX2_ok nmX2 wd_108 rfl (tyX2_ok 0 (by decide)) hdg hx kk
theorem fpX2_15 (ho : own = RX2) {i : Nat} {x : Int32} {h' : hp_H} (hdg : decode cc pc = .ok (.putfield 15, 3)) (hx : pi_ h i 2 1 x = some h') (kk : hp_G l (own, cc, nL, rt, ini) X d zr Q false k n (pc + 3) lv st h') : hp_G l (own, cc, nL, rt, ini) X d zr Q false k n pc lv (.int x :: .ref i :: st) h := by
  subst ho
  exact hp_puti (C := RX2) (T := TX2) (N := 4) (ci := 2) tinX2 rfl 1 (by decide) tyX2 tyX2_ok nmX2 wd_111 rfl (tyX2_ok 1 (by decide)) hdg hx kk
theorem fpX2_18 (ho : own = RX2) {i : Nat} {x : Int32} {h' : hp_H} (hdg : decode cc pc = .ok (.putfield 18, 3)) (hx : pi_ h i 2 2 x = some h') (kk : hp_G l (own, cc, nL, rt, ini) X d zr Q false k n (pc + 3) lv st h') : hp_G l (own, cc, nL, rt, ini) X d zr Q false k n pc lv (.int x :: .ref i :: st) h := by
  subst ho
  exact hp_puti (C := RX2) (T := TX2) (N := 4) (ci := 2) tinX2 rfl 2 (by decide) tyX2 tyX2_ok nmX2 wd_114 rfl (tyX2_ok 2 (by decide)) hdg hx kk
theorem fpX2_34 (ho : own = RX2) {i : Nat} {x : Int32} {h' : hp_H} (hdg : decode cc pc = .ok (.putfield 34, 3)) (hx : pz_ h i 2 3 x = some h') (kk : hp_G l (own, cc, nL, rt, ini) X d zr Q false k n (pc + 3) lv st h') : hp_G l (own, cc, nL, rt, ini) X d zr Q false k n pc lv (.int x :: .ref i :: st) h := by
  subst ho
  exact hp_putz (C := RX2) (T := TX2) (N := 4) (ci := 2) tinX2 rfl 3 (by decide) tyX2 tyX2_ok nmX2 wd_122 rfl (tyX2_ok 3 (by decide)) hdg hx kk
theorem mmX6_28 (ho : own = RX6) {x y : Int32} (hd : 1 ≤ d) (hr : (st.map fun v => v.category).sum ≤ 8) (hdg : decode cc pc = .ok (.invokestatic 28, 3)) (kk : hp_G l (own, cc, nL, rt, ini) X d zr Q zz k n (pc + 3) lv (.int (mn_ x y) :: st) h) : hp_G l (own, cc, nL, rt, ini) X d zr Q zz k n pc lv (.int y :: .int x :: st) h := by
  subst ho
  exact hp_min (List.forall_mem_cons.mpr ⟨wd_324, (List.forall_mem_cons.mpr ⟨wd_325, (List.forall_mem_cons.mpr ⟨wd_83, (List.forall_mem_cons.mpr ⟨wd_326, (fun _ h => absurd h List.not_mem_nil)⟩)⟩)⟩)⟩) ⟨hd, hr⟩ hdg kk
theorem fpX6_34 (ho : own = RX6) {i : Nat} {x : Int32} {h' : hp_H} (hdg : decode cc pc = .ok (.putfield 34, 3)) (hx : pi_ h i 6 1 x = some h') (kk : hp_G l (own, cc, nL, rt, ini) X d zr Q false k n (pc + 3) lv st h') : hp_G l (own, cc, nL, rt, ini) X d zr Q false k n pc lv (.int x :: .ref i :: st) h := by
  subst ho
  exact hp_putiN (C := RX7) (T := TX7) (N := 2) (ci := 6) (host := "WinnersLeave") tinX7 rfl 1 (by decide) tyX7 tyX7_ok nmX7 wd_141 rfl (tyX7_ok 1 (by decide)) hdg hx kk
theorem fgX6_34 (ho : own = RX6) {i : Nat} {x : Int32} (hdg : decode cc pc = .ok (.getfield 34, 3)) (hx : gi_ h i 6 1 = some x) (kk : hp_G l (own, cc, nL, rt, ini) X d zr Q zz k n (pc + 3) lv (.int x :: st) h) : hp_G l (own, cc, nL, rt, ini) X d zr Q zz k n pc lv (.ref i :: st) h := by
  subst ho
  exact hp_getiN (C := RX7) (T := TX7) (N := 2) (ci := 6) (host := "WinnersLeave") tinX7 rfl 1 (by decide) wd_141 hdg hx kk
theorem fgX6_40 (ho : own = RX6) {i : Nat} {x : Nat} (hdg : decode cc pc = .ok (.getfield 40, 3)) (hx : gq_ h i 6 0 = some x) (kk : hp_G l (own, cc, nL, rt, ini) X d zr Q zz k n (pc + 3) lv (.ref x :: st) h) : hp_G l (own, cc, nL, rt, ini) X d zr Q zz k n pc lv (.ref i :: st) h := by
  subst ho
  exact hp_getqN (C := RX7) (T := TX7) (N := 2) (ci := 6) (host := "WinnersLeave") tinX7 rfl 0 (by decide) wd_137 hdg hx kk
theorem fgX0_24 (ho : own = RX0) {i : Nat} {x : Int32} (hdg : decode cc pc = .ok (.getfield 24, 3)) (hx : gi_ h i 0 4 = some x) (kk : hp_G l (own, cc, nL, rt, ini) X d zr Q zz k n (pc + 3) lv (.int x :: st) h) : hp_G l (own, cc, nL, rt, ini) X d zr Q zz k n pc lv (.ref i :: st) h := by
  subst ho
  exact hp_geti (C := RX0) (T := TX0) (N := 5) (ci := 0) tinX0 rfl 4 (by decide) wd_160 hdg hx kk
theorem mmX0_28 (ho : own = RX0) {x y : Int32} (hd : 1 ≤ d) (hr : (st.map fun v => v.category).sum ≤ 8) (hdg : decode cc pc = .ok (.invokestatic 28, 3)) (kk : hp_G l (own, cc, nL, rt, ini) X d zr Q zz k n (pc + 3) lv (.int (mx_ x y) :: st) h) : hp_G l (own, cc, nL, rt, ini) X d zr Q zz k n pc lv (.int y :: .int x :: st) h := by
  subst ho
  exact hp_max (List.forall_mem_cons.mpr ⟨wd_335, (List.forall_mem_cons.mpr ⟨wd_336, (List.forall_mem_cons.mpr ⟨wd_83, (List.forall_mem_cons.mpr ⟨wd_337, (fun _ h => absurd h List.not_mem_nil)⟩)⟩)⟩)⟩) ⟨hd, hr⟩ hdg kk
theorem fpX0_24 (ho : own = RX0) {i : Nat} {x : Int32} {h' : hp_H} (hdg : decode cc pc = .ok (.putfield 24, 3)) (hx : pi_ h i 0 4 x = some h') (kk : hp_G l (own, cc, nL, rt, ini) X d zr Q false k n (pc + 3) lv st h') : hp_G l (own, cc, nL, rt, ini) X d zr Q false k n pc lv (.int x :: .ref i :: st) h := by
  subst ho
  exact hp_puti (C := RX0) (T := TX0) (N := 5) (ci := 0) tinX0 rfl 4 (by decide) tyX0 tyX0_ok nmX0 wd_160 rfl (tyX0_ok 4 (by decide)) hdg hx kk
theorem fgX8_12 (ho : own = RX8) {i : Nat} {x : Nat} (hdg : decode cc pc = .ok (.getfield 12, 3)) (hx : gq_ h i 7 0 = some x) (kk : hp_G l (own, cc, nL, rt, ini) X d zr Q zz k n (pc + 3) lv (.ref x :: st) h) : hp_G l (own, cc, nL, rt, ini) X d zr Q zz k n pc lv (.ref i :: st) h := by
  subst ho
  exact hp_getq (C := RX8) (T := TX8) (N := 9) (ci := 7) tinX8 rfl 0 (by decide) wd_255 hdg hx kk
theorem fpX8_82 (ho : own = RX8) {i : Nat} {x : Int32} {h' : hp_H} (hdg : decode cc pc = .ok (.putfield 82, 3)) (hx : pi_ h i 7 6 x = some h') (kk : hp_G l (own, cc, nL, rt, ini) X d zr Q false k n (pc + 3) lv st h') : hp_G l (own, cc, nL, rt, ini) X d zr Q false k n pc lv (.int x :: .ref i :: st) h := by
  subst ho
  exact hp_puti (C := RX8) (T := TX8) (N := 9) (ci := 7) tinX8 rfl 6 (by decide) tyX8 tyX8_ok nmX8 wd_261 rfl (tyX8_ok 6 (by decide)) hdg hx kk
theorem fgX8_27 (ho : own = RX8) {i : Nat} {x : Nat} (hdg : decode cc pc = .ok (.getfield 27, 3)) (hx : gq_ h i 7 2 = some x) (kk : hp_G l (own, cc, nL, rt, ini) X d zr Q zz k n (pc + 3) lv (.ref x :: st) h) : hp_G l (own, cc, nL, rt, ini) X d zr Q zz k n pc lv (.ref i :: st) h := by
  subst ho
  exact hp_getq (C := RX8) (T := TX8) (N := 9) (ci := 7) tinX8 rfl 2 (by decide) wd_257 hdg hx kk
theorem fgX8_85 (ho : own = RX8) {i : Nat} {x : Int32} (hdg : decode cc pc = .ok (.getfield 85, 3)) (hx : gi_ h i 0 4 = some x) (kk : hp_G l (own, cc, nL, rt, ini) X d zr Q zz k n (pc + 3) lv (.int x :: st) h) : hp_G l (own, cc, nL, rt, ini) X d zr Q zz k n pc lv (.ref i :: st) h := by
  subst ho
  exact hp_getiN (C := RX0) (T := TX0) (N := 5) (ci := 0) (host := "WinnersLeave") tinX0 rfl 4 (by decide) wd_161 hdg hx kk
theorem fgX8_92 (ho : own = RX8) {i : Nat} {x : Int32} (hdg : decode cc pc = .ok (.getfield 92, 3)) (hx : gi_ h i 6 1 = some x) (kk : hp_G l (own, cc, nL, rt, ini) X d zr Q zz k n (pc + 3) lv (.int x :: st) h) : hp_G l (own, cc, nL, rt, ini) X d zr Q zz k n pc lv (.ref i :: st) h := by
  subst ho
  exact hp_getiN (C := RX7) (T := TX7) (N := 2) (ci := 6) (host := "WinnersLeave") tinX7 rfl 1 (by decide) wd_140 hdg hx kk
theorem fgX9_9 (ho : own = RX9) {i : Nat} {x : Nat} (hdg : decode cc pc = .ok (.getfield 9, 3)) (hx : gq_ h i 8 2 = some x) (kk : hp_G l (own, cc, nL, rt, ini) X d zr Q zz k n (pc + 3) lv (.ref x :: st) h) : hp_G l (own, cc, nL, rt, ini) X d zr Q zz k n pc lv (.ref i :: st) h := by
  subst ho
  exact hp_getq (C := RX9) (T := TX9) (N := 29) (ci := 8) tinX9 rfl 2 (by decide) wd_673 hdg hx kk
theorem fgX9_13 (ho : own = RX9) {i : Nat} {x : Nat} (hdg : decode cc pc = .ok (.getfield 13, 3)) (hx : gq_ h i 8 3 = some x) (kk : hp_G l (own, cc, nL, rt, ini) X d zr Q zz k n (pc + 3) lv (.ref x :: st) h) : hp_G l (own, cc, nL, rt, ini) X d zr Q zz k n pc lv (.ref i :: st) h := by
  subst ho
  exact hp_getq (C := RX9) (T := TX9) (N := 29) (ci := 8) tinX9 rfl 3 (by decide) wd_674 hdg hx kk
theorem fpX9_61 (ho : own = RX9) {i : Nat} {x : Int32} {h' : hp_H} (hdg : decode cc pc = .ok (.putfield 61, 3)) (hx : pi_ h i 8 0 x = some h') (kk : hp_G l (own, cc, nL, rt, ini) X d zr Q false k n (pc + 3) lv st h') : hp_G l (own, cc, nL, rt, ini) X d zr Q false k n pc lv (.int x :: .ref i :: st) h := by
  subst ho
  exact hp_puti (C := RX9) (T := TX9) (N := 29) (ci := 8) tinX9 rfl 0 (by decide) tyX9 tyX9_ok nmX9 wd_671 rfl (tyX9_ok 0 (by decide)) hdg hx kk
theorem fgX9_78 (ho : own = RX9) {i : Nat} {x : Int32} (hdg : decode cc pc = .ok (.getfield 78, 3)) (hx : gi_ h i 8 11 = some x) (kk : hp_G l (own, cc, nL, rt, ini) X d zr Q zz k n (pc + 3) lv (.int x :: st) h) : hp_G l (own, cc, nL, rt, ini) X d zr Q zz k n pc lv (.ref i :: st) h := by
  subst ho
  exact hp_geti (C := RX9) (T := TX9) (N := 29) (ci := 8) tinX9 rfl 11 (by decide) wd_682 hdg hx kk
theorem fgX9_16 (ho : own = RX9) {i : Nat} {x : Nat} (hdg : decode cc pc = .ok (.getfield 16, 3)) (hx : gq_ h i 8 4 = some x) (kk : hp_G l (own, cc, nL, rt, ini) X d zr Q zz k n (pc + 3) lv (.ref x :: st) h) : hp_G l (own, cc, nL, rt, ini) X d zr Q zz k n pc lv (.ref i :: st) h := by
  subst ho
  exact hp_getq (C := RX9) (T := TX9) (N := 29) (ci := 8) tinX9 rfl 4 (by decide) wd_675 hdg hx kk
theorem fpX9_78 (ho : own = RX9) {i : Nat} {x : Int32} {h' : hp_H} (hdg : decode cc pc = .ok (.putfield 78, 3)) (hx : pi_ h i 8 11 x = some h') (kk : hp_G l (own, cc, nL, rt, ini) X d zr Q false k n (pc + 3) lv st h') : hp_G l (own, cc, nL, rt, ini) X d zr Q false k n pc lv (.int x :: .ref i :: st) h := by
  subst ho
  exact hp_puti (C := RX9) (T := TX9) (N := 29) (ci := 8) tinX9 rfl 11 (by decide) tyX9 tyX9_ok nmX9 wd_682 rfl (tyX9_ok 11 (by decide)) hdg hx kk
theorem fgX9_98 (ho : own = RX9) {i : Nat} {x : Int32} (hdg : decode cc pc = .ok (.getfield 98, 3)) (hx : gi_ h i 8 12 = some x) (kk : hp_G l (own, cc, nL, rt, ini) X d zr Q zz k n (pc + 3) lv (.int x :: st) h) : hp_G l (own, cc, nL, rt, ini) X d zr Q zz k n pc lv (.ref i :: st) h := by
  subst ho
  exact hp_geti (C := RX9) (T := TX9) (N := 29) (ci := 8) tinX9 rfl 12 (by decide) wd_683 hdg hx kk
theorem fgX9_28 (ho : own = RX9) {i : Nat} {x : Nat} (hdg : decode cc pc = .ok (.getfield 28, 3)) (hx : gq_ h i 8 13 = some x) (kk : hp_G l (own, cc, nL, rt, ini) X d zr Q zz k n (pc + 3) lv (.ref x :: st) h) : hp_G l (own, cc, nL, rt, ini) X d zr Q zz k n pc lv (.ref i :: st) h := by
  subst ho
  exact hp_getq (C := RX9) (T := TX9) (N := 29) (ci := 8) tinX9 rfl 13 (by decide) wd_684 hdg hx kk
theorem fpX9_98 (ho : own = RX9) {i : Nat} {x : Int32} {h' : hp_H} (hdg : decode cc pc = .ok (.putfield 98, 3)) (hx : pi_ h i 8 12 x = some h') (kk : hp_G l (own, cc, nL, rt, ini) X d zr Q false k n (pc + 3) lv st h') : hp_G l (own, cc, nL, rt, ini) X d zr Q false k n pc lv (.int x :: .ref i :: st) h := by
  subst ho
  exact hp_puti (C := RX9) (T := TX9) (N := 29) (ci := 8) tinX9 rfl 12 (by decide) tyX9 tyX9_ok nmX9 wd_683 rfl (tyX9_ok 12 (by decide)) hdg hx kk
theorem fpX9_71 (ho : own = RX9) {i : Nat} {x : Int32} {h' : hp_H} (hdg : decode cc pc = .ok (.putfield 71, 3)) (hx : pi_ h i 8 5 x = some h') (kk : hp_G l (own, cc, nL, rt, ini) X d zr Q false k n (pc + 3) lv st h') : hp_G l (own, cc, nL, rt, ini) X d zr Q false k n pc lv (.int x :: .ref i :: st) h := by
  subst ho
  exact hp_puti (C := RX9) (T := TX9) (N := 29) (ci := 8) tinX9 rfl 5 (by decide) tyX9 tyX9_ok nmX9 wd_676 rfl (tyX9_ok 5 (by decide)) hdg hx kk
theorem fgX9_71 (ho : own = RX9) {i : Nat} {x : Int32} (hdg : decode cc pc = .ok (.getfield 71, 3)) (hx : gi_ h i 8 5 = some x) (kk : hp_G l (own, cc, nL, rt, ini) X d zr Q zz k n (pc + 3) lv (.int x :: st) h) : hp_G l (own, cc, nL, rt, ini) X d zr Q zz k n pc lv (.ref i :: st) h := by
  subst ho
  exact hp_geti (C := RX9) (T := TX9) (N := 29) (ci := 8) tinX9 rfl 5 (by decide) wd_676 hdg hx kk
theorem fgX9_19 (ho : own = RX9) {i : Nat} {x : Nat} (hdg : decode cc pc = .ok (.getfield 19, 3)) (hx : gq_ h i 8 8 = some x) (kk : hp_G l (own, cc, nL, rt, ini) X d zr Q zz k n (pc + 3) lv (.ref x :: st) h) : hp_G l (own, cc, nL, rt, ini) X d zr Q zz k n pc lv (.ref i :: st) h := by
  subst ho
  exact hp_getq (C := RX9) (T := TX9) (N := 29) (ci := 8) tinX9 rfl 8 (by decide) wd_679 hdg hx kk
theorem fgX9_22 (ho : own = RX9) {i : Nat} {x : Nat} (hdg : decode cc pc = .ok (.getfield 22, 3)) (hx : gq_ h i 8 9 = some x) (kk : hp_G l (own, cc, nL, rt, ini) X d zr Q zz k n (pc + 3) lv (.ref x :: st) h) : hp_G l (own, cc, nL, rt, ini) X d zr Q zz k n pc lv (.ref i :: st) h := by
  subst ho
  exact hp_getq (C := RX9) (T := TX9) (N := 29) (ci := 8) tinX9 rfl 9 (by decide) wd_680 hdg hx kk
theorem fgX9_25 (ho : own = RX9) {i : Nat} {x : Nat} (hdg : decode cc pc = .ok (.getfield 25, 3)) (hx : gq_ h i 8 10 = some x) (kk : hp_G l (own, cc, nL, rt, ini) X d zr Q zz k n (pc + 3) lv (.ref x :: st) h) : hp_G l (own, cc, nL, rt, ini) X d zr Q zz k n pc lv (.ref i :: st) h := by
  subst ho
  exact hp_getq (C := RX9) (T := TX9) (N := 29) (ci := 8) tinX9 rfl 10 (by decide) wd_681 hdg hx kk
theorem fpX9_101 (ho : own = RX9) {i : Nat} {x : Int32} {h' : hp_H} (hdg : decode cc pc = .ok (.putfield 101, 3)) (hx : pi_ h i 8 6 x = some h') (kk : hp_G l (own, cc, nL, rt, ini) X d zr Q false k n (pc + 3) lv st h') : hp_G l (own, cc, nL, rt, ini) X d zr Q false k n pc lv (.int x :: .ref i :: st) h := by
  subst ho
  exact hp_puti (C := RX9) (T := TX9) (N := 29) (ci := 8) tinX9 rfl 6 (by decide) tyX9 tyX9_ok nmX9 wd_677 rfl (tyX9_ok 6 (by decide)) hdg hx kk
theorem fpX9_104 (ho : own = RX9) {i : Nat} {x : Int32} {h' : hp_H} (hdg : decode cc pc = .ok (.putfield 104, 3)) (hx : pi_ h i 8 7 x = some h') (kk : hp_G l (own, cc, nL, rt, ini) X d zr Q false k n (pc + 3) lv st h') : hp_G l (own, cc, nL, rt, ini) X d zr Q false k n pc lv (.int x :: .ref i :: st) h := by
  subst ho
  exact hp_puti (C := RX9) (T := TX9) (N := 29) (ci := 8) tinX9 rfl 7 (by decide) tyX9 tyX9_ok nmX9 wd_678 rfl (tyX9_ok 7 (by decide)) hdg hx kk
theorem fpX9_107 (ho : own = RX9) {i : Nat} {x : Int32} {h' : hp_H} (hdg : decode cc pc = .ok (.putfield 107, 3)) (hx : pi_ h i 8 24 x = some h') (kk : hp_G l (own, cc, nL, rt, ini) X d zr Q false k n (pc + 3) lv st h') : hp_G l (own, cc, nL, rt, ini) X d zr Q false k n pc lv (.int x :: .ref i :: st) h := by
  subst ho
  exact hp_puti (C := RX9) (T := TX9) (N := 29) (ci := 8) tinX9 rfl 24 (by decide) tyX9 tyX9_ok nmX9 wd_695 rfl (tyX9_ok 24 (by decide)) hdg hx kk
theorem fgX7_18 (ho : own = RX7) {i : Nat} {x : Int32} (hdg : decode cc pc = .ok (.getfield 18, 3)) (hx : gi_ h i 6 1 = some x) (kk : hp_G l (own, cc, nL, rt, ini) X d zr Q zz k n (pc + 3) lv (.int x :: st) h) : hp_G l (own, cc, nL, rt, ini) X d zr Q zz k n pc lv (.ref i :: st) h := by
  subst ho
  exact hp_geti (C := RX7) (T := TX7) (N := 2) (ci := 6) tinX7 rfl 1 (by decide) wd_138 hdg hx kk
theorem fgX2_9 (ho : own = RX2) {i : Nat} {x : Int32} (hdg : decode cc pc = .ok (.getfield 9, 3)) (hx : gi_ h i 2 0 = some x) (kk : hp_G l (own, cc, nL, rt, ini) X d zr Q zz k n (pc + 3) lv (.int x :: st) h) : hp_G l (own, cc, nL, rt, ini) X d zr Q zz k n pc lv (.ref i :: st) h := by
  subst ho
  exact hp_geti (C := RX2) (T := TX2) (N := 4) (ci := 2) tinX2 rfl 0 (by decide) wd_108 hdg hx kk
theorem fgX2_15 (ho : own = RX2) {i : Nat} {x : Int32} (hdg : decode cc pc = .ok (.getfield 15, 3)) (hx : gi_ h i 2 1 = some x) (kk : hp_G l (own, cc, nL, rt, ini) X d zr Q zz k n (pc + 3) lv (.int x :: st) h) : hp_G l (own, cc, nL, rt, ini) X d zr Q zz k n pc lv (.ref i :: st) h := by
  subst ho
  exact hp_geti (C := RX2) (T := TX2) (N := 4) (ci := 2) tinX2 rfl 1 (by decide) wd_111 hdg hx kk
theorem fgX2_18 (ho : own = RX2) {i : Nat} {x : Int32} (hdg : decode cc pc = .ok (.getfield 18, 3)) (hx : gi_ h i 2 2 = some x) (kk : hp_G l (own, cc, nL, rt, ini) X d zr Q zz k n (pc + 3) lv (.int x :: st) h) : hp_G l (own, cc, nL, rt, ini) X d zr Q zz k n pc lv (.ref i :: st) h := by
  subst ho
  exact hp_geti (C := RX2) (T := TX2) (N := 4) (ci := 2) tinX2 rfl 2 (by decide) wd_114 hdg hx kk
theorem mmX2_25 (ho : own = RX2) {x y : Int32} (hd : 1 ≤ d) (hr : (st.map fun v => v.category).sum ≤ 8) (hdg : decode cc pc = .ok (.invokestatic 25, 3)) (kk : hp_G l (own, cc, nL, rt, ini) X d zr Q zz k n (pc + 3) lv (.int (mx_ x y) :: st) h) : hp_G l (own, cc, nL, rt, ini) X d zr Q zz k n pc lv (.int y :: .int x :: st) h := by
  subst ho
  exact hp_max (List.forall_mem_cons.mpr ⟨wd_359, (List.forall_mem_cons.mpr ⟨wd_336, (List.forall_mem_cons.mpr ⟨wd_83, (List.forall_mem_cons.mpr ⟨wd_337, (fun _ h => absurd h List.not_mem_nil)⟩)⟩)⟩)⟩) ⟨hd, hr⟩ hdg kk
theorem fgX8_96 (ho : own = RX8) {i : Nat} {x : Nat} (hdg : decode cc pc = .ok (.getfield 96, 3)) (hx : gq_ h i 6 0 = some x) (kk : hp_G l (own, cc, nL, rt, ini) X d zr Q zz k n (pc + 3) lv (.ref x :: st) h) : hp_G l (own, cc, nL, rt, ini) X d zr Q zz k n pc lv (.ref i :: st) h := by
  subst ho
  exact hp_getqN (C := RX7) (T := TX7) (N := 2) (ci := 6) (host := "WinnersLeave") tinX7 rfl 0 (by decide) wd_134 hdg hx kk
theorem fgX8_112 (ho : own = RX8) {i : Nat} {x : Int32} (hdg : decode cc pc = .ok (.getfield 112, 3)) (hx : gi_ h i 2 3 = some x) (kk : hp_G l (own, cc, nL, rt, ini) X d zr Q zz k n (pc + 3) lv (.int x :: st) h) : hp_G l (own, cc, nL, rt, ini) X d zr Q zz k n pc lv (.ref i :: st) h := by
  subst ho
  exact hp_getiN (C := RX2) (T := TX2) (N := 4) (ci := 2) (host := "WinnersLeave") tinX2 rfl 3 (by decide) wd_119 hdg hx kk
theorem fgX9_101 (ho : own = RX9) {i : Nat} {x : Int32} (hdg : decode cc pc = .ok (.getfield 101, 3)) (hx : gi_ h i 8 6 = some x) (kk : hp_G l (own, cc, nL, rt, ini) X d zr Q zz k n (pc + 3) lv (.int x :: st) h) : hp_G l (own, cc, nL, rt, ini) X d zr Q zz k n pc lv (.ref i :: st) h := by
  subst ho
  exact hp_geti (C := RX9) (T := TX9) (N := 29) (ci := 8) tinX9 rfl 6 (by decide) wd_677 hdg hx kk
theorem fgX7_26 (ho : own = RX7) {i : Nat} {x : Int32} (hdg : decode cc pc = .ok (.getfield 26, 3)) (hx : gi_ h i 2 3 = some x) (kk : hp_G l (own, cc, nL, rt, ini) X d zr Q zz k n (pc + 3) lv (.int x :: st) h) : hp_G l (own, cc, nL, rt, ini) X d zr Q zz k n pc lv (.ref i :: st) h := by
  subst ho
  exact hp_getiN (C := RX2) (T := TX2) (N := 4) (ci := 2) (host := "WinnersLeave") tinX2 rfl 3 (by decide) wd_120 hdg hx kk
theorem fpX7_26 (ho : own = RX7) {i : Nat} {x : Int32} {h' : hp_H} (hdg : decode cc pc = .ok (.putfield 26, 3)) (hx : pz_ h i 2 3 x = some h') (kk : hp_G l (own, cc, nL, rt, ini) X d zr Q false k n (pc + 3) lv st h') : hp_G l (own, cc, nL, rt, ini) X d zr Q false k n pc lv (.int x :: .ref i :: st) h := by
  subst ho
  exact hp_putzN (C := RX2) (T := TX2) (N := 4) (ci := 2) (host := "WinnersLeave") tinX2 rfl 3 (by decide) tyX2 tyX2_ok nmX2 wd_120 rfl (tyX2_ok 3 (by decide)) hdg hx kk
theorem fgX8_82 (ho : own = RX8) {i : Nat} {x : Int32} (hdg : decode cc pc = .ok (.getfield 82, 3)) (hx : gi_ h i 7 6 = some x) (kk : hp_G l (own, cc, nL, rt, ini) X d zr Q zz k n (pc + 3) lv (.int x :: st) h) : hp_G l (own, cc, nL, rt, ini) X d zr Q zz k n pc lv (.ref i :: st) h := by
  subst ho
  exact hp_geti (C := RX8) (T := TX8) (N := 9) (ci := 7) tinX8 rfl 6 (by decide) wd_261 hdg hx kk
theorem fgX9_104 (ho : own = RX9) {i : Nat} {x : Int32} (hdg : decode cc pc = .ok (.getfield 104, 3)) (hx : gi_ h i 8 7 = some x) (kk : hp_G l (own, cc, nL, rt, ini) X d zr Q zz k n (pc + 3) lv (.int x :: st) h) : hp_G l (own, cc, nL, rt, ini) X d zr Q zz k n pc lv (.ref i :: st) h := by
  subst ho
  exact hp_geti (C := RX9) (T := TX9) (N := 29) (ci := 8) tinX9 rfl 7 (by decide) wd_678 hdg hx kk
theorem fpX8_112 (ho : own = RX8) {i : Nat} {x : Int32} {h' : hp_H} (hdg : decode cc pc = .ok (.putfield 112, 3)) (hx : pz_ h i 2 3 x = some h') (kk : hp_G l (own, cc, nL, rt, ini) X d zr Q false k n (pc + 3) lv st h') : hp_G l (own, cc, nL, rt, ini) X d zr Q false k n pc lv (.int x :: .ref i :: st) h := by
  subst ho
  exact hp_putzN (C := RX2) (T := TX2) (N := 4) (ci := 2) (host := "WinnersLeave") tinX2 rfl 3 (by decide) tyX2 tyX2_ok nmX2 wd_119 rfl (tyX2_ok 3 (by decide)) hdg hx kk
theorem fpX7_18 (ho : own = RX7) {i : Nat} {x : Int32} {h' : hp_H} (hdg : decode cc pc = .ok (.putfield 18, 3)) (hx : pi_ h i 6 1 x = some h') (kk : hp_G l (own, cc, nL, rt, ini) X d zr Q false k n (pc + 3) lv st h') : hp_G l (own, cc, nL, rt, ini) X d zr Q false k n pc lv (.int x :: .ref i :: st) h := by
  subst ho
  exact hp_puti (C := RX7) (T := TX7) (N := 2) (ci := 6) tinX7 rfl 1 (by decide) tyX7 tyX7_ok nmX7 wd_138 rfl (tyX7_ok 1 (by decide)) hdg hx kk
theorem fgX7_30 (ho : own = RX7) {i : Nat} {x : Int32} (hdg : decode cc pc = .ok (.getfield 30, 3)) (hx : gi_ h i 2 0 = some x) (kk : hp_G l (own, cc, nL, rt, ini) X d zr Q zz k n (pc + 3) lv (.int x :: st) h) : hp_G l (own, cc, nL, rt, ini) X d zr Q zz k n pc lv (.ref i :: st) h := by
  subst ho
  exact hp_getiN (C := RX2) (T := TX2) (N := 4) (ci := 2) (host := "WinnersLeave") tinX2 rfl 0 (by decide) wd_109 hdg hx kk
theorem fgX7_33 (ho : own = RX7) {i : Nat} {x : Int32} (hdg : decode cc pc = .ok (.getfield 33, 3)) (hx : gi_ h i 2 1 = some x) (kk : hp_G l (own, cc, nL, rt, ini) X d zr Q zz k n (pc + 3) lv (.int x :: st) h) : hp_G l (own, cc, nL, rt, ini) X d zr Q zz k n pc lv (.ref i :: st) h := by
  subst ho
  exact hp_getiN (C := RX2) (T := TX2) (N := 4) (ci := 2) (host := "WinnersLeave") tinX2 rfl 1 (by decide) wd_112 hdg hx kk
theorem fgX7_36 (ho : own = RX7) {i : Nat} {x : Int32} (hdg : decode cc pc = .ok (.getfield 36, 3)) (hx : gi_ h i 2 2 = some x) (kk : hp_G l (own, cc, nL, rt, ini) X d zr Q zz k n (pc + 3) lv (.int x :: st) h) : hp_G l (own, cc, nL, rt, ini) X d zr Q zz k n pc lv (.ref i :: st) h := by
  subst ho
  exact hp_getiN (C := RX2) (T := TX2) (N := 4) (ci := 2) (host := "WinnersLeave") tinX2 rfl 2 (by decide) wd_116 hdg hx kk
theorem fgX4_72 (ho : own = RX4) {i : Nat} {x : Int32} (hdg : decode cc pc = .ok (.getfield 72, 3)) (hx : gi_ h i 2 3 = some x) (kk : hp_G l (own, cc, nL, rt, ini) X d zr Q zz k n (pc + 3) lv (.int x :: st) h) : hp_G l (own, cc, nL, rt, ini) X d zr Q zz k n pc lv (.ref i :: st) h := by
  subst ho
  exact hp_getiN (C := RX2) (T := TX2) (N := 4) (ci := 2) (host := "WinnersLeave") tinX2 rfl 3 (by decide) wd_121 hdg hx kk
theorem fpX4_72 (ho : own = RX4) {i : Nat} {x : Int32} {h' : hp_H} (hdg : decode cc pc = .ok (.putfield 72, 3)) (hx : pz_ h i 2 3 x = some h') (kk : hp_G l (own, cc, nL, rt, ini) X d zr Q false k n (pc + 3) lv st h') : hp_G l (own, cc, nL, rt, ini) X d zr Q false k n pc lv (.int x :: .ref i :: st) h := by
  subst ho
  exact hp_putzN (C := RX2) (T := TX2) (N := 4) (ci := 2) (host := "WinnersLeave") tinX2 rfl 3 (by decide) tyX2 tyX2_ok nmX2 wd_121 rfl (tyX2_ok 3 (by decide)) hdg hx kk
theorem fgX4_12 (ho : own = RX4) {i : Nat} {x : Nat} (hdg : decode cc pc = .ok (.getfield 12, 3)) (hx : gq_ h i 4 0 = some x) (kk : hp_G l (own, cc, nL, rt, ini) X d zr Q zz k n (pc + 3) lv (.ref x :: st) h) : hp_G l (own, cc, nL, rt, ini) X d zr Q zz k n pc lv (.ref i :: st) h := by
  subst ho
  exact hp_getq (C := RX4) (T := TX4) (N := 5) (ci := 4) tinX4 rfl 0 (by decide) wd_182 hdg hx kk
theorem fgX4_18 (ho : own = RX4) {i : Nat} {x : Nat} (hdg : decode cc pc = .ok (.getfield 18, 3)) (hx : gq_ h i 4 1 = some x) (kk : hp_G l (own, cc, nL, rt, ini) X d zr Q zz k n (pc + 3) lv (.ref x :: st) h) : hp_G l (own, cc, nL, rt, ini) X d zr Q zz k n pc lv (.ref i :: st) h := by
  subst ho
  exact hp_getq (C := RX4) (T := TX4) (N := 5) (ci := 4) tinX4 rfl 1 (by decide) wd_183 hdg hx kk
theorem fgX4_56 (ho : own = RX4) {i : Nat} {x : Nat} (hdg : decode cc pc = .ok (.getfield 56, 3)) (hx : gq_ h i 6 0 = some x) (kk : hp_G l (own, cc, nL, rt, ini) X d zr Q zz k n (pc + 3) lv (.ref x :: st) h) : hp_G l (own, cc, nL, rt, ini) X d zr Q zz k n pc lv (.ref i :: st) h := by
  subst ho
  exact hp_getqN (C := RX7) (T := TX7) (N := 2) (ci := 6) (host := "WinnersLeave") tinX7 rfl 0 (by decide) wd_135 hdg hx kk
theorem fpX4_36 (ho : own = RX4) {i : Nat} {x : Int32} {h' : hp_H} (hdg : decode cc pc = .ok (.putfield 36, 3)) (hx : pi_ h i 4 3 x = some h') (kk : hp_G l (own, cc, nL, rt, ini) X d zr Q false k n (pc + 3) lv st h') : hp_G l (own, cc, nL, rt, ini) X d zr Q false k n pc lv (.int x :: .ref i :: st) h := by
  subst ho
  exact hp_puti (C := RX4) (T := TX4) (N := 5) (ci := 4) tinX4 rfl 3 (by decide) tyX4 tyX4_ok nmX4 wd_185 rfl (tyX4_ok 3 (by decide)) hdg hx kk
theorem fgX4_32 (ho : own = RX4) {i : Nat} {x : Int32} (hdg : decode cc pc = .ok (.getfield 32, 3)) (hx : gi_ h i 4 2 = some x) (kk : hp_G l (own, cc, nL, rt, ini) X d zr Q zz k n (pc + 3) lv (.int x :: st) h) : hp_G l (own, cc, nL, rt, ini) X d zr Q zz k n pc lv (.ref i :: st) h := by
  subst ho
  exact hp_geti (C := RX4) (T := TX4) (N := 5) (ci := 4) tinX4 rfl 2 (by decide) wd_184 hdg hx kk
theorem fpX4_32 (ho : own = RX4) {i : Nat} {x : Int32} {h' : hp_H} (hdg : decode cc pc = .ok (.putfield 32, 3)) (hx : pi_ h i 4 2 x = some h') (kk : hp_G l (own, cc, nL, rt, ini) X d zr Q false k n (pc + 3) lv st h') : hp_G l (own, cc, nL, rt, ini) X d zr Q false k n pc lv (.int x :: .ref i :: st) h := by
  subst ho
  exact hp_puti (C := RX4) (T := TX4) (N := 5) (ci := 4) tinX4 rfl 2 (by decide) tyX4 tyX4_ok nmX4 wd_184 rfl (tyX4_ok 2 (by decide)) hdg hx kk
theorem fpX4_60 (ho : own = RX4) {i : Nat} {x : Int32} {h' : hp_H} (hdg : decode cc pc = .ok (.putfield 60, 3)) (hx : pi_ h i 2 2 x = some h') (kk : hp_G l (own, cc, nL, rt, ini) X d zr Q false k n (pc + 3) lv st h') : hp_G l (own, cc, nL, rt, ini) X d zr Q false k n pc lv (.int x :: .ref i :: st) h := by
  subst ho
  exact hp_putiN (C := RX2) (T := TX2) (N := 4) (ci := 2) (host := "WinnersLeave") tinX2 rfl 2 (by decide) tyX2 tyX2_ok nmX2 wd_115 rfl (tyX2_ok 2 (by decide)) hdg hx kk
theorem fpX4_39 (ho : own = RX4) {i : Nat} {x : Int32} {h' : hp_H} (hdg : decode cc pc = .ok (.putfield 39, 3)) (hx : pi_ h i 4 4 x = some h') (kk : hp_G l (own, cc, nL, rt, ini) X d zr Q false k n (pc + 3) lv st h') : hp_G l (own, cc, nL, rt, ini) X d zr Q false k n pc lv (.int x :: .ref i :: st) h := by
  subst ho
  exact hp_puti (C := RX4) (T := TX4) (N := 5) (ci := 4) tinX4 rfl 4 (by decide) tyX4 tyX4_ok nmX4 wd_186 rfl (tyX4_ok 4 (by decide)) hdg hx kk
theorem fgX4_39 (ho : own = RX4) {i : Nat} {x : Int32} (hdg : decode cc pc = .ok (.getfield 39, 3)) (hx : gi_ h i 4 4 = some x) (kk : hp_G l (own, cc, nL, rt, ini) X d zr Q zz k n (pc + 3) lv (.int x :: st) h) : hp_G l (own, cc, nL, rt, ini) X d zr Q zz k n pc lv (.ref i :: st) h := by
  subst ho
  exact hp_geti (C := RX4) (T := TX4) (N := 5) (ci := 4) tinX4 rfl 4 (by decide) wd_186 hdg hx kk
theorem fgX4_90 (ho : own = RX4) {i : Nat} {x : Int32} (hdg : decode cc pc = .ok (.getfield 90, 3)) (hx : gi_ h i 6 1 = some x) (kk : hp_G l (own, cc, nL, rt, ini) X d zr Q zz k n (pc + 3) lv (.int x :: st) h) : hp_G l (own, cc, nL, rt, ini) X d zr Q zz k n pc lv (.ref i :: st) h := by
  subst ho
  exact hp_getiN (C := RX7) (T := TX7) (N := 2) (ci := 6) (host := "WinnersLeave") tinX7 rfl 1 (by decide) wd_142 hdg hx kk
theorem fgX4_36 (ho : own = RX4) {i : Nat} {x : Int32} (hdg : decode cc pc = .ok (.getfield 36, 3)) (hx : gi_ h i 4 3 = some x) (kk : hp_G l (own, cc, nL, rt, ini) X d zr Q zz k n (pc + 3) lv (.int x :: st) h) : hp_G l (own, cc, nL, rt, ini) X d zr Q zz k n pc lv (.ref i :: st) h := by
  subst ho
  exact hp_geti (C := RX4) (T := TX4) (N := 5) (ci := 4) tinX4 rfl 3 (by decide) wd_185 hdg hx kk
theorem fgX8_34 (ho : own = RX8) {i : Nat} {x : Nat} (hdg : decode cc pc = .ok (.getfield 34, 3)) (hx : gq_ h i 7 3 = some x) (kk : hp_G l (own, cc, nL, rt, ini) X d zr Q zz k n (pc + 3) lv (.ref x :: st) h) : hp_G l (own, cc, nL, rt, ini) X d zr Q zz k n pc lv (.ref i :: st) h := by
  subst ho
  exact hp_getq (C := RX8) (T := TX8) (N := 9) (ci := 7) tinX8 rfl 3 (by decide) wd_258 hdg hx kk
theorem fgX9_34 (ho : own = RX9) {i : Nat} {x : Nat} (hdg : decode cc pc = .ok (.getfield 34, 3)) (hx : gq_ h i 8 15 = some x) (kk : hp_G l (own, cc, nL, rt, ini) X d zr Q zz k n (pc + 3) lv (.ref x :: st) h) : hp_G l (own, cc, nL, rt, ini) X d zr Q zz k n pc lv (.ref i :: st) h := by
  subst ho
  exact hp_getq (C := RX9) (T := TX9) (N := 29) (ci := 8) tinX9 rfl 15 (by decide) wd_686 hdg hx kk
theorem fgX9_141 (ho : own = RX9) {i : Nat} {x : Int32} (hdg : decode cc pc = .ok (.getfield 141, 3)) (hx : gi_ h i 8 16 = some x) (kk : hp_G l (own, cc, nL, rt, ini) X d zr Q zz k n (pc + 3) lv (.int x :: st) h) : hp_G l (own, cc, nL, rt, ini) X d zr Q zz k n pc lv (.ref i :: st) h := by
  subst ho
  exact hp_geti (C := RX9) (T := TX9) (N := 29) (ci := 8) tinX9 rfl 16 (by decide) wd_687 hdg hx kk
theorem fpX9_141 (ho : own = RX9) {i : Nat} {x : Int32} {h' : hp_H} (hdg : decode cc pc = .ok (.putfield 141, 3)) (hx : pi_ h i 8 16 x = some h') (kk : hp_G l (own, cc, nL, rt, ini) X d zr Q false k n (pc + 3) lv st h') : hp_G l (own, cc, nL, rt, ini) X d zr Q false k n pc lv (.int x :: .ref i :: st) h := by
  subst ho
  exact hp_puti (C := RX9) (T := TX9) (N := 29) (ci := 8) tinX9 rfl 16 (by decide) tyX9 tyX9_ok nmX9 wd_687 rfl (tyX9_ok 16 (by decide)) hdg hx kk
theorem fpX9_144 (ho : own = RX9) {i : Nat} {x : Int32} {h' : hp_H} (hdg : decode cc pc = .ok (.putfield 144, 3)) (hx : pi_ h i 8 17 x = some h') (kk : hp_G l (own, cc, nL, rt, ini) X d zr Q false k n (pc + 3) lv st h') : hp_G l (own, cc, nL, rt, ini) X d zr Q false k n pc lv (.int x :: .ref i :: st) h := by
  subst ho
  exact hp_puti (C := RX9) (T := TX9) (N := 29) (ci := 8) tinX9 rfl 17 (by decide) tyX9 tyX9_ok nmX9 wd_688 rfl (tyX9_ok 17 (by decide)) hdg hx kk
theorem fgX9_144 (ho : own = RX9) {i : Nat} {x : Int32} (hdg : decode cc pc = .ok (.getfield 144, 3)) (hx : gi_ h i 8 17 = some x) (kk : hp_G l (own, cc, nL, rt, ini) X d zr Q zz k n (pc + 3) lv (.int x :: st) h) : hp_G l (own, cc, nL, rt, ini) X d zr Q zz k n pc lv (.ref i :: st) h := by
  subst ho
  exact hp_geti (C := RX9) (T := TX9) (N := 29) (ci := 8) tinX9 rfl 17 (by decide) wd_688 hdg hx kk
theorem fgX9_31 (ho : own = RX9) {i : Nat} {x : Nat} (hdg : decode cc pc = .ok (.getfield 31, 3)) (hx : gq_ h i 8 14 = some x) (kk : hp_G l (own, cc, nL, rt, ini) X d zr Q zz k n (pc + 3) lv (.ref x :: st) h) : hp_G l (own, cc, nL, rt, ini) X d zr Q zz k n pc lv (.ref i :: st) h := by
  subst ho
  exact hp_getq (C := RX9) (T := TX9) (N := 29) (ci := 8) tinX9 rfl 14 (by decide) wd_685 hdg hx kk
theorem mmX8_158 (ho : own = RX8) {x y : Int32} (hd : 1 ≤ d) (hr : (st.map fun v => v.category).sum ≤ 8) (hdg : decode cc pc = .ok (.invokestatic 158, 3)) (kk : hp_G l (own, cc, nL, rt, ini) X d zr Q zz k n (pc + 3) lv (.int (mn_ x y) :: st) h) : hp_G l (own, cc, nL, rt, ini) X d zr Q zz k n pc lv (.int y :: .int x :: st) h := by
  subst ho
  exact hp_min (List.forall_mem_cons.mpr ⟨wd_481, (List.forall_mem_cons.mpr ⟨wd_325, (List.forall_mem_cons.mpr ⟨wd_83, (List.forall_mem_cons.mpr ⟨wd_326, (fun _ h => absurd h List.not_mem_nil)⟩)⟩)⟩)⟩) ⟨hd, hr⟩ hdg kk
theorem mmX8_164 (ho : own = RX8) {x y : Int32} (hd : 1 ≤ d) (hr : (st.map fun v => v.category).sum ≤ 8) (hdg : decode cc pc = .ok (.invokestatic 164, 3)) (kk : hp_G l (own, cc, nL, rt, ini) X d zr Q zz k n (pc + 3) lv (.int (mx_ x y) :: st) h) : hp_G l (own, cc, nL, rt, ini) X d zr Q zz k n pc lv (.int y :: .int x :: st) h := by
  subst ho
  exact hp_max (List.forall_mem_cons.mpr ⟨wd_482, (List.forall_mem_cons.mpr ⟨wd_336, (List.forall_mem_cons.mpr ⟨wd_83, (List.forall_mem_cons.mpr ⟨wd_337, (fun _ h => absurd h List.not_mem_nil)⟩)⟩)⟩)⟩) ⟨hd, hr⟩ hdg kk
theorem fgX1_28 (ho : own = RX1) {i : Nat} {x : Int32} (hdg : decode cc pc = .ok (.getfield 28, 3)) (hx : gi_ h i 6 1 = some x) (kk : hp_G l (own, cc, nL, rt, ini) X d zr Q zz k n (pc + 3) lv (.int x :: st) h) : hp_G l (own, cc, nL, rt, ini) X d zr Q zz k n pc lv (.ref i :: st) h := by
  subst ho
  exact hp_getiN (C := RX7) (T := TX7) (N := 2) (ci := 6) (host := "WinnersLeave") tinX7 rfl 1 (by decide) wd_139 hdg hx kk
theorem fgX1_9 (ho : own = RX1) {i : Nat} {x : Nat} (hdg : decode cc pc = .ok (.getfield 9, 3)) (hx : gq_ h i 1 0 = some x) (kk : hp_G l (own, cc, nL, rt, ini) X d zr Q zz k n (pc + 3) lv (.ref x :: st) h) : hp_G l (own, cc, nL, rt, ini) X d zr Q zz k n pc lv (.ref i :: st) h := by
  subst ho
  exact hp_getq (C := RX1) (T := TX1) (N := 3) (ci := 1) tinX1 rfl 0 (by decide) wd_204 hdg hx kk
theorem fgX1_33 (ho : own = RX1) {i : Nat} {x : Nat} (hdg : decode cc pc = .ok (.getfield 33, 3)) (hx : gq_ h i 6 0 = some x) (kk : hp_G l (own, cc, nL, rt, ini) X d zr Q zz k n (pc + 3) lv (.ref x :: st) h) : hp_G l (own, cc, nL, rt, ini) X d zr Q zz k n pc lv (.ref i :: st) h := by
  subst ho
  exact hp_getqN (C := RX7) (T := TX7) (N := 2) (ci := 6) (host := "WinnersLeave") tinX7 rfl 0 (by decide) wd_133 hdg hx kk
theorem fgX1_18 (ho : own = RX1) {i : Nat} {x : Int32} (hdg : decode cc pc = .ok (.getfield 18, 3)) (hx : gi_ h i 1 2 = some x) (kk : hp_G l (own, cc, nL, rt, ini) X d zr Q zz k n (pc + 3) lv (.int x :: st) h) : hp_G l (own, cc, nL, rt, ini) X d zr Q zz k n pc lv (.ref i :: st) h := by
  subst ho
  exact hp_geti (C := RX1) (T := TX1) (N := 3) (ci := 1) tinX1 rfl 2 (by decide) wd_206 hdg hx kk
theorem fpX1_18 (ho : own = RX1) {i : Nat} {x : Int32} {h' : hp_H} (hdg : decode cc pc = .ok (.putfield 18, 3)) (hx : pi_ h i 1 2 x = some h') (kk : hp_G l (own, cc, nL, rt, ini) X d zr Q false k n (pc + 3) lv st h') : hp_G l (own, cc, nL, rt, ini) X d zr Q false k n pc lv (.int x :: .ref i :: st) h := by
  subst ho
  exact hp_puti (C := RX1) (T := TX1) (N := 3) (ci := 1) tinX1 rfl 2 (by decide) tyX1 tyX1_ok nmX1 wd_206 rfl (tyX1_ok 2 (by decide)) hdg hx kk
theorem fgX1_15 (ho : own = RX1) {i : Nat} {x : Nat} (hdg : decode cc pc = .ok (.getfield 15, 3)) (hx : gq_ h i 1 1 = some x) (kk : hp_G l (own, cc, nL, rt, ini) X d zr Q zz k n (pc + 3) lv (.ref x :: st) h) : hp_G l (own, cc, nL, rt, ini) X d zr Q zz k n pc lv (.ref i :: st) h := by
  subst ho
  exact hp_getq (C := RX1) (T := TX1) (N := 3) (ci := 1) tinX1 rfl 1 (by decide) wd_205 hdg hx kk
theorem fgX1_37 (ho : own = RX1) {i : Nat} {x : Int32} (hdg : decode cc pc = .ok (.getfield 37, 3)) (hx : gi_ h i 2 3 = some x) (kk : hp_G l (own, cc, nL, rt, ini) X d zr Q zz k n (pc + 3) lv (.int x :: st) h) : hp_G l (own, cc, nL, rt, ini) X d zr Q zz k n pc lv (.ref i :: st) h := by
  subst ho
  exact hp_getiN (C := RX2) (T := TX2) (N := 4) (ci := 2) (host := "WinnersLeave") tinX2 rfl 3 (by decide) wd_118 hdg hx kk
theorem fgX8_41 (ho : own = RX8) {i : Nat} {x : Nat} (hdg : decode cc pc = .ok (.getfield 41, 3)) (hx : gq_ h i 7 4 = some x) (kk : hp_G l (own, cc, nL, rt, ini) X d zr Q zz k n (pc + 3) lv (.ref x :: st) h) : hp_G l (own, cc, nL, rt, ini) X d zr Q zz k n pc lv (.ref i :: st) h := by
  subst ho
  exact hp_getq (C := RX8) (T := TX8) (N := 9) (ci := 7) tinX8 rfl 4 (by decide) wd_259 hdg hx kk
theorem fgX8_171 (ho : own = RX8) {i : Nat} {x : Int32} (hdg : decode cc pc = .ok (.getfield 171, 3)) (hx : gi_ h i 1 2 = some x) (kk : hp_G l (own, cc, nL, rt, ini) X d zr Q zz k n (pc + 3) lv (.int x :: st) h) : hp_G l (own, cc, nL, rt, ini) X d zr Q zz k n pc lv (.ref i :: st) h := by
  subst ho
  exact hp_getiN (C := RX1) (T := TX1) (N := 3) (ci := 1) (host := "WinnersLeave") tinX1 rfl 2 (by decide) wd_207 hdg hx kk
theorem fgX9_160 (ho : own = RX9) {i : Nat} {x : Int32} (hdg : decode cc pc = .ok (.getfield 160, 3)) (hx : gi_ h i 8 20 = some x) (kk : hp_G l (own, cc, nL, rt, ini) X d zr Q zz k n (pc + 3) lv (.int x :: st) h) : hp_G l (own, cc, nL, rt, ini) X d zr Q zz k n pc lv (.ref i :: st) h := by
  subst ho
  exact hp_geti (C := RX9) (T := TX9) (N := 29) (ci := 8) tinX9 rfl 20 (by decide) wd_691 hdg hx kk
theorem fgX9_37 (ho : own = RX9) {i : Nat} {x : Nat} (hdg : decode cc pc = .ok (.getfield 37, 3)) (hx : gq_ h i 8 18 = some x) (kk : hp_G l (own, cc, nL, rt, ini) X d zr Q zz k n (pc + 3) lv (.ref x :: st) h) : hp_G l (own, cc, nL, rt, ini) X d zr Q zz k n pc lv (.ref i :: st) h := by
  subst ho
  exact hp_getq (C := RX9) (T := TX9) (N := 29) (ci := 8) tinX9 rfl 18 (by decide) wd_689 hdg hx kk
theorem fgX9_40 (ho : own = RX9) {i : Nat} {x : Nat} (hdg : decode cc pc = .ok (.getfield 40, 3)) (hx : gq_ h i 8 19 = some x) (kk : hp_G l (own, cc, nL, rt, ini) X d zr Q zz k n (pc + 3) lv (.ref x :: st) h) : hp_G l (own, cc, nL, rt, ini) X d zr Q zz k n pc lv (.ref i :: st) h := by
  subst ho
  exact hp_getq (C := RX9) (T := TX9) (N := 29) (ci := 8) tinX9 rfl 19 (by decide) wd_690 hdg hx kk
theorem fpX9_160 (ho : own = RX9) {i : Nat} {x : Int32} {h' : hp_H} (hdg : decode cc pc = .ok (.putfield 160, 3)) (hx : pi_ h i 8 20 x = some h') (kk : hp_G l (own, cc, nL, rt, ini) X d zr Q false k n (pc + 3) lv st h') : hp_G l (own, cc, nL, rt, ini) X d zr Q false k n pc lv (.int x :: .ref i :: st) h := by
  subst ho
  exact hp_puti (C := RX9) (T := TX9) (N := 29) (ci := 8) tinX9 rfl 20 (by decide) tyX9 tyX9_ok nmX9 wd_691 rfl (tyX9_ok 20 (by decide)) hdg hx kk
theorem fpX9_163 (ho : own = RX9) {i : Nat} {x : Int32} {h' : hp_H} (hdg : decode cc pc = .ok (.putfield 163, 3)) (hx : pi_ h i 8 21 x = some h') (kk : hp_G l (own, cc, nL, rt, ini) X d zr Q false k n (pc + 3) lv st h') : hp_G l (own, cc, nL, rt, ini) X d zr Q false k n pc lv (.int x :: .ref i :: st) h := by
  subst ho
  exact hp_puti (C := RX9) (T := TX9) (N := 29) (ci := 8) tinX9 rfl 21 (by decide) tyX9 tyX9_ok nmX9 wd_692 rfl (tyX9_ok 21 (by decide)) hdg hx kk
theorem fgX9_163 (ho : own = RX9) {i : Nat} {x : Int32} (hdg : decode cc pc = .ok (.getfield 163, 3)) (hx : gi_ h i 8 21 = some x) (kk : hp_G l (own, cc, nL, rt, ini) X d zr Q zz k n (pc + 3) lv (.int x :: st) h) : hp_G l (own, cc, nL, rt, ini) X d zr Q zz k n pc lv (.ref i :: st) h := by
  subst ho
  exact hp_geti (C := RX9) (T := TX9) (N := 29) (ci := 8) tinX9 rfl 21 (by decide) wd_692 hdg hx kk
theorem mmX3_21 (ho : own = RX3) {x y : Int32} (hd : 1 ≤ d) (hr : (st.map fun v => v.category).sum ≤ 8) (hdg : decode cc pc = .ok (.invokestatic 21, 3)) (kk : hp_G l (own, cc, nL, rt, ini) X d zr Q zz k n (pc + 3) lv (.int (mn_ x y) :: st) h) : hp_G l (own, cc, nL, rt, ini) X d zr Q zz k n pc lv (.int y :: .int x :: st) h := by
  subst ho
  exact hp_min (List.forall_mem_cons.mpr ⟨wd_516, (List.forall_mem_cons.mpr ⟨wd_325, (List.forall_mem_cons.mpr ⟨wd_83, (List.forall_mem_cons.mpr ⟨wd_326, (fun _ h => absurd h List.not_mem_nil)⟩)⟩)⟩)⟩) ⟨hd, hr⟩ hdg kk
theorem fpX3_27 (ho : own = RX3) {i : Nat} {x : Int32} {h' : hp_H} (hdg : decode cc pc = .ok (.putfield 27, 3)) (hx : pi_ h i 3 3 x = some h') (kk : hp_G l (own, cc, nL, rt, ini) X d zr Q false k n (pc + 3) lv st h') : hp_G l (own, cc, nL, rt, ini) X d zr Q false k n pc lv (.int x :: .ref i :: st) h := by
  subst ho
  exact hp_puti (C := RX3) (T := TX3) (N := 4) (ci := 3) tinX3 rfl 3 (by decide) tyX3 tyX3_ok nmX3 wd_224 rfl (tyX3_ok 3 (by decide)) hdg hx kk
theorem fgX3_9 (ho : own = RX3) {i : Nat} {x : Nat} (hdg : decode cc pc = .ok (.getfield 9, 3)) (hx : gq_ h i 3 0 = some x) (kk : hp_G l (own, cc, nL, rt, ini) X d zr Q zz k n (pc + 3) lv (.ref x :: st) h) : hp_G l (own, cc, nL, rt, ini) X d zr Q zz k n pc lv (.ref i :: st) h := by
  subst ho
  exact hp_getq (C := RX3) (T := TX3) (N := 4) (ci := 3) tinX3 rfl 0 (by decide) wd_221 hdg hx kk
theorem fgX3_27 (ho : own = RX3) {i : Nat} {x : Int32} (hdg : decode cc pc = .ok (.getfield 27, 3)) (hx : gi_ h i 3 3 = some x) (kk : hp_G l (own, cc, nL, rt, ini) X d zr Q zz k n (pc + 3) lv (.int x :: st) h) : hp_G l (own, cc, nL, rt, ini) X d zr Q zz k n pc lv (.ref i :: st) h := by
  subst ho
  exact hp_geti (C := RX3) (T := TX3) (N := 4) (ci := 3) tinX3 rfl 3 (by decide) wd_224 hdg hx kk
theorem fgX3_15 (ho : own = RX3) {i : Nat} {x : Nat} (hdg : decode cc pc = .ok (.getfield 15, 3)) (hx : gq_ h i 3 1 = some x) (kk : hp_G l (own, cc, nL, rt, ini) X d zr Q zz k n (pc + 3) lv (.ref x :: st) h) : hp_G l (own, cc, nL, rt, ini) X d zr Q zz k n pc lv (.ref i :: st) h := by
  subst ho
  exact hp_getq (C := RX3) (T := TX3) (N := 4) (ci := 3) tinX3 rfl 1 (by decide) wd_222 hdg hx kk
theorem fgX3_18 (ho : own = RX3) {i : Nat} {x : Nat} (hdg : decode cc pc = .ok (.getfield 18, 3)) (hx : gq_ h i 3 2 = some x) (kk : hp_G l (own, cc, nL, rt, ini) X d zr Q zz k n (pc + 3) lv (.ref x :: st) h) : hp_G l (own, cc, nL, rt, ini) X d zr Q zz k n pc lv (.ref i :: st) h := by
  subst ho
  exact hp_getq (C := RX3) (T := TX3) (N := 4) (ci := 3) tinX3 rfl 2 (by decide) wd_223 hdg hx kk
theorem fgX8_48 (ho : own = RX8) {i : Nat} {x : Nat} (hdg : decode cc pc = .ok (.getfield 48, 3)) (hx : gq_ h i 7 5 = some x) (kk : hp_G l (own, cc, nL, rt, ini) X d zr Q zz k n (pc + 3) lv (.ref x :: st) h) : hp_G l (own, cc, nL, rt, ini) X d zr Q zz k n pc lv (.ref i :: st) h := by
  subst ho
  exact hp_getq (C := RX8) (T := TX8) (N := 9) (ci := 7) tinX8 rfl 5 (by decide) wd_260 hdg hx kk
theorem fgX9_43 (ho : own = RX9) {i : Nat} {x : Nat} (hdg : decode cc pc = .ok (.getfield 43, 3)) (hx : gq_ h i 8 22 = some x) (kk : hp_G l (own, cc, nL, rt, ini) X d zr Q zz k n (pc + 3) lv (.ref x :: st) h) : hp_G l (own, cc, nL, rt, ini) X d zr Q zz k n pc lv (.ref i :: st) h := by
  subst ho
  exact hp_getq (C := RX9) (T := TX9) (N := 29) (ci := 8) tinX9 rfl 22 (by decide) wd_693 hdg hx kk
theorem fgX9_46 (ho : own = RX9) {i : Nat} {x : Nat} (hdg : decode cc pc = .ok (.getfield 46, 3)) (hx : gq_ h i 8 23 = some x) (kk : hp_G l (own, cc, nL, rt, ini) X d zr Q zz k n (pc + 3) lv (.ref x :: st) h) : hp_G l (own, cc, nL, rt, ini) X d zr Q zz k n pc lv (.ref i :: st) h := by
  subst ho
  exact hp_getq (C := RX9) (T := TX9) (N := 29) (ci := 8) tinX9 rfl 23 (by decide) wd_694 hdg hx kk
theorem fgX0_9 (ho : own = RX0) {i : Nat} {x : Nat} (hdg : decode cc pc = .ok (.getfield 9, 3)) (hx : gq_ h i 0 0 = some x) (kk : hp_G l (own, cc, nL, rt, ini) X d zr Q zz k n (pc + 3) lv (.ref x :: st) h) : hp_G l (own, cc, nL, rt, ini) X d zr Q zz k n pc lv (.ref i :: st) h := by
  subst ho
  exact hp_getq (C := RX0) (T := TX0) (N := 5) (ci := 0) tinX0 rfl 0 (by decide) wd_156 hdg hx kk
theorem fgX0_15 (ho : own = RX0) {i : Nat} {x : Nat} (hdg : decode cc pc = .ok (.getfield 15, 3)) (hx : gq_ h i 0 1 = some x) (kk : hp_G l (own, cc, nL, rt, ini) X d zr Q zz k n (pc + 3) lv (.ref x :: st) h) : hp_G l (own, cc, nL, rt, ini) X d zr Q zz k n pc lv (.ref i :: st) h := by
  subst ho
  exact hp_getq (C := RX0) (T := TX0) (N := 5) (ci := 0) tinX0 rfl 1 (by decide) wd_157 hdg hx kk
theorem fgX0_18 (ho : own = RX0) {i : Nat} {x : Nat} (hdg : decode cc pc = .ok (.getfield 18, 3)) (hx : gq_ h i 0 2 = some x) (kk : hp_G l (own, cc, nL, rt, ini) X d zr Q zz k n (pc + 3) lv (.ref x :: st) h) : hp_G l (own, cc, nL, rt, ini) X d zr Q zz k n pc lv (.ref i :: st) h := by
  subst ho
  exact hp_getq (C := RX0) (T := TX0) (N := 5) (ci := 0) tinX0 rfl 2 (by decide) wd_158 hdg hx kk
theorem fgX0_21 (ho : own = RX0) {i : Nat} {x : Nat} (hdg : decode cc pc = .ok (.getfield 21, 3)) (hx : gq_ h i 0 3 = some x) (kk : hp_G l (own, cc, nL, rt, ini) X d zr Q zz k n (pc + 3) lv (.ref x :: st) h) : hp_G l (own, cc, nL, rt, ini) X d zr Q zz k n pc lv (.ref i :: st) h := by
  subst ho
  exact hp_getq (C := RX0) (T := TX0) (N := 5) (ci := 0) tinX0 rfl 3 (by decide) wd_159 hdg hx kk
theorem fgX9_107 (ho : own = RX9) {i : Nat} {x : Int32} (hdg : decode cc pc = .ok (.getfield 107, 3)) (hx : gi_ h i 8 24 = some x) (kk : hp_G l (own, cc, nL, rt, ini) X d zr Q zz k n (pc + 3) lv (.int x :: st) h) : hp_G l (own, cc, nL, rt, ini) X d zr Q zz k n pc lv (.ref i :: st) h := by
  subst ho
  exact hp_geti (C := RX9) (T := TX9) (N := 29) (ci := 8) tinX9 rfl 24 (by decide) wd_695 hdg hx kk
theorem fgX9_49 (ho : own = RX9) {i : Nat} {x : Nat} (hdg : decode cc pc = .ok (.getfield 49, 3)) (hx : gq_ h i 8 25 = some x) (kk : hp_G l (own, cc, nL, rt, ini) X d zr Q zz k n (pc + 3) lv (.ref x :: st) h) : hp_G l (own, cc, nL, rt, ini) X d zr Q zz k n pc lv (.ref i :: st) h := by
  subst ho
  exact hp_getq (C := RX9) (T := TX9) (N := 29) (ci := 8) tinX9 rfl 25 (by decide) wd_696 hdg hx kk
theorem fgX9_52 (ho : own = RX9) {i : Nat} {x : Nat} (hdg : decode cc pc = .ok (.getfield 52, 3)) (hx : gq_ h i 8 26 = some x) (kk : hp_G l (own, cc, nL, rt, ini) X d zr Q zz k n (pc + 3) lv (.ref x :: st) h) : hp_G l (own, cc, nL, rt, ini) X d zr Q zz k n pc lv (.ref i :: st) h := by
  subst ho
  exact hp_getq (C := RX9) (T := TX9) (N := 29) (ci := 8) tinX9 rfl 26 (by decide) wd_697 hdg hx kk
theorem fgX9_55 (ho : own = RX9) {i : Nat} {x : Nat} (hdg : decode cc pc = .ok (.getfield 55, 3)) (hx : gq_ h i 8 27 = some x) (kk : hp_G l (own, cc, nL, rt, ini) X d zr Q zz k n (pc + 3) lv (.ref x :: st) h) : hp_G l (own, cc, nL, rt, ini) X d zr Q zz k n pc lv (.ref i :: st) h := by
  subst ho
  exact hp_getq (C := RX9) (T := TX9) (N := 29) (ci := 8) tinX9 rfl 27 (by decide) wd_698 hdg hx kk
theorem fgX9_58 (ho : own = RX9) {i : Nat} {x : Nat} (hdg : decode cc pc = .ok (.getfield 58, 3)) (hx : gq_ h i 8 28 = some x) (kk : hp_G l (own, cc, nL, rt, ini) X d zr Q zz k n (pc + 3) lv (.ref x :: st) h) : hp_G l (own, cc, nL, rt, ini) X d zr Q zz k n pc lv (.ref i :: st) h := by
  subst ho
  exact hp_getq (C := RX9) (T := TX9) (N := 29) (ci := 8) tinX9 rfl 28 (by decide) wd_699 hdg hx kk
theorem fgX0_40 (ho : own = RX0) {i : Nat} {x : Nat} (hdg : decode cc pc = .ok (.getfield 40, 3)) (hx : gq_ h i 6 0 = some x) (kk : hp_G l (own, cc, nL, rt, ini) X d zr Q zz k n (pc + 3) lv (.ref x :: st) h) : hp_G l (own, cc, nL, rt, ini) X d zr Q zz k n pc lv (.ref i :: st) h := by
  subst ho
  exact hp_getqN (C := RX7) (T := TX7) (N := 2) (ci := 6) (host := "WinnersLeave") tinX7 rfl 0 (by decide) wd_136 hdg hx kk
theorem fpX5_21 (ho : own = RX5) {i : Nat} {x : Int32} {h' : hp_H} (hdg : decode cc pc = .ok (.putfield 21, 3)) (hx : pz_ h i 5 1 x = some h') (kk : hp_G l (own, cc, nL, rt, ini) X d zr Q false k n (pc + 3) lv st h') : hp_G l (own, cc, nL, rt, ini) X d zr Q false k n pc lv (.int x :: .ref i :: st) h := by
  subst ho
  exact hp_putz (C := RX5) (T := TX5) (N := 4) (ci := 5) tinX5 rfl 1 (by decide) tyX5 tyX5_ok nmX5 wd_241 rfl (tyX5_ok 1 (by decide)) hdg hx kk
theorem fpX5_25 (ho : own = RX5) {i : Nat} {x : Int32} {h' : hp_H} (hdg : decode cc pc = .ok (.putfield 25, 3)) (hx : pi_ h i 5 2 x = some h') (kk : hp_G l (own, cc, nL, rt, ini) X d zr Q false k n (pc + 3) lv st h') : hp_G l (own, cc, nL, rt, ini) X d zr Q false k n pc lv (.int x :: .ref i :: st) h := by
  subst ho
  exact hp_puti (C := RX5) (T := TX5) (N := 4) (ci := 5) tinX5 rfl 2 (by decide) tyX5 tyX5_ok nmX5 wd_243 rfl (tyX5_ok 2 (by decide)) hdg hx kk
theorem fpX5_29 (ho : own = RX5) {i : Nat} {x : Int32} {h' : hp_H} (hdg : decode cc pc = .ok (.putfield 29, 3)) (hx : pi_ h i 5 3 x = some h') (kk : hp_G l (own, cc, nL, rt, ini) X d zr Q false k n (pc + 3) lv st h') : hp_G l (own, cc, nL, rt, ini) X d zr Q false k n pc lv (.int x :: .ref i :: st) h := by
  subst ho
  exact hp_puti (C := RX5) (T := TX5) (N := 4) (ci := 5) tinX5 rfl 3 (by decide) tyX5 tyX5_ok nmX5 wd_245 rfl (tyX5_ok 3 (by decide)) hdg hx kk
theorem fgX8_210 (ho : own = RX8) {i : Nat} {x : Int32} (hdg : decode cc pc = .ok (.getfield 210, 3)) (hx : gi_ h i 5 1 = some x) (kk : hp_G l (own, cc, nL, rt, ini) X d zr Q zz k n (pc + 3) lv (.int x :: st) h) : hp_G l (own, cc, nL, rt, ini) X d zr Q zz k n pc lv (.ref i :: st) h := by
  subst ho
  exact hp_getiN (C := RX5) (T := TX5) (N := 4) (ci := 5) (host := "WinnersLeave") tinX5 rfl 1 (by decide) wd_242 hdg hx kk
theorem fpX8_210 (ho : own = RX8) {i : Nat} {x : Int32} {h' : hp_H} (hdg : decode cc pc = .ok (.putfield 210, 3)) (hx : pz_ h i 5 1 x = some h') (kk : hp_G l (own, cc, nL, rt, ini) X d zr Q false k n (pc + 3) lv st h') : hp_G l (own, cc, nL, rt, ini) X d zr Q false k n pc lv (.int x :: .ref i :: st) h := by
  subst ho
  exact hp_putzN (C := RX5) (T := TX5) (N := 4) (ci := 5) (host := "WinnersLeave") tinX5 rfl 1 (by decide) tyX5 tyX5_ok nmX5 wd_242 rfl (tyX5_ok 1 (by decide)) hdg hx kk
theorem fgX8_213 (ho : own = RX8) {i : Nat} {x : Int32} (hdg : decode cc pc = .ok (.getfield 213, 3)) (hx : gi_ h i 5 2 = some x) (kk : hp_G l (own, cc, nL, rt, ini) X d zr Q zz k n (pc + 3) lv (.int x :: st) h) : hp_G l (own, cc, nL, rt, ini) X d zr Q zz k n pc lv (.ref i :: st) h := by
  subst ho
  exact hp_getiN (C := RX5) (T := TX5) (N := 4) (ci := 5) (host := "WinnersLeave") tinX5 rfl 2 (by decide) wd_244 hdg hx kk
theorem fgX8_53 (ho : own = RX8) {i : Nat} {x : Int32} (hdg : decode cc pc = .ok (.getfield 53, 3)) (hx : gi_ h i 7 8 = some x) (kk : hp_G l (own, cc, nL, rt, ini) X d zr Q zz k n (pc + 3) lv (.int x :: st) h) : hp_G l (own, cc, nL, rt, ini) X d zr Q zz k n pc lv (.ref i :: st) h := by
  subst ho
  exact hp_geti (C := RX8) (T := TX8) (N := 9) (ci := 7) tinX8 rfl 8 (by decide) wd_263 hdg hx kk
theorem fgX8_225 (ho : own = RX8) {i : Nat} {x : Nat} (hdg : decode cc pc = .ok (.getfield 225, 3)) (hx : gq_ h i 5 0 = some x) (kk : hp_G l (own, cc, nL, rt, ini) X d zr Q zz k n (pc + 3) lv (.ref x :: st) h) : hp_G l (own, cc, nL, rt, ini) X d zr Q zz k n pc lv (.ref i :: st) h := by
  subst ho
  exact hp_getqN (C := RX5) (T := TX5) (N := 4) (ci := 5) (host := "WinnersLeave") tinX5 rfl 0 (by decide) wd_240 hdg hx kk
theorem fgX8_254 (ho : own = RX8) {i : Nat} {x : Int32} (hdg : decode cc pc = .ok (.getfield 254, 3)) (hx : gi_ h i 7 7 = some x) (kk : hp_G l (own, cc, nL, rt, ini) X d zr Q zz k n (pc + 3) lv (.int x :: st) h) : hp_G l (own, cc, nL, rt, ini) X d zr Q zz k n pc lv (.ref i :: st) h := by
  subst ho
  exact hp_geti (C := RX8) (T := TX8) (N := 9) (ci := 7) tinX8 rfl 7 (by decide) wd_262 hdg hx kk
theorem fpX8_254 (ho : own = RX8) {i : Nat} {x : Int32} {h' : hp_H} (hdg : decode cc pc = .ok (.putfield 254, 3)) (hx : pi_ h i 7 7 x = some h') (kk : hp_G l (own, cc, nL, rt, ini) X d zr Q false k n (pc + 3) lv st h') : hp_G l (own, cc, nL, rt, ini) X d zr Q false k n pc lv (.int x :: .ref i :: st) h := by
  subst ho
  exact hp_puti (C := RX8) (T := TX8) (N := 9) (ci := 7) tinX8 rfl 7 (by decide) tyX8 tyX8_ok nmX8 wd_262 rfl (tyX8_ok 7 (by decide)) hdg hx kk
theorem fgX8_270 (ho : own = RX8) {i : Nat} {x : Int32} (hdg : decode cc pc = .ok (.getfield 270, 3)) (hx : gi_ h i 2 1 = some x) (kk : hp_G l (own, cc, nL, rt, ini) X d zr Q zz k n (pc + 3) lv (.int x :: st) h) : hp_G l (own, cc, nL, rt, ini) X d zr Q zz k n pc lv (.ref i :: st) h := by
  subst ho
  exact hp_getiN (C := RX2) (T := TX2) (N := 4) (ci := 2) (host := "WinnersLeave") tinX2 rfl 1 (by decide) wd_113 hdg hx kk
theorem fgX8_235 (ho : own = RX8) {i : Nat} {x : Int32} (hdg : decode cc pc = .ok (.getfield 235, 3)) (hx : gi_ h i 2 0 = some x) (kk : hp_G l (own, cc, nL, rt, ini) X d zr Q zz k n (pc + 3) lv (.int x :: st) h) : hp_G l (own, cc, nL, rt, ini) X d zr Q zz k n pc lv (.ref i :: st) h := by
  subst ho
  exact hp_getiN (C := RX2) (T := TX2) (N := 4) (ci := 2) (host := "WinnersLeave") tinX2 rfl 0 (by decide) wd_110 hdg hx kk
theorem fgX9_213 (ho : own = RX9) {i : Nat} {x : Int32} (hdg : decode cc pc = .ok (.getfield 213, 3)) (hx : gi_ h i 8 1 = some x) (kk : hp_G l (own, cc, nL, rt, ini) X d zr Q zz k n (pc + 3) lv (.int x :: st) h) : hp_G l (own, cc, nL, rt, ini) X d zr Q zz k n pc lv (.ref i :: st) h := by
  subst ho
  exact hp_geti (C := RX9) (T := TX9) (N := 29) (ci := 8) tinX9 rfl 1 (by decide) wd_672 hdg hx kk
theorem fpX9_213 (ho : own = RX9) {i : Nat} {x : Int32} {h' : hp_H} (hdg : decode cc pc = .ok (.putfield 213, 3)) (hx : pi_ h i 8 1 x = some h') (kk : hp_G l (own, cc, nL, rt, ini) X d zr Q false k n (pc + 3) lv st h') : hp_G l (own, cc, nL, rt, ini) X d zr Q false k n pc lv (.int x :: .ref i :: st) h := by
  subst ho
  exact hp_puti (C := RX9) (T := TX9) (N := 29) (ci := 8) tinX9 rfl 1 (by decide) tyX9 tyX9_ok nmX9 wd_672 rfl (tyX9_ok 1 (by decide)) hdg hx kk
theorem fgX8_251 (ho : own = RX8) {i : Nat} {x : Int32} (hdg : decode cc pc = .ok (.getfield 251, 3)) (hx : gi_ h i 2 2 = some x) (kk : hp_G l (own, cc, nL, rt, ini) X d zr Q zz k n (pc + 3) lv (.int x :: st) h) : hp_G l (own, cc, nL, rt, ini) X d zr Q zz k n pc lv (.ref i :: st) h := by
  subst ho
  exact hp_getiN (C := RX2) (T := TX2) (N := 4) (ci := 2) (host := "WinnersLeave") tinX2 rfl 2 (by decide) wd_117 hdg hx kk
theorem fgX9_61 (ho : own = RX9) {i : Nat} {x : Int32} (hdg : decode cc pc = .ok (.getfield 61, 3)) (hx : gi_ h i 8 0 = some x) (kk : hp_G l (own, cc, nL, rt, ini) X d zr Q zz k n (pc + 3) lv (.int x :: st) h) : hp_G l (own, cc, nL, rt, ini) X d zr Q zz k n pc lv (.ref i :: st) h := by
  subst ho
  exact hp_geti (C := RX9) (T := TX9) (N := 29) (ci := 8) tinX9 rfl 0 (by decide) wd_671 hdg hx kk
theorem nnL_7 (ho : own = RL) (hdg : decode cc pc = .ok (.new 7, 3)) (kk : hp_G l (own, cc, nL, rt, ini) X d zr Q true k n (pc + 3) lv (.ref (List.length h) :: st) (h ++ [.inl (7, [.null, .null, .null, .null, .null, .null, .int 0, .int 0, .int 0])])) : hp_G l (own, cc, nL, rt, ini) X d zr Q true (k + 1) (n + 9) pc lv st h := by
  subst ho
  exact hp_new (C := RX8) (T := TX8) (N := 9) tinX8 rfl tyX8 tyX8_ok (fs := [.null, .null, .null, .null, .null, .null, .int 0, .int 0, .int 0]) (by decide) (fun _ => rfl) (List.forall_mem_cons.mpr ⟨wd_87, (List.forall_mem_cons.mpr ⟨wd_88, (List.forall_mem_cons.mpr ⟨wd_73, (fun _ h => absurd h List.not_mem_nil)⟩)⟩)⟩) hdg kk
theorem nnL_10 (ho : own = RL) (hdg : decode cc pc = .ok (.new 10, 3)) (kk : hp_G l (own, cc, nL, rt, ini) X d zr Q true k n (pc + 3) lv (.ref (List.length h) :: st) (h ++ [.inl (8, [.int 0, .int 0, .null, .null, .null, .int 0, .int 0, .int 0, .null, .null, .null, .int 0, .int 0, .null, .null, .null, .int 0, .int 0, .null, .null, .int 0, .int 0, .null, .null, .int 0, .null, .null, .null, .null])])) : hp_G l (own, cc, nL, rt, ini) X d zr Q true (k + 1) (n + 29) pc lv st h := by
  subst ho
  exact hp_new (C := RX9) (T := TX9) (N := 29) tinX9 rfl tyX9 tyX9_ok (fs := [.int 0, .int 0, .null, .null, .null, .int 0, .int 0, .int 0, .null, .null, .null, .int 0, .int 0, .null, .null, .null, .int 0, .int 0, .null, .null, .int 0, .int 0, .null, .null, .int 0, .null, .null, .null, .null]) (by decide) (fun _ => rfl) (List.forall_mem_cons.mpr ⟨wd_665, (List.forall_mem_cons.mpr ⟨wd_666, (List.forall_mem_cons.mpr ⟨wd_81, (fun _ h => absurd h List.not_mem_nil)⟩)⟩)⟩) hdg kk
theorem clX7_17 {dj : Nat} {as : List Value} {i : Nat} {hr : hp_H} (ho : own = RX7) (hM : hp_Cn l yX2_init mX2_init dj zz 0 0 (.ref i :: as) h (fun v h2 => none = v ∧ hr = h2)) (hla : as.length = 0) (hd : dj + 1 ≤ d) (hrest : (st.map fun v => v.category).sum ≤ 8) (hdg : decode cc pc = .ok (.invokespecial 17, 3)) {st0 : List Value} (hst : st0 = as.reverse ++ .ref i :: st) (kk : hp_G l (own, cc, nL, rt, ini) X d zr Q zz k n (pc + 3) lv st hr) : hp_G l (own, cc, nL, rt, ini) X d zr Q zz (0 + k) (0 + n) pc lv st0 h := by
  subst ho
  exact hp_callIN (dj := dj) (k := k) (n := n) (y := yX2_init) (mj := mX2_init) (host := "WinnersLeave") hM hd (by decide) hrest (by rw [hla]; (try dsimp only); decide +kernel) wd_104 (List.forall_mem_cons.mpr ⟨wd_105, (List.forall_mem_cons.mpr ⟨wd_75, (List.forall_mem_cons.mpr ⟨wd_106, (fun _ h => absurd h List.not_mem_nil)⟩)⟩)⟩) rfl rfl hdg hst (fun v h' hq => by obtain ⟨rfl, rfl⟩ := hq; exact kk)
theorem clX4_11 {dj : Nat} {as : List Value} {i : Nat} {hr : hp_H} (ho : own = RX4) (hM : hp_Cn l yX7_init mX7_init dj zz 7 30 (.ref i :: as) h (fun v h2 => none = v ∧ hr = h2)) (hla : as.length = 0) (hd : dj + 1 ≤ d) (hrest : (st.map fun v => v.category).sum ≤ 8) (hdg : decode cc pc = .ok (.invokespecial 11, 3)) {st0 : List Value} (hst : st0 = as.reverse ++ .ref i :: st) (kk : hp_G l (own, cc, nL, rt, ini) X d zr Q zz k n (pc + 3) lv st hr) : hp_G l (own, cc, nL, rt, ini) X d zr Q zz (7 + k) (30 + n) pc lv st0 h := by
  subst ho
  exact hp_callIN (dj := dj) (k := k) (n := n) (y := yX7_init) (mj := mX7_init) (host := "WinnersLeave") hM hd (by decide) hrest (by rw [hla]; (try dsimp only); decide +kernel) wd_181 (List.forall_mem_cons.mpr ⟨wd_98, (List.forall_mem_cons.mpr ⟨wd_74, (List.forall_mem_cons.mpr ⟨wd_99, (fun _ h => absurd h List.not_mem_nil)⟩)⟩)⟩) rfl rfl hdg hst (fun v h' hq => by obtain ⟨rfl, rfl⟩ := hq; exact kk)
theorem clX8_11 {dj : Nat} {as : List Value} {i : Nat} {hr : hp_H} (ho : own = RX8) (hM : hp_Cn l yX7_init mX7_init dj zz 7 30 (.ref i :: as) h (fun v h2 => none = v ∧ hr = h2)) (hla : as.length = 0) (hd : dj + 1 ≤ d) (hrest : (st.map fun v => v.category).sum ≤ 8) (hdg : decode cc pc = .ok (.invokespecial 11, 3)) {st0 : List Value} (hst : st0 = as.reverse ++ .ref i :: st) (kk : hp_G l (own, cc, nL, rt, ini) X d zr Q zz k n (pc + 3) lv st hr) : hp_G l (own, cc, nL, rt, ini) X d zr Q zz (7 + k) (30 + n) pc lv st0 h := by
  subst ho
  exact hp_callIN (dj := dj) (k := k) (n := n) (y := yX7_init) (mj := mX7_init) (host := "WinnersLeave") hM hd (by decide) hrest (by rw [hla]; (try dsimp only); decide +kernel) wd_97 (List.forall_mem_cons.mpr ⟨wd_98, (List.forall_mem_cons.mpr ⟨wd_74, (List.forall_mem_cons.mpr ⟨wd_99, (fun _ h => absurd h List.not_mem_nil)⟩)⟩)⟩) rfl rfl hdg hst (fun v h' hq => by obtain ⟨rfl, rfl⟩ := hq; exact kk)
theorem clX8_26 {dj : Nat} {as : List Value} {i : Nat} {hr : hp_H} (ho : own = RX8) (hM : hp_Cn l yX0_init mX0_init dj zz 4 32 (.ref i :: as) h (fun v h2 => none = v ∧ hr = h2)) (hla : as.length = 0) (hd : dj + 1 ≤ d) (hrest : (st.map fun v => v.category).sum ≤ 8) (hdg : decode cc pc = .ok (.invokespecial 26, 3)) {st0 : List Value} (hst : st0 = as.reverse ++ .ref i :: st) (kk : hp_G l (own, cc, nL, rt, ini) X d zr Q zz k n (pc + 3) lv st hr) : hp_G l (own, cc, nL, rt, ini) X d zr Q zz (4 + k) (32 + n) pc lv st0 h := by
  subst ho
  exact hp_callIN (dj := dj) (k := k) (n := n) (y := yX0_init) (mj := mX0_init) (host := "WinnersLeave") hM hd (by decide) hrest (by rw [hla]; (try dsimp only); decide +kernel) wd_152 (List.forall_mem_cons.mpr ⟨wd_153, (List.forall_mem_cons.mpr ⟨wd_76, (List.forall_mem_cons.mpr ⟨wd_154, (fun _ h => absurd h List.not_mem_nil)⟩)⟩)⟩) rfl rfl hdg hst (fun v h' hq => by obtain ⟨rfl, rfl⟩ := hq; exact kk)
theorem clX8_33 {dj : Nat} {as : List Value} {i : Nat} {hr : hp_H} (ho : own = RX8) (hM : hp_Cn l yX4_init mX4_init dj zz 9 38 (.ref i :: as) h (fun v h2 => none = v ∧ hr = h2)) (hla : as.length = 0) (hd : dj + 1 ≤ d) (hrest : (st.map fun v => v.category).sum ≤ 8) (hdg : decode cc pc = .ok (.invokespecial 33, 3)) {st0 : List Value} (hst : st0 = as.reverse ++ .ref i :: st) (kk : hp_G l (own, cc, nL, rt, ini) X d zr Q zz k n (pc + 3) lv st hr) : hp_G l (own, cc, nL, rt, ini) X d zr Q zz (9 + k) (38 + n) pc lv st0 h := by
  subst ho
  exact hp_callIN (dj := dj) (k := k) (n := n) (y := yX4_init) (mj := mX4_init) (host := "WinnersLeave") hM hd (by decide) hrest (by rw [hla]; (try dsimp only); decide +kernel) wd_176 (List.forall_mem_cons.mpr ⟨wd_177, (List.forall_mem_cons.mpr ⟨wd_77, (List.forall_mem_cons.mpr ⟨wd_178, (fun _ h => absurd h List.not_mem_nil)⟩)⟩)⟩) rfl rfl hdg hst (fun v h' hq => by obtain ⟨rfl, rfl⟩ := hq; exact kk)
theorem clX8_40 {dj : Nat} {as : List Value} {i : Nat} {hr : hp_H} (ho : own = RX8) (hM : hp_Cn l yX1_init mX1_init dj zz 2 12 (.ref i :: as) h (fun v h2 => none = v ∧ hr = h2)) (hla : as.length = 0) (hd : dj + 1 ≤ d) (hrest : (st.map fun v => v.category).sum ≤ 8) (hdg : decode cc pc = .ok (.invokespecial 40, 3)) {st0 : List Value} (hst : st0 = as.reverse ++ .ref i :: st) (kk : hp_G l (own, cc, nL, rt, ini) X d zr Q zz k n (pc + 3) lv st hr) : hp_G l (own, cc, nL, rt, ini) X d zr Q zz (2 + k) (12 + n) pc lv st0 h := by
  subst ho
  exact hp_callIN (dj := dj) (k := k) (n := n) (y := yX1_init) (mj := mX1_init) (host := "WinnersLeave") hM hd (by decide) hrest (by rw [hla]; (try dsimp only); decide +kernel) wd_200 (List.forall_mem_cons.mpr ⟨wd_201, (List.forall_mem_cons.mpr ⟨wd_78, (List.forall_mem_cons.mpr ⟨wd_202, (fun _ h => absurd h List.not_mem_nil)⟩)⟩)⟩) rfl rfl hdg hst (fun v h' hq => by obtain ⟨rfl, rfl⟩ := hq; exact kk)
theorem clX8_47 {dj : Nat} {as : List Value} {i : Nat} {hr : hp_H} (ho : own = RX8) (hM : hp_Cn l yX3_init mX3_init dj zz 3 76 (.ref i :: as) h (fun v h2 => none = v ∧ hr = h2)) (hla : as.length = 0) (hd : dj + 1 ≤ d) (hrest : (st.map fun v => v.category).sum ≤ 8) (hdg : decode cc pc = .ok (.invokespecial 47, 3)) {st0 : List Value} (hst : st0 = as.reverse ++ .ref i :: st) (kk : hp_G l (own, cc, nL, rt, ini) X d zr Q zz k n (pc + 3) lv st hr) : hp_G l (own, cc, nL, rt, ini) X d zr Q zz (3 + k) (76 + n) pc lv st0 h := by
  subst ho
  exact hp_callIN (dj := dj) (k := k) (n := n) (y := yX3_init) (mj := mX3_init) (host := "WinnersLeave") hM hd (by decide) hrest (by rw [hla]; (try dsimp only); decide +kernel) wd_217 (List.forall_mem_cons.mpr ⟨wd_218, (List.forall_mem_cons.mpr ⟨wd_79, (List.forall_mem_cons.mpr ⟨wd_219, (fun _ h => absurd h List.not_mem_nil)⟩)⟩)⟩) rfl rfl hdg hst (fun v h' hq => by obtain ⟨rfl, rfl⟩ := hq; exact kk)
theorem clX8_52 {dj : Nat} {as : List Value} {i : Nat} {hr : hp_H} (ho : own = RX8) (hM : hp_Cn l yX5_init mX5_init dj zz 1 60 (.ref i :: as) h (fun v h2 => none = v ∧ hr = h2)) (hla : as.length = 0) (hd : dj + 1 ≤ d) (hrest : (st.map fun v => v.category).sum ≤ 8) (hdg : decode cc pc = .ok (.invokespecial 52, 3)) {st0 : List Value} (hst : st0 = as.reverse ++ .ref i :: st) (kk : hp_G l (own, cc, nL, rt, ini) X d zr Q zz k n (pc + 3) lv st hr) : hp_G l (own, cc, nL, rt, ini) X d zr Q zz (1 + k) (60 + n) pc lv st0 h := by
  subst ho
  exact hp_callIN (dj := dj) (k := k) (n := n) (y := yX5_init) (mj := mX5_init) (host := "WinnersLeave") hM hd (by decide) hrest (by rw [hla]; (try dsimp only); decide +kernel) wd_235 (List.forall_mem_cons.mpr ⟨wd_236, (List.forall_mem_cons.mpr ⟨wd_80, (List.forall_mem_cons.mpr ⟨wd_237, (fun _ h => absurd h List.not_mem_nil)⟩)⟩)⟩) rfl rfl hdg hst (fun v h' hq => by obtain ⟨rfl, rfl⟩ := hq; exact kk)
theorem clX5_32 {dj : Nat} {as : List Value} {i : Nat} {r : Int32} {hr : hp_H} (ho : own = RX5) (hM : hp_Cn l yX5_reaches mX5_reaches dj zz 0 0 (.ref i :: as) h (fun v h2 => some (.int r) = v ∧ hr = h2)) (hla : as.length = 2) (hd : dj + 1 ≤ d) (hrest : (st.map fun v => v.category).sum ≤ 8) {fs : List Value} (hov : hg_o h i 5 = some fs) (hdg : decode cc pc = .ok (.invokevirtual 32, 3)) {st0 : List Value} (hst : st0 = as.reverse ++ .ref i :: st) (kk : hp_G l (own, cc, nL, rt, ini) X d zr Q zz k n (pc + 3) lv (.int r :: st) hr) : hp_G l (own, cc, nL, rt, ini) X d zr Q zz k n pc lv st0 h := by
  subst ho
  have e9 := hp_callV (dj := dj) (k := k) (n := n) (y := yX5_reaches) (mj := mX5_reaches) hM hd (by decide) hrest (by rw [hla]; (try dsimp only); decide +kernel) wd_297 (List.forall_mem_cons.mpr ⟨wd_299, (List.forall_mem_cons.mpr ⟨wd_1, (List.forall_mem_cons.mpr ⟨wd_80, (List.forall_mem_cons.mpr ⟨wd_300, (fun _ h => absurd h List.not_mem_nil)⟩)⟩)⟩)⟩) hov rfl hdg hst (fun v h' hq => by obtain ⟨rfl, rfl⟩ := hq; exact kk)
  rw [Nat.zero_add, Nat.zero_add] at e9
  exact e9
theorem clX6_21 {dj : Nat} {as : List Value} {r : Int32} {hr : hp_H} (ho : own = RX6) (hM : hp_Cn l yX6_kindOf mX6_kindOf dj zz 0 0 as h (fun v h2 => some (.int r) = v ∧ hr = h2)) (hla : as.length = 1) (hd : dj + 1 ≤ d) (hrest : (st.map fun v => v.category).sum ≤ 8) (hdg : decode cc pc = .ok (.invokestatic 21, 3)) {st0 : List Value} (hst : st0 = as.reverse ++ st) (kk : hp_G l (own, cc, nL, rt, ini) X d zr Q zz k n (pc + 3) lv (.int r :: st) hr) : hp_G l (own, cc, nL, rt, ini) X d zr Q zz k n pc lv st0 h := by
  subst ho
  have e9 := hp_callS (dj := dj) (k := k) (n := n) (y := yX6_kindOf) (mj := mX6_kindOf) hM hd (by decide) hrest (by rw [hla]; (try dsimp only); decide +kernel) wd_315 (List.forall_mem_cons.mpr ⟨wd_316, (List.forall_mem_cons.mpr ⟨wd_82, (List.forall_mem_cons.mpr ⟨wd_317, (fun _ h => absurd h List.not_mem_nil)⟩)⟩)⟩) hdg hst (fun v h' hq => by obtain ⟨rfl, rfl⟩ := hq; exact kk)
  rw [Nat.zero_add, Nat.zero_add] at e9
  exact e9
theorem clX6_24 {dj : Nat} {as : List Value} {r : Int32} {hr : hp_H} (ho : own = RX6) (hM : hp_Cn l yX8_isDigit mX8_isDigit dj zz 0 0 as h (fun v h2 => some (.int r) = v ∧ hr = h2)) (hla : as.length = 1) (hd : dj + 1 ≤ d) (hrest : (st.map fun v => v.category).sum ≤ 8) (hdg : decode cc pc = .ok (.invokestatic 24, 3)) {st0 : List Value} (hst : st0 = as.reverse ++ st) (kk : hp_G l (own, cc, nL, rt, ini) X d zr Q zz k n (pc + 3) lv (.int r :: st) hr) : hp_G l (own, cc, nL, rt, ini) X d zr Q zz k n pc lv st0 h := by
  subst ho
  have e9 := hp_callSN (dj := dj) (k := k) (n := n) (y := yX8_isDigit) (mj := mX8_isDigit) (host := "WinnersLeave") hM hd (by decide) hrest (by rw [hla]; (try dsimp only); decide +kernel) wd_318 (List.forall_mem_cons.mpr ⟨wd_319, (List.forall_mem_cons.mpr ⟨wd_73, (List.forall_mem_cons.mpr ⟨wd_320, (fun _ h => absurd h List.not_mem_nil)⟩)⟩)⟩) hdg hst (fun v h' hq => by obtain ⟨rfl, rfl⟩ := hq; exact kk)
  rw [Nat.zero_add, Nat.zero_add] at e9
  exact e9
theorem clX6_9 {dj : Nat} {as : List Value} {i : Nat} {r : Int32} {hr : hp_H} (ho : own = RX6) (hM : hp_Cn l yX5_read mX5_read dj zz 0 0 (.ref i :: as) h (fun v h2 => some (.int r) = v ∧ hr = h2)) (hla : as.length = 1) (hd : dj + 1 ≤ d) (hrest : (st.map fun v => v.category).sum ≤ 8) {fs : List Value} (hov : hg_o h i 5 = some fs) (hdg : decode cc pc = .ok (.invokevirtual 9, 3)) {st0 : List Value} (hst : st0 = as.reverse ++ .ref i :: st) (kk : hp_G l (own, cc, nL, rt, ini) X d zr Q zz k n (pc + 3) lv (.int r :: st) hr) : hp_G l (own, cc, nL, rt, ini) X d zr Q zz k n pc lv st0 h := by
  subst ho
  have e9 := hp_callVN (dj := dj) (k := k) (n := n) (y := yX5_read) (mj := mX5_read) (host := "WinnersLeave") hM hd (by decide) hrest (by rw [hla]; (try dsimp only); decide +kernel) wd_308 (List.forall_mem_cons.mpr ⟨wd_310, (List.forall_mem_cons.mpr ⟨wd_3, (List.forall_mem_cons.mpr ⟨wd_80, (List.forall_mem_cons.mpr ⟨wd_311, (fun _ h => absurd h List.not_mem_nil)⟩)⟩)⟩)⟩) hov rfl hdg hst (fun v h' hq => by obtain ⟨rfl, rfl⟩ := hq; exact kk)
  rw [Nat.zero_add, Nat.zero_add] at e9
  exact e9
theorem clX6_15 {dj : Nat} {as : List Value} {r : Int32} {hr : hp_H} (ho : own = RX6) (hM : hp_Cn l yX6_goesOn mX6_goesOn dj zz 0 0 as h (fun v h2 => some (.int r) = v ∧ hr = h2)) (hla : as.length = 2) (hd : dj + 1 ≤ d) (hrest : (st.map fun v => v.category).sum ≤ 8) (hdg : decode cc pc = .ok (.invokestatic 15, 3)) {st0 : List Value} (hst : st0 = as.reverse ++ st) (kk : hp_G l (own, cc, nL, rt, ini) X d zr Q zz k n (pc + 3) lv (.int r :: st) hr) : hp_G l (own, cc, nL, rt, ini) X d zr Q zz k n pc lv st0 h := by
  subst ho
  have e9 := hp_callS (dj := dj) (k := k) (n := n) (y := yX6_goesOn) (mj := mX6_goesOn) hM hd (by decide) hrest (by rw [hla]; (try dsimp only); decide +kernel) wd_312 (List.forall_mem_cons.mpr ⟨wd_313, (List.forall_mem_cons.mpr ⟨wd_82, (List.forall_mem_cons.mpr ⟨wd_314, (fun _ h => absurd h List.not_mem_nil)⟩)⟩)⟩) hdg hst (fun v h' hq => by obtain ⟨rfl, rfl⟩ := hq; exact kk)
  rw [Nat.zero_add, Nat.zero_add] at e9
  exact e9
theorem clX6_44 {dj : Nat} {as : List Value} {i : Nat} {hr : hp_H} (ho : own = RX6) (hM : hp_Cn l yX2_become mX2_become dj zz 0 0 (.ref i :: as) h (fun v h2 => none = v ∧ hr = h2)) (hla : as.length = 4) (hd : dj + 1 ≤ d) (hrest : (st.map fun v => v.category).sum ≤ 8) {fs : List Value} (hov : hg_o h i 2 = some fs) (hdg : decode cc pc = .ok (.invokevirtual 44, 3)) {st0 : List Value} (hst : st0 = as.reverse ++ .ref i :: st) (kk : hp_G l (own, cc, nL, rt, ini) X d zr Q zz k n (pc + 3) lv st hr) : hp_G l (own, cc, nL, rt, ini) X d zr Q zz k n pc lv st0 h := by
  subst ho
  have e9 := hp_callVN (dj := dj) (k := k) (n := n) (y := yX2_become) (mj := mX2_become) (host := "WinnersLeave") hM hd (by decide) hrest (by rw [hla]; (try dsimp only); decide +kernel) wd_327 (List.forall_mem_cons.mpr ⟨wd_329, (List.forall_mem_cons.mpr ⟨wd_4, (List.forall_mem_cons.mpr ⟨wd_75, (List.forall_mem_cons.mpr ⟨wd_330, (fun _ h => absurd h List.not_mem_nil)⟩)⟩)⟩)⟩) hov rfl hdg hst (fun v h' hq => by obtain ⟨rfl, rfl⟩ := hq; exact kk)
  rw [Nat.zero_add, Nat.zero_add] at e9
  exact e9
theorem clX8_57 {dj : Nat} {as : List Value} {r : Int32} {hr : hp_H} (ho : own = RX8) (hM : hp_Cn l yX8_isSheet mX8_isSheet dj zz 0 0 as h (fun v h2 => some (.int r) = v ∧ hr = h2)) (hla : as.length = 1) (hd : dj + 1 ≤ d) (hrest : (st.map fun v => v.category).sum ≤ 8) (hdg : decode cc pc = .ok (.invokestatic 57, 3)) {st0 : List Value} (hst : st0 = as.reverse ++ st) (kk : hp_G l (own, cc, nL, rt, ini) X d zr Q zz k n (pc + 3) lv (.int r :: st) hr) : hp_G l (own, cc, nL, rt, ini) X d zr Q zz k n pc lv st0 h := by
  subst ho
  have e9 := hp_callS (dj := dj) (k := k) (n := n) (y := yX8_isSheet) (mj := mX8_isSheet) hM hd (by decide) hrest (by rw [hla]; (try dsimp only); decide +kernel) wd_287 (List.forall_mem_cons.mpr ⟨wd_288, (List.forall_mem_cons.mpr ⟨wd_73, (List.forall_mem_cons.mpr ⟨wd_289, (fun _ h => absurd h List.not_mem_nil)⟩)⟩)⟩) hdg hst (fun v h' hq => by obtain ⟨rfl, rfl⟩ := hq; exact kk)
  rw [Nat.zero_add, Nat.zero_add] at e9
  exact e9
theorem clX8_61 {dj : Nat} {as : List Value} {r : Int32} {hr : hp_H} (ho : own = RX8) (hM : hp_Cn l yX8_isLane mX8_isLane dj zz 0 0 as h (fun v h2 => some (.int r) = v ∧ hr = h2)) (hla : as.length = 1) (hd : dj + 1 ≤ d) (hrest : (st.map fun v => v.category).sum ≤ 8) (hdg : decode cc pc = .ok (.invokestatic 61, 3)) {st0 : List Value} (hst : st0 = as.reverse ++ st) (kk : hp_G l (own, cc, nL, rt, ini) X d zr Q zz k n (pc + 3) lv (.int r :: st) hr) : hp_G l (own, cc, nL, rt, ini) X d zr Q zz k n pc lv st0 h := by
  subst ho
  have e9 := hp_callS (dj := dj) (k := k) (n := n) (y := yX8_isLane) (mj := mX8_isLane) hM hd (by decide) hrest (by rw [hla]; (try dsimp only); decide +kernel) wd_290 (List.forall_mem_cons.mpr ⟨wd_291, (List.forall_mem_cons.mpr ⟨wd_73, (List.forall_mem_cons.mpr ⟨wd_292, (fun _ h => absurd h List.not_mem_nil)⟩)⟩)⟩) hdg hst (fun v h' hq => by obtain ⟨rfl, rfl⟩ := hq; exact kk)
  rw [Nat.zero_add, Nat.zero_add] at e9
  exact e9
theorem clX8_64 {dj : Nat} {as : List Value} {i : Nat} {r : Int32} {hr : hp_H} (ho : own = RX8) (hM : hp_Cn l yX5_faultOfRow mX5_faultOfRow dj zz 0 0 (.ref i :: as) h (fun v h2 => some (.int r) = v ∧ hr = h2)) (hla : as.length = 3) (hd : dj + 1 ≤ d) (hrest : (st.map fun v => v.category).sum ≤ 8) {fs : List Value} (hov : hg_o h i 5 = some fs) (hdg : decode cc pc = .ok (.invokevirtual 64, 3)) {st0 : List Value} (hst : st0 = as.reverse ++ .ref i :: st) (kk : hp_G l (own, cc, nL, rt, ini) X d zr Q zz k n (pc + 3) lv (.int r :: st) hr) : hp_G l (own, cc, nL, rt, ini) X d zr Q zz k n pc lv st0 h := by
  subst ho
  have e9 := hp_callVN (dj := dj) (k := k) (n := n) (y := yX5_faultOfRow) (mj := mX5_faultOfRow) (host := "WinnersLeave") hM hd (by decide) hrest (by rw [hla]; (try dsimp only); decide +kernel) wd_293 (List.forall_mem_cons.mpr ⟨wd_295, (List.forall_mem_cons.mpr ⟨wd_0, (List.forall_mem_cons.mpr ⟨wd_80, (List.forall_mem_cons.mpr ⟨wd_296, (fun _ h => absurd h List.not_mem_nil)⟩)⟩)⟩)⟩) hov rfl hdg hst (fun v h' hq => by obtain ⟨rfl, rfl⟩ := hq; exact kk)
  rw [Nat.zero_add, Nat.zero_add] at e9
  exact e9
theorem clX8_72 {dj : Nat} {as : List Value} {r : Int32} {hr : hp_H} (ho : own = RX8) (hM : hp_Cn l yX6_firstFault mX6_firstFault dj zz 0 0 as h (fun v h2 => some (.int r) = v ∧ hr = h2)) (hla : as.length = 3) (hd : dj + 1 ≤ d) (hrest : (st.map fun v => v.category).sum ≤ 8) (hdg : decode cc pc = .ok (.invokestatic 72, 3)) {st0 : List Value} (hst : st0 = as.reverse ++ st) (kk : hp_G l (own, cc, nL, rt, ini) X d zr Q zz k n (pc + 3) lv (.int r :: st) hr) : hp_G l (own, cc, nL, rt, ini) X d zr Q zz k n pc lv st0 h := by
  subst ho
  have e9 := hp_callSN (dj := dj) (k := k) (n := n) (y := yX6_firstFault) (mj := mX6_firstFault) (host := "WinnersLeave") hM hd (by decide) hrest (by rw [hla]; (try dsimp only); decide +kernel) wd_305 (List.forall_mem_cons.mpr ⟨wd_306, (List.forall_mem_cons.mpr ⟨wd_82, (List.forall_mem_cons.mpr ⟨wd_307, (fun _ h => absurd h List.not_mem_nil)⟩)⟩)⟩) hdg hst (fun v h' hq => by obtain ⟨rfl, rfl⟩ := hq; exact kk)
  rw [Nat.zero_add, Nat.zero_add] at e9
  exact e9
theorem clX8_78 {dj : Nat} {as : List Value} {hr : hp_H} (ho : own = RX8) (hM : hp_Cn l yX6_settle mX6_settle dj zz 0 0 as h (fun v h2 => none = v ∧ hr = h2)) (hla : as.length = 4) (hd : dj + 1 ≤ d) (hrest : (st.map fun v => v.category).sum ≤ 8) (hdg : decode cc pc = .ok (.invokestatic 78, 3)) {st0 : List Value} (hst : st0 = as.reverse ++ st) (kk : hp_G l (own, cc, nL, rt, ini) X d zr Q zz k n (pc + 3) lv st hr) : hp_G l (own, cc, nL, rt, ini) X d zr Q zz k n pc lv st0 h := by
  subst ho
  have e9 := hp_callSN (dj := dj) (k := k) (n := n) (y := yX6_settle) (mj := mX6_settle) (host := "WinnersLeave") hM hd (by decide) hrest (by rw [hla]; (try dsimp only); decide +kernel) wd_321 (List.forall_mem_cons.mpr ⟨wd_322, (List.forall_mem_cons.mpr ⟨wd_82, (List.forall_mem_cons.mpr ⟨wd_323, (fun _ h => absurd h List.not_mem_nil)⟩)⟩)⟩) hdg hst (fun v h' hq => by obtain ⟨rfl, rfl⟩ := hq; exact kk)
  rw [Nat.zero_add, Nat.zero_add] at e9
  exact e9
theorem clX8_88 {dj : Nat} {as : List Value} {i : Nat} {hr : hp_H} (ho : own = RX8) (hM : hp_Cn l yX0_forget mX0_forget dj zz 0 0 (.ref i :: as) h (fun v h2 => none = v ∧ hr = h2)) (hla : as.length = 1) (hd : dj + 1 ≤ d) (hrest : (st.map fun v => v.category).sum ≤ 8) {fs : List Value} (hov : hg_o h i 0 = some fs) (hdg : decode cc pc = .ok (.invokevirtual 88, 3)) {st0 : List Value} (hst : st0 = as.reverse ++ .ref i :: st) (kk : hp_G l (own, cc, nL, rt, ini) X d zr Q zz k n (pc + 3) lv st hr) : hp_G l (own, cc, nL, rt, ini) X d zr Q zz k n pc lv st0 h := by
  subst ho
  have e9 := hp_callVN (dj := dj) (k := k) (n := n) (y := yX0_forget) (mj := mX0_forget) (host := "WinnersLeave") hM hd (by decide) hrest (by rw [hla]; (try dsimp only); decide +kernel) wd_331 (List.forall_mem_cons.mpr ⟨wd_333, (List.forall_mem_cons.mpr ⟨wd_5, (List.forall_mem_cons.mpr ⟨wd_76, (List.forall_mem_cons.mpr ⟨wd_334, (fun _ h => absurd h List.not_mem_nil)⟩)⟩)⟩)⟩) hov rfl hdg hst (fun v h' hq => by obtain ⟨rfl, rfl⟩ := hq; exact kk)
  rw [Nat.zero_add, Nat.zero_add] at e9
  exact e9
theorem clX8_68 {dj : Nat} {as : List Value} {i : Nat} {r : Int32} {hr : hp_H} (ho : own = RX8) (hM : hp_Cn l yX8_faulted mX8_faulted dj zz 0 0 (.ref i :: as) h (fun v h2 => some (.int r) = v ∧ hr = h2)) (hla : as.length = 1) (hd : dj + 1 ≤ d) (hrest : (st.map fun v => v.category).sum ≤ 8) {fs : List Value} (hov : hg_o h i 7 = some fs) (hdg : decode cc pc = .ok (.invokevirtual 68, 3)) {st0 : List Value} (hst : st0 = as.reverse ++ .ref i :: st) (kk : hp_G l (own, cc, nL, rt, ini) X d zr Q zz k n (pc + 3) lv (.int r :: st) hr) : hp_G l (own, cc, nL, rt, ini) X d zr Q zz k n pc lv st0 h := by
  subst ho
  have e9 := hp_callV (dj := dj) (k := k) (n := n) (y := yX8_faulted) (mj := mX8_faulted) hM hd (by decide) hrest (by rw [hla]; (try dsimp only); decide +kernel) wd_301 (List.forall_mem_cons.mpr ⟨wd_303, (List.forall_mem_cons.mpr ⟨wd_2, (List.forall_mem_cons.mpr ⟨wd_73, (List.forall_mem_cons.mpr ⟨wd_304, (fun _ h => absurd h List.not_mem_nil)⟩)⟩)⟩)⟩) hov rfl hdg hst (fun v h' hq => by obtain ⟨rfl, rfl⟩ := hq; exact kk)
  rw [Nat.zero_add, Nat.zero_add] at e9
  exact e9
theorem clX9_67 {dj : Nat} {as : List Value} {r : Int32} {hr : hp_H} (ho : own = RX9) (hM : hp_Cn l yX9_within mX9_within dj zz 0 0 as h (fun v h2 => some (.int r) = v ∧ hr = h2)) (hla : as.length = 3) (hd : dj + 1 ≤ d) (hrest : (st.map fun v => v.category).sum ≤ 8) (hdg : decode cc pc = .ok (.invokestatic 67, 3)) {st0 : List Value} (hst : st0 = as.reverse ++ st) (kk : hp_G l (own, cc, nL, rt, ini) X d zr Q zz k n (pc + 3) lv (.int r :: st) hr) : hp_G l (own, cc, nL, rt, ini) X d zr Q zz k n pc lv st0 h := by
  subst ho
  have e9 := hp_callS (dj := dj) (k := k) (n := n) (y := yX9_within) (mj := mX9_within) hM hd (by decide) hrest (by rw [hla]; (try dsimp only); decide +kernel) wd_766 (List.forall_mem_cons.mpr ⟨wd_767, (List.forall_mem_cons.mpr ⟨wd_81, (List.forall_mem_cons.mpr ⟨wd_768, (fun _ h => absurd h List.not_mem_nil)⟩)⟩)⟩) hdg hst (fun v h' hq => by obtain ⟨rfl, rfl⟩ := hq; exact kk)
  rw [Nat.zero_add, Nat.zero_add] at e9
  exact e9
theorem clX9_117 {dj : Nat} {as : List Value} {i : Nat} {r : Int32} {hr : hp_H} (ho : own = RX9) (hM : hp_Cn l yX9_digit mX9_digit dj zz 0 0 (.ref i :: as) h (fun v h2 => some (.int r) = v ∧ hr = h2)) (hla : as.length = 1) (hd : dj + 1 ≤ d) (hrest : (st.map fun v => v.category).sum ≤ 8) {fs : List Value} (hov : hg_o h i 8 = some fs) (hdg : decode cc pc = .ok (.invokevirtual 117, 3)) {st0 : List Value} (hst : st0 = as.reverse ++ .ref i :: st) (kk : hp_G l (own, cc, nL, rt, ini) X d zr Q zz k n (pc + 3) lv (.int r :: st) hr) : hp_G l (own, cc, nL, rt, ini) X d zr Q zz k n pc lv st0 h := by
  subst ho
  have e9 := hp_callV (dj := dj) (k := k) (n := n) (y := yX9_digit) (mj := mX9_digit) hM hd (by decide) hrest (by rw [hla]; (try dsimp only); decide +kernel) wd_792 (List.forall_mem_cons.mpr ⟨wd_794, (List.forall_mem_cons.mpr ⟨wd_48, (List.forall_mem_cons.mpr ⟨wd_81, (List.forall_mem_cons.mpr ⟨wd_795, (fun _ h => absurd h List.not_mem_nil)⟩)⟩)⟩)⟩) hov rfl hdg hst (fun v h' hq => by obtain ⟨rfl, rfl⟩ := hq; exact kk)
  rw [Nat.zero_add, Nat.zero_add] at e9
  exact e9
theorem clX9_110 {dj : Nat} {as : List Value} {i : Nat} {r : Int32} {hr : hp_H} (ho : own = RX9) (hM : hp_Cn l yX9_isSign mX9_isSign dj zz 0 0 (.ref i :: as) h (fun v h2 => some (.int r) = v ∧ hr = h2)) (hla : as.length = 2) (hd : dj + 1 ≤ d) (hrest : (st.map fun v => v.category).sum ≤ 8) {fs : List Value} (hov : hg_o h i 8 = some fs) (hdg : decode cc pc = .ok (.invokevirtual 110, 3)) {st0 : List Value} (hst : st0 = as.reverse ++ .ref i :: st) (kk : hp_G l (own, cc, nL, rt, ini) X d zr Q zz k n (pc + 3) lv (.int r :: st) hr) : hp_G l (own, cc, nL, rt, ini) X d zr Q zz k n pc lv st0 h := by
  subst ho
  have e9 := hp_callV (dj := dj) (k := k) (n := n) (y := yX9_isSign) (mj := mX9_isSign) hM hd (by decide) hrest (by rw [hla]; (try dsimp only); decide +kernel) wd_784 (List.forall_mem_cons.mpr ⟨wd_786, (List.forall_mem_cons.mpr ⟨wd_46, (List.forall_mem_cons.mpr ⟨wd_81, (List.forall_mem_cons.mpr ⟨wd_787, (fun _ h => absurd h List.not_mem_nil)⟩)⟩)⟩)⟩) hov rfl hdg hst (fun v h' hq => by obtain ⟨rfl, rfl⟩ := hq; exact kk)
  rw [Nat.zero_add, Nat.zero_add] at e9
  exact e9
theorem clX9_114 {dj : Nat} {as : List Value} {i : Nat} {r : Int32} {hr : hp_H} (ho : own = RX9) (hM : hp_Cn l yX9_readPerson mX9_readPerson dj zz 0 0 (.ref i :: as) h (fun v h2 => some (.int r) = v ∧ hr = h2)) (hla : as.length = 1) (hd : dj + 1 ≤ d) (hrest : (st.map fun v => v.category).sum ≤ 8) {fs : List Value} (hov : hg_o h i 8 = some fs) (hdg : decode cc pc = .ok (.invokevirtual 114, 3)) {st0 : List Value} (hst : st0 = as.reverse ++ .ref i :: st) (kk : hp_G l (own, cc, nL, rt, ini) X d zr Q zz k n (pc + 3) lv (.int r :: st) hr) : hp_G l (own, cc, nL, rt, ini) X d zr Q zz k n pc lv st0 h := by
  subst ho
  have e9 := hp_callV (dj := dj) (k := k) (n := n) (y := yX9_readPerson) (mj := mX9_readPerson) hM hd (by decide) hrest (by rw [hla]; (try dsimp only); decide +kernel) wd_788 (List.forall_mem_cons.mpr ⟨wd_790, (List.forall_mem_cons.mpr ⟨wd_47, (List.forall_mem_cons.mpr ⟨wd_81, (List.forall_mem_cons.mpr ⟨wd_791, (fun _ h => absurd h List.not_mem_nil)⟩)⟩)⟩)⟩) hov rfl hdg hst (fun v h' hq => by obtain ⟨rfl, rfl⟩ := hq; exact kk)
  rw [Nat.zero_add, Nat.zero_add] at e9
  exact e9
theorem clX9_81 {dj : Nat} {as : List Value} {r : Int32} {hr : hp_H} (ho : own = RX9) (hM : hp_Cn l yX9_isSheet mX9_isSheet dj zz 0 0 as h (fun v h2 => some (.int r) = v ∧ hr = h2)) (hla : as.length = 1) (hd : dj + 1 ≤ d) (hrest : (st.map fun v => v.category).sum ≤ 8) (hdg : decode cc pc = .ok (.invokestatic 81, 3)) {st0 : List Value} (hst : st0 = as.reverse ++ st) (kk : hp_G l (own, cc, nL, rt, ini) X d zr Q zz k n (pc + 3) lv (.int r :: st) hr) : hp_G l (own, cc, nL, rt, ini) X d zr Q zz k n pc lv st0 h := by
  subst ho
  have e9 := hp_callS (dj := dj) (k := k) (n := n) (y := yX9_isSheet) (mj := mX9_isSheet) hM hd (by decide) hrest (by rw [hla]; (try dsimp only); decide +kernel) wd_763 (List.forall_mem_cons.mpr ⟨wd_764, (List.forall_mem_cons.mpr ⟨wd_81, (List.forall_mem_cons.mpr ⟨wd_765, (fun _ h => absurd h List.not_mem_nil)⟩)⟩)⟩) hdg hst (fun v h' hq => by obtain ⟨rfl, rfl⟩ := hq; exact kk)
  rw [Nat.zero_add, Nat.zero_add] at e9
  exact e9
theorem clX9_84 {dj : Nat} {as : List Value} {r : Int32} {hr : hp_H} (ho : own = RX9) (hM : hp_Cn l yX9_isSort mX9_isSort dj zz 0 0 as h (fun v h2 => some (.int r) = v ∧ hr = h2)) (hla : as.length = 1) (hd : dj + 1 ≤ d) (hrest : (st.map fun v => v.category).sum ≤ 8) (hdg : decode cc pc = .ok (.invokestatic 84, 3)) {st0 : List Value} (hst : st0 = as.reverse ++ st) (kk : hp_G l (own, cc, nL, rt, ini) X d zr Q zz k n (pc + 3) lv (.int r :: st) hr) : hp_G l (own, cc, nL, rt, ini) X d zr Q zz k n pc lv st0 h := by
  subst ho
  have e9 := hp_callS (dj := dj) (k := k) (n := n) (y := yX9_isSort) (mj := mX9_isSort) hM hd (by decide) hrest (by rw [hla]; (try dsimp only); decide +kernel) wd_769 (List.forall_mem_cons.mpr ⟨wd_770, (List.forall_mem_cons.mpr ⟨wd_81, (List.forall_mem_cons.mpr ⟨wd_771, (fun _ h => absurd h List.not_mem_nil)⟩)⟩)⟩) hdg hst (fun v h' hq => by obtain ⟨rfl, rfl⟩ := hq; exact kk)
  rw [Nat.zero_add, Nat.zero_add] at e9
  exact e9
theorem clX9_87 {dj : Nat} {as : List Value} {i : Nat} {r : Int32} {hr : hp_H} (ho : own = RX9) (hM : hp_Cn l yX9_against mX9_against dj zz 0 0 (.ref i :: as) h (fun v h2 => some (.int r) = v ∧ hr = h2)) (hla : as.length = 4) (hd : dj + 1 ≤ d) (hrest : (st.map fun v => v.category).sum ≤ 8) {fs : List Value} (hov : hg_o h i 8 = some fs) (hdg : decode cc pc = .ok (.invokevirtual 87, 3)) {st0 : List Value} (hst : st0 = as.reverse ++ .ref i :: st) (kk : hp_G l (own, cc, nL, rt, ini) X d zr Q zz k n (pc + 3) lv (.int r :: st) hr) : hp_G l (own, cc, nL, rt, ini) X d zr Q zz k n pc lv st0 h := by
  subst ho
  have e9 := hp_callV (dj := dj) (k := k) (n := n) (y := yX9_against) (mj := mX9_against) hM hd (by decide) hrest (by rw [hla]; (try dsimp only); decide +kernel) wd_772 (List.forall_mem_cons.mpr ⟨wd_774, (List.forall_mem_cons.mpr ⟨wd_43, (List.forall_mem_cons.mpr ⟨wd_81, (List.forall_mem_cons.mpr ⟨wd_775, (fun _ h => absurd h List.not_mem_nil)⟩)⟩)⟩)⟩) hov rfl hdg hst (fun v h' hq => by obtain ⟨rfl, rfl⟩ := hq; exact kk)
  rw [Nat.zero_add, Nat.zero_add] at e9
  exact e9
theorem clX9_95 {dj : Nat} {as : List Value} {i : Nat} {r : Int32} {hr : hp_H} (ho : own = RX9) (hM : hp_Cn l yX9_readHarbour mX9_readHarbour dj zz 0 0 (.ref i :: as) h (fun v h2 => some (.int r) = v ∧ hr = h2)) (hla : as.length = 1) (hd : dj + 1 ≤ d) (hrest : (st.map fun v => v.category).sum ≤ 8) {fs : List Value} (hov : hg_o h i 8 = some fs) (hdg : decode cc pc = .ok (.invokevirtual 95, 3)) {st0 : List Value} (hst : st0 = as.reverse ++ .ref i :: st) (kk : hp_G l (own, cc, nL, rt, ini) X d zr Q zz k n (pc + 3) lv (.int r :: st) hr) : hp_G l (own, cc, nL, rt, ini) X d zr Q zz k n pc lv st0 h := by
  subst ho
  have e9 := hp_callV (dj := dj) (k := k) (n := n) (y := yX9_readHarbour) (mj := mX9_readHarbour) hM hd (by decide) hrest (by rw [hla]; (try dsimp only); decide +kernel) wd_780 (List.forall_mem_cons.mpr ⟨wd_782, (List.forall_mem_cons.mpr ⟨wd_45, (List.forall_mem_cons.mpr ⟨wd_81, (List.forall_mem_cons.mpr ⟨wd_783, (fun _ h => absurd h List.not_mem_nil)⟩)⟩)⟩)⟩) hov rfl hdg hst (fun v h' hq => by obtain ⟨rfl, rfl⟩ := hq; exact kk)
  rw [Nat.zero_add, Nat.zero_add] at e9
  exact e9
theorem clX9_91 {dj : Nat} {as : List Value} {i : Nat} {r : Int32} {hr : hp_H} (ho : own = RX9) (hM : hp_Cn l yX9_fails mX9_fails dj zz 0 0 (.ref i :: as) h (fun v h2 => some (.int r) = v ∧ hr = h2)) (hla : as.length = 1) (hd : dj + 1 ≤ d) (hrest : (st.map fun v => v.category).sum ≤ 8) {fs : List Value} (hov : hg_o h i 8 = some fs) (hdg : decode cc pc = .ok (.invokevirtual 91, 3)) {st0 : List Value} (hst : st0 = as.reverse ++ .ref i :: st) (kk : hp_G l (own, cc, nL, rt, ini) X d zr Q zz k n (pc + 3) lv (.int r :: st) hr) : hp_G l (own, cc, nL, rt, ini) X d zr Q zz k n pc lv st0 h := by
  subst ho
  have e9 := hp_callV (dj := dj) (k := k) (n := n) (y := yX9_fails) (mj := mX9_fails) hM hd (by decide) hrest (by rw [hla]; (try dsimp only); decide +kernel) wd_776 (List.forall_mem_cons.mpr ⟨wd_778, (List.forall_mem_cons.mpr ⟨wd_44, (List.forall_mem_cons.mpr ⟨wd_81, (List.forall_mem_cons.mpr ⟨wd_779, (fun _ h => absurd h List.not_mem_nil)⟩)⟩)⟩)⟩) hov rfl hdg hst (fun v h' hq => by obtain ⟨rfl, rfl⟩ := hq; exact kk)
  rw [Nat.zero_add, Nat.zero_add] at e9
  exact e9
theorem clX2_21 {dj : Nat} {as : List Value} {i : Nat} {r : Int32} {hr : hp_H} (ho : own = RX2) (hM : hp_Cn l yX2_best mX2_best dj zz 0 0 (.ref i :: as) h (fun v h2 => some (.int r) = v ∧ hr = h2)) (hla : as.length = 0) (hd : dj + 1 ≤ d) (hrest : (st.map fun v => v.category).sum ≤ 8) {fs : List Value} (hov : hg_o h i 2 = some fs) (hdg : decode cc pc = .ok (.invokevirtual 21, 3)) {st0 : List Value} (hst : st0 = as.reverse ++ .ref i :: st) (kk : hp_G l (own, cc, nL, rt, ini) X d zr Q zz k n (pc + 3) lv (.int r :: st) hr) : hp_G l (own, cc, nL, rt, ini) X d zr Q zz k n pc lv st0 h := by
  subst ho
  have e9 := hp_callV (dj := dj) (k := k) (n := n) (y := yX2_best) (mj := mX2_best) hM hd (by decide) hrest (by rw [hla]; (try dsimp only); decide +kernel) wd_358 (List.forall_mem_cons.mpr ⟨wd_352, (List.forall_mem_cons.mpr ⟨wd_8, (List.forall_mem_cons.mpr ⟨wd_75, (List.forall_mem_cons.mpr ⟨wd_353, (fun _ h => absurd h List.not_mem_nil)⟩)⟩)⟩)⟩) hov rfl hdg hst (fun v h' hq => by obtain ⟨rfl, rfl⟩ := hq; exact kk)
  rw [Nat.zero_add, Nat.zero_add] at e9
  exact e9
theorem clX8_93 {dj : Nat} {as : List Value} {i : Nat} {r : Int32} {hr : hp_H} (ho : own = RX8) (hM : hp_Cn l yX7_has mX7_has dj zz 0 0 (.ref i :: as) h (fun v h2 => some (.int r) = v ∧ hr = h2)) (hla : as.length = 1) (hd : dj + 1 ≤ d) (hrest : (st.map fun v => v.category).sum ≤ 8) {fs : List Value} (hov : hg_o h i 6 = some fs) (hdg : decode cc pc = .ok (.invokevirtual 93, 3)) {st0 : List Value} (hst : st0 = as.reverse ++ .ref i :: st) (kk : hp_G l (own, cc, nL, rt, ini) X d zr Q zz k n (pc + 3) lv (.int r :: st) hr) : hp_G l (own, cc, nL, rt, ini) X d zr Q zz k n pc lv st0 h := by
  subst ho
  have e9 := hp_callVN (dj := dj) (k := k) (n := n) (y := yX7_has) (mj := mX7_has) (host := "WinnersLeave") hM hd (by decide) hrest (by rw [hla]; (try dsimp only); decide +kernel) wd_342 (List.forall_mem_cons.mpr ⟨wd_344, (List.forall_mem_cons.mpr ⟨wd_6, (List.forall_mem_cons.mpr ⟨wd_74, (List.forall_mem_cons.mpr ⟨wd_345, (fun _ h => absurd h List.not_mem_nil)⟩)⟩)⟩)⟩) hov rfl hdg hst (fun v h' hq => by obtain ⟨rfl, rfl⟩ := hq; exact kk)
  rw [Nat.zero_add, Nat.zero_add] at e9
  exact e9
theorem clX8_100 {dj : Nat} {as : List Value} {i : Nat} {r : Int32} {hr : hp_H} (ho : own = RX8) (hM : hp_Cn l yX2_trait mX2_trait dj zz 0 0 (.ref i :: as) h (fun v h2 => some (.int r) = v ∧ hr = h2)) (hla : as.length = 1) (hd : dj + 1 ≤ d) (hrest : (st.map fun v => v.category).sum ≤ 8) {fs : List Value} (hov : hg_o h i 2 = some fs) (hdg : decode cc pc = .ok (.invokevirtual 100, 3)) {st0 : List Value} (hst : st0 = as.reverse ++ .ref i :: st) (kk : hp_G l (own, cc, nL, rt, ini) X d zr Q zz k n (pc + 3) lv (.int r :: st) hr) : hp_G l (own, cc, nL, rt, ini) X d zr Q zz k n pc lv st0 h := by
  subst ho
  have e9 := hp_callVN (dj := dj) (k := k) (n := n) (y := yX2_trait) (mj := mX2_trait) (host := "WinnersLeave") hM hd (by decide) hrest (by rw [hla]; (try dsimp only); decide +kernel) wd_346 (List.forall_mem_cons.mpr ⟨wd_348, (List.forall_mem_cons.mpr ⟨wd_7, (List.forall_mem_cons.mpr ⟨wd_75, (List.forall_mem_cons.mpr ⟨wd_349, (fun _ h => absurd h List.not_mem_nil)⟩)⟩)⟩)⟩) hov rfl hdg hst (fun v h' hq => by obtain ⟨rfl, rfl⟩ := hq; exact kk)
  rw [Nat.zero_add, Nat.zero_add] at e9
  exact e9
theorem clX8_105 {dj : Nat} {as : List Value} {i : Nat} {r : Int32} {hr : hp_H} (ho : own = RX8) (hM : hp_Cn l yX2_best mX2_best dj zz 0 0 (.ref i :: as) h (fun v h2 => some (.int r) = v ∧ hr = h2)) (hla : as.length = 0) (hd : dj + 1 ≤ d) (hrest : (st.map fun v => v.category).sum ≤ 8) {fs : List Value} (hov : hg_o h i 2 = some fs) (hdg : decode cc pc = .ok (.invokevirtual 105, 3)) {st0 : List Value} (hst : st0 = as.reverse ++ .ref i :: st) (kk : hp_G l (own, cc, nL, rt, ini) X d zr Q zz k n (pc + 3) lv (.int r :: st) hr) : hp_G l (own, cc, nL, rt, ini) X d zr Q zz k n pc lv st0 h := by
  subst ho
  have e9 := hp_callVN (dj := dj) (k := k) (n := n) (y := yX2_best) (mj := mX2_best) (host := "WinnersLeave") hM hd (by decide) hrest (by rw [hla]; (try dsimp only); decide +kernel) wd_350 (List.forall_mem_cons.mpr ⟨wd_352, (List.forall_mem_cons.mpr ⟨wd_8, (List.forall_mem_cons.mpr ⟨wd_75, (List.forall_mem_cons.mpr ⟨wd_353, (fun _ h => absurd h List.not_mem_nil)⟩)⟩)⟩)⟩) hov rfl hdg hst (fun v h' hq => by obtain ⟨rfl, rfl⟩ := hq; exact kk)
  rw [Nat.zero_add, Nat.zero_add] at e9
  exact e9
theorem clX8_109 {dj : Nat} {as : List Value} {i : Nat} {r : Int32} {hr : hp_H} (ho : own = RX8) (hM : hp_Cn l yX2_worst mX2_worst dj zz 0 0 (.ref i :: as) h (fun v h2 => some (.int r) = v ∧ hr = h2)) (hla : as.length = 0) (hd : dj + 1 ≤ d) (hrest : (st.map fun v => v.category).sum ≤ 8) {fs : List Value} (hov : hg_o h i 2 = some fs) (hdg : decode cc pc = .ok (.invokevirtual 109, 3)) {st0 : List Value} (hst : st0 = as.reverse ++ .ref i :: st) (kk : hp_G l (own, cc, nL, rt, ini) X d zr Q zz k n (pc + 3) lv (.int r :: st) hr) : hp_G l (own, cc, nL, rt, ini) X d zr Q zz k n pc lv st0 h := by
  subst ho
  have e9 := hp_callVN (dj := dj) (k := k) (n := n) (y := yX2_worst) (mj := mX2_worst) (host := "WinnersLeave") hM hd (by decide) hrest (by rw [hla]; (try dsimp only); decide +kernel) wd_354 (List.forall_mem_cons.mpr ⟨wd_356, (List.forall_mem_cons.mpr ⟨wd_9, (List.forall_mem_cons.mpr ⟨wd_75, (List.forall_mem_cons.mpr ⟨wd_357, (fun _ h => absurd h List.not_mem_nil)⟩)⟩)⟩)⟩) hov rfl hdg hst (fun v h' hq => by obtain ⟨rfl, rfl⟩ := hq; exact kk)
  rw [Nat.zero_add, Nat.zero_add] at e9
  exact e9
theorem clX9_120 {dj : Nat} {as : List Value} {i : Nat} {r : Int32} {hr : hp_H} (ho : own = RX9) (hM : hp_Cn l yX9_bestOf mX9_bestOf dj zz 0 0 (.ref i :: as) h (fun v h2 => some (.int r) = v ∧ hr = h2)) (hla : as.length = 1) (hd : dj + 1 ≤ d) (hrest : (st.map fun v => v.category).sum ≤ 8) {fs : List Value} (hov : hg_o h i 8 = some fs) (hdg : decode cc pc = .ok (.invokevirtual 120, 3)) {st0 : List Value} (hst : st0 = as.reverse ++ .ref i :: st) (kk : hp_G l (own, cc, nL, rt, ini) X d zr Q zz k n (pc + 3) lv (.int r :: st) hr) : hp_G l (own, cc, nL, rt, ini) X d zr Q zz k n pc lv st0 h := by
  subst ho
  have e9 := hp_callV (dj := dj) (k := k) (n := n) (y := yX9_bestOf) (mj := mX9_bestOf) hM hd (by decide) hrest (by rw [hla]; (try dsimp only); decide +kernel) wd_804 (List.forall_mem_cons.mpr ⟨wd_806, (List.forall_mem_cons.mpr ⟨wd_50, (List.forall_mem_cons.mpr ⟨wd_81, (List.forall_mem_cons.mpr ⟨wd_807, (fun _ h => absurd h List.not_mem_nil)⟩)⟩)⟩)⟩) hov rfl hdg hst (fun v h' hq => by obtain ⟨rfl, rfl⟩ := hq; exact kk)
  rw [Nat.zero_add, Nat.zero_add] at e9
  exact e9
theorem clX9_74 {dj : Nat} {as : List Value} {i : Nat} {r : Int32} {hr : hp_H} (ho : own = RX9) (hM : hp_Cn l yX9_isPerson mX9_isPerson dj zz 0 0 (.ref i :: as) h (fun v h2 => some (.int r) = v ∧ hr = h2)) (hla : as.length = 1) (hd : dj + 1 ≤ d) (hrest : (st.map fun v => v.category).sum ≤ 8) {fs : List Value} (hov : hg_o h i 8 = some fs) (hdg : decode cc pc = .ok (.invokevirtual 74, 3)) {st0 : List Value} (hst : st0 = as.reverse ++ .ref i :: st) (kk : hp_G l (own, cc, nL, rt, ini) X d zr Q zz k n (pc + 3) lv (.int r :: st) hr) : hp_G l (own, cc, nL, rt, ini) X d zr Q zz k n pc lv st0 h := by
  subst ho
  have e9 := hp_callV (dj := dj) (k := k) (n := n) (y := yX9_isPerson) (mj := mX9_isPerson) hM hd (by decide) hrest (by rw [hla]; (try dsimp only); decide +kernel) wd_800 (List.forall_mem_cons.mpr ⟨wd_802, (List.forall_mem_cons.mpr ⟨wd_49, (List.forall_mem_cons.mpr ⟨wd_81, (List.forall_mem_cons.mpr ⟨wd_803, (fun _ h => absurd h List.not_mem_nil)⟩)⟩)⟩)⟩) hov rfl hdg hst (fun v h' hq => by obtain ⟨rfl, rfl⟩ := hq; exact kk)
  rw [Nat.zero_add, Nat.zero_add] at e9
  exact e9
theorem clX9_123 {dj : Nat} {as : List Value} {i : Nat} {r : Int32} {hr : hp_H} (ho : own = RX9) (hM : hp_Cn l yX9_worstOf mX9_worstOf dj zz 0 0 (.ref i :: as) h (fun v h2 => some (.int r) = v ∧ hr = h2)) (hla : as.length = 1) (hd : dj + 1 ≤ d) (hrest : (st.map fun v => v.category).sum ≤ 8) {fs : List Value} (hov : hg_o h i 8 = some fs) (hdg : decode cc pc = .ok (.invokevirtual 123, 3)) {st0 : List Value} (hst : st0 = as.reverse ++ .ref i :: st) (kk : hp_G l (own, cc, nL, rt, ini) X d zr Q zz k n (pc + 3) lv (.int r :: st) hr) : hp_G l (own, cc, nL, rt, ini) X d zr Q zz k n pc lv st0 h := by
  subst ho
  have e9 := hp_callV (dj := dj) (k := k) (n := n) (y := yX9_worstOf) (mj := mX9_worstOf) hM hd (by decide) hrest (by rw [hla]; (try dsimp only); decide +kernel) wd_808 (List.forall_mem_cons.mpr ⟨wd_810, (List.forall_mem_cons.mpr ⟨wd_51, (List.forall_mem_cons.mpr ⟨wd_81, (List.forall_mem_cons.mpr ⟨wd_811, (fun _ h => absurd h List.not_mem_nil)⟩)⟩)⟩)⟩) hov rfl hdg hst (fun v h' hq => by obtain ⟨rfl, rfl⟩ := hq; exact kk)
  rw [Nat.zero_add, Nat.zero_add] at e9
  exact e9
theorem clX8_260 {dj : Nat} {as : List Value} {r : Int32} {hr : hp_H} (ho : own = RX8) (hM : hp_Cn l yX8_isDigit mX8_isDigit dj zz 0 0 as h (fun v h2 => some (.int r) = v ∧ hr = h2)) (hla : as.length = 1) (hd : dj + 1 ≤ d) (hrest : (st.map fun v => v.category).sum ≤ 8) (hdg : decode cc pc = .ok (.invokestatic 260, 3)) {st0 : List Value} (hst : st0 = as.reverse ++ st) (kk : hp_G l (own, cc, nL, rt, ini) X d zr Q zz k n (pc + 3) lv (.int r :: st) hr) : hp_G l (own, cc, nL, rt, ini) X d zr Q zz k n pc lv st0 h := by
  subst ho
  have e9 := hp_callS (dj := dj) (k := k) (n := n) (y := yX8_isDigit) (mj := mX8_isDigit) hM hd (by decide) hrest (by rw [hla]; (try dsimp only); decide +kernel) wd_368 (List.forall_mem_cons.mpr ⟨wd_319, (List.forall_mem_cons.mpr ⟨wd_73, (List.forall_mem_cons.mpr ⟨wd_320, (fun _ h => absurd h List.not_mem_nil)⟩)⟩)⟩) hdg hst (fun v h' hq => by obtain ⟨rfl, rfl⟩ := hq; exact kk)
  rw [Nat.zero_add, Nat.zero_add] at e9
  exact e9
theorem clX8_263 {dj : Nat} {as : List Value} {i : Nat} {hr : hp_H} (ho : own = RX8) (hM : hp_Cn l yX2_setTrait mX2_setTrait dj zz 0 0 (.ref i :: as) h (fun v h2 => none = v ∧ hr = h2)) (hla : as.length = 2) (hd : dj + 1 ≤ d) (hrest : (st.map fun v => v.category).sum ≤ 8) {fs : List Value} (hov : hg_o h i 2 = some fs) (hdg : decode cc pc = .ok (.invokevirtual 263, 3)) {st0 : List Value} (hst : st0 = as.reverse ++ .ref i :: st) (kk : hp_G l (own, cc, nL, rt, ini) X d zr Q zz k n (pc + 3) lv st hr) : hp_G l (own, cc, nL, rt, ini) X d zr Q zz k n pc lv st0 h := by
  subst ho
  have e9 := hp_callVN (dj := dj) (k := k) (n := n) (y := yX2_setTrait) (mj := mX2_setTrait) (host := "WinnersLeave") hM hd (by decide) hrest (by rw [hla]; (try dsimp only); decide +kernel) wd_369 (List.forall_mem_cons.mpr ⟨wd_371, (List.forall_mem_cons.mpr ⟨wd_11, (List.forall_mem_cons.mpr ⟨wd_75, (List.forall_mem_cons.mpr ⟨wd_372, (fun _ h => absurd h List.not_mem_nil)⟩)⟩)⟩)⟩) hov rfl hdg hst (fun v h' hq => by obtain ⟨rfl, rfl⟩ := hq; exact kk)
  rw [Nat.zero_add, Nat.zero_add] at e9
  exact e9
theorem clX8_116 {dj : Nat} {as : List Value} {i : Nat} {r : Int32} {hr : hp_H} (ho : own = RX8) (hM : hp_Cn l yX8_changed mX8_changed dj zz 0 0 (.ref i :: as) h (fun v h2 => some (.int r) = v ∧ hr = h2)) (hla : as.length = 3) (hd : dj + 1 ≤ d) (hrest : (st.map fun v => v.category).sum ≤ 8) {fs : List Value} (hov : hg_o h i 7 = some fs) (hdg : decode cc pc = .ok (.invokevirtual 116, 3)) {st0 : List Value} (hst : st0 = as.reverse ++ .ref i :: st) (kk : hp_G l (own, cc, nL, rt, ini) X d zr Q zz k n (pc + 3) lv (.int r :: st) hr) : hp_G l (own, cc, nL, rt, ini) X d zr Q zz k n pc lv st0 h := by
  subst ho
  have e9 := hp_callV (dj := dj) (k := k) (n := n) (y := yX8_changed) (mj := mX8_changed) hM hd (by decide) hrest (by rw [hla]; (try dsimp only); decide +kernel) wd_364 (List.forall_mem_cons.mpr ⟨wd_366, (List.forall_mem_cons.mpr ⟨wd_10, (List.forall_mem_cons.mpr ⟨wd_73, (List.forall_mem_cons.mpr ⟨wd_367, (fun _ h => absurd h List.not_mem_nil)⟩)⟩)⟩)⟩) hov rfl hdg hst (fun v h' hq => by obtain ⟨rfl, rfl⟩ := hq; exact kk)
  rw [Nat.zero_add, Nat.zero_add] at e9
  exact e9
theorem clX7_22 {dj : Nat} {as : List Value} {i : Nat} {r : Int32} {hr : hp_H} (ho : own = RX7) (hM : hp_Cn l yX7_has mX7_has dj zz 0 0 (.ref i :: as) h (fun v h2 => some (.int r) = v ∧ hr = h2)) (hla : as.length = 1) (hd : dj + 1 ≤ d) (hrest : (st.map fun v => v.category).sum ≤ 8) {fs : List Value} (hov : hg_o h i 6 = some fs) (hdg : decode cc pc = .ok (.invokevirtual 22, 3)) {st0 : List Value} (hst : st0 = as.reverse ++ .ref i :: st) (kk : hp_G l (own, cc, nL, rt, ini) X d zr Q zz k n (pc + 3) lv (.int r :: st) hr) : hp_G l (own, cc, nL, rt, ini) X d zr Q zz k n pc lv st0 h := by
  subst ho
  have e9 := hp_callV (dj := dj) (k := k) (n := n) (y := yX7_has) (mj := mX7_has) hM hd (by decide) hrest (by rw [hla]; (try dsimp only); decide +kernel) wd_385 (List.forall_mem_cons.mpr ⟨wd_344, (List.forall_mem_cons.mpr ⟨wd_6, (List.forall_mem_cons.mpr ⟨wd_74, (List.forall_mem_cons.mpr ⟨wd_345, (fun _ h => absurd h List.not_mem_nil)⟩)⟩)⟩)⟩) hov rfl hdg hst (fun v h' hq => by obtain ⟨rfl, rfl⟩ := hq; exact kk)
  rw [Nat.zero_add, Nat.zero_add] at e9
  exact e9
theorem clX2_31 {dj : Nat} {as : List Value} {i : Nat} {r : Int32} {hr : hp_H} (ho : own = RX2) (hM : hp_Cn l yX2_worst mX2_worst dj zz 0 0 (.ref i :: as) h (fun v h2 => some (.int r) = v ∧ hr = h2)) (hla : as.length = 0) (hd : dj + 1 ≤ d) (hrest : (st.map fun v => v.category).sum ≤ 8) {fs : List Value} (hov : hg_o h i 2 = some fs) (hdg : decode cc pc = .ok (.invokevirtual 31, 3)) {st0 : List Value} (hst : st0 = as.reverse ++ .ref i :: st) (kk : hp_G l (own, cc, nL, rt, ini) X d zr Q zz k n (pc + 3) lv (.int r :: st) hr) : hp_G l (own, cc, nL, rt, ini) X d zr Q zz k n pc lv st0 h := by
  subst ho
  have e9 := hp_callV (dj := dj) (k := k) (n := n) (y := yX2_worst) (mj := mX2_worst) hM hd (by decide) hrest (by rw [hla]; (try dsimp only); decide +kernel) wd_390 (List.forall_mem_cons.mpr ⟨wd_356, (List.forall_mem_cons.mpr ⟨wd_9, (List.forall_mem_cons.mpr ⟨wd_75, (List.forall_mem_cons.mpr ⟨wd_357, (fun _ h => absurd h List.not_mem_nil)⟩)⟩)⟩)⟩) hov rfl hdg hst (fun v h' hq => by obtain ⟨rfl, rfl⟩ := hq; exact kk)
  rw [Nat.zero_add, Nat.zero_add] at e9
  exact e9
theorem clX8_119 {dj : Nat} {as : List Value} {i : Nat} {r : Int32} {hr : hp_H} (ho : own = RX8) (hM : hp_Cn l yX7_hasTwo mX7_hasTwo dj zz 0 0 (.ref i :: as) h (fun v h2 => some (.int r) = v ∧ hr = h2)) (hla : as.length = 2) (hd : dj + 1 ≤ d) (hrest : (st.map fun v => v.category).sum ≤ 8) {fs : List Value} (hov : hg_o h i 6 = some fs) (hdg : decode cc pc = .ok (.invokevirtual 119, 3)) {st0 : List Value} (hst : st0 = as.reverse ++ .ref i :: st) (kk : hp_G l (own, cc, nL, rt, ini) X d zr Q zz k n (pc + 3) lv (.int r :: st) hr) : hp_G l (own, cc, nL, rt, ini) X d zr Q zz k n pc lv st0 h := by
  subst ho
  have e9 := hp_callVN (dj := dj) (k := k) (n := n) (y := yX7_hasTwo) (mj := mX7_hasTwo) (host := "WinnersLeave") hM hd (by decide) hrest (by rw [hla]; (try dsimp only); decide +kernel) wd_381 (List.forall_mem_cons.mpr ⟨wd_383, (List.forall_mem_cons.mpr ⟨wd_12, (List.forall_mem_cons.mpr ⟨wd_74, (List.forall_mem_cons.mpr ⟨wd_384, (fun _ h => absurd h List.not_mem_nil)⟩)⟩)⟩)⟩) hov rfl hdg hst (fun v h' hq => by obtain ⟨rfl, rfl⟩ := hq; exact kk)
  rw [Nat.zero_add, Nat.zero_add] at e9
  exact e9
theorem clX8_123 {dj : Nat} {as : List Value} {i : Nat} {r : Int32} {hr : hp_H} (ho : own = RX8) (hM : hp_Cn l yX2_canPlay mX2_canPlay dj zz 0 0 (.ref i :: as) h (fun v h2 => some (.int r) = v ∧ hr = h2)) (hla : as.length = 1) (hd : dj + 1 ≤ d) (hrest : (st.map fun v => v.category).sum ≤ 8) {fs : List Value} (hov : hg_o h i 2 = some fs) (hdg : decode cc pc = .ok (.invokevirtual 123, 3)) {st0 : List Value} (hst : st0 = as.reverse ++ .ref i :: st) (kk : hp_G l (own, cc, nL, rt, ini) X d zr Q zz k n (pc + 3) lv (.int r :: st) hr) : hp_G l (own, cc, nL, rt, ini) X d zr Q zz k n pc lv st0 h := by
  subst ho
  have e9 := hp_callVN (dj := dj) (k := k) (n := n) (y := yX2_canPlay) (mj := mX2_canPlay) (host := "WinnersLeave") hM hd (by decide) hrest (by rw [hla]; (try dsimp only); decide +kernel) wd_386 (List.forall_mem_cons.mpr ⟨wd_388, (List.forall_mem_cons.mpr ⟨wd_13, (List.forall_mem_cons.mpr ⟨wd_75, (List.forall_mem_cons.mpr ⟨wd_389, (fun _ h => absurd h List.not_mem_nil)⟩)⟩)⟩)⟩) hov rfl hdg hst (fun v h' hq => by obtain ⟨rfl, rfl⟩ := hq; exact kk)
  rw [Nat.zero_add, Nat.zero_add] at e9
  exact e9
theorem clX8_126 {dj : Nat} {as : List Value} {i : Nat} {r : Int32} {hr : hp_H} (ho : own = RX8) (hM : hp_Cn l yX7_bothHere mX7_bothHere dj zz 0 0 (.ref i :: as) h (fun v h2 => some (.int r) = v ∧ hr = h2)) (hla : as.length = 2) (hd : dj + 1 ≤ d) (hrest : (st.map fun v => v.category).sum ≤ 8) {fs : List Value} (hov : hg_o h i 6 = some fs) (hdg : decode cc pc = .ok (.invokevirtual 126, 3)) {st0 : List Value} (hst : st0 = as.reverse ++ .ref i :: st) (kk : hp_G l (own, cc, nL, rt, ini) X d zr Q zz k n (pc + 3) lv (.int r :: st) hr) : hp_G l (own, cc, nL, rt, ini) X d zr Q zz k n pc lv st0 h := by
  subst ho
  have e9 := hp_callVN (dj := dj) (k := k) (n := n) (y := yX7_bothHere) (mj := mX7_bothHere) (host := "WinnersLeave") hM hd (by decide) hrest (by rw [hla]; (try dsimp only); decide +kernel) wd_391 (List.forall_mem_cons.mpr ⟨wd_393, (List.forall_mem_cons.mpr ⟨wd_14, (List.forall_mem_cons.mpr ⟨wd_74, (List.forall_mem_cons.mpr ⟨wd_394, (fun _ h => absurd h List.not_mem_nil)⟩)⟩)⟩)⟩) hov rfl hdg hst (fun v h' hq => by obtain ⟨rfl, rfl⟩ := hq; exact kk)
  rw [Nat.zero_add, Nat.zero_add] at e9
  exact e9
theorem clX8_129 {dj : Nat} {as : List Value} {i : Nat} {r : Int32} {hr : hp_H} (ho : own = RX8) (hM : hp_Cn l yX7_winnerLeaves mX7_winnerLeaves dj zz 0 0 (.ref i :: as) h (fun v h2 => some (.int r) = v ∧ hr = h2)) (hla : as.length = 4) (hd : dj + 1 ≤ d) (hrest : (st.map fun v => v.category).sum ≤ 8) {fs : List Value} (hov : hg_o h i 6 = some fs) (hdg : decode cc pc = .ok (.invokevirtual 129, 3)) {st0 : List Value} (hst : st0 = as.reverse ++ .ref i :: st) (kk : hp_G l (own, cc, nL, rt, ini) X d zr Q zz k n (pc + 3) lv (.int r :: st) hr) : hp_G l (own, cc, nL, rt, ini) X d zr Q zz k n pc lv st0 h := by
  subst ho
  have e9 := hp_callVN (dj := dj) (k := k) (n := n) (y := yX7_winnerLeaves) (mj := mX7_winnerLeaves) (host := "WinnersLeave") hM hd (by decide) hrest (by rw [hla]; (try dsimp only); decide +kernel) wd_395 (List.forall_mem_cons.mpr ⟨wd_397, (List.forall_mem_cons.mpr ⟨wd_15, (List.forall_mem_cons.mpr ⟨wd_74, (List.forall_mem_cons.mpr ⟨wd_398, (fun _ h => absurd h List.not_mem_nil)⟩)⟩)⟩)⟩) hov rfl hdg hst (fun v h' hq => by obtain ⟨rfl, rfl⟩ := hq; exact kk)
  rw [Nat.zero_add, Nat.zero_add] at e9
  exact e9
theorem clX9_126 {dj : Nat} {as : List Value} {r : Int32} {hr : hp_H} (ho : own = RX9) (hM : hp_Cn l yX9_isOf mX9_isOf dj zz 0 0 as h (fun v h2 => some (.int r) = v ∧ hr = h2)) (hla : as.length = 2) (hd : dj + 1 ≤ d) (hrest : (st.map fun v => v.category).sum ≤ 8) (hdg : decode cc pc = .ok (.invokestatic 126, 3)) {st0 : List Value} (hst : st0 = as.reverse ++ st) (kk : hp_G l (own, cc, nL, rt, ini) X d zr Q zz k n (pc + 3) lv (.int r :: st) hr) : hp_G l (own, cc, nL, rt, ini) X d zr Q zz k n pc lv st0 h := by
  subst ho
  have e9 := hp_callS (dj := dj) (k := k) (n := n) (y := yX9_isOf) (mj := mX9_isOf) hM hd (by decide) hrest (by rw [hla]; (try dsimp only); decide +kernel) wd_832 (List.forall_mem_cons.mpr ⟨wd_833, (List.forall_mem_cons.mpr ⟨wd_81, (List.forall_mem_cons.mpr ⟨wd_834, (fun _ h => absurd h List.not_mem_nil)⟩)⟩)⟩) hdg hst (fun v h' hq => by obtain ⟨rfl, rfl⟩ := hq; exact kk)
  rw [Nat.zero_add, Nat.zero_add] at e9
  exact e9
theorem clX9_129 {dj : Nat} {as : List Value} {i : Nat} {r : Int32} {hr : hp_H} (ho : own = RX9) (hM : hp_Cn l yX9_areTwo mX9_areTwo dj zz 0 0 (.ref i :: as) h (fun v h2 => some (.int r) = v ∧ hr = h2)) (hla : as.length = 2) (hd : dj + 1 ≤ d) (hrest : (st.map fun v => v.category).sum ≤ 8) {fs : List Value} (hov : hg_o h i 8 = some fs) (hdg : decode cc pc = .ok (.invokevirtual 129, 3)) {st0 : List Value} (hst : st0 = as.reverse ++ .ref i :: st) (kk : hp_G l (own, cc, nL, rt, ini) X d zr Q zz k n (pc + 3) lv (.int r :: st) hr) : hp_G l (own, cc, nL, rt, ini) X d zr Q zz k n pc lv st0 h := by
  subst ho
  have e9 := hp_callV (dj := dj) (k := k) (n := n) (y := yX9_areTwo) (mj := mX9_areTwo) hM hd (by decide) hrest (by rw [hla]; (try dsimp only); decide +kernel) wd_824 (List.forall_mem_cons.mpr ⟨wd_826, (List.forall_mem_cons.mpr ⟨wd_52, (List.forall_mem_cons.mpr ⟨wd_81, (List.forall_mem_cons.mpr ⟨wd_827, (fun _ h => absurd h List.not_mem_nil)⟩)⟩)⟩)⟩) hov rfl hdg hst (fun v h' hq => by obtain ⟨rfl, rfl⟩ := hq; exact kk)
  rw [Nat.zero_add, Nat.zero_add] at e9
  exact e9
theorem clX9_132 {dj : Nat} {as : List Value} {i : Nat} {r : Int32} {hr : hp_H} (ho : own = RX9) (hM : hp_Cn l yX9_isAway mX9_isAway dj zz 0 0 (.ref i :: as) h (fun v h2 => some (.int r) = v ∧ hr = h2)) (hla : as.length = 2) (hd : dj + 1 ≤ d) (hrest : (st.map fun v => v.category).sum ≤ 8) {fs : List Value} (hov : hg_o h i 8 = some fs) (hdg : decode cc pc = .ok (.invokevirtual 132, 3)) {st0 : List Value} (hst : st0 = as.reverse ++ .ref i :: st) (kk : hp_G l (own, cc, nL, rt, ini) X d zr Q zz k n (pc + 3) lv (.int r :: st) hr) : hp_G l (own, cc, nL, rt, ini) X d zr Q zz k n pc lv st0 h := by
  subst ho
  have e9 := hp_callV (dj := dj) (k := k) (n := n) (y := yX9_isAway) (mj := mX9_isAway) hM hd (by decide) hrest (by rw [hla]; (try dsimp only); decide +kernel) wd_828 (List.forall_mem_cons.mpr ⟨wd_830, (List.forall_mem_cons.mpr ⟨wd_53, (List.forall_mem_cons.mpr ⟨wd_81, (List.forall_mem_cons.mpr ⟨wd_831, (fun _ h => absurd h List.not_mem_nil)⟩)⟩)⟩)⟩) hov rfl hdg hst (fun v h' hq => by obtain ⟨rfl, rfl⟩ := hq; exact kk)
  rw [Nat.zero_add, Nat.zero_add] at e9
  exact e9
theorem clX9_135 {dj : Nat} {as : List Value} {i : Nat} {r : Int32} {hr : hp_H} (ho : own = RX9) (hM : hp_Cn l yX9_play mX9_play dj zz 0 0 (.ref i :: as) h (fun v h2 => some (.int r) = v ∧ hr = h2)) (hla : as.length = 4) (hd : dj + 1 ≤ d) (hrest : (st.map fun v => v.category).sum ≤ 8) {fs : List Value} (hov : hg_o h i 8 = some fs) (hdg : decode cc pc = .ok (.invokevirtual 135, 3)) {st0 : List Value} (hst : st0 = as.reverse ++ .ref i :: st) (kk : hp_G l (own, cc, nL, rt, ini) X d zr Q zz k n (pc + 3) lv (.int r :: st) hr) : hp_G l (own, cc, nL, rt, ini) X d zr Q zz k n pc lv st0 h := by
  subst ho
  have e9 := hp_callV (dj := dj) (k := k) (n := n) (y := yX9_play) (mj := mX9_play) hM hd (by decide) hrest (by rw [hla]; (try dsimp only); decide +kernel) wd_835 (List.forall_mem_cons.mpr ⟨wd_837, (List.forall_mem_cons.mpr ⟨wd_54, (List.forall_mem_cons.mpr ⟨wd_81, (List.forall_mem_cons.mpr ⟨wd_838, (fun _ h => absurd h List.not_mem_nil)⟩)⟩)⟩)⟩) hov rfl hdg hst (fun v h' hq => by obtain ⟨rfl, rfl⟩ := hq; exact kk)
  rw [Nat.zero_add, Nat.zero_add] at e9
  exact e9
theorem clX8_133 {dj : Nat} {as : List Value} {i : Nat} {r : Int32} {hr : hp_H} (ho : own = RX8) (hM : hp_Cn l yX8_game mX8_game dj zz 0 0 (.ref i :: as) h (fun v h2 => some (.int r) = v ∧ hr = h2)) (hla : as.length = 4) (hd : dj + 1 ≤ d) (hrest : (st.map fun v => v.category).sum ≤ 8) {fs : List Value} (hov : hg_o h i 7 = some fs) (hdg : decode cc pc = .ok (.invokevirtual 133, 3)) {st0 : List Value} (hst : st0 = as.reverse ++ .ref i :: st) (kk : hp_G l (own, cc, nL, rt, ini) X d zr Q zz k n (pc + 3) lv (.int r :: st) hr) : hp_G l (own, cc, nL, rt, ini) X d zr Q zz k n pc lv st0 h := by
  subst ho
  have e9 := hp_callV (dj := dj) (k := k) (n := n) (y := yX8_game) (mj := mX8_game) hM hd (by decide) hrest (by rw [hla]; (try dsimp only); decide +kernel) wd_403 (List.forall_mem_cons.mpr ⟨wd_378, (List.forall_mem_cons.mpr ⟨wd_379, (List.forall_mem_cons.mpr ⟨wd_73, (List.forall_mem_cons.mpr ⟨wd_380, (fun _ h => absurd h List.not_mem_nil)⟩)⟩)⟩)⟩) hov rfl hdg hst (fun v h' hq => by obtain ⟨rfl, rfl⟩ := hq; exact kk)
  rw [Nat.zero_add, Nat.zero_add] at e9
  exact e9
theorem clX8_136 {dj : Nat} {as : List Value} {i : Nat} {r : Int32} {hr : hp_H} (ho : own = RX8) (hM : hp_Cn l yX7_goneSet mX7_goneSet dj zz 0 0 (.ref i :: as) h (fun v h2 => some (.int r) = v ∧ hr = h2)) (hla : as.length = 0) (hd : dj + 1 ≤ d) (hrest : (st.map fun v => v.category).sum ≤ 8) {fs : List Value} (hov : hg_o h i 6 = some fs) (hdg : decode cc pc = .ok (.invokevirtual 136, 3)) {st0 : List Value} (hst : st0 = as.reverse ++ .ref i :: st) (kk : hp_G l (own, cc, nL, rt, ini) X d zr Q zz k n (pc + 3) lv (.int r :: st) hr) : hp_G l (own, cc, nL, rt, ini) X d zr Q zz k n pc lv st0 h := by
  subst ho
  have e9 := hp_callVN (dj := dj) (k := k) (n := n) (y := yX7_goneSet) (mj := mX7_goneSet) (host := "WinnersLeave") hM hd (by decide) hrest (by rw [hla]; (try dsimp only); decide +kernel) wd_408 (List.forall_mem_cons.mpr ⟨wd_410, (List.forall_mem_cons.mpr ⟨wd_16, (List.forall_mem_cons.mpr ⟨wd_74, (List.forall_mem_cons.mpr ⟨wd_411, (fun _ h => absurd h List.not_mem_nil)⟩)⟩)⟩)⟩) hov rfl hdg hst (fun v h' hq => by obtain ⟨rfl, rfl⟩ := hq; exact kk)
  rw [Nat.zero_add, Nat.zero_add] at e9
  exact e9
theorem clX8_139 {dj : Nat} {as : List Value} {r : Int32} {hr : hp_H} (ho : own = RX8) (hM : hp_Cn l yJ6_bitCount_0f7a4 mJ6_bitCount_0f7a4 dj zz 0 0 as h (fun v h2 => some (.int r) = v ∧ hr = h2)) (hla : as.length = 1) (hd : dj + 1 ≤ d) (hrest : (st.map fun v => v.category).sum ≤ 8) (hdg : decode cc pc = .ok (.invokestatic 139, 3)) {st0 : List Value} (hst : st0 = as.reverse ++ st) (kk : hp_G l (own, cc, nL, rt, ini) X d zr Q zz k n (pc + 3) lv (.int r :: st) hr) : hp_G l (own, cc, nL, rt, ini) X d zr Q zz k n pc lv st0 h := by
  subst ho
  have e9 := hp_callS (dj := dj) (k := k) (n := n) (y := yJ6_bitCount_0f7a4) (mj := mJ6_bitCount_0f7a4) hM hd (by decide) hrest (by rw [hla]; (try dsimp only); decide +kernel) wd_412 (List.forall_mem_cons.mpr ⟨wd_413, (List.forall_mem_cons.mpr ⟨wd_84, (List.forall_mem_cons.mpr ⟨wd_414, (fun _ h => absurd h List.not_mem_nil)⟩)⟩)⟩) hdg hst (fun v h' hq => by obtain ⟨rfl, rfl⟩ := hq; exact kk)
  rw [Nat.zero_add, Nat.zero_add] at e9
  exact e9
theorem clX9_138 {dj : Nat} {as : List Value} {r : Int32} {hr : hp_H} (ho : own = RX9) (hM : hp_Cn l yX9_size mX9_size dj zz 0 0 as h (fun v h2 => some (.int r) = v ∧ hr = h2)) (hla : as.length = 1) (hd : dj + 1 ≤ d) (hrest : (st.map fun v => v.category).sum ≤ 8) (hdg : decode cc pc = .ok (.invokestatic 138, 3)) {st0 : List Value} (hst : st0 = as.reverse ++ st) (kk : hp_G l (own, cc, nL, rt, ini) X d zr Q zz k n (pc + 3) lv (.int r :: st) hr) : hp_G l (own, cc, nL, rt, ini) X d zr Q zz k n pc lv st0 h := by
  subst ho
  have e9 := hp_callS (dj := dj) (k := k) (n := n) (y := yX9_size) (mj := mX9_size) hM hd (by decide) hrest (by rw [hla]; (try dsimp only); decide +kernel) wd_847 (List.forall_mem_cons.mpr ⟨wd_848, (List.forall_mem_cons.mpr ⟨wd_81, (List.forall_mem_cons.mpr ⟨wd_849, (fun _ h => absurd h List.not_mem_nil)⟩)⟩)⟩) hdg hst (fun v h' hq => by obtain ⟨rfl, rfl⟩ := hq; exact kk)
  rw [Nat.zero_add, Nat.zero_add] at e9
  exact e9
theorem clX8_219 {dj : Nat} {as : List Value} {i : Nat} {r : Int32} {hr : hp_H} (ho : own = RX8) (hM : hp_Cn l yX5_read mX5_read dj zz 0 0 (.ref i :: as) h (fun v h2 => some (.int r) = v ∧ hr = h2)) (hla : as.length = 1) (hd : dj + 1 ≤ d) (hrest : (st.map fun v => v.category).sum ≤ 8) {fs : List Value} (hov : hg_o h i 5 = some fs) (hdg : decode cc pc = .ok (.invokevirtual 219, 3)) {st0 : List Value} (hst : st0 = as.reverse ++ .ref i :: st) (kk : hp_G l (own, cc, nL, rt, ini) X d zr Q zz k n (pc + 3) lv (.int r :: st) hr) : hp_G l (own, cc, nL, rt, ini) X d zr Q zz k n pc lv st0 h := by
  subst ho
  have e9 := hp_callVN (dj := dj) (k := k) (n := n) (y := yX5_read) (mj := mX5_read) (host := "WinnersLeave") hM hd (by decide) hrest (by rw [hla]; (try dsimp only); decide +kernel) wd_430 (List.forall_mem_cons.mpr ⟨wd_310, (List.forall_mem_cons.mpr ⟨wd_3, (List.forall_mem_cons.mpr ⟨wd_80, (List.forall_mem_cons.mpr ⟨wd_311, (fun _ h => absurd h List.not_mem_nil)⟩)⟩)⟩)⟩) hov rfl hdg hst (fun v h' hq => by obtain ⟨rfl, rfl⟩ := hq; exact kk)
  rw [Nat.zero_add, Nat.zero_add] at e9
  exact e9
theorem clX8_257 {dj : Nat} {as : List Value} {r : Int32} {hr : hp_H} (ho : own = RX8) (hM : hp_Cn l yX4_isAct mX4_isAct dj zz 0 0 as h (fun v h2 => some (.int r) = v ∧ hr = h2)) (hla : as.length = 1) (hd : dj + 1 ≤ d) (hrest : (st.map fun v => v.category).sum ≤ 8) (hdg : decode cc pc = .ok (.invokestatic 257, 3)) {st0 : List Value} (hst : st0 = as.reverse ++ st) (kk : hp_G l (own, cc, nL, rt, ini) X d zr Q zz k n (pc + 3) lv (.int r :: st) hr) : hp_G l (own, cc, nL, rt, ini) X d zr Q zz k n pc lv st0 h := by
  subst ho
  have e9 := hp_callSN (dj := dj) (k := k) (n := n) (y := yX4_isAct) (mj := mX4_isAct) (host := "WinnersLeave") hM hd (by decide) hrest (by rw [hla]; (try dsimp only); decide +kernel) wd_431 (List.forall_mem_cons.mpr ⟨wd_432, (List.forall_mem_cons.mpr ⟨wd_77, (List.forall_mem_cons.mpr ⟨wd_433, (fun _ h => absurd h List.not_mem_nil)⟩)⟩)⟩) hdg hst (fun v h' hq => by obtain ⟨rfl, rfl⟩ := hq; exact kk)
  rw [Nat.zero_add, Nat.zero_add] at e9
  exact e9
theorem clX7_39 {dj : Nat} {as : List Value} {i : Nat} {hr : hp_H} (ho : own = RX7) (hM : hp_Cn l yX2_become mX2_become dj zz 0 0 (.ref i :: as) h (fun v h2 => none = v ∧ hr = h2)) (hla : as.length = 4) (hd : dj + 1 ≤ d) (hrest : (st.map fun v => v.category).sum ≤ 8) {fs : List Value} (hov : hg_o h i 2 = some fs) (hdg : decode cc pc = .ok (.invokevirtual 39, 3)) {st0 : List Value} (hst : st0 = as.reverse ++ .ref i :: st) (kk : hp_G l (own, cc, nL, rt, ini) X d zr Q zz k n (pc + 3) lv st hr) : hp_G l (own, cc, nL, rt, ini) X d zr Q zz k n pc lv st0 h := by
  subst ho
  have e9 := hp_callVN (dj := dj) (k := k) (n := n) (y := yX2_become) (mj := mX2_become) (host := "WinnersLeave") hM hd (by decide) hrest (by rw [hla]; (try dsimp only); decide +kernel) wd_442 (List.forall_mem_cons.mpr ⟨wd_329, (List.forall_mem_cons.mpr ⟨wd_4, (List.forall_mem_cons.mpr ⟨wd_75, (List.forall_mem_cons.mpr ⟨wd_330, (fun _ h => absurd h List.not_mem_nil)⟩)⟩)⟩)⟩) hov rfl hdg hst (fun v h' hq => by obtain ⟨rfl, rfl⟩ := hq; exact kk)
  rw [Nat.zero_add, Nat.zero_add] at e9
  exact e9
theorem clX4_76 {dj : Nat} {as : List Value} {i : Nat} {r : Int32} {hr : hp_H} (ho : own = RX4) (hM : hp_Cn l yX7_hasTwo mX7_hasTwo dj zz 0 0 (.ref i :: as) h (fun v h2 => some (.int r) = v ∧ hr = h2)) (hla : as.length = 2) (hd : dj + 1 ≤ d) (hrest : (st.map fun v => v.category).sum ≤ 8) {fs : List Value} (hov : hg_o h i 6 = some fs) (hdg : decode cc pc = .ok (.invokevirtual 76, 3)) {st0 : List Value} (hst : st0 = as.reverse ++ .ref i :: st) (kk : hp_G l (own, cc, nL, rt, ini) X d zr Q zz k n (pc + 3) lv (.int r :: st) hr) : hp_G l (own, cc, nL, rt, ini) X d zr Q zz k n pc lv st0 h := by
  subst ho
  have e9 := hp_callVN (dj := dj) (k := k) (n := n) (y := yX7_hasTwo) (mj := mX7_hasTwo) (host := "WinnersLeave") hM hd (by decide) hrest (by rw [hla]; (try dsimp only); decide +kernel) wd_459 (List.forall_mem_cons.mpr ⟨wd_383, (List.forall_mem_cons.mpr ⟨wd_12, (List.forall_mem_cons.mpr ⟨wd_74, (List.forall_mem_cons.mpr ⟨wd_384, (fun _ h => absurd h List.not_mem_nil)⟩)⟩)⟩)⟩) hov rfl hdg hst (fun v h' hq => by obtain ⟨rfl, rfl⟩ := hq; exact kk)
  rw [Nat.zero_add, Nat.zero_add] at e9
  exact e9
theorem clX4_79 {dj : Nat} {as : List Value} {i : Nat} {r : Int32} {hr : hp_H} (ho : own = RX4) (hM : hp_Cn l yX7_bothHere mX7_bothHere dj zz 0 0 (.ref i :: as) h (fun v h2 => some (.int r) = v ∧ hr = h2)) (hla : as.length = 2) (hd : dj + 1 ≤ d) (hrest : (st.map fun v => v.category).sum ≤ 8) {fs : List Value} (hov : hg_o h i 6 = some fs) (hdg : decode cc pc = .ok (.invokevirtual 79, 3)) {st0 : List Value} (hst : st0 = as.reverse ++ .ref i :: st) (kk : hp_G l (own, cc, nL, rt, ini) X d zr Q zz k n (pc + 3) lv (.int r :: st) hr) : hp_G l (own, cc, nL, rt, ini) X d zr Q zz k n pc lv st0 h := by
  subst ho
  have e9 := hp_callVN (dj := dj) (k := k) (n := n) (y := yX7_bothHere) (mj := mX7_bothHere) (host := "WinnersLeave") hM hd (by decide) hrest (by rw [hla]; (try dsimp only); decide +kernel) wd_460 (List.forall_mem_cons.mpr ⟨wd_393, (List.forall_mem_cons.mpr ⟨wd_14, (List.forall_mem_cons.mpr ⟨wd_74, (List.forall_mem_cons.mpr ⟨wd_394, (fun _ h => absurd h List.not_mem_nil)⟩)⟩)⟩)⟩) hov rfl hdg hst (fun v h' hq => by obtain ⟨rfl, rfl⟩ := hq; exact kk)
  rw [Nat.zero_add, Nat.zero_add] at e9
  exact e9
theorem clX4_82 {dj : Nat} {as : List Value} {i : Nat} {r : Int32} {hr : hp_H} (ho : own = RX4) (hM : hp_Cn l yX2_worst mX2_worst dj zz 0 0 (.ref i :: as) h (fun v h2 => some (.int r) = v ∧ hr = h2)) (hla : as.length = 0) (hd : dj + 1 ≤ d) (hrest : (st.map fun v => v.category).sum ≤ 8) {fs : List Value} (hov : hg_o h i 2 = some fs) (hdg : decode cc pc = .ok (.invokevirtual 82, 3)) {st0 : List Value} (hst : st0 = as.reverse ++ .ref i :: st) (kk : hp_G l (own, cc, nL, rt, ini) X d zr Q zz k n (pc + 3) lv (.int r :: st) hr) : hp_G l (own, cc, nL, rt, ini) X d zr Q zz k n pc lv st0 h := by
  subst ho
  have e9 := hp_callVN (dj := dj) (k := k) (n := n) (y := yX2_worst) (mj := mX2_worst) (host := "WinnersLeave") hM hd (by decide) hrest (by rw [hla]; (try dsimp only); decide +kernel) wd_461 (List.forall_mem_cons.mpr ⟨wd_356, (List.forall_mem_cons.mpr ⟨wd_9, (List.forall_mem_cons.mpr ⟨wd_75, (List.forall_mem_cons.mpr ⟨wd_357, (fun _ h => absurd h List.not_mem_nil)⟩)⟩)⟩)⟩) hov rfl hdg hst (fun v h' hq => by obtain ⟨rfl, rfl⟩ := hq; exact kk)
  rw [Nat.zero_add, Nat.zero_add] at e9
  exact e9
theorem clX4_86 {dj : Nat} {as : List Value} {i : Nat} {r : Int32} {hr : hp_H} (ho : own = RX4) (hM : hp_Cn l yX7_winnerLeaves mX7_winnerLeaves dj zz 0 0 (.ref i :: as) h (fun v h2 => some (.int r) = v ∧ hr = h2)) (hla : as.length = 4) (hd : dj + 1 ≤ d) (hrest : (st.map fun v => v.category).sum ≤ 8) {fs : List Value} (hov : hg_o h i 6 = some fs) (hdg : decode cc pc = .ok (.invokevirtual 86, 3)) {st0 : List Value} (hst : st0 = as.reverse ++ .ref i :: st) (kk : hp_G l (own, cc, nL, rt, ini) X d zr Q zz k n (pc + 3) lv (.int r :: st) hr) : hp_G l (own, cc, nL, rt, ini) X d zr Q zz k n pc lv st0 h := by
  subst ho
  have e9 := hp_callVN (dj := dj) (k := k) (n := n) (y := yX7_winnerLeaves) (mj := mX7_winnerLeaves) (host := "WinnersLeave") hM hd (by decide) hrest (by rw [hla]; (try dsimp only); decide +kernel) wd_462 (List.forall_mem_cons.mpr ⟨wd_397, (List.forall_mem_cons.mpr ⟨wd_15, (List.forall_mem_cons.mpr ⟨wd_74, (List.forall_mem_cons.mpr ⟨wd_398, (fun _ h => absurd h List.not_mem_nil)⟩)⟩)⟩)⟩) hov rfl hdg hst (fun v h' hq => by obtain ⟨rfl, rfl⟩ := hq; exact kk)
  rw [Nat.zero_add, Nat.zero_add] at e9
  exact e9
theorem clX4_52 {dj : Nat} {as : List Value} {i : Nat} {r : Int32} {hr : hp_H} (ho : own = RX4) (hM : hp_Cn l yX7_has mX7_has dj zz 0 0 (.ref i :: as) h (fun v h2 => some (.int r) = v ∧ hr = h2)) (hla : as.length = 1) (hd : dj + 1 ≤ d) (hrest : (st.map fun v => v.category).sum ≤ 8) {fs : List Value} (hov : hg_o h i 6 = some fs) (hdg : decode cc pc = .ok (.invokevirtual 52, 3)) {st0 : List Value} (hst : st0 = as.reverse ++ .ref i :: st) (kk : hp_G l (own, cc, nL, rt, ini) X d zr Q zz k n (pc + 3) lv (.int r :: st) hr) : hp_G l (own, cc, nL, rt, ini) X d zr Q zz k n pc lv st0 h := by
  subst ho
  have e9 := hp_callVN (dj := dj) (k := k) (n := n) (y := yX7_has) (mj := mX7_has) (host := "WinnersLeave") hM hd (by decide) hrest (by rw [hla]; (try dsimp only); decide +kernel) wd_451 (List.forall_mem_cons.mpr ⟨wd_344, (List.forall_mem_cons.mpr ⟨wd_6, (List.forall_mem_cons.mpr ⟨wd_74, (List.forall_mem_cons.mpr ⟨wd_345, (fun _ h => absurd h List.not_mem_nil)⟩)⟩)⟩)⟩) hov rfl hdg hst (fun v h' hq => by obtain ⟨rfl, rfl⟩ := hq; exact kk)
  rw [Nat.zero_add, Nat.zero_add] at e9
  exact e9
theorem clX4_69 {dj : Nat} {as : List Value} {i : Nat} {r : Int32} {hr : hp_H} (ho : own = RX4) (hM : hp_Cn l yX4_playShy mX4_playShy dj zz 0 0 (.ref i :: as) h (fun v h2 => some (.int r) = v ∧ hr = h2)) (hla : as.length = 2) (hd : dj + 1 ≤ d) (hrest : (st.map fun v => v.category).sum ≤ 8) {fs : List Value} (hov : hg_o h i 4 = some fs) (hdg : decode cc pc = .ok (.invokevirtual 69, 3)) {st0 : List Value} (hst : st0 = as.reverse ++ .ref i :: st) (kk : hp_G l (own, cc, nL, rt, ini) X d zr Q zz k n (pc + 3) lv (.int r :: st) hr) : hp_G l (own, cc, nL, rt, ini) X d zr Q zz k n pc lv st0 h := by
  subst ho
  have e9 := hp_callV (dj := dj) (k := k) (n := n) (y := yX4_playShy) (mj := mX4_playShy) hM hd (by decide) hrest (by rw [hla]; (try dsimp only); decide +kernel) wd_455 (List.forall_mem_cons.mpr ⟨wd_457, (List.forall_mem_cons.mpr ⟨wd_22, (List.forall_mem_cons.mpr ⟨wd_77, (List.forall_mem_cons.mpr ⟨wd_458, (fun _ h => absurd h List.not_mem_nil)⟩)⟩)⟩)⟩) hov rfl hdg hst (fun v h' hq => by obtain ⟨rfl, rfl⟩ := hq; exact kk)
  rw [Nat.zero_add, Nat.zero_add] at e9
  exact e9
theorem clX4_65 {dj : Nat} {as : List Value} {r : Int32} {hr : hp_H} (ho : own = RX4) (hM : hp_Cn l yX4_comesBack mX4_comesBack dj zz 0 0 as h (fun v h2 => some (.int r) = v ∧ hr = h2)) (hla : as.length = 1) (hd : dj + 1 ≤ d) (hrest : (st.map fun v => v.category).sum ≤ 8) (hdg : decode cc pc = .ok (.invokestatic 65, 3)) {st0 : List Value} (hst : st0 = as.reverse ++ st) (kk : hp_G l (own, cc, nL, rt, ini) X d zr Q zz k n (pc + 3) lv (.int r :: st) hr) : hp_G l (own, cc, nL, rt, ini) X d zr Q zz k n pc lv st0 h := by
  subst ho
  have e9 := hp_callS (dj := dj) (k := k) (n := n) (y := yX4_comesBack) (mj := mX4_comesBack) hM hd (by decide) hrest (by rw [hla]; (try dsimp only); decide +kernel) wd_452 (List.forall_mem_cons.mpr ⟨wd_453, (List.forall_mem_cons.mpr ⟨wd_77, (List.forall_mem_cons.mpr ⟨wd_454, (fun _ h => absurd h List.not_mem_nil)⟩)⟩)⟩) hdg hst (fun v h' hq => by obtain ⟨rfl, rfl⟩ := hq; exact kk)
  rw [Nat.zero_add, Nat.zero_add] at e9
  exact e9
theorem clX4_22 {dj : Nat} {as : List Value} {i : Nat} {hr : hp_H} (ho : own = RX4) (hM : hp_Cn l yX7_becomeLike mX7_becomeLike dj zz 0 0 (.ref i :: as) h (fun v h2 => none = v ∧ hr = h2)) (hla : as.length = 1) (hd : dj + 1 ≤ d) (hrest : (st.map fun v => v.category).sum ≤ 8) {fs : List Value} (hov : hg_o h i 6 = some fs) (hdg : decode cc pc = .ok (.invokevirtual 22, 3)) {st0 : List Value} (hst : st0 = as.reverse ++ .ref i :: st) (kk : hp_G l (own, cc, nL, rt, ini) X d zr Q zz k n (pc + 3) lv st hr) : hp_G l (own, cc, nL, rt, ini) X d zr Q zz k n pc lv st0 h := by
  subst ho
  have e9 := hp_callVN (dj := dj) (k := k) (n := n) (y := yX7_becomeLike) (mj := mX7_becomeLike) (host := "WinnersLeave") hM hd (by decide) hrest (by rw [hla]; (try dsimp only); decide +kernel) wd_438 (List.forall_mem_cons.mpr ⟨wd_440, (List.forall_mem_cons.mpr ⟨wd_20, (List.forall_mem_cons.mpr ⟨wd_74, (List.forall_mem_cons.mpr ⟨wd_441, (fun _ h => absurd h List.not_mem_nil)⟩)⟩)⟩)⟩) hov rfl hdg hst (fun v h' hq => by obtain ⟨rfl, rfl⟩ := hq; exact kk)
  rw [Nat.zero_add, Nat.zero_add] at e9
  exact e9
theorem clX4_26 {dj : Nat} {as : List Value} {hr : hp_H} (ho : own = RX4) (hM : hp_Cn l yJ7_fill_53178 mJ7_fill_53178 dj zz 0 0 as h (fun v h2 => none = v ∧ hr = h2)) (hla : as.length = 2) (hd : dj + 1 ≤ d) (hrest : (st.map fun v => v.category).sum ≤ 8) (hdg : decode cc pc = .ok (.invokestatic 26, 3)) {st0 : List Value} (hst : st0 = as.reverse ++ st) (kk : hp_G l (own, cc, nL, rt, ini) X d zr Q zz k n (pc + 3) lv st hr) : hp_G l (own, cc, nL, rt, ini) X d zr Q zz k n pc lv st0 h := by
  subst ho
  have e9 := hp_callS (dj := dj) (k := k) (n := n) (y := yJ7_fill_53178) (mj := mJ7_fill_53178) hM hd (by decide) hrest (by rw [hla]; (try dsimp only); decide +kernel) wd_443 (List.forall_mem_cons.mpr ⟨wd_444, (List.forall_mem_cons.mpr ⟨wd_85, (List.forall_mem_cons.mpr ⟨wd_445, (fun _ h => absurd h List.not_mem_nil)⟩)⟩)⟩) hdg hst (fun v h' hq => by obtain ⟨rfl, rfl⟩ := hq; exact kk)
  rw [Nat.zero_add, Nat.zero_add] at e9
  exact e9
theorem clX4_42 {dj : Nat} {as : List Value} {i : Nat} {r : Int32} {hr : hp_H} (ho : own = RX4) (hM : hp_Cn l yX5_read mX5_read dj zz 0 0 (.ref i :: as) h (fun v h2 => some (.int r) = v ∧ hr = h2)) (hla : as.length = 1) (hd : dj + 1 ≤ d) (hrest : (st.map fun v => v.category).sum ≤ 8) {fs : List Value} (hov : hg_o h i 5 = some fs) (hdg : decode cc pc = .ok (.invokevirtual 42, 3)) {st0 : List Value} (hst : st0 = as.reverse ++ .ref i :: st) (kk : hp_G l (own, cc, nL, rt, ini) X d zr Q zz k n (pc + 3) lv (.int r :: st) hr) : hp_G l (own, cc, nL, rt, ini) X d zr Q zz k n pc lv st0 h := by
  subst ho
  have e9 := hp_callVN (dj := dj) (k := k) (n := n) (y := yX5_read) (mj := mX5_read) (host := "WinnersLeave") hM hd (by decide) hrest (by rw [hla]; (try dsimp only); decide +kernel) wd_446 (List.forall_mem_cons.mpr ⟨wd_310, (List.forall_mem_cons.mpr ⟨wd_3, (List.forall_mem_cons.mpr ⟨wd_80, (List.forall_mem_cons.mpr ⟨wd_311, (fun _ h => absurd h List.not_mem_nil)⟩)⟩)⟩)⟩) hov rfl hdg hst (fun v h' hq => by obtain ⟨rfl, rfl⟩ := hq; exact kk)
  rw [Nat.zero_add, Nat.zero_add] at e9
  exact e9
theorem clX4_48 {dj : Nat} {as : List Value} {i : Nat} {r : Int32} {hr : hp_H} (ho : own = RX4) (hM : hp_Cn l yX4_goesOn mX4_goesOn dj zz 0 0 (.ref i :: as) h (fun v h2 => some (.int r) = v ∧ hr = h2)) (hla : as.length = 2) (hd : dj + 1 ≤ d) (hrest : (st.map fun v => v.category).sum ≤ 8) {fs : List Value} (hov : hg_o h i 4 = some fs) (hdg : decode cc pc = .ok (.invokevirtual 48, 3)) {st0 : List Value} (hst : st0 = as.reverse ++ .ref i :: st) (kk : hp_G l (own, cc, nL, rt, ini) X d zr Q zz k n (pc + 3) lv (.int r :: st) hr) : hp_G l (own, cc, nL, rt, ini) X d zr Q zz k n pc lv st0 h := by
  subst ho
  have e9 := hp_callV (dj := dj) (k := k) (n := n) (y := yX4_goesOn) (mj := mX4_goesOn) hM hd (by decide) hrest (by rw [hla]; (try dsimp only); decide +kernel) wd_447 (List.forall_mem_cons.mpr ⟨wd_449, (List.forall_mem_cons.mpr ⟨wd_21, (List.forall_mem_cons.mpr ⟨wd_77, (List.forall_mem_cons.mpr ⟨wd_450, (fun _ h => absurd h List.not_mem_nil)⟩)⟩)⟩)⟩) hov rfl hdg hst (fun v h' hq => by obtain ⟨rfl, rfl⟩ := hq; exact kk)
  rw [Nat.zero_add, Nat.zero_add] at e9
  exact e9
theorem clX4_93 {dj : Nat} {as : List Value} {i : Nat} {r : Int32} {hr : hp_H} (ho : own = RX4) (hM : hp_Cn l yX7_goneSet mX7_goneSet dj zz 0 0 (.ref i :: as) h (fun v h2 => some (.int r) = v ∧ hr = h2)) (hla : as.length = 0) (hd : dj + 1 ≤ d) (hrest : (st.map fun v => v.category).sum ≤ 8) {fs : List Value} (hov : hg_o h i 6 = some fs) (hdg : decode cc pc = .ok (.invokevirtual 93, 3)) {st0 : List Value} (hst : st0 = as.reverse ++ .ref i :: st) (kk : hp_G l (own, cc, nL, rt, ini) X d zr Q zz k n (pc + 3) lv (.int r :: st) hr) : hp_G l (own, cc, nL, rt, ini) X d zr Q zz k n pc lv st0 h := by
  subst ho
  have e9 := hp_callVN (dj := dj) (k := k) (n := n) (y := yX7_goneSet) (mj := mX7_goneSet) (host := "WinnersLeave") hM hd (by decide) hrest (by rw [hla]; (try dsimp only); decide +kernel) wd_467 (List.forall_mem_cons.mpr ⟨wd_410, (List.forall_mem_cons.mpr ⟨wd_16, (List.forall_mem_cons.mpr ⟨wd_74, (List.forall_mem_cons.mpr ⟨wd_411, (fun _ h => absurd h List.not_mem_nil)⟩)⟩)⟩)⟩) hov rfl hdg hst (fun v h' hq => by obtain ⟨rfl, rfl⟩ := hq; exact kk)
  rw [Nat.zero_add, Nat.zero_add] at e9
  exact e9
theorem clX4_96 {dj : Nat} {as : List Value} {r : Int32} {hr : hp_H} (ho : own = RX4) (hM : hp_Cn l yJ6_bitCount_0f7a4 mJ6_bitCount_0f7a4 dj zz 0 0 as h (fun v h2 => some (.int r) = v ∧ hr = h2)) (hla : as.length = 1) (hd : dj + 1 ≤ d) (hrest : (st.map fun v => v.category).sum ≤ 8) (hdg : decode cc pc = .ok (.invokestatic 96, 3)) {st0 : List Value} (hst : st0 = as.reverse ++ st) (kk : hp_G l (own, cc, nL, rt, ini) X d zr Q zz k n (pc + 3) lv (.int r :: st) hr) : hp_G l (own, cc, nL, rt, ini) X d zr Q zz k n pc lv st0 h := by
  subst ho
  have e9 := hp_callS (dj := dj) (k := k) (n := n) (y := yJ6_bitCount_0f7a4) (mj := mJ6_bitCount_0f7a4) hM hd (by decide) hrest (by rw [hla]; (try dsimp only); decide +kernel) wd_468 (List.forall_mem_cons.mpr ⟨wd_413, (List.forall_mem_cons.mpr ⟨wd_84, (List.forall_mem_cons.mpr ⟨wd_414, (fun _ h => absurd h List.not_mem_nil)⟩)⟩)⟩) hdg hst (fun v h' hq => by obtain ⟨rfl, rfl⟩ := hq; exact kk)
  rw [Nat.zero_add, Nat.zero_add] at e9
  exact e9
theorem clX8_144 {dj : Nat} {as : List Value} {i : Nat} {r : Int32} {hr : hp_H} (ho : own = RX8) (hM : hp_Cn l yX8_refusalOfRow mX8_refusalOfRow dj zz 0 0 (.ref i :: as) h (fun v h2 => some (.int r) = v ∧ hr = h2)) (hla : as.length = 5) (hd : dj + 1 ≤ d) (hrest : (st.map fun v => v.category).sum ≤ 8) {fs : List Value} (hov : hg_o h i 7 = some fs) (hdg : decode cc pc = .ok (.invokevirtual 144, 3)) {st0 : List Value} (hst : st0 = as.reverse ++ .ref i :: st) (kk : hp_G l (own, cc, nL, rt, ini) X d zr Q zz k n (pc + 3) lv (.int r :: st) hr) : hp_G l (own, cc, nL, rt, ini) X d zr Q zz k n pc lv st0 h := by
  subst ho
  have e9 := hp_callV (dj := dj) (k := k) (n := n) (y := yX8_refusalOfRow) (mj := mX8_refusalOfRow) hM hd (by decide) hrest (by rw [hla]; (try dsimp only); decide +kernel) wd_422 (List.forall_mem_cons.mpr ⟨wd_424, (List.forall_mem_cons.mpr ⟨wd_17, (List.forall_mem_cons.mpr ⟨wd_73, (List.forall_mem_cons.mpr ⟨wd_425, (fun _ h => absurd h List.not_mem_nil)⟩)⟩)⟩)⟩) hov rfl hdg hst (fun v h' hq => by obtain ⟨rfl, rfl⟩ := hq; exact kk)
  rw [Nat.zero_add, Nat.zero_add] at e9
  exact e9
theorem clX8_148 {dj : Nat} {as : List Value} {i : Nat} {r : Int32} {hr : hp_H} (ho : own = RX8) (hM : hp_Cn l yX8_refusalOfActs mX8_refusalOfActs dj zz 0 0 (.ref i :: as) h (fun v h2 => some (.int r) = v ∧ hr = h2)) (hla : as.length = 3) (hd : dj + 1 ≤ d) (hrest : (st.map fun v => v.category).sum ≤ 8) {fs : List Value} (hov : hg_o h i 7 = some fs) (hdg : decode cc pc = .ok (.invokevirtual 148, 3)) {st0 : List Value} (hst : st0 = as.reverse ++ .ref i :: st) (kk : hp_G l (own, cc, nL, rt, ini) X d zr Q zz k n (pc + 3) lv (.int r :: st) hr) : hp_G l (own, cc, nL, rt, ini) X d zr Q zz k n pc lv st0 h := by
  subst ho
  have e9 := hp_callV (dj := dj) (k := k) (n := n) (y := yX8_refusalOfActs) (mj := mX8_refusalOfActs) hM hd (by decide) hrest (by rw [hla]; (try dsimp only); decide +kernel) wd_426 (List.forall_mem_cons.mpr ⟨wd_428, (List.forall_mem_cons.mpr ⟨wd_18, (List.forall_mem_cons.mpr ⟨wd_73, (List.forall_mem_cons.mpr ⟨wd_429, (fun _ h => absurd h List.not_mem_nil)⟩)⟩)⟩)⟩) hov rfl hdg hst (fun v h' hq => by obtain ⟨rfl, rfl⟩ := hq; exact kk)
  rw [Nat.zero_add, Nat.zero_add] at e9
  exact e9
theorem clX8_151 {dj : Nat} {as : List Value} {i : Nat} {hr : hp_H} (ho : own = RX8) (hM : hp_Cn l yX4_run mX4_run dj zz 0 0 (.ref i :: as) h (fun v h2 => none = v ∧ hr = h2)) (hla : as.length = 4) (hd : dj + 1 ≤ d) (hrest : (st.map fun v => v.category).sum ≤ 8) {fs : List Value} (hov : hg_o h i 4 = some fs) (hdg : decode cc pc = .ok (.invokevirtual 151, 3)) {st0 : List Value} (hst : st0 = as.reverse ++ .ref i :: st) (kk : hp_G l (own, cc, nL, rt, ini) X d zr Q zz k n (pc + 3) lv st hr) : hp_G l (own, cc, nL, rt, ini) X d zr Q zz k n pc lv st0 h := by
  subst ho
  have e9 := hp_callVN (dj := dj) (k := k) (n := n) (y := yX4_run) (mj := mX4_run) (host := "WinnersLeave") hM hd (by decide) hrest (by rw [hla]; (try dsimp only); decide +kernel) wd_434 (List.forall_mem_cons.mpr ⟨wd_436, (List.forall_mem_cons.mpr ⟨wd_19, (List.forall_mem_cons.mpr ⟨wd_77, (List.forall_mem_cons.mpr ⟨wd_437, (fun _ h => absurd h List.not_mem_nil)⟩)⟩)⟩)⟩) hov rfl hdg hst (fun v h' hq => by obtain ⟨rfl, rfl⟩ := hq; exact kk)
  rw [Nat.zero_add, Nat.zero_add] at e9
  exact e9
theorem clX8_155 {dj : Nat} {as : List Value} {i : Nat} {r : Int32} {hr : hp_H} (ho : own = RX8) (hM : hp_Cn l yX4_answer mX4_answer dj zz 0 0 (.ref i :: as) h (fun v h2 => some (.int r) = v ∧ hr = h2)) (hla : as.length = 1) (hd : dj + 1 ≤ d) (hrest : (st.map fun v => v.category).sum ≤ 8) {fs : List Value} (hov : hg_o h i 4 = some fs) (hdg : decode cc pc = .ok (.invokevirtual 155, 3)) {st0 : List Value} (hst : st0 = as.reverse ++ .ref i :: st) (kk : hp_G l (own, cc, nL, rt, ini) X d zr Q zz k n (pc + 3) lv (.int r :: st) hr) : hp_G l (own, cc, nL, rt, ini) X d zr Q zz k n pc lv st0 h := by
  subst ho
  have e9 := hp_callVN (dj := dj) (k := k) (n := n) (y := yX4_answer) (mj := mX4_answer) (host := "WinnersLeave") hM hd (by decide) hrest (by rw [hla]; (try dsimp only); decide +kernel) wd_463 (List.forall_mem_cons.mpr ⟨wd_465, (List.forall_mem_cons.mpr ⟨wd_23, (List.forall_mem_cons.mpr ⟨wd_77, (List.forall_mem_cons.mpr ⟨wd_466, (fun _ h => absurd h List.not_mem_nil)⟩)⟩)⟩)⟩) hov rfl hdg hst (fun v h' hq => by obtain ⟨rfl, rfl⟩ := hq; exact kk)
  rw [Nat.zero_add, Nat.zero_add] at e9
  exact e9
theorem clX9_147 {dj : Nat} {as : List Value} {i : Nat} {r : Int32} {hr : hp_H} (ho : own = RX9) (hM : hp_Cn l yX9_does mX9_does dj zz 0 0 (.ref i :: as) h (fun v h2 => some (.int r) = v ∧ hr = h2)) (hla : as.length = 2) (hd : dj + 1 ≤ d) (hrest : (st.map fun v => v.category).sum ≤ 8) {fs : List Value} (hov : hg_o h i 8 = some fs) (hdg : decode cc pc = .ok (.invokevirtual 147, 3)) {st0 : List Value} (hst : st0 = as.reverse ++ .ref i :: st) (kk : hp_G l (own, cc, nL, rt, ini) X d zr Q zz k n (pc + 3) lv (.int r :: st) hr) : hp_G l (own, cc, nL, rt, ini) X d zr Q zz k n pc lv st0 h := by
  subst ho
  have e9 := hp_callV (dj := dj) (k := k) (n := n) (y := yX9_does) (mj := mX9_does) hM hd (by decide) hrest (by rw [hla]; (try dsimp only); decide +kernel) wd_862 (List.forall_mem_cons.mpr ⟨wd_864, (List.forall_mem_cons.mpr ⟨wd_57, (List.forall_mem_cons.mpr ⟨wd_81, (List.forall_mem_cons.mpr ⟨wd_865, (fun _ h => absurd h List.not_mem_nil)⟩)⟩)⟩)⟩) hov rfl hdg hst (fun v h' hq => by obtain ⟨rfl, rfl⟩ := hq; exact kk)
  rw [Nat.zero_add, Nat.zero_add] at e9
  exact e9
theorem clX9_150 {dj : Nat} {as : List Value} {i : Nat} {r : Int32} {hr : hp_H} (ho : own = RX9) (hM : hp_Cn l yX9_refusesPair mX9_refusesPair dj zz 0 0 (.ref i :: as) h (fun v h2 => some (.int r) = v ∧ hr = h2)) (hla : as.length = 2) (hd : dj + 1 ≤ d) (hrest : (st.map fun v => v.category).sum ≤ 8) {fs : List Value} (hov : hg_o h i 8 = some fs) (hdg : decode cc pc = .ok (.invokevirtual 150, 3)) {st0 : List Value} (hst : st0 = as.reverse ++ .ref i :: st) (kk : hp_G l (own, cc, nL, rt, ini) X d zr Q zz k n (pc + 3) lv (.int r :: st) hr) : hp_G l (own, cc, nL, rt, ini) X d zr Q zz k n pc lv st0 h := by
  subst ho
  have e9 := hp_callV (dj := dj) (k := k) (n := n) (y := yX9_refusesPair) (mj := mX9_refusesPair) hM hd (by decide) hrest (by rw [hla]; (try dsimp only); decide +kernel) wd_854 (List.forall_mem_cons.mpr ⟨wd_856, (List.forall_mem_cons.mpr ⟨wd_55, (List.forall_mem_cons.mpr ⟨wd_81, (List.forall_mem_cons.mpr ⟨wd_857, (fun _ h => absurd h List.not_mem_nil)⟩)⟩)⟩)⟩) hov rfl hdg hst (fun v h' hq => by obtain ⟨rfl, rfl⟩ := hq; exact kk)
  rw [Nat.zero_add, Nat.zero_add] at e9
  exact e9
theorem clX9_154 {dj : Nat} {as : List Value} {i : Nat} {r : Int32} {hr : hp_H} (ho : own = RX9) (hM : hp_Cn l yX9_goSeason mX9_goSeason dj zz 0 0 (.ref i :: as) h (fun v h2 => some (.int r) = v ∧ hr = h2)) (hla : as.length = 2) (hd : dj + 1 ≤ d) (hrest : (st.map fun v => v.category).sum ≤ 8) {fs : List Value} (hov : hg_o h i 8 = some fs) (hdg : decode cc pc = .ok (.invokevirtual 154, 3)) {st0 : List Value} (hst : st0 = as.reverse ++ .ref i :: st) (kk : hp_G l (own, cc, nL, rt, ini) X d zr Q zz k n (pc + 3) lv (.int r :: st) hr) : hp_G l (own, cc, nL, rt, ini) X d zr Q zz k n pc lv st0 h := by
  subst ho
  have e9 := hp_callV (dj := dj) (k := k) (n := n) (y := yX9_goSeason) (mj := mX9_goSeason) hM hd (by decide) hrest (by rw [hla]; (try dsimp only); decide +kernel) wd_858 (List.forall_mem_cons.mpr ⟨wd_860, (List.forall_mem_cons.mpr ⟨wd_56, (List.forall_mem_cons.mpr ⟨wd_81, (List.forall_mem_cons.mpr ⟨wd_861, (fun _ h => absurd h List.not_mem_nil)⟩)⟩)⟩)⟩) hov rfl hdg hst (fun v h' hq => by obtain ⟨rfl, rfl⟩ := hq; exact kk)
  rw [Nat.zero_add, Nat.zero_add] at e9
  exact e9
theorem clX9_157 {dj : Nat} {as : List Value} {i : Nat} {r : Int32} {hr : hp_H} (ho : own = RX9) (hM : hp_Cn l yX9_tellSeason mX9_tellSeason dj zz 0 0 (.ref i :: as) h (fun v h2 => some (.int r) = v ∧ hr = h2)) (hla : as.length = 1) (hd : dj + 1 ≤ d) (hrest : (st.map fun v => v.category).sum ≤ 8) {fs : List Value} (hov : hg_o h i 8 = some fs) (hdg : decode cc pc = .ok (.invokevirtual 157, 3)) {st0 : List Value} (hst : st0 = as.reverse ++ .ref i :: st) (kk : hp_G l (own, cc, nL, rt, ini) X d zr Q zz k n (pc + 3) lv (.int r :: st) hr) : hp_G l (own, cc, nL, rt, ini) X d zr Q zz k n pc lv st0 h := by
  subst ho
  have e9 := hp_callV (dj := dj) (k := k) (n := n) (y := yX9_tellSeason) (mj := mX9_tellSeason) hM hd (by decide) hrest (by rw [hla]; (try dsimp only); decide +kernel) wd_866 (List.forall_mem_cons.mpr ⟨wd_868, (List.forall_mem_cons.mpr ⟨wd_58, (List.forall_mem_cons.mpr ⟨wd_81, (List.forall_mem_cons.mpr ⟨wd_869, (fun _ h => absurd h List.not_mem_nil)⟩)⟩)⟩)⟩) hov rfl hdg hst (fun v h' hq => by obtain ⟨rfl, rfl⟩ := hq; exact kk)
  rw [Nat.zero_add, Nat.zero_add] at e9
  exact e9
theorem clX1_53 {dj : Nat} {as : List Value} {i : Nat} {r : Int32} {hr : hp_H} (ho : own = RX1) (hM : hp_Cn l yX2_worst mX2_worst dj zz 0 0 (.ref i :: as) h (fun v h2 => some (.int r) = v ∧ hr = h2)) (hla : as.length = 0) (hd : dj + 1 ≤ d) (hrest : (st.map fun v => v.category).sum ≤ 8) {fs : List Value} (hov : hg_o h i 2 = some fs) (hdg : decode cc pc = .ok (.invokevirtual 53, 3)) {st0 : List Value} (hst : st0 = as.reverse ++ .ref i :: st) (kk : hp_G l (own, cc, nL, rt, ini) X d zr Q zz k n (pc + 3) lv (.int r :: st) hr) : hp_G l (own, cc, nL, rt, ini) X d zr Q zz k n pc lv st0 h := by
  subst ho
  have e9 := hp_callVN (dj := dj) (k := k) (n := n) (y := yX2_worst) (mj := mX2_worst) (host := "WinnersLeave") hM hd (by decide) hrest (by rw [hla]; (try dsimp only); decide +kernel) wd_499 (List.forall_mem_cons.mpr ⟨wd_356, (List.forall_mem_cons.mpr ⟨wd_9, (List.forall_mem_cons.mpr ⟨wd_75, (List.forall_mem_cons.mpr ⟨wd_357, (fun _ h => absurd h List.not_mem_nil)⟩)⟩)⟩)⟩) hov rfl hdg hst (fun v h' hq => by obtain ⟨rfl, rfl⟩ := hq; exact kk)
  rw [Nat.zero_add, Nat.zero_add] at e9
  exact e9
theorem clX1_43 {dj : Nat} {as : List Value} {i : Nat} {hr : hp_H} (ho : own = RX1) (hM : hp_Cn l yX1_pairFrom mX1_pairFrom dj zz 0 0 (.ref i :: as) h (fun v h2 => none = v ∧ hr = h2)) (hla : as.length = 4) (hd : dj + 1 ≤ d) (hrest : (st.map fun v => v.category).sum ≤ 8) {fs : List Value} (hov : hg_o h i 1 = some fs) (hdg : decode cc pc = .ok (.invokevirtual 43, 3)) {st0 : List Value} (hst : st0 = as.reverse ++ .ref i :: st) (kk : hp_G l (own, cc, nL, rt, ini) X d zr Q zz k n (pc + 3) lv st hr) : hp_G l (own, cc, nL, rt, ini) X d zr Q zz k n pc lv st0 h := by
  subst ho
  have e9 := hp_callV (dj := dj) (k := k) (n := n) (y := yX1_pairFrom) (mj := mX1_pairFrom) hM hd (by decide) hrest (by rw [hla]; (try dsimp only); decide +kernel) wd_492 (List.forall_mem_cons.mpr ⟨wd_494, (List.forall_mem_cons.mpr ⟨wd_25, (List.forall_mem_cons.mpr ⟨wd_78, (List.forall_mem_cons.mpr ⟨wd_495, (fun _ h => absurd h List.not_mem_nil)⟩)⟩)⟩)⟩) hov rfl hdg hst (fun v h' hq => by obtain ⟨rfl, rfl⟩ := hq; exact kk)
  rw [Nat.zero_add, Nat.zero_add] at e9
  exact e9
theorem clX1_22 {dj : Nat} {as : List Value} {hr : hp_H} (ho : own = RX1) (hM : hp_Cn l yJ7_fill_53178 mJ7_fill_53178 dj zz 0 0 as h (fun v h2 => none = v ∧ hr = h2)) (hla : as.length = 2) (hd : dj + 1 ≤ d) (hrest : (st.map fun v => v.category).sum ≤ 8) (hdg : decode cc pc = .ok (.invokestatic 22, 3)) {st0 : List Value} (hst : st0 = as.reverse ++ st) (kk : hp_G l (own, cc, nL, rt, ini) X d zr Q zz k n (pc + 3) lv st hr) : hp_G l (own, cc, nL, rt, ini) X d zr Q zz k n pc lv st0 h := by
  subst ho
  have e9 := hp_callS (dj := dj) (k := k) (n := n) (y := yJ7_fill_53178) (mj := mJ7_fill_53178) hM hd (by decide) hrest (by rw [hla]; (try dsimp only); decide +kernel) wd_491 (List.forall_mem_cons.mpr ⟨wd_444, (List.forall_mem_cons.mpr ⟨wd_85, (List.forall_mem_cons.mpr ⟨wd_445, (fun _ h => absurd h List.not_mem_nil)⟩)⟩)⟩) hdg hst (fun v h' hq => by obtain ⟨rfl, rfl⟩ := hq; exact kk)
  rw [Nat.zero_add, Nat.zero_add] at e9
  exact e9
theorem clX8_167 {dj : Nat} {as : List Value} {i : Nat} {hr : hp_H} (ho : own = RX8) (hM : hp_Cn l yX1_find mX1_find dj zz 0 0 (.ref i :: as) h (fun v h2 => none = v ∧ hr = h2)) (hla : as.length = 1) (hd : dj + 1 ≤ d) (hrest : (st.map fun v => v.category).sum ≤ 8) {fs : List Value} (hov : hg_o h i 1 = some fs) (hdg : decode cc pc = .ok (.invokevirtual 167, 3)) {st0 : List Value} (hst : st0 = as.reverse ++ .ref i :: st) (kk : hp_G l (own, cc, nL, rt, ini) X d zr Q zz k n (pc + 3) lv st hr) : hp_G l (own, cc, nL, rt, ini) X d zr Q zz k n pc lv st0 h := by
  subst ho
  have e9 := hp_callVN (dj := dj) (k := k) (n := n) (y := yX1_find) (mj := mX1_find) (host := "WinnersLeave") hM hd (by decide) hrest (by rw [hla]; (try dsimp only); decide +kernel) wd_487 (List.forall_mem_cons.mpr ⟨wd_489, (List.forall_mem_cons.mpr ⟨wd_24, (List.forall_mem_cons.mpr ⟨wd_78, (List.forall_mem_cons.mpr ⟨wd_490, (fun _ h => absurd h List.not_mem_nil)⟩)⟩)⟩)⟩) hov rfl hdg hst (fun v h' hq => by obtain ⟨rfl, rfl⟩ := hq; exact kk)
  rw [Nat.zero_add, Nat.zero_add] at e9
  exact e9
theorem clX8_174 {dj : Nat} {as : List Value} {i : Nat} {r : Int32} {hr : hp_H} (ho : own = RX8) (hM : hp_Cn l yX1_partnerOf mX1_partnerOf dj zz 0 0 (.ref i :: as) h (fun v h2 => some (.int r) = v ∧ hr = h2)) (hla : as.length = 1) (hd : dj + 1 ≤ d) (hrest : (st.map fun v => v.category).sum ≤ 8) {fs : List Value} (hov : hg_o h i 1 = some fs) (hdg : decode cc pc = .ok (.invokevirtual 174, 3)) {st0 : List Value} (hst : st0 = as.reverse ++ .ref i :: st) (kk : hp_G l (own, cc, nL, rt, ini) X d zr Q zz k n (pc + 3) lv (.int r :: st) hr) : hp_G l (own, cc, nL, rt, ini) X d zr Q zz k n pc lv st0 h := by
  subst ho
  have e9 := hp_callVN (dj := dj) (k := k) (n := n) (y := yX1_partnerOf) (mj := mX1_partnerOf) (host := "WinnersLeave") hM hd (by decide) hrest (by rw [hla]; (try dsimp only); decide +kernel) wd_500 (List.forall_mem_cons.mpr ⟨wd_502, (List.forall_mem_cons.mpr ⟨wd_26, (List.forall_mem_cons.mpr ⟨wd_78, (List.forall_mem_cons.mpr ⟨wd_503, (fun _ h => absurd h List.not_mem_nil)⟩)⟩)⟩)⟩) hov rfl hdg hst (fun v h' hq => by obtain ⟨rfl, rfl⟩ := hq; exact kk)
  rw [Nat.zero_add, Nat.zero_add] at e9
  exact e9
theorem clX9_170 {dj : Nat} {as : List Value} {i : Nat} {r : Int32} {hr : hp_H} (ho : own = RX9) (hM : hp_Cn l yX9_isPut mX9_isPut dj zz 0 0 (.ref i :: as) h (fun v h2 => some (.int r) = v ∧ hr = h2)) (hla : as.length = 1) (hd : dj + 1 ≤ d) (hrest : (st.map fun v => v.category).sum ≤ 8) {fs : List Value} (hov : hg_o h i 8 = some fs) (hdg : decode cc pc = .ok (.invokevirtual 170, 3)) {st0 : List Value} (hst : st0 = as.reverse ++ .ref i :: st) (kk : hp_G l (own, cc, nL, rt, ini) X d zr Q zz k n (pc + 3) lv (.int r :: st) hr) : hp_G l (own, cc, nL, rt, ini) X d zr Q zz k n pc lv st0 h := by
  subst ho
  have e9 := hp_callV (dj := dj) (k := k) (n := n) (y := yX9_isPut) (mj := mX9_isPut) hM hd (by decide) hrest (by rw [hla]; (try dsimp only); decide +kernel) wd_894 (List.forall_mem_cons.mpr ⟨wd_896, (List.forall_mem_cons.mpr ⟨wd_61, (List.forall_mem_cons.mpr ⟨wd_81, (List.forall_mem_cons.mpr ⟨wd_897, (fun _ h => absurd h List.not_mem_nil)⟩)⟩)⟩)⟩) hov rfl hdg hst (fun v h' hq => by obtain ⟨rfl, rfl⟩ := hq; exact kk)
  rw [Nat.zero_add, Nat.zero_add] at e9
  exact e9
theorem clX9_173 {dj : Nat} {as : List Value} {i : Nat} {r : Int32} {hr : hp_H} (ho : own = RX9) (hM : hp_Cn l yX9_leaves mX9_leaves dj zz 0 0 (.ref i :: as) h (fun v h2 => some (.int r) = v ∧ hr = h2)) (hla : as.length = 1) (hd : dj + 1 ≤ d) (hrest : (st.map fun v => v.category).sum ≤ 8) {fs : List Value} (hov : hg_o h i 8 = some fs) (hdg : decode cc pc = .ok (.invokevirtual 173, 3)) {st0 : List Value} (hst : st0 = as.reverse ++ .ref i :: st) (kk : hp_G l (own, cc, nL, rt, ini) X d zr Q zz k n (pc + 3) lv (.int r :: st) hr) : hp_G l (own, cc, nL, rt, ini) X d zr Q zz k n pc lv st0 h := by
  subst ho
  have e9 := hp_callV (dj := dj) (k := k) (n := n) (y := yX9_leaves) (mj := mX9_leaves) hM hd (by decide) hrest (by rw [hla]; (try dsimp only); decide +kernel) wd_898 (List.forall_mem_cons.mpr ⟨wd_900, (List.forall_mem_cons.mpr ⟨wd_62, (List.forall_mem_cons.mpr ⟨wd_81, (List.forall_mem_cons.mpr ⟨wd_901, (fun _ h => absurd h List.not_mem_nil)⟩)⟩)⟩)⟩) hov rfl hdg hst (fun v h' hq => by obtain ⟨rfl, rfl⟩ := hq; exact kk)
  rw [Nat.zero_add, Nat.zero_add] at e9
  exact e9
theorem clX9_166 {dj : Nat} {as : List Value} {i : Nat} {hr : hp_H} (ho : own = RX9) (hM : hp_Cn l yX9_tryPartners mX9_tryPartners dj zz 0 0 (.ref i :: as) h (fun v h2 => none = v ∧ hr = h2)) (hla : as.length = 2) (hd : dj + 1 ≤ d) (hrest : (st.map fun v => v.category).sum ≤ 8) {fs : List Value} (hov : hg_o h i 8 = some fs) (hdg : decode cc pc = .ok (.invokevirtual 166, 3)) {st0 : List Value} (hst : st0 = as.reverse ++ .ref i :: st) (kk : hp_G l (own, cc, nL, rt, ini) X d zr Q zz k n (pc + 3) lv st hr) : hp_G l (own, cc, nL, rt, ini) X d zr Q zz k n pc lv st0 h := by
  subst ho
  have e9 := hp_callV (dj := dj) (k := k) (n := n) (y := yX9_tryPartners) (mj := mX9_tryPartners) hM hd (by decide) hrest (by rw [hla]; (try dsimp only); decide +kernel) wd_890 (List.forall_mem_cons.mpr ⟨wd_892, (List.forall_mem_cons.mpr ⟨wd_60, (List.forall_mem_cons.mpr ⟨wd_81, (List.forall_mem_cons.mpr ⟨wd_893, (fun _ h => absurd h List.not_mem_nil)⟩)⟩)⟩)⟩) hov rfl hdg hst (fun v h' hq => by obtain ⟨rfl, rfl⟩ := hq; exact kk)
  rw [Nat.zero_add, Nat.zero_add] at e9
  exact e9
theorem clX9_180 {dj : Nat} {as : List Value} {i : Nat} {hr : hp_H} (ho : own = RX9) (hM : hp_Cn l yX9_take mX9_take dj zz 0 0 (.ref i :: as) h (fun v h2 => none = v ∧ hr = h2)) (hla : as.length = 1) (hd : dj + 1 ≤ d) (hrest : (st.map fun v => v.category).sum ≤ 8) {fs : List Value} (hov : hg_o h i 8 = some fs) (hdg : decode cc pc = .ok (.invokevirtual 180, 3)) {st0 : List Value} (hst : st0 = as.reverse ++ .ref i :: st) (kk : hp_G l (own, cc, nL, rt, ini) X d zr Q zz k n (pc + 3) lv st hr) : hp_G l (own, cc, nL, rt, ini) X d zr Q zz k n pc lv st0 h := by
  subst ho
  have e9 := hp_callV (dj := dj) (k := k) (n := n) (y := yX9_take) (mj := mX9_take) hM hd (by decide) hrest (by rw [hla]; (try dsimp only); decide +kernel) wd_906 (List.forall_mem_cons.mpr ⟨wd_908, (List.forall_mem_cons.mpr ⟨wd_64, (List.forall_mem_cons.mpr ⟨wd_81, (List.forall_mem_cons.mpr ⟨wd_909, (fun _ h => absurd h List.not_mem_nil)⟩)⟩)⟩)⟩) hov rfl hdg hst (fun v h' hq => by obtain ⟨rfl, rfl⟩ := hq; exact kk)
  rw [Nat.zero_add, Nat.zero_add] at e9
  exact e9
theorem clX9_176 {dj : Nat} {as : List Value} {i : Nat} {hr : hp_H} (ho : own = RX9) (hM : hp_Cn l yX9_findSecond mX9_findSecond dj zz 0 0 (.ref i :: as) h (fun v h2 => none = v ∧ hr = h2)) (hla : as.length = 1) (hd : dj + 1 ≤ d) (hrest : (st.map fun v => v.category).sum ≤ 8) {fs : List Value} (hov : hg_o h i 8 = some fs) (hdg : decode cc pc = .ok (.invokevirtual 176, 3)) {st0 : List Value} (hst : st0 = as.reverse ++ .ref i :: st) (kk : hp_G l (own, cc, nL, rt, ini) X d zr Q zz k n (pc + 3) lv st hr) : hp_G l (own, cc, nL, rt, ini) X d zr Q zz k n pc lv st0 h := by
  subst ho
  have e9 := hp_callV (dj := dj) (k := k) (n := n) (y := yX9_findSecond) (mj := mX9_findSecond) hM hd (by decide) hrest (by rw [hla]; (try dsimp only); decide +kernel) wd_902 (List.forall_mem_cons.mpr ⟨wd_904, (List.forall_mem_cons.mpr ⟨wd_63, (List.forall_mem_cons.mpr ⟨wd_81, (List.forall_mem_cons.mpr ⟨wd_905, (fun _ h => absurd h List.not_mem_nil)⟩)⟩)⟩)⟩) hov rfl hdg hst (fun v h' hq => by obtain ⟨rfl, rfl⟩ := hq; exact kk)
  rw [Nat.zero_add, Nat.zero_add] at e9
  exact e9
theorem clX9_183 {dj : Nat} {as : List Value} {i : Nat} {hr : hp_H} (ho : own = RX9) (hM : hp_Cn l yX9_findPairs mX9_findPairs dj zz 0 0 (.ref i :: as) h (fun v h2 => none = v ∧ hr = h2)) (hla : as.length = 0) (hd : dj + 1 ≤ d) (hrest : (st.map fun v => v.category).sum ≤ 8) {fs : List Value} (hov : hg_o h i 8 = some fs) (hdg : decode cc pc = .ok (.invokevirtual 183, 3)) {st0 : List Value} (hst : st0 = as.reverse ++ .ref i :: st) (kk : hp_G l (own, cc, nL, rt, ini) X d zr Q zz k n (pc + 3) lv st hr) : hp_G l (own, cc, nL, rt, ini) X d zr Q zz k n pc lv st0 h := by
  subst ho
  have e9 := hp_callV (dj := dj) (k := k) (n := n) (y := yX9_findPairs) (mj := mX9_findPairs) hM hd (by decide) hrest (by rw [hla]; (try dsimp only); decide +kernel) wd_886 (List.forall_mem_cons.mpr ⟨wd_888, (List.forall_mem_cons.mpr ⟨wd_59, (List.forall_mem_cons.mpr ⟨wd_81, (List.forall_mem_cons.mpr ⟨wd_889, (fun _ h => absurd h List.not_mem_nil)⟩)⟩)⟩)⟩) hov rfl hdg hst (fun v h' hq => by obtain ⟨rfl, rfl⟩ := hq; exact kk)
  rw [Nat.zero_add, Nat.zero_add] at e9
  exact e9
theorem clX3_31 {dj : Nat} {as : List Value} {hr : hp_H} (ho : own = RX3) (hM : hp_Cn l yJ7_fill_53178 mJ7_fill_53178 dj zz 0 0 as h (fun v h2 => none = v ∧ hr = h2)) (hla : as.length = 2) (hd : dj + 1 ≤ d) (hrest : (st.map fun v => v.category).sum ≤ 8) (hdg : decode cc pc = .ok (.invokestatic 31, 3)) {st0 : List Value} (hst : st0 = as.reverse ++ st) (kk : hp_G l (own, cc, nL, rt, ini) X d zr Q zz k n (pc + 3) lv st hr) : hp_G l (own, cc, nL, rt, ini) X d zr Q zz k n pc lv st0 h := by
  subst ho
  have e9 := hp_callS (dj := dj) (k := k) (n := n) (y := yJ7_fill_53178) (mj := mJ7_fill_53178) hM hd (by decide) hrest (by rw [hla]; (try dsimp only); decide +kernel) wd_517 (List.forall_mem_cons.mpr ⟨wd_444, (List.forall_mem_cons.mpr ⟨wd_85, (List.forall_mem_cons.mpr ⟨wd_445, (fun _ h => absurd h List.not_mem_nil)⟩)⟩)⟩) hdg hst (fun v h' hq => by obtain ⟨rfl, rfl⟩ := hq; exact kk)
  rw [Nat.zero_add, Nat.zero_add] at e9
  exact e9
theorem clX3_37 {dj : Nat} {as : List Value} {i : Nat} {r : Int32} {hr : hp_H} (ho : own = RX3) (hM : hp_Cn l yX5_read mX5_read dj zz 0 0 (.ref i :: as) h (fun v h2 => some (.int r) = v ∧ hr = h2)) (hla : as.length = 1) (hd : dj + 1 ≤ d) (hrest : (st.map fun v => v.category).sum ≤ 8) {fs : List Value} (hov : hg_o h i 5 = some fs) (hdg : decode cc pc = .ok (.invokevirtual 37, 3)) {st0 : List Value} (hst : st0 = as.reverse ++ .ref i :: st) (kk : hp_G l (own, cc, nL, rt, ini) X d zr Q zz k n (pc + 3) lv (.int r :: st) hr) : hp_G l (own, cc, nL, rt, ini) X d zr Q zz k n pc lv st0 h := by
  subst ho
  have e9 := hp_callVN (dj := dj) (k := k) (n := n) (y := yX5_read) (mj := mX5_read) (host := "WinnersLeave") hM hd (by decide) hrest (by rw [hla]; (try dsimp only); decide +kernel) wd_518 (List.forall_mem_cons.mpr ⟨wd_310, (List.forall_mem_cons.mpr ⟨wd_3, (List.forall_mem_cons.mpr ⟨wd_80, (List.forall_mem_cons.mpr ⟨wd_311, (fun _ h => absurd h List.not_mem_nil)⟩)⟩)⟩)⟩) hov rfl hdg hst (fun v h' hq => by obtain ⟨rfl, rfl⟩ := hq; exact kk)
  rw [Nat.zero_add, Nat.zero_add] at e9
  exact e9
theorem clX3_43 {dj : Nat} {as : List Value} {i : Nat} {r : Int32} {hr : hp_H} (ho : own = RX3) (hM : hp_Cn l yX3_mayFollow mX3_mayFollow dj zz 0 0 (.ref i :: as) h (fun v h2 => some (.int r) = v ∧ hr = h2)) (hla : as.length = 2) (hd : dj + 1 ≤ d) (hrest : (st.map fun v => v.category).sum ≤ 8) {fs : List Value} (hov : hg_o h i 3 = some fs) (hdg : decode cc pc = .ok (.invokevirtual 43, 3)) {st0 : List Value} (hst : st0 = as.reverse ++ .ref i :: st) (kk : hp_G l (own, cc, nL, rt, ini) X d zr Q zz k n (pc + 3) lv (.int r :: st) hr) : hp_G l (own, cc, nL, rt, ini) X d zr Q zz k n pc lv st0 h := by
  subst ho
  have e9 := hp_callV (dj := dj) (k := k) (n := n) (y := yX3_mayFollow) (mj := mX3_mayFollow) hM hd (by decide) hrest (by rw [hla]; (try dsimp only); decide +kernel) wd_523 (List.forall_mem_cons.mpr ⟨wd_525, (List.forall_mem_cons.mpr ⟨wd_30, (List.forall_mem_cons.mpr ⟨wd_79, (List.forall_mem_cons.mpr ⟨wd_526, (fun _ h => absurd h List.not_mem_nil)⟩)⟩)⟩)⟩) hov rfl hdg hst (fun v h' hq => by obtain ⟨rfl, rfl⟩ := hq; exact kk)
  rw [Nat.zero_add, Nat.zero_add] at e9
  exact e9
theorem clX3_47 {dj : Nat} {as : List Value} {i : Nat} {r : Int32} {hr : hp_H} (ho : own = RX3) (hM : hp_Cn l yX3_lineUp mX3_lineUp dj zz 0 0 (.ref i :: as) h (fun v h2 => some (.int r) = v ∧ hr = h2)) (hla : as.length = 0) (hd : dj + 1 ≤ d) (hrest : (st.map fun v => v.category).sum ≤ 8) {fs : List Value} (hov : hg_o h i 3 = some fs) (hdg : decode cc pc = .ok (.invokevirtual 47, 3)) {st0 : List Value} (hst : st0 = as.reverse ++ .ref i :: st) (kk : hp_G l (own, cc, nL, rt, ini) X d zr Q zz k n (pc + 3) lv (.int r :: st) hr) : hp_G l (own, cc, nL, rt, ini) X d zr Q zz k n pc lv st0 h := by
  subst ho
  have e9 := hp_callV (dj := dj) (k := k) (n := n) (y := yX3_lineUp) (mj := mX3_lineUp) hM hd (by decide) hrest (by rw [hla]; (try dsimp only); decide +kernel) wd_531 (List.forall_mem_cons.mpr ⟨wd_533, (List.forall_mem_cons.mpr ⟨wd_32, (List.forall_mem_cons.mpr ⟨wd_79, (List.forall_mem_cons.mpr ⟨wd_534, (fun _ h => absurd h List.not_mem_nil)⟩)⟩)⟩)⟩) hov rfl hdg hst (fun v h' hq => by obtain ⟨rfl, rfl⟩ := hq; exact kk)
  rw [Nat.zero_add, Nat.zero_add] at e9
  exact e9
theorem clX8_177 {dj : Nat} {as : List Value} {i : Nat} {r : Int32} {hr : hp_H} (ho : own = RX8) (hM : hp_Cn l yX8_refusalOfTwos mX8_refusalOfTwos dj zz 0 0 (.ref i :: as) h (fun v h2 => some (.int r) = v ∧ hr = h2)) (hla : as.length = 5) (hd : dj + 1 ≤ d) (hrest : (st.map fun v => v.category).sum ≤ 8) {fs : List Value} (hov : hg_o h i 7 = some fs) (hdg : decode cc pc = .ok (.invokevirtual 177, 3)) {st0 : List Value} (hst : st0 = as.reverse ++ .ref i :: st) (kk : hp_G l (own, cc, nL, rt, ini) X d zr Q zz k n (pc + 3) lv (.int r :: st) hr) : hp_G l (own, cc, nL, rt, ini) X d zr Q zz k n pc lv st0 h := by
  subst ho
  have e9 := hp_callV (dj := dj) (k := k) (n := n) (y := yX8_refusalOfTwos) (mj := mX8_refusalOfTwos) hM hd (by decide) hrest (by rw [hla]; (try dsimp only); decide +kernel) wd_508 (List.forall_mem_cons.mpr ⟨wd_510, (List.forall_mem_cons.mpr ⟨wd_27, (List.forall_mem_cons.mpr ⟨wd_73, (List.forall_mem_cons.mpr ⟨wd_511, (fun _ h => absurd h List.not_mem_nil)⟩)⟩)⟩)⟩) hov rfl hdg hst (fun v h' hq => by obtain ⟨rfl, rfl⟩ := hq; exact kk)
  rw [Nat.zero_add, Nat.zero_add] at e9
  exact e9
theorem clX8_180 {dj : Nat} {as : List Value} {i : Nat} {hr : hp_H} (ho : own = RX8) (hM : hp_Cn l yX3_take mX3_take dj zz 0 0 (.ref i :: as) h (fun v h2 => none = v ∧ hr = h2)) (hla : as.length = 5) (hd : dj + 1 ≤ d) (hrest : (st.map fun v => v.category).sum ≤ 8) {fs : List Value} (hov : hg_o h i 3 = some fs) (hdg : decode cc pc = .ok (.invokevirtual 180, 3)) {st0 : List Value} (hst : st0 = as.reverse ++ .ref i :: st) (kk : hp_G l (own, cc, nL, rt, ini) X d zr Q zz k n (pc + 3) lv st hr) : hp_G l (own, cc, nL, rt, ini) X d zr Q zz k n pc lv st0 h := by
  subst ho
  have e9 := hp_callVN (dj := dj) (k := k) (n := n) (y := yX3_take) (mj := mX3_take) (host := "WinnersLeave") hM hd (by decide) hrest (by rw [hla]; (try dsimp only); decide +kernel) wd_512 (List.forall_mem_cons.mpr ⟨wd_514, (List.forall_mem_cons.mpr ⟨wd_28, (List.forall_mem_cons.mpr ⟨wd_79, (List.forall_mem_cons.mpr ⟨wd_515, (fun _ h => absurd h List.not_mem_nil)⟩)⟩)⟩)⟩) hov rfl hdg hst (fun v h' hq => by obtain ⟨rfl, rfl⟩ := hq; exact kk)
  rw [Nat.zero_add, Nat.zero_add] at e9
  exact e9
theorem clX8_187 {dj : Nat} {as : List Value} {i : Nat} {r : Int32} {hr : hp_H} (ho : own = RX8) (hM : hp_Cn l yX3_placeOfFirst mX3_placeOfFirst dj zz 0 0 (.ref i :: as) h (fun v h2 => some (.int r) = v ∧ hr = h2)) (hla : as.length = 1) (hd : dj + 1 ≤ d) (hrest : (st.map fun v => v.category).sum ≤ 8) {fs : List Value} (hov : hg_o h i 3 = some fs) (hdg : decode cc pc = .ok (.invokevirtual 187, 3)) {st0 : List Value} (hst : st0 = as.reverse ++ .ref i :: st) (kk : hp_G l (own, cc, nL, rt, ini) X d zr Q zz k n (pc + 3) lv (.int r :: st) hr) : hp_G l (own, cc, nL, rt, ini) X d zr Q zz k n pc lv st0 h := by
  subst ho
  have e9 := hp_callVN (dj := dj) (k := k) (n := n) (y := yX3_placeOfFirst) (mj := mX3_placeOfFirst) (host := "WinnersLeave") hM hd (by decide) hrest (by rw [hla]; (try dsimp only); decide +kernel) wd_527 (List.forall_mem_cons.mpr ⟨wd_529, (List.forall_mem_cons.mpr ⟨wd_31, (List.forall_mem_cons.mpr ⟨wd_79, (List.forall_mem_cons.mpr ⟨wd_530, (fun _ h => absurd h List.not_mem_nil)⟩)⟩)⟩)⟩) hov rfl hdg hst (fun v h' hq => by obtain ⟨rfl, rfl⟩ := hq; exact kk)
  rw [Nat.zero_add, Nat.zero_add] at e9
  exact e9
theorem clX8_184 {dj : Nat} {as : List Value} {i : Nat} {r : Int32} {hr : hp_H} (ho : own = RX8) (hM : hp_Cn l yX3_howMany mX3_howMany dj zz 0 0 (.ref i :: as) h (fun v h2 => some (.int r) = v ∧ hr = h2)) (hla : as.length = 0) (hd : dj + 1 ≤ d) (hrest : (st.map fun v => v.category).sum ≤ 8) {fs : List Value} (hov : hg_o h i 3 = some fs) (hdg : decode cc pc = .ok (.invokevirtual 184, 3)) {st0 : List Value} (hst : st0 = as.reverse ++ .ref i :: st) (kk : hp_G l (own, cc, nL, rt, ini) X d zr Q zz k n (pc + 3) lv (.int r :: st) hr) : hp_G l (own, cc, nL, rt, ini) X d zr Q zz k n pc lv st0 h := by
  subst ho
  have e9 := hp_callVN (dj := dj) (k := k) (n := n) (y := yX3_howMany) (mj := mX3_howMany) (host := "WinnersLeave") hM hd (by decide) hrest (by rw [hla]; (try dsimp only); decide +kernel) wd_519 (List.forall_mem_cons.mpr ⟨wd_521, (List.forall_mem_cons.mpr ⟨wd_29, (List.forall_mem_cons.mpr ⟨wd_79, (List.forall_mem_cons.mpr ⟨wd_522, (fun _ h => absurd h List.not_mem_nil)⟩)⟩)⟩)⟩) hov rfl hdg hst (fun v h' hq => by obtain ⟨rfl, rfl⟩ := hq; exact kk)
  rw [Nat.zero_add, Nat.zero_add] at e9
  exact e9
theorem clX9_186 {dj : Nat} {as : List Value} {r : Int32} {hr : hp_H} (ho : own = RX9) (hM : hp_Cn l yX9_ordersOf mX9_ordersOf dj zz 0 0 as h (fun v h2 => some (.int r) = v ∧ hr = h2)) (hla : as.length = 1) (hd : dj + 1 ≤ d) (hrest : (st.map fun v => v.category).sum ≤ 8) (hdg : decode cc pc = .ok (.invokestatic 186, 3)) {st0 : List Value} (hst : st0 = as.reverse ++ st) (kk : hp_G l (own, cc, nL, rt, ini) X d zr Q zz k n (pc + 3) lv (.int r :: st) hr) : hp_G l (own, cc, nL, rt, ini) X d zr Q zz k n pc lv st0 h := by
  subst ho
  have e9 := hp_callS (dj := dj) (k := k) (n := n) (y := yX9_ordersOf) (mj := mX9_ordersOf) hM hd (by decide) hrest (by rw [hla]; (try dsimp only); decide +kernel) wd_918 (List.forall_mem_cons.mpr ⟨wd_919, (List.forall_mem_cons.mpr ⟨wd_81, (List.forall_mem_cons.mpr ⟨wd_920, (fun _ h => absurd h List.not_mem_nil)⟩)⟩)⟩) hdg hst (fun v h' hq => by obtain ⟨rfl, rfl⟩ := hq; exact kk)
  rw [Nat.zero_add, Nat.zero_add] at e9
  exact e9
theorem clX9_189 {dj : Nat} {as : List Value} {i : Nat} {r : Int32} {hr : hp_H} (ho : own = RX9) (hM : hp_Cn l yX9_refusesTwos mX9_refusesTwos dj zz 0 0 (.ref i :: as) h (fun v h2 => some (.int r) = v ∧ hr = h2)) (hla : as.length = 2) (hd : dj + 1 ≤ d) (hrest : (st.map fun v => v.category).sum ≤ 8) {fs : List Value} (hov : hg_o h i 8 = some fs) (hdg : decode cc pc = .ok (.invokevirtual 189, 3)) {st0 : List Value} (hst : st0 = as.reverse ++ .ref i :: st) (kk : hp_G l (own, cc, nL, rt, ini) X d zr Q zz k n (pc + 3) lv (.int r :: st) hr) : hp_G l (own, cc, nL, rt, ini) X d zr Q zz k n pc lv st0 h := by
  subst ho
  have e9 := hp_callV (dj := dj) (k := k) (n := n) (y := yX9_refusesTwos) (mj := mX9_refusesTwos) hM hd (by decide) hrest (by rw [hla]; (try dsimp only); decide +kernel) wd_914 (List.forall_mem_cons.mpr ⟨wd_916, (List.forall_mem_cons.mpr ⟨wd_65, (List.forall_mem_cons.mpr ⟨wd_81, (List.forall_mem_cons.mpr ⟨wd_917, (fun _ h => absurd h List.not_mem_nil)⟩)⟩)⟩)⟩) hov rfl hdg hst (fun v h' hq => by obtain ⟨rfl, rfl⟩ := hq; exact kk)
  rw [Nat.zero_add, Nat.zero_add] at e9
  exact e9
theorem clX9_192 {dj : Nat} {as : List Value} {i : Nat} {hr : hp_H} (ho : own = RX9) (hM : hp_Cn l yX9_findRow mX9_findRow dj zz 0 0 (.ref i :: as) h (fun v h2 => none = v ∧ hr = h2)) (hla : as.length = 1) (hd : dj + 1 ≤ d) (hrest : (st.map fun v => v.category).sum ≤ 8) {fs : List Value} (hov : hg_o h i 8 = some fs) (hdg : decode cc pc = .ok (.invokevirtual 192, 3)) {st0 : List Value} (hst : st0 = as.reverse ++ .ref i :: st) (kk : hp_G l (own, cc, nL, rt, ini) X d zr Q zz k n (pc + 3) lv st hr) : hp_G l (own, cc, nL, rt, ini) X d zr Q zz k n pc lv st0 h := by
  subst ho
  have e9 := hp_callV (dj := dj) (k := k) (n := n) (y := yX9_findRow) (mj := mX9_findRow) hM hd (by decide) hrest (by rw [hla]; (try dsimp only); decide +kernel) wd_921 (List.forall_mem_cons.mpr ⟨wd_923, (List.forall_mem_cons.mpr ⟨wd_66, (List.forall_mem_cons.mpr ⟨wd_81, (List.forall_mem_cons.mpr ⟨wd_924, (fun _ h => absurd h List.not_mem_nil)⟩)⟩)⟩)⟩) hov rfl hdg hst (fun v h' hq => by obtain ⟨rfl, rfl⟩ := hq; exact kk)
  rw [Nat.zero_add, Nat.zero_add] at e9
  exact e9
theorem clX9_195 {dj : Nat} {as : List Value} {i : Nat} {r : Int32} {hr : hp_H} (ho : own = RX9) (hM : hp_Cn l yX9_areAhead mX9_areAhead dj zz 0 0 (.ref i :: as) h (fun v h2 => some (.int r) = v ∧ hr = h2)) (hla : as.length = 2) (hd : dj + 1 ≤ d) (hrest : (st.map fun v => v.category).sum ≤ 8) {fs : List Value} (hov : hg_o h i 8 = some fs) (hdg : decode cc pc = .ok (.invokevirtual 195, 3)) {st0 : List Value} (hst : st0 = as.reverse ++ .ref i :: st) (kk : hp_G l (own, cc, nL, rt, ini) X d zr Q zz k n (pc + 3) lv (.int r :: st) hr) : hp_G l (own, cc, nL, rt, ini) X d zr Q zz k n pc lv st0 h := by
  subst ho
  have e9 := hp_callV (dj := dj) (k := k) (n := n) (y := yX9_areAhead) (mj := mX9_areAhead) hM hd (by decide) hrest (by rw [hla]; (try dsimp only); decide +kernel) wd_925 (List.forall_mem_cons.mpr ⟨wd_927, (List.forall_mem_cons.mpr ⟨wd_67, (List.forall_mem_cons.mpr ⟨wd_81, (List.forall_mem_cons.mpr ⟨wd_928, (fun _ h => absurd h List.not_mem_nil)⟩)⟩)⟩)⟩) hov rfl hdg hst (fun v h' hq => by obtain ⟨rfl, rfl⟩ := hq; exact kk)
  rw [Nat.zero_add, Nat.zero_add] at e9
  exact e9
theorem clX3_51 {dj : Nat} {as : List Value} {r : Int32} {hr : hp_H} (ho : own = RX3) (hM : hp_Cn l yJ6_bitCount_0f7a4 mJ6_bitCount_0f7a4 dj zz 0 0 as h (fun v h2 => some (.int r) = v ∧ hr = h2)) (hla : as.length = 1) (hd : dj + 1 ≤ d) (hrest : (st.map fun v => v.category).sum ≤ 8) (hdg : decode cc pc = .ok (.invokestatic 51, 3)) {st0 : List Value} (hst : st0 = as.reverse ++ st) (kk : hp_G l (own, cc, nL, rt, ini) X d zr Q zz k n (pc + 3) lv (.int r :: st) hr) : hp_G l (own, cc, nL, rt, ini) X d zr Q zz k n pc lv st0 h := by
  subst ho
  have e9 := hp_callS (dj := dj) (k := k) (n := n) (y := yJ6_bitCount_0f7a4) (mj := mJ6_bitCount_0f7a4) hM hd (by decide) hrest (by rw [hla]; (try dsimp only); decide +kernel) wd_543 (List.forall_mem_cons.mpr ⟨wd_413, (List.forall_mem_cons.mpr ⟨wd_84, (List.forall_mem_cons.mpr ⟨wd_414, (fun _ h => absurd h List.not_mem_nil)⟩)⟩)⟩) hdg hst (fun v h' hq => by obtain ⟨rfl, rfl⟩ := hq; exact kk)
  rw [Nat.zero_add, Nat.zero_add] at e9
  exact e9
theorem clX3_56 {dj : Nat} {as : List Value} {i : Nat} {hr : hp_H} (ho : own = RX3) (hM : hp_Cn l yX3_take mX3_take dj zz 0 0 (.ref i :: as) h (fun v h2 => none = v ∧ hr = h2)) (hla : as.length = 5) (hd : dj + 1 ≤ d) (hrest : (st.map fun v => v.category).sum ≤ 8) {fs : List Value} (hov : hg_o h i 3 = some fs) (hdg : decode cc pc = .ok (.invokevirtual 56, 3)) {st0 : List Value} (hst : st0 = as.reverse ++ .ref i :: st) (kk : hp_G l (own, cc, nL, rt, ini) X d zr Q zz k n (pc + 3) lv st hr) : hp_G l (own, cc, nL, rt, ini) X d zr Q zz k n pc lv st0 h := by
  subst ho
  have e9 := hp_callV (dj := dj) (k := k) (n := n) (y := yX3_take) (mj := mX3_take) hM hd (by decide) hrest (by rw [hla]; (try dsimp only); decide +kernel) wd_544 (List.forall_mem_cons.mpr ⟨wd_514, (List.forall_mem_cons.mpr ⟨wd_28, (List.forall_mem_cons.mpr ⟨wd_79, (List.forall_mem_cons.mpr ⟨wd_515, (fun _ h => absurd h List.not_mem_nil)⟩)⟩)⟩)⟩) hov rfl hdg hst (fun v h' hq => by obtain ⟨rfl, rfl⟩ := hq; exact kk)
  rw [Nat.zero_add, Nat.zero_add] at e9
  exact e9
theorem clX8_190 {dj : Nat} {as : List Value} {i : Nat} {r : Int32} {hr : hp_H} (ho : own = RX8) (hM : hp_Cn l yX3_fewestLeftOut mX3_fewestLeftOut dj zz 0 0 (.ref i :: as) h (fun v h2 => some (.int r) = v ∧ hr = h2)) (hla : as.length = 4) (hd : dj + 1 ≤ d) (hrest : (st.map fun v => v.category).sum ≤ 8) {fs : List Value} (hov : hg_o h i 3 = some fs) (hdg : decode cc pc = .ok (.invokevirtual 190, 3)) {st0 : List Value} (hst : st0 = as.reverse ++ .ref i :: st) (kk : hp_G l (own, cc, nL, rt, ini) X d zr Q zz k n (pc + 3) lv (.int r :: st) hr) : hp_G l (own, cc, nL, rt, ini) X d zr Q zz k n pc lv st0 h := by
  subst ho
  have e9 := hp_callVN (dj := dj) (k := k) (n := n) (y := yX3_fewestLeftOut) (mj := mX3_fewestLeftOut) (host := "WinnersLeave") hM hd (by decide) hrest (by rw [hla]; (try dsimp only); decide +kernel) wd_539 (List.forall_mem_cons.mpr ⟨wd_541, (List.forall_mem_cons.mpr ⟨wd_33, (List.forall_mem_cons.mpr ⟨wd_79, (List.forall_mem_cons.mpr ⟨wd_542, (fun _ h => absurd h List.not_mem_nil)⟩)⟩)⟩)⟩) hov rfl hdg hst (fun v h' hq => by obtain ⟨rfl, rfl⟩ := hq; exact kk)
  rw [Nat.zero_add, Nat.zero_add] at e9
  exact e9
theorem clX9_198 {dj : Nat} {as : List Value} {i : Nat} {r : Int32} {hr : hp_H} (ho : own = RX9) (hM : hp_Cn l yX9_isOrder mX9_isOrder dj zz 0 0 (.ref i :: as) h (fun v h2 => some (.int r) = v ∧ hr = h2)) (hla : as.length = 3) (hd : dj + 1 ≤ d) (hrest : (st.map fun v => v.category).sum ≤ 8) {fs : List Value} (hov : hg_o h i 8 = some fs) (hdg : decode cc pc = .ok (.invokevirtual 198, 3)) {st0 : List Value} (hst : st0 = as.reverse ++ .ref i :: st) (kk : hp_G l (own, cc, nL, rt, ini) X d zr Q zz k n (pc + 3) lv (.int r :: st) hr) : hp_G l (own, cc, nL, rt, ini) X d zr Q zz k n pc lv st0 h := by
  subst ho
  have e9 := hp_callV (dj := dj) (k := k) (n := n) (y := yX9_isOrder) (mj := mX9_isOrder) hM hd (by decide) hrest (by rw [hla]; (try dsimp only); decide +kernel) wd_933 (List.forall_mem_cons.mpr ⟨wd_935, (List.forall_mem_cons.mpr ⟨wd_68, (List.forall_mem_cons.mpr ⟨wd_81, (List.forall_mem_cons.mpr ⟨wd_936, (fun _ h => absurd h List.not_mem_nil)⟩)⟩)⟩)⟩) hov rfl hdg hst (fun v h' hq => by obtain ⟨rfl, rfl⟩ := hq; exact kk)
  rw [Nat.zero_add, Nat.zero_add] at e9
  exact e9
theorem clX8_194 {dj : Nat} {as : List Value} {i : Nat} {r : Int32} {hr : hp_H} (ho : own = RX8) (hM : hp_Cn l yX0_note mX0_note dj zz 0 0 (.ref i :: as) h (fun v h2 => some (.int r) = v ∧ hr = h2)) (hla : as.length = 4) (hd : dj + 1 ≤ d) (hrest : (st.map fun v => v.category).sum ≤ 8) {fs : List Value} (hov : hg_o h i 0 = some fs) (hdg : decode cc pc = .ok (.invokevirtual 194, 3)) {st0 : List Value} (hst : st0 = as.reverse ++ .ref i :: st) (kk : hp_G l (own, cc, nL, rt, ini) X d zr Q zz k n (pc + 3) lv (.int r :: st) hr) : hp_G l (own, cc, nL, rt, ini) X d zr Q zz k n pc lv st0 h := by
  subst ho
  have e9 := hp_callVN (dj := dj) (k := k) (n := n) (y := yX0_note) (mj := mX0_note) (host := "WinnersLeave") hM hd (by decide) hrest (by rw [hla]; (try dsimp only); decide +kernel) wd_549 (List.forall_mem_cons.mpr ⟨wd_551, (List.forall_mem_cons.mpr ⟨wd_34, (List.forall_mem_cons.mpr ⟨wd_76, (List.forall_mem_cons.mpr ⟨wd_552, (fun _ h => absurd h List.not_mem_nil)⟩)⟩)⟩)⟩) hov rfl hdg hst (fun v h' hq => by obtain ⟨rfl, rfl⟩ := hq; exact kk)
  rw [Nat.zero_add, Nat.zero_add] at e9
  exact e9
theorem clX0_54 {dj : Nat} {as : List Value} {i : Nat} {r : Int32} {hr : hp_H} (ho : own = RX0) (hM : hp_Cn l yX2_worst mX2_worst dj zz 0 0 (.ref i :: as) h (fun v h2 => some (.int r) = v ∧ hr = h2)) (hla : as.length = 0) (hd : dj + 1 ≤ d) (hrest : (st.map fun v => v.category).sum ≤ 8) {fs : List Value} (hov : hg_o h i 2 = some fs) (hdg : decode cc pc = .ok (.invokevirtual 54, 3)) {st0 : List Value} (hst : st0 = as.reverse ++ .ref i :: st) (kk : hp_G l (own, cc, nL, rt, ini) X d zr Q zz k n (pc + 3) lv (.int r :: st) hr) : hp_G l (own, cc, nL, rt, ini) X d zr Q zz k n pc lv st0 h := by
  subst ho
  have e9 := hp_callVN (dj := dj) (k := k) (n := n) (y := yX2_worst) (mj := mX2_worst) (host := "WinnersLeave") hM hd (by decide) hrest (by rw [hla]; (try dsimp only); decide +kernel) wd_574 (List.forall_mem_cons.mpr ⟨wd_356, (List.forall_mem_cons.mpr ⟨wd_9, (List.forall_mem_cons.mpr ⟨wd_75, (List.forall_mem_cons.mpr ⟨wd_357, (fun _ h => absurd h List.not_mem_nil)⟩)⟩)⟩)⟩) hov rfl hdg hst (fun v h' hq => by obtain ⟨rfl, rfl⟩ := hq; exact kk)
  rw [Nat.zero_add, Nat.zero_add] at e9
  exact e9
theorem clX0_57 {dj : Nat} {as : List Value} {r : Int32} {hr : hp_H} (ho : own = RX0) (hM : hp_Cn l yJ6_compare_7cf53 mJ6_compare_7cf53 dj zz 0 0 as h (fun v h2 => some (.int r) = v ∧ hr = h2)) (hla : as.length = 2) (hd : dj + 1 ≤ d) (hrest : (st.map fun v => v.category).sum ≤ 8) (hdg : decode cc pc = .ok (.invokestatic 57, 3)) {st0 : List Value} (hst : st0 = as.reverse ++ st) (kk : hp_G l (own, cc, nL, rt, ini) X d zr Q zz k n (pc + 3) lv (.int r :: st) hr) : hp_G l (own, cc, nL, rt, ini) X d zr Q zz k n pc lv st0 h := by
  subst ho
  have e9 := hp_callS (dj := dj) (k := k) (n := n) (y := yJ6_compare_7cf53) (mj := mJ6_compare_7cf53) hM hd (by decide) hrest (by rw [hla]; (try dsimp only); decide +kernel) wd_575 (List.forall_mem_cons.mpr ⟨wd_576, (List.forall_mem_cons.mpr ⟨wd_84, (List.forall_mem_cons.mpr ⟨wd_577, (fun _ h => absurd h List.not_mem_nil)⟩)⟩)⟩) hdg hst (fun v h' hq => by obtain ⟨rfl, rfl⟩ := hq; exact kk)
  rw [Nat.zero_add, Nat.zero_add] at e9
  exact e9
theorem clX0_48 {dj : Nat} {as : List Value} {i : Nat} {r : Int32} {hr : hp_H} (ho : own = RX0) (hM : hp_Cn l yX2_best mX2_best dj zz 0 0 (.ref i :: as) h (fun v h2 => some (.int r) = v ∧ hr = h2)) (hla : as.length = 0) (hd : dj + 1 ≤ d) (hrest : (st.map fun v => v.category).sum ≤ 8) {fs : List Value} (hov : hg_o h i 2 = some fs) (hdg : decode cc pc = .ok (.invokevirtual 48, 3)) {st0 : List Value} (hst : st0 = as.reverse ++ .ref i :: st) (kk : hp_G l (own, cc, nL, rt, ini) X d zr Q zz k n (pc + 3) lv (.int r :: st) hr) : hp_G l (own, cc, nL, rt, ini) X d zr Q zz k n pc lv st0 h := by
  subst ho
  have e9 := hp_callVN (dj := dj) (k := k) (n := n) (y := yX2_best) (mj := mX2_best) (host := "WinnersLeave") hM hd (by decide) hrest (by rw [hla]; (try dsimp only); decide +kernel) wd_573 (List.forall_mem_cons.mpr ⟨wd_352, (List.forall_mem_cons.mpr ⟨wd_8, (List.forall_mem_cons.mpr ⟨wd_75, (List.forall_mem_cons.mpr ⟨wd_353, (fun _ h => absurd h List.not_mem_nil)⟩)⟩)⟩)⟩) hov rfl hdg hst (fun v h' hq => by obtain ⟨rfl, rfl⟩ := hq; exact kk)
  rw [Nat.zero_add, Nat.zero_add] at e9
  exact e9
theorem clX0_34 {dj : Nat} {as : List Value} {i : Nat} {r : Int32} {hr : hp_H} (ho : own = RX0) (hM : hp_Cn l yX7_hasTwo mX7_hasTwo dj zz 0 0 (.ref i :: as) h (fun v h2 => some (.int r) = v ∧ hr = h2)) (hla : as.length = 2) (hd : dj + 1 ≤ d) (hrest : (st.map fun v => v.category).sum ≤ 8) {fs : List Value} (hov : hg_o h i 6 = some fs) (hdg : decode cc pc = .ok (.invokevirtual 34, 3)) {st0 : List Value} (hst : st0 = as.reverse ++ .ref i :: st) (kk : hp_G l (own, cc, nL, rt, ini) X d zr Q zz k n (pc + 3) lv (.int r :: st) hr) : hp_G l (own, cc, nL, rt, ini) X d zr Q zz k n pc lv st0 h := by
  subst ho
  have e9 := hp_callVN (dj := dj) (k := k) (n := n) (y := yX7_hasTwo) (mj := mX7_hasTwo) (host := "WinnersLeave") hM hd (by decide) hrest (by rw [hla]; (try dsimp only); decide +kernel) wd_569 (List.forall_mem_cons.mpr ⟨wd_383, (List.forall_mem_cons.mpr ⟨wd_12, (List.forall_mem_cons.mpr ⟨wd_74, (List.forall_mem_cons.mpr ⟨wd_384, (fun _ h => absurd h List.not_mem_nil)⟩)⟩)⟩)⟩) hov rfl hdg hst (fun v h' hq => by obtain ⟨rfl, rfl⟩ := hq; exact kk)
  rw [Nat.zero_add, Nat.zero_add] at e9
  exact e9
theorem clX0_44 {dj : Nat} {as : List Value} {r : Int32} {hr : hp_H} (ho : own = RX0) (hM : hp_Cn l yX0_resultOf mX0_resultOf dj zz 0 0 as h (fun v h2 => some (.int r) = v ∧ hr = h2)) (hla : as.length = 3) (hd : dj + 1 ≤ d) (hrest : (st.map fun v => v.category).sum ≤ 8) (hdg : decode cc pc = .ok (.invokestatic 44, 3)) {st0 : List Value} (hst : st0 = as.reverse ++ st) (kk : hp_G l (own, cc, nL, rt, ini) X d zr Q zz k n (pc + 3) lv (.int r :: st) hr) : hp_G l (own, cc, nL, rt, ini) X d zr Q zz k n pc lv st0 h := by
  subst ho
  have e9 := hp_callS (dj := dj) (k := k) (n := n) (y := yX0_resultOf) (mj := mX0_resultOf) hM hd (by decide) hrest (by rw [hla]; (try dsimp only); decide +kernel) wd_570 (List.forall_mem_cons.mpr ⟨wd_571, (List.forall_mem_cons.mpr ⟨wd_76, (List.forall_mem_cons.mpr ⟨wd_572, (fun _ h => absurd h List.not_mem_nil)⟩)⟩)⟩) hdg hst (fun v h' hq => by obtain ⟨rfl, rfl⟩ := hq; exact kk)
  rw [Nat.zero_add, Nat.zero_add] at e9
  exact e9
theorem clX8_266 {dj : Nat} {as : List Value} {i : Nat} {r : Int32} {hr : hp_H} (ho : own = RX8) (hM : hp_Cn l yX0_agrees mX0_agrees dj zz 0 0 (.ref i :: as) h (fun v h2 => some (.int r) = v ∧ hr = h2)) (hla : as.length = 1) (hd : dj + 1 ≤ d) (hrest : (st.map fun v => v.category).sum ≤ 8) {fs : List Value} (hov : hg_o h i 0 = some fs) (hdg : decode cc pc = .ok (.invokevirtual 266, 3)) {st0 : List Value} (hst : st0 = as.reverse ++ .ref i :: st) (kk : hp_G l (own, cc, nL, rt, ini) X d zr Q zz k n (pc + 3) lv (.int r :: st) hr) : hp_G l (own, cc, nL, rt, ini) X d zr Q zz k n pc lv st0 h := by
  subst ho
  have e9 := hp_callVN (dj := dj) (k := k) (n := n) (y := yX0_agrees) (mj := mX0_agrees) (host := "WinnersLeave") hM hd (by decide) hrest (by rw [hla]; (try dsimp only); decide +kernel) wd_565 (List.forall_mem_cons.mpr ⟨wd_567, (List.forall_mem_cons.mpr ⟨wd_36, (List.forall_mem_cons.mpr ⟨wd_76, (List.forall_mem_cons.mpr ⟨wd_568, (fun _ h => absurd h List.not_mem_nil)⟩)⟩)⟩)⟩) hov rfl hdg hst (fun v h' hq => by obtain ⟨rfl, rfl⟩ := hq; exact kk)
  rw [Nat.zero_add, Nat.zero_add] at e9
  exact e9
theorem clX8_197 {dj : Nat} {as : List Value} {i : Nat} {r : Int32} {hr : hp_H} (ho : own = RX8) (hM : hp_Cn l yX8_agreeing mX8_agreeing dj zz 0 0 (.ref i :: as) h (fun v h2 => some (.int r) = v ∧ hr = h2)) (hla : as.length = 3) (hd : dj + 1 ≤ d) (hrest : (st.map fun v => v.category).sum ≤ 8) {fs : List Value} (hov : hg_o h i 7 = some fs) (hdg : decode cc pc = .ok (.invokevirtual 197, 3)) {st0 : List Value} (hst : st0 = as.reverse ++ .ref i :: st) (kk : hp_G l (own, cc, nL, rt, ini) X d zr Q zz k n (pc + 3) lv (.int r :: st) hr) : hp_G l (own, cc, nL, rt, ini) X d zr Q zz k n pc lv st0 h := by
  subst ho
  have e9 := hp_callV (dj := dj) (k := k) (n := n) (y := yX8_agreeing) (mj := mX8_agreeing) hM hd (by decide) hrest (by rw [hla]; (try dsimp only); decide +kernel) wd_561 (List.forall_mem_cons.mpr ⟨wd_563, (List.forall_mem_cons.mpr ⟨wd_35, (List.forall_mem_cons.mpr ⟨wd_73, (List.forall_mem_cons.mpr ⟨wd_564, (fun _ h => absurd h List.not_mem_nil)⟩)⟩)⟩)⟩) hov rfl hdg hst (fun v h' hq => by obtain ⟨rfl, rfl⟩ := hq; exact kk)
  rw [Nat.zero_add, Nat.zero_add] at e9
  exact e9
theorem clX9_201 {dj : Nat} {as : List Value} {i : Nat} {r : Int32} {hr : hp_H} (ho : own = RX9) (hM : hp_Cn l yX9_areSo mX9_areSo dj zz 0 0 (.ref i :: as) h (fun v h2 => some (.int r) = v ∧ hr = h2)) (hla : as.length = 0) (hd : dj + 1 ≤ d) (hrest : (st.map fun v => v.category).sum ≤ 8) {fs : List Value} (hov : hg_o h i 8 = some fs) (hdg : decode cc pc = .ok (.invokevirtual 201, 3)) {st0 : List Value} (hst : st0 = as.reverse ++ .ref i :: st) (kk : hp_G l (own, cc, nL, rt, ini) X d zr Q zz k n (pc + 3) lv (.int r :: st) hr) : hp_G l (own, cc, nL, rt, ini) X d zr Q zz k n pc lv st0 h := by
  subst ho
  have e9 := hp_callV (dj := dj) (k := k) (n := n) (y := yX9_areSo) (mj := mX9_areSo) hM hd (by decide) hrest (by rw [hla]; (try dsimp only); decide +kernel) wd_949 (List.forall_mem_cons.mpr ⟨wd_951, (List.forall_mem_cons.mpr ⟨wd_69, (List.forall_mem_cons.mpr ⟨wd_81, (List.forall_mem_cons.mpr ⟨wd_952, (fun _ h => absurd h List.not_mem_nil)⟩)⟩)⟩)⟩) hov rfl hdg hst (fun v h' hq => by obtain ⟨rfl, rfl⟩ := hq; exact kk)
  rw [Nat.zero_add, Nat.zero_add] at e9
  exact e9
theorem clX8_202 {dj : Nat} {as : List Value} {r : Int32} {hr : hp_H} (ho : own = RX8) (hM : hp_Cn l yX8_waysToWin mX8_waysToWin dj zz 0 0 as h (fun v h2 => some (.int r) = v ∧ hr = h2)) (hla : as.length = 2) (hd : dj + 1 ≤ d) (hrest : (st.map fun v => v.category).sum ≤ 8) (hdg : decode cc pc = .ok (.invokestatic 202, 3)) {st0 : List Value} (hst : st0 = as.reverse ++ st) (kk : hp_G l (own, cc, nL, rt, ini) X d zr Q zz k n (pc + 3) lv (.int r :: st) hr) : hp_G l (own, cc, nL, rt, ini) X d zr Q zz k n pc lv st0 h := by
  subst ho
  have e9 := hp_callS (dj := dj) (k := k) (n := n) (y := yX8_waysToWin) (mj := mX8_waysToWin) hM hd (by decide) hrest (by rw [hla]; (try dsimp only); decide +kernel) wd_591 (List.forall_mem_cons.mpr ⟨wd_592, (List.forall_mem_cons.mpr ⟨wd_73, (List.forall_mem_cons.mpr ⟨wd_593, (fun _ h => absurd h List.not_mem_nil)⟩)⟩)⟩) hdg hst (fun v h' hq => by obtain ⟨rfl, rfl⟩ := hq; exact kk)
  rw [Nat.zero_add, Nat.zero_add] at e9
  exact e9
theorem clX9_205 {dj : Nat} {as : List Value} {r : Int64} {hr : hp_H} (ho : own = RX9) (hM : hp_Cn l yX9_inLeastTerms mX9_inLeastTerms dj zz 0 0 as h (fun v h2 => some (.long r) = v ∧ hr = h2)) (hla : as.length = 3) (hd : dj + 1 ≤ d) (hrest : (st.map fun v => v.category).sum ≤ 8) (hdg : decode cc pc = .ok (.invokestatic 205, 3)) {st0 : List Value} (hst : st0 = as.reverse ++ st) (kk : hp_G l (own, cc, nL, rt, ini) X d zr Q zz k n (pc + 3) lv (.long r :: st) hr) : hp_G l (own, cc, nL, rt, ini) X d zr Q zz k n pc lv st0 h := by
  subst ho
  have e9 := hp_callS (dj := dj) (k := k) (n := n) (y := yX9_inLeastTerms) (mj := mX9_inLeastTerms) hM hd (by decide) hrest (by rw [hla]; (try dsimp only); decide +kernel) wd_966 (List.forall_mem_cons.mpr ⟨wd_967, (List.forall_mem_cons.mpr ⟨wd_81, (List.forall_mem_cons.mpr ⟨wd_968, (fun _ h => absurd h List.not_mem_nil)⟩)⟩)⟩) hdg hst (fun v h' hq => by obtain ⟨rfl, rfl⟩ := hq; exact kk)
  rw [Nat.zero_add, Nat.zero_add] at e9
  exact e9
theorem clX5_15 {dj : Nat} {as : List Value} {hr : hp_H} (ho : own = RX5) (hM : hp_Cn l yJ7_fill_53178 mJ7_fill_53178 dj zz 0 0 as h (fun v h2 => none = v ∧ hr = h2)) (hla : as.length = 2) (hd : dj + 1 ≤ d) (hrest : (st.map fun v => v.category).sum ≤ 8) (hdg : decode cc pc = .ok (.invokestatic 15, 3)) {st0 : List Value} (hst : st0 = as.reverse ++ st) (kk : hp_G l (own, cc, nL, rt, ini) X d zr Q zz k n (pc + 3) lv st hr) : hp_G l (own, cc, nL, rt, ini) X d zr Q zz k n pc lv st0 h := by
  subst ho
  have e9 := hp_callS (dj := dj) (k := k) (n := n) (y := yJ7_fill_53178) (mj := mJ7_fill_53178) hM hd (by decide) hrest (by rw [hla]; (try dsimp only); decide +kernel) wd_602 (List.forall_mem_cons.mpr ⟨wd_444, (List.forall_mem_cons.mpr ⟨wd_85, (List.forall_mem_cons.mpr ⟨wd_445, (fun _ h => absurd h List.not_mem_nil)⟩)⟩)⟩) hdg hst (fun v h' hq => by obtain ⟨rfl, rfl⟩ := hq; exact kk)
  rw [Nat.zero_add, Nat.zero_add] at e9
  exact e9
theorem clX8_206 {dj : Nat} {as : List Value} {i : Nat} {hr : hp_H} (ho : own = RX8) (hM : hp_Cn l yX5_renew mX5_renew dj zz 0 0 (.ref i :: as) h (fun v h2 => none = v ∧ hr = h2)) (hla : as.length = 2) (hd : dj + 1 ≤ d) (hrest : (st.map fun v => v.category).sum ≤ 8) {fs : List Value} (hov : hg_o h i 5 = some fs) (hdg : decode cc pc = .ok (.invokevirtual 206, 3)) {st0 : List Value} (hst : st0 = as.reverse ++ .ref i :: st) (kk : hp_G l (own, cc, nL, rt, ini) X d zr Q zz k n (pc + 3) lv st hr) : hp_G l (own, cc, nL, rt, ini) X d zr Q zz k n pc lv st0 h := by
  subst ho
  have e9 := hp_callVN (dj := dj) (k := k) (n := n) (y := yX5_renew) (mj := mX5_renew) (host := "WinnersLeave") hM hd (by decide) hrest (by rw [hla]; (try dsimp only); decide +kernel) wd_598 (List.forall_mem_cons.mpr ⟨wd_600, (List.forall_mem_cons.mpr ⟨wd_37, (List.forall_mem_cons.mpr ⟨wd_80, (List.forall_mem_cons.mpr ⟨wd_601, (fun _ h => absurd h List.not_mem_nil)⟩)⟩)⟩)⟩) hov rfl hdg hst (fun v h' hq => by obtain ⟨rfl, rfl⟩ := hq; exact kk)
  rw [Nat.zero_add, Nat.zero_add] at e9
  exact e9
theorem clX8_216 {dj : Nat} {as : List Value} {i : Nat} {hr : hp_H} (ho : own = RX8) (hM : hp_Cn l yX5_write mX5_write dj zz 0 0 (.ref i :: as) h (fun v h2 => none = v ∧ hr = h2)) (hla : as.length = 2) (hd : dj + 1 ≤ d) (hrest : (st.map fun v => v.category).sum ≤ 8) {fs : List Value} (hov : hg_o h i 5 = some fs) (hdg : decode cc pc = .ok (.invokevirtual 216, 3)) {st0 : List Value} (hst : st0 = as.reverse ++ .ref i :: st) (kk : hp_G l (own, cc, nL, rt, ini) X d zr Q zz k n (pc + 3) lv st hr) : hp_G l (own, cc, nL, rt, ini) X d zr Q zz k n pc lv st0 h := by
  subst ho
  have e9 := hp_callVN (dj := dj) (k := k) (n := n) (y := yX5_write) (mj := mX5_write) (host := "WinnersLeave") hM hd (by decide) hrest (by rw [hla]; (try dsimp only); decide +kernel) wd_611 (List.forall_mem_cons.mpr ⟨wd_613, (List.forall_mem_cons.mpr ⟨wd_38, (List.forall_mem_cons.mpr ⟨wd_80, (List.forall_mem_cons.mpr ⟨wd_614, (fun _ h => absurd h List.not_mem_nil)⟩)⟩)⟩)⟩) hov rfl hdg hst (fun v h' hq => by obtain ⟨rfl, rfl⟩ := hq; exact kk)
  rw [Nat.zero_add, Nat.zero_add] at e9
  exact e9
theorem clX9_209 {dj : Nat} {as : List Value} {i : Nat} {r : Int64} {hr : hp_H} (ho : own = RX9) (hM : hp_Cn l yX9_lost mX9_lost dj zz 0 0 (.ref i :: as) h (fun v h2 => some (.long r) = v ∧ hr = h2)) (hla : as.length = 1) (hd : dj + 1 ≤ d) (hrest : (st.map fun v => v.category).sum ≤ 8) {fs : List Value} (hov : hg_o h i 8 = some fs) (hdg : decode cc pc = .ok (.invokevirtual 209, 3)) {st0 : List Value} (hst : st0 = as.reverse ++ .ref i :: st) (kk : hp_G l (own, cc, nL, rt, ini) X d zr Q zz k n (pc + 3) lv (.long r :: st) hr) : hp_G l (own, cc, nL, rt, ini) X d zr Q zz k n pc lv st0 h := by
  subst ho
  have e9 := hp_callV (dj := dj) (k := k) (n := n) (y := yX9_lost) (mj := mX9_lost) hM hd (by decide) hrest (by rw [hla]; (try dsimp only); decide +kernel) wd_985 (List.forall_mem_cons.mpr ⟨wd_987, (List.forall_mem_cons.mpr ⟨wd_70, (List.forall_mem_cons.mpr ⟨wd_81, (List.forall_mem_cons.mpr ⟨wd_988, (fun _ h => absurd h List.not_mem_nil)⟩)⟩)⟩)⟩) hov rfl hdg hst (fun v h' hq => by obtain ⟨rfl, rfl⟩ := hq; exact kk)
  rw [Nat.zero_add, Nat.zero_add] at e9
  exact e9
theorem clX8_222 {dj : Nat} {as : List Value} {i : Nat} {r : Int32} {hr : hp_H} (ho : own = RX8) (hM : hp_Cn l yX5_reaches mX5_reaches dj zz 0 0 (.ref i :: as) h (fun v h2 => some (.int r) = v ∧ hr = h2)) (hla : as.length = 2) (hd : dj + 1 ≤ d) (hrest : (st.map fun v => v.category).sum ≤ 8) {fs : List Value} (hov : hg_o h i 5 = some fs) (hdg : decode cc pc = .ok (.invokevirtual 222, 3)) {st0 : List Value} (hst : st0 = as.reverse ++ .ref i :: st) (kk : hp_G l (own, cc, nL, rt, ini) X d zr Q zz k n (pc + 3) lv (.int r :: st) hr) : hp_G l (own, cc, nL, rt, ini) X d zr Q zz k n pc lv st0 h := by
  subst ho
  have e9 := hp_callVN (dj := dj) (k := k) (n := n) (y := yX5_reaches) (mj := mX5_reaches) (host := "WinnersLeave") hM hd (by decide) hrest (by rw [hla]; (try dsimp only); decide +kernel) wd_623 (List.forall_mem_cons.mpr ⟨wd_299, (List.forall_mem_cons.mpr ⟨wd_1, (List.forall_mem_cons.mpr ⟨wd_80, (List.forall_mem_cons.mpr ⟨wd_300, (fun _ h => absurd h List.not_mem_nil)⟩)⟩)⟩)⟩) hov rfl hdg hst (fun v h' hq => by obtain ⟨rfl, rfl⟩ := hq; exact kk)
  rw [Nat.zero_add, Nat.zero_add] at e9
  exact e9
theorem clX8_248 {dj : Nat} {as : List Value} {i : Nat} {hr : hp_H} (ho : own = RX8) (hM : hp_Cn l yX8_mark mX8_mark dj zz 0 0 (.ref i :: as) h (fun v h2 => none = v ∧ hr = h2)) (hla : as.length = 1) (hd : dj + 1 ≤ d) (hrest : (st.map fun v => v.category).sum ≤ 8) {fs : List Value} (hov : hg_o h i 7 = some fs) (hdg : decode cc pc = .ok (.invokevirtual 248, 3)) {st0 : List Value} (hst : st0 = as.reverse ++ .ref i :: st) (kk : hp_G l (own, cc, nL, rt, ini) X d zr Q zz k n (pc + 3) lv st hr) : hp_G l (own, cc, nL, rt, ini) X d zr Q zz k n pc lv st0 h := by
  subst ho
  have e9 := hp_callV (dj := dj) (k := k) (n := n) (y := yX8_mark) (mj := mX8_mark) hM hd (by decide) hrest (by rw [hla]; (try dsimp only); decide +kernel) wd_633 (List.forall_mem_cons.mpr ⟨wd_635, (List.forall_mem_cons.mpr ⟨wd_40, (List.forall_mem_cons.mpr ⟨wd_73, (List.forall_mem_cons.mpr ⟨wd_636, (fun _ h => absurd h List.not_mem_nil)⟩)⟩)⟩)⟩) hov rfl hdg hst (fun v h' hq => by obtain ⟨rfl, rfl⟩ := hq; exact kk)
  rw [Nat.zero_add, Nat.zero_add] at e9
  exact e9
theorem clX8_245 {dj : Nat} {as : List Value} {i : Nat} {r : Int32} {hr : hp_H} (ho : own = RX8) (hM : hp_Cn l yX8_tellPlayer mX8_tellPlayer dj zz 0 0 (.ref i :: as) h (fun v h2 => some (.int r) = v ∧ hr = h2)) (hla : as.length = 1) (hd : dj + 1 ≤ d) (hrest : (st.map fun v => v.category).sum ≤ 8) {fs : List Value} (hov : hg_o h i 7 = some fs) (hdg : decode cc pc = .ok (.invokevirtual 245, 3)) {st0 : List Value} (hst : st0 = as.reverse ++ .ref i :: st) (kk : hp_G l (own, cc, nL, rt, ini) X d zr Q zz k n (pc + 3) lv (.int r :: st) hr) : hp_G l (own, cc, nL, rt, ini) X d zr Q zz k n pc lv st0 h := by
  subst ho
  have e9 := hp_callV (dj := dj) (k := k) (n := n) (y := yX8_tellPlayer) (mj := mX8_tellPlayer) hM hd (by decide) hrest (by rw [hla]; (try dsimp only); decide +kernel) wd_641 (List.forall_mem_cons.mpr ⟨wd_643, (List.forall_mem_cons.mpr ⟨wd_42, (List.forall_mem_cons.mpr ⟨wd_73, (List.forall_mem_cons.mpr ⟨wd_644, (fun _ h => absurd h List.not_mem_nil)⟩)⟩)⟩)⟩) hov rfl hdg hst (fun v h' hq => by obtain ⟨rfl, rfl⟩ := hq; exact kk)
  rw [Nat.zero_add, Nat.zero_add] at e9
  exact e9
theorem clX8_242 {dj : Nat} {as : List Value} {i : Nat} {r : Int32} {hr : hp_H} (ho : own = RX8) (hM : hp_Cn l yX8_tellLefty mX8_tellLefty dj zz 0 0 (.ref i :: as) h (fun v h2 => some (.int r) = v ∧ hr = h2)) (hla : as.length = 1) (hd : dj + 1 ≤ d) (hrest : (st.map fun v => v.category).sum ≤ 8) {fs : List Value} (hov : hg_o h i 7 = some fs) (hdg : decode cc pc = .ok (.invokevirtual 242, 3)) {st0 : List Value} (hst : st0 = as.reverse ++ .ref i :: st) (kk : hp_G l (own, cc, nL, rt, ini) X d zr Q zz k n (pc + 3) lv (.int r :: st) hr) : hp_G l (own, cc, nL, rt, ini) X d zr Q zz k n pc lv st0 h := by
  subst ho
  have e9 := hp_callV (dj := dj) (k := k) (n := n) (y := yX8_tellLefty) (mj := mX8_tellLefty) hM hd (by decide) hrest (by rw [hla]; (try dsimp only); decide +kernel) wd_637 (List.forall_mem_cons.mpr ⟨wd_639, (List.forall_mem_cons.mpr ⟨wd_41, (List.forall_mem_cons.mpr ⟨wd_73, (List.forall_mem_cons.mpr ⟨wd_640, (fun _ h => absurd h List.not_mem_nil)⟩)⟩)⟩)⟩) hov rfl hdg hst (fun v h' hq => by obtain ⟨rfl, rfl⟩ := hq; exact kk)
  rw [Nat.zero_add, Nat.zero_add] at e9
  exact e9
theorem clX8_238 {dj : Nat} {as : List Value} {i : Nat} {r : Int32} {hr : hp_H} (ho : own = RX8) (hM : hp_Cn l yX8_tellChampion mX8_tellChampion dj zz 0 0 (.ref i :: as) h (fun v h2 => some (.int r) = v ∧ hr = h2)) (hla : as.length = 1) (hd : dj + 1 ≤ d) (hrest : (st.map fun v => v.category).sum ≤ 8) {fs : List Value} (hov : hg_o h i 7 = some fs) (hdg : decode cc pc = .ok (.invokevirtual 238, 3)) {st0 : List Value} (hst : st0 = as.reverse ++ .ref i :: st) (kk : hp_G l (own, cc, nL, rt, ini) X d zr Q zz k n (pc + 3) lv (.int r :: st) hr) : hp_G l (own, cc, nL, rt, ini) X d zr Q zz k n pc lv st0 h := by
  subst ho
  have e9 := hp_callV (dj := dj) (k := k) (n := n) (y := yX8_tellChampion) (mj := mX8_tellChampion) hM hd (by decide) hrest (by rw [hla]; (try dsimp only); decide +kernel) wd_629 (List.forall_mem_cons.mpr ⟨wd_631, (List.forall_mem_cons.mpr ⟨wd_39, (List.forall_mem_cons.mpr ⟨wd_73, (List.forall_mem_cons.mpr ⟨wd_632, (fun _ h => absurd h List.not_mem_nil)⟩)⟩)⟩)⟩) hov rfl hdg hst (fun v h' hq => by obtain ⟨rfl, rfl⟩ := hq; exact kk)
  rw [Nat.zero_add, Nat.zero_add] at e9
  exact e9
theorem clX9_216 {dj : Nat} {as : List Value} {i : Nat} {hr : hp_H} (ho : own = RX9) (hM : hp_Cn l yX9_begins mX9_begins dj zz 0 0 (.ref i :: as) h (fun v h2 => none = v ∧ hr = h2)) (hla : as.length = 1) (hd : dj + 1 ≤ d) (hrest : (st.map fun v => v.category).sum ≤ 8) {fs : List Value} (hov : hg_o h i 8 = some fs) (hdg : decode cc pc = .ok (.invokevirtual 216, 3)) {st0 : List Value} (hst : st0 = as.reverse ++ .ref i :: st) (kk : hp_G l (own, cc, nL, rt, ini) X d zr Q zz k n (pc + 3) lv st hr) : hp_G l (own, cc, nL, rt, ini) X d zr Q zz k n pc lv st0 h := by
  subst ho
  have e9 := hp_callV (dj := dj) (k := k) (n := n) (y := yX9_begins) (mj := mX9_begins) hM hd (by decide) hrest (by rw [hla]; (try dsimp only); decide +kernel) wd_997 (List.forall_mem_cons.mpr ⟨wd_999, (List.forall_mem_cons.mpr ⟨wd_71, (List.forall_mem_cons.mpr ⟨wd_81, (List.forall_mem_cons.mpr ⟨wd_1000, (fun _ h => absurd h List.not_mem_nil)⟩)⟩)⟩)⟩) hov rfl hdg hst (fun v h' hq => by obtain ⟨rfl, rfl⟩ := hq; exact kk)
  rw [Nat.zero_add, Nat.zero_add] at e9
  exact e9
theorem clL_9 {dj : Nat} {as : List Value} {i : Nat} {hr : hp_H} (ho : own = RL) (hM : hp_Cn l yX8_init mX8_init dj zz 39 467 (.ref i :: as) h (fun v h2 => none = v ∧ hr = h2)) (hla : as.length = 0) (hd : dj + 1 ≤ d) (hrest : (st.map fun v => v.category).sum ≤ 8) (hdg : decode cc pc = .ok (.invokespecial 9, 3)) {st0 : List Value} (hst : st0 = as.reverse ++ .ref i :: st) (kk : hp_G l (own, cc, nL, rt, ini) X d zr Q zz k n (pc + 3) lv st hr) : hp_G l (own, cc, nL, rt, ini) X d zr Q zz (39 + k) (467 + n) pc lv st0 h := by
  subst ho
  exact hp_callI (dj := dj) (k := k) (n := n) (y := yX8_init) (mj := mX8_init) hM hd (by decide) hrest (by rw [hla]; (try dsimp only); decide +kernel) wd_89 (List.forall_mem_cons.mpr ⟨wd_90, (List.forall_mem_cons.mpr ⟨wd_73, (List.forall_mem_cons.mpr ⟨wd_91, (fun _ h => absurd h List.not_mem_nil)⟩)⟩)⟩) rfl rfl hdg hst (fun v h' hq => by obtain ⟨rfl, rfl⟩ := hq; exact kk)
theorem clL_12 {dj : Nat} {as : List Value} {i : Nat} {hr : hp_H} (ho : own = RL) (hM : hp_Cn l yX9_init mX9_init dj zz 17 352 (.ref i :: as) h (fun v h2 => none = v ∧ hr = h2)) (hla : as.length = 0) (hd : dj + 1 ≤ d) (hrest : (st.map fun v => v.category).sum ≤ 8) (hdg : decode cc pc = .ok (.invokespecial 12, 3)) {st0 : List Value} (hst : st0 = as.reverse ++ .ref i :: st) (kk : hp_G l (own, cc, nL, rt, ini) X d zr Q zz k n (pc + 3) lv st hr) : hp_G l (own, cc, nL, rt, ini) X d zr Q zz (17 + k) (352 + n) pc lv st0 h := by
  subst ho
  exact hp_callI (dj := dj) (k := k) (n := n) (y := yX9_init) (mj := mX9_init) hM hd (by decide) hrest (by rw [hla]; (try dsimp only); decide +kernel) wd_667 (List.forall_mem_cons.mpr ⟨wd_668, (List.forall_mem_cons.mpr ⟨wd_81, (List.forall_mem_cons.mpr ⟨wd_669, (fun _ h => absurd h List.not_mem_nil)⟩)⟩)⟩) rfl rfl hdg hst (fun v h' hq => by obtain ⟨rfl, rfl⟩ := hq; exact kk)
theorem clL_13 {dj : Nat} {as : List Value} {i : Nat} {r : Int32} {hr : hp_H} (ho : own = RL) (hM : hp_Cn l yX8_harbour mX8_harbour dj zz 0 0 (.ref i :: as) h (fun v h2 => some (.int r) = v ∧ hr = h2)) (hla : as.length = 4) (hd : dj + 1 ≤ d) (hrest : (st.map fun v => v.category).sum ≤ 8) {fs : List Value} (hov : hg_o h i 7 = some fs) (hdg : decode cc pc = .ok (.invokevirtual 13, 3)) {st0 : List Value} (hst : st0 = as.reverse ++ .ref i :: st) (kk : hp_G l (own, cc, nL, rt, ini) X d zr Q zz k n (pc + 3) lv (.int r :: st) hr) : hp_G l (own, cc, nL, rt, ini) X d zr Q zz k n pc lv st0 h := by
  subst ho
  have e9 := hp_callV (dj := dj) (k := k) (n := n) (y := yX8_harbour) (mj := mX8_harbour) hM hd (by decide) hrest (by rw [hla]; (try dsimp only); decide +kernel) wd_283 (List.forall_mem_cons.mpr ⟨wd_284, (List.forall_mem_cons.mpr ⟨wd_285, (List.forall_mem_cons.mpr ⟨wd_73, (List.forall_mem_cons.mpr ⟨wd_286, (fun _ h => absurd h List.not_mem_nil)⟩)⟩)⟩)⟩) hov rfl hdg hst (fun v h' hq => by obtain ⟨rfl, rfl⟩ := hq; exact kk)
  rw [Nat.zero_add, Nat.zero_add] at e9
  exact e9
theorem clL_17 {dj : Nat} {as : List Value} {i : Nat} {r : Int32} {hr : hp_H} (ho : own = RL) (hM : hp_Cn l yX9_harbour mX9_harbour dj zz 0 0 (.ref i :: as) h (fun v h2 => some (.int r) = v ∧ hr = h2)) (hla : as.length = 4) (hd : dj + 1 ≤ d) (hrest : (st.map fun v => v.category).sum ≤ 8) {fs : List Value} (hov : hg_o h i 8 = some fs) (hdg : decode cc pc = .ok (.invokevirtual 17, 3)) {st0 : List Value} (hst : st0 = as.reverse ++ .ref i :: st) (kk : hp_G l (own, cc, nL, rt, ini) X d zr Q zz k n (pc + 3) lv (.int r :: st) hr) : hp_G l (own, cc, nL, rt, ini) X d zr Q zz k n pc lv st0 h := by
  subst ho
  have e9 := hp_callV (dj := dj) (k := k) (n := n) (y := yX9_harbour) (mj := mX9_harbour) hM hd (by decide) hrest (by rw [hla]; (try dsimp only); decide +kernel) wd_759 (List.forall_mem_cons.mpr ⟨wd_760, (List.forall_mem_cons.mpr ⟨wd_761, (List.forall_mem_cons.mpr ⟨wd_81, (List.forall_mem_cons.mpr ⟨wd_762, (fun _ h => absurd h List.not_mem_nil)⟩)⟩)⟩)⟩) hov rfl hdg hst (fun v h' hq => by obtain ⟨rfl, rfl⟩ := hq; exact kk)
  rw [Nat.zero_add, Nat.zero_add] at e9
  exact e9
theorem clL_18 {dj : Nat} {as : List Value} {i : Nat} {r : Int32} {hr : hp_H} (ho : own = RL) (hM : hp_Cn l yX8_ofPerson mX8_ofPerson dj zz 0 0 (.ref i :: as) h (fun v h2 => some (.int r) = v ∧ hr = h2)) (hla : as.length = 2) (hd : dj + 1 ≤ d) (hrest : (st.map fun v => v.category).sum ≤ 8) {fs : List Value} (hov : hg_o h i 7 = some fs) (hdg : decode cc pc = .ok (.invokevirtual 18, 3)) {st0 : List Value} (hst : st0 = as.reverse ++ .ref i :: st) (kk : hp_G l (own, cc, nL, rt, ini) X d zr Q zz k n (pc + 3) lv (.int r :: st) hr) : hp_G l (own, cc, nL, rt, ini) X d zr Q zz k n pc lv st0 h := by
  subst ho
  have e9 := hp_callV (dj := dj) (k := k) (n := n) (y := yX8_ofPerson) (mj := mX8_ofPerson) hM hd (by decide) hrest (by rw [hla]; (try dsimp only); decide +kernel) wd_338 (List.forall_mem_cons.mpr ⟨wd_339, (List.forall_mem_cons.mpr ⟨wd_340, (List.forall_mem_cons.mpr ⟨wd_73, (List.forall_mem_cons.mpr ⟨wd_341, (fun _ h => absurd h List.not_mem_nil)⟩)⟩)⟩)⟩) hov rfl hdg hst (fun v h' hq => by obtain ⟨rfl, rfl⟩ := hq; exact kk)
  rw [Nat.zero_add, Nat.zero_add] at e9
  exact e9
theorem clL_22 {dj : Nat} {as : List Value} {i : Nat} {r : Int32} {hr : hp_H} (ho : own = RL) (hM : hp_Cn l yX9_ofPerson mX9_ofPerson dj zz 0 0 (.ref i :: as) h (fun v h2 => some (.int r) = v ∧ hr = h2)) (hla : as.length = 2) (hd : dj + 1 ≤ d) (hrest : (st.map fun v => v.category).sum ≤ 8) {fs : List Value} (hov : hg_o h i 8 = some fs) (hdg : decode cc pc = .ok (.invokevirtual 22, 3)) {st0 : List Value} (hst : st0 = as.reverse ++ .ref i :: st) (kk : hp_G l (own, cc, nL, rt, ini) X d zr Q zz k n (pc + 3) lv (.int r :: st) hr) : hp_G l (own, cc, nL, rt, ini) X d zr Q zz k n pc lv st0 h := by
  subst ho
  have e9 := hp_callV (dj := dj) (k := k) (n := n) (y := yX9_ofPerson) (mj := mX9_ofPerson) hM hd (by decide) hrest (by rw [hla]; (try dsimp only); decide +kernel) wd_796 (List.forall_mem_cons.mpr ⟨wd_797, (List.forall_mem_cons.mpr ⟨wd_798, (List.forall_mem_cons.mpr ⟨wd_81, (List.forall_mem_cons.mpr ⟨wd_799, (fun _ h => absurd h List.not_mem_nil)⟩)⟩)⟩)⟩) hov rfl hdg hst (fun v h' hq => by obtain ⟨rfl, rfl⟩ := hq; exact kk)
  rw [Nat.zero_add, Nat.zero_add] at e9
  exact e9
theorem clL_23 {dj : Nat} {as : List Value} {i : Nat} {r : Int32} {hr : hp_H} (ho : own = RL) (hM : hp_Cn l yX8_train mX8_train dj zz 0 0 (.ref i :: as) h (fun v h2 => some (.int r) = v ∧ hr = h2)) (hla : as.length = 2) (hd : dj + 1 ≤ d) (hrest : (st.map fun v => v.category).sum ≤ 8) {fs : List Value} (hov : hg_o h i 7 = some fs) (hdg : decode cc pc = .ok (.invokevirtual 23, 3)) {st0 : List Value} (hst : st0 = as.reverse ++ .ref i :: st) (kk : hp_G l (own, cc, nL, rt, ini) X d zr Q zz k n (pc + 3) lv (.int r :: st) hr) : hp_G l (own, cc, nL, rt, ini) X d zr Q zz k n pc lv st0 h := by
  subst ho
  have e9 := hp_callV (dj := dj) (k := k) (n := n) (y := yX8_train) (mj := mX8_train) hM hd (by decide) hrest (by rw [hla]; (try dsimp only); decide +kernel) wd_360 (List.forall_mem_cons.mpr ⟨wd_361, (List.forall_mem_cons.mpr ⟨wd_362, (List.forall_mem_cons.mpr ⟨wd_73, (List.forall_mem_cons.mpr ⟨wd_363, (fun _ h => absurd h List.not_mem_nil)⟩)⟩)⟩)⟩) hov rfl hdg hst (fun v h' hq => by obtain ⟨rfl, rfl⟩ := hq; exact kk)
  rw [Nat.zero_add, Nat.zero_add] at e9
  exact e9
theorem clL_26 {dj : Nat} {as : List Value} {i : Nat} {r : Int32} {hr : hp_H} (ho : own = RL) (hM : hp_Cn l yX9_train mX9_train dj zz 0 0 (.ref i :: as) h (fun v h2 => some (.int r) = v ∧ hr = h2)) (hla : as.length = 2) (hd : dj + 1 ≤ d) (hrest : (st.map fun v => v.category).sum ≤ 8) {fs : List Value} (hov : hg_o h i 8 = some fs) (hdg : decode cc pc = .ok (.invokevirtual 26, 3)) {st0 : List Value} (hst : st0 = as.reverse ++ .ref i :: st) (kk : hp_G l (own, cc, nL, rt, ini) X d zr Q zz k n (pc + 3) lv (.int r :: st) hr) : hp_G l (own, cc, nL, rt, ini) X d zr Q zz k n pc lv st0 h := by
  subst ho
  have e9 := hp_callV (dj := dj) (k := k) (n := n) (y := yX9_train) (mj := mX9_train) hM hd (by decide) hrest (by rw [hla]; (try dsimp only); decide +kernel) wd_812 (List.forall_mem_cons.mpr ⟨wd_813, (List.forall_mem_cons.mpr ⟨wd_814, (List.forall_mem_cons.mpr ⟨wd_81, (List.forall_mem_cons.mpr ⟨wd_815, (fun _ h => absurd h List.not_mem_nil)⟩)⟩)⟩)⟩) hov rfl hdg hst (fun v h' hq => by obtain ⟨rfl, rfl⟩ := hq; exact kk)
  rw [Nat.zero_add, Nat.zero_add] at e9
  exact e9
theorem clL_27 {dj : Nat} {as : List Value} {i : Nat} {r : Int32} {hr : hp_H} (ho : own = RL) (hM : hp_Cn l yX8_learn mX8_learn dj zz 0 0 (.ref i :: as) h (fun v h2 => some (.int r) = v ∧ hr = h2)) (hla : as.length = 2) (hd : dj + 1 ≤ d) (hrest : (st.map fun v => v.category).sum ≤ 8) {fs : List Value} (hov : hg_o h i 7 = some fs) (hdg : decode cc pc = .ok (.invokevirtual 27, 3)) {st0 : List Value} (hst : st0 = as.reverse ++ .ref i :: st) (kk : hp_G l (own, cc, nL, rt, ini) X d zr Q zz k n (pc + 3) lv (.int r :: st) hr) : hp_G l (own, cc, nL, rt, ini) X d zr Q zz k n pc lv st0 h := by
  subst ho
  have e9 := hp_callV (dj := dj) (k := k) (n := n) (y := yX8_learn) (mj := mX8_learn) hM hd (by decide) hrest (by rw [hla]; (try dsimp only); decide +kernel) wd_373 (List.forall_mem_cons.mpr ⟨wd_374, (List.forall_mem_cons.mpr ⟨wd_375, (List.forall_mem_cons.mpr ⟨wd_73, (List.forall_mem_cons.mpr ⟨wd_376, (fun _ h => absurd h List.not_mem_nil)⟩)⟩)⟩)⟩) hov rfl hdg hst (fun v h' hq => by obtain ⟨rfl, rfl⟩ := hq; exact kk)
  rw [Nat.zero_add, Nat.zero_add] at e9
  exact e9
theorem clL_30 {dj : Nat} {as : List Value} {i : Nat} {r : Int32} {hr : hp_H} (ho : own = RL) (hM : hp_Cn l yX9_learn mX9_learn dj zz 0 0 (.ref i :: as) h (fun v h2 => some (.int r) = v ∧ hr = h2)) (hla : as.length = 2) (hd : dj + 1 ≤ d) (hrest : (st.map fun v => v.category).sum ≤ 8) {fs : List Value} (hov : hg_o h i 8 = some fs) (hdg : decode cc pc = .ok (.invokevirtual 30, 3)) {st0 : List Value} (hst : st0 = as.reverse ++ .ref i :: st) (kk : hp_G l (own, cc, nL, rt, ini) X d zr Q zz k n (pc + 3) lv (.int r :: st) hr) : hp_G l (own, cc, nL, rt, ini) X d zr Q zz k n pc lv st0 h := by
  subst ho
  have e9 := hp_callV (dj := dj) (k := k) (n := n) (y := yX9_learn) (mj := mX9_learn) hM hd (by decide) hrest (by rw [hla]; (try dsimp only); decide +kernel) wd_816 (List.forall_mem_cons.mpr ⟨wd_817, (List.forall_mem_cons.mpr ⟨wd_818, (List.forall_mem_cons.mpr ⟨wd_81, (List.forall_mem_cons.mpr ⟨wd_819, (fun _ h => absurd h List.not_mem_nil)⟩)⟩)⟩)⟩) hov rfl hdg hst (fun v h' hq => by obtain ⟨rfl, rfl⟩ := hq; exact kk)
  rw [Nat.zero_add, Nat.zero_add] at e9
  exact e9
theorem clL_31 {dj : Nat} {as : List Value} {i : Nat} {r : Int32} {hr : hp_H} (ho : own = RL) (hM : hp_Cn l yX8_game mX8_game dj zz 0 0 (.ref i :: as) h (fun v h2 => some (.int r) = v ∧ hr = h2)) (hla : as.length = 4) (hd : dj + 1 ≤ d) (hrest : (st.map fun v => v.category).sum ≤ 8) {fs : List Value} (hov : hg_o h i 7 = some fs) (hdg : decode cc pc = .ok (.invokevirtual 31, 3)) {st0 : List Value} (hst : st0 = as.reverse ++ .ref i :: st) (kk : hp_G l (own, cc, nL, rt, ini) X d zr Q zz k n (pc + 3) lv (.int r :: st) hr) : hp_G l (own, cc, nL, rt, ini) X d zr Q zz k n pc lv st0 h := by
  subst ho
  have e9 := hp_callV (dj := dj) (k := k) (n := n) (y := yX8_game) (mj := mX8_game) hM hd (by decide) hrest (by rw [hla]; (try dsimp only); decide +kernel) wd_377 (List.forall_mem_cons.mpr ⟨wd_378, (List.forall_mem_cons.mpr ⟨wd_379, (List.forall_mem_cons.mpr ⟨wd_73, (List.forall_mem_cons.mpr ⟨wd_380, (fun _ h => absurd h List.not_mem_nil)⟩)⟩)⟩)⟩) hov rfl hdg hst (fun v h' hq => by obtain ⟨rfl, rfl⟩ := hq; exact kk)
  rw [Nat.zero_add, Nat.zero_add] at e9
  exact e9
theorem clL_34 {dj : Nat} {as : List Value} {i : Nat} {r : Int32} {hr : hp_H} (ho : own = RL) (hM : hp_Cn l yX9_game mX9_game dj zz 0 0 (.ref i :: as) h (fun v h2 => some (.int r) = v ∧ hr = h2)) (hla : as.length = 4) (hd : dj + 1 ≤ d) (hrest : (st.map fun v => v.category).sum ≤ 8) {fs : List Value} (hov : hg_o h i 8 = some fs) (hdg : decode cc pc = .ok (.invokevirtual 34, 3)) {st0 : List Value} (hst : st0 = as.reverse ++ .ref i :: st) (kk : hp_G l (own, cc, nL, rt, ini) X d zr Q zz k n (pc + 3) lv (.int r :: st) hr) : hp_G l (own, cc, nL, rt, ini) X d zr Q zz k n pc lv st0 h := by
  subst ho
  have e9 := hp_callV (dj := dj) (k := k) (n := n) (y := yX9_game) (mj := mX9_game) hM hd (by decide) hrest (by rw [hla]; (try dsimp only); decide +kernel) wd_820 (List.forall_mem_cons.mpr ⟨wd_821, (List.forall_mem_cons.mpr ⟨wd_822, (List.forall_mem_cons.mpr ⟨wd_81, (List.forall_mem_cons.mpr ⟨wd_823, (fun _ h => absurd h List.not_mem_nil)⟩)⟩)⟩)⟩) hov rfl hdg hst (fun v h' hq => by obtain ⟨rfl, rfl⟩ := hq; exact kk)
  rw [Nat.zero_add, Nat.zero_add] at e9
  exact e9
theorem clL_35 {dj : Nat} {as : List Value} {i : Nat} {r : Int32} {hr : hp_H} (ho : own = RL) (hM : hp_Cn l yX8_shy mX8_shy dj zz 0 0 (.ref i :: as) h (fun v h2 => some (.int r) = v ∧ hr = h2)) (hla : as.length = 2) (hd : dj + 1 ≤ d) (hrest : (st.map fun v => v.category).sum ≤ 8) {fs : List Value} (hov : hg_o h i 7 = some fs) (hdg : decode cc pc = .ok (.invokevirtual 35, 3)) {st0 : List Value} (hst : st0 = as.reverse ++ .ref i :: st) (kk : hp_G l (own, cc, nL, rt, ini) X d zr Q zz k n (pc + 3) lv (.int r :: st) hr) : hp_G l (own, cc, nL, rt, ini) X d zr Q zz k n pc lv st0 h := by
  subst ho
  have e9 := hp_callV (dj := dj) (k := k) (n := n) (y := yX8_shy) (mj := mX8_shy) hM hd (by decide) hrest (by rw [hla]; (try dsimp only); decide +kernel) wd_399 (List.forall_mem_cons.mpr ⟨wd_400, (List.forall_mem_cons.mpr ⟨wd_401, (List.forall_mem_cons.mpr ⟨wd_73, (List.forall_mem_cons.mpr ⟨wd_402, (fun _ h => absurd h List.not_mem_nil)⟩)⟩)⟩)⟩) hov rfl hdg hst (fun v h' hq => by obtain ⟨rfl, rfl⟩ := hq; exact kk)
  rw [Nat.zero_add, Nat.zero_add] at e9
  exact e9
theorem clL_38 {dj : Nat} {as : List Value} {i : Nat} {r : Int32} {hr : hp_H} (ho : own = RL) (hM : hp_Cn l yX9_shy mX9_shy dj zz 0 0 (.ref i :: as) h (fun v h2 => some (.int r) = v ∧ hr = h2)) (hla : as.length = 2) (hd : dj + 1 ≤ d) (hrest : (st.map fun v => v.category).sum ≤ 8) {fs : List Value} (hov : hg_o h i 8 = some fs) (hdg : decode cc pc = .ok (.invokevirtual 38, 3)) {st0 : List Value} (hst : st0 = as.reverse ++ .ref i :: st) (kk : hp_G l (own, cc, nL, rt, ini) X d zr Q zz k n (pc + 3) lv (.int r :: st) hr) : hp_G l (own, cc, nL, rt, ini) X d zr Q zz k n pc lv st0 h := by
  subst ho
  have e9 := hp_callV (dj := dj) (k := k) (n := n) (y := yX9_shy) (mj := mX9_shy) hM hd (by decide) hrest (by rw [hla]; (try dsimp only); decide +kernel) wd_839 (List.forall_mem_cons.mpr ⟨wd_840, (List.forall_mem_cons.mpr ⟨wd_841, (List.forall_mem_cons.mpr ⟨wd_81, (List.forall_mem_cons.mpr ⟨wd_842, (fun _ h => absurd h List.not_mem_nil)⟩)⟩)⟩)⟩) hov rfl hdg hst (fun v h' hq => by obtain ⟨rfl, rfl⟩ := hq; exact kk)
  rw [Nat.zero_add, Nat.zero_add] at e9
  exact e9
theorem clL_39 {dj : Nat} {as : List Value} {i : Nat} {r : Int32} {hr : hp_H} (ho : own = RL) (hM : hp_Cn l yX8_fetch mX8_fetch dj zz 0 0 (.ref i :: as) h (fun v h2 => some (.int r) = v ∧ hr = h2)) (hla : as.length = 1) (hd : dj + 1 ≤ d) (hrest : (st.map fun v => v.category).sum ≤ 8) {fs : List Value} (hov : hg_o h i 7 = some fs) (hdg : decode cc pc = .ok (.invokevirtual 39, 3)) {st0 : List Value} (hst : st0 = as.reverse ++ .ref i :: st) (kk : hp_G l (own, cc, nL, rt, ini) X d zr Q zz k n (pc + 3) lv (.int r :: st) hr) : hp_G l (own, cc, nL, rt, ini) X d zr Q zz k n pc lv st0 h := by
  subst ho
  have e9 := hp_callV (dj := dj) (k := k) (n := n) (y := yX8_fetch) (mj := mX8_fetch) hM hd (by decide) hrest (by rw [hla]; (try dsimp only); decide +kernel) wd_404 (List.forall_mem_cons.mpr ⟨wd_405, (List.forall_mem_cons.mpr ⟨wd_406, (List.forall_mem_cons.mpr ⟨wd_73, (List.forall_mem_cons.mpr ⟨wd_407, (fun _ h => absurd h List.not_mem_nil)⟩)⟩)⟩)⟩) hov rfl hdg hst (fun v h' hq => by obtain ⟨rfl, rfl⟩ := hq; exact kk)
  rw [Nat.zero_add, Nat.zero_add] at e9
  exact e9
theorem clL_43 {dj : Nat} {as : List Value} {i : Nat} {r : Int32} {hr : hp_H} (ho : own = RL) (hM : hp_Cn l yX9_fetch mX9_fetch dj zz 0 0 (.ref i :: as) h (fun v h2 => some (.int r) = v ∧ hr = h2)) (hla : as.length = 1) (hd : dj + 1 ≤ d) (hrest : (st.map fun v => v.category).sum ≤ 8) {fs : List Value} (hov : hg_o h i 8 = some fs) (hdg : decode cc pc = .ok (.invokevirtual 43, 3)) {st0 : List Value} (hst : st0 = as.reverse ++ .ref i :: st) (kk : hp_G l (own, cc, nL, rt, ini) X d zr Q zz k n (pc + 3) lv (.int r :: st) hr) : hp_G l (own, cc, nL, rt, ini) X d zr Q zz k n pc lv st0 h := by
  subst ho
  have e9 := hp_callV (dj := dj) (k := k) (n := n) (y := yX9_fetch) (mj := mX9_fetch) hM hd (by decide) hrest (by rw [hla]; (try dsimp only); decide +kernel) wd_843 (List.forall_mem_cons.mpr ⟨wd_844, (List.forall_mem_cons.mpr ⟨wd_845, (List.forall_mem_cons.mpr ⟨wd_81, (List.forall_mem_cons.mpr ⟨wd_846, (fun _ h => absurd h List.not_mem_nil)⟩)⟩)⟩)⟩) hov rfl hdg hst (fun v h' hq => by obtain ⟨rfl, rfl⟩ := hq; exact kk)
  rw [Nat.zero_add, Nat.zero_add] at e9
  exact e9
theorem clL_44 {dj : Nat} {as : List Value} {i : Nat} {r : Int32} {hr : hp_H} (ho : own = RL) (hM : hp_Cn l yX8_season mX8_season dj zz 0 0 (.ref i :: as) h (fun v h2 => some (.int r) = v ∧ hr = h2)) (hla : as.length = 5) (hd : dj + 1 ≤ d) (hrest : (st.map fun v => v.category).sum ≤ 8) {fs : List Value} (hov : hg_o h i 7 = some fs) (hdg : decode cc pc = .ok (.invokevirtual 44, 3)) {st0 : List Value} (hst : st0 = as.reverse ++ .ref i :: st) (kk : hp_G l (own, cc, nL, rt, ini) X d zr Q zz k n (pc + 3) lv (.int r :: st) hr) : hp_G l (own, cc, nL, rt, ini) X d zr Q zz k n pc lv st0 h := by
  subst ho
  have e9 := hp_callV (dj := dj) (k := k) (n := n) (y := yX8_season) (mj := mX8_season) hM hd (by decide) hrest (by rw [hla]; (try dsimp only); decide +kernel) wd_418 (List.forall_mem_cons.mpr ⟨wd_419, (List.forall_mem_cons.mpr ⟨wd_420, (List.forall_mem_cons.mpr ⟨wd_73, (List.forall_mem_cons.mpr ⟨wd_421, (fun _ h => absurd h List.not_mem_nil)⟩)⟩)⟩)⟩) hov rfl hdg hst (fun v h' hq => by obtain ⟨rfl, rfl⟩ := hq; exact kk)
  rw [Nat.zero_add, Nat.zero_add] at e9
  exact e9
theorem clL_48 {dj : Nat} {as : List Value} {i : Nat} {r : Int32} {hr : hp_H} (ho : own = RL) (hM : hp_Cn l yX9_season mX9_season dj zz 0 0 (.ref i :: as) h (fun v h2 => some (.int r) = v ∧ hr = h2)) (hla : as.length = 5) (hd : dj + 1 ≤ d) (hrest : (st.map fun v => v.category).sum ≤ 8) {fs : List Value} (hov : hg_o h i 8 = some fs) (hdg : decode cc pc = .ok (.invokevirtual 48, 3)) {st0 : List Value} (hst : st0 = as.reverse ++ .ref i :: st) (kk : hp_G l (own, cc, nL, rt, ini) X d zr Q zz k n (pc + 3) lv (.int r :: st) hr) : hp_G l (own, cc, nL, rt, ini) X d zr Q zz k n pc lv st0 h := by
  subst ho
  have e9 := hp_callV (dj := dj) (k := k) (n := n) (y := yX9_season) (mj := mX9_season) hM hd (by decide) hrest (by rw [hla]; (try dsimp only); decide +kernel) wd_850 (List.forall_mem_cons.mpr ⟨wd_851, (List.forall_mem_cons.mpr ⟨wd_852, (List.forall_mem_cons.mpr ⟨wd_81, (List.forall_mem_cons.mpr ⟨wd_853, (fun _ h => absurd h List.not_mem_nil)⟩)⟩)⟩)⟩) hov rfl hdg hst (fun v h' hq => by obtain ⟨rfl, rfl⟩ := hq; exact kk)
  rw [Nat.zero_add, Nat.zero_add] at e9
  exact e9
theorem clL_49 {dj : Nat} {as : List Value} {i : Nat} {r : Int32} {hr : hp_H} (ho : own = RL) (hM : hp_Cn l yX8_safe mX8_safe dj zz 0 0 (.ref i :: as) h (fun v h2 => some (.int r) = v ∧ hr = h2)) (hla : as.length = 2) (hd : dj + 1 ≤ d) (hrest : (st.map fun v => v.category).sum ≤ 8) {fs : List Value} (hov : hg_o h i 7 = some fs) (hdg : decode cc pc = .ok (.invokevirtual 49, 3)) {st0 : List Value} (hst : st0 = as.reverse ++ .ref i :: st) (kk : hp_G l (own, cc, nL, rt, ini) X d zr Q zz k n (pc + 3) lv (.int r :: st) hr) : hp_G l (own, cc, nL, rt, ini) X d zr Q zz k n pc lv st0 h := by
  subst ho
  have e9 := hp_callV (dj := dj) (k := k) (n := n) (y := yX8_safe) (mj := mX8_safe) hM hd (by decide) hrest (by rw [hla]; (try dsimp only); decide +kernel) wd_469 (List.forall_mem_cons.mpr ⟨wd_470, (List.forall_mem_cons.mpr ⟨wd_471, (List.forall_mem_cons.mpr ⟨wd_73, (List.forall_mem_cons.mpr ⟨wd_472, (fun _ h => absurd h List.not_mem_nil)⟩)⟩)⟩)⟩) hov rfl hdg hst (fun v h' hq => by obtain ⟨rfl, rfl⟩ := hq; exact kk)
  rw [Nat.zero_add, Nat.zero_add] at e9
  exact e9
theorem clL_52 {dj : Nat} {as : List Value} {i : Nat} {r : Int32} {hr : hp_H} (ho : own = RL) (hM : hp_Cn l yX9_safe mX9_safe dj zz 0 0 (.ref i :: as) h (fun v h2 => some (.int r) = v ∧ hr = h2)) (hla : as.length = 2) (hd : dj + 1 ≤ d) (hrest : (st.map fun v => v.category).sum ≤ 8) {fs : List Value} (hov : hg_o h i 8 = some fs) (hdg : decode cc pc = .ok (.invokevirtual 52, 3)) {st0 : List Value} (hst : st0 = as.reverse ++ .ref i :: st) (kk : hp_G l (own, cc, nL, rt, ini) X d zr Q zz k n (pc + 3) lv (.int r :: st) hr) : hp_G l (own, cc, nL, rt, ini) X d zr Q zz k n pc lv st0 h := by
  subst ho
  have e9 := hp_callV (dj := dj) (k := k) (n := n) (y := yX9_safe) (mj := mX9_safe) hM hd (by decide) hrest (by rw [hla]; (try dsimp only); decide +kernel) wd_870 (List.forall_mem_cons.mpr ⟨wd_871, (List.forall_mem_cons.mpr ⟨wd_872, (List.forall_mem_cons.mpr ⟨wd_81, (List.forall_mem_cons.mpr ⟨wd_873, (fun _ h => absurd h List.not_mem_nil)⟩)⟩)⟩)⟩) hov rfl hdg hst (fun v h' hq => by obtain ⟨rfl, rfl⟩ := hq; exact kk)
  rw [Nat.zero_add, Nat.zero_add] at e9
  exact e9
theorem clL_53 {dj : Nat} {as : List Value} {i : Nat} {r : Int32} {hr : hp_H} (ho : own = RL) (hM : hp_Cn l yX8_sure mX8_sure dj zz 0 0 (.ref i :: as) h (fun v h2 => some (.int r) = v ∧ hr = h2)) (hla : as.length = 1) (hd : dj + 1 ≤ d) (hrest : (st.map fun v => v.category).sum ≤ 8) {fs : List Value} (hov : hg_o h i 7 = some fs) (hdg : decode cc pc = .ok (.invokevirtual 53, 3)) {st0 : List Value} (hst : st0 = as.reverse ++ .ref i :: st) (kk : hp_G l (own, cc, nL, rt, ini) X d zr Q zz k n (pc + 3) lv (.int r :: st) hr) : hp_G l (own, cc, nL, rt, ini) X d zr Q zz k n pc lv st0 h := by
  subst ho
  have e9 := hp_callV (dj := dj) (k := k) (n := n) (y := yX8_sure) (mj := mX8_sure) hM hd (by decide) hrest (by rw [hla]; (try dsimp only); decide +kernel) wd_473 (List.forall_mem_cons.mpr ⟨wd_474, (List.forall_mem_cons.mpr ⟨wd_475, (List.forall_mem_cons.mpr ⟨wd_73, (List.forall_mem_cons.mpr ⟨wd_476, (fun _ h => absurd h List.not_mem_nil)⟩)⟩)⟩)⟩) hov rfl hdg hst (fun v h' hq => by obtain ⟨rfl, rfl⟩ := hq; exact kk)
  rw [Nat.zero_add, Nat.zero_add] at e9
  exact e9
theorem clL_56 {dj : Nat} {as : List Value} {i : Nat} {r : Int32} {hr : hp_H} (ho : own = RL) (hM : hp_Cn l yX9_sure mX9_sure dj zz 0 0 (.ref i :: as) h (fun v h2 => some (.int r) = v ∧ hr = h2)) (hla : as.length = 1) (hd : dj + 1 ≤ d) (hrest : (st.map fun v => v.category).sum ≤ 8) {fs : List Value} (hov : hg_o h i 8 = some fs) (hdg : decode cc pc = .ok (.invokevirtual 56, 3)) {st0 : List Value} (hst : st0 = as.reverse ++ .ref i :: st) (kk : hp_G l (own, cc, nL, rt, ini) X d zr Q zz k n (pc + 3) lv (.int r :: st) hr) : hp_G l (own, cc, nL, rt, ini) X d zr Q zz k n pc lv st0 h := by
  subst ho
  have e9 := hp_callV (dj := dj) (k := k) (n := n) (y := yX9_sure) (mj := mX9_sure) hM hd (by decide) hrest (by rw [hla]; (try dsimp only); decide +kernel) wd_874 (List.forall_mem_cons.mpr ⟨wd_875, (List.forall_mem_cons.mpr ⟨wd_876, (List.forall_mem_cons.mpr ⟨wd_81, (List.forall_mem_cons.mpr ⟨wd_877, (fun _ h => absurd h List.not_mem_nil)⟩)⟩)⟩)⟩) hov rfl hdg hst (fun v h' hq => by obtain ⟨rfl, rfl⟩ := hq; exact kk)
  rw [Nat.zero_add, Nat.zero_add] at e9
  exact e9
theorem clL_57 {dj : Nat} {as : List Value} {i : Nat} {r : Int32} {hr : hp_H} (ho : own = RL) (hM : hp_Cn l yX8_common mX8_common dj zz 0 0 (.ref i :: as) h (fun v h2 => some (.int r) = v ∧ hr = h2)) (hla : as.length = 2) (hd : dj + 1 ≤ d) (hrest : (st.map fun v => v.category).sum ≤ 8) {fs : List Value} (hov : hg_o h i 7 = some fs) (hdg : decode cc pc = .ok (.invokevirtual 57, 3)) {st0 : List Value} (hst : st0 = as.reverse ++ .ref i :: st) (kk : hp_G l (own, cc, nL, rt, ini) X d zr Q zz k n (pc + 3) lv (.int r :: st) hr) : hp_G l (own, cc, nL, rt, ini) X d zr Q zz k n pc lv st0 h := by
  subst ho
  have e9 := hp_callV (dj := dj) (k := k) (n := n) (y := yX8_common) (mj := mX8_common) hM hd (by decide) hrest (by rw [hla]; (try dsimp only); decide +kernel) wd_477 (List.forall_mem_cons.mpr ⟨wd_478, (List.forall_mem_cons.mpr ⟨wd_479, (List.forall_mem_cons.mpr ⟨wd_73, (List.forall_mem_cons.mpr ⟨wd_480, (fun _ h => absurd h List.not_mem_nil)⟩)⟩)⟩)⟩) hov rfl hdg hst (fun v h' hq => by obtain ⟨rfl, rfl⟩ := hq; exact kk)
  rw [Nat.zero_add, Nat.zero_add] at e9
  exact e9
theorem clL_60 {dj : Nat} {as : List Value} {i : Nat} {r : Int32} {hr : hp_H} (ho : own = RL) (hM : hp_Cn l yX9_common mX9_common dj zz 0 0 (.ref i :: as) h (fun v h2 => some (.int r) = v ∧ hr = h2)) (hla : as.length = 2) (hd : dj + 1 ≤ d) (hrest : (st.map fun v => v.category).sum ≤ 8) {fs : List Value} (hov : hg_o h i 8 = some fs) (hdg : decode cc pc = .ok (.invokevirtual 60, 3)) {st0 : List Value} (hst : st0 = as.reverse ++ .ref i :: st) (kk : hp_G l (own, cc, nL, rt, ini) X d zr Q zz k n (pc + 3) lv (.int r :: st) hr) : hp_G l (own, cc, nL, rt, ini) X d zr Q zz k n pc lv st0 h := by
  subst ho
  have e9 := hp_callV (dj := dj) (k := k) (n := n) (y := yX9_common) (mj := mX9_common) hM hd (by decide) hrest (by rw [hla]; (try dsimp only); decide +kernel) wd_878 (List.forall_mem_cons.mpr ⟨wd_879, (List.forall_mem_cons.mpr ⟨wd_880, (List.forall_mem_cons.mpr ⟨wd_81, (List.forall_mem_cons.mpr ⟨wd_881, (fun _ h => absurd h List.not_mem_nil)⟩)⟩)⟩)⟩) hov rfl hdg hst (fun v h' hq => by obtain ⟨rfl, rfl⟩ := hq; exact kk)
  rw [Nat.zero_add, Nat.zero_add] at e9
  exact e9
theorem clL_61 {dj : Nat} {as : List Value} {i : Nat} {r : Int32} {hr : hp_H} (ho : own = RL) (hM : hp_Cn l yX8_pairs mX8_pairs dj zz 0 0 (.ref i :: as) h (fun v h2 => some (.int r) = v ∧ hr = h2)) (hla : as.length = 1) (hd : dj + 1 ≤ d) (hrest : (st.map fun v => v.category).sum ≤ 8) {fs : List Value} (hov : hg_o h i 7 = some fs) (hdg : decode cc pc = .ok (.invokevirtual 61, 3)) {st0 : List Value} (hst : st0 = as.reverse ++ .ref i :: st) (kk : hp_G l (own, cc, nL, rt, ini) X d zr Q zz k n (pc + 3) lv (.int r :: st) hr) : hp_G l (own, cc, nL, rt, ini) X d zr Q zz k n pc lv st0 h := by
  subst ho
  have e9 := hp_callV (dj := dj) (k := k) (n := n) (y := yX8_pairs) (mj := mX8_pairs) hM hd (by decide) hrest (by rw [hla]; (try dsimp only); decide +kernel) wd_483 (List.forall_mem_cons.mpr ⟨wd_484, (List.forall_mem_cons.mpr ⟨wd_485, (List.forall_mem_cons.mpr ⟨wd_73, (List.forall_mem_cons.mpr ⟨wd_486, (fun _ h => absurd h List.not_mem_nil)⟩)⟩)⟩)⟩) hov rfl hdg hst (fun v h' hq => by obtain ⟨rfl, rfl⟩ := hq; exact kk)
  rw [Nat.zero_add, Nat.zero_add] at e9
  exact e9
theorem clL_64 {dj : Nat} {as : List Value} {i : Nat} {r : Int32} {hr : hp_H} (ho : own = RL) (hM : hp_Cn l yX9_pairs mX9_pairs dj zz 0 0 (.ref i :: as) h (fun v h2 => some (.int r) = v ∧ hr = h2)) (hla : as.length = 1) (hd : dj + 1 ≤ d) (hrest : (st.map fun v => v.category).sum ≤ 8) {fs : List Value} (hov : hg_o h i 8 = some fs) (hdg : decode cc pc = .ok (.invokevirtual 64, 3)) {st0 : List Value} (hst : st0 = as.reverse ++ .ref i :: st) (kk : hp_G l (own, cc, nL, rt, ini) X d zr Q zz k n (pc + 3) lv (.int r :: st) hr) : hp_G l (own, cc, nL, rt, ini) X d zr Q zz k n pc lv st0 h := by
  subst ho
  have e9 := hp_callV (dj := dj) (k := k) (n := n) (y := yX9_pairs) (mj := mX9_pairs) hM hd (by decide) hrest (by rw [hla]; (try dsimp only); decide +kernel) wd_882 (List.forall_mem_cons.mpr ⟨wd_883, (List.forall_mem_cons.mpr ⟨wd_884, (List.forall_mem_cons.mpr ⟨wd_81, (List.forall_mem_cons.mpr ⟨wd_885, (fun _ h => absurd h List.not_mem_nil)⟩)⟩)⟩)⟩) hov rfl hdg hst (fun v h' hq => by obtain ⟨rfl, rfl⟩ := hq; exact kk)
  rw [Nat.zero_add, Nat.zero_add] at e9
  exact e9
theorem clL_65 {dj : Nat} {as : List Value} {i : Nat} {r : Int32} {hr : hp_H} (ho : own = RL) (hM : hp_Cn l yX8_orders mX8_orders dj zz 0 0 (.ref i :: as) h (fun v h2 => some (.int r) = v ∧ hr = h2)) (hla : as.length = 5) (hd : dj + 1 ≤ d) (hrest : (st.map fun v => v.category).sum ≤ 8) {fs : List Value} (hov : hg_o h i 7 = some fs) (hdg : decode cc pc = .ok (.invokevirtual 65, 3)) {st0 : List Value} (hst : st0 = as.reverse ++ .ref i :: st) (kk : hp_G l (own, cc, nL, rt, ini) X d zr Q zz k n (pc + 3) lv (.int r :: st) hr) : hp_G l (own, cc, nL, rt, ini) X d zr Q zz k n pc lv st0 h := by
  subst ho
  have e9 := hp_callV (dj := dj) (k := k) (n := n) (y := yX8_orders) (mj := mX8_orders) hM hd (by decide) hrest (by rw [hla]; (try dsimp only); decide +kernel) wd_504 (List.forall_mem_cons.mpr ⟨wd_505, (List.forall_mem_cons.mpr ⟨wd_506, (List.forall_mem_cons.mpr ⟨wd_73, (List.forall_mem_cons.mpr ⟨wd_507, (fun _ h => absurd h List.not_mem_nil)⟩)⟩)⟩)⟩) hov rfl hdg hst (fun v h' hq => by obtain ⟨rfl, rfl⟩ := hq; exact kk)
  rw [Nat.zero_add, Nat.zero_add] at e9
  exact e9
theorem clL_68 {dj : Nat} {as : List Value} {i : Nat} {r : Int32} {hr : hp_H} (ho : own = RL) (hM : hp_Cn l yX9_orders mX9_orders dj zz 0 0 (.ref i :: as) h (fun v h2 => some (.int r) = v ∧ hr = h2)) (hla : as.length = 5) (hd : dj + 1 ≤ d) (hrest : (st.map fun v => v.category).sum ≤ 8) {fs : List Value} (hov : hg_o h i 8 = some fs) (hdg : decode cc pc = .ok (.invokevirtual 68, 3)) {st0 : List Value} (hst : st0 = as.reverse ++ .ref i :: st) (kk : hp_G l (own, cc, nL, rt, ini) X d zr Q zz k n (pc + 3) lv (.int r :: st) hr) : hp_G l (own, cc, nL, rt, ini) X d zr Q zz k n pc lv st0 h := by
  subst ho
  have e9 := hp_callV (dj := dj) (k := k) (n := n) (y := yX9_orders) (mj := mX9_orders) hM hd (by decide) hrest (by rw [hla]; (try dsimp only); decide +kernel) wd_910 (List.forall_mem_cons.mpr ⟨wd_911, (List.forall_mem_cons.mpr ⟨wd_912, (List.forall_mem_cons.mpr ⟨wd_81, (List.forall_mem_cons.mpr ⟨wd_913, (fun _ h => absurd h List.not_mem_nil)⟩)⟩)⟩)⟩) hov rfl hdg hst (fun v h' hq => by obtain ⟨rfl, rfl⟩ := hq; exact kk)
  rw [Nat.zero_add, Nat.zero_add] at e9
  exact e9
theorem clL_69 {dj : Nat} {as : List Value} {i : Nat} {r : Int32} {hr : hp_H} (ho : own = RL) (hM : hp_Cn l yX8_drops mX8_drops dj zz 0 0 (.ref i :: as) h (fun v h2 => some (.int r) = v ∧ hr = h2)) (hla : as.length = 4) (hd : dj + 1 ≤ d) (hrest : (st.map fun v => v.category).sum ≤ 8) {fs : List Value} (hov : hg_o h i 7 = some fs) (hdg : decode cc pc = .ok (.invokevirtual 69, 3)) {st0 : List Value} (hst : st0 = as.reverse ++ .ref i :: st) (kk : hp_G l (own, cc, nL, rt, ini) X d zr Q zz k n (pc + 3) lv (.int r :: st) hr) : hp_G l (own, cc, nL, rt, ini) X d zr Q zz k n pc lv st0 h := by
  subst ho
  have e9 := hp_callV (dj := dj) (k := k) (n := n) (y := yX8_drops) (mj := mX8_drops) hM hd (by decide) hrest (by rw [hla]; (try dsimp only); decide +kernel) wd_535 (List.forall_mem_cons.mpr ⟨wd_536, (List.forall_mem_cons.mpr ⟨wd_537, (List.forall_mem_cons.mpr ⟨wd_73, (List.forall_mem_cons.mpr ⟨wd_538, (fun _ h => absurd h List.not_mem_nil)⟩)⟩)⟩)⟩) hov rfl hdg hst (fun v h' hq => by obtain ⟨rfl, rfl⟩ := hq; exact kk)
  rw [Nat.zero_add, Nat.zero_add] at e9
  exact e9
theorem clL_72 {dj : Nat} {as : List Value} {i : Nat} {r : Int32} {hr : hp_H} (ho : own = RL) (hM : hp_Cn l yX9_drops mX9_drops dj zz 0 0 (.ref i :: as) h (fun v h2 => some (.int r) = v ∧ hr = h2)) (hla : as.length = 4) (hd : dj + 1 ≤ d) (hrest : (st.map fun v => v.category).sum ≤ 8) {fs : List Value} (hov : hg_o h i 8 = some fs) (hdg : decode cc pc = .ok (.invokevirtual 72, 3)) {st0 : List Value} (hst : st0 = as.reverse ++ .ref i :: st) (kk : hp_G l (own, cc, nL, rt, ini) X d zr Q zz k n (pc + 3) lv (.int r :: st) hr) : hp_G l (own, cc, nL, rt, ini) X d zr Q zz k n pc lv st0 h := by
  subst ho
  have e9 := hp_callV (dj := dj) (k := k) (n := n) (y := yX9_drops) (mj := mX9_drops) hM hd (by decide) hrest (by rw [hla]; (try dsimp only); decide +kernel) wd_929 (List.forall_mem_cons.mpr ⟨wd_930, (List.forall_mem_cons.mpr ⟨wd_931, (List.forall_mem_cons.mpr ⟨wd_81, (List.forall_mem_cons.mpr ⟨wd_932, (fun _ h => absurd h List.not_mem_nil)⟩)⟩)⟩)⟩) hov rfl hdg hst (fun v h' hq => by obtain ⟨rfl, rfl⟩ := hq; exact kk)
  rw [Nat.zero_add, Nat.zero_add] at e9
  exact e9
theorem clL_73 {dj : Nat} {as : List Value} {i : Nat} {r : Int32} {hr : hp_H} (ho : own = RL) (hM : hp_Cn l yX8_reading mX8_reading dj zz 0 0 (.ref i :: as) h (fun v h2 => some (.int r) = v ∧ hr = h2)) (hla : as.length = 4) (hd : dj + 1 ≤ d) (hrest : (st.map fun v => v.category).sum ≤ 8) {fs : List Value} (hov : hg_o h i 7 = some fs) (hdg : decode cc pc = .ok (.invokevirtual 73, 3)) {st0 : List Value} (hst : st0 = as.reverse ++ .ref i :: st) (kk : hp_G l (own, cc, nL, rt, ini) X d zr Q zz k n (pc + 3) lv (.int r :: st) hr) : hp_G l (own, cc, nL, rt, ini) X d zr Q zz k n pc lv st0 h := by
  subst ho
  have e9 := hp_callV (dj := dj) (k := k) (n := n) (y := yX8_reading) (mj := mX8_reading) hM hd (by decide) hrest (by rw [hla]; (try dsimp only); decide +kernel) wd_545 (List.forall_mem_cons.mpr ⟨wd_546, (List.forall_mem_cons.mpr ⟨wd_547, (List.forall_mem_cons.mpr ⟨wd_73, (List.forall_mem_cons.mpr ⟨wd_548, (fun _ h => absurd h List.not_mem_nil)⟩)⟩)⟩)⟩) hov rfl hdg hst (fun v h' hq => by obtain ⟨rfl, rfl⟩ := hq; exact kk)
  rw [Nat.zero_add, Nat.zero_add] at e9
  exact e9
theorem clL_76 {dj : Nat} {as : List Value} {i : Nat} {r : Int32} {hr : hp_H} (ho : own = RL) (hM : hp_Cn l yX9_reading mX9_reading dj zz 0 0 (.ref i :: as) h (fun v h2 => some (.int r) = v ∧ hr = h2)) (hla : as.length = 4) (hd : dj + 1 ≤ d) (hrest : (st.map fun v => v.category).sum ≤ 8) {fs : List Value} (hov : hg_o h i 8 = some fs) (hdg : decode cc pc = .ok (.invokevirtual 76, 3)) {st0 : List Value} (hst : st0 = as.reverse ++ .ref i :: st) (kk : hp_G l (own, cc, nL, rt, ini) X d zr Q zz k n (pc + 3) lv (.int r :: st) hr) : hp_G l (own, cc, nL, rt, ini) X d zr Q zz k n pc lv st0 h := by
  subst ho
  have e9 := hp_callV (dj := dj) (k := k) (n := n) (y := yX9_reading) (mj := mX9_reading) hM hd (by decide) hrest (by rw [hla]; (try dsimp only); decide +kernel) wd_937 (List.forall_mem_cons.mpr ⟨wd_938, (List.forall_mem_cons.mpr ⟨wd_939, (List.forall_mem_cons.mpr ⟨wd_81, (List.forall_mem_cons.mpr ⟨wd_940, (fun _ h => absurd h List.not_mem_nil)⟩)⟩)⟩)⟩) hov rfl hdg hst (fun v h' hq => by obtain ⟨rfl, rfl⟩ := hq; exact kk)
  rw [Nat.zero_add, Nat.zero_add] at e9
  exact e9
theorem clL_77 {dj : Nat} {as : List Value} {i : Nat} {r : Int32} {hr : hp_H} (ho : own = RL) (hM : hp_Cn l yX8_back mX8_back dj zz 0 0 (.ref i :: as) h (fun v h2 => some (.int r) = v ∧ hr = h2)) (hla : as.length = 1) (hd : dj + 1 ≤ d) (hrest : (st.map fun v => v.category).sum ≤ 8) {fs : List Value} (hov : hg_o h i 7 = some fs) (hdg : decode cc pc = .ok (.invokevirtual 77, 3)) {st0 : List Value} (hst : st0 = as.reverse ++ .ref i :: st) (kk : hp_G l (own, cc, nL, rt, ini) X d zr Q zz k n (pc + 3) lv (.int r :: st) hr) : hp_G l (own, cc, nL, rt, ini) X d zr Q zz k n pc lv st0 h := by
  subst ho
  have e9 := hp_callV (dj := dj) (k := k) (n := n) (y := yX8_back) (mj := mX8_back) hM hd (by decide) hrest (by rw [hla]; (try dsimp only); decide +kernel) wd_553 (List.forall_mem_cons.mpr ⟨wd_554, (List.forall_mem_cons.mpr ⟨wd_555, (List.forall_mem_cons.mpr ⟨wd_73, (List.forall_mem_cons.mpr ⟨wd_556, (fun _ h => absurd h List.not_mem_nil)⟩)⟩)⟩)⟩) hov rfl hdg hst (fun v h' hq => by obtain ⟨rfl, rfl⟩ := hq; exact kk)
  rw [Nat.zero_add, Nat.zero_add] at e9
  exact e9
theorem clL_80 {dj : Nat} {as : List Value} {i : Nat} {r : Int32} {hr : hp_H} (ho : own = RL) (hM : hp_Cn l yX9_back mX9_back dj zz 0 0 (.ref i :: as) h (fun v h2 => some (.int r) = v ∧ hr = h2)) (hla : as.length = 1) (hd : dj + 1 ≤ d) (hrest : (st.map fun v => v.category).sum ≤ 8) {fs : List Value} (hov : hg_o h i 8 = some fs) (hdg : decode cc pc = .ok (.invokevirtual 80, 3)) {st0 : List Value} (hst : st0 = as.reverse ++ .ref i :: st) (kk : hp_G l (own, cc, nL, rt, ini) X d zr Q zz k n (pc + 3) lv (.int r :: st) hr) : hp_G l (own, cc, nL, rt, ini) X d zr Q zz k n pc lv st0 h := by
  subst ho
  have e9 := hp_callV (dj := dj) (k := k) (n := n) (y := yX9_back) (mj := mX9_back) hM hd (by decide) hrest (by rw [hla]; (try dsimp only); decide +kernel) wd_941 (List.forall_mem_cons.mpr ⟨wd_942, (List.forall_mem_cons.mpr ⟨wd_943, (List.forall_mem_cons.mpr ⟨wd_81, (List.forall_mem_cons.mpr ⟨wd_944, (fun _ h => absurd h List.not_mem_nil)⟩)⟩)⟩)⟩) hov rfl hdg hst (fun v h' hq => by obtain ⟨rfl, rfl⟩ := hq; exact kk)
  rw [Nat.zero_add, Nat.zero_add] at e9
  exact e9
theorem clL_81 {dj : Nat} {as : List Value} {i : Nat} {r : Int32} {hr : hp_H} (ho : own = RL) (hM : hp_Cn l yX8_strengths mX8_strengths dj zz 0 0 (.ref i :: as) h (fun v h2 => some (.int r) = v ∧ hr = h2)) (hla : as.length = 1) (hd : dj + 1 ≤ d) (hrest : (st.map fun v => v.category).sum ≤ 8) {fs : List Value} (hov : hg_o h i 7 = some fs) (hdg : decode cc pc = .ok (.invokevirtual 81, 3)) {st0 : List Value} (hst : st0 = as.reverse ++ .ref i :: st) (kk : hp_G l (own, cc, nL, rt, ini) X d zr Q zz k n (pc + 3) lv (.int r :: st) hr) : hp_G l (own, cc, nL, rt, ini) X d zr Q zz k n pc lv st0 h := by
  subst ho
  have e9 := hp_callV (dj := dj) (k := k) (n := n) (y := yX8_strengths) (mj := mX8_strengths) hM hd (by decide) hrest (by rw [hla]; (try dsimp only); decide +kernel) wd_557 (List.forall_mem_cons.mpr ⟨wd_558, (List.forall_mem_cons.mpr ⟨wd_559, (List.forall_mem_cons.mpr ⟨wd_73, (List.forall_mem_cons.mpr ⟨wd_560, (fun _ h => absurd h List.not_mem_nil)⟩)⟩)⟩)⟩) hov rfl hdg hst (fun v h' hq => by obtain ⟨rfl, rfl⟩ := hq; exact kk)
  rw [Nat.zero_add, Nat.zero_add] at e9
  exact e9
theorem clL_84 {dj : Nat} {as : List Value} {i : Nat} {r : Int32} {hr : hp_H} (ho : own = RL) (hM : hp_Cn l yX9_strengths mX9_strengths dj zz 0 0 (.ref i :: as) h (fun v h2 => some (.int r) = v ∧ hr = h2)) (hla : as.length = 1) (hd : dj + 1 ≤ d) (hrest : (st.map fun v => v.category).sum ≤ 8) {fs : List Value} (hov : hg_o h i 8 = some fs) (hdg : decode cc pc = .ok (.invokevirtual 84, 3)) {st0 : List Value} (hst : st0 = as.reverse ++ .ref i :: st) (kk : hp_G l (own, cc, nL, rt, ini) X d zr Q zz k n (pc + 3) lv (.int r :: st) hr) : hp_G l (own, cc, nL, rt, ini) X d zr Q zz k n pc lv st0 h := by
  subst ho
  have e9 := hp_callV (dj := dj) (k := k) (n := n) (y := yX9_strengths) (mj := mX9_strengths) hM hd (by decide) hrest (by rw [hla]; (try dsimp only); decide +kernel) wd_945 (List.forall_mem_cons.mpr ⟨wd_946, (List.forall_mem_cons.mpr ⟨wd_947, (List.forall_mem_cons.mpr ⟨wd_81, (List.forall_mem_cons.mpr ⟨wd_948, (fun _ h => absurd h List.not_mem_nil)⟩)⟩)⟩)⟩) hov rfl hdg hst (fun v h' hq => by obtain ⟨rfl, rfl⟩ := hq; exact kk)
  rw [Nat.zero_add, Nat.zero_add] at e9
  exact e9
theorem clL_85 {dj : Nat} {as : List Value} {i : Nat} {r : Int32} {hr : hp_H} (ho : own = RL) (hM : hp_Cn l yX8_feints mX8_feints dj zz 0 0 (.ref i :: as) h (fun v h2 => some (.int r) = v ∧ hr = h2)) (hla : as.length = 1) (hd : dj + 1 ≤ d) (hrest : (st.map fun v => v.category).sum ≤ 8) {fs : List Value} (hov : hg_o h i 7 = some fs) (hdg : decode cc pc = .ok (.invokevirtual 85, 3)) {st0 : List Value} (hst : st0 = as.reverse ++ .ref i :: st) (kk : hp_G l (own, cc, nL, rt, ini) X d zr Q zz k n (pc + 3) lv (.int r :: st) hr) : hp_G l (own, cc, nL, rt, ini) X d zr Q zz k n pc lv st0 h := by
  subst ho
  have e9 := hp_callV (dj := dj) (k := k) (n := n) (y := yX8_feints) (mj := mX8_feints) hM hd (by decide) hrest (by rw [hla]; (try dsimp only); decide +kernel) wd_578 (List.forall_mem_cons.mpr ⟨wd_579, (List.forall_mem_cons.mpr ⟨wd_580, (List.forall_mem_cons.mpr ⟨wd_73, (List.forall_mem_cons.mpr ⟨wd_581, (fun _ h => absurd h List.not_mem_nil)⟩)⟩)⟩)⟩) hov rfl hdg hst (fun v h' hq => by obtain ⟨rfl, rfl⟩ := hq; exact kk)
  rw [Nat.zero_add, Nat.zero_add] at e9
  exact e9
theorem clL_88 {dj : Nat} {as : List Value} {i : Nat} {r : Int32} {hr : hp_H} (ho : own = RL) (hM : hp_Cn l yX9_feints mX9_feints dj zz 0 0 (.ref i :: as) h (fun v h2 => some (.int r) = v ∧ hr = h2)) (hla : as.length = 1) (hd : dj + 1 ≤ d) (hrest : (st.map fun v => v.category).sum ≤ 8) {fs : List Value} (hov : hg_o h i 8 = some fs) (hdg : decode cc pc = .ok (.invokevirtual 88, 3)) {st0 : List Value} (hst : st0 = as.reverse ++ .ref i :: st) (kk : hp_G l (own, cc, nL, rt, ini) X d zr Q zz k n (pc + 3) lv (.int r :: st) hr) : hp_G l (own, cc, nL, rt, ini) X d zr Q zz k n pc lv st0 h := by
  subst ho
  have e9 := hp_callV (dj := dj) (k := k) (n := n) (y := yX9_feints) (mj := mX9_feints) hM hd (by decide) hrest (by rw [hla]; (try dsimp only); decide +kernel) wd_953 (List.forall_mem_cons.mpr ⟨wd_954, (List.forall_mem_cons.mpr ⟨wd_955, (List.forall_mem_cons.mpr ⟨wd_81, (List.forall_mem_cons.mpr ⟨wd_956, (fun _ h => absurd h List.not_mem_nil)⟩)⟩)⟩)⟩) hov rfl hdg hst (fun v h' hq => by obtain ⟨rfl, rfl⟩ := hq; exact kk)
  rw [Nat.zero_add, Nat.zero_add] at e9
  exact e9
theorem clL_89 {dj : Nat} {as : List Value} {i : Nat} {r : Int32} {hr : hp_H} (ho : own = RL) (hM : hp_Cn l yX8_kinds mX8_kinds dj zz 0 0 (.ref i :: as) h (fun v h2 => some (.int r) = v ∧ hr = h2)) (hla : as.length = 1) (hd : dj + 1 ≤ d) (hrest : (st.map fun v => v.category).sum ≤ 8) {fs : List Value} (hov : hg_o h i 7 = some fs) (hdg : decode cc pc = .ok (.invokevirtual 89, 3)) {st0 : List Value} (hst : st0 = as.reverse ++ .ref i :: st) (kk : hp_G l (own, cc, nL, rt, ini) X d zr Q zz k n (pc + 3) lv (.int r :: st) hr) : hp_G l (own, cc, nL, rt, ini) X d zr Q zz k n pc lv st0 h := by
  subst ho
  have e9 := hp_callV (dj := dj) (k := k) (n := n) (y := yX8_kinds) (mj := mX8_kinds) hM hd (by decide) hrest (by rw [hla]; (try dsimp only); decide +kernel) wd_582 (List.forall_mem_cons.mpr ⟨wd_583, (List.forall_mem_cons.mpr ⟨wd_584, (List.forall_mem_cons.mpr ⟨wd_73, (List.forall_mem_cons.mpr ⟨wd_585, (fun _ h => absurd h List.not_mem_nil)⟩)⟩)⟩)⟩) hov rfl hdg hst (fun v h' hq => by obtain ⟨rfl, rfl⟩ := hq; exact kk)
  rw [Nat.zero_add, Nat.zero_add] at e9
  exact e9
theorem clL_92 {dj : Nat} {as : List Value} {i : Nat} {r : Int32} {hr : hp_H} (ho : own = RL) (hM : hp_Cn l yX9_kinds mX9_kinds dj zz 0 0 (.ref i :: as) h (fun v h2 => some (.int r) = v ∧ hr = h2)) (hla : as.length = 1) (hd : dj + 1 ≤ d) (hrest : (st.map fun v => v.category).sum ≤ 8) {fs : List Value} (hov : hg_o h i 8 = some fs) (hdg : decode cc pc = .ok (.invokevirtual 92, 3)) {st0 : List Value} (hst : st0 = as.reverse ++ .ref i :: st) (kk : hp_G l (own, cc, nL, rt, ini) X d zr Q zz k n (pc + 3) lv (.int r :: st) hr) : hp_G l (own, cc, nL, rt, ini) X d zr Q zz k n pc lv st0 h := by
  subst ho
  have e9 := hp_callV (dj := dj) (k := k) (n := n) (y := yX9_kinds) (mj := mX9_kinds) hM hd (by decide) hrest (by rw [hla]; (try dsimp only); decide +kernel) wd_957 (List.forall_mem_cons.mpr ⟨wd_958, (List.forall_mem_cons.mpr ⟨wd_959, (List.forall_mem_cons.mpr ⟨wd_81, (List.forall_mem_cons.mpr ⟨wd_960, (fun _ h => absurd h List.not_mem_nil)⟩)⟩)⟩)⟩) hov rfl hdg hst (fun v h' hq => by obtain ⟨rfl, rfl⟩ := hq; exact kk)
  rw [Nat.zero_add, Nat.zero_add] at e9
  exact e9
theorem clL_93 {dj : Nat} {as : List Value} {i : Nat} {r : Int64} {hr : hp_H} (ho : own = RL) (hM : hp_Cn l yX8_odds mX8_odds dj zz 0 0 (.ref i :: as) h (fun v h2 => some (.long r) = v ∧ hr = h2)) (hla : as.length = 3) (hd : dj + 1 ≤ d) (hrest : (st.map fun v => v.category).sum ≤ 8) {fs : List Value} (hov : hg_o h i 7 = some fs) (hdg : decode cc pc = .ok (.invokevirtual 93, 3)) {st0 : List Value} (hst : st0 = as.reverse ++ .ref i :: st) (kk : hp_G l (own, cc, nL, rt, ini) X d zr Q zz k n (pc + 3) lv (.long r :: st) hr) : hp_G l (own, cc, nL, rt, ini) X d zr Q zz k n pc lv st0 h := by
  subst ho
  have e9 := hp_callV (dj := dj) (k := k) (n := n) (y := yX8_odds) (mj := mX8_odds) hM hd (by decide) hrest (by rw [hla]; (try dsimp only); decide +kernel) wd_586 (List.forall_mem_cons.mpr ⟨wd_587, (List.forall_mem_cons.mpr ⟨wd_588, (List.forall_mem_cons.mpr ⟨wd_73, (List.forall_mem_cons.mpr ⟨wd_589, (fun _ h => absurd h List.not_mem_nil)⟩)⟩)⟩)⟩) hov rfl hdg hst (fun v h' hq => by obtain ⟨rfl, rfl⟩ := hq; exact kk)
  rw [Nat.zero_add, Nat.zero_add] at e9
  exact e9
theorem clL_97 {dj : Nat} {as : List Value} {i : Nat} {r : Int64} {hr : hp_H} (ho : own = RL) (hM : hp_Cn l yX9_odds mX9_odds dj zz 0 0 (.ref i :: as) h (fun v h2 => some (.long r) = v ∧ hr = h2)) (hla : as.length = 3) (hd : dj + 1 ≤ d) (hrest : (st.map fun v => v.category).sum ≤ 8) {fs : List Value} (hov : hg_o h i 8 = some fs) (hdg : decode cc pc = .ok (.invokevirtual 97, 3)) {st0 : List Value} (hst : st0 = as.reverse ++ .ref i :: st) (kk : hp_G l (own, cc, nL, rt, ini) X d zr Q zz k n (pc + 3) lv (.long r :: st) hr) : hp_G l (own, cc, nL, rt, ini) X d zr Q zz k n pc lv st0 h := by
  subst ho
  have e9 := hp_callV (dj := dj) (k := k) (n := n) (y := yX9_odds) (mj := mX9_odds) hM hd (by decide) hrest (by rw [hla]; (try dsimp only); decide +kernel) wd_961 (List.forall_mem_cons.mpr ⟨wd_962, (List.forall_mem_cons.mpr ⟨wd_963, (List.forall_mem_cons.mpr ⟨wd_81, (List.forall_mem_cons.mpr ⟨wd_964, (fun _ h => absurd h List.not_mem_nil)⟩)⟩)⟩)⟩) hov rfl hdg hst (fun v h' hq => by obtain ⟨rfl, rfl⟩ := hq; exact kk)
  rw [Nat.zero_add, Nat.zero_add] at e9
  exact e9
theorem clL_98 {dj : Nat} {as : List Value} {i : Nat} {r : Int32} {hr : hp_H} (ho : own = RL) (hM : hp_Cn l yX8_sheet mX8_sheet dj zz 0 0 (.ref i :: as) h (fun v h2 => some (.int r) = v ∧ hr = h2)) (hla : as.length = 3) (hd : dj + 1 ≤ d) (hrest : (st.map fun v => v.category).sum ≤ 8) {fs : List Value} (hov : hg_o h i 7 = some fs) (hdg : decode cc pc = .ok (.invokevirtual 98, 3)) {st0 : List Value} (hst : st0 = as.reverse ++ .ref i :: st) (kk : hp_G l (own, cc, nL, rt, ini) X d zr Q zz k n (pc + 3) lv (.int r :: st) hr) : hp_G l (own, cc, nL, rt, ini) X d zr Q zz k n pc lv st0 h := by
  subst ho
  have e9 := hp_callV (dj := dj) (k := k) (n := n) (y := yX8_sheet) (mj := mX8_sheet) hM hd (by decide) hrest (by rw [hla]; (try dsimp only); decide +kernel) wd_594 (List.forall_mem_cons.mpr ⟨wd_595, (List.forall_mem_cons.mpr ⟨wd_596, (List.forall_mem_cons.mpr ⟨wd_73, (List.forall_mem_cons.mpr ⟨wd_597, (fun _ h => absurd h List.not_mem_nil)⟩)⟩)⟩)⟩) hov rfl hdg hst (fun v h' hq => by obtain ⟨rfl, rfl⟩ := hq; exact kk)
  rw [Nat.zero_add, Nat.zero_add] at e9
  exact e9
theorem clL_102 {dj : Nat} {as : List Value} {i : Nat} {r : Int32} {hr : hp_H} (ho : own = RL) (hM : hp_Cn l yX9_sheet mX9_sheet dj zz 0 0 (.ref i :: as) h (fun v h2 => some (.int r) = v ∧ hr = h2)) (hla : as.length = 3) (hd : dj + 1 ≤ d) (hrest : (st.map fun v => v.category).sum ≤ 8) {fs : List Value} (hov : hg_o h i 8 = some fs) (hdg : decode cc pc = .ok (.invokevirtual 102, 3)) {st0 : List Value} (hst : st0 = as.reverse ++ .ref i :: st) (kk : hp_G l (own, cc, nL, rt, ini) X d zr Q zz k n (pc + 3) lv (.int r :: st) hr) : hp_G l (own, cc, nL, rt, ini) X d zr Q zz k n pc lv st0 h := by
  subst ho
  have e9 := hp_callV (dj := dj) (k := k) (n := n) (y := yX9_sheet) (mj := mX9_sheet) hM hd (by decide) hrest (by rw [hla]; (try dsimp only); decide +kernel) wd_969 (List.forall_mem_cons.mpr ⟨wd_970, (List.forall_mem_cons.mpr ⟨wd_971, (List.forall_mem_cons.mpr ⟨wd_81, (List.forall_mem_cons.mpr ⟨wd_972, (fun _ h => absurd h List.not_mem_nil)⟩)⟩)⟩)⟩) hov rfl hdg hst (fun v h' hq => by obtain ⟨rfl, rfl⟩ := hq; exact kk)
  rw [Nat.zero_add, Nat.zero_add] at e9
  exact e9
theorem clL_103 {dj : Nat} {as : List Value} {i : Nat} {r : Int32} {hr : hp_H} (ho : own = RL) (hM : hp_Cn l yX8_lose mX8_lose dj zz 0 0 (.ref i :: as) h (fun v h2 => some (.int r) = v ∧ hr = h2)) (hla : as.length = 1) (hd : dj + 1 ≤ d) (hrest : (st.map fun v => v.category).sum ≤ 8) {fs : List Value} (hov : hg_o h i 7 = some fs) (hdg : decode cc pc = .ok (.invokevirtual 103, 3)) {st0 : List Value} (hst : st0 = as.reverse ++ .ref i :: st) (kk : hp_G l (own, cc, nL, rt, ini) X d zr Q zz k n (pc + 3) lv (.int r :: st) hr) : hp_G l (own, cc, nL, rt, ini) X d zr Q zz k n pc lv st0 h := by
  subst ho
  have e9 := hp_callV (dj := dj) (k := k) (n := n) (y := yX8_lose) (mj := mX8_lose) hM hd (by decide) hrest (by rw [hla]; (try dsimp only); decide +kernel) wd_603 (List.forall_mem_cons.mpr ⟨wd_604, (List.forall_mem_cons.mpr ⟨wd_605, (List.forall_mem_cons.mpr ⟨wd_73, (List.forall_mem_cons.mpr ⟨wd_606, (fun _ h => absurd h List.not_mem_nil)⟩)⟩)⟩)⟩) hov rfl hdg hst (fun v h' hq => by obtain ⟨rfl, rfl⟩ := hq; exact kk)
  rw [Nat.zero_add, Nat.zero_add] at e9
  exact e9
theorem clL_106 {dj : Nat} {as : List Value} {i : Nat} {r : Int32} {hr : hp_H} (ho : own = RL) (hM : hp_Cn l yX9_lose mX9_lose dj zz 0 0 (.ref i :: as) h (fun v h2 => some (.int r) = v ∧ hr = h2)) (hla : as.length = 1) (hd : dj + 1 ≤ d) (hrest : (st.map fun v => v.category).sum ≤ 8) {fs : List Value} (hov : hg_o h i 8 = some fs) (hdg : decode cc pc = .ok (.invokevirtual 106, 3)) {st0 : List Value} (hst : st0 = as.reverse ++ .ref i :: st) (kk : hp_G l (own, cc, nL, rt, ini) X d zr Q zz k n (pc + 3) lv (.int r :: st) hr) : hp_G l (own, cc, nL, rt, ini) X d zr Q zz k n pc lv st0 h := by
  subst ho
  have e9 := hp_callV (dj := dj) (k := k) (n := n) (y := yX9_lose) (mj := mX9_lose) hM hd (by decide) hrest (by rw [hla]; (try dsimp only); decide +kernel) wd_973 (List.forall_mem_cons.mpr ⟨wd_974, (List.forall_mem_cons.mpr ⟨wd_975, (List.forall_mem_cons.mpr ⟨wd_81, (List.forall_mem_cons.mpr ⟨wd_976, (fun _ h => absurd h List.not_mem_nil)⟩)⟩)⟩)⟩) hov rfl hdg hst (fun v h' hq => by obtain ⟨rfl, rfl⟩ := hq; exact kk)
  rw [Nat.zero_add, Nat.zero_add] at e9
  exact e9
theorem clL_107 {dj : Nat} {as : List Value} {i : Nat} {r : Int32} {hr : hp_H} (ho : own = RL) (hM : hp_Cn l yX8_put mX8_put dj zz 0 0 (.ref i :: as) h (fun v h2 => some (.int r) = v ∧ hr = h2)) (hla : as.length = 3) (hd : dj + 1 ≤ d) (hrest : (st.map fun v => v.category).sum ≤ 8) {fs : List Value} (hov : hg_o h i 7 = some fs) (hdg : decode cc pc = .ok (.invokevirtual 107, 3)) {st0 : List Value} (hst : st0 = as.reverse ++ .ref i :: st) (kk : hp_G l (own, cc, nL, rt, ini) X d zr Q zz k n (pc + 3) lv (.int r :: st) hr) : hp_G l (own, cc, nL, rt, ini) X d zr Q zz k n pc lv st0 h := by
  subst ho
  have e9 := hp_callV (dj := dj) (k := k) (n := n) (y := yX8_put) (mj := mX8_put) hM hd (by decide) hrest (by rw [hla]; (try dsimp only); decide +kernel) wd_607 (List.forall_mem_cons.mpr ⟨wd_608, (List.forall_mem_cons.mpr ⟨wd_609, (List.forall_mem_cons.mpr ⟨wd_73, (List.forall_mem_cons.mpr ⟨wd_610, (fun _ h => absurd h List.not_mem_nil)⟩)⟩)⟩)⟩) hov rfl hdg hst (fun v h' hq => by obtain ⟨rfl, rfl⟩ := hq; exact kk)
  rw [Nat.zero_add, Nat.zero_add] at e9
  exact e9
theorem clL_110 {dj : Nat} {as : List Value} {i : Nat} {r : Int32} {hr : hp_H} (ho : own = RL) (hM : hp_Cn l yX9_put mX9_put dj zz 0 0 (.ref i :: as) h (fun v h2 => some (.int r) = v ∧ hr = h2)) (hla : as.length = 3) (hd : dj + 1 ≤ d) (hrest : (st.map fun v => v.category).sum ≤ 8) {fs : List Value} (hov : hg_o h i 8 = some fs) (hdg : decode cc pc = .ok (.invokevirtual 110, 3)) {st0 : List Value} (hst : st0 = as.reverse ++ .ref i :: st) (kk : hp_G l (own, cc, nL, rt, ini) X d zr Q zz k n (pc + 3) lv (.int r :: st) hr) : hp_G l (own, cc, nL, rt, ini) X d zr Q zz k n pc lv st0 h := by
  subst ho
  have e9 := hp_callV (dj := dj) (k := k) (n := n) (y := yX9_put) (mj := mX9_put) hM hd (by decide) hrest (by rw [hla]; (try dsimp only); decide +kernel) wd_977 (List.forall_mem_cons.mpr ⟨wd_978, (List.forall_mem_cons.mpr ⟨wd_979, (List.forall_mem_cons.mpr ⟨wd_81, (List.forall_mem_cons.mpr ⟨wd_980, (fun _ h => absurd h List.not_mem_nil)⟩)⟩)⟩)⟩) hov rfl hdg hst (fun v h' hq => by obtain ⟨rfl, rfl⟩ := hq; exact kk)
  rw [Nat.zero_add, Nat.zero_add] at e9
  exact e9
theorem clL_111 {dj : Nat} {as : List Value} {i : Nat} {r : Int64} {hr : hp_H} (ho : own = RL) (hM : hp_Cn l yX8_cell mX8_cell dj zz 0 0 (.ref i :: as) h (fun v h2 => some (.long r) = v ∧ hr = h2)) (hla : as.length = 3) (hd : dj + 1 ≤ d) (hrest : (st.map fun v => v.category).sum ≤ 8) {fs : List Value} (hov : hg_o h i 7 = some fs) (hdg : decode cc pc = .ok (.invokevirtual 111, 3)) {st0 : List Value} (hst : st0 = as.reverse ++ .ref i :: st) (kk : hp_G l (own, cc, nL, rt, ini) X d zr Q zz k n (pc + 3) lv (.long r :: st) hr) : hp_G l (own, cc, nL, rt, ini) X d zr Q zz k n pc lv st0 h := by
  subst ho
  have e9 := hp_callV (dj := dj) (k := k) (n := n) (y := yX8_cell) (mj := mX8_cell) hM hd (by decide) hrest (by rw [hla]; (try dsimp only); decide +kernel) wd_615 (List.forall_mem_cons.mpr ⟨wd_616, (List.forall_mem_cons.mpr ⟨wd_617, (List.forall_mem_cons.mpr ⟨wd_73, (List.forall_mem_cons.mpr ⟨wd_618, (fun _ h => absurd h List.not_mem_nil)⟩)⟩)⟩)⟩) hov rfl hdg hst (fun v h' hq => by obtain ⟨rfl, rfl⟩ := hq; exact kk)
  rw [Nat.zero_add, Nat.zero_add] at e9
  exact e9
theorem clL_114 {dj : Nat} {as : List Value} {i : Nat} {r : Int64} {hr : hp_H} (ho : own = RL) (hM : hp_Cn l yX9_cell mX9_cell dj zz 0 0 (.ref i :: as) h (fun v h2 => some (.long r) = v ∧ hr = h2)) (hla : as.length = 3) (hd : dj + 1 ≤ d) (hrest : (st.map fun v => v.category).sum ≤ 8) {fs : List Value} (hov : hg_o h i 8 = some fs) (hdg : decode cc pc = .ok (.invokevirtual 114, 3)) {st0 : List Value} (hst : st0 = as.reverse ++ .ref i :: st) (kk : hp_G l (own, cc, nL, rt, ini) X d zr Q zz k n (pc + 3) lv (.long r :: st) hr) : hp_G l (own, cc, nL, rt, ini) X d zr Q zz k n pc lv st0 h := by
  subst ho
  have e9 := hp_callV (dj := dj) (k := k) (n := n) (y := yX9_cell) (mj := mX9_cell) hM hd (by decide) hrest (by rw [hla]; (try dsimp only); decide +kernel) wd_981 (List.forall_mem_cons.mpr ⟨wd_982, (List.forall_mem_cons.mpr ⟨wd_983, (List.forall_mem_cons.mpr ⟨wd_81, (List.forall_mem_cons.mpr ⟨wd_984, (fun _ h => absurd h List.not_mem_nil)⟩)⟩)⟩)⟩) hov rfl hdg hst (fun v h' hq => by obtain ⟨rfl, rfl⟩ := hq; exact kk)
  rw [Nat.zero_add, Nat.zero_add] at e9
  exact e9
theorem clL_115 {dj : Nat} {as : List Value} {i : Nat} {r : Int32} {hr : hp_H} (ho : own = RL) (hM : hp_Cn l yX8_copy mX8_copy dj zz 0 0 (.ref i :: as) h (fun v h2 => some (.int r) = v ∧ hr = h2)) (hla : as.length = 5) (hd : dj + 1 ≤ d) (hrest : (st.map fun v => v.category).sum ≤ 8) {fs : List Value} (hov : hg_o h i 7 = some fs) (hdg : decode cc pc = .ok (.invokevirtual 115, 3)) {st0 : List Value} (hst : st0 = as.reverse ++ .ref i :: st) (kk : hp_G l (own, cc, nL, rt, ini) X d zr Q zz k n (pc + 3) lv (.int r :: st) hr) : hp_G l (own, cc, nL, rt, ini) X d zr Q zz k n pc lv st0 h := by
  subst ho
  have e9 := hp_callV (dj := dj) (k := k) (n := n) (y := yX8_copy) (mj := mX8_copy) hM hd (by decide) hrest (by rw [hla]; (try dsimp only); decide +kernel) wd_619 (List.forall_mem_cons.mpr ⟨wd_620, (List.forall_mem_cons.mpr ⟨wd_621, (List.forall_mem_cons.mpr ⟨wd_73, (List.forall_mem_cons.mpr ⟨wd_622, (fun _ h => absurd h List.not_mem_nil)⟩)⟩)⟩)⟩) hov rfl hdg hst (fun v h' hq => by obtain ⟨rfl, rfl⟩ := hq; exact kk)
  rw [Nat.zero_add, Nat.zero_add] at e9
  exact e9
theorem clL_118 {dj : Nat} {as : List Value} {i : Nat} {r : Int32} {hr : hp_H} (ho : own = RL) (hM : hp_Cn l yX9_copy mX9_copy dj zz 0 0 (.ref i :: as) h (fun v h2 => some (.int r) = v ∧ hr = h2)) (hla : as.length = 5) (hd : dj + 1 ≤ d) (hrest : (st.map fun v => v.category).sum ≤ 8) {fs : List Value} (hov : hg_o h i 8 = some fs) (hdg : decode cc pc = .ok (.invokevirtual 118, 3)) {st0 : List Value} (hst : st0 = as.reverse ++ .ref i :: st) (kk : hp_G l (own, cc, nL, rt, ini) X d zr Q zz k n (pc + 3) lv (.int r :: st) hr) : hp_G l (own, cc, nL, rt, ini) X d zr Q zz k n pc lv st0 h := by
  subst ho
  have e9 := hp_callV (dj := dj) (k := k) (n := n) (y := yX9_copy) (mj := mX9_copy) hM hd (by decide) hrest (by rw [hla]; (try dsimp only); decide +kernel) wd_989 (List.forall_mem_cons.mpr ⟨wd_990, (List.forall_mem_cons.mpr ⟨wd_991, (List.forall_mem_cons.mpr ⟨wd_81, (List.forall_mem_cons.mpr ⟨wd_992, (fun _ h => absurd h List.not_mem_nil)⟩)⟩)⟩)⟩) hov rfl hdg hst (fun v h' hq => by obtain ⟨rfl, rfl⟩ := hq; exact kk)
  rw [Nat.zero_add, Nat.zero_add] at e9
  exact e9
theorem clL_119 {dj : Nat} {as : List Value} {i : Nat} {r : Int32} {hr : hp_H} (ho : own = RL) (hM : hp_Cn l yX8_tell mX8_tell dj zz 0 0 (.ref i :: as) h (fun v h2 => some (.int r) = v ∧ hr = h2)) (hla : as.length = 1) (hd : dj + 1 ≤ d) (hrest : (st.map fun v => v.category).sum ≤ 8) {fs : List Value} (hov : hg_o h i 7 = some fs) (hdg : decode cc pc = .ok (.invokevirtual 119, 3)) {st0 : List Value} (hst : st0 = as.reverse ++ .ref i :: st) (kk : hp_G l (own, cc, nL, rt, ini) X d zr Q zz k n (pc + 3) lv (.int r :: st) hr) : hp_G l (own, cc, nL, rt, ini) X d zr Q zz k n pc lv st0 h := by
  subst ho
  have e9 := hp_callV (dj := dj) (k := k) (n := n) (y := yX8_tell) (mj := mX8_tell) hM hd (by decide) hrest (by rw [hla]; (try dsimp only); decide +kernel) wd_625 (List.forall_mem_cons.mpr ⟨wd_626, (List.forall_mem_cons.mpr ⟨wd_627, (List.forall_mem_cons.mpr ⟨wd_73, (List.forall_mem_cons.mpr ⟨wd_628, (fun _ h => absurd h List.not_mem_nil)⟩)⟩)⟩)⟩) hov rfl hdg hst (fun v h' hq => by obtain ⟨rfl, rfl⟩ := hq; exact kk)
  rw [Nat.zero_add, Nat.zero_add] at e9
  exact e9
theorem clL_122 {dj : Nat} {as : List Value} {i : Nat} {r : Int32} {hr : hp_H} (ho : own = RL) (hM : hp_Cn l yX9_tell mX9_tell dj zz 0 0 (.ref i :: as) h (fun v h2 => some (.int r) = v ∧ hr = h2)) (hla : as.length = 1) (hd : dj + 1 ≤ d) (hrest : (st.map fun v => v.category).sum ≤ 8) {fs : List Value} (hov : hg_o h i 8 = some fs) (hdg : decode cc pc = .ok (.invokevirtual 122, 3)) {st0 : List Value} (hst : st0 = as.reverse ++ .ref i :: st) (kk : hp_G l (own, cc, nL, rt, ini) X d zr Q zz k n (pc + 3) lv (.int r :: st) hr) : hp_G l (own, cc, nL, rt, ini) X d zr Q zz k n pc lv st0 h := by
  subst ho
  have e9 := hp_callV (dj := dj) (k := k) (n := n) (y := yX9_tell) (mj := mX9_tell) hM hd (by decide) hrest (by rw [hla]; (try dsimp only); decide +kernel) wd_993 (List.forall_mem_cons.mpr ⟨wd_994, (List.forall_mem_cons.mpr ⟨wd_995, (List.forall_mem_cons.mpr ⟨wd_81, (List.forall_mem_cons.mpr ⟨wd_996, (fun _ h => absurd h List.not_mem_nil)⟩)⟩)⟩)⟩) hov rfl hdg hst (fun v h' hq => by obtain ⟨rfl, rfl⟩ := hq; exact kk)
  rw [Nat.zero_add, Nat.zero_add] at e9
  exact e9
theorem clL_123 {dj : Nat} {as : List Value} {i : Nat} {r : Int32} {hr : hp_H} (ho : own = RL) (hM : hp_Cn l yX8_wave mX8_wave dj zz 0 0 (.ref i :: as) h (fun v h2 => some (.int r) = v ∧ hr = h2)) (hla : as.length = 1) (hd : dj + 1 ≤ d) (hrest : (st.map fun v => v.category).sum ≤ 8) {fs : List Value} (hov : hg_o h i 7 = some fs) (hdg : decode cc pc = .ok (.invokevirtual 123, 3)) {st0 : List Value} (hst : st0 = as.reverse ++ .ref i :: st) (kk : hp_G l (own, cc, nL, rt, ini) X d zr Q zz k n (pc + 3) lv (.int r :: st) hr) : hp_G l (own, cc, nL, rt, ini) X d zr Q zz k n pc lv st0 h := by
  subst ho
  have e9 := hp_callV (dj := dj) (k := k) (n := n) (y := yX8_wave) (mj := mX8_wave) hM hd (by decide) hrest (by rw [hla]; (try dsimp only); decide +kernel) wd_645 (List.forall_mem_cons.mpr ⟨wd_646, (List.forall_mem_cons.mpr ⟨wd_647, (List.forall_mem_cons.mpr ⟨wd_73, (List.forall_mem_cons.mpr ⟨wd_648, (fun _ h => absurd h List.not_mem_nil)⟩)⟩)⟩)⟩) hov rfl hdg hst (fun v h' hq => by obtain ⟨rfl, rfl⟩ := hq; exact kk)
  rw [Nat.zero_add, Nat.zero_add] at e9
  exact e9
theorem clL_126 {dj : Nat} {as : List Value} {i : Nat} {r : Int32} {hr : hp_H} (ho : own = RL) (hM : hp_Cn l yX9_wave mX9_wave dj zz 0 0 (.ref i :: as) h (fun v h2 => some (.int r) = v ∧ hr = h2)) (hla : as.length = 1) (hd : dj + 1 ≤ d) (hrest : (st.map fun v => v.category).sum ≤ 8) {fs : List Value} (hov : hg_o h i 8 = some fs) (hdg : decode cc pc = .ok (.invokevirtual 126, 3)) {st0 : List Value} (hst : st0 = as.reverse ++ .ref i :: st) (kk : hp_G l (own, cc, nL, rt, ini) X d zr Q zz k n (pc + 3) lv (.int r :: st) hr) : hp_G l (own, cc, nL, rt, ini) X d zr Q zz k n pc lv st0 h := by
  subst ho
  have e9 := hp_callV (dj := dj) (k := k) (n := n) (y := yX9_wave) (mj := mX9_wave) hM hd (by decide) hrest (by rw [hla]; (try dsimp only); decide +kernel) wd_1001 (List.forall_mem_cons.mpr ⟨wd_1002, (List.forall_mem_cons.mpr ⟨wd_1003, (List.forall_mem_cons.mpr ⟨wd_81, (List.forall_mem_cons.mpr ⟨wd_1004, (fun _ h => absurd h List.not_mem_nil)⟩)⟩)⟩)⟩) hov rfl hdg hst (fun v h' hq => by obtain ⟨rfl, rfl⟩ := hq; exact kk)
  rw [Nat.zero_add, Nat.zero_add] at e9
  exact e9
theorem clL_127 {dj : Nat} {as : List Value} {i : Nat} {r : Int32} {hr : hp_H} (ho : own = RL) (hM : hp_Cn l yX8_as mX8_as dj zz 0 0 (.ref i :: as) h (fun v h2 => some (.int r) = v ∧ hr = h2)) (hla : as.length = 2) (hd : dj + 1 ≤ d) (hrest : (st.map fun v => v.category).sum ≤ 8) {fs : List Value} (hov : hg_o h i 7 = some fs) (hdg : decode cc pc = .ok (.invokevirtual 127, 3)) {st0 : List Value} (hst : st0 = as.reverse ++ .ref i :: st) (kk : hp_G l (own, cc, nL, rt, ini) X d zr Q zz k n (pc + 3) lv (.int r :: st) hr) : hp_G l (own, cc, nL, rt, ini) X d zr Q zz k n pc lv st0 h := by
  subst ho
  have e9 := hp_callV (dj := dj) (k := k) (n := n) (y := yX8_as) (mj := mX8_as) hM hd (by decide) hrest (by rw [hla]; (try dsimp only); decide +kernel) wd_649 (List.forall_mem_cons.mpr ⟨wd_650, (List.forall_mem_cons.mpr ⟨wd_651, (List.forall_mem_cons.mpr ⟨wd_73, (List.forall_mem_cons.mpr ⟨wd_652, (fun _ h => absurd h List.not_mem_nil)⟩)⟩)⟩)⟩) hov rfl hdg hst (fun v h' hq => by obtain ⟨rfl, rfl⟩ := hq; exact kk)
  rw [Nat.zero_add, Nat.zero_add] at e9
  exact e9
theorem clL_130 {dj : Nat} {as : List Value} {i : Nat} {r : Int32} {hr : hp_H} (ho : own = RL) (hM : hp_Cn l yX9_as mX9_as dj zz 0 0 (.ref i :: as) h (fun v h2 => some (.int r) = v ∧ hr = h2)) (hla : as.length = 2) (hd : dj + 1 ≤ d) (hrest : (st.map fun v => v.category).sum ≤ 8) {fs : List Value} (hov : hg_o h i 8 = some fs) (hdg : decode cc pc = .ok (.invokevirtual 130, 3)) {st0 : List Value} (hst : st0 = as.reverse ++ .ref i :: st) (kk : hp_G l (own, cc, nL, rt, ini) X d zr Q zz k n (pc + 3) lv (.int r :: st) hr) : hp_G l (own, cc, nL, rt, ini) X d zr Q zz k n pc lv st0 h := by
  subst ho
  have e9 := hp_callV (dj := dj) (k := k) (n := n) (y := yX9_as) (mj := mX9_as) hM hd (by decide) hrest (by rw [hla]; (try dsimp only); decide +kernel) wd_1005 (List.forall_mem_cons.mpr ⟨wd_1006, (List.forall_mem_cons.mpr ⟨wd_1007, (List.forall_mem_cons.mpr ⟨wd_81, (List.forall_mem_cons.mpr ⟨wd_1008, (fun _ h => absurd h List.not_mem_nil)⟩)⟩)⟩)⟩) hov rfl hdg hst (fun v h' hq => by obtain ⟨rfl, rfl⟩ := hq; exact kk)
  rw [Nat.zero_add, Nat.zero_add] at e9
  exact e9
theorem clL_131 {dj : Nat} {as : List Value} {i : Nat} {r : Int32} {hr : hp_H} (ho : own = RL) (hM : hp_Cn l yX8_trace mX8_trace dj zz 0 0 (.ref i :: as) h (fun v h2 => some (.int r) = v ∧ hr = h2)) (hla : as.length = 0) (hd : dj + 1 ≤ d) (hrest : (st.map fun v => v.category).sum ≤ 8) {fs : List Value} (hov : hg_o h i 7 = some fs) (hdg : decode cc pc = .ok (.invokevirtual 131, 3)) {st0 : List Value} (hst : st0 = as.reverse ++ .ref i :: st) (kk : hp_G l (own, cc, nL, rt, ini) X d zr Q zz k n (pc + 3) lv (.int r :: st) hr) : hp_G l (own, cc, nL, rt, ini) X d zr Q zz k n pc lv st0 h := by
  subst ho
  have e9 := hp_callV (dj := dj) (k := k) (n := n) (y := yX8_trace) (mj := mX8_trace) hM hd (by decide) hrest (by rw [hla]; (try dsimp only); decide +kernel) wd_653 (List.forall_mem_cons.mpr ⟨wd_654, (List.forall_mem_cons.mpr ⟨wd_655, (List.forall_mem_cons.mpr ⟨wd_73, (List.forall_mem_cons.mpr ⟨wd_656, (fun _ h => absurd h List.not_mem_nil)⟩)⟩)⟩)⟩) hov rfl hdg hst (fun v h' hq => by obtain ⟨rfl, rfl⟩ := hq; exact kk)
  rw [Nat.zero_add, Nat.zero_add] at e9
  exact e9
theorem clL_135 {dj : Nat} {as : List Value} {i : Nat} {r : Int32} {hr : hp_H} (ho : own = RL) (hM : hp_Cn l yX9_trace mX9_trace dj zz 0 0 (.ref i :: as) h (fun v h2 => some (.int r) = v ∧ hr = h2)) (hla : as.length = 0) (hd : dj + 1 ≤ d) (hrest : (st.map fun v => v.category).sum ≤ 8) {fs : List Value} (hov : hg_o h i 8 = some fs) (hdg : decode cc pc = .ok (.invokevirtual 135, 3)) {st0 : List Value} (hst : st0 = as.reverse ++ .ref i :: st) (kk : hp_G l (own, cc, nL, rt, ini) X d zr Q zz k n (pc + 3) lv (.int r :: st) hr) : hp_G l (own, cc, nL, rt, ini) X d zr Q zz k n pc lv st0 h := by
  subst ho
  have e9 := hp_callV (dj := dj) (k := k) (n := n) (y := yX9_trace) (mj := mX9_trace) hM hd (by decide) hrest (by rw [hla]; (try dsimp only); decide +kernel) wd_1009 (List.forall_mem_cons.mpr ⟨wd_1010, (List.forall_mem_cons.mpr ⟨wd_1011, (List.forall_mem_cons.mpr ⟨wd_81, (List.forall_mem_cons.mpr ⟨wd_1012, (fun _ h => absurd h List.not_mem_nil)⟩)⟩)⟩)⟩) hov rfl hdg hst (fun v h' hq => by obtain ⟨rfl, rfl⟩ := hq; exact kk)
  rw [Nat.zero_add, Nat.zero_add] at e9
  exact e9
theorem clL_136 {dj : Nat} {as : List Value} {i : Nat} {r : Int32} {hr : hp_H} (ho : own = RL) (hM : hp_Cn l yX8_fault mX8_fault dj zz 0 0 (.ref i :: as) h (fun v h2 => some (.int r) = v ∧ hr = h2)) (hla : as.length = 0) (hd : dj + 1 ≤ d) (hrest : (st.map fun v => v.category).sum ≤ 8) {fs : List Value} (hov : hg_o h i 7 = some fs) (hdg : decode cc pc = .ok (.invokevirtual 136, 3)) {st0 : List Value} (hst : st0 = as.reverse ++ .ref i :: st) (kk : hp_G l (own, cc, nL, rt, ini) X d zr Q zz k n (pc + 3) lv (.int r :: st) hr) : hp_G l (own, cc, nL, rt, ini) X d zr Q zz k n pc lv st0 h := by
  subst ho
  have e9 := hp_callV (dj := dj) (k := k) (n := n) (y := yX8_fault) (mj := mX8_fault) hM hd (by decide) hrest (by rw [hla]; (try dsimp only); decide +kernel) wd_657 (List.forall_mem_cons.mpr ⟨wd_658, (List.forall_mem_cons.mpr ⟨wd_659, (List.forall_mem_cons.mpr ⟨wd_73, (List.forall_mem_cons.mpr ⟨wd_660, (fun _ h => absurd h List.not_mem_nil)⟩)⟩)⟩)⟩) hov rfl hdg hst (fun v h' hq => by obtain ⟨rfl, rfl⟩ := hq; exact kk)
  rw [Nat.zero_add, Nat.zero_add] at e9
  exact e9
theorem clL_139 {dj : Nat} {as : List Value} {i : Nat} {r : Int32} {hr : hp_H} (ho : own = RL) (hM : hp_Cn l yX9_fault mX9_fault dj zz 0 0 (.ref i :: as) h (fun v h2 => some (.int r) = v ∧ hr = h2)) (hla : as.length = 0) (hd : dj + 1 ≤ d) (hrest : (st.map fun v => v.category).sum ≤ 8) {fs : List Value} (hov : hg_o h i 8 = some fs) (hdg : decode cc pc = .ok (.invokevirtual 139, 3)) {st0 : List Value} (hst : st0 = as.reverse ++ .ref i :: st) (kk : hp_G l (own, cc, nL, rt, ini) X d zr Q zz k n (pc + 3) lv (.int r :: st) hr) : hp_G l (own, cc, nL, rt, ini) X d zr Q zz k n pc lv st0 h := by
  subst ho
  have e9 := hp_callV (dj := dj) (k := k) (n := n) (y := yX9_fault) (mj := mX9_fault) hM hd (by decide) hrest (by rw [hla]; (try dsimp only); decide +kernel) wd_1013 (List.forall_mem_cons.mpr ⟨wd_1014, (List.forall_mem_cons.mpr ⟨wd_1015, (List.forall_mem_cons.mpr ⟨wd_81, (List.forall_mem_cons.mpr ⟨wd_1016, (fun _ h => absurd h List.not_mem_nil)⟩)⟩)⟩)⟩) hov rfl hdg hst (fun v h' hq => by obtain ⟨rfl, rfl⟩ := hq; exact kk)
  rw [Nat.zero_add, Nat.zero_add] at e9
  exact e9
theorem clL_140 {dj : Nat} {as : List Value} {i : Nat} {r : Int32} {hr : hp_H} (ho : own = RL) (hM : hp_Cn l yX8_many mX8_many dj zz 0 0 (.ref i :: as) h (fun v h2 => some (.int r) = v ∧ hr = h2)) (hla : as.length = 1) (hd : dj + 1 ≤ d) (hrest : (st.map fun v => v.category).sum ≤ 8) {fs : List Value} (hov : hg_o h i 7 = some fs) (hdg : decode cc pc = .ok (.invokevirtual 140, 3)) {st0 : List Value} (hst : st0 = as.reverse ++ .ref i :: st) (kk : hp_G l (own, cc, nL, rt, ini) X d zr Q zz k n (pc + 3) lv (.int r :: st) hr) : hp_G l (own, cc, nL, rt, ini) X d zr Q zz k n pc lv st0 h := by
  subst ho
  have e9 := hp_callV (dj := dj) (k := k) (n := n) (y := yX8_many) (mj := mX8_many) hM hd (by decide) hrest (by rw [hla]; (try dsimp only); decide +kernel) wd_661 (List.forall_mem_cons.mpr ⟨wd_662, (List.forall_mem_cons.mpr ⟨wd_663, (List.forall_mem_cons.mpr ⟨wd_73, (List.forall_mem_cons.mpr ⟨wd_664, (fun _ h => absurd h List.not_mem_nil)⟩)⟩)⟩)⟩) hov rfl hdg hst (fun v h' hq => by obtain ⟨rfl, rfl⟩ := hq; exact kk)
  rw [Nat.zero_add, Nat.zero_add] at e9
  exact e9
theorem clL_143 {dj : Nat} {as : List Value} {i : Nat} {r : Int32} {hr : hp_H} (ho : own = RL) (hM : hp_Cn l yX9_many mX9_many dj zz 0 0 (.ref i :: as) h (fun v h2 => some (.int r) = v ∧ hr = h2)) (hla : as.length = 1) (hd : dj + 1 ≤ d) (hrest : (st.map fun v => v.category).sum ≤ 8) {fs : List Value} (hov : hg_o h i 8 = some fs) (hdg : decode cc pc = .ok (.invokevirtual 143, 3)) {st0 : List Value} (hst : st0 = as.reverse ++ .ref i :: st) (kk : hp_G l (own, cc, nL, rt, ini) X d zr Q zz k n (pc + 3) lv (.int r :: st) hr) : hp_G l (own, cc, nL, rt, ini) X d zr Q zz k n pc lv st0 h := by
  subst ho
  have e9 := hp_callV (dj := dj) (k := k) (n := n) (y := yX9_many) (mj := mX9_many) hM hd (by decide) hrest (by rw [hla]; (try dsimp only); decide +kernel) wd_1017 (List.forall_mem_cons.mpr ⟨wd_1018, (List.forall_mem_cons.mpr ⟨wd_1019, (List.forall_mem_cons.mpr ⟨wd_81, (List.forall_mem_cons.mpr ⟨wd_1020, (fun _ h => absurd h List.not_mem_nil)⟩)⟩)⟩)⟩) hov rfl hdg hst (fun v h' hq => by obtain ⟨rfl, rfl⟩ := hq; exact kk)
  rw [Nat.zero_add, Nat.zero_add] at e9
  exact e9
end HPT
