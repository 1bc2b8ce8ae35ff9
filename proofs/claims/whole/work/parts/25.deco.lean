noncomputable def fX8_game (h : hp_H) (a0 : Nat) (p1 : Int32) (p2 : Int32) (p3 : Int32) (p4 : Int32) : Option (Int32 × hp_H) :=
(gq_ h a0 7 0).bind fun x1 =>
(hg_o h x1 6).bind fun o2 =>
(fX7_hasTwo h x1 p1 p2).bind fun r3 =>
if r3 = 0 then
(some ((-1), h))
else
((gq_ h a0 7 0).bind fun x5 =>
(gq_ h x5 6 0).bind fun x6 =>
(ql_ h x6 p1).bind fun x7 =>
(hg_o h x7 2).bind fun o8 =>
(fX2_canPlay h x7 p3).bind fun r9 =>
if r9 = 0 then
(some ((-2), h))
else
((gq_ h a0 7 0).bind fun x11 =>
(gq_ h x11 6 0).bind fun x12 =>
(ql_ h x12 p2).bind fun x13 =>
(hg_o h x13 2).bind fun o14 =>
(fX2_canPlay h x13 p4).bind fun r15 =>
if r15 = 0 then
(some ((-2), h))
else
((gq_ h a0 7 0).bind fun x17 =>
(hg_o h x17 6).bind fun o18 =>
(fX7_bothHere h x17 p1 p2).bind fun r19 =>
if r19 = 0 then
(some ((-3), h))
else
((gi_ h a0 7 6).bind fun x21 =>
(pi_ h a0 7 6 (x21 + 1)).bind fun h22 =>
(gq_ h22 a0 7 0).bind fun x23 =>
(hg_o h22 x23 6).bind fun o24 =>
(fX7_winnerLeaves h22 x23 p1 p2 p3 p4).bind fun r25 =>
some (r25.1, r25.2)))))
set_option maxRecDepth 20000 in
set_option maxHeartbeats 4000000 in
theorem tX8_game (l : Launch) {h : hp_H} {a0 : Nat} {p1 : Int32} {p2 : Int32} {p3 : Int32} {p4 : Int32} {r : (Int32 × hp_H)} (hf : fX8_game h a0 p1 p2 p3 p4 = some r) {Q : Option Value → hp_H → Prop} (kr : Q (some (.int r.1)) r.2) : hp_G l mX8_game none 3 false Q false 0 0 0 [(0, .ref a0), (1, .int p1), (2, .int p2), (3, .int p3), (4, .int p4)] [] h := by
  unfold fX8_game at hf
  refine hp_aload_n 0 dX8_game_0 rfl rfl (?_ : hp_G _ _ _ _ _ _ _ _ _ 1 _ _ _)
  replace hf := ob_ hf
  obtain ⟨x1, ex1, hf⟩ := hf
  refine fgX8_12 rfl dX8_game_1 ex1 (?_ : hp_G _ _ _ _ _ _ _ _ _ 4 _ _ _)
  refine hp_iload_n 1 dX8_game_4 rfl rfl (?_ : hp_G _ _ _ _ _ _ _ _ _ 5 _ _ _)
  refine hp_iload_n 2 dX8_game_5 rfl rfl (?_ : hp_G _ _ _ _ _ _ _ _ _ 6 _ _ _)
  replace hf := ob_ hf
  obtain ⟨o2, eo2, hf⟩ := hf
  replace hf := ob_ hf
  obtain ⟨r3, er3, hf⟩ := hf
  refine clX8_119 (as := [.int p1, .int p2]) (st := []) rfl (kX7_hasTwo l er3) rfl (by decide) (Nat.le_of_ble_eq_true rfl) eo2 dX8_game_6 rfl (?_ : hp_G _ _ _ _ _ _ _ _ _ 9 _ _ _)
  refine hp_if_ne (tgt := 14) dX8_game_9 rfl (fun c4 => ?_) (fun c4 => (?_ : hp_G _ _ _ _ _ _ _ _ _ 12 _ _ _))
  · replace hf := of_ c4 hf
    refine hp_aload_n 0 dX8_game_14 rfl rfl (?_ : hp_G _ _ _ _ _ _ _ _ _ 15 _ _ _)
    replace hf := ob_ hf
    obtain ⟨x5, ex5, hf⟩ := hf
    refine fgX8_12 rfl dX8_game_15 ex5 (?_ : hp_G _ _ _ _ _ _ _ _ _ 18 _ _ _)
    replace hf := ob_ hf
    obtain ⟨x6, ex6, hf⟩ := hf
    refine fgX8_96 rfl dX8_game_18 ex6 (?_ : hp_G _ _ _ _ _ _ _ _ _ 21 _ _ _)
    refine hp_iload_n 1 dX8_game_21 rfl rfl (?_ : hp_G _ _ _ _ _ _ _ _ _ 22 _ _ _)
    replace hf := ob_ hf
    obtain ⟨x7, ex7, hf⟩ := hf
    refine hp_aaload dX8_game_22 ex7 (?_ : hp_G _ _ _ _ _ _ _ _ _ 23 _ _ _)
    refine hp_iload_n 3 dX8_game_23 rfl rfl (?_ : hp_G _ _ _ _ _ _ _ _ _ 24 _ _ _)
    replace hf := ob_ hf
    obtain ⟨o8, eo8, hf⟩ := hf
    replace hf := ob_ hf
    obtain ⟨r9, er9, hf⟩ := hf
    refine clX8_123 (as := [.int p3]) (st := []) rfl (kX2_canPlay l er9) rfl (by decide) (Nat.le_of_ble_eq_true rfl) eo8 dX8_game_24 rfl (?_ : hp_G _ _ _ _ _ _ _ _ _ 27 _ _ _)
    refine hp_if_eq (tgt := 47) dX8_game_27 rfl (fun c10 => ?_) (fun c10 => (?_ : hp_G _ _ _ _ _ _ _ _ _ 30 _ _ _))
    · replace hf := ot_ c10 hf
      refine hp_bipush (v := (-2)) dX8_game_47 bi_m2 (?_ : hp_G _ _ _ _ _ _ _ _ _ 49 _ _ _)
      obtain rfl := Option.some.inj hf
      exact hp_iret kr (fun z => z) rfl dX8_game_49
    · replace hf := of_ c10 hf
      refine hp_aload_n 0 dX8_game_30 rfl rfl (?_ : hp_G _ _ _ _ _ _ _ _ _ 31 _ _ _)
      replace hf := ob_ hf
      obtain ⟨x11, ex11, hf⟩ := hf
      refine fgX8_12 rfl dX8_game_31 ex11 (?_ : hp_G _ _ _ _ _ _ _ _ _ 34 _ _ _)
      replace hf := ob_ hf
      obtain ⟨x12, ex12, hf⟩ := hf
      refine fgX8_96 rfl dX8_game_34 ex12 (?_ : hp_G _ _ _ _ _ _ _ _ _ 37 _ _ _)
      refine hp_iload_n 2 dX8_game_37 rfl rfl (?_ : hp_G _ _ _ _ _ _ _ _ _ 38 _ _ _)
      replace hf := ob_ hf
      obtain ⟨x13, ex13, hf⟩ := hf
      refine hp_aaload dX8_game_38 ex13 (?_ : hp_G _ _ _ _ _ _ _ _ _ 39 _ _ _)
      refine hp_iload 4 dX8_game_39 rfl (?_ : hp_G _ _ _ _ _ _ _ _ _ 41 _ _ _)
      replace hf := ob_ hf
      obtain ⟨o14, eo14, hf⟩ := hf
      replace hf := ob_ hf
      obtain ⟨r15, er15, hf⟩ := hf
      refine clX8_123 (as := [.int p4]) (st := []) rfl (kX2_canPlay l er15) rfl (by decide) (Nat.le_of_ble_eq_true rfl) eo14 dX8_game_41 rfl (?_ : hp_G _ _ _ _ _ _ _ _ _ 44 _ _ _)
      refine hp_if_ne (tgt := 50) dX8_game_44 rfl (fun c16 => ?_) (fun c16 => (?_ : hp_G _ _ _ _ _ _ _ _ _ 47 _ _ _))
      · replace hf := of_ c16 hf
        refine hp_aload_n 0 dX8_game_50 rfl rfl (?_ : hp_G _ _ _ _ _ _ _ _ _ 51 _ _ _)
        replace hf := ob_ hf
        obtain ⟨x17, ex17, hf⟩ := hf
        refine fgX8_12 rfl dX8_game_51 ex17 (?_ : hp_G _ _ _ _ _ _ _ _ _ 54 _ _ _)
        refine hp_iload_n 1 dX8_game_54 rfl rfl (?_ : hp_G _ _ _ _ _ _ _ _ _ 55 _ _ _)
        refine hp_iload_n 2 dX8_game_55 rfl rfl (?_ : hp_G _ _ _ _ _ _ _ _ _ 56 _ _ _)
        replace hf := ob_ hf
        obtain ⟨o18, eo18, hf⟩ := hf
        replace hf := ob_ hf
        obtain ⟨r19, er19, hf⟩ := hf
        refine clX8_126 (as := [.int p1, .int p2]) (st := []) rfl (kX7_bothHere l er19) rfl (by decide) (Nat.le_of_ble_eq_true rfl) eo18 dX8_game_56 rfl (?_ : hp_G _ _ _ _ _ _ _ _ _ 59 _ _ _)
        refine hp_if_ne (tgt := 65) dX8_game_59 rfl (fun c20 => ?_) (fun c20 => (?_ : hp_G _ _ _ _ _ _ _ _ _ 62 _ _ _))
        · replace hf := of_ c20 hf
          refine hp_aload_n 0 dX8_game_65 rfl rfl (?_ : hp_G _ _ _ _ _ _ _ _ _ 66 _ _ _)
          refine hp_dup dX8_game_66 rfl (?_ : hp_G _ _ _ _ _ _ _ _ _ 67 _ _ _)
          replace hf := ob_ hf
          obtain ⟨x21, ex21, hf⟩ := hf
          refine fgX8_82 rfl dX8_game_67 ex21 (?_ : hp_G _ _ _ _ _ _ _ _ _ 70 _ _ _)
          refine hp_iconst (v := 1) dX8_game_70 ic_1 (?_ : hp_G _ _ _ _ _ _ _ _ _ 71 _ _ _)
          refine hp_iadd dX8_game_71 (?_ : hp_G _ _ _ _ _ _ _ _ _ 72 _ _ _)
          replace hf := ob_ hf
          obtain ⟨h22, eh22, hf⟩ := hf
          refine fpX8_82 rfl dX8_game_72 eh22 (?_ : hp_G _ _ _ _ _ _ _ _ _ 75 _ _ _)
          refine hp_aload_n 0 dX8_game_75 rfl rfl (?_ : hp_G _ _ _ _ _ _ _ _ _ 76 _ _ _)
          replace hf := ob_ hf
          obtain ⟨x23, ex23, hf⟩ := hf
          refine fgX8_12 rfl dX8_game_76 ex23 (?_ : hp_G _ _ _ _ _ _ _ _ _ 79 _ _ _)
          refine hp_iload_n 1 dX8_game_79 rfl rfl (?_ : hp_G _ _ _ _ _ _ _ _ _ 80 _ _ _)
          refine hp_iload_n 2 dX8_game_80 rfl rfl (?_ : hp_G _ _ _ _ _ _ _ _ _ 81 _ _ _)
          refine hp_iload_n 3 dX8_game_81 rfl rfl (?_ : hp_G _ _ _ _ _ _ _ _ _ 82 _ _ _)
          refine hp_iload 4 dX8_game_82 rfl (?_ : hp_G _ _ _ _ _ _ _ _ _ 84 _ _ _)
          replace hf := ob_ hf
          obtain ⟨o24, eo24, hf⟩ := hf
          replace hf := ob_ hf
          obtain ⟨r25, er25, hf⟩ := hf
          refine clX8_129 (as := [.int p1, .int p2, .int p3, .int p4]) (st := []) rfl (kX7_winnerLeaves l er25) rfl (by decide) (Nat.le_of_ble_eq_true rfl) eo24 dX8_game_84 rfl (?_ : hp_G _ _ _ _ _ _ _ _ _ 87 _ _ _)
          obtain rfl := Option.some.inj hf
          exact hp_iret kr (fun z => z) rfl dX8_game_87
        · replace hf := ot_ c20 hf
          refine hp_bipush (v := (-3)) dX8_game_62 bi_m3 (?_ : hp_G _ _ _ _ _ _ _ _ _ 64 _ _ _)
          obtain rfl := Option.some.inj hf
          exact hp_iret kr (fun z => z) rfl dX8_game_64
      · replace hf := ot_ c16 hf
        refine hp_bipush (v := (-2)) dX8_game_47 bi_m2 (?_ : hp_G _ _ _ _ _ _ _ _ _ 49 _ _ _)
        obtain rfl := Option.some.inj hf
        exact hp_iret kr (fun z => z) rfl dX8_game_49
  · replace hf := ot_ c4 hf
    refine hp_iconst (v := (-1)) dX8_game_12 ic_m1 (?_ : hp_G _ _ _ _ _ _ _ _ _ 13 _ _ _)
    obtain rfl := Option.some.inj hf
    exact hp_iret kr (fun z => z) rfl dX8_game_13
theorem kX8_game (l : Launch) {h : hp_H} {a0 : Nat} {p1 : Int32} {p2 : Int32} {p3 : Int32} {p4 : Int32} {r : (Int32 × hp_H)} (hf : fX8_game h a0 p1 p2 p3 p4 = some r) : hp_Cn l yX8_game mX8_game 3 false 0 0 [.ref a0, .int p1, .int p2, .int p3, .int p4] h (fun v h2 => some (.int r.1) = v ∧ r.2 = h2) :=
  hp_of (by decide) rfl (fun z => by cases z) (Nat.le_of_ble_eq_true rfl) (tX8_game l hf ⟨rfl, rfl⟩)
noncomputable def fX9_areTwo (h : hp_H) (a0 : Nat) (p1 : Int32) (p2 : Int32) : Option Int32 :=
(hg_o h a0 8).bind fun o1 =>
(fX9_isPerson h a0 p1).bind fun r2 =>
if r2 = 0 then
(some 0)
else
((hg_o h a0 8).bind fun o4 =>
(fX9_isPerson h a0 p2).bind fun r5 =>
if r5 = 0 then
(some 0)
else
(if p1 = p2 then
(some 0)
else
(some 1)))
set_option maxRecDepth 20000 in
set_option maxHeartbeats 4000000 in
theorem tX9_areTwo (l : Launch) {h : hp_H} {a0 : Nat} {p1 : Int32} {p2 : Int32} {r : Int32} (hf : fX9_areTwo h a0 p1 p2 = some r) {Q : Option Value → hp_H → Prop} (kr : Q (some (.int r)) h) : hp_G l mX9_areTwo none 1 false Q false 0 0 0 [(0, .ref a0), (1, .int p1), (2, .int p2)] [] h := by
  unfold fX9_areTwo at hf
  refine hp_aload_n 0 dX9_areTwo_0 rfl rfl (?_ : hp_G _ _ _ _ _ _ _ _ _ 1 _ _ _)
  refine hp_iload_n 1 dX9_areTwo_1 rfl rfl (?_ : hp_G _ _ _ _ _ _ _ _ _ 2 _ _ _)
  replace hf := ob_ hf
  obtain ⟨o1, eo1, hf⟩ := hf
  replace hf := ob_ hf
  obtain ⟨r2, er2, hf⟩ := hf
  refine clX9_74 (as := [.int p1]) (st := []) rfl (kX9_isPerson l er2) rfl (by decide) (Nat.le_of_ble_eq_true rfl) eo1 dX9_areTwo_2 rfl (?_ : hp_G _ _ _ _ _ _ _ _ _ 5 _ _ _)
  refine hp_if_eq (tgt := 25) dX9_areTwo_5 rfl (fun c3 => ?_) (fun c3 => (?_ : hp_G _ _ _ _ _ _ _ _ _ 8 _ _ _))
  · replace hf := ot_ c3 hf
    refine hp_iconst (v := 0) dX9_areTwo_25 ic_0 (?_ : hp_G _ _ _ _ _ _ _ _ _ 26 _ _ _)
    obtain rfl := Option.some.inj hf
    exact hp_zret kr (fun z => z) rfl (by decide) dX9_areTwo_26
  · replace hf := of_ c3 hf
    refine hp_aload_n 0 dX9_areTwo_8 rfl rfl (?_ : hp_G _ _ _ _ _ _ _ _ _ 9 _ _ _)
    refine hp_iload_n 2 dX9_areTwo_9 rfl rfl (?_ : hp_G _ _ _ _ _ _ _ _ _ 10 _ _ _)
    replace hf := ob_ hf
    obtain ⟨o4, eo4, hf⟩ := hf
    replace hf := ob_ hf
    obtain ⟨r5, er5, hf⟩ := hf
    refine clX9_74 (as := [.int p2]) (st := []) rfl (kX9_isPerson l er5) rfl (by decide) (Nat.le_of_ble_eq_true rfl) eo4 dX9_areTwo_10 rfl (?_ : hp_G _ _ _ _ _ _ _ _ _ 13 _ _ _)
    refine hp_if_eq (tgt := 25) dX9_areTwo_13 rfl (fun c6 => ?_) (fun c6 => (?_ : hp_G _ _ _ _ _ _ _ _ _ 16 _ _ _))
    · replace hf := ot_ c6 hf
      refine hp_iconst (v := 0) dX9_areTwo_25 ic_0 (?_ : hp_G _ _ _ _ _ _ _ _ _ 26 _ _ _)
      obtain rfl := Option.some.inj hf
      exact hp_zret kr (fun z => z) rfl (by decide) dX9_areTwo_26
    · replace hf := of_ c6 hf
      refine hp_iload_n 1 dX9_areTwo_16 rfl rfl (?_ : hp_G _ _ _ _ _ _ _ _ _ 17 _ _ _)
      refine hp_iload_n 2 dX9_areTwo_17 rfl rfl (?_ : hp_G _ _ _ _ _ _ _ _ _ 18 _ _ _)
      refine hp_icmp_eq (tgt := 25) dX9_areTwo_18 rfl (fun c7 => ?_) (fun c7 => (?_ : hp_G _ _ _ _ _ _ _ _ _ 21 _ _ _))
      · replace hf := ot_ c7 hf
        refine hp_iconst (v := 0) dX9_areTwo_25 ic_0 (?_ : hp_G _ _ _ _ _ _ _ _ _ 26 _ _ _)
        obtain rfl := Option.some.inj hf
        exact hp_zret kr (fun z => z) rfl (by decide) dX9_areTwo_26
      · replace hf := of_ c7 hf
        refine hp_iconst (v := 1) dX9_areTwo_21 ic_1 (?_ : hp_G _ _ _ _ _ _ _ _ _ 22 _ _ _)
        refine hp_goto (tgt := 26) dX9_areTwo_22 rfl (?_ : hp_G _ _ _ _ _ _ _ _ _ 26 _ _ _)
        obtain rfl := Option.some.inj hf
        exact hp_zret kr (fun z => z) rfl (by decide) dX9_areTwo_26
theorem kX9_areTwo (l : Launch) {h : hp_H} {a0 : Nat} {p1 : Int32} {p2 : Int32} {r : Int32} (hf : fX9_areTwo h a0 p1 p2 = some r) : hp_Cn l yX9_areTwo mX9_areTwo 1 false 0 0 [.ref a0, .int p1, .int p2] h (fun v h2 => some (.int r) = v ∧ h = h2) :=
  hp_of (by decide) rfl (fun z => by cases z) (Nat.le_of_ble_eq_true rfl) (tX9_areTwo l hf ⟨rfl, rfl⟩)
noncomputable def fX9_isOf (h : hp_H) (p0 : Int32) (p1 : Int32) : Option Int32 :=
if (p0 >>> (p1 &&& 31)) &&& 1 = 1 then
(some 1)
else
(some 0)
set_option maxRecDepth 20000 in
set_option maxHeartbeats 4000000 in
theorem tX9_isOf (l : Launch) {h : hp_H} {p0 : Int32} {p1 : Int32} {r : Int32} (hf : fX9_isOf h p0 p1 = some r) {Q : Option Value → hp_H → Prop} (kr : Q (some (.int r)) h) : hp_G l mX9_isOf none 0 false Q false 0 0 0 [(0, .int p0), (1, .int p1)] [] h := by
  unfold fX9_isOf at hf
  refine hp_iload_n 0 dX9_isOf_0 rfl rfl (?_ : hp_G _ _ _ _ _ _ _ _ _ 1 _ _ _)
  refine hp_iload_n 1 dX9_isOf_1 rfl rfl (?_ : hp_G _ _ _ _ _ _ _ _ _ 2 _ _ _)
  refine hp_ishr dX9_isOf_2 (?_ : hp_G _ _ _ _ _ _ _ _ _ 3 _ _ _)
  refine hp_iconst (v := 1) dX9_isOf_3 ic_1 (?_ : hp_G _ _ _ _ _ _ _ _ _ 4 _ _ _)
  refine hp_iand dX9_isOf_4 (?_ : hp_G _ _ _ _ _ _ _ _ _ 5 _ _ _)
  refine hp_iconst (v := 1) dX9_isOf_5 ic_1 (?_ : hp_G _ _ _ _ _ _ _ _ _ 6 _ _ _)
  refine hp_icmp_ne (tgt := 13) dX9_isOf_6 rfl (fun c1 => ?_) (fun c1 => (?_ : hp_G _ _ _ _ _ _ _ _ _ 9 _ _ _))
  · replace hf := of_ c1 hf
    refine hp_iconst (v := 0) dX9_isOf_13 ic_0 (?_ : hp_G _ _ _ _ _ _ _ _ _ 14 _ _ _)
    obtain rfl := Option.some.inj hf
    exact hp_zret kr (fun z => z) rfl (by decide) dX9_isOf_14
  · replace hf := ot_ c1 hf
    refine hp_iconst (v := 1) dX9_isOf_9 ic_1 (?_ : hp_G _ _ _ _ _ _ _ _ _ 10 _ _ _)
    refine hp_goto (tgt := 14) dX9_isOf_10 rfl (?_ : hp_G _ _ _ _ _ _ _ _ _ 14 _ _ _)
    obtain rfl := Option.some.inj hf
    exact hp_zret kr (fun z => z) rfl (by decide) dX9_isOf_14
theorem kX9_isOf (l : Launch) {h : hp_H} {p0 : Int32} {p1 : Int32} {r : Int32} (hf : fX9_isOf h p0 p1 = some r) : hp_Cn l yX9_isOf mX9_isOf 0 false 0 0 [.int p0, .int p1] h (fun v h2 => some (.int r) = v ∧ h = h2) :=
  hp_of (by decide) rfl (fun z => by cases z) (Nat.le_of_ble_eq_true rfl) (tX9_isOf l hf ⟨rfl, rfl⟩)
noncomputable def fX9_isAway (h : hp_H) (a0 : Nat) (p1 : Int32) (p2 : Int32) : Option Int32 :=
(gi_ h a0 8 6).bind fun x1 =>
(fX9_isOf h x1 p1).bind fun r2 =>
if r2 = 0 then
((gi_ h a0 8 6).bind fun x4 =>
(fX9_isOf h x4 p2).bind fun r5 =>
if r5 = 0 then
(some 0)
else
(some 1))
else
(some 1)
set_option maxRecDepth 20000 in
set_option maxHeartbeats 4000000 in
theorem tX9_isAway (l : Launch) {h : hp_H} {a0 : Nat} {p1 : Int32} {p2 : Int32} {r : Int32} (hf : fX9_isAway h a0 p1 p2 = some r) {Q : Option Value → hp_H → Prop} (kr : Q (some (.int r)) h) : hp_G l mX9_isAway none 1 false Q false 0 0 0 [(0, .ref a0), (1, .int p1), (2, .int p2)] [] h := by
  unfold fX9_isAway at hf
  refine hp_aload_n 0 dX9_isAway_0 rfl rfl (?_ : hp_G _ _ _ _ _ _ _ _ _ 1 _ _ _)
  replace hf := ob_ hf
  obtain ⟨x1, ex1, hf⟩ := hf
  refine fgX9_101 rfl dX9_isAway_1 ex1 (?_ : hp_G _ _ _ _ _ _ _ _ _ 4 _ _ _)
  refine hp_iload_n 1 dX9_isAway_4 rfl rfl (?_ : hp_G _ _ _ _ _ _ _ _ _ 5 _ _ _)
  replace hf := ob_ hf
  obtain ⟨r2, er2, hf⟩ := hf
  refine clX9_126 (as := [.int x1, .int p1]) (st := []) rfl (kX9_isOf l er2) rfl (by decide) (Nat.le_of_ble_eq_true rfl) dX9_isAway_5 rfl (?_ : hp_G _ _ _ _ _ _ _ _ _ 8 _ _ _)
  refine hp_if_ne (tgt := 22) dX9_isAway_8 rfl (fun c3 => ?_) (fun c3 => (?_ : hp_G _ _ _ _ _ _ _ _ _ 11 _ _ _))
  · replace hf := of_ c3 hf
    refine hp_iconst (v := 1) dX9_isAway_22 ic_1 (?_ : hp_G _ _ _ _ _ _ _ _ _ 23 _ _ _)
    refine hp_goto (tgt := 27) dX9_isAway_23 rfl (?_ : hp_G _ _ _ _ _ _ _ _ _ 27 _ _ _)
    obtain rfl := Option.some.inj hf
    exact hp_zret kr (fun z => z) rfl (by decide) dX9_isAway_27
  · replace hf := ot_ c3 hf
    refine hp_aload_n 0 dX9_isAway_11 rfl rfl (?_ : hp_G _ _ _ _ _ _ _ _ _ 12 _ _ _)
    replace hf := ob_ hf
    obtain ⟨x4, ex4, hf⟩ := hf
    refine fgX9_101 rfl dX9_isAway_12 ex4 (?_ : hp_G _ _ _ _ _ _ _ _ _ 15 _ _ _)
    refine hp_iload_n 2 dX9_isAway_15 rfl rfl (?_ : hp_G _ _ _ _ _ _ _ _ _ 16 _ _ _)
    replace hf := ob_ hf
    obtain ⟨r5, er5, hf⟩ := hf
    refine clX9_126 (as := [.int x4, .int p2]) (st := []) rfl (kX9_isOf l er5) rfl (by decide) (Nat.le_of_ble_eq_true rfl) dX9_isAway_16 rfl (?_ : hp_G _ _ _ _ _ _ _ _ _ 19 _ _ _)
    refine hp_if_eq (tgt := 26) dX9_isAway_19 rfl (fun c6 => ?_) (fun c6 => (?_ : hp_G _ _ _ _ _ _ _ _ _ 22 _ _ _))
    · replace hf := ot_ c6 hf
      refine hp_iconst (v := 0) dX9_isAway_26 ic_0 (?_ : hp_G _ _ _ _ _ _ _ _ _ 27 _ _ _)
      obtain rfl := Option.some.inj hf
      exact hp_zret kr (fun z => z) rfl (by decide) dX9_isAway_27
    · replace hf := of_ c6 hf
      refine hp_iconst (v := 1) dX9_isAway_22 ic_1 (?_ : hp_G _ _ _ _ _ _ _ _ _ 23 _ _ _)
      refine hp_goto (tgt := 27) dX9_isAway_23 rfl (?_ : hp_G _ _ _ _ _ _ _ _ _ 27 _ _ _)
      obtain rfl := Option.some.inj hf
      exact hp_zret kr (fun z => z) rfl (by decide) dX9_isAway_27
theorem kX9_isAway (l : Launch) {h : hp_H} {a0 : Nat} {p1 : Int32} {p2 : Int32} {r : Int32} (hf : fX9_isAway h a0 p1 p2 = some r) : hp_Cn l yX9_isAway mX9_isAway 1 false 0 0 [.ref a0, .int p1, .int p2] h (fun v h2 => some (.int r) = v ∧ h = h2) :=
  hp_of (by decide) rfl (fun z => by cases z) (Nat.le_of_ble_eq_true rfl) (tX9_isAway l hf ⟨rfl, rfl⟩)
noncomputable def jX9_play_20 (g : hp_H)  (u0 : Nat) (k0 : Int32) : Option (Int32 × hp_H) :=
(gi_ g u0 8 6).bind fun x3 =>
(pi_ g u0 8 6 (x3 ||| ((1 : Int32) <<< (k0 &&& 31)))).bind fun h4 =>
some (k0, h4)
set_option maxRecDepth 20000 in
set_option maxHeartbeats 4000000 in
theorem tjX9_play_20 (l : Launch) {g : hp_H}  {u0 : Nat} {k0 : Int32} {r : (Int32 × hp_H)} (hf : jX9_play_20 g u0 k0 = some r) {Q : Option Value → hp_H → Prop} (kr : Q (some (.int r.1)) r.2) : hp_G l mX9_play none 0 false Q false 0 0 20 [(0, .ref u0)] [.int k0] g := by
  unfold jX9_play_20 at hf
  refine hp_istore (lv' := [(5, .int k0), (0, .ref u0)]) dX9_play_20 (Nat.le_of_ble_eq_true rfl) rfl (?_ : hp_G _ _ _ _ _ _ _ _ _ 22 _ _ _)
  refine hp_aload_n 1 dX9_play_22 rfl rfl (?_ : hp_G _ _ _ _ _ _ _ _ _ 23 _ _ _)
  refine hp_dup dX9_play_23 rfl (?_ : hp_G _ _ _ _ _ _ _ _ _ 24 _ _ _)
  replace hf := ob_ hf
  obtain ⟨x3, ex3, hf⟩ := hf
  refine fgX9_101 rfl dX9_play_24 ex3 (?_ : hp_G _ _ _ _ _ _ _ _ _ 27 _ _ _)
  refine hp_iconst (v := 1) dX9_play_27 ic_1 (?_ : hp_G _ _ _ _ _ _ _ _ _ 28 _ _ _)
  refine hp_iload 0 dX9_play_28 rfl (?_ : hp_G _ _ _ _ _ _ _ _ _ 30 _ _ _)
  refine hp_ishl dX9_play_30 (?_ : hp_G _ _ _ _ _ _ _ _ _ 31 _ _ _)
  refine hp_ior dX9_play_31 (?_ : hp_G _ _ _ _ _ _ _ _ _ 32 _ _ _)
  replace hf := ob_ hf
  obtain ⟨h4, eh4, hf⟩ := hf
  refine fpX9_101 rfl dX9_play_32 eh4 (?_ : hp_G _ _ _ _ _ _ _ _ _ 35 _ _ _)
  refine hp_iload 0 dX9_play_35 rfl (?_ : hp_G _ _ _ _ _ _ _ _ _ 37 _ _ _)
  obtain rfl := Option.some.inj hf
  exact hp_iret kr (fun z => z) rfl dX9_play_37
noncomputable def fX9_play (h : hp_H) (a0 : Nat) (p1 : Int32) (p2 : Int32) (p3 : Int32) (p4 : Int32) : Option (Int32 × hp_H) :=
if p3 = p4 then
(some ((-9), h))
else
(if p3 ≤ p4 then
(jX9_play_20 h a0 p2)
else
(jX9_play_20 h a0 p1))
set_option maxRecDepth 20000 in
set_option maxHeartbeats 4000000 in
theorem tX9_play (l : Launch) {h : hp_H} {a0 : Nat} {p1 : Int32} {p2 : Int32} {p3 : Int32} {p4 : Int32} {r : (Int32 × hp_H)} (hf : fX9_play h a0 p1 p2 p3 p4 = some r) {Q : Option Value → hp_H → Prop} (kr : Q (some (.int r.1)) r.2) : hp_G l mX9_play none 0 false Q false 0 0 0 [(0, .ref a0), (1, .int p1), (2, .int p2), (3, .int p3), (4, .int p4)] [] h := by
  unfold fX9_play at hf
  refine hp_iload_n 3 dX9_play_0 rfl rfl (?_ : hp_G _ _ _ _ _ _ _ _ _ 1 _ _ _)
  refine hp_iload 4 dX9_play_1 rfl (?_ : hp_G _ _ _ _ _ _ _ _ _ 3 _ _ _)
  refine hp_icmp_ne (tgt := 9) dX9_play_3 rfl (fun c1 => ?_) (fun c1 => (?_ : hp_G _ _ _ _ _ _ _ _ _ 6 _ _ _))
  · replace hf := of_ c1 hf
    refine hp_iload_n 3 dX9_play_9 rfl rfl (?_ : hp_G _ _ _ _ _ _ _ _ _ 10 _ _ _)
    refine hp_iload 4 dX9_play_10 rfl (?_ : hp_G _ _ _ _ _ _ _ _ _ 12 _ _ _)
    refine hp_icmp_le (tgt := 19) dX9_play_12 rfl (fun c2 => ?_) (fun c2 => (?_ : hp_G _ _ _ _ _ _ _ _ _ 15 _ _ _))
    · replace hf := ot_ c2 hf
      refine hp_iload_n 2 dX9_play_19 rfl rfl (?_ : hp_G _ _ _ _ _ _ _ _ _ 20 _ _ _)
      exact hp_sub [0] rfl (tjX9_play_20 l hf kr)
    · replace hf := of_ c2 hf
      refine hp_iload_n 1 dX9_play_15 rfl rfl (?_ : hp_G _ _ _ _ _ _ _ _ _ 16 _ _ _)
      refine hp_goto (tgt := 20) dX9_play_16 rfl (?_ : hp_G _ _ _ _ _ _ _ _ _ 20 _ _ _)
      exact hp_sub [0] rfl (tjX9_play_20 l hf kr)
  · replace hf := ot_ c1 hf
    refine hp_bipush (v := (-9)) dX9_play_6 bi_m9 (?_ : hp_G _ _ _ _ _ _ _ _ _ 8 _ _ _)
    obtain rfl := Option.some.inj hf
    exact hp_iret kr (fun z => z) rfl dX9_play_8
theorem kX9_play (l : Launch) {h : hp_H} {a0 : Nat} {p1 : Int32} {p2 : Int32} {p3 : Int32} {p4 : Int32} {r : (Int32 × hp_H)} (hf : fX9_play h a0 p1 p2 p3 p4 = some r) : hp_Cn l yX9_play mX9_play 0 false 0 0 [.ref a0, .int p1, .int p2, .int p3, .int p4] h (fun v h2 => some (.int r.1) = v ∧ r.2 = h2) :=
  hp_of (by decide) rfl (fun z => by cases z) (Nat.le_of_ble_eq_true rfl) (tX9_play l hf ⟨rfl, rfl⟩)
noncomputable def fX9_game (h : hp_H) (a0 : Nat) (p1 : Int32) (p2 : Int32) (p3 : Int32) (p4 : Int32) : Option (Int32 × hp_H) :=
(hg_o h a0 8).bind fun o1 =>
(fX9_areTwo h a0 p1 p2).bind fun r2 =>
if r2 = 0 then
(some ((-1), h))
else
((hg_o h a0 8).bind fun o4 =>
(fX9_worstOf h a0 p1).bind fun r5 =>
(hg_o h a0 8).bind fun o6 =>
(fX9_bestOf h a0 p1).bind fun r7 =>
(fX9_within h p3 r5 r7).bind fun r8 =>
if r8 = 0 then
(some ((-2), h))
else
((hg_o h a0 8).bind fun o10 =>
(fX9_worstOf h a0 p2).bind fun r11 =>
(hg_o h a0 8).bind fun o12 =>
(fX9_bestOf h a0 p2).bind fun r13 =>
(fX9_within h p4 r11 r13).bind fun r14 =>
if r14 = 0 then
(some ((-2), h))
else
((hg_o h a0 8).bind fun o16 =>
(fX9_isAway h a0 p1 p2).bind fun r17 =>
if r17 = 0 then
((gi_ h a0 8 7).bind fun x19 =>
(pi_ h a0 8 7 (x19 + 1)).bind fun h20 =>
(hg_o h20 a0 8).bind fun o21 =>
(fX9_play h20 a0 p1 p2 p3 p4).bind fun r22 =>
some (r22.1, r22.2))
else
(some ((-3), h)))))
set_option maxRecDepth 20000 in
set_option maxHeartbeats 4000000 in
theorem tX9_game (l : Launch) {h : hp_H} {a0 : Nat} {p1 : Int32} {p2 : Int32} {p3 : Int32} {p4 : Int32} {r : (Int32 × hp_H)} (hf : fX9_game h a0 p1 p2 p3 p4 = some r) {Q : Option Value → hp_H → Prop} (kr : Q (some (.int r.1)) r.2) : hp_G l mX9_game none 2 false Q false 0 0 0 [(0, .ref a0), (1, .int p1), (2, .int p2), (3, .int p3), (4, .int p4)] [] h := by
  unfold fX9_game at hf
  refine hp_aload_n 0 dX9_game_0 rfl rfl (?_ : hp_G _ _ _ _ _ _ _ _ _ 1 _ _ _)
  refine hp_iload_n 1 dX9_game_1 rfl rfl (?_ : hp_G _ _ _ _ _ _ _ _ _ 2 _ _ _)
  refine hp_iload_n 2 dX9_game_2 rfl rfl (?_ : hp_G _ _ _ _ _ _ _ _ _ 3 _ _ _)
  replace hf := ob_ hf
  obtain ⟨o1, eo1, hf⟩ := hf
  replace hf := ob_ hf
  obtain ⟨r2, er2, hf⟩ := hf
  refine clX9_129 (as := [.int p1, .int p2]) (st := []) rfl (kX9_areTwo l er2) rfl (by decide) (Nat.le_of_ble_eq_true rfl) eo1 dX9_game_3 rfl (?_ : hp_G _ _ _ _ _ _ _ _ _ 6 _ _ _)
  refine hp_if_ne (tgt := 11) dX9_game_6 rfl (fun c3 => ?_) (fun c3 => (?_ : hp_G _ _ _ _ _ _ _ _ _ 9 _ _ _))
  · replace hf := of_ c3 hf
    refine hp_iload_n 3 dX9_game_11 rfl rfl (?_ : hp_G _ _ _ _ _ _ _ _ _ 12 _ _ _)
    refine hp_aload_n 0 dX9_game_12 rfl rfl (?_ : hp_G _ _ _ _ _ _ _ _ _ 13 _ _ _)
    refine hp_iload_n 1 dX9_game_13 rfl rfl (?_ : hp_G _ _ _ _ _ _ _ _ _ 14 _ _ _)
    replace hf := ob_ hf
    obtain ⟨o4, eo4, hf⟩ := hf
    replace hf := ob_ hf
    obtain ⟨r5, er5, hf⟩ := hf
    refine clX9_123 (as := [.int p1]) (st := [.int p3]) rfl (kX9_worstOf l er5) rfl (by decide) (Nat.le_of_ble_eq_true rfl) eo4 dX9_game_14 rfl (?_ : hp_G _ _ _ _ _ _ _ _ _ 17 _ _ _)
    refine hp_aload_n 0 dX9_game_17 rfl rfl (?_ : hp_G _ _ _ _ _ _ _ _ _ 18 _ _ _)
    refine hp_iload_n 1 dX9_game_18 rfl rfl (?_ : hp_G _ _ _ _ _ _ _ _ _ 19 _ _ _)
    replace hf := ob_ hf
    obtain ⟨o6, eo6, hf⟩ := hf
    replace hf := ob_ hf
    obtain ⟨r7, er7, hf⟩ := hf
    refine clX9_120 (as := [.int p1]) (st := [.int r5, .int p3]) rfl (kX9_bestOf l er7) rfl (by decide) (Nat.le_of_ble_eq_true rfl) eo6 dX9_game_19 rfl (?_ : hp_G _ _ _ _ _ _ _ _ _ 22 _ _ _)
    replace hf := ob_ hf
    obtain ⟨r8, er8, hf⟩ := hf
    refine clX9_67 (as := [.int p3, .int r5, .int r7]) (st := []) rfl (kX9_within l er8) rfl (by decide) (Nat.le_of_ble_eq_true rfl) dX9_game_22 rfl (?_ : hp_G _ _ _ _ _ _ _ _ _ 25 _ _ _)
    refine hp_if_eq (tgt := 46) dX9_game_25 rfl (fun c9 => ?_) (fun c9 => (?_ : hp_G _ _ _ _ _ _ _ _ _ 28 _ _ _))
    · replace hf := ot_ c9 hf
      refine hp_bipush (v := (-2)) dX9_game_46 bi_m2 (?_ : hp_G _ _ _ _ _ _ _ _ _ 48 _ _ _)
      obtain rfl := Option.some.inj hf
      exact hp_iret kr (fun z => z) rfl dX9_game_48
    · replace hf := of_ c9 hf
      refine hp_iload 4 dX9_game_28 rfl (?_ : hp_G _ _ _ _ _ _ _ _ _ 30 _ _ _)
      refine hp_aload_n 0 dX9_game_30 rfl rfl (?_ : hp_G _ _ _ _ _ _ _ _ _ 31 _ _ _)
      refine hp_iload_n 2 dX9_game_31 rfl rfl (?_ : hp_G _ _ _ _ _ _ _ _ _ 32 _ _ _)
      replace hf := ob_ hf
      obtain ⟨o10, eo10, hf⟩ := hf
      replace hf := ob_ hf
      obtain ⟨r11, er11, hf⟩ := hf
      refine clX9_123 (as := [.int p2]) (st := [.int p4]) rfl (kX9_worstOf l er11) rfl (by decide) (Nat.le_of_ble_eq_true rfl) eo10 dX9_game_32 rfl (?_ : hp_G _ _ _ _ _ _ _ _ _ 35 _ _ _)
      refine hp_aload_n 0 dX9_game_35 rfl rfl (?_ : hp_G _ _ _ _ _ _ _ _ _ 36 _ _ _)
      refine hp_iload_n 2 dX9_game_36 rfl rfl (?_ : hp_G _ _ _ _ _ _ _ _ _ 37 _ _ _)
      replace hf := ob_ hf
      obtain ⟨o12, eo12, hf⟩ := hf
      replace hf := ob_ hf
      obtain ⟨r13, er13, hf⟩ := hf
      refine clX9_120 (as := [.int p2]) (st := [.int r11, .int p4]) rfl (kX9_bestOf l er13) rfl (by decide) (Nat.le_of_ble_eq_true rfl) eo12 dX9_game_37 rfl (?_ : hp_G _ _ _ _ _ _ _ _ _ 40 _ _ _)
      replace hf := ob_ hf
      obtain ⟨r14, er14, hf⟩ := hf
      refine clX9_67 (as := [.int p4, .int r11, .int r13]) (st := []) rfl (kX9_within l er14) rfl (by decide) (Nat.le_of_ble_eq_true rfl) dX9_game_40 rfl (?_ : hp_G _ _ _ _ _ _ _ _ _ 43 _ _ _)
      refine hp_if_ne (tgt := 49) dX9_game_43 rfl (fun c15 => ?_) (fun c15 => (?_ : hp_G _ _ _ _ _ _ _ _ _ 46 _ _ _))
      · replace hf := of_ c15 hf
        refine hp_aload_n 0 dX9_game_49 rfl rfl (?_ : hp_G _ _ _ _ _ _ _ _ _ 50 _ _ _)
        refine hp_iload_n 1 dX9_game_50 rfl rfl (?_ : hp_G _ _ _ _ _ _ _ _ _ 51 _ _ _)
        refine hp_iload_n 2 dX9_game_51 rfl rfl (?_ : hp_G _ _ _ _ _ _ _ _ _ 52 _ _ _)
        replace hf := ob_ hf
        obtain ⟨o16, eo16, hf⟩ := hf
        replace hf := ob_ hf
        obtain ⟨r17, er17, hf⟩ := hf
        refine clX9_132 (as := [.int p1, .int p2]) (st := []) rfl (kX9_isAway l er17) rfl (by decide) (Nat.le_of_ble_eq_true rfl) eo16 dX9_game_52 rfl (?_ : hp_G _ _ _ _ _ _ _ _ _ 55 _ _ _)
        refine hp_if_eq (tgt := 61) dX9_game_55 rfl (fun c18 => ?_) (fun c18 => (?_ : hp_G _ _ _ _ _ _ _ _ _ 58 _ _ _))
        · replace hf := ot_ c18 hf
          refine hp_aload_n 0 dX9_game_61 rfl rfl (?_ : hp_G _ _ _ _ _ _ _ _ _ 62 _ _ _)
          refine hp_dup dX9_game_62 rfl (?_ : hp_G _ _ _ _ _ _ _ _ _ 63 _ _ _)
          replace hf := ob_ hf
          obtain ⟨x19, ex19, hf⟩ := hf
          refine fgX9_104 rfl dX9_game_63 ex19 (?_ : hp_G _ _ _ _ _ _ _ _ _ 66 _ _ _)
          refine hp_iconst (v := 1) dX9_game_66 ic_1 (?_ : hp_G _ _ _ _ _ _ _ _ _ 67 _ _ _)
          refine hp_iadd dX9_game_67 (?_ : hp_G _ _ _ _ _ _ _ _ _ 68 _ _ _)
          replace hf := ob_ hf
          obtain ⟨h20, eh20, hf⟩ := hf
          refine fpX9_104 rfl dX9_game_68 eh20 (?_ : hp_G _ _ _ _ _ _ _ _ _ 71 _ _ _)
          refine hp_aload_n 0 dX9_game_71 rfl rfl (?_ : hp_G _ _ _ _ _ _ _ _ _ 72 _ _ _)
          refine hp_iload_n 1 dX9_game_72 rfl rfl (?_ : hp_G _ _ _ _ _ _ _ _ _ 73 _ _ _)
          refine hp_iload_n 2 dX9_game_73 rfl rfl (?_ : hp_G _ _ _ _ _ _ _ _ _ 74 _ _ _)
          refine hp_iload_n 3 dX9_game_74 rfl rfl (?_ : hp_G _ _ _ _ _ _ _ _ _ 75 _ _ _)
          refine hp_iload 4 dX9_game_75 rfl (?_ : hp_G _ _ _ _ _ _ _ _ _ 77 _ _ _)
          replace hf := ob_ hf
          obtain ⟨o21, eo21, hf⟩ := hf
          replace hf := ob_ hf
          obtain ⟨r22, er22, hf⟩ := hf
          refine clX9_135 (as := [.int p1, .int p2, .int p3, .int p4]) (st := []) rfl (kX9_play l er22) rfl (by decide) (Nat.le_of_ble_eq_true rfl) eo21 dX9_game_77 rfl (?_ : hp_G _ _ _ _ _ _ _ _ _ 80 _ _ _)
          obtain rfl := Option.some.inj hf
          exact hp_iret kr (fun z => z) rfl dX9_game_80
        · replace hf := of_ c18 hf
          refine hp_bipush (v := (-3)) dX9_game_58 bi_m3 (?_ : hp_G _ _ _ _ _ _ _ _ _ 60 _ _ _)
          obtain rfl := Option.some.inj hf
          exact hp_iret kr (fun z => z) rfl dX9_game_60
      · replace hf := ot_ c15 hf
        refine hp_bipush (v := (-2)) dX9_game_46 bi_m2 (?_ : hp_G _ _ _ _ _ _ _ _ _ 48 _ _ _)
        obtain rfl := Option.some.inj hf
        exact hp_iret kr (fun z => z) rfl dX9_game_48
  · replace hf := ot_ c3 hf
    refine hp_iconst (v := (-1)) dX9_game_9 ic_m1 (?_ : hp_G _ _ _ _ _ _ _ _ _ 10 _ _ _)
    obtain rfl := Option.some.inj hf
    exact hp_iret kr (fun z => z) rfl dX9_game_10
theorem kX9_game (l : Launch) {h : hp_H} {a0 : Nat} {p1 : Int32} {p2 : Int32} {p3 : Int32} {p4 : Int32} {r : (Int32 × hp_H)} (hf : fX9_game h a0 p1 p2 p3 p4 = some r) : hp_Cn l yX9_game mX9_game 2 false 0 0 [.ref a0, .int p1, .int p2, .int p3, .int p4] h (fun v h2 => some (.int r.1) = v ∧ r.2 = h2) :=
  hp_of (by decide) rfl (fun z => by cases z) (Nat.le_of_ble_eq_true rfl) (tX9_game l hf ⟨rfl, rfl⟩)
noncomputable def fX8_shy (h : hp_H) (a0 : Nat) (p1 : Int32) (p2 : Int32) : Option (Int32 × hp_H) :=
(gq_ h a0 7 0).bind fun x1 =>
(hg_o h x1 6).bind fun o2 =>
(fX7_hasTwo h x1 p1 p2).bind fun r3 =>
if r3 = 0 then
(some ((-1), h))
else
((gq_ h a0 7 0).bind fun x5 =>
(gq_ h x5 6 0).bind fun x6 =>
(ql_ h x6 p1).bind fun x7 =>
(hg_o h x7 2).bind fun o8 =>
(fX2_worst h x7).bind fun r9 =>
(gq_ h a0 7 0).bind fun x10 =>
(gq_ h x10 6 0).bind fun x11 =>
(ql_ h x11 p2).bind fun x12 =>
(hg_o h x12 2).bind fun o13 =>
(fX2_worst h x12).bind fun r14 =>
(hg_o h a0 7).bind fun o15 =>
(fX8_game h a0 p1 p2 r9 r14).bind fun r16 =>
some (r16.1, r16.2))
set_option maxRecDepth 20000 in
set_option maxHeartbeats 4000000 in
theorem tX8_shy (l : Launch) {h : hp_H} {a0 : Nat} {p1 : Int32} {p2 : Int32} {r : (Int32 × hp_H)} (hf : fX8_shy h a0 p1 p2 = some r) {Q : Option Value → hp_H → Prop} (kr : Q (some (.int r.1)) r.2) : hp_G l mX8_shy none 4 false Q false 0 0 0 [(0, .ref a0), (1, .int p1), (2, .int p2)] [] h := by
  unfold fX8_shy at hf
  refine hp_aload_n 0 dX8_shy_0 rfl rfl (?_ : hp_G _ _ _ _ _ _ _ _ _ 1 _ _ _)
  replace hf := ob_ hf
  obtain ⟨x1, ex1, hf⟩ := hf
  refine fgX8_12 rfl dX8_shy_1 ex1 (?_ : hp_G _ _ _ _ _ _ _ _ _ 4 _ _ _)
  refine hp_iload_n 1 dX8_shy_4 rfl rfl (?_ : hp_G _ _ _ _ _ _ _ _ _ 5 _ _ _)
  refine hp_iload_n 2 dX8_shy_5 rfl rfl (?_ : hp_G _ _ _ _ _ _ _ _ _ 6 _ _ _)
  replace hf := ob_ hf
  obtain ⟨o2, eo2, hf⟩ := hf
  replace hf := ob_ hf
  obtain ⟨r3, er3, hf⟩ := hf
  refine clX8_119 (as := [.int p1, .int p2]) (st := []) rfl (kX7_hasTwo l er3) rfl (by decide) (Nat.le_of_ble_eq_true rfl) eo2 dX8_shy_6 rfl (?_ : hp_G _ _ _ _ _ _ _ _ _ 9 _ _ _)
  refine hp_if_ne (tgt := 14) dX8_shy_9 rfl (fun c4 => ?_) (fun c4 => (?_ : hp_G _ _ _ _ _ _ _ _ _ 12 _ _ _))
  · replace hf := of_ c4 hf
    refine hp_aload_n 0 dX8_shy_14 rfl rfl (?_ : hp_G _ _ _ _ _ _ _ _ _ 15 _ _ _)
    refine hp_iload_n 1 dX8_shy_15 rfl rfl (?_ : hp_G _ _ _ _ _ _ _ _ _ 16 _ _ _)
    refine hp_iload_n 2 dX8_shy_16 rfl rfl (?_ : hp_G _ _ _ _ _ _ _ _ _ 17 _ _ _)
    refine hp_aload_n 0 dX8_shy_17 rfl rfl (?_ : hp_G _ _ _ _ _ _ _ _ _ 18 _ _ _)
    replace hf := ob_ hf
    obtain ⟨x5, ex5, hf⟩ := hf
    refine fgX8_12 rfl dX8_shy_18 ex5 (?_ : hp_G _ _ _ _ _ _ _ _ _ 21 _ _ _)
    replace hf := ob_ hf
    obtain ⟨x6, ex6, hf⟩ := hf
    refine fgX8_96 rfl dX8_shy_21 ex6 (?_ : hp_G _ _ _ _ _ _ _ _ _ 24 _ _ _)
    refine hp_iload_n 1 dX8_shy_24 rfl rfl (?_ : hp_G _ _ _ _ _ _ _ _ _ 25 _ _ _)
    replace hf := ob_ hf
    obtain ⟨x7, ex7, hf⟩ := hf
    refine hp_aaload dX8_shy_25 ex7 (?_ : hp_G _ _ _ _ _ _ _ _ _ 26 _ _ _)
    replace hf := ob_ hf
    obtain ⟨o8, eo8, hf⟩ := hf
    replace hf := ob_ hf
    obtain ⟨r9, er9, hf⟩ := hf
    refine clX8_109 (as := []) (st := [.int p2, .int p1, .ref a0]) rfl (kX2_worst l er9) rfl (by decide) (Nat.le_of_ble_eq_true rfl) eo8 dX8_shy_26 rfl (?_ : hp_G _ _ _ _ _ _ _ _ _ 29 _ _ _)
    refine hp_aload_n 0 dX8_shy_29 rfl rfl (?_ : hp_G _ _ _ _ _ _ _ _ _ 30 _ _ _)
    replace hf := ob_ hf
    obtain ⟨x10, ex10, hf⟩ := hf
    refine fgX8_12 rfl dX8_shy_30 ex10 (?_ : hp_G _ _ _ _ _ _ _ _ _ 33 _ _ _)
    replace hf := ob_ hf
    obtain ⟨x11, ex11, hf⟩ := hf
    refine fgX8_96 rfl dX8_shy_33 ex11 (?_ : hp_G _ _ _ _ _ _ _ _ _ 36 _ _ _)
    refine hp_iload_n 2 dX8_shy_36 rfl rfl (?_ : hp_G _ _ _ _ _ _ _ _ _ 37 _ _ _)
    replace hf := ob_ hf
    obtain ⟨x12, ex12, hf⟩ := hf
    refine hp_aaload dX8_shy_37 ex12 (?_ : hp_G _ _ _ _ _ _ _ _ _ 38 _ _ _)
    replace hf := ob_ hf
    obtain ⟨o13, eo13, hf⟩ := hf
    replace hf := ob_ hf
    obtain ⟨r14, er14, hf⟩ := hf
    refine clX8_109 (as := []) (st := [.int r9, .int p2, .int p1, .ref a0]) rfl (kX2_worst l er14) rfl (by decide) (Nat.le_of_ble_eq_true rfl) eo13 dX8_shy_38 rfl (?_ : hp_G _ _ _ _ _ _ _ _ _ 41 _ _ _)
    replace hf := ob_ hf
    obtain ⟨o15, eo15, hf⟩ := hf
    replace hf := ob_ hf
    obtain ⟨r16, er16, hf⟩ := hf
    refine clX8_133 (as := [.int p1, .int p2, .int r9, .int r14]) (st := []) rfl (kX8_game l er16) rfl (by decide) (Nat.le_of_ble_eq_true rfl) eo15 dX8_shy_41 rfl (?_ : hp_G _ _ _ _ _ _ _ _ _ 44 _ _ _)
    obtain rfl := Option.some.inj hf
    exact hp_iret kr (fun z => z) rfl dX8_shy_44
  · replace hf := ot_ c4 hf
    refine hp_iconst (v := (-1)) dX8_shy_12 ic_m1 (?_ : hp_G _ _ _ _ _ _ _ _ _ 13 _ _ _)
    obtain rfl := Option.some.inj hf
    exact hp_iret kr (fun z => z) rfl dX8_shy_13
theorem kX8_shy (l : Launch) {h : hp_H} {a0 : Nat} {p1 : Int32} {p2 : Int32} {r : (Int32 × hp_H)} (hf : fX8_shy h a0 p1 p2 = some r) : hp_Cn l yX8_shy mX8_shy 4 false 0 0 [.ref a0, .int p1, .int p2] h (fun v h2 => some (.int r.1) = v ∧ r.2 = h2) :=
  hp_of (by decide) rfl (fun z => by cases z) (Nat.le_of_ble_eq_true rfl) (tX8_shy l hf ⟨rfl, rfl⟩)
noncomputable def fX9_shy (h : hp_H) (a0 : Nat) (p1 : Int32) (p2 : Int32) : Option (Int32 × hp_H) :=
(hg_o h a0 8).bind fun o1 =>
(fX9_areTwo h a0 p1 p2).bind fun r2 =>
if r2 = 0 then
(some ((-1), h))
else
((hg_o h a0 8).bind fun o4 =>
(fX9_isAway h a0 p1 p2).bind fun r5 =>
if r5 = 0 then
((gi_ h a0 8 7).bind fun x7 =>
(pi_ h a0 8 7 (x7 + 1)).bind fun h8 =>
(hg_o h8 a0 8).bind fun o9 =>
(fX9_worstOf h8 a0 p1).bind fun r10 =>
(hg_o h8 a0 8).bind fun o11 =>
(fX9_worstOf h8 a0 p2).bind fun r12 =>
(hg_o h8 a0 8).bind fun o13 =>
(fX9_play h8 a0 p1 p2 r10 r12).bind fun r14 =>
some (r14.1, r14.2))
else
(some ((-3), h)))
set_option maxRecDepth 20000 in
set_option maxHeartbeats 4000000 in
theorem tX9_shy (l : Launch) {h : hp_H} {a0 : Nat} {p1 : Int32} {p2 : Int32} {r : (Int32 × hp_H)} (hf : fX9_shy h a0 p1 p2 = some r) {Q : Option Value → hp_H → Prop} (kr : Q (some (.int r.1)) r.2) : hp_G l mX9_shy none 2 false Q false 0 0 0 [(0, .ref a0), (1, .int p1), (2, .int p2)] [] h := by
  unfold fX9_shy at hf
  refine hp_aload_n 0 dX9_shy_0 rfl rfl (?_ : hp_G _ _ _ _ _ _ _ _ _ 1 _ _ _)
  refine hp_iload_n 1 dX9_shy_1 rfl rfl (?_ : hp_G _ _ _ _ _ _ _ _ _ 2 _ _ _)
  refine hp_iload_n 2 dX9_shy_2 rfl rfl (?_ : hp_G _ _ _ _ _ _ _ _ _ 3 _ _ _)
  replace hf := ob_ hf
  obtain ⟨o1, eo1, hf⟩ := hf
  replace hf := ob_ hf
  obtain ⟨r2, er2, hf⟩ := hf
  refine clX9_129 (as := [.int p1, .int p2]) (st := []) rfl (kX9_areTwo l er2) rfl (by decide) (Nat.le_of_ble_eq_true rfl) eo1 dX9_shy_3 rfl (?_ : hp_G _ _ _ _ _ _ _ _ _ 6 _ _ _)
  refine hp_if_ne (tgt := 11) dX9_shy_6 rfl (fun c3 => ?_) (fun c3 => (?_ : hp_G _ _ _ _ _ _ _ _ _ 9 _ _ _))
  · replace hf := of_ c3 hf
    refine hp_aload_n 0 dX9_shy_11 rfl rfl (?_ : hp_G _ _ _ _ _ _ _ _ _ 12 _ _ _)
    refine hp_iload_n 1 dX9_shy_12 rfl rfl (?_ : hp_G _ _ _ _ _ _ _ _ _ 13 _ _ _)
    refine hp_iload_n 2 dX9_shy_13 rfl rfl (?_ : hp_G _ _ _ _ _ _ _ _ _ 14 _ _ _)
    replace hf := ob_ hf
    obtain ⟨o4, eo4, hf⟩ := hf
    replace hf := ob_ hf
    obtain ⟨r5, er5, hf⟩ := hf
    refine clX9_132 (as := [.int p1, .int p2]) (st := []) rfl (kX9_isAway l er5) rfl (by decide) (Nat.le_of_ble_eq_true rfl) eo4 dX9_shy_14 rfl (?_ : hp_G _ _ _ _ _ _ _ _ _ 17 _ _ _)
    refine hp_if_eq (tgt := 23) dX9_shy_17 rfl (fun c6 => ?_) (fun c6 => (?_ : hp_G _ _ _ _ _ _ _ _ _ 20 _ _ _))
    · replace hf := ot_ c6 hf
      refine hp_aload_n 0 dX9_shy_23 rfl rfl (?_ : hp_G _ _ _ _ _ _ _ _ _ 24 _ _ _)
      refine hp_dup dX9_shy_24 rfl (?_ : hp_G _ _ _ _ _ _ _ _ _ 25 _ _ _)
      replace hf := ob_ hf
      obtain ⟨x7, ex7, hf⟩ := hf
      refine fgX9_104 rfl dX9_shy_25 ex7 (?_ : hp_G _ _ _ _ _ _ _ _ _ 28 _ _ _)
      refine hp_iconst (v := 1) dX9_shy_28 ic_1 (?_ : hp_G _ _ _ _ _ _ _ _ _ 29 _ _ _)
      refine hp_iadd dX9_shy_29 (?_ : hp_G _ _ _ _ _ _ _ _ _ 30 _ _ _)
      replace hf := ob_ hf
      obtain ⟨h8, eh8, hf⟩ := hf
      refine fpX9_104 rfl dX9_shy_30 eh8 (?_ : hp_G _ _ _ _ _ _ _ _ _ 33 _ _ _)
      refine hp_aload_n 0 dX9_shy_33 rfl rfl (?_ : hp_G _ _ _ _ _ _ _ _ _ 34 _ _ _)
      refine hp_iload_n 1 dX9_shy_34 rfl rfl (?_ : hp_G _ _ _ _ _ _ _ _ _ 35 _ _ _)
      refine hp_iload_n 2 dX9_shy_35 rfl rfl (?_ : hp_G _ _ _ _ _ _ _ _ _ 36 _ _ _)
      refine hp_aload_n 0 dX9_shy_36 rfl rfl (?_ : hp_G _ _ _ _ _ _ _ _ _ 37 _ _ _)
      refine hp_iload_n 1 dX9_shy_37 rfl rfl (?_ : hp_G _ _ _ _ _ _ _ _ _ 38 _ _ _)
      replace hf := ob_ hf
      obtain ⟨o9, eo9, hf⟩ := hf
      replace hf := ob_ hf
      obtain ⟨r10, er10, hf⟩ := hf
      refine clX9_123 (as := [.int p1]) (st := [.int p2, .int p1, .ref a0]) rfl (kX9_worstOf l er10) rfl (by decide) (Nat.le_of_ble_eq_true rfl) eo9 dX9_shy_38 rfl (?_ : hp_G _ _ _ _ _ _ _ _ _ 41 _ _ _)
      refine hp_aload_n 0 dX9_shy_41 rfl rfl (?_ : hp_G _ _ _ _ _ _ _ _ _ 42 _ _ _)
      refine hp_iload_n 2 dX9_shy_42 rfl rfl (?_ : hp_G _ _ _ _ _ _ _ _ _ 43 _ _ _)
      replace hf := ob_ hf
      obtain ⟨o11, eo11, hf⟩ := hf
      replace hf := ob_ hf
      obtain ⟨r12, er12, hf⟩ := hf
      refine clX9_123 (as := [.int p2]) (st := [.int r10, .int p2, .int p1, .ref a0]) rfl (kX9_worstOf l er12) rfl (by decide) (Nat.le_of_ble_eq_true rfl) eo11 dX9_shy_43 rfl (?_ : hp_G _ _ _ _ _ _ _ _ _ 46 _ _ _)
      replace hf := ob_ hf
      obtain ⟨o13, eo13, hf⟩ := hf
      replace hf := ob_ hf
      obtain ⟨r14, er14, hf⟩ := hf
      refine clX9_135 (as := [.int p1, .int p2, .int r10, .int r12]) (st := []) rfl (kX9_play l er14) rfl (by decide) (Nat.le_of_ble_eq_true rfl) eo13 dX9_shy_46 rfl (?_ : hp_G _ _ _ _ _ _ _ _ _ 49 _ _ _)
      obtain rfl := Option.some.inj hf
      exact hp_iret kr (fun z => z) rfl dX9_shy_49
    · replace hf := of_ c6 hf
      refine hp_bipush (v := (-3)) dX9_shy_20 bi_m3 (?_ : hp_G _ _ _ _ _ _ _ _ _ 22 _ _ _)
      obtain rfl := Option.some.inj hf
      exact hp_iret kr (fun z => z) rfl dX9_shy_22
  · replace hf := ot_ c3 hf
    refine hp_iconst (v := (-1)) dX9_shy_9 ic_m1 (?_ : hp_G _ _ _ _ _ _ _ _ _ 10 _ _ _)
    obtain rfl := Option.some.inj hf
    exact hp_iret kr (fun z => z) rfl dX9_shy_10
theorem kX9_shy (l : Launch) {h : hp_H} {a0 : Nat} {p1 : Int32} {p2 : Int32} {r : (Int32 × hp_H)} (hf : fX9_shy h a0 p1 p2 = some r) : hp_Cn l yX9_shy mX9_shy 2 false 0 0 [.ref a0, .int p1, .int p2] h (fun v h2 => some (.int r.1) = v ∧ r.2 = h2) :=
  hp_of (by decide) rfl (fun z => by cases z) (Nat.le_of_ble_eq_true rfl) (tX9_shy l hf ⟨rfl, rfl⟩)
noncomputable def jX7_goneSet_32_4 (h : hp_H) (v0 : Nat) (u2 : Int32) (k0 : Int32) (k1 : Int32) : Option ((Int32 × Int32) ⊕ Int32) :=
(some (k1 ||| k0)).bind fun x7 =>
(some (u2 + 1)).bind fun x8 =>
some (.inl (x7, x8))
set_option maxRecDepth 20000 in
set_option maxHeartbeats 4000000 in
theorem tjX7_goneSet_32_4 (l : Launch) {h : hp_H} {v0 : Nat} {u2 : Int32} {k0 : Int32} {k1 : Int32} {r : ((Int32 × Int32) ⊕ Int32)} (hf : jX7_goneSet_32_4 h v0 u2 k0 k1 = some r) {Q : Option Value → hp_H → Prop} (kb : ∀ t, r = .inl t → hp_G l mX7_goneSet none 0 false Q false 0 0 4 [(0, .ref v0), (1, .int t.1), (2, .int t.2)] [] h) (ke : ∀ x, r = .inr x → hp_G l mX7_goneSet none 0 false Q false 0 0 40 [(1, .int x)] [] h) : hp_G l mX7_goneSet none 0 false Q false 0 0 32 [(0, .ref v0), (2, .int u2)] [.int k0, .int k1] h := by
  unfold jX7_goneSet_32_4 at hf
  refine hp_ior dX7_goneSet_32 (?_ : hp_G _ _ _ _ _ _ _ _ _ 33 _ _ _)
  replace hf := ob_ hf
  obtain ⟨x7, ex7, hf⟩ := hf
  refine hp_nmi ex7 ?_
  refine hp_istore_n (lv' := [(1, .int x7), (0, .ref v0), (2, .int u2)]) dX7_goneSet_33 rfl (Nat.le_of_ble_eq_true rfl) rfl (?_ : hp_G _ _ _ _ _ _ _ _ _ 34 _ _ _)
  replace hf := ob_ hf
  obtain ⟨x8, ex8, hf⟩ := hf
  refine hp_iinc (v := x8) (lv' := [(2, .int x8), (1, .int x7), (0, .ref v0)]) 2 dX7_goneSet_34 rfl (hp_inc ic_1 ex8) (Nat.le_of_ble_eq_true rfl) rfl (?_ : hp_G _ _ _ _ _ _ _ _ _ 37 _ _ _)
  refine hp_goto (tgt := 4) dX7_goneSet_37 rfl (?_ : hp_G _ _ _ _ _ _ _ _ _ 4 _ _ _)
  obtain rfl := Option.some.inj hf
  exact hp_sub [2, 1, 0] rfl (kb _ rfl)
noncomputable def bX7_goneSet_4 (h : hp_H) (v0 : Nat) (s : (Int32 × Int32)) : Option ((Int32 × Int32) ⊕ Int32) :=
(gi_ h v0 6 1).bind fun x1 =>
if x1 ≤ s.2 then
(some (.inr s.1))
else
((gq_ h v0 6 0).bind fun x3 =>
(ql_ h x3 s.2).bind fun x4 =>
(gi_ h x4 2 3).bind fun x5 =>
if x5 = 0 then
(jX7_goneSet_32_4 h v0 s.2 0 s.1)
else
(jX7_goneSet_32_4 h v0 s.2 ((1 : Int32) <<< (s.2 &&& 31)) s.1))
set_option maxRecDepth 20000 in
set_option maxHeartbeats 4000000 in
theorem tbX7_goneSet_4 (l : Launch) {h : hp_H} {v0 : Nat}  {s : (Int32 × Int32)} {r : ((Int32 × Int32) ⊕ Int32)} (hf : bX7_goneSet_4 h  v0 s = some r) {Q : Option Value → hp_H → Prop} (kb : ∀ t, r = .inl t → hp_G l mX7_goneSet none 0 false Q false 0 0 4 [(0, .ref v0), (1, .int t.1), (2, .int t.2)] [] h) (ke : ∀ x, r = .inr x → hp_G l mX7_goneSet none 0 false Q false 0 0 40 [(1, .int x)] [] h) : hp_G l mX7_goneSet none 0 false Q false 0 0 4 [(0, .ref v0), (1, .int s.1), (2, .int s.2)] [] h := by
  unfold bX7_goneSet_4 at hf
  refine hp_iload_n 2 dX7_goneSet_4 rfl rfl (?_ : hp_G _ _ _ _ _ _ _ _ _ 5 _ _ _)
  refine hp_aload_n 0 dX7_goneSet_5 rfl rfl (?_ : hp_G _ _ _ _ _ _ _ _ _ 6 _ _ _)
  replace hf := ob_ hf
  obtain ⟨x1, ex1, hf⟩ := hf
  refine fgX7_18 rfl dX7_goneSet_6 ex1 (?_ : hp_G _ _ _ _ _ _ _ _ _ 9 _ _ _)
  refine hp_icmp_ge (tgt := 40) dX7_goneSet_9 rfl (fun c2 => ?_) (fun c2 => (?_ : hp_G _ _ _ _ _ _ _ _ _ 12 _ _ _))
  · replace hf := ot_ c2 hf
    obtain rfl := Option.some.inj hf
    exact hp_sub [1] rfl (ke _ rfl)
  · replace hf := of_ c2 hf
    refine hp_iload_n 1 dX7_goneSet_12 rfl rfl (?_ : hp_G _ _ _ _ _ _ _ _ _ 13 _ _ _)
    refine hp_aload_n 0 dX7_goneSet_13 rfl rfl (?_ : hp_G _ _ _ _ _ _ _ _ _ 14 _ _ _)
    replace hf := ob_ hf
    obtain ⟨x3, ex3, hf⟩ := hf
    refine fgX7_11 rfl dX7_goneSet_14 ex3 (?_ : hp_G _ _ _ _ _ _ _ _ _ 17 _ _ _)
    refine hp_iload_n 2 dX7_goneSet_17 rfl rfl (?_ : hp_G _ _ _ _ _ _ _ _ _ 18 _ _ _)
    replace hf := ob_ hf
    obtain ⟨x4, ex4, hf⟩ := hf
    refine hp_aaload dX7_goneSet_18 ex4 (?_ : hp_G _ _ _ _ _ _ _ _ _ 19 _ _ _)
    replace hf := ob_ hf
    obtain ⟨x5, ex5, hf⟩ := hf
    refine fgX7_26 rfl dX7_goneSet_19 ex5 (?_ : hp_G _ _ _ _ _ _ _ _ _ 22 _ _ _)
    refine hp_if_eq (tgt := 31) dX7_goneSet_22 rfl (fun c6 => ?_) (fun c6 => (?_ : hp_G _ _ _ _ _ _ _ _ _ 25 _ _ _))
    · replace hf := ot_ c6 hf
      refine hp_iconst (v := 0) dX7_goneSet_31 ic_0 (?_ : hp_G _ _ _ _ _ _ _ _ _ 32 _ _ _)
      exact hp_sub [0, 2] rfl (tjX7_goneSet_32_4 l hf kb ke)
    · replace hf := of_ c6 hf
      refine hp_iconst (v := 1) dX7_goneSet_25 ic_1 (?_ : hp_G _ _ _ _ _ _ _ _ _ 26 _ _ _)
      refine hp_iload_n 2 dX7_goneSet_26 rfl rfl (?_ : hp_G _ _ _ _ _ _ _ _ _ 27 _ _ _)
      refine hp_ishl dX7_goneSet_27 (?_ : hp_G _ _ _ _ _ _ _ _ _ 28 _ _ _)
      refine hp_goto (tgt := 32) dX7_goneSet_28 rfl (?_ : hp_G _ _ _ _ _ _ _ _ _ 32 _ _ _)
      exact hp_sub [0, 2] rfl (tjX7_goneSet_32_4 l hf kb ke)
set_option maxRecDepth 20000 in
set_option maxHeartbeats 4000000 in
theorem tlX7_goneSet_4 (l : Launch) {h : hp_H} {v0 : Nat}  (q : Nat) {s : (Int32 × Int32)} {x : Int32} (hf : it_ (bX7_goneSet_4 h  v0) q s = some x) {Q : Option Value → hp_H → Prop} (ke : ∀ e, x = e → hp_G l mX7_goneSet none 0 false Q false 0 0 40 [(1, .int e)] [] h) : hp_G l mX7_goneSet none 0 false Q false 0 0 4 [(0, .ref v0), (1, .int s.1), (2, .int s.2)] [] h := by
  exact it_rule (f := bX7_goneSet_4 h  v0) (fun s => hp_G l mX7_goneSet none 0 false Q false 0 0 4 [(0, .ref v0), (1, .int s.1), (2, .int s.2)] [] h) (fun x => (∀ e, x = e → hp_G l mX7_goneSet none 0 false Q false 0 0 40 [(1, .int e)] [] h)) (fun s r h1 h2 h3 => tbX7_goneSet_4 l h1 (fun t e => h2 t e) (fun e he => h3 _ he _ rfl)) q s x hf ke
noncomputable def fX7_goneSet (h : hp_H) (a0 : Nat) : Option Int32 :=
(it_ (bX7_goneSet_4 h a0) fu_ (0, 0)).bind fun x9 =>
some x9
set_option maxRecDepth 20000 in
set_option maxHeartbeats 4000000 in
theorem tX7_goneSet (l : Launch) {h : hp_H} {a0 : Nat} {r : Int32} (hf : fX7_goneSet h a0 = some r) {Q : Option Value → hp_H → Prop} (kr : Q (some (.int r)) h) : hp_G l mX7_goneSet none 0 false Q false 0 0 0 [(0, .ref a0)] [] h := by
  unfold fX7_goneSet at hf
  refine hp_iconst (v := 0) dX7_goneSet_0 ic_0 (?_ : hp_G _ _ _ _ _ _ _ _ _ 1 _ _ _)
  refine hp_istore_n (lv' := [(1, .int 0), (0, .ref a0)]) dX7_goneSet_1 rfl (Nat.le_of_ble_eq_true rfl) rfl (?_ : hp_G _ _ _ _ _ _ _ _ _ 2 _ _ _)
  refine hp_iconst (v := 0) dX7_goneSet_2 ic_0 (?_ : hp_G _ _ _ _ _ _ _ _ _ 3 _ _ _)
  refine hp_istore_n (lv' := [(2, .int 0), (1, .int 0), (0, .ref a0)]) dX7_goneSet_3 rfl (Nat.le_of_ble_eq_true rfl) rfl (?_ : hp_G _ _ _ _ _ _ _ _ _ 4 _ _ _)
  replace hf := ob_ hf
  obtain ⟨x9, ex9, hf⟩ := hf
  refine hp_sub [2, 1, 0] rfl ?_
  refine tlX7_goneSet_4 l fu_ ex9 (fun y hy => ?_)
  obtain rfl := hy
  refine hp_iload_n 0 dX7_goneSet_40 rfl rfl (?_ : hp_G _ _ _ _ _ _ _ _ _ 41 _ _ _)
  obtain rfl := Option.some.inj hf
  exact hp_iret kr (fun z => z) rfl dX7_goneSet_41
theorem kX7_goneSet (l : Launch) {h : hp_H} {a0 : Nat} {r : Int32} (hf : fX7_goneSet h a0 = some r) : hp_Cn l yX7_goneSet mX7_goneSet 0 false 0 0 [.ref a0] h (fun v h2 => some (.int r) = v ∧ h = h2) :=
  hp_of (by decide) rfl (fun z => by cases z) (Nat.le_of_ble_eq_true rfl) (tX7_goneSet l hf ⟨rfl, rfl⟩)
noncomputable def fJ6_bitCount_0f7a4 (h : hp_H) (p0 : Int32) : Option Int32 :=
(some (p0 - (((Int32.toUInt32 p0 >>> (Int32.toUInt32 1 &&& Int32.toUInt32 31)).toInt32) &&& 1431655765))).bind fun x1 =>
(some ((x1 &&& 858993459) + (((Int32.toUInt32 x1 >>> (Int32.toUInt32 2 &&& Int32.toUInt32 31)).toInt32) &&& 858993459))).bind fun x2 =>
(some ((x2 + ((Int32.toUInt32 x2 >>> (Int32.toUInt32 4 &&& Int32.toUInt32 31)).toInt32)) &&& 252645135)).bind fun x3 =>
(some (x3 + ((Int32.toUInt32 x3 >>> (Int32.toUInt32 8 &&& Int32.toUInt32 31)).toInt32))).bind fun x4 =>
(some (x4 + ((Int32.toUInt32 x4 >>> (Int32.toUInt32 16 &&& Int32.toUInt32 31)).toInt32))).bind fun x5 =>
some (x5 &&& 63)
set_option maxRecDepth 20000 in
set_option maxHeartbeats 4000000 in
theorem tJ6_bitCount_0f7a4 (l : Launch) {h : hp_H} {p0 : Int32} {r : Int32} (hf : fJ6_bitCount_0f7a4 h p0 = some r) {Q : Option Value → hp_H → Prop} (kr : Q (some (.int r)) h) : hp_G l mJ6_bitCount_0f7a4 none 0 false Q false 0 0 0 [(0, .int p0)] [] h := by
  unfold fJ6_bitCount_0f7a4 at hf
  refine hp_iload_n 0 dJ6_bitCount_0f7a4_0 rfl rfl (?_ : hp_G _ _ _ _ _ _ _ _ _ 1 _ _ _)
  refine hp_iload_n 0 dJ6_bitCount_0f7a4_1 rfl rfl (?_ : hp_G _ _ _ _ _ _ _ _ _ 2 _ _ _)
  refine hp_iconst (v := 1) dJ6_bitCount_0f7a4_2 ic_1 (?_ : hp_G _ _ _ _ _ _ _ _ _ 3 _ _ _)
  refine hp_iushr dJ6_bitCount_0f7a4_3 (?_ : hp_G _ _ _ _ _ _ _ _ _ 4 _ _ _)
  refine hp_ldcw (v := 1431655765) wd_415 dJ6_bitCount_0f7a4_4 (?_ : hp_G _ _ _ _ _ _ _ _ _ 7 _ _ _)
  refine hp_iand dJ6_bitCount_0f7a4_7 (?_ : hp_G _ _ _ _ _ _ _ _ _ 8 _ _ _)
  refine hp_isub dJ6_bitCount_0f7a4_8 (?_ : hp_G _ _ _ _ _ _ _ _ _ 9 _ _ _)
  replace hf := ob_ hf
  obtain ⟨x1, ex1, hf⟩ := hf
  refine hp_nmi ex1 ?_
  refine hp_istore_n (lv' := [(0, .int x1)]) dJ6_bitCount_0f7a4_9 rfl (Nat.le_of_ble_eq_true rfl) rfl (?_ : hp_G _ _ _ _ _ _ _ _ _ 10 _ _ _)
  refine hp_iload_n 0 dJ6_bitCount_0f7a4_10 rfl rfl (?_ : hp_G _ _ _ _ _ _ _ _ _ 11 _ _ _)
  refine hp_ldcw (v := 858993459) wd_416 dJ6_bitCount_0f7a4_11 (?_ : hp_G _ _ _ _ _ _ _ _ _ 14 _ _ _)
  refine hp_iand dJ6_bitCount_0f7a4_14 (?_ : hp_G _ _ _ _ _ _ _ _ _ 15 _ _ _)
  refine hp_iload_n 0 dJ6_bitCount_0f7a4_15 rfl rfl (?_ : hp_G _ _ _ _ _ _ _ _ _ 16 _ _ _)
  refine hp_iconst (v := 2) dJ6_bitCount_0f7a4_16 ic_2 (?_ : hp_G _ _ _ _ _ _ _ _ _ 17 _ _ _)
  refine hp_iushr dJ6_bitCount_0f7a4_17 (?_ : hp_G _ _ _ _ _ _ _ _ _ 18 _ _ _)
  refine hp_ldcw (v := 858993459) wd_416 dJ6_bitCount_0f7a4_18 (?_ : hp_G _ _ _ _ _ _ _ _ _ 21 _ _ _)
  refine hp_iand dJ6_bitCount_0f7a4_21 (?_ : hp_G _ _ _ _ _ _ _ _ _ 22 _ _ _)
  refine hp_iadd dJ6_bitCount_0f7a4_22 (?_ : hp_G _ _ _ _ _ _ _ _ _ 23 _ _ _)
  replace hf := ob_ hf
  obtain ⟨x2, ex2, hf⟩ := hf
  refine hp_nmi ex2 ?_
  refine hp_istore_n (lv' := [(0, .int x2)]) dJ6_bitCount_0f7a4_23 rfl (Nat.le_of_ble_eq_true rfl) rfl (?_ : hp_G _ _ _ _ _ _ _ _ _ 24 _ _ _)
  refine hp_iload_n 0 dJ6_bitCount_0f7a4_24 rfl rfl (?_ : hp_G _ _ _ _ _ _ _ _ _ 25 _ _ _)
  refine hp_iload_n 0 dJ6_bitCount_0f7a4_25 rfl rfl (?_ : hp_G _ _ _ _ _ _ _ _ _ 26 _ _ _)
  refine hp_iconst (v := 4) dJ6_bitCount_0f7a4_26 ic_4 (?_ : hp_G _ _ _ _ _ _ _ _ _ 27 _ _ _)
  refine hp_iushr dJ6_bitCount_0f7a4_27 (?_ : hp_G _ _ _ _ _ _ _ _ _ 28 _ _ _)
  refine hp_iadd dJ6_bitCount_0f7a4_28 (?_ : hp_G _ _ _ _ _ _ _ _ _ 29 _ _ _)
  refine hp_ldcw (v := 252645135) wd_417 dJ6_bitCount_0f7a4_29 (?_ : hp_G _ _ _ _ _ _ _ _ _ 32 _ _ _)
  refine hp_iand dJ6_bitCount_0f7a4_32 (?_ : hp_G _ _ _ _ _ _ _ _ _ 33 _ _ _)
  replace hf := ob_ hf
  obtain ⟨x3, ex3, hf⟩ := hf
  refine hp_nmi ex3 ?_
  refine hp_istore_n (lv' := [(0, .int x3)]) dJ6_bitCount_0f7a4_33 rfl (Nat.le_of_ble_eq_true rfl) rfl (?_ : hp_G _ _ _ _ _ _ _ _ _ 34 _ _ _)
  refine hp_iload_n 0 dJ6_bitCount_0f7a4_34 rfl rfl (?_ : hp_G _ _ _ _ _ _ _ _ _ 35 _ _ _)
  refine hp_iload_n 0 dJ6_bitCount_0f7a4_35 rfl rfl (?_ : hp_G _ _ _ _ _ _ _ _ _ 36 _ _ _)
  refine hp_bipush (v := 8) dJ6_bitCount_0f7a4_36 bi_8 (?_ : hp_G _ _ _ _ _ _ _ _ _ 38 _ _ _)
  refine hp_iushr dJ6_bitCount_0f7a4_38 (?_ : hp_G _ _ _ _ _ _ _ _ _ 39 _ _ _)
  refine hp_iadd dJ6_bitCount_0f7a4_39 (?_ : hp_G _ _ _ _ _ _ _ _ _ 40 _ _ _)
  replace hf := ob_ hf
  obtain ⟨x4, ex4, hf⟩ := hf
  refine hp_nmi ex4 ?_
  refine hp_istore_n (lv' := [(0, .int x4)]) dJ6_bitCount_0f7a4_40 rfl (Nat.le_of_ble_eq_true rfl) rfl (?_ : hp_G _ _ _ _ _ _ _ _ _ 41 _ _ _)
  refine hp_iload_n 0 dJ6_bitCount_0f7a4_41 rfl rfl (?_ : hp_G _ _ _ _ _ _ _ _ _ 42 _ _ _)
  refine hp_iload_n 0 dJ6_bitCount_0f7a4_42 rfl rfl (?_ : hp_G _ _ _ _ _ _ _ _ _ 43 _ _ _)
  refine hp_bipush (v := 16) dJ6_bitCount_0f7a4_43 bi_16 (?_ : hp_G _ _ _ _ _ _ _ _ _ 45 _ _ _)
  refine hp_iushr dJ6_bitCount_0f7a4_45 (?_ : hp_G _ _ _ _ _ _ _ _ _ 46 _ _ _)
  refine hp_iadd dJ6_bitCount_0f7a4_46 (?_ : hp_G _ _ _ _ _ _ _ _ _ 47 _ _ _)
  replace hf := ob_ hf
  obtain ⟨x5, ex5, hf⟩ := hf
  refine hp_nmi ex5 ?_
  refine hp_istore_n (lv' := [(0, .int x5)]) dJ6_bitCount_0f7a4_47 rfl (Nat.le_of_ble_eq_true rfl) rfl (?_ : hp_G _ _ _ _ _ _ _ _ _ 48 _ _ _)
  refine hp_iload_n 0 dJ6_bitCount_0f7a4_48 rfl rfl (?_ : hp_G _ _ _ _ _ _ _ _ _ 49 _ _ _)
  refine hp_bipush (v := 63) dJ6_bitCount_0f7a4_49 bi_63 (?_ : hp_G _ _ _ _ _ _ _ _ _ 51 _ _ _)
  refine hp_iand dJ6_bitCount_0f7a4_51 (?_ : hp_G _ _ _ _ _ _ _ _ _ 52 _ _ _)
  obtain rfl := Option.some.inj hf
  exact hp_iret kr (fun z => z) rfl dJ6_bitCount_0f7a4_52
theorem kJ6_bitCount_0f7a4 (l : Launch) {h : hp_H} {p0 : Int32} {r : Int32} (hf : fJ6_bitCount_0f7a4 h p0 = some r) : hp_Cn l yJ6_bitCount_0f7a4 mJ6_bitCount_0f7a4 0 false 0 0 [.int p0] h (fun v h2 => some (.int r) = v ∧ h = h2) :=
  hp_of (by decide) rfl (fun z => by cases z) (Nat.le_of_ble_eq_true rfl) (tJ6_bitCount_0f7a4 l hf ⟨rfl, rfl⟩)
noncomputable def fX8_fetch (h : hp_H) (a0 : Nat) (p1 : Int32) : Option (Int32 × hp_H) :=
(gq_ h a0 7 0).bind fun x1 =>
(hg_o h x1 6).bind fun o2 =>
(fX7_has h x1 p1).bind fun r3 =>
if r3 = 0 then
(some ((-1), h))
else
((gq_ h a0 7 0).bind fun x5 =>
(gq_ h x5 6 0).bind fun x6 =>
(ql_ h x6 p1).bind fun x7 =>
(gi_ h x7 2 3).bind fun x8 =>
if x8 = 0 then
(some ((-3), h))
else
((gq_ h a0 7 0).bind fun x10 =>
(gq_ h x10 6 0).bind fun x11 =>
(ql_ h x11 p1).bind fun x12 =>
(pz_ h x12 2 3 0).bind fun h13 =>
(gq_ h13 a0 7 0).bind fun x14 =>
(hg_o h13 x14 6).bind fun o15 =>
(fX7_goneSet h13 x14).bind fun r16 =>
(fJ6_bitCount_0f7a4 h13 r16).bind fun r17 =>
some (r17, h13)))
set_option maxRecDepth 20000 in
set_option maxHeartbeats 4000000 in
theorem tX8_fetch (l : Launch) {h : hp_H} {a0 : Nat} {p1 : Int32} {r : (Int32 × hp_H)} (hf : fX8_fetch h a0 p1 = some r) {Q : Option Value → hp_H → Prop} (kr : Q (some (.int r.1)) r.2) : hp_G l mX8_fetch none 1 false Q false 0 0 0 [(0, .ref a0), (1, .int p1)] [] h := by
  unfold fX8_fetch at hf
  refine hp_aload_n 0 dX8_fetch_0 rfl rfl (?_ : hp_G _ _ _ _ _ _ _ _ _ 1 _ _ _)
  replace hf := ob_ hf
  obtain ⟨x1, ex1, hf⟩ := hf
  refine fgX8_12 rfl dX8_fetch_1 ex1 (?_ : hp_G _ _ _ _ _ _ _ _ _ 4 _ _ _)
  refine hp_iload_n 1 dX8_fetch_4 rfl rfl (?_ : hp_G _ _ _ _ _ _ _ _ _ 5 _ _ _)
  replace hf := ob_ hf
  obtain ⟨o2, eo2, hf⟩ := hf
  replace hf := ob_ hf
  obtain ⟨r3, er3, hf⟩ := hf
  refine clX8_93 (as := [.int p1]) (st := []) rfl (kX7_has l er3) rfl (by decide) (Nat.le_of_ble_eq_true rfl) eo2 dX8_fetch_5 rfl (?_ : hp_G _ _ _ _ _ _ _ _ _ 8 _ _ _)
  refine hp_if_ne (tgt := 13) dX8_fetch_8 rfl (fun c4 => ?_) (fun c4 => (?_ : hp_G _ _ _ _ _ _ _ _ _ 11 _ _ _))
  · replace hf := of_ c4 hf
    refine hp_aload_n 0 dX8_fetch_13 rfl rfl (?_ : hp_G _ _ _ _ _ _ _ _ _ 14 _ _ _)
    replace hf := ob_ hf
    obtain ⟨x5, ex5, hf⟩ := hf
    refine fgX8_12 rfl dX8_fetch_14 ex5 (?_ : hp_G _ _ _ _ _ _ _ _ _ 17 _ _ _)
    replace hf := ob_ hf
    obtain ⟨x6, ex6, hf⟩ := hf
    refine fgX8_96 rfl dX8_fetch_17 ex6 (?_ : hp_G _ _ _ _ _ _ _ _ _ 20 _ _ _)
    refine hp_iload_n 1 dX8_fetch_20 rfl rfl (?_ : hp_G _ _ _ _ _ _ _ _ _ 21 _ _ _)
    replace hf := ob_ hf
    obtain ⟨x7, ex7, hf⟩ := hf
    refine hp_aaload dX8_fetch_21 ex7 (?_ : hp_G _ _ _ _ _ _ _ _ _ 22 _ _ _)
    replace hf := ob_ hf
    obtain ⟨x8, ex8, hf⟩ := hf
    refine fgX8_112 rfl dX8_fetch_22 ex8 (?_ : hp_G _ _ _ _ _ _ _ _ _ 25 _ _ _)
    refine hp_if_ne (tgt := 31) dX8_fetch_25 rfl (fun c9 => ?_) (fun c9 => (?_ : hp_G _ _ _ _ _ _ _ _ _ 28 _ _ _))
    · replace hf := of_ c9 hf
      refine hp_aload_n 0 dX8_fetch_31 rfl rfl (?_ : hp_G _ _ _ _ _ _ _ _ _ 32 _ _ _)
      replace hf := ob_ hf
      obtain ⟨x10, ex10, hf⟩ := hf
      refine fgX8_12 rfl dX8_fetch_32 ex10 (?_ : hp_G _ _ _ _ _ _ _ _ _ 35 _ _ _)
      replace hf := ob_ hf
      obtain ⟨x11, ex11, hf⟩ := hf
      refine fgX8_96 rfl dX8_fetch_35 ex11 (?_ : hp_G _ _ _ _ _ _ _ _ _ 38 _ _ _)
      refine hp_iload_n 1 dX8_fetch_38 rfl rfl (?_ : hp_G _ _ _ _ _ _ _ _ _ 39 _ _ _)
      replace hf := ob_ hf
      obtain ⟨x12, ex12, hf⟩ := hf
      refine hp_aaload dX8_fetch_39 ex12 (?_ : hp_G _ _ _ _ _ _ _ _ _ 40 _ _ _)
      refine hp_iconst (v := 0) dX8_fetch_40 ic_0 (?_ : hp_G _ _ _ _ _ _ _ _ _ 41 _ _ _)
      replace hf := ob_ hf
      obtain ⟨h13, eh13, hf⟩ := hf
      refine fpX8_112 rfl dX8_fetch_41 eh13 (?_ : hp_G _ _ _ _ _ _ _ _ _ 44 _ _ _)
      refine hp_aload_n 0 dX8_fetch_44 rfl rfl (?_ : hp_G _ _ _ _ _ _ _ _ _ 45 _ _ _)
      replace hf := ob_ hf
      obtain ⟨x14, ex14, hf⟩ := hf
      refine fgX8_12 rfl dX8_fetch_45 ex14 (?_ : hp_G _ _ _ _ _ _ _ _ _ 48 _ _ _)
      replace hf := ob_ hf
      obtain ⟨o15, eo15, hf⟩ := hf
      replace hf := ob_ hf
      obtain ⟨r16, er16, hf⟩ := hf
      refine clX8_136 (as := []) (st := []) rfl (kX7_goneSet l er16) rfl (by decide) (Nat.le_of_ble_eq_true rfl) eo15 dX8_fetch_48 rfl (?_ : hp_G _ _ _ _ _ _ _ _ _ 51 _ _ _)
      replace hf := ob_ hf
      obtain ⟨r17, er17, hf⟩ := hf
      refine clX8_139 (as := [.int r16]) (st := []) rfl (kJ6_bitCount_0f7a4 l er17) rfl (by decide) (Nat.le_of_ble_eq_true rfl) dX8_fetch_51 rfl (?_ : hp_G _ _ _ _ _ _ _ _ _ 54 _ _ _)
      obtain rfl := Option.some.inj hf
      exact hp_iret kr (fun z => z) rfl dX8_fetch_54
    · replace hf := ot_ c9 hf
      refine hp_bipush (v := (-3)) dX8_fetch_28 bi_m3 (?_ : hp_G _ _ _ _ _ _ _ _ _ 30 _ _ _)
      obtain rfl := Option.some.inj hf
      exact hp_iret kr (fun z => z) rfl dX8_fetch_30
  · replace hf := ot_ c4 hf
    refine hp_iconst (v := (-1)) dX8_fetch_11 ic_m1 (?_ : hp_G _ _ _ _ _ _ _ _ _ 12 _ _ _)
    obtain rfl := Option.some.inj hf
    exact hp_iret kr (fun z => z) rfl dX8_fetch_12
theorem kX8_fetch (l : Launch) {h : hp_H} {a0 : Nat} {p1 : Int32} {r : (Int32 × hp_H)} (hf : fX8_fetch h a0 p1 = some r) : hp_Cn l yX8_fetch mX8_fetch 1 false 0 0 [.ref a0, .int p1] h (fun v h2 => some (.int r.1) = v ∧ r.2 = h2) :=
  hp_of (by decide) rfl (fun z => by cases z) (Nat.le_of_ble_eq_true rfl) (tX8_fetch l hf ⟨rfl, rfl⟩)
noncomputable def bX9_size_4 (h : hp_H)  (s : (Int32 × Int32)) : Option ((Int32 × Int32) ⊕ Int32) :=
if s.2 ≤ 0 then
(some (.inr s.1))
else
((some (s.1 + (s.2 &&& 1))).bind fun x2 =>
(some (s.2 >>> ((1 : Int32) &&& 31))).bind fun x3 =>
some (.inl (x2, x3)))
set_option maxRecDepth 20000 in
set_option maxHeartbeats 4000000 in
theorem tbX9_size_4 (l : Launch) {h : hp_H}   {s : (Int32 × Int32)} {r : ((Int32 × Int32) ⊕ Int32)} (hf : bX9_size_4 h  s = some r) {Q : Option Value → hp_H → Prop} (kb : ∀ t, r = .inl t → hp_G l mX9_size none 0 false Q false 0 0 4 [(1, .int t.1), (2, .int t.2)] [] h) (ke : ∀ x, r = .inr x → hp_G l mX9_size none 0 false Q false 0 0 21 [(1, .int x)] [] h) : hp_G l mX9_size none 0 false Q false 0 0 4 [(1, .int s.1), (2, .int s.2)] [] h := by
  unfold bX9_size_4 at hf
  refine hp_iload_n 1 dX9_size_4 rfl rfl (?_ : hp_G _ _ _ _ _ _ _ _ _ 5 _ _ _)
  refine hp_if_le (tgt := 21) dX9_size_5 rfl (fun c1 => ?_) (fun c1 => (?_ : hp_G _ _ _ _ _ _ _ _ _ 8 _ _ _))
  · replace hf := ot_ c1 hf
    obtain rfl := Option.some.inj hf
    exact hp_sub [0] rfl (ke _ rfl)
  · replace hf := of_ c1 hf
    refine hp_iload_n 0 dX9_size_8 rfl rfl (?_ : hp_G _ _ _ _ _ _ _ _ _ 9 _ _ _)
    refine hp_iload_n 1 dX9_size_9 rfl rfl (?_ : hp_G _ _ _ _ _ _ _ _ _ 10 _ _ _)
    refine hp_iconst (v := 1) dX9_size_10 ic_1 (?_ : hp_G _ _ _ _ _ _ _ _ _ 11 _ _ _)
    refine hp_iand dX9_size_11 (?_ : hp_G _ _ _ _ _ _ _ _ _ 12 _ _ _)
    refine hp_iadd dX9_size_12 (?_ : hp_G _ _ _ _ _ _ _ _ _ 13 _ _ _)
    replace hf := ob_ hf
    obtain ⟨x2, ex2, hf⟩ := hf
    refine hp_nmi ex2 ?_
    refine hp_istore_n (lv' := [(1, .int x2), (2, .int s.2)]) dX9_size_13 rfl (Nat.le_of_ble_eq_true rfl) rfl (?_ : hp_G _ _ _ _ _ _ _ _ _ 14 _ _ _)
    refine hp_iload_n 1 dX9_size_14 rfl rfl (?_ : hp_G _ _ _ _ _ _ _ _ _ 15 _ _ _)
    refine hp_iconst (v := 1) dX9_size_15 ic_1 (?_ : hp_G _ _ _ _ _ _ _ _ _ 16 _ _ _)
    refine hp_ishr dX9_size_16 (?_ : hp_G _ _ _ _ _ _ _ _ _ 17 _ _ _)
    replace hf := ob_ hf
    obtain ⟨x3, ex3, hf⟩ := hf
    refine hp_nmi ex3 ?_
    refine hp_istore_n (lv' := [(2, .int x3), (1, .int x2)]) dX9_size_17 rfl (Nat.le_of_ble_eq_true rfl) rfl (?_ : hp_G _ _ _ _ _ _ _ _ _ 18 _ _ _)
    refine hp_goto (tgt := 4) dX9_size_18 rfl (?_ : hp_G _ _ _ _ _ _ _ _ _ 4 _ _ _)
    obtain rfl := Option.some.inj hf
    exact hp_sub [1, 0] rfl (kb _ rfl)
set_option maxRecDepth 20000 in
set_option maxHeartbeats 4000000 in
theorem tlX9_size_4 (l : Launch) {h : hp_H}   (q : Nat) {s : (Int32 × Int32)} {x : Int32} (hf : it_ (bX9_size_4 h ) q s = some x) {Q : Option Value → hp_H → Prop} (ke : ∀ e, x = e → hp_G l mX9_size none 0 false Q false 0 0 21 [(1, .int e)] [] h) : hp_G l mX9_size none 0 false Q false 0 0 4 [(1, .int s.1), (2, .int s.2)] [] h := by
  exact it_rule (f := bX9_size_4 h ) (fun s => hp_G l mX9_size none 0 false Q false 0 0 4 [(1, .int s.1), (2, .int s.2)] [] h) (fun x => (∀ e, x = e → hp_G l mX9_size none 0 false Q false 0 0 21 [(1, .int e)] [] h)) (fun s r h1 h2 h3 => tbX9_size_4 l h1 (fun t e => h2 t e) (fun e he => h3 _ he _ rfl)) q s x hf ke
noncomputable def fX9_size (h : hp_H) (p0 : Int32) : Option Int32 :=
(it_ (bX9_size_4 h) fu_ (0, p0)).bind fun x4 =>
some x4
set_option maxRecDepth 20000 in
set_option maxHeartbeats 4000000 in
theorem tX9_size (l : Launch) {h : hp_H} {p0 : Int32} {r : Int32} (hf : fX9_size h p0 = some r) {Q : Option Value → hp_H → Prop} (kr : Q (some (.int r)) h) : hp_G l mX9_size none 0 false Q false 0 0 0 [(0, .int p0)] [] h := by
  unfold fX9_size at hf
  refine hp_iconst (v := 0) dX9_size_0 ic_0 (?_ : hp_G _ _ _ _ _ _ _ _ _ 1 _ _ _)
  refine hp_istore_n (lv' := [(1, .int 0), (0, .int p0)]) dX9_size_1 rfl (Nat.le_of_ble_eq_true rfl) rfl (?_ : hp_G _ _ _ _ _ _ _ _ _ 2 _ _ _)
  refine hp_iload_n 1 dX9_size_2 rfl rfl (?_ : hp_G _ _ _ _ _ _ _ _ _ 3 _ _ _)
  refine hp_istore_n (lv' := [(2, .int p0), (1, .int 0), (0, .int p0)]) dX9_size_3 rfl (Nat.le_of_ble_eq_true rfl) rfl (?_ : hp_G _ _ _ _ _ _ _ _ _ 4 _ _ _)
  replace hf := ob_ hf
  obtain ⟨x4, ex4, hf⟩ := hf
  refine hp_sub [1, 0] rfl ?_
  refine tlX9_size_4 l fu_ ex4 (fun y hy => ?_)
  obtain rfl := hy
  refine hp_iload_n 0 dX9_size_21 rfl rfl (?_ : hp_G _ _ _ _ _ _ _ _ _ 22 _ _ _)
  obtain rfl := Option.some.inj hf
  exact hp_iret kr (fun z => z) rfl dX9_size_22
theorem kX9_size (l : Launch) {h : hp_H} {p0 : Int32} {r : Int32} (hf : fX9_size h p0 = some r) : hp_Cn l yX9_size mX9_size 0 false 0 0 [.int p0] h (fun v h2 => some (.int r) = v ∧ h = h2) :=
  hp_of (by decide) rfl (fun z => by cases z) (Nat.le_of_ble_eq_true rfl) (tX9_size l hf ⟨rfl, rfl⟩)
