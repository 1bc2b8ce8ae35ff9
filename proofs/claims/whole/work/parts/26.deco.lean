noncomputable def fX9_fetch (h : hp_H) (a0 : Nat) (p1 : Int32) : Option (Int32 × hp_H) :=
(hg_o h a0 8).bind fun o1 =>
(fX9_isPerson h a0 p1).bind fun r2 =>
if r2 = 0 then
(some ((-1), h))
else
((gi_ h a0 8 6).bind fun x4 =>
(fX9_isOf h x4 p1).bind fun r5 =>
if r5 = 0 then
(some ((-3), h))
else
((gi_ h a0 8 6).bind fun x7 =>
(pi_ h a0 8 6 (x7 &&& (((1 : Int32) <<< (p1 &&& 31)) ^^^ (-1)))).bind fun h8 =>
(gi_ h8 a0 8 6).bind fun x9 =>
(fX9_size h8 x9).bind fun r10 =>
some (r10, h8)))
set_option maxRecDepth 20000 in
set_option maxHeartbeats 4000000 in
theorem tX9_fetch (l : Launch) {h : hp_H} {a0 : Nat} {p1 : Int32} {r : (Int32 × hp_H)} (hf : fX9_fetch h a0 p1 = some r) {Q : Option Value → hp_H → Prop} (kr : Q (some (.int r.1)) r.2) : hp_G l mX9_fetch none 1 false Q false 0 0 0 [(0, .ref a0), (1, .int p1)] [] h := by
  unfold fX9_fetch at hf
  refine hp_aload_n 0 dX9_fetch_0 rfl rfl (?_ : hp_G _ _ _ _ _ _ _ _ _ 1 _ _ _)
  refine hp_iload_n 1 dX9_fetch_1 rfl rfl (?_ : hp_G _ _ _ _ _ _ _ _ _ 2 _ _ _)
  replace hf := ob_ hf
  obtain ⟨o1, eo1, hf⟩ := hf
  replace hf := ob_ hf
  obtain ⟨r2, er2, hf⟩ := hf
  refine clX9_74 (as := [.int p1]) (st := []) rfl (kX9_isPerson l er2) rfl (by decide) (Nat.le_of_ble_eq_true rfl) eo1 dX9_fetch_2 rfl (?_ : hp_G _ _ _ _ _ _ _ _ _ 5 _ _ _)
  refine hp_if_ne (tgt := 10) dX9_fetch_5 rfl (fun c3 => ?_) (fun c3 => (?_ : hp_G _ _ _ _ _ _ _ _ _ 8 _ _ _))
  · replace hf := of_ c3 hf
    refine hp_aload_n 0 dX9_fetch_10 rfl rfl (?_ : hp_G _ _ _ _ _ _ _ _ _ 11 _ _ _)
    replace hf := ob_ hf
    obtain ⟨x4, ex4, hf⟩ := hf
    refine fgX9_101 rfl dX9_fetch_11 ex4 (?_ : hp_G _ _ _ _ _ _ _ _ _ 14 _ _ _)
    refine hp_iload_n 1 dX9_fetch_14 rfl rfl (?_ : hp_G _ _ _ _ _ _ _ _ _ 15 _ _ _)
    replace hf := ob_ hf
    obtain ⟨r5, er5, hf⟩ := hf
    refine clX9_126 (as := [.int x4, .int p1]) (st := []) rfl (kX9_isOf l er5) rfl (by decide) (Nat.le_of_ble_eq_true rfl) dX9_fetch_15 rfl (?_ : hp_G _ _ _ _ _ _ _ _ _ 18 _ _ _)
    refine hp_if_ne (tgt := 24) dX9_fetch_18 rfl (fun c6 => ?_) (fun c6 => (?_ : hp_G _ _ _ _ _ _ _ _ _ 21 _ _ _))
    · replace hf := of_ c6 hf
      refine hp_aload_n 0 dX9_fetch_24 rfl rfl (?_ : hp_G _ _ _ _ _ _ _ _ _ 25 _ _ _)
      refine hp_dup dX9_fetch_25 rfl (?_ : hp_G _ _ _ _ _ _ _ _ _ 26 _ _ _)
      replace hf := ob_ hf
      obtain ⟨x7, ex7, hf⟩ := hf
      refine fgX9_101 rfl dX9_fetch_26 ex7 (?_ : hp_G _ _ _ _ _ _ _ _ _ 29 _ _ _)
      refine hp_iconst (v := 1) dX9_fetch_29 ic_1 (?_ : hp_G _ _ _ _ _ _ _ _ _ 30 _ _ _)
      refine hp_iload_n 1 dX9_fetch_30 rfl rfl (?_ : hp_G _ _ _ _ _ _ _ _ _ 31 _ _ _)
      refine hp_ishl dX9_fetch_31 (?_ : hp_G _ _ _ _ _ _ _ _ _ 32 _ _ _)
      refine hp_iconst (v := (-1)) dX9_fetch_32 ic_m1 (?_ : hp_G _ _ _ _ _ _ _ _ _ 33 _ _ _)
      refine hp_ixor dX9_fetch_33 (?_ : hp_G _ _ _ _ _ _ _ _ _ 34 _ _ _)
      refine hp_iand dX9_fetch_34 (?_ : hp_G _ _ _ _ _ _ _ _ _ 35 _ _ _)
      replace hf := ob_ hf
      obtain ⟨h8, eh8, hf⟩ := hf
      refine fpX9_101 rfl dX9_fetch_35 eh8 (?_ : hp_G _ _ _ _ _ _ _ _ _ 38 _ _ _)
      refine hp_aload_n 0 dX9_fetch_38 rfl rfl (?_ : hp_G _ _ _ _ _ _ _ _ _ 39 _ _ _)
      replace hf := ob_ hf
      obtain ⟨x9, ex9, hf⟩ := hf
      refine fgX9_101 rfl dX9_fetch_39 ex9 (?_ : hp_G _ _ _ _ _ _ _ _ _ 42 _ _ _)
      replace hf := ob_ hf
      obtain ⟨r10, er10, hf⟩ := hf
      refine clX9_138 (as := [.int x9]) (st := []) rfl (kX9_size l er10) rfl (by decide) (Nat.le_of_ble_eq_true rfl) dX9_fetch_42 rfl (?_ : hp_G _ _ _ _ _ _ _ _ _ 45 _ _ _)
      obtain rfl := Option.some.inj hf
      exact hp_iret kr (fun z => z) rfl dX9_fetch_45
    · replace hf := ot_ c6 hf
      refine hp_bipush (v := (-3)) dX9_fetch_21 bi_m3 (?_ : hp_G _ _ _ _ _ _ _ _ _ 23 _ _ _)
      obtain rfl := Option.some.inj hf
      exact hp_iret kr (fun z => z) rfl dX9_fetch_23
  · replace hf := ot_ c3 hf
    refine hp_iconst (v := (-1)) dX9_fetch_8 ic_m1 (?_ : hp_G _ _ _ _ _ _ _ _ _ 9 _ _ _)
    obtain rfl := Option.some.inj hf
    exact hp_iret kr (fun z => z) rfl dX9_fetch_9
theorem kX9_fetch (l : Launch) {h : hp_H} {a0 : Nat} {p1 : Int32} {r : (Int32 × hp_H)} (hf : fX9_fetch h a0 p1 = some r) : hp_Cn l yX9_fetch mX9_fetch 1 false 0 0 [.ref a0, .int p1] h (fun v h2 => some (.int r.1) = v ∧ r.2 = h2) :=
  hp_of (by decide) rfl (fun z => by cases z) (Nat.le_of_ble_eq_true rfl) (tX9_fetch l hf ⟨rfl, rfl⟩)
noncomputable def fX8_refusalOfRow (h : hp_H) (a0 : Nat) (p1 : Int32) (p2 : Int32) (p3 : Int32) (p4 : Int32) (p5 : Int32) : Option (Int32 × hp_H) :=
(pi_ h a0 7 8 0).bind fun h1 =>
(fX8_isSheet h1 p1).bind fun r2 =>
if r2 = 0 then
(some ((-1), h1))
else
((fX8_isLane h1 p2).bind fun r4 =>
if r4 = 0 then
(some ((-2), h1))
else
(if p4 < 0 then
(some ((-2), h1))
else
(if p5 = 0 then
(some ((-2), h1))
else
((gq_ h1 a0 7 1).bind fun x8 =>
(ql_ h1 x8 p1).bind fun x9 =>
(hg_o h1 x9 5).bind fun o10 =>
(fX5_faultOfRow h1 x9 p2 p3 (2 * p4)).bind fun r11 =>
if r11 = 0 then
((gq_ h1 a0 7 0).bind fun x13 =>
(gi_ h1 x13 6 1).bind fun x14 =>
if x14 = 0 then
(some ((-3), h1))
else
(some (0, h1)))
else
((hg_o h1 a0 7).bind fun o16 =>
(fX8_faulted h1 a0 r11).bind fun r17 =>
some (r17.1, r17.2))))))
set_option maxRecDepth 20000 in
set_option maxHeartbeats 4000000 in
theorem tX8_refusalOfRow (l : Launch) {h : hp_H} {a0 : Nat} {p1 : Int32} {p2 : Int32} {p3 : Int32} {p4 : Int32} {p5 : Int32} {r : (Int32 × hp_H)} (hf : fX8_refusalOfRow h a0 p1 p2 p3 p4 p5 = some r) {Q : Option Value → hp_H → Prop} (kr : Q (some (.int r.1)) r.2) : hp_G l mX8_refusalOfRow none 2 false Q false 0 0 0 [(0, .ref a0), (1, .int p1), (2, .int p2), (3, .int p3), (4, .int p4), (5, .int p5)] [] h := by
  unfold fX8_refusalOfRow at hf
  refine hp_aload_n 0 dX8_refusalOfRow_0 rfl rfl (?_ : hp_G _ _ _ _ _ _ _ _ _ 1 _ _ _)
  refine hp_iconst (v := 0) dX8_refusalOfRow_1 ic_0 (?_ : hp_G _ _ _ _ _ _ _ _ _ 2 _ _ _)
  replace hf := ob_ hf
  obtain ⟨h1, eh1, hf⟩ := hf
  refine fpX8_53 rfl dX8_refusalOfRow_2 eh1 (?_ : hp_G _ _ _ _ _ _ _ _ _ 5 _ _ _)
  refine hp_iload_n 1 dX8_refusalOfRow_5 rfl rfl (?_ : hp_G _ _ _ _ _ _ _ _ _ 6 _ _ _)
  replace hf := ob_ hf
  obtain ⟨r2, er2, hf⟩ := hf
  refine clX8_57 (as := [.int p1]) (st := []) rfl (kX8_isSheet l er2) rfl (by decide) (Nat.le_of_ble_eq_true rfl) dX8_refusalOfRow_6 rfl (?_ : hp_G _ _ _ _ _ _ _ _ _ 9 _ _ _)
  refine hp_if_ne (tgt := 14) dX8_refusalOfRow_9 rfl (fun c3 => ?_) (fun c3 => (?_ : hp_G _ _ _ _ _ _ _ _ _ 12 _ _ _))
  · replace hf := of_ c3 hf
    refine hp_iload_n 2 dX8_refusalOfRow_14 rfl rfl (?_ : hp_G _ _ _ _ _ _ _ _ _ 15 _ _ _)
    replace hf := ob_ hf
    obtain ⟨r4, er4, hf⟩ := hf
    refine clX8_61 (as := [.int p2]) (st := []) rfl (kX8_isLane l er4) rfl (by decide) (Nat.le_of_ble_eq_true rfl) dX8_refusalOfRow_15 rfl (?_ : hp_G _ _ _ _ _ _ _ _ _ 18 _ _ _)
    refine hp_if_eq (tgt := 31) dX8_refusalOfRow_18 rfl (fun c5 => ?_) (fun c5 => (?_ : hp_G _ _ _ _ _ _ _ _ _ 21 _ _ _))
    · replace hf := ot_ c5 hf
      refine hp_bipush (v := (-2)) dX8_refusalOfRow_31 bi_m2 (?_ : hp_G _ _ _ _ _ _ _ _ _ 33 _ _ _)
      obtain rfl := Option.some.inj hf
      exact hp_iret kr (fun z => z) rfl dX8_refusalOfRow_33
    · replace hf := of_ c5 hf
      refine hp_iload 4 dX8_refusalOfRow_21 rfl (?_ : hp_G _ _ _ _ _ _ _ _ _ 23 _ _ _)
      refine hp_if_lt (tgt := 31) dX8_refusalOfRow_23 rfl (fun c6 => ?_) (fun c6 => (?_ : hp_G _ _ _ _ _ _ _ _ _ 26 _ _ _))
      · replace hf := ot_ c6 hf
        refine hp_bipush (v := (-2)) dX8_refusalOfRow_31 bi_m2 (?_ : hp_G _ _ _ _ _ _ _ _ _ 33 _ _ _)
        obtain rfl := Option.some.inj hf
        exact hp_iret kr (fun z => z) rfl dX8_refusalOfRow_33
      · replace hf := of_ c6 hf
        refine hp_iload 5 dX8_refusalOfRow_26 rfl (?_ : hp_G _ _ _ _ _ _ _ _ _ 28 _ _ _)
        refine hp_if_ne (tgt := 34) dX8_refusalOfRow_28 rfl (fun c7 => ?_) (fun c7 => (?_ : hp_G _ _ _ _ _ _ _ _ _ 31 _ _ _))
        · replace hf := of_ c7 hf
          refine hp_aload_n 0 dX8_refusalOfRow_34 rfl rfl (?_ : hp_G _ _ _ _ _ _ _ _ _ 35 _ _ _)
          replace hf := ob_ hf
          obtain ⟨x8, ex8, hf⟩ := hf
          refine fgX8_20 rfl dX8_refusalOfRow_35 ex8 (?_ : hp_G _ _ _ _ _ _ _ _ _ 38 _ _ _)
          refine hp_iload_n 1 dX8_refusalOfRow_38 rfl rfl (?_ : hp_G _ _ _ _ _ _ _ _ _ 39 _ _ _)
          replace hf := ob_ hf
          obtain ⟨x9, ex9, hf⟩ := hf
          refine hp_aaload dX8_refusalOfRow_39 ex9 (?_ : hp_G _ _ _ _ _ _ _ _ _ 40 _ _ _)
          refine hp_iload_n 2 dX8_refusalOfRow_40 rfl rfl (?_ : hp_G _ _ _ _ _ _ _ _ _ 41 _ _ _)
          refine hp_iload_n 3 dX8_refusalOfRow_41 rfl rfl (?_ : hp_G _ _ _ _ _ _ _ _ _ 42 _ _ _)
          refine hp_iconst (v := 2) dX8_refusalOfRow_42 ic_2 (?_ : hp_G _ _ _ _ _ _ _ _ _ 43 _ _ _)
          refine hp_iload 4 dX8_refusalOfRow_43 rfl (?_ : hp_G _ _ _ _ _ _ _ _ _ 45 _ _ _)
          refine hp_imul dX8_refusalOfRow_45 (?_ : hp_G _ _ _ _ _ _ _ _ _ 46 _ _ _)
          replace hf := ob_ hf
          obtain ⟨o10, eo10, hf⟩ := hf
          replace hf := ob_ hf
          obtain ⟨r11, er11, hf⟩ := hf
          refine clX8_64 (as := [.int p2, .int p3, .int (2 * p4)]) (st := []) rfl (kX5_faultOfRow l er11) rfl (by decide) (Nat.le_of_ble_eq_true rfl) eo10 dX8_refusalOfRow_46 rfl (?_ : hp_G _ _ _ _ _ _ _ _ _ 49 _ _ _)
          refine hp_istore (lv' := [(6, .int r11), (0, .ref a0), (1, .int p1), (2, .int p2), (3, .int p3), (4, .int p4), (5, .int p5)]) dX8_refusalOfRow_49 (Nat.le_of_ble_eq_true rfl) rfl (?_ : hp_G _ _ _ _ _ _ _ _ _ 51 _ _ _)
          refine hp_iload 0 dX8_refusalOfRow_51 rfl (?_ : hp_G _ _ _ _ _ _ _ _ _ 53 _ _ _)
          refine hp_if_eq (tgt := 63) dX8_refusalOfRow_53 rfl (fun c12 => ?_) (fun c12 => (?_ : hp_G _ _ _ _ _ _ _ _ _ 56 _ _ _))
          · replace hf := ot_ c12 hf
            refine hp_aload_n 1 dX8_refusalOfRow_63 rfl rfl (?_ : hp_G _ _ _ _ _ _ _ _ _ 64 _ _ _)
            replace hf := ob_ hf
            obtain ⟨x13, ex13, hf⟩ := hf
            refine fgX8_12 rfl dX8_refusalOfRow_64 ex13 (?_ : hp_G _ _ _ _ _ _ _ _ _ 67 _ _ _)
            replace hf := ob_ hf
            obtain ⟨x14, ex14, hf⟩ := hf
            refine fgX8_92 rfl dX8_refusalOfRow_67 ex14 (?_ : hp_G _ _ _ _ _ _ _ _ _ 70 _ _ _)
            refine hp_if_ne (tgt := 78) dX8_refusalOfRow_70 rfl (fun c15 => ?_) (fun c15 => (?_ : hp_G _ _ _ _ _ _ _ _ _ 73 _ _ _))
            · replace hf := of_ c15 hf
              refine hp_iconst (v := 0) dX8_refusalOfRow_78 ic_0 (?_ : hp_G _ _ _ _ _ _ _ _ _ 79 _ _ _)
              obtain rfl := Option.some.inj hf
              exact hp_iret kr (fun z => z) rfl dX8_refusalOfRow_79
            · replace hf := ot_ c15 hf
              refine hp_bipush (v := (-3)) dX8_refusalOfRow_73 bi_m3 (?_ : hp_G _ _ _ _ _ _ _ _ _ 75 _ _ _)
              refine hp_goto (tgt := 79) dX8_refusalOfRow_75 rfl (?_ : hp_G _ _ _ _ _ _ _ _ _ 79 _ _ _)
              obtain rfl := Option.some.inj hf
              exact hp_iret kr (fun z => z) rfl dX8_refusalOfRow_79
          · replace hf := of_ c12 hf
            refine hp_aload_n 1 dX8_refusalOfRow_56 rfl rfl (?_ : hp_G _ _ _ _ _ _ _ _ _ 57 _ _ _)
            refine hp_iload 0 dX8_refusalOfRow_57 rfl (?_ : hp_G _ _ _ _ _ _ _ _ _ 59 _ _ _)
            replace hf := ob_ hf
            obtain ⟨o16, eo16, hf⟩ := hf
            replace hf := ob_ hf
            obtain ⟨r17, er17, hf⟩ := hf
            refine clX8_68 (as := [.int r11]) (st := []) rfl (kX8_faulted l er17) rfl (by decide) (Nat.le_of_ble_eq_true rfl) eo16 dX8_refusalOfRow_59 rfl (?_ : hp_G _ _ _ _ _ _ _ _ _ 62 _ _ _)
            obtain rfl := Option.some.inj hf
            exact hp_iret kr (fun z => z) rfl dX8_refusalOfRow_62
        · replace hf := ot_ c7 hf
          refine hp_bipush (v := (-2)) dX8_refusalOfRow_31 bi_m2 (?_ : hp_G _ _ _ _ _ _ _ _ _ 33 _ _ _)
          obtain rfl := Option.some.inj hf
          exact hp_iret kr (fun z => z) rfl dX8_refusalOfRow_33
  · replace hf := ot_ c3 hf
    refine hp_iconst (v := (-1)) dX8_refusalOfRow_12 ic_m1 (?_ : hp_G _ _ _ _ _ _ _ _ _ 13 _ _ _)
    obtain rfl := Option.some.inj hf
    exact hp_iret kr (fun z => z) rfl dX8_refusalOfRow_13
theorem kX8_refusalOfRow (l : Launch) {h : hp_H} {a0 : Nat} {p1 : Int32} {p2 : Int32} {p3 : Int32} {p4 : Int32} {p5 : Int32} {r : (Int32 × hp_H)} (hf : fX8_refusalOfRow h a0 p1 p2 p3 p4 p5 = some r) : hp_Cn l yX8_refusalOfRow mX8_refusalOfRow 2 false 0 0 [.ref a0, .int p1, .int p2, .int p3, .int p4, .int p5] h (fun v h2 => some (.int r.1) = v ∧ r.2 = h2) :=
  hp_of (by decide) rfl (fun z => by cases z) (Nat.le_of_ble_eq_true rfl) (tX8_refusalOfRow l hf ⟨rfl, rfl⟩)
noncomputable def jX4_isAct_10 (h : hp_H)  (u0 : Int32)  : Option Int32 :=
if u0 = 10 then
(some 1)
else
(if u0 < 20 then
(some 0)
else
(if (29 : Int32) < u0 then
(some 0)
else
(some 1)))
set_option maxRecDepth 20000 in
set_option maxHeartbeats 4000000 in
theorem tjX4_isAct_10 (l : Launch) {h : hp_H}  {u0 : Int32}  {r : Int32} (hf : jX4_isAct_10 h u0 = some r) {Q : Option Value → hp_H → Prop} (kr : Q (some (.int r)) h) : hp_G l mX4_isAct none 0 false Q false 0 0 10 [(0, .int u0)] [] h := by
  unfold jX4_isAct_10 at hf
  refine hp_iload_n 0 dX4_isAct_10 rfl rfl (?_ : hp_G _ _ _ _ _ _ _ _ _ 11 _ _ _)
  refine hp_bipush (v := 10) dX4_isAct_11 bi_10 (?_ : hp_G _ _ _ _ _ _ _ _ _ 13 _ _ _)
  refine hp_icmp_eq (tgt := 28) dX4_isAct_13 rfl (fun c2 => ?_) (fun c2 => (?_ : hp_G _ _ _ _ _ _ _ _ _ 16 _ _ _))
  · replace hf := ot_ c2 hf
    refine hp_iconst (v := 1) dX4_isAct_28 ic_1 (?_ : hp_G _ _ _ _ _ _ _ _ _ 29 _ _ _)
    refine hp_goto (tgt := 33) dX4_isAct_29 rfl (?_ : hp_G _ _ _ _ _ _ _ _ _ 33 _ _ _)
    obtain rfl := Option.some.inj hf
    exact hp_zret kr (fun z => z) rfl (by decide) dX4_isAct_33
  · replace hf := of_ c2 hf
    refine hp_iload_n 0 dX4_isAct_16 rfl rfl (?_ : hp_G _ _ _ _ _ _ _ _ _ 17 _ _ _)
    refine hp_bipush (v := 20) dX4_isAct_17 bi_20 (?_ : hp_G _ _ _ _ _ _ _ _ _ 19 _ _ _)
    refine hp_icmp_lt (tgt := 32) dX4_isAct_19 rfl (fun c3 => ?_) (fun c3 => (?_ : hp_G _ _ _ _ _ _ _ _ _ 22 _ _ _))
    · replace hf := ot_ c3 hf
      refine hp_iconst (v := 0) dX4_isAct_32 ic_0 (?_ : hp_G _ _ _ _ _ _ _ _ _ 33 _ _ _)
      obtain rfl := Option.some.inj hf
      exact hp_zret kr (fun z => z) rfl (by decide) dX4_isAct_33
    · replace hf := of_ c3 hf
      refine hp_iload_n 0 dX4_isAct_22 rfl rfl (?_ : hp_G _ _ _ _ _ _ _ _ _ 23 _ _ _)
      refine hp_bipush (v := 29) dX4_isAct_23 bi_29 (?_ : hp_G _ _ _ _ _ _ _ _ _ 25 _ _ _)
      refine hp_icmp_gt (tgt := 32) dX4_isAct_25 rfl (fun c4 => ?_) (fun c4 => (?_ : hp_G _ _ _ _ _ _ _ _ _ 28 _ _ _))
      · replace hf := ot_ c4 hf
        refine hp_iconst (v := 0) dX4_isAct_32 ic_0 (?_ : hp_G _ _ _ _ _ _ _ _ _ 33 _ _ _)
        obtain rfl := Option.some.inj hf
        exact hp_zret kr (fun z => z) rfl (by decide) dX4_isAct_33
      · replace hf := of_ c4 hf
        refine hp_iconst (v := 1) dX4_isAct_28 ic_1 (?_ : hp_G _ _ _ _ _ _ _ _ _ 29 _ _ _)
        refine hp_goto (tgt := 33) dX4_isAct_29 rfl (?_ : hp_G _ _ _ _ _ _ _ _ _ 33 _ _ _)
        obtain rfl := Option.some.inj hf
        exact hp_zret kr (fun z => z) rfl (by decide) dX4_isAct_33
noncomputable def fX4_isAct (h : hp_H) (p0 : Int32) : Option Int32 :=
if p0 < 0 then
(jX4_isAct_10 h p0)
else
(if p0 < 6 then
(some 1)
else
(jX4_isAct_10 h p0))
set_option maxRecDepth 20000 in
set_option maxHeartbeats 4000000 in
theorem tX4_isAct (l : Launch) {h : hp_H} {p0 : Int32} {r : Int32} (hf : fX4_isAct h p0 = some r) {Q : Option Value → hp_H → Prop} (kr : Q (some (.int r)) h) : hp_G l mX4_isAct none 0 false Q false 0 0 0 [(0, .int p0)] [] h := by
  unfold fX4_isAct at hf
  refine hp_iload_n 0 dX4_isAct_0 rfl rfl (?_ : hp_G _ _ _ _ _ _ _ _ _ 1 _ _ _)
  refine hp_if_lt (tgt := 10) dX4_isAct_1 rfl (fun c1 => ?_) (fun c1 => (?_ : hp_G _ _ _ _ _ _ _ _ _ 4 _ _ _))
  · replace hf := ot_ c1 hf
    exact hp_sub [0] rfl (tjX4_isAct_10 l hf kr)
  · replace hf := of_ c1 hf
    refine hp_iload_n 0 dX4_isAct_4 rfl rfl (?_ : hp_G _ _ _ _ _ _ _ _ _ 5 _ _ _)
    refine hp_bipush (v := 6) dX4_isAct_5 bi_6 (?_ : hp_G _ _ _ _ _ _ _ _ _ 7 _ _ _)
    refine hp_icmp_lt (tgt := 28) dX4_isAct_7 rfl (fun c5 => ?_) (fun c5 => (?_ : hp_G _ _ _ _ _ _ _ _ _ 10 _ _ _))
    · replace hf := ot_ c5 hf
      refine hp_iconst (v := 1) dX4_isAct_28 ic_1 (?_ : hp_G _ _ _ _ _ _ _ _ _ 29 _ _ _)
      refine hp_goto (tgt := 33) dX4_isAct_29 rfl (?_ : hp_G _ _ _ _ _ _ _ _ _ 33 _ _ _)
      obtain rfl := Option.some.inj hf
      exact hp_zret kr (fun z => z) rfl (by decide) dX4_isAct_33
    · replace hf := of_ c5 hf
      exact hp_sub [0] rfl (tjX4_isAct_10 l hf kr)
theorem kX4_isAct (l : Launch) {h : hp_H} {p0 : Int32} {r : Int32} (hf : fX4_isAct h p0 = some r) : hp_Cn l yX4_isAct mX4_isAct 0 false 0 0 [.int p0] h (fun v h2 => some (.int r) = v ∧ h = h2) :=
  hp_of (by decide) rfl (fun z => by cases z) (Nat.le_of_ble_eq_true rfl) (tX4_isAct l hf ⟨rfl, rfl⟩)
noncomputable def bX8_refusalOfActs_3 (h : hp_H) (v0 : Nat) (v1 : Nat) (v2 : Int32) (v3 : Int32) (s : Int32) : Option (Int32 ⊕ (Unit ⊕ Int32)) :=
if v3 ≤ s then
(some (.inr (.inl ())))
else
((hg_o h v1 5).bind fun o2 =>
(fX5_read h v1 ((v2 + (2 * s)) + 1)).bind fun r3 =>
(fX4_isAct h r3).bind fun r4 =>
if r4 = 0 then
(some (.inr (.inr (-2))))
else
((gq_ h v0 7 0).bind fun x6 =>
(hg_o h v1 5).bind fun o7 =>
(fX5_read h v1 (v2 + (2 * s))).bind fun r8 =>
(hg_o h x6 6).bind fun o9 =>
(fX7_has h x6 r8).bind fun r10 =>
if r10 = 0 then
(some (.inr (.inr (-1))))
else
((some (s + 1)).bind fun x12 =>
some (.inl x12))))
set_option maxRecDepth 20000 in
set_option maxHeartbeats 4000000 in
theorem tbX8_refusalOfActs_3 (l : Launch) {h : hp_H} {v0 : Nat} {v1 : Nat} {v2 : Int32} {v3 : Int32}  {s : Int32} {r : (Int32 ⊕ (Unit ⊕ Int32))} (hf : bX8_refusalOfActs_3 h  v0 v1 v2 v3 s = some r) {Q : Option Value → hp_H → Prop} (kb : ∀ t, r = .inl t → hp_G l mX8_refusalOfActs none 2 false Q false 0 0 3 [(0, .ref v0), (1, .ref v1), (2, .int v2), (3, .int v3), (4, .int t)] [] h) (ke : ∀ x, r = .inr (.inl x) → hp_G l mX8_refusalOfActs none 2 false Q false 0 0 58 [] [] h) (kr : ∀ z, r = .inr (.inr z) → Q (some (.int z)) h) : hp_G l mX8_refusalOfActs none 2 false Q false 0 0 3 [(0, .ref v0), (1, .ref v1), (2, .int v2), (3, .int v3), (4, .int s)] [] h := by
  unfold bX8_refusalOfActs_3 at hf
  refine hp_iload 4 dX8_refusalOfActs_3 rfl (?_ : hp_G _ _ _ _ _ _ _ _ _ 5 _ _ _)
  refine hp_iload_n 3 dX8_refusalOfActs_5 rfl rfl (?_ : hp_G _ _ _ _ _ _ _ _ _ 6 _ _ _)
  refine hp_icmp_ge (tgt := 58) dX8_refusalOfActs_6 rfl (fun c1 => ?_) (fun c1 => (?_ : hp_G _ _ _ _ _ _ _ _ _ 9 _ _ _))
  · replace hf := ot_ c1 hf
    obtain rfl := Option.some.inj hf
    exact hp_sub [] rfl (ke _ rfl)
  · replace hf := of_ c1 hf
    refine hp_aload_n 1 dX8_refusalOfActs_9 rfl rfl (?_ : hp_G _ _ _ _ _ _ _ _ _ 10 _ _ _)
    refine hp_iload_n 2 dX8_refusalOfActs_10 rfl rfl (?_ : hp_G _ _ _ _ _ _ _ _ _ 11 _ _ _)
    refine hp_iconst (v := 2) dX8_refusalOfActs_11 ic_2 (?_ : hp_G _ _ _ _ _ _ _ _ _ 12 _ _ _)
    refine hp_iload 4 dX8_refusalOfActs_12 rfl (?_ : hp_G _ _ _ _ _ _ _ _ _ 14 _ _ _)
    refine hp_imul dX8_refusalOfActs_14 (?_ : hp_G _ _ _ _ _ _ _ _ _ 15 _ _ _)
    refine hp_iadd dX8_refusalOfActs_15 (?_ : hp_G _ _ _ _ _ _ _ _ _ 16 _ _ _)
    refine hp_iconst (v := 1) dX8_refusalOfActs_16 ic_1 (?_ : hp_G _ _ _ _ _ _ _ _ _ 17 _ _ _)
    refine hp_iadd dX8_refusalOfActs_17 (?_ : hp_G _ _ _ _ _ _ _ _ _ 18 _ _ _)
    replace hf := ob_ hf
    obtain ⟨o2, eo2, hf⟩ := hf
    replace hf := ob_ hf
    obtain ⟨r3, er3, hf⟩ := hf
    refine clX8_219 (as := [.int ((v2 + (2 * s)) + 1)]) (st := []) rfl (kX5_read l er3) rfl (by decide) (Nat.le_of_ble_eq_true rfl) eo2 dX8_refusalOfActs_18 rfl (?_ : hp_G _ _ _ _ _ _ _ _ _ 21 _ _ _)
    replace hf := ob_ hf
    obtain ⟨r4, er4, hf⟩ := hf
    refine clX8_257 (as := [.int r3]) (st := []) rfl (kX4_isAct l er4) rfl (by decide) (Nat.le_of_ble_eq_true rfl) dX8_refusalOfActs_21 rfl (?_ : hp_G _ _ _ _ _ _ _ _ _ 24 _ _ _)
    refine hp_if_ne (tgt := 30) dX8_refusalOfActs_24 rfl (fun c5 => ?_) (fun c5 => (?_ : hp_G _ _ _ _ _ _ _ _ _ 27 _ _ _))
    · replace hf := of_ c5 hf
      refine hp_aload_n 0 dX8_refusalOfActs_30 rfl rfl (?_ : hp_G _ _ _ _ _ _ _ _ _ 31 _ _ _)
      replace hf := ob_ hf
      obtain ⟨x6, ex6, hf⟩ := hf
      refine fgX8_12 rfl dX8_refusalOfActs_31 ex6 (?_ : hp_G _ _ _ _ _ _ _ _ _ 34 _ _ _)
      refine hp_aload_n 1 dX8_refusalOfActs_34 rfl rfl (?_ : hp_G _ _ _ _ _ _ _ _ _ 35 _ _ _)
      refine hp_iload_n 2 dX8_refusalOfActs_35 rfl rfl (?_ : hp_G _ _ _ _ _ _ _ _ _ 36 _ _ _)
      refine hp_iconst (v := 2) dX8_refusalOfActs_36 ic_2 (?_ : hp_G _ _ _ _ _ _ _ _ _ 37 _ _ _)
      refine hp_iload 4 dX8_refusalOfActs_37 rfl (?_ : hp_G _ _ _ _ _ _ _ _ _ 39 _ _ _)
      refine hp_imul dX8_refusalOfActs_39 (?_ : hp_G _ _ _ _ _ _ _ _ _ 40 _ _ _)
      refine hp_iadd dX8_refusalOfActs_40 (?_ : hp_G _ _ _ _ _ _ _ _ _ 41 _ _ _)
      replace hf := ob_ hf
      obtain ⟨o7, eo7, hf⟩ := hf
      replace hf := ob_ hf
      obtain ⟨r8, er8, hf⟩ := hf
      refine clX8_219 (as := [.int (v2 + (2 * s))]) (st := [.ref x6]) rfl (kX5_read l er8) rfl (by decide) (Nat.le_of_ble_eq_true rfl) eo7 dX8_refusalOfActs_41 rfl (?_ : hp_G _ _ _ _ _ _ _ _ _ 44 _ _ _)
      replace hf := ob_ hf
      obtain ⟨o9, eo9, hf⟩ := hf
      replace hf := ob_ hf
      obtain ⟨r10, er10, hf⟩ := hf
      refine clX8_93 (as := [.int r8]) (st := []) rfl (kX7_has l er10) rfl (by decide) (Nat.le_of_ble_eq_true rfl) eo9 dX8_refusalOfActs_44 rfl (?_ : hp_G _ _ _ _ _ _ _ _ _ 47 _ _ _)
      refine hp_if_ne (tgt := 52) dX8_refusalOfActs_47 rfl (fun c11 => ?_) (fun c11 => (?_ : hp_G _ _ _ _ _ _ _ _ _ 50 _ _ _))
      · replace hf := of_ c11 hf
        replace hf := ob_ hf
        obtain ⟨x12, ex12, hf⟩ := hf
        refine hp_iinc (v := x12) (lv' := [(4, .int x12), (0, .ref v0), (1, .ref v1), (2, .int v2), (3, .int v3)]) 4 dX8_refusalOfActs_52 rfl (hp_inc ic_1 ex12) (Nat.le_of_ble_eq_true rfl) rfl (?_ : hp_G _ _ _ _ _ _ _ _ _ 55 _ _ _)
        refine hp_goto (tgt := 3) dX8_refusalOfActs_55 rfl (?_ : hp_G _ _ _ _ _ _ _ _ _ 3 _ _ _)
        obtain rfl := Option.some.inj hf
        exact hp_sub [1, 2, 3, 4, 0] rfl (kb _ rfl)
      · replace hf := ot_ c11 hf
        refine hp_iconst (v := (-1)) dX8_refusalOfActs_50 ic_m1 (?_ : hp_G _ _ _ _ _ _ _ _ _ 51 _ _ _)
        obtain rfl := Option.some.inj hf
        exact hp_iret (kr _ rfl) (fun z => z) rfl dX8_refusalOfActs_51
    · replace hf := ot_ c5 hf
      refine hp_bipush (v := (-2)) dX8_refusalOfActs_27 bi_m2 (?_ : hp_G _ _ _ _ _ _ _ _ _ 29 _ _ _)
      obtain rfl := Option.some.inj hf
      exact hp_iret (kr _ rfl) (fun z => z) rfl dX8_refusalOfActs_29
set_option maxRecDepth 20000 in
set_option maxHeartbeats 4000000 in
theorem tlX8_refusalOfActs_3 (l : Launch) {h : hp_H} {v0 : Nat} {v1 : Nat} {v2 : Int32} {v3 : Int32}  (q : Nat) {s : Int32} {x : (Unit ⊕ Int32)} (hf : it_ (bX8_refusalOfActs_3 h  v0 v1 v2 v3) q s = some x) {Q : Option Value → hp_H → Prop} (ke : ∀ e, x = .inl e → hp_G l mX8_refusalOfActs none 2 false Q false 0 0 58 [] [] h) (kr : ∀ z, x = .inr z → Q (some (.int z)) h) : hp_G l mX8_refusalOfActs none 2 false Q false 0 0 3 [(0, .ref v0), (1, .ref v1), (2, .int v2), (3, .int v3), (4, .int s)] [] h := by
  exact it_rule (f := bX8_refusalOfActs_3 h  v0 v1 v2 v3) (fun s => hp_G l mX8_refusalOfActs none 2 false Q false 0 0 3 [(0, .ref v0), (1, .ref v1), (2, .int v2), (3, .int v3), (4, .int s)] [] h) (fun x => (∀ e, x = .inl e → hp_G l mX8_refusalOfActs none 2 false Q false 0 0 58 [] [] h) ∧ (∀ z, x = .inr z → Q (some (.int z)) h)) (fun s r h1 h2 h3 => tbX8_refusalOfActs_3 l h1 (fun t e => h2 t e) (fun e he => (h3 _ he).1 _ rfl) (fun z he => (h3 _ he).2 _ rfl)) q s x hf ⟨ke, kr⟩
noncomputable def fX8_refusalOfActs (h : hp_H) (a0 : Nat) (a1 : Nat) (p2 : Int32) (p3 : Int32) : Option Int32 :=
(it_ (bX8_refusalOfActs_3 h a0 a1 p2 p3) fu_ 0).bind fun x13 =>
match x13 with
| .inl y14 => (some 0)
| .inr z15 => some z15
set_option maxRecDepth 20000 in
set_option maxHeartbeats 4000000 in
theorem tX8_refusalOfActs (l : Launch) {h : hp_H} {a0 : Nat} {a1 : Nat} {p2 : Int32} {p3 : Int32} {r : Int32} (hf : fX8_refusalOfActs h a0 a1 p2 p3 = some r) {Q : Option Value → hp_H → Prop} (kr : Q (some (.int r)) h) : hp_G l mX8_refusalOfActs none 2 false Q false 0 0 0 [(0, .ref a0), (1, .ref a1), (2, .int p2), (3, .int p3)] [] h := by
  unfold fX8_refusalOfActs at hf
  refine hp_iconst (v := 0) dX8_refusalOfActs_0 ic_0 (?_ : hp_G _ _ _ _ _ _ _ _ _ 1 _ _ _)
  refine hp_istore (lv' := [(4, .int 0), (0, .ref a0), (1, .ref a1), (2, .int p2), (3, .int p3)]) dX8_refusalOfActs_1 (Nat.le_of_ble_eq_true rfl) rfl (?_ : hp_G _ _ _ _ _ _ _ _ _ 3 _ _ _)
  replace hf := ob_ hf
  obtain ⟨x13, ex13, hf⟩ := hf
  refine hp_sub [1, 2, 3, 4, 0] rfl ?_
  rcases x13 with y14 | z15
  · (try dsimp only at hf)
    refine tlX8_refusalOfActs_3 l fu_ ex13 (fun w hw => ?_) (fun w hw => (by cases hw))
    obtain rfl := Sum.inl.inj hw
    refine hp_iconst (v := 0) dX8_refusalOfActs_58 ic_0 (?_ : hp_G _ _ _ _ _ _ _ _ _ 59 _ _ _)
    obtain rfl := Option.some.inj hf
    exact hp_iret kr (fun z => z) rfl dX8_refusalOfActs_59
  · (try dsimp only at hf)
    refine tlX8_refusalOfActs_3 l fu_ ex13 (fun w hw => (by cases hw)) (fun w hw => ?_)
    obtain rfl := Sum.inr.inj hw
    obtain rfl := Option.some.inj hf
    exact kr
theorem kX8_refusalOfActs (l : Launch) {h : hp_H} {a0 : Nat} {a1 : Nat} {p2 : Int32} {p3 : Int32} {r : Int32} (hf : fX8_refusalOfActs h a0 a1 p2 p3 = some r) : hp_Cn l yX8_refusalOfActs mX8_refusalOfActs 2 false 0 0 [.ref a0, .ref a1, .int p2, .int p3] h (fun v h2 => some (.int r) = v ∧ h = h2) :=
  hp_of (by decide) rfl (fun z => by cases z) (Nat.le_of_ble_eq_true rfl) (tX8_refusalOfActs l hf ⟨rfl, rfl⟩)
noncomputable def bX7_becomeLike_10 (v0 : Nat) (v1 : Nat) (s : (Int32 × hp_H)) : Option ((Int32 × hp_H) ⊕ hp_H) :=
(gi_ s.2 v0 6 1).bind fun x3 =>
if x3 ≤ s.1 then
(some (.inr s.2))
else
((gq_ s.2 v1 6 0).bind fun x5 =>
(ql_ s.2 x5 s.1).bind fun x6 =>
(gq_ s.2 v0 6 0).bind fun x7 =>
(ql_ s.2 x7 s.1).bind fun x8 =>
(gi_ s.2 x6 2 0).bind fun x9 =>
(gi_ s.2 x6 2 1).bind fun x10 =>
(gi_ s.2 x6 2 2).bind fun x11 =>
(gi_ s.2 x6 2 3).bind fun x12 =>
(hg_o s.2 x8 2).bind fun o13 =>
(fX2_become s.2 x8 x9 x10 x11 x12).bind fun r14 =>
(some (s.1 + 1)).bind fun x15 =>
some (.inl (x15, r14)))
set_option maxRecDepth 20000 in
set_option maxHeartbeats 4000000 in
theorem tbX7_becomeLike_10 (l : Launch) {v0 : Nat} {v1 : Nat}  {s : (Int32 × hp_H)} {r : ((Int32 × hp_H) ⊕ hp_H)} (hf : bX7_becomeLike_10  v0 v1 s = some r) {Q : Option Value → hp_H → Prop} (kb : ∀ t, r = .inl t → hp_G l mX7_becomeLike none 1 false Q false 0 0 10 [(0, .ref v0), (1, .ref v1), (2, .int t.1)] [] t.2) (ke : ∀ x, r = .inr x → hp_G l mX7_becomeLike none 1 false Q false 0 0 56 [] [] x) : hp_G l mX7_becomeLike none 1 false Q false 0 0 10 [(0, .ref v0), (1, .ref v1), (2, .int s.1)] [] s.2 := by
  unfold bX7_becomeLike_10 at hf
  refine hp_iload_n 2 dX7_becomeLike_10 rfl rfl (?_ : hp_G _ _ _ _ _ _ _ _ _ 11 _ _ _)
  refine hp_aload_n 0 dX7_becomeLike_11 rfl rfl (?_ : hp_G _ _ _ _ _ _ _ _ _ 12 _ _ _)
  replace hf := ob_ hf
  obtain ⟨x3, ex3, hf⟩ := hf
  refine fgX7_18 rfl dX7_becomeLike_12 ex3 (?_ : hp_G _ _ _ _ _ _ _ _ _ 15 _ _ _)
  refine hp_icmp_ge (tgt := 56) dX7_becomeLike_15 rfl (fun c4 => ?_) (fun c4 => (?_ : hp_G _ _ _ _ _ _ _ _ _ 18 _ _ _))
  · replace hf := ot_ c4 hf
    obtain rfl := Option.some.inj hf
    exact hp_sub [] rfl (ke _ rfl)
  · replace hf := of_ c4 hf
    refine hp_aload_n 1 dX7_becomeLike_18 rfl rfl (?_ : hp_G _ _ _ _ _ _ _ _ _ 19 _ _ _)
    replace hf := ob_ hf
    obtain ⟨x5, ex5, hf⟩ := hf
    refine fgX7_11 rfl dX7_becomeLike_19 ex5 (?_ : hp_G _ _ _ _ _ _ _ _ _ 22 _ _ _)
    refine hp_iload_n 2 dX7_becomeLike_22 rfl rfl (?_ : hp_G _ _ _ _ _ _ _ _ _ 23 _ _ _)
    replace hf := ob_ hf
    obtain ⟨x6, ex6, hf⟩ := hf
    refine hp_aaload dX7_becomeLike_23 ex6 (?_ : hp_G _ _ _ _ _ _ _ _ _ 24 _ _ _)
    refine hp_astore_n (lv' := [(3, .ref x6), (0, .ref v0), (1, .ref v1), (2, .int s.1)]) dX7_becomeLike_24 rfl (Nat.le_of_ble_eq_true rfl) rfl (?_ : hp_G _ _ _ _ _ _ _ _ _ 25 _ _ _)
    refine hp_aload_n 1 dX7_becomeLike_25 rfl rfl (?_ : hp_G _ _ _ _ _ _ _ _ _ 26 _ _ _)
    replace hf := ob_ hf
    obtain ⟨x7, ex7, hf⟩ := hf
    refine fgX7_11 rfl dX7_becomeLike_26 ex7 (?_ : hp_G _ _ _ _ _ _ _ _ _ 29 _ _ _)
    refine hp_iload_n 3 dX7_becomeLike_29 rfl rfl (?_ : hp_G _ _ _ _ _ _ _ _ _ 30 _ _ _)
    replace hf := ob_ hf
    obtain ⟨x8, ex8, hf⟩ := hf
    refine hp_aaload dX7_becomeLike_30 ex8 (?_ : hp_G _ _ _ _ _ _ _ _ _ 31 _ _ _)
    refine hp_aload_n 0 dX7_becomeLike_31 rfl rfl (?_ : hp_G _ _ _ _ _ _ _ _ _ 32 _ _ _)
    replace hf := ob_ hf
    obtain ⟨x9, ex9, hf⟩ := hf
    refine fgX7_30 rfl dX7_becomeLike_32 ex9 (?_ : hp_G _ _ _ _ _ _ _ _ _ 35 _ _ _)
    refine hp_aload_n 0 dX7_becomeLike_35 rfl rfl (?_ : hp_G _ _ _ _ _ _ _ _ _ 36 _ _ _)
    replace hf := ob_ hf
    obtain ⟨x10, ex10, hf⟩ := hf
    refine fgX7_33 rfl dX7_becomeLike_36 ex10 (?_ : hp_G _ _ _ _ _ _ _ _ _ 39 _ _ _)
    refine hp_aload_n 0 dX7_becomeLike_39 rfl rfl (?_ : hp_G _ _ _ _ _ _ _ _ _ 40 _ _ _)
    replace hf := ob_ hf
    obtain ⟨x11, ex11, hf⟩ := hf
    refine fgX7_36 rfl dX7_becomeLike_40 ex11 (?_ : hp_G _ _ _ _ _ _ _ _ _ 43 _ _ _)
    refine hp_aload_n 0 dX7_becomeLike_43 rfl rfl (?_ : hp_G _ _ _ _ _ _ _ _ _ 44 _ _ _)
    replace hf := ob_ hf
    obtain ⟨x12, ex12, hf⟩ := hf
    refine fgX7_26 rfl dX7_becomeLike_44 ex12 (?_ : hp_G _ _ _ _ _ _ _ _ _ 47 _ _ _)
    replace hf := ob_ hf
    obtain ⟨o13, eo13, hf⟩ := hf
    replace hf := ob_ hf
    obtain ⟨r14, er14, hf⟩ := hf
    refine clX7_39 (as := [.int x9, .int x10, .int x11, .int x12]) (st := []) rfl (kX2_become l er14) rfl (by decide) (Nat.le_of_ble_eq_true rfl) eo13 dX7_becomeLike_47 rfl (?_ : hp_G _ _ _ _ _ _ _ _ _ 50 _ _ _)
    replace hf := ob_ hf
    obtain ⟨x15, ex15, hf⟩ := hf
    refine hp_iinc (v := x15) (lv' := [(2, .int x15), (3, .ref x6), (0, .ref v0), (1, .ref v1)]) 3 dX7_becomeLike_50 rfl (hp_inc ic_1 ex15) (Nat.le_of_ble_eq_true rfl) rfl (?_ : hp_G _ _ _ _ _ _ _ _ _ 53 _ _ _)
    refine hp_goto (tgt := 10) dX7_becomeLike_53 rfl (?_ : hp_G _ _ _ _ _ _ _ _ _ 10 _ _ _)
    obtain rfl := Option.some.inj hf
    exact hp_sub [2, 3, 0] rfl (kb _ rfl)
set_option maxRecDepth 20000 in
set_option maxHeartbeats 4000000 in
theorem tlX7_becomeLike_10 (l : Launch) {v0 : Nat} {v1 : Nat}  (q : Nat) {s : (Int32 × hp_H)} {x : hp_H} (hf : it_ (bX7_becomeLike_10  v0 v1) q s = some x) {Q : Option Value → hp_H → Prop} (ke : ∀ e, x = e → hp_G l mX7_becomeLike none 1 false Q false 0 0 56 [] [] e) : hp_G l mX7_becomeLike none 1 false Q false 0 0 10 [(0, .ref v0), (1, .ref v1), (2, .int s.1)] [] s.2 := by
  exact it_rule (f := bX7_becomeLike_10  v0 v1) (fun s => hp_G l mX7_becomeLike none 1 false Q false 0 0 10 [(0, .ref v0), (1, .ref v1), (2, .int s.1)] [] s.2) (fun x => (∀ e, x = e → hp_G l mX7_becomeLike none 1 false Q false 0 0 56 [] [] e)) (fun s r h1 h2 h3 => tbX7_becomeLike_10 l h1 (fun t e => h2 t e) (fun e he => h3 _ he _ rfl)) q s x hf ke
noncomputable def fX7_becomeLike (h : hp_H) (a0 : Nat) (a1 : Nat) : Option hp_H :=
(gi_ h a1 6 1).bind fun x1 =>
(pi_ h a0 6 1 x1).bind fun h2 =>
(it_ (bX7_becomeLike_10  a0 a1) fu_ (0, h2)).bind fun x16 =>
some x16
set_option maxRecDepth 20000 in
set_option maxHeartbeats 4000000 in
theorem tX7_becomeLike (l : Launch) {h : hp_H} {a0 : Nat} {a1 : Nat} {r : hp_H} (hf : fX7_becomeLike h a0 a1 = some r) {Q : Option Value → hp_H → Prop} (kr : Q (none) r) : hp_G l mX7_becomeLike none 1 false Q false 0 0 0 [(0, .ref a0), (1, .ref a1)] [] h := by
  unfold fX7_becomeLike at hf
  refine hp_aload_n 0 dX7_becomeLike_0 rfl rfl (?_ : hp_G _ _ _ _ _ _ _ _ _ 1 _ _ _)
  refine hp_aload_n 1 dX7_becomeLike_1 rfl rfl (?_ : hp_G _ _ _ _ _ _ _ _ _ 2 _ _ _)
  replace hf := ob_ hf
  obtain ⟨x1, ex1, hf⟩ := hf
  refine fgX7_18 rfl dX7_becomeLike_2 ex1 (?_ : hp_G _ _ _ _ _ _ _ _ _ 5 _ _ _)
  replace hf := ob_ hf
  obtain ⟨h2, eh2, hf⟩ := hf
  refine fpX7_18 rfl dX7_becomeLike_5 eh2 (?_ : hp_G _ _ _ _ _ _ _ _ _ 8 _ _ _)
  refine hp_iconst (v := 0) dX7_becomeLike_8 ic_0 (?_ : hp_G _ _ _ _ _ _ _ _ _ 9 _ _ _)
  refine hp_istore_n (lv' := [(2, .int 0), (0, .ref a0), (1, .ref a1)]) dX7_becomeLike_9 rfl (Nat.le_of_ble_eq_true rfl) rfl (?_ : hp_G _ _ _ _ _ _ _ _ _ 10 _ _ _)
  replace hf := ob_ hf
  obtain ⟨x16, ex16, hf⟩ := hf
  refine hp_sub [1, 2, 0] rfl ?_
  refine tlX7_becomeLike_10 l fu_ ex16 (fun y hy => ?_)
  obtain rfl := hy
  obtain rfl := Option.some.inj hf
  exact hp_vret kr (fun z => z) rfl dX7_becomeLike_56
theorem kX7_becomeLike (l : Launch) {h : hp_H} {a0 : Nat} {a1 : Nat} {r : hp_H} (hf : fX7_becomeLike h a0 a1 = some r) : hp_Cn l yX7_becomeLike mX7_becomeLike 1 false 0 0 [.ref a0, .ref a1] h (fun v h2 => none = v ∧ r = h2) :=
  hp_of (by decide) rfl (fun z => by cases z) (Nat.le_of_ble_eq_true rfl) (tX7_becomeLike l hf ⟨rfl, rfl⟩)
noncomputable def bJ7_fill_53178_5 (v0 : Nat) (v1 : Int32) (v3 : Int32) (s : (Int32 × hp_H)) : Option ((Int32 × hp_H) ⊕ hp_H) :=
if v3 ≤ s.1 then
(some (.inr s.2))
else
((ax_ s.2 v0 s.1 v1).bind fun h3 =>
(some (s.1 + 1)).bind fun x4 =>
some (.inl (x4, h3)))
set_option maxRecDepth 20000 in
set_option maxHeartbeats 4000000 in
theorem tbJ7_fill_53178_5 (l : Launch) {v0 : Nat} {v1 : Int32} {v3 : Int32}  {s : (Int32 × hp_H)} {r : ((Int32 × hp_H) ⊕ hp_H)} (hf : bJ7_fill_53178_5  v0 v1 v3 s = some r) {Q : Option Value → hp_H → Prop} (kb : ∀ t, r = .inl t → hp_G l mJ7_fill_53178 none 0 false Q false 0 0 5 [(0, .ref v0), (1, .int v1), (2, .int t.1), (3, .int v3)] [] t.2) (ke : ∀ x, r = .inr x → hp_G l mJ7_fill_53178 none 0 false Q false 0 0 20 [] [] x) : hp_G l mJ7_fill_53178 none 0 false Q false 0 0 5 [(0, .ref v0), (1, .int v1), (2, .int s.1), (3, .int v3)] [] s.2 := by
  unfold bJ7_fill_53178_5 at hf
  refine hp_iload_n 2 dJ7_fill_53178_5 rfl rfl (?_ : hp_G _ _ _ _ _ _ _ _ _ 6 _ _ _)
  refine hp_iload_n 3 dJ7_fill_53178_6 rfl rfl (?_ : hp_G _ _ _ _ _ _ _ _ _ 7 _ _ _)
  refine hp_icmp_ge (tgt := 20) dJ7_fill_53178_7 rfl (fun c2 => ?_) (fun c2 => (?_ : hp_G _ _ _ _ _ _ _ _ _ 10 _ _ _))
  · replace hf := ot_ c2 hf
    obtain rfl := Option.some.inj hf
    exact hp_sub [] rfl (ke _ rfl)
  · replace hf := of_ c2 hf
    refine hp_aload_n 0 dJ7_fill_53178_10 rfl rfl (?_ : hp_G _ _ _ _ _ _ _ _ _ 11 _ _ _)
    refine hp_iload_n 2 dJ7_fill_53178_11 rfl rfl (?_ : hp_G _ _ _ _ _ _ _ _ _ 12 _ _ _)
    refine hp_iload_n 1 dJ7_fill_53178_12 rfl rfl (?_ : hp_G _ _ _ _ _ _ _ _ _ 13 _ _ _)
    replace hf := ob_ hf
    obtain ⟨h3, eh3, hf⟩ := hf
    refine hp_iastore dJ7_fill_53178_13 eh3 (?_ : hp_G _ _ _ _ _ _ _ _ _ 14 _ _ _)
    replace hf := ob_ hf
    obtain ⟨x4, ex4, hf⟩ := hf
    refine hp_iinc (v := x4) (lv' := [(2, .int x4), (0, .ref v0), (1, .int v1), (3, .int v3)]) 2 dJ7_fill_53178_14 rfl (hp_inc ic_1 ex4) (Nat.le_of_ble_eq_true rfl) rfl (?_ : hp_G _ _ _ _ _ _ _ _ _ 17 _ _ _)
    refine hp_goto (tgt := 5) dJ7_fill_53178_17 rfl (?_ : hp_G _ _ _ _ _ _ _ _ _ 5 _ _ _)
    obtain rfl := Option.some.inj hf
    exact hp_sub [1, 2, 0, 3] rfl (kb _ rfl)
set_option maxRecDepth 20000 in
set_option maxHeartbeats 4000000 in
theorem tlJ7_fill_53178_5 (l : Launch) {v0 : Nat} {v1 : Int32} {v3 : Int32}  (q : Nat) {s : (Int32 × hp_H)} {x : hp_H} (hf : it_ (bJ7_fill_53178_5  v0 v1 v3) q s = some x) {Q : Option Value → hp_H → Prop} (ke : ∀ e, x = e → hp_G l mJ7_fill_53178 none 0 false Q false 0 0 20 [] [] e) : hp_G l mJ7_fill_53178 none 0 false Q false 0 0 5 [(0, .ref v0), (1, .int v1), (2, .int s.1), (3, .int v3)] [] s.2 := by
  exact it_rule (f := bJ7_fill_53178_5  v0 v1 v3) (fun s => hp_G l mJ7_fill_53178 none 0 false Q false 0 0 5 [(0, .ref v0), (1, .int v1), (2, .int s.1), (3, .int v3)] [] s.2) (fun x => (∀ e, x = e → hp_G l mJ7_fill_53178 none 0 false Q false 0 0 20 [] [] e)) (fun s r h1 h2 h3 => tbJ7_fill_53178_5 l h1 (fun t e => h2 t e) (fun e he => h3 _ he _ rfl)) q s x hf ke
noncomputable def fJ7_fill_53178 (h : hp_H) (a0 : Nat) (p1 : Int32) : Option hp_H :=
(ln_ h a0).bind fun x1 =>
(it_ (bJ7_fill_53178_5  a0 p1 x1) fu_ (0, h)).bind fun x5 =>
some x5
set_option maxRecDepth 20000 in
set_option maxHeartbeats 4000000 in
theorem tJ7_fill_53178 (l : Launch) {h : hp_H} {a0 : Nat} {p1 : Int32} {r : hp_H} (hf : fJ7_fill_53178 h a0 p1 = some r) {Q : Option Value → hp_H → Prop} (kr : Q (none) r) : hp_G l mJ7_fill_53178 none 0 false Q false 0 0 0 [(0, .ref a0), (1, .int p1)] [] h := by
  unfold fJ7_fill_53178 at hf
  refine hp_iconst (v := 0) dJ7_fill_53178_0 ic_0 (?_ : hp_G _ _ _ _ _ _ _ _ _ 1 _ _ _)
  refine hp_istore_n (lv' := [(2, .int 0), (0, .ref a0), (1, .int p1)]) dJ7_fill_53178_1 rfl (Nat.le_of_ble_eq_true rfl) rfl (?_ : hp_G _ _ _ _ _ _ _ _ _ 2 _ _ _)
  refine hp_aload_n 1 dJ7_fill_53178_2 rfl rfl (?_ : hp_G _ _ _ _ _ _ _ _ _ 3 _ _ _)
  replace hf := ob_ hf
  obtain ⟨x1, ex1, hf⟩ := hf
  refine hp_alen dJ7_fill_53178_3 ex1 (?_ : hp_G _ _ _ _ _ _ _ _ _ 4 _ _ _)
  refine hp_istore_n (lv' := [(3, .int x1), (2, .int 0), (0, .ref a0), (1, .int p1)]) dJ7_fill_53178_4 rfl (Nat.le_of_ble_eq_true rfl) rfl (?_ : hp_G _ _ _ _ _ _ _ _ _ 5 _ _ _)
  replace hf := ob_ hf
  obtain ⟨x5, ex5, hf⟩ := hf
  refine hp_sub [2, 3, 1, 0] rfl ?_
  refine tlJ7_fill_53178_5 l fu_ ex5 (fun y hy => ?_)
  obtain rfl := hy
  obtain rfl := Option.some.inj hf
  exact hp_vret kr (fun z => z) rfl dJ7_fill_53178_20
theorem kJ7_fill_53178 (l : Launch) {h : hp_H} {a0 : Nat} {p1 : Int32} {r : hp_H} (hf : fJ7_fill_53178 h a0 p1 = some r) : hp_Cn l yJ7_fill_53178 mJ7_fill_53178 0 false 0 0 [.ref a0, .int p1] h (fun v h2 => none = v ∧ r = h2) :=
  hp_of (by decide) rfl (fun z => by cases z) (Nat.le_of_ble_eq_true rfl) (tJ7_fill_53178 l hf ⟨rfl, rfl⟩)
noncomputable def fX4_comesBack (h : hp_H) (a0 : Nat) : Option (Int32 × hp_H) :=
(gi_ h a0 2 3).bind fun x1 =>
(pz_ h a0 2 3 0).bind fun h2 =>
(bz_ x1).bind fun z3 =>
some (z3, h2)
set_option maxRecDepth 20000 in
set_option maxHeartbeats 4000000 in
theorem tX4_comesBack (l : Launch) {h : hp_H} {a0 : Nat} {r : (Int32 × hp_H)} (hf : fX4_comesBack h a0 = some r) {Q : Option Value → hp_H → Prop} (kr : Q (some (.int r.1)) r.2) : hp_G l mX4_comesBack none 0 false Q false 0 0 0 [(0, .ref a0)] [] h := by
  unfold fX4_comesBack at hf
  refine hp_aload_n 0 dX4_comesBack_0 rfl rfl (?_ : hp_G _ _ _ _ _ _ _ _ _ 1 _ _ _)
  replace hf := ob_ hf
  obtain ⟨x1, ex1, hf⟩ := hf
  refine fgX4_72 rfl dX4_comesBack_1 ex1 (?_ : hp_G _ _ _ _ _ _ _ _ _ 4 _ _ _)
  refine hp_istore_n (lv' := [(1, .int x1), (0, .ref a0)]) dX4_comesBack_4 rfl (Nat.le_of_ble_eq_true rfl) rfl (?_ : hp_G _ _ _ _ _ _ _ _ _ 5 _ _ _)
  refine hp_aload_n 1 dX4_comesBack_5 rfl rfl (?_ : hp_G _ _ _ _ _ _ _ _ _ 6 _ _ _)
  refine hp_iconst (v := 0) dX4_comesBack_6 ic_0 (?_ : hp_G _ _ _ _ _ _ _ _ _ 7 _ _ _)
  replace hf := ob_ hf
  obtain ⟨h2, eh2, hf⟩ := hf
  refine fpX4_72 rfl dX4_comesBack_7 eh2 (?_ : hp_G _ _ _ _ _ _ _ _ _ 10 _ _ _)
  refine hp_iload_n 0 dX4_comesBack_10 rfl rfl (?_ : hp_G _ _ _ _ _ _ _ _ _ 11 _ _ _)
  replace hf := ob_ hf
  obtain ⟨z3, ez3, hf⟩ := hf
  obtain ⟨rfl, bz3⟩ := bz_inv ez3
  obtain rfl := Option.some.inj hf
  exact hp_zret kr (fun z => z) rfl bz3 dX4_comesBack_11
theorem kX4_comesBack (l : Launch) {h : hp_H} {a0 : Nat} {r : (Int32 × hp_H)} (hf : fX4_comesBack h a0 = some r) : hp_Cn l yX4_comesBack mX4_comesBack 0 false 0 0 [.ref a0] h (fun v h2 => some (.int r.1) = v ∧ r.2 = h2) :=
  hp_of (by decide) rfl (fun z => by cases z) (Nat.le_of_ble_eq_true rfl) (tX4_comesBack l hf ⟨rfl, rfl⟩)
noncomputable def fX4_playShy (h : hp_H) (a0 : Nat) (p1 : Int32) (p2 : Int32) : Option (Int32 × hp_H) :=
(gq_ h a0 4 0).bind fun x1 =>
(hg_o h x1 6).bind fun o2 =>
(fX7_hasTwo h x1 p1 p2).bind fun r3 =>
if r3 = 0 then
(some (0, h))
else
((gq_ h a0 4 0).bind fun x5 =>
(hg_o h x5 6).bind fun o6 =>
(fX7_bothHere h x5 p1 p2).bind fun r7 =>
if r7 = 0 then
(some (0, h))
else
((gq_ h a0 4 1).bind fun x9 =>
(al_ h x9 p1).bind fun x10 =>
(ax_ h x9 p1 (x10 + 1)).bind fun h11 =>
(gq_ h11 a0 4 1).bind fun x12 =>
(al_ h11 x12 p2).bind fun x13 =>
(ax_ h11 x12 p2 (x13 + 1)).bind fun h14 =>
(gq_ h14 a0 4 0).bind fun x15 =>
(gq_ h14 a0 4 0).bind fun x16 =>
(gq_ h14 x16 6 0).bind fun x17 =>
(ql_ h14 x17 p1).bind fun x18 =>
(hg_o h14 x18 2).bind fun o19 =>
(fX2_worst h14 x18).bind fun r20 =>
(gq_ h14 a0 4 0).bind fun x21 =>
(gq_ h14 x21 6 0).bind fun x22 =>
(ql_ h14 x22 p2).bind fun x23 =>
(hg_o h14 x23 2).bind fun o24 =>
(fX2_worst h14 x23).bind fun r25 =>
(hg_o h14 x15 6).bind fun o26 =>
(fX7_winnerLeaves h14 x15 p1 p2 r20 r25).bind fun r27 =>
if r27.1 = (-9) then
((gi_ r27.2 a0 4 2).bind fun x30 =>
(pi_ r27.2 a0 4 2 (x30 + 1)).bind fun h31 =>
some (1, h31))
else
((pi_ r27.2 a0 4 3 r27.1).bind fun h29 =>
some (1, h29))))
set_option maxRecDepth 20000 in
set_option maxHeartbeats 4000000 in
theorem tX4_playShy (l : Launch) {h : hp_H} {a0 : Nat} {p1 : Int32} {p2 : Int32} {r : (Int32 × hp_H)} (hf : fX4_playShy h a0 p1 p2 = some r) {Q : Option Value → hp_H → Prop} (kr : Q (some (.int r.1)) r.2) : hp_G l mX4_playShy none 2 false Q false 0 0 0 [(0, .ref a0), (1, .int p1), (2, .int p2)] [] h := by
  unfold fX4_playShy at hf
  refine hp_aload_n 0 dX4_playShy_0 rfl rfl (?_ : hp_G _ _ _ _ _ _ _ _ _ 1 _ _ _)
  replace hf := ob_ hf
  obtain ⟨x1, ex1, hf⟩ := hf
  refine fgX4_12 rfl dX4_playShy_1 ex1 (?_ : hp_G _ _ _ _ _ _ _ _ _ 4 _ _ _)
  refine hp_iload_n 1 dX4_playShy_4 rfl rfl (?_ : hp_G _ _ _ _ _ _ _ _ _ 5 _ _ _)
  refine hp_iload_n 2 dX4_playShy_5 rfl rfl (?_ : hp_G _ _ _ _ _ _ _ _ _ 6 _ _ _)
  replace hf := ob_ hf
  obtain ⟨o2, eo2, hf⟩ := hf
  replace hf := ob_ hf
  obtain ⟨r3, er3, hf⟩ := hf
  refine clX4_76 (as := [.int p1, .int p2]) (st := []) rfl (kX7_hasTwo l er3) rfl (by decide) (Nat.le_of_ble_eq_true rfl) eo2 dX4_playShy_6 rfl (?_ : hp_G _ _ _ _ _ _ _ _ _ 9 _ _ _)
  refine hp_if_eq (tgt := 24) dX4_playShy_9 rfl (fun c4 => ?_) (fun c4 => (?_ : hp_G _ _ _ _ _ _ _ _ _ 12 _ _ _))
  · replace hf := ot_ c4 hf
    refine hp_iconst (v := 0) dX4_playShy_24 ic_0 (?_ : hp_G _ _ _ _ _ _ _ _ _ 25 _ _ _)
    obtain rfl := Option.some.inj hf
    exact hp_zret kr (fun z => z) rfl (by decide) dX4_playShy_25
  · replace hf := of_ c4 hf
    refine hp_aload_n 0 dX4_playShy_12 rfl rfl (?_ : hp_G _ _ _ _ _ _ _ _ _ 13 _ _ _)
    replace hf := ob_ hf
    obtain ⟨x5, ex5, hf⟩ := hf
    refine fgX4_12 rfl dX4_playShy_13 ex5 (?_ : hp_G _ _ _ _ _ _ _ _ _ 16 _ _ _)
    refine hp_iload_n 1 dX4_playShy_16 rfl rfl (?_ : hp_G _ _ _ _ _ _ _ _ _ 17 _ _ _)
    refine hp_iload_n 2 dX4_playShy_17 rfl rfl (?_ : hp_G _ _ _ _ _ _ _ _ _ 18 _ _ _)
    replace hf := ob_ hf
    obtain ⟨o6, eo6, hf⟩ := hf
    replace hf := ob_ hf
    obtain ⟨r7, er7, hf⟩ := hf
    refine clX4_79 (as := [.int p1, .int p2]) (st := []) rfl (kX7_bothHere l er7) rfl (by decide) (Nat.le_of_ble_eq_true rfl) eo6 dX4_playShy_18 rfl (?_ : hp_G _ _ _ _ _ _ _ _ _ 21 _ _ _)
    refine hp_if_ne (tgt := 26) dX4_playShy_21 rfl (fun c8 => ?_) (fun c8 => (?_ : hp_G _ _ _ _ _ _ _ _ _ 24 _ _ _))
    · replace hf := of_ c8 hf
      refine hp_aload_n 0 dX4_playShy_26 rfl rfl (?_ : hp_G _ _ _ _ _ _ _ _ _ 27 _ _ _)
      replace hf := ob_ hf
      obtain ⟨x9, ex9, hf⟩ := hf
      refine fgX4_18 rfl dX4_playShy_27 ex9 (?_ : hp_G _ _ _ _ _ _ _ _ _ 30 _ _ _)
      refine hp_iload_n 1 dX4_playShy_30 rfl rfl (?_ : hp_G _ _ _ _ _ _ _ _ _ 31 _ _ _)
      refine hp_dup2 dX4_playShy_31 rfl rfl (?_ : hp_G _ _ _ _ _ _ _ _ _ 32 _ _ _)
      replace hf := ob_ hf
      obtain ⟨x10, ex10, hf⟩ := hf
      refine hp_iaload dX4_playShy_32 ex10 (?_ : hp_G _ _ _ _ _ _ _ _ _ 33 _ _ _)
      refine hp_iconst (v := 1) dX4_playShy_33 ic_1 (?_ : hp_G _ _ _ _ _ _ _ _ _ 34 _ _ _)
      refine hp_iadd dX4_playShy_34 (?_ : hp_G _ _ _ _ _ _ _ _ _ 35 _ _ _)
      replace hf := ob_ hf
      obtain ⟨h11, eh11, hf⟩ := hf
      refine hp_iastore dX4_playShy_35 eh11 (?_ : hp_G _ _ _ _ _ _ _ _ _ 36 _ _ _)
      refine hp_aload_n 0 dX4_playShy_36 rfl rfl (?_ : hp_G _ _ _ _ _ _ _ _ _ 37 _ _ _)
      replace hf := ob_ hf
      obtain ⟨x12, ex12, hf⟩ := hf
      refine fgX4_18 rfl dX4_playShy_37 ex12 (?_ : hp_G _ _ _ _ _ _ _ _ _ 40 _ _ _)
      refine hp_iload_n 2 dX4_playShy_40 rfl rfl (?_ : hp_G _ _ _ _ _ _ _ _ _ 41 _ _ _)
      refine hp_dup2 dX4_playShy_41 rfl rfl (?_ : hp_G _ _ _ _ _ _ _ _ _ 42 _ _ _)
      replace hf := ob_ hf
      obtain ⟨x13, ex13, hf⟩ := hf
      refine hp_iaload dX4_playShy_42 ex13 (?_ : hp_G _ _ _ _ _ _ _ _ _ 43 _ _ _)
      refine hp_iconst (v := 1) dX4_playShy_43 ic_1 (?_ : hp_G _ _ _ _ _ _ _ _ _ 44 _ _ _)
      refine hp_iadd dX4_playShy_44 (?_ : hp_G _ _ _ _ _ _ _ _ _ 45 _ _ _)
      replace hf := ob_ hf
      obtain ⟨h14, eh14, hf⟩ := hf
      refine hp_iastore dX4_playShy_45 eh14 (?_ : hp_G _ _ _ _ _ _ _ _ _ 46 _ _ _)
      refine hp_aload_n 0 dX4_playShy_46 rfl rfl (?_ : hp_G _ _ _ _ _ _ _ _ _ 47 _ _ _)
      replace hf := ob_ hf
      obtain ⟨x15, ex15, hf⟩ := hf
      refine fgX4_12 rfl dX4_playShy_47 ex15 (?_ : hp_G _ _ _ _ _ _ _ _ _ 50 _ _ _)
      refine hp_iload_n 1 dX4_playShy_50 rfl rfl (?_ : hp_G _ _ _ _ _ _ _ _ _ 51 _ _ _)
      refine hp_iload_n 2 dX4_playShy_51 rfl rfl (?_ : hp_G _ _ _ _ _ _ _ _ _ 52 _ _ _)
      refine hp_aload_n 0 dX4_playShy_52 rfl rfl (?_ : hp_G _ _ _ _ _ _ _ _ _ 53 _ _ _)
      replace hf := ob_ hf
      obtain ⟨x16, ex16, hf⟩ := hf
      refine fgX4_12 rfl dX4_playShy_53 ex16 (?_ : hp_G _ _ _ _ _ _ _ _ _ 56 _ _ _)
      replace hf := ob_ hf
      obtain ⟨x17, ex17, hf⟩ := hf
      refine fgX4_56 rfl dX4_playShy_56 ex17 (?_ : hp_G _ _ _ _ _ _ _ _ _ 59 _ _ _)
      refine hp_iload_n 1 dX4_playShy_59 rfl rfl (?_ : hp_G _ _ _ _ _ _ _ _ _ 60 _ _ _)
      replace hf := ob_ hf
      obtain ⟨x18, ex18, hf⟩ := hf
      refine hp_aaload dX4_playShy_60 ex18 (?_ : hp_G _ _ _ _ _ _ _ _ _ 61 _ _ _)
      replace hf := ob_ hf
      obtain ⟨o19, eo19, hf⟩ := hf
      replace hf := ob_ hf
      obtain ⟨r20, er20, hf⟩ := hf
      refine clX4_82 (as := []) (st := [.int p2, .int p1, .ref x15]) rfl (kX2_worst l er20) rfl (by decide) (Nat.le_of_ble_eq_true rfl) eo19 dX4_playShy_61 rfl (?_ : hp_G _ _ _ _ _ _ _ _ _ 64 _ _ _)
      refine hp_aload_n 0 dX4_playShy_64 rfl rfl (?_ : hp_G _ _ _ _ _ _ _ _ _ 65 _ _ _)
      replace hf := ob_ hf
      obtain ⟨x21, ex21, hf⟩ := hf
      refine fgX4_12 rfl dX4_playShy_65 ex21 (?_ : hp_G _ _ _ _ _ _ _ _ _ 68 _ _ _)
      replace hf := ob_ hf
      obtain ⟨x22, ex22, hf⟩ := hf
      refine fgX4_56 rfl dX4_playShy_68 ex22 (?_ : hp_G _ _ _ _ _ _ _ _ _ 71 _ _ _)
      refine hp_iload_n 2 dX4_playShy_71 rfl rfl (?_ : hp_G _ _ _ _ _ _ _ _ _ 72 _ _ _)
      replace hf := ob_ hf
      obtain ⟨x23, ex23, hf⟩ := hf
      refine hp_aaload dX4_playShy_72 ex23 (?_ : hp_G _ _ _ _ _ _ _ _ _ 73 _ _ _)
      replace hf := ob_ hf
      obtain ⟨o24, eo24, hf⟩ := hf
      replace hf := ob_ hf
      obtain ⟨r25, er25, hf⟩ := hf
      refine clX4_82 (as := []) (st := [.int r20, .int p2, .int p1, .ref x15]) rfl (kX2_worst l er25) rfl (by decide) (Nat.le_of_ble_eq_true rfl) eo24 dX4_playShy_73 rfl (?_ : hp_G _ _ _ _ _ _ _ _ _ 76 _ _ _)
      replace hf := ob_ hf
      obtain ⟨o26, eo26, hf⟩ := hf
      replace hf := ob_ hf
      obtain ⟨r27, er27, hf⟩ := hf
      refine clX4_86 (as := [.int p1, .int p2, .int r20, .int r25]) (st := []) rfl (kX7_winnerLeaves l er27) rfl (by decide) (Nat.le_of_ble_eq_true rfl) eo26 dX4_playShy_76 rfl (?_ : hp_G _ _ _ _ _ _ _ _ _ 79 _ _ _)
      refine hp_istore_n (lv' := [(3, .int r27.1), (0, .ref a0), (1, .int p1), (2, .int p2)]) dX4_playShy_79 rfl (Nat.le_of_ble_eq_true rfl) rfl (?_ : hp_G _ _ _ _ _ _ _ _ _ 80 _ _ _)
      refine hp_iload_n 0 dX4_playShy_80 rfl rfl (?_ : hp_G _ _ _ _ _ _ _ _ _ 81 _ _ _)
      refine hp_bipush (v := (-9)) dX4_playShy_81 bi_m9 (?_ : hp_G _ _ _ _ _ _ _ _ _ 83 _ _ _)
      refine hp_icmp_ne (tgt := 99) dX4_playShy_83 rfl (fun c28 => ?_) (fun c28 => (?_ : hp_G _ _ _ _ _ _ _ _ _ 86 _ _ _))
      · replace hf := of_ c28 hf
        refine hp_aload_n 1 dX4_playShy_99 rfl rfl (?_ : hp_G _ _ _ _ _ _ _ _ _ 100 _ _ _)
        refine hp_iload_n 0 dX4_playShy_100 rfl rfl (?_ : hp_G _ _ _ _ _ _ _ _ _ 101 _ _ _)
        replace hf := ob_ hf
        obtain ⟨h29, eh29, hf⟩ := hf
        refine fpX4_36 rfl dX4_playShy_101 eh29 (?_ : hp_G _ _ _ _ _ _ _ _ _ 104 _ _ _)
        refine hp_iconst (v := 1) dX4_playShy_104 ic_1 (?_ : hp_G _ _ _ _ _ _ _ _ _ 105 _ _ _)
        obtain rfl := Option.some.inj hf
        exact hp_zret kr (fun z => z) rfl (by decide) dX4_playShy_105
      · replace hf := ot_ c28 hf
        refine hp_aload_n 1 dX4_playShy_86 rfl rfl (?_ : hp_G _ _ _ _ _ _ _ _ _ 87 _ _ _)
        refine hp_dup dX4_playShy_87 rfl (?_ : hp_G _ _ _ _ _ _ _ _ _ 88 _ _ _)
        replace hf := ob_ hf
        obtain ⟨x30, ex30, hf⟩ := hf
        refine fgX4_32 rfl dX4_playShy_88 ex30 (?_ : hp_G _ _ _ _ _ _ _ _ _ 91 _ _ _)
        refine hp_iconst (v := 1) dX4_playShy_91 ic_1 (?_ : hp_G _ _ _ _ _ _ _ _ _ 92 _ _ _)
        refine hp_iadd dX4_playShy_92 (?_ : hp_G _ _ _ _ _ _ _ _ _ 93 _ _ _)
        replace hf := ob_ hf
        obtain ⟨h31, eh31, hf⟩ := hf
        refine fpX4_32 rfl dX4_playShy_93 eh31 (?_ : hp_G _ _ _ _ _ _ _ _ _ 96 _ _ _)
        refine hp_goto (tgt := 104) dX4_playShy_96 rfl (?_ : hp_G _ _ _ _ _ _ _ _ _ 104 _ _ _)
        refine hp_iconst (v := 1) dX4_playShy_104 ic_1 (?_ : hp_G _ _ _ _ _ _ _ _ _ 105 _ _ _)
        obtain rfl := Option.some.inj hf
        exact hp_zret kr (fun z => z) rfl (by decide) dX4_playShy_105
    · replace hf := ot_ c8 hf
      refine hp_iconst (v := 0) dX4_playShy_24 ic_0 (?_ : hp_G _ _ _ _ _ _ _ _ _ 25 _ _ _)
      obtain rfl := Option.some.inj hf
      exact hp_zret kr (fun z => z) rfl (by decide) dX4_playShy_25
theorem kX4_playShy (l : Launch) {h : hp_H} {a0 : Nat} {p1 : Int32} {p2 : Int32} {r : (Int32 × hp_H)} (hf : fX4_playShy h a0 p1 p2 = some r) : hp_Cn l yX4_playShy mX4_playShy 2 false 0 0 [.ref a0, .int p1, .int p2] h (fun v h2 => some (.int r.1) = v ∧ r.2 = h2) :=
  hp_of (by decide) rfl (fun z => by cases z) (Nat.le_of_ble_eq_true rfl) (tX4_playShy l hf ⟨rfl, rfl⟩)
noncomputable def fX4_goesOn (h : hp_H) (a0 : Nat) (p1 : Int32) (p2 : Int32) : Option (Int32 × hp_H) :=
(gq_ h a0 4 0).bind fun x1 =>
(hg_o h x1 6).bind fun o2 =>
(fX7_has h x1 p1).bind fun r3 =>
if r3 = 0 then
(some (0, h))
else
(if p2 < 20 then
(if p2 = 10 then
((gq_ h a0 4 0).bind fun x10 =>
(gq_ h x10 6 0).bind fun x11 =>
(ql_ h x11 p1).bind fun x12 =>
(fX4_comesBack h x12).bind fun r13 =>
(bz_ r13.1).bind fun z14 =>
some (z14, r13.2))
else
((hg_o h a0 4).bind fun o7 =>
(fX4_playShy h a0 p1 p2).bind fun r8 =>
(bz_ r8.1).bind fun z9 =>
some (z9, r8.2)))
else
((gq_ h a0 4 0).bind fun x15 =>
(gq_ h x15 6 0).bind fun x16 =>
(ql_ h x16 p1).bind fun x17 =>
(pi_ h x17 2 2 (p2 - 20)).bind fun h18 =>
some (1, h18)))
set_option maxRecDepth 20000 in
set_option maxHeartbeats 4000000 in
theorem tX4_goesOn (l : Launch) {h : hp_H} {a0 : Nat} {p1 : Int32} {p2 : Int32} {r : (Int32 × hp_H)} (hf : fX4_goesOn h a0 p1 p2 = some r) {Q : Option Value → hp_H → Prop} (kr : Q (some (.int r.1)) r.2) : hp_G l mX4_goesOn none 3 false Q false 0 0 0 [(0, .ref a0), (1, .int p1), (2, .int p2)] [] h := by
  unfold fX4_goesOn at hf
  refine hp_aload_n 0 dX4_goesOn_0 rfl rfl (?_ : hp_G _ _ _ _ _ _ _ _ _ 1 _ _ _)
  replace hf := ob_ hf
  obtain ⟨x1, ex1, hf⟩ := hf
  refine fgX4_12 rfl dX4_goesOn_1 ex1 (?_ : hp_G _ _ _ _ _ _ _ _ _ 4 _ _ _)
  refine hp_iload_n 1 dX4_goesOn_4 rfl rfl (?_ : hp_G _ _ _ _ _ _ _ _ _ 5 _ _ _)
  replace hf := ob_ hf
  obtain ⟨o2, eo2, hf⟩ := hf
  replace hf := ob_ hf
  obtain ⟨r3, er3, hf⟩ := hf
  refine clX4_52 (as := [.int p1]) (st := []) rfl (kX7_has l er3) rfl (by decide) (Nat.le_of_ble_eq_true rfl) eo2 dX4_goesOn_5 rfl (?_ : hp_G _ _ _ _ _ _ _ _ _ 8 _ _ _)
  refine hp_if_ne (tgt := 13) dX4_goesOn_8 rfl (fun c4 => ?_) (fun c4 => (?_ : hp_G _ _ _ _ _ _ _ _ _ 11 _ _ _))
  · replace hf := of_ c4 hf
    refine hp_iload_n 2 dX4_goesOn_13 rfl rfl (?_ : hp_G _ _ _ _ _ _ _ _ _ 14 _ _ _)
    refine hp_bipush (v := 20) dX4_goesOn_14 bi_20 (?_ : hp_G _ _ _ _ _ _ _ _ _ 16 _ _ _)
    refine hp_icmp_lt (tgt := 37) dX4_goesOn_16 rfl (fun c5 => ?_) (fun c5 => (?_ : hp_G _ _ _ _ _ _ _ _ _ 19 _ _ _))
    · replace hf := ot_ c5 hf
      refine hp_iload_n 2 dX4_goesOn_37 rfl rfl (?_ : hp_G _ _ _ _ _ _ _ _ _ 38 _ _ _)
      refine hp_bipush (v := 10) dX4_goesOn_38 bi_10 (?_ : hp_G _ _ _ _ _ _ _ _ _ 40 _ _ _)
      refine hp_icmp_ne (tgt := 58) dX4_goesOn_40 rfl (fun c6 => ?_) (fun c6 => (?_ : hp_G _ _ _ _ _ _ _ _ _ 43 _ _ _))
      · replace hf := of_ c6 hf
        refine hp_aload_n 0 dX4_goesOn_58 rfl rfl (?_ : hp_G _ _ _ _ _ _ _ _ _ 59 _ _ _)
        refine hp_iload_n 1 dX4_goesOn_59 rfl rfl (?_ : hp_G _ _ _ _ _ _ _ _ _ 60 _ _ _)
        refine hp_iload_n 2 dX4_goesOn_60 rfl rfl (?_ : hp_G _ _ _ _ _ _ _ _ _ 61 _ _ _)
        replace hf := ob_ hf
        obtain ⟨o7, eo7, hf⟩ := hf
        replace hf := ob_ hf
        obtain ⟨r8, er8, hf⟩ := hf
        refine clX4_69 (as := [.int p1, .int p2]) (st := []) rfl (kX4_playShy l er8) rfl (by decide) (Nat.le_of_ble_eq_true rfl) eo7 dX4_goesOn_61 rfl (?_ : hp_G _ _ _ _ _ _ _ _ _ 64 _ _ _)
        replace hf := ob_ hf
        obtain ⟨z9, ez9, hf⟩ := hf
        obtain ⟨rfl, bz9⟩ := bz_inv ez9
        obtain rfl := Option.some.inj hf
        exact hp_zret kr (fun z => z) rfl bz9 dX4_goesOn_64
      · replace hf := ot_ c6 hf
        refine hp_aload_n 0 dX4_goesOn_43 rfl rfl (?_ : hp_G _ _ _ _ _ _ _ _ _ 44 _ _ _)
        replace hf := ob_ hf
        obtain ⟨x10, ex10, hf⟩ := hf
        refine fgX4_12 rfl dX4_goesOn_44 ex10 (?_ : hp_G _ _ _ _ _ _ _ _ _ 47 _ _ _)
        replace hf := ob_ hf
        obtain ⟨x11, ex11, hf⟩ := hf
        refine fgX4_56 rfl dX4_goesOn_47 ex11 (?_ : hp_G _ _ _ _ _ _ _ _ _ 50 _ _ _)
        refine hp_iload_n 1 dX4_goesOn_50 rfl rfl (?_ : hp_G _ _ _ _ _ _ _ _ _ 51 _ _ _)
        replace hf := ob_ hf
        obtain ⟨x12, ex12, hf⟩ := hf
        refine hp_aaload dX4_goesOn_51 ex12 (?_ : hp_G _ _ _ _ _ _ _ _ _ 52 _ _ _)
        replace hf := ob_ hf
        obtain ⟨r13, er13, hf⟩ := hf
        refine clX4_65 (as := [.ref x12]) (st := []) rfl (kX4_comesBack l er13) rfl (by decide) (Nat.le_of_ble_eq_true rfl) dX4_goesOn_52 rfl (?_ : hp_G _ _ _ _ _ _ _ _ _ 55 _ _ _)
        refine hp_goto (tgt := 64) dX4_goesOn_55 rfl (?_ : hp_G _ _ _ _ _ _ _ _ _ 64 _ _ _)
        replace hf := ob_ hf
        obtain ⟨z14, ez14, hf⟩ := hf
        obtain ⟨rfl, bz14⟩ := bz_inv ez14
        obtain rfl := Option.some.inj hf
        exact hp_zret kr (fun z => z) rfl bz14 dX4_goesOn_64
    · replace hf := of_ c5 hf
      refine hp_aload_n 0 dX4_goesOn_19 rfl rfl (?_ : hp_G _ _ _ _ _ _ _ _ _ 20 _ _ _)
      replace hf := ob_ hf
      obtain ⟨x15, ex15, hf⟩ := hf
      refine fgX4_12 rfl dX4_goesOn_20 ex15 (?_ : hp_G _ _ _ _ _ _ _ _ _ 23 _ _ _)
      replace hf := ob_ hf
      obtain ⟨x16, ex16, hf⟩ := hf
      refine fgX4_56 rfl dX4_goesOn_23 ex16 (?_ : hp_G _ _ _ _ _ _ _ _ _ 26 _ _ _)
      refine hp_iload_n 1 dX4_goesOn_26 rfl rfl (?_ : hp_G _ _ _ _ _ _ _ _ _ 27 _ _ _)
      replace hf := ob_ hf
      obtain ⟨x17, ex17, hf⟩ := hf
      refine hp_aaload dX4_goesOn_27 ex17 (?_ : hp_G _ _ _ _ _ _ _ _ _ 28 _ _ _)
      refine hp_iload_n 2 dX4_goesOn_28 rfl rfl (?_ : hp_G _ _ _ _ _ _ _ _ _ 29 _ _ _)
      refine hp_bipush (v := 20) dX4_goesOn_29 bi_20 (?_ : hp_G _ _ _ _ _ _ _ _ _ 31 _ _ _)
      refine hp_isub dX4_goesOn_31 (?_ : hp_G _ _ _ _ _ _ _ _ _ 32 _ _ _)
      replace hf := ob_ hf
      obtain ⟨h18, eh18, hf⟩ := hf
      refine fpX4_60 rfl dX4_goesOn_32 eh18 (?_ : hp_G _ _ _ _ _ _ _ _ _ 35 _ _ _)
      refine hp_iconst (v := 1) dX4_goesOn_35 ic_1 (?_ : hp_G _ _ _ _ _ _ _ _ _ 36 _ _ _)
      obtain rfl := Option.some.inj hf
      exact hp_zret kr (fun z => z) rfl (by decide) dX4_goesOn_36
  · replace hf := ot_ c4 hf
    refine hp_iconst (v := 0) dX4_goesOn_11 ic_0 (?_ : hp_G _ _ _ _ _ _ _ _ _ 12 _ _ _)
    obtain rfl := Option.some.inj hf
    exact hp_zret kr (fun z => z) rfl (by decide) dX4_goesOn_12
theorem kX4_goesOn (l : Launch) {h : hp_H} {a0 : Nat} {p1 : Int32} {p2 : Int32} {r : (Int32 × hp_H)} (hf : fX4_goesOn h a0 p1 p2 = some r) : hp_Cn l yX4_goesOn mX4_goesOn 3 false 0 0 [.ref a0, .int p1, .int p2] h (fun v h2 => some (.int r.1) = v ∧ r.2 = h2) :=
  hp_of (by decide) rfl (fun z => by cases z) (Nat.le_of_ble_eq_true rfl) (tX4_goesOn l hf ⟨rfl, rfl⟩)
noncomputable def jX4_run_87_36 (g : hp_H) (v0 : Nat) (v2 : Nat) (v3 : Int32) (v4 : Int32) (u5 : Int32)  : Option ((Int32 × hp_H) ⊕ hp_H) :=
(some (u5 + 1)).bind fun x19 =>
some (.inl (x19, g))
set_option maxRecDepth 20000 in
set_option maxHeartbeats 4000000 in
theorem tjX4_run_87_36 (l : Launch) {g : hp_H} {v0 : Nat} {v2 : Nat} {v3 : Int32} {v4 : Int32} {u5 : Int32}  {r : ((Int32 × hp_H) ⊕ hp_H)} (hf : jX4_run_87_36 g v0 v2 v3 v4 u5 = some r) {Q : Option Value → hp_H → Prop} (kb : ∀ t, r = .inl t → hp_G l mX4_run none 4 false Q false 0 0 36 [(0, .ref v0), (2, .ref v2), (3, .int v3), (4, .int v4), (5, .int t.1)] [] t.2) (ke : ∀ x, r = .inr x → hp_G l mX4_run none 4 false Q false 0 0 93 [] [] x) : hp_G l mX4_run none 4 false Q false 0 0 87 [(0, .ref v0), (2, .ref v2), (3, .int v3), (4, .int v4), (5, .int u5)] [] g := by
  unfold jX4_run_87_36 at hf
  replace hf := ob_ hf
  obtain ⟨x19, ex19, hf⟩ := hf
  refine hp_iinc (v := x19) (lv' := [(5, .int x19), (0, .ref v0), (2, .ref v2), (3, .int v3), (4, .int v4)]) 4 dX4_run_87 rfl (hp_inc ic_1 ex19) (Nat.le_of_ble_eq_true rfl) rfl (?_ : hp_G _ _ _ _ _ _ _ _ _ 90 _ _ _)
  refine hp_goto (tgt := 36) dX4_run_90 rfl (?_ : hp_G _ _ _ _ _ _ _ _ _ 36 _ _ _)
  obtain rfl := Option.some.inj hf
  exact hp_sub [1, 2, 3, 4, 0] rfl (kb _ rfl)
noncomputable def bX4_run_36 (v0 : Nat) (v2 : Nat) (v3 : Int32) (v4 : Int32) (s : (Int32 × hp_H)) : Option ((Int32 × hp_H) ⊕ hp_H) :=
if v4 ≤ s.1 then
(some (.inr s.2))
else
((gi_ s.2 v0 4 4).bind fun x10 =>
if x10 = (-9) then
((hg_o s.2 v2 5).bind fun o12 =>
(fX5_read s.2 v2 (v3 + (2 * s.1))).bind fun r13 =>
(hg_o s.2 v2 5).bind fun o14 =>
(fX5_read s.2 v2 ((v3 + (2 * s.1)) + 1)).bind fun r15 =>
(hg_o s.2 v0 4).bind fun o16 =>
(fX4_goesOn s.2 v0 r13 r15).bind fun r17 =>
if r17.1 = 0 then
((pi_ r17.2 v0 4 4 s.1).bind fun h20 =>
jX4_run_87_36 h20 v0 v2 v3 v4 s.1)
else
(jX4_run_87_36 r17.2 v0 v2 v3 v4 s.1))
else
(some (.inr s.2)))
set_option maxRecDepth 20000 in
set_option maxHeartbeats 4000000 in
theorem tbX4_run_36 (l : Launch) {v0 : Nat} {v2 : Nat} {v3 : Int32} {v4 : Int32}  {s : (Int32 × hp_H)} {r : ((Int32 × hp_H) ⊕ hp_H)} (hf : bX4_run_36  v0 v2 v3 v4 s = some r) {Q : Option Value → hp_H → Prop} (kb : ∀ t, r = .inl t → hp_G l mX4_run none 4 false Q false 0 0 36 [(0, .ref v0), (2, .ref v2), (3, .int v3), (4, .int v4), (5, .int t.1)] [] t.2) (ke : ∀ x, r = .inr x → hp_G l mX4_run none 4 false Q false 0 0 93 [] [] x) : hp_G l mX4_run none 4 false Q false 0 0 36 [(0, .ref v0), (2, .ref v2), (3, .int v3), (4, .int v4), (5, .int s.1)] [] s.2 := by
  unfold bX4_run_36 at hf
  refine hp_iload 4 dX4_run_36 rfl (?_ : hp_G _ _ _ _ _ _ _ _ _ 38 _ _ _)
  refine hp_iload 3 dX4_run_38 rfl (?_ : hp_G _ _ _ _ _ _ _ _ _ 40 _ _ _)
  refine hp_icmp_ge (tgt := 93) dX4_run_40 rfl (fun c9 => ?_) (fun c9 => (?_ : hp_G _ _ _ _ _ _ _ _ _ 43 _ _ _))
  · replace hf := ot_ c9 hf
    obtain rfl := Option.some.inj hf
    exact hp_sub [] rfl (ke _ rfl)
  · replace hf := of_ c9 hf
    refine hp_aload_n 0 dX4_run_43 rfl rfl (?_ : hp_G _ _ _ _ _ _ _ _ _ 44 _ _ _)
    replace hf := ob_ hf
    obtain ⟨x10, ex10, hf⟩ := hf
    refine fgX4_39 rfl dX4_run_44 ex10 (?_ : hp_G _ _ _ _ _ _ _ _ _ 47 _ _ _)
    refine hp_bipush (v := (-9)) dX4_run_47 bi_m9 (?_ : hp_G _ _ _ _ _ _ _ _ _ 49 _ _ _)
    refine hp_icmp_ne (tgt := 93) dX4_run_49 rfl (fun c11 => ?_) (fun c11 => (?_ : hp_G _ _ _ _ _ _ _ _ _ 52 _ _ _))
    · replace hf := of_ c11 hf
      obtain rfl := Option.some.inj hf
      exact hp_sub [] rfl (ke _ rfl)
    · replace hf := ot_ c11 hf
      refine hp_aload_n 0 dX4_run_52 rfl rfl (?_ : hp_G _ _ _ _ _ _ _ _ _ 53 _ _ _)
      refine hp_aload_n 1 dX4_run_53 rfl rfl (?_ : hp_G _ _ _ _ _ _ _ _ _ 54 _ _ _)
      refine hp_iload_n 2 dX4_run_54 rfl rfl (?_ : hp_G _ _ _ _ _ _ _ _ _ 55 _ _ _)
      refine hp_iconst (v := 2) dX4_run_55 ic_2 (?_ : hp_G _ _ _ _ _ _ _ _ _ 56 _ _ _)
      refine hp_iload 4 dX4_run_56 rfl (?_ : hp_G _ _ _ _ _ _ _ _ _ 58 _ _ _)
      refine hp_imul dX4_run_58 (?_ : hp_G _ _ _ _ _ _ _ _ _ 59 _ _ _)
      refine hp_iadd dX4_run_59 (?_ : hp_G _ _ _ _ _ _ _ _ _ 60 _ _ _)
      replace hf := ob_ hf
      obtain ⟨o12, eo12, hf⟩ := hf
      replace hf := ob_ hf
      obtain ⟨r13, er13, hf⟩ := hf
      refine clX4_42 (as := [.int (v3 + (2 * s.1))]) (st := [.ref v0]) rfl (kX5_read l er13) rfl (by decide) (Nat.le_of_ble_eq_true rfl) eo12 dX4_run_60 rfl (?_ : hp_G _ _ _ _ _ _ _ _ _ 63 _ _ _)
      refine hp_aload_n 1 dX4_run_63 rfl rfl (?_ : hp_G _ _ _ _ _ _ _ _ _ 64 _ _ _)
      refine hp_iload_n 2 dX4_run_64 rfl rfl (?_ : hp_G _ _ _ _ _ _ _ _ _ 65 _ _ _)
      refine hp_iconst (v := 2) dX4_run_65 ic_2 (?_ : hp_G _ _ _ _ _ _ _ _ _ 66 _ _ _)
      refine hp_iload 4 dX4_run_66 rfl (?_ : hp_G _ _ _ _ _ _ _ _ _ 68 _ _ _)
      refine hp_imul dX4_run_68 (?_ : hp_G _ _ _ _ _ _ _ _ _ 69 _ _ _)
      refine hp_iadd dX4_run_69 (?_ : hp_G _ _ _ _ _ _ _ _ _ 70 _ _ _)
      refine hp_iconst (v := 1) dX4_run_70 ic_1 (?_ : hp_G _ _ _ _ _ _ _ _ _ 71 _ _ _)
      refine hp_iadd dX4_run_71 (?_ : hp_G _ _ _ _ _ _ _ _ _ 72 _ _ _)
      replace hf := ob_ hf
      obtain ⟨o14, eo14, hf⟩ := hf
      replace hf := ob_ hf
      obtain ⟨r15, er15, hf⟩ := hf
      refine clX4_42 (as := [.int ((v3 + (2 * s.1)) + 1)]) (st := [.int r13, .ref v0]) rfl (kX5_read l er15) rfl (by decide) (Nat.le_of_ble_eq_true rfl) eo14 dX4_run_72 rfl (?_ : hp_G _ _ _ _ _ _ _ _ _ 75 _ _ _)
      replace hf := ob_ hf
      obtain ⟨o16, eo16, hf⟩ := hf
      replace hf := ob_ hf
      obtain ⟨r17, er17, hf⟩ := hf
      refine clX4_48 (as := [.int r13, .int r15]) (st := []) rfl (kX4_goesOn l er17) rfl (by decide) (Nat.le_of_ble_eq_true rfl) eo16 dX4_run_75 rfl (?_ : hp_G _ _ _ _ _ _ _ _ _ 78 _ _ _)
      refine hp_if_ne (tgt := 87) dX4_run_78 rfl (fun c18 => ?_) (fun c18 => (?_ : hp_G _ _ _ _ _ _ _ _ _ 81 _ _ _))
      · replace hf := of_ c18 hf
        exact hp_sub [0, 1, 2, 3, 4] rfl (tjX4_run_87_36 l hf kb ke)
      · replace hf := ot_ c18 hf
        refine hp_aload_n 0 dX4_run_81 rfl rfl (?_ : hp_G _ _ _ _ _ _ _ _ _ 82 _ _ _)
        refine hp_iload 4 dX4_run_82 rfl (?_ : hp_G _ _ _ _ _ _ _ _ _ 84 _ _ _)
        replace hf := ob_ hf
        obtain ⟨h20, eh20, hf⟩ := hf
        refine fpX4_39 rfl dX4_run_84 eh20 (?_ : hp_G _ _ _ _ _ _ _ _ _ 87 _ _ _)
        exact hp_sub [0, 1, 2, 3, 4] rfl (tjX4_run_87_36 l hf kb ke)
set_option maxRecDepth 20000 in
set_option maxHeartbeats 4000000 in
theorem tlX4_run_36 (l : Launch) {v0 : Nat} {v2 : Nat} {v3 : Int32} {v4 : Int32}  (q : Nat) {s : (Int32 × hp_H)} {x : hp_H} (hf : it_ (bX4_run_36  v0 v2 v3 v4) q s = some x) {Q : Option Value → hp_H → Prop} (ke : ∀ e, x = e → hp_G l mX4_run none 4 false Q false 0 0 93 [] [] e) : hp_G l mX4_run none 4 false Q false 0 0 36 [(0, .ref v0), (2, .ref v2), (3, .int v3), (4, .int v4), (5, .int s.1)] [] s.2 := by
  exact it_rule (f := bX4_run_36  v0 v2 v3 v4) (fun s => hp_G l mX4_run none 4 false Q false 0 0 36 [(0, .ref v0), (2, .ref v2), (3, .int v3), (4, .int v4), (5, .int s.1)] [] s.2) (fun x => (∀ e, x = e → hp_G l mX4_run none 4 false Q false 0 0 93 [] [] e)) (fun s r h1 h2 h3 => tbX4_run_36 l h1 (fun t e => h2 t e) (fun e he => h3 _ he _ rfl)) q s x hf ke
noncomputable def fX4_run (h : hp_H) (a0 : Nat) (a1 : Nat) (a2 : Nat) (p3 : Int32) (p4 : Int32) : Option hp_H :=
(gq_ h a0 4 0).bind fun x1 =>
(hg_o h x1 6).bind fun o2 =>
(fX7_becomeLike h x1 a1).bind fun r3 =>
(gq_ r3 a0 4 1).bind fun x4 =>
(fJ7_fill_53178 r3 x4 0).bind fun r5 =>
(pi_ r5 a0 4 2 0).bind fun h6 =>
(pi_ h6 a0 4 3 (-9)).bind fun h7 =>
(pi_ h7 a0 4 4 (-9)).bind fun h8 =>
(it_ (bX4_run_36  a0 a2 p3 p4) fu_ (0, h8)).bind fun x21 =>
some x21
set_option maxRecDepth 20000 in
set_option maxHeartbeats 4000000 in
theorem tX4_run (l : Launch) {h : hp_H} {a0 : Nat} {a1 : Nat} {a2 : Nat} {p3 : Int32} {p4 : Int32} {r : hp_H} (hf : fX4_run h a0 a1 a2 p3 p4 = some r) {Q : Option Value → hp_H → Prop} (kr : Q (none) r) : hp_G l mX4_run none 4 false Q false 0 0 0 [(0, .ref a0), (1, .ref a1), (2, .ref a2), (3, .int p3), (4, .int p4)] [] h := by
  unfold fX4_run at hf
  refine hp_aload_n 0 dX4_run_0 rfl rfl (?_ : hp_G _ _ _ _ _ _ _ _ _ 1 _ _ _)
  replace hf := ob_ hf
  obtain ⟨x1, ex1, hf⟩ := hf
  refine fgX4_12 rfl dX4_run_1 ex1 (?_ : hp_G _ _ _ _ _ _ _ _ _ 4 _ _ _)
  refine hp_aload_n 1 dX4_run_4 rfl rfl (?_ : hp_G _ _ _ _ _ _ _ _ _ 5 _ _ _)
  replace hf := ob_ hf
  obtain ⟨o2, eo2, hf⟩ := hf
  replace hf := ob_ hf
  obtain ⟨r3, er3, hf⟩ := hf
  refine clX4_22 (as := [.ref a1]) (st := []) rfl (kX7_becomeLike l er3) rfl (by decide) (Nat.le_of_ble_eq_true rfl) eo2 dX4_run_5 rfl (?_ : hp_G _ _ _ _ _ _ _ _ _ 8 _ _ _)
  refine hp_aload_n 0 dX4_run_8 rfl rfl (?_ : hp_G _ _ _ _ _ _ _ _ _ 9 _ _ _)
  replace hf := ob_ hf
  obtain ⟨x4, ex4, hf⟩ := hf
  refine fgX4_18 rfl dX4_run_9 ex4 (?_ : hp_G _ _ _ _ _ _ _ _ _ 12 _ _ _)
  refine hp_iconst (v := 0) dX4_run_12 ic_0 (?_ : hp_G _ _ _ _ _ _ _ _ _ 13 _ _ _)
  replace hf := ob_ hf
  obtain ⟨r5, er5, hf⟩ := hf
  refine clX4_26 (as := [.ref x4, .int 0]) (st := []) rfl (kJ7_fill_53178 l er5) rfl (by decide) (Nat.le_of_ble_eq_true rfl) dX4_run_13 rfl (?_ : hp_G _ _ _ _ _ _ _ _ _ 16 _ _ _)
  refine hp_aload_n 0 dX4_run_16 rfl rfl (?_ : hp_G _ _ _ _ _ _ _ _ _ 17 _ _ _)
  refine hp_iconst (v := 0) dX4_run_17 ic_0 (?_ : hp_G _ _ _ _ _ _ _ _ _ 18 _ _ _)
  replace hf := ob_ hf
  obtain ⟨h6, eh6, hf⟩ := hf
  refine fpX4_32 rfl dX4_run_18 eh6 (?_ : hp_G _ _ _ _ _ _ _ _ _ 21 _ _ _)
  refine hp_aload_n 0 dX4_run_21 rfl rfl (?_ : hp_G _ _ _ _ _ _ _ _ _ 22 _ _ _)
  refine hp_bipush (v := (-9)) dX4_run_22 bi_m9 (?_ : hp_G _ _ _ _ _ _ _ _ _ 24 _ _ _)
  replace hf := ob_ hf
  obtain ⟨h7, eh7, hf⟩ := hf
  refine fpX4_36 rfl dX4_run_24 eh7 (?_ : hp_G _ _ _ _ _ _ _ _ _ 27 _ _ _)
  refine hp_aload_n 0 dX4_run_27 rfl rfl (?_ : hp_G _ _ _ _ _ _ _ _ _ 28 _ _ _)
  refine hp_bipush (v := (-9)) dX4_run_28 bi_m9 (?_ : hp_G _ _ _ _ _ _ _ _ _ 30 _ _ _)
  replace hf := ob_ hf
  obtain ⟨h8, eh8, hf⟩ := hf
  refine fpX4_39 rfl dX4_run_30 eh8 (?_ : hp_G _ _ _ _ _ _ _ _ _ 33 _ _ _)
  refine hp_iconst (v := 0) dX4_run_33 ic_0 (?_ : hp_G _ _ _ _ _ _ _ _ _ 34 _ _ _)
  refine hp_istore (lv' := [(5, .int 0), (0, .ref a0), (1, .ref a1), (2, .ref a2), (3, .int p3), (4, .int p4)]) dX4_run_34 (Nat.le_of_ble_eq_true rfl) rfl (?_ : hp_G _ _ _ _ _ _ _ _ _ 36 _ _ _)
  replace hf := ob_ hf
  obtain ⟨x21, ex21, hf⟩ := hf
  refine hp_sub [1, 3, 4, 5, 0] rfl ?_
  refine tlX4_run_36 l fu_ ex21 (fun y hy => ?_)
  obtain rfl := hy
  obtain rfl := Option.some.inj hf
  exact hp_vret kr (fun z => z) rfl dX4_run_93
theorem kX4_run (l : Launch) {h : hp_H} {a0 : Nat} {a1 : Nat} {a2 : Nat} {p3 : Int32} {p4 : Int32} {r : hp_H} (hf : fX4_run h a0 a1 a2 p3 p4 = some r) : hp_Cn l yX4_run mX4_run 4 false 0 0 [.ref a0, .ref a1, .ref a2, .int p3, .int p4] h (fun v h2 => none = v ∧ r = h2) :=
  hp_of (by decide) rfl (fun z => by cases z) (Nat.le_of_ble_eq_true rfl) (tX4_run l hf ⟨rfl, rfl⟩)
