noncomputable def fX8_cell (h : hp_H) (a0 : Nat) (p1 : Int32) (p2 : Int32) (p3 : Int32) : Option (Int64 × hp_H) :=
(pi_ h a0 7 8 0).bind fun h1 =>
(fX8_isSheet h1 p1).bind fun r2 =>
if r2 = 0 then
(some ((-9223372036854775808), h1))
else
((fX8_isLane h1 p3).bind fun r4 =>
if r4 = 0 then
(some ((-9223372036854775808), h1))
else
((gq_ h1 a0 7 1).bind fun x6 =>
(ql_ h1 x6 p1).bind fun x7 =>
(hg_o h1 x7 5).bind fun o8 =>
(fX5_faultOfRow h1 x7 p3 p2 1).bind fun r9 =>
(pi_ h1 a0 7 8 r9).bind fun h10 =>
(gi_ h10 a0 7 8).bind fun x11 =>
if x11 = 0 then
((gq_ h10 a0 7 1).bind fun x13 =>
(ql_ h10 x13 p1).bind fun x14 =>
(hg_o h10 x14 5).bind fun o15 =>
(fX5_read h10 x14 p2).bind fun r16 =>
some (Int32.toInt64 r16, h10))
else
(some ((-9223372036854775808), h10))))
set_option maxRecDepth 20000 in
set_option maxHeartbeats 4000000 in
theorem tX8_cell (l : Launch) {h : hp_H} {a0 : Nat} {p1 : Int32} {p2 : Int32} {p3 : Int32} {r : (Int64 × hp_H)} (hf : fX8_cell h a0 p1 p2 p3 = some r) {Q : Option Value → hp_H → Prop} (kr : Q (some (.long r.1)) r.2) : hp_G l mX8_cell none 2 false Q false 0 0 0 [(0, .ref a0), (1, .int p1), (2, .int p2), (3, .int p3)] [] h := by
  unfold fX8_cell at hf
  refine hp_aload_n 0 dX8_cell_0 rfl rfl (?_ : hp_G _ _ _ _ _ _ _ _ _ 1 _ _ _)
  refine hp_iconst (v := 0) dX8_cell_1 ic_0 (?_ : hp_G _ _ _ _ _ _ _ _ _ 2 _ _ _)
  replace hf := ob_ hf
  obtain ⟨h1, eh1, hf⟩ := hf
  refine fpX8_53 rfl dX8_cell_2 eh1 (?_ : hp_G _ _ _ _ _ _ _ _ _ 5 _ _ _)
  refine hp_iload_n 1 dX8_cell_5 rfl rfl (?_ : hp_G _ _ _ _ _ _ _ _ _ 6 _ _ _)
  replace hf := ob_ hf
  obtain ⟨r2, er2, hf⟩ := hf
  refine clX8_57 (as := [.int p1]) (st := []) rfl (kX8_isSheet l er2) rfl (by decide) (Nat.le_of_ble_eq_true rfl) dX8_cell_6 rfl (?_ : hp_G _ _ _ _ _ _ _ _ _ 9 _ _ _)
  refine hp_if_eq (tgt := 19) dX8_cell_9 rfl (fun c3 => ?_) (fun c3 => (?_ : hp_G _ _ _ _ _ _ _ _ _ 12 _ _ _))
  · replace hf := ot_ c3 hf
    refine hp_ldc2 (v := (-9223372036854775808)) wd_590 dX8_cell_19 (?_ : hp_G _ _ _ _ _ _ _ _ _ 22 _ _ _)
    obtain rfl := Option.some.inj hf
    exact hp_lret kr (fun z => z) rfl dX8_cell_22
  · replace hf := of_ c3 hf
    refine hp_iload_n 3 dX8_cell_12 rfl rfl (?_ : hp_G _ _ _ _ _ _ _ _ _ 13 _ _ _)
    replace hf := ob_ hf
    obtain ⟨r4, er4, hf⟩ := hf
    refine clX8_61 (as := [.int p3]) (st := []) rfl (kX8_isLane l er4) rfl (by decide) (Nat.le_of_ble_eq_true rfl) dX8_cell_13 rfl (?_ : hp_G _ _ _ _ _ _ _ _ _ 16 _ _ _)
    refine hp_if_ne (tgt := 23) dX8_cell_16 rfl (fun c5 => ?_) (fun c5 => (?_ : hp_G _ _ _ _ _ _ _ _ _ 19 _ _ _))
    · replace hf := of_ c5 hf
      refine hp_aload_n 0 dX8_cell_23 rfl rfl (?_ : hp_G _ _ _ _ _ _ _ _ _ 24 _ _ _)
      refine hp_aload_n 0 dX8_cell_24 rfl rfl (?_ : hp_G _ _ _ _ _ _ _ _ _ 25 _ _ _)
      replace hf := ob_ hf
      obtain ⟨x6, ex6, hf⟩ := hf
      refine fgX8_20 rfl dX8_cell_25 ex6 (?_ : hp_G _ _ _ _ _ _ _ _ _ 28 _ _ _)
      refine hp_iload_n 1 dX8_cell_28 rfl rfl (?_ : hp_G _ _ _ _ _ _ _ _ _ 29 _ _ _)
      replace hf := ob_ hf
      obtain ⟨x7, ex7, hf⟩ := hf
      refine hp_aaload dX8_cell_29 ex7 (?_ : hp_G _ _ _ _ _ _ _ _ _ 30 _ _ _)
      refine hp_iload_n 3 dX8_cell_30 rfl rfl (?_ : hp_G _ _ _ _ _ _ _ _ _ 31 _ _ _)
      refine hp_iload_n 2 dX8_cell_31 rfl rfl (?_ : hp_G _ _ _ _ _ _ _ _ _ 32 _ _ _)
      refine hp_iconst (v := 1) dX8_cell_32 ic_1 (?_ : hp_G _ _ _ _ _ _ _ _ _ 33 _ _ _)
      replace hf := ob_ hf
      obtain ⟨o8, eo8, hf⟩ := hf
      replace hf := ob_ hf
      obtain ⟨r9, er9, hf⟩ := hf
      refine clX8_64 (as := [.int p3, .int p2, .int 1]) (st := [.ref a0]) rfl (kX5_faultOfRow l er9) rfl (by decide) (Nat.le_of_ble_eq_true rfl) eo8 dX8_cell_33 rfl (?_ : hp_G _ _ _ _ _ _ _ _ _ 36 _ _ _)
      replace hf := ob_ hf
      obtain ⟨h10, eh10, hf⟩ := hf
      refine fpX8_53 rfl dX8_cell_36 eh10 (?_ : hp_G _ _ _ _ _ _ _ _ _ 39 _ _ _)
      refine hp_aload_n 0 dX8_cell_39 rfl rfl (?_ : hp_G _ _ _ _ _ _ _ _ _ 40 _ _ _)
      replace hf := ob_ hf
      obtain ⟨x11, ex11, hf⟩ := hf
      refine fgX8_53 rfl dX8_cell_40 ex11 (?_ : hp_G _ _ _ _ _ _ _ _ _ 43 _ _ _)
      refine hp_if_eq (tgt := 52) dX8_cell_43 rfl (fun c12 => ?_) (fun c12 => (?_ : hp_G _ _ _ _ _ _ _ _ _ 46 _ _ _))
      · replace hf := ot_ c12 hf
        refine hp_aload_n 0 dX8_cell_52 rfl rfl (?_ : hp_G _ _ _ _ _ _ _ _ _ 53 _ _ _)
        replace hf := ob_ hf
        obtain ⟨x13, ex13, hf⟩ := hf
        refine fgX8_20 rfl dX8_cell_53 ex13 (?_ : hp_G _ _ _ _ _ _ _ _ _ 56 _ _ _)
        refine hp_iload_n 1 dX8_cell_56 rfl rfl (?_ : hp_G _ _ _ _ _ _ _ _ _ 57 _ _ _)
        replace hf := ob_ hf
        obtain ⟨x14, ex14, hf⟩ := hf
        refine hp_aaload dX8_cell_57 ex14 (?_ : hp_G _ _ _ _ _ _ _ _ _ 58 _ _ _)
        refine hp_iload_n 2 dX8_cell_58 rfl rfl (?_ : hp_G _ _ _ _ _ _ _ _ _ 59 _ _ _)
        replace hf := ob_ hf
        obtain ⟨o15, eo15, hf⟩ := hf
        replace hf := ob_ hf
        obtain ⟨r16, er16, hf⟩ := hf
        refine clX8_219 (as := [.int p2]) (st := []) rfl (kX5_read l er16) rfl (by decide) (Nat.le_of_ble_eq_true rfl) eo15 dX8_cell_59 rfl (?_ : hp_G _ _ _ _ _ _ _ _ _ 62 _ _ _)
        refine hp_i2l dX8_cell_62 (?_ : hp_G _ _ _ _ _ _ _ _ _ 63 _ _ _)
        obtain rfl := Option.some.inj hf
        exact hp_lret kr (fun z => z) rfl dX8_cell_63
      · replace hf := of_ c12 hf
        refine hp_ldc2 (v := (-9223372036854775808)) wd_590 dX8_cell_46 (?_ : hp_G _ _ _ _ _ _ _ _ _ 49 _ _ _)
        refine hp_goto (tgt := 63) dX8_cell_49 rfl (?_ : hp_G _ _ _ _ _ _ _ _ _ 63 _ _ _)
        obtain rfl := Option.some.inj hf
        exact hp_lret kr (fun z => z) rfl dX8_cell_63
    · replace hf := ot_ c5 hf
      refine hp_ldc2 (v := (-9223372036854775808)) wd_590 dX8_cell_19 (?_ : hp_G _ _ _ _ _ _ _ _ _ 22 _ _ _)
      obtain rfl := Option.some.inj hf
      exact hp_lret kr (fun z => z) rfl dX8_cell_22
theorem kX8_cell (l : Launch) {h : hp_H} {a0 : Nat} {p1 : Int32} {p2 : Int32} {p3 : Int32} {r : (Int64 × hp_H)} (hf : fX8_cell h a0 p1 p2 p3 = some r) : hp_Cn l yX8_cell mX8_cell 2 false 0 0 [.ref a0, .int p1, .int p2, .int p3] h (fun v h2 => some (.long r.1) = v ∧ r.2 = h2) :=
  hp_of (by decide) rfl (fun z => by cases z) (Nat.le_of_ble_eq_true rfl) (tX8_cell l hf ⟨rfl, rfl⟩)
noncomputable def fX9_lost (h : hp_H) (a0 : Nat) (p1 : Int32) : Option (Int64 × hp_H) :=
(pi_ h a0 8 0 p1).bind fun h1 =>
some ((-9223372036854775808), h1)
set_option maxRecDepth 20000 in
set_option maxHeartbeats 4000000 in
theorem tX9_lost (l : Launch) {h : hp_H} {a0 : Nat} {p1 : Int32} {r : (Int64 × hp_H)} (hf : fX9_lost h a0 p1 = some r) {Q : Option Value → hp_H → Prop} (kr : Q (some (.long r.1)) r.2) : hp_G l mX9_lost none 0 false Q false 0 0 0 [(0, .ref a0), (1, .int p1)] [] h := by
  unfold fX9_lost at hf
  refine hp_aload_n 0 dX9_lost_0 rfl rfl (?_ : hp_G _ _ _ _ _ _ _ _ _ 1 _ _ _)
  refine hp_iload_n 1 dX9_lost_1 rfl rfl (?_ : hp_G _ _ _ _ _ _ _ _ _ 2 _ _ _)
  replace hf := ob_ hf
  obtain ⟨h1, eh1, hf⟩ := hf
  refine fpX9_61 rfl dX9_lost_2 eh1 (?_ : hp_G _ _ _ _ _ _ _ _ _ 5 _ _ _)
  refine hp_ldc2 (v := (-9223372036854775808)) wd_965 dX9_lost_5 (?_ : hp_G _ _ _ _ _ _ _ _ _ 8 _ _ _)
  obtain rfl := Option.some.inj hf
  exact hp_lret kr (fun z => z) rfl dX9_lost_8
theorem kX9_lost (l : Launch) {h : hp_H} {a0 : Nat} {p1 : Int32} {r : (Int64 × hp_H)} (hf : fX9_lost h a0 p1 = some r) : hp_Cn l yX9_lost mX9_lost 0 false 0 0 [.ref a0, .int p1] h (fun v h2 => some (.long r.1) = v ∧ r.2 = h2) :=
  hp_of (by decide) rfl (fun z => by cases z) (Nat.le_of_ble_eq_true rfl) (tX9_lost l hf ⟨rfl, rfl⟩)
noncomputable def jX9_cell_50 (g : hp_H)  (u0 : Nat) (u1 : Int32) (u2 : Int32)  : Option (Int64 × hp_H) :=
(gq_ g u0 8 2).bind fun x9 =>
(al_ g x9 u1).bind fun x10 =>
if x10 = (-9) then
((hg_o g u0 8).bind fun o20 =>
(fX9_lost g u0 1).bind fun r21 =>
some (r21.1, r21.2))
else
((gq_ g u0 8 3).bind fun x12 =>
(al_ g x12 u1).bind fun x13 =>
(fX9_within g u2 0 (x13 - 1)).bind fun r14 =>
if r14 = 0 then
((hg_o g u0 8).bind fun o18 =>
(fX9_lost g u0 3).bind fun r19 =>
some (r19.1, r19.2))
else
((gq_ g u0 8 4).bind fun x16 =>
(al_ g x16 ((60 * u1) + u2)).bind fun x17 =>
some (Int32.toInt64 x17, g)))
set_option maxRecDepth 20000 in
set_option maxHeartbeats 4000000 in
theorem tjX9_cell_50 (l : Launch) {g : hp_H}  {u0 : Nat} {u1 : Int32} {u2 : Int32}  {r : (Int64 × hp_H)} (hf : jX9_cell_50 g u0 u1 u2 = some r) {Q : Option Value → hp_H → Prop} (kr : Q (some (.long r.1)) r.2) : hp_G l mX9_cell none 2 false Q false 0 0 50 [(0, .ref u0), (1, .int u1), (2, .int u2)] [] g := by
  unfold jX9_cell_50 at hf
  refine hp_aload_n 0 dX9_cell_50 rfl rfl (?_ : hp_G _ _ _ _ _ _ _ _ _ 51 _ _ _)
  replace hf := ob_ hf
  obtain ⟨x9, ex9, hf⟩ := hf
  refine fgX9_9 rfl dX9_cell_51 ex9 (?_ : hp_G _ _ _ _ _ _ _ _ _ 54 _ _ _)
  refine hp_iload_n 1 dX9_cell_54 rfl rfl (?_ : hp_G _ _ _ _ _ _ _ _ _ 55 _ _ _)
  replace hf := ob_ hf
  obtain ⟨x10, ex10, hf⟩ := hf
  refine hp_iaload dX9_cell_55 ex10 (?_ : hp_G _ _ _ _ _ _ _ _ _ 56 _ _ _)
  refine hp_bipush (v := (-9)) dX9_cell_56 bi_m9 (?_ : hp_G _ _ _ _ _ _ _ _ _ 58 _ _ _)
  refine hp_icmp_ne (tgt := 67) dX9_cell_58 rfl (fun c11 => ?_) (fun c11 => (?_ : hp_G _ _ _ _ _ _ _ _ _ 61 _ _ _))
  · replace hf := of_ c11 hf
    refine hp_iload_n 2 dX9_cell_67 rfl rfl (?_ : hp_G _ _ _ _ _ _ _ _ _ 68 _ _ _)
    refine hp_iconst (v := 0) dX9_cell_68 ic_0 (?_ : hp_G _ _ _ _ _ _ _ _ _ 69 _ _ _)
    refine hp_aload_n 0 dX9_cell_69 rfl rfl (?_ : hp_G _ _ _ _ _ _ _ _ _ 70 _ _ _)
    replace hf := ob_ hf
    obtain ⟨x12, ex12, hf⟩ := hf
    refine fgX9_13 rfl dX9_cell_70 ex12 (?_ : hp_G _ _ _ _ _ _ _ _ _ 73 _ _ _)
    refine hp_iload_n 1 dX9_cell_73 rfl rfl (?_ : hp_G _ _ _ _ _ _ _ _ _ 74 _ _ _)
    replace hf := ob_ hf
    obtain ⟨x13, ex13, hf⟩ := hf
    refine hp_iaload dX9_cell_74 ex13 (?_ : hp_G _ _ _ _ _ _ _ _ _ 75 _ _ _)
    refine hp_iconst (v := 1) dX9_cell_75 ic_1 (?_ : hp_G _ _ _ _ _ _ _ _ _ 76 _ _ _)
    refine hp_isub dX9_cell_76 (?_ : hp_G _ _ _ _ _ _ _ _ _ 77 _ _ _)
    replace hf := ob_ hf
    obtain ⟨r14, er14, hf⟩ := hf
    refine clX9_67 (as := [.int u2, .int 0, .int (x13 - 1)]) (st := []) rfl (kX9_within l er14) rfl (by decide) (Nat.le_of_ble_eq_true rfl) dX9_cell_77 rfl (?_ : hp_G _ _ _ _ _ _ _ _ _ 80 _ _ _)
    refine hp_if_ne (tgt := 89) dX9_cell_80 rfl (fun c15 => ?_) (fun c15 => (?_ : hp_G _ _ _ _ _ _ _ _ _ 83 _ _ _))
    · replace hf := of_ c15 hf
      refine hp_aload_n 0 dX9_cell_89 rfl rfl (?_ : hp_G _ _ _ _ _ _ _ _ _ 90 _ _ _)
      replace hf := ob_ hf
      obtain ⟨x16, ex16, hf⟩ := hf
      refine fgX9_16 rfl dX9_cell_90 ex16 (?_ : hp_G _ _ _ _ _ _ _ _ _ 93 _ _ _)
      refine hp_bipush (v := 60) dX9_cell_93 bi_60 (?_ : hp_G _ _ _ _ _ _ _ _ _ 95 _ _ _)
      refine hp_iload_n 1 dX9_cell_95 rfl rfl (?_ : hp_G _ _ _ _ _ _ _ _ _ 96 _ _ _)
      refine hp_imul dX9_cell_96 (?_ : hp_G _ _ _ _ _ _ _ _ _ 97 _ _ _)
      refine hp_iload_n 2 dX9_cell_97 rfl rfl (?_ : hp_G _ _ _ _ _ _ _ _ _ 98 _ _ _)
      refine hp_iadd dX9_cell_98 (?_ : hp_G _ _ _ _ _ _ _ _ _ 99 _ _ _)
      replace hf := ob_ hf
      obtain ⟨x17, ex17, hf⟩ := hf
      refine hp_iaload dX9_cell_99 ex17 (?_ : hp_G _ _ _ _ _ _ _ _ _ 100 _ _ _)
      refine hp_i2l dX9_cell_100 (?_ : hp_G _ _ _ _ _ _ _ _ _ 101 _ _ _)
      obtain rfl := Option.some.inj hf
      exact hp_lret kr (fun z => z) rfl dX9_cell_101
    · replace hf := ot_ c15 hf
      refine hp_aload_n 0 dX9_cell_83 rfl rfl (?_ : hp_G _ _ _ _ _ _ _ _ _ 84 _ _ _)
      refine hp_iconst (v := 3) dX9_cell_84 ic_3 (?_ : hp_G _ _ _ _ _ _ _ _ _ 85 _ _ _)
      replace hf := ob_ hf
      obtain ⟨o18, eo18, hf⟩ := hf
      replace hf := ob_ hf
      obtain ⟨r19, er19, hf⟩ := hf
      refine clX9_209 (as := [.int 3]) (st := []) rfl (kX9_lost l er19) rfl (by decide) (Nat.le_of_ble_eq_true rfl) eo18 dX9_cell_85 rfl (?_ : hp_G _ _ _ _ _ _ _ _ _ 88 _ _ _)
      obtain rfl := Option.some.inj hf
      exact hp_lret kr (fun z => z) rfl dX9_cell_88
  · replace hf := ot_ c11 hf
    refine hp_aload_n 0 dX9_cell_61 rfl rfl (?_ : hp_G _ _ _ _ _ _ _ _ _ 62 _ _ _)
    refine hp_iconst (v := 1) dX9_cell_62 ic_1 (?_ : hp_G _ _ _ _ _ _ _ _ _ 63 _ _ _)
    replace hf := ob_ hf
    obtain ⟨o20, eo20, hf⟩ := hf
    replace hf := ob_ hf
    obtain ⟨r21, er21, hf⟩ := hf
    refine clX9_209 (as := [.int 1]) (st := []) rfl (kX9_lost l er21) rfl (by decide) (Nat.le_of_ble_eq_true rfl) eo20 dX9_cell_63 rfl (?_ : hp_G _ _ _ _ _ _ _ _ _ 66 _ _ _)
    obtain rfl := Option.some.inj hf
    exact hp_lret kr (fun z => z) rfl dX9_cell_66
noncomputable def fX9_cell (h : hp_H) (a0 : Nat) (p1 : Int32) (p2 : Int32) (p3 : Int32) : Option (Int64 × hp_H) :=
(pi_ h a0 8 0 0).bind fun h1 =>
(fX9_isSheet h1 p1).bind fun r2 =>
if r2 = 0 then
(some ((-9223372036854775808), h1))
else
((fX9_isSort h1 p3).bind fun r4 =>
if r4 = 0 then
(some ((-9223372036854775808), h1))
else
((gq_ h1 a0 8 2).bind fun x6 =>
(al_ h1 x6 p1).bind fun x7 =>
if x7 = (-9) then
(jX9_cell_50 h1 a0 p1 p2)
else
((gq_ h1 a0 8 2).bind fun x22 =>
(al_ h1 x22 p1).bind fun x23 =>
if x23 = p3 then
(jX9_cell_50 h1 a0 p1 p2)
else
((hg_o h1 a0 8).bind fun o25 =>
(fX9_lost h1 a0 2).bind fun r26 =>
some (r26.1, r26.2)))))
set_option maxRecDepth 20000 in
set_option maxHeartbeats 4000000 in
theorem tX9_cell (l : Launch) {h : hp_H} {a0 : Nat} {p1 : Int32} {p2 : Int32} {p3 : Int32} {r : (Int64 × hp_H)} (hf : fX9_cell h a0 p1 p2 p3 = some r) {Q : Option Value → hp_H → Prop} (kr : Q (some (.long r.1)) r.2) : hp_G l mX9_cell none 2 false Q false 0 0 0 [(0, .ref a0), (1, .int p1), (2, .int p2), (3, .int p3)] [] h := by
  unfold fX9_cell at hf
  refine hp_aload_n 0 dX9_cell_0 rfl rfl (?_ : hp_G _ _ _ _ _ _ _ _ _ 1 _ _ _)
  refine hp_iconst (v := 0) dX9_cell_1 ic_0 (?_ : hp_G _ _ _ _ _ _ _ _ _ 2 _ _ _)
  replace hf := ob_ hf
  obtain ⟨h1, eh1, hf⟩ := hf
  refine fpX9_61 rfl dX9_cell_2 eh1 (?_ : hp_G _ _ _ _ _ _ _ _ _ 5 _ _ _)
  refine hp_iload_n 1 dX9_cell_5 rfl rfl (?_ : hp_G _ _ _ _ _ _ _ _ _ 6 _ _ _)
  replace hf := ob_ hf
  obtain ⟨r2, er2, hf⟩ := hf
  refine clX9_81 (as := [.int p1]) (st := []) rfl (kX9_isSheet l er2) rfl (by decide) (Nat.le_of_ble_eq_true rfl) dX9_cell_6 rfl (?_ : hp_G _ _ _ _ _ _ _ _ _ 9 _ _ _)
  refine hp_if_eq (tgt := 19) dX9_cell_9 rfl (fun c3 => ?_) (fun c3 => (?_ : hp_G _ _ _ _ _ _ _ _ _ 12 _ _ _))
  · replace hf := ot_ c3 hf
    refine hp_ldc2 (v := (-9223372036854775808)) wd_965 dX9_cell_19 (?_ : hp_G _ _ _ _ _ _ _ _ _ 22 _ _ _)
    obtain rfl := Option.some.inj hf
    exact hp_lret kr (fun z => z) rfl dX9_cell_22
  · replace hf := of_ c3 hf
    refine hp_iload_n 3 dX9_cell_12 rfl rfl (?_ : hp_G _ _ _ _ _ _ _ _ _ 13 _ _ _)
    replace hf := ob_ hf
    obtain ⟨r4, er4, hf⟩ := hf
    refine clX9_84 (as := [.int p3]) (st := []) rfl (kX9_isSort l er4) rfl (by decide) (Nat.le_of_ble_eq_true rfl) dX9_cell_13 rfl (?_ : hp_G _ _ _ _ _ _ _ _ _ 16 _ _ _)
    refine hp_if_ne (tgt := 23) dX9_cell_16 rfl (fun c5 => ?_) (fun c5 => (?_ : hp_G _ _ _ _ _ _ _ _ _ 19 _ _ _))
    · replace hf := of_ c5 hf
      refine hp_aload_n 0 dX9_cell_23 rfl rfl (?_ : hp_G _ _ _ _ _ _ _ _ _ 24 _ _ _)
      replace hf := ob_ hf
      obtain ⟨x6, ex6, hf⟩ := hf
      refine fgX9_9 rfl dX9_cell_24 ex6 (?_ : hp_G _ _ _ _ _ _ _ _ _ 27 _ _ _)
      refine hp_iload_n 1 dX9_cell_27 rfl rfl (?_ : hp_G _ _ _ _ _ _ _ _ _ 28 _ _ _)
      replace hf := ob_ hf
      obtain ⟨x7, ex7, hf⟩ := hf
      refine hp_iaload dX9_cell_28 ex7 (?_ : hp_G _ _ _ _ _ _ _ _ _ 29 _ _ _)
      refine hp_bipush (v := (-9)) dX9_cell_29 bi_m9 (?_ : hp_G _ _ _ _ _ _ _ _ _ 31 _ _ _)
      refine hp_icmp_eq (tgt := 50) dX9_cell_31 rfl (fun c8 => ?_) (fun c8 => (?_ : hp_G _ _ _ _ _ _ _ _ _ 34 _ _ _))
      · replace hf := ot_ c8 hf
        exact hp_sub [0, 1, 2] rfl (tjX9_cell_50 l hf kr)
      · replace hf := of_ c8 hf
        refine hp_aload_n 0 dX9_cell_34 rfl rfl (?_ : hp_G _ _ _ _ _ _ _ _ _ 35 _ _ _)
        replace hf := ob_ hf
        obtain ⟨x22, ex22, hf⟩ := hf
        refine fgX9_9 rfl dX9_cell_35 ex22 (?_ : hp_G _ _ _ _ _ _ _ _ _ 38 _ _ _)
        refine hp_iload_n 1 dX9_cell_38 rfl rfl (?_ : hp_G _ _ _ _ _ _ _ _ _ 39 _ _ _)
        replace hf := ob_ hf
        obtain ⟨x23, ex23, hf⟩ := hf
        refine hp_iaload dX9_cell_39 ex23 (?_ : hp_G _ _ _ _ _ _ _ _ _ 40 _ _ _)
        refine hp_iload_n 3 dX9_cell_40 rfl rfl (?_ : hp_G _ _ _ _ _ _ _ _ _ 41 _ _ _)
        refine hp_icmp_eq (tgt := 50) dX9_cell_41 rfl (fun c24 => ?_) (fun c24 => (?_ : hp_G _ _ _ _ _ _ _ _ _ 44 _ _ _))
        · replace hf := ot_ c24 hf
          exact hp_sub [0, 1, 2] rfl (tjX9_cell_50 l hf kr)
        · replace hf := of_ c24 hf
          refine hp_aload_n 0 dX9_cell_44 rfl rfl (?_ : hp_G _ _ _ _ _ _ _ _ _ 45 _ _ _)
          refine hp_iconst (v := 2) dX9_cell_45 ic_2 (?_ : hp_G _ _ _ _ _ _ _ _ _ 46 _ _ _)
          replace hf := ob_ hf
          obtain ⟨o25, eo25, hf⟩ := hf
          replace hf := ob_ hf
          obtain ⟨r26, er26, hf⟩ := hf
          refine clX9_209 (as := [.int 2]) (st := []) rfl (kX9_lost l er26) rfl (by decide) (Nat.le_of_ble_eq_true rfl) eo25 dX9_cell_46 rfl (?_ : hp_G _ _ _ _ _ _ _ _ _ 49 _ _ _)
          obtain rfl := Option.some.inj hf
          exact hp_lret kr (fun z => z) rfl dX9_cell_49
    · replace hf := ot_ c5 hf
      refine hp_ldc2 (v := (-9223372036854775808)) wd_965 dX9_cell_19 (?_ : hp_G _ _ _ _ _ _ _ _ _ 22 _ _ _)
      obtain rfl := Option.some.inj hf
      exact hp_lret kr (fun z => z) rfl dX9_cell_22
theorem kX9_cell (l : Launch) {h : hp_H} {a0 : Nat} {p1 : Int32} {p2 : Int32} {p3 : Int32} {r : (Int64 × hp_H)} (hf : fX9_cell h a0 p1 p2 p3 = some r) : hp_Cn l yX9_cell mX9_cell 2 false 0 0 [.ref a0, .int p1, .int p2, .int p3] h (fun v h2 => some (.long r.1) = v ∧ r.2 = h2) :=
  hp_of (by decide) rfl (fun z => by cases z) (Nat.le_of_ble_eq_true rfl) (tX9_cell l hf ⟨rfl, rfl⟩)
noncomputable def fX8_copy (h : hp_H) (a0 : Nat) (p1 : Int32) (p2 : Int32) (p3 : Int32) (p4 : Int32) (p5 : Int32) : Option (Int32 × hp_H) :=
(pi_ h a0 7 8 0).bind fun h1 =>
(fX8_isSheet h1 p1).bind fun r2 =>
if r2 = 0 then
(some ((-1), h1))
else
((fX8_isSheet h1 p3).bind fun r4 =>
if r4 = 0 then
(some ((-1), h1))
else
((gq_ h1 a0 7 1).bind fun x6 =>
(ql_ h1 x6 p1).bind fun x7 =>
(gq_ h1 a0 7 1).bind fun x8 =>
(ql_ h1 x8 p3).bind fun x9 =>
(gi_ h1 x7 5 1).bind fun x10 =>
if x10 = 0 then
((hg_o h1 a0 7).bind fun o12 =>
(fX8_faulted h1 a0 1).bind fun r13 =>
some (r13.1, r13.2))
else
((gi_ h1 x9 5 1).bind fun x14 =>
if x14 = 0 then
((hg_o h1 a0 7).bind fun o34 =>
(fX8_faulted h1 a0 1).bind fun r35 =>
some (r35.1, r35.2))
else
((gi_ h1 x7 5 2).bind fun x16 =>
(gi_ h1 x9 5 2).bind fun x17 =>
if x16 = x17 then
((hg_o h1 x7 5).bind fun o19 =>
(fX5_reaches h1 x7 p2 p5).bind fun r20 =>
if r20 = 0 then
((hg_o h1 a0 7).bind fun o22 =>
(fX8_faulted h1 a0 3).bind fun r23 =>
some (r23.1, r23.2))
else
((hg_o h1 x9 5).bind fun o24 =>
(fX5_reaches h1 x9 p4 p5).bind fun r25 =>
if r25 = 0 then
((hg_o h1 a0 7).bind fun o30 =>
(fX8_faulted h1 a0 3).bind fun r31 =>
some (r31.1, r31.2))
else
((gq_ h1 x7 5 0).bind fun x27 =>
(gq_ h1 x9 5 0).bind fun x28 =>
(cp_ h1 x27 p2 x28 p4 p5).bind fun h29 =>
some (p5, h29))))
else
((hg_o h1 a0 7).bind fun o32 =>
(fX8_faulted h1 a0 2).bind fun r33 =>
some (r33.1, r33.2))))))
set_option maxRecDepth 20000 in
set_option maxHeartbeats 4000000 in
theorem tX8_copy (l : Launch) {h : hp_H} {a0 : Nat} {p1 : Int32} {p2 : Int32} {p3 : Int32} {p4 : Int32} {p5 : Int32} {r : (Int32 × hp_H)} (hf : fX8_copy h a0 p1 p2 p3 p4 p5 = some r) {Q : Option Value → hp_H → Prop} (kr : Q (some (.int r.1)) r.2) : hp_G l mX8_copy none 1 false Q false 0 0 0 [(0, .ref a0), (1, .int p1), (2, .int p2), (3, .int p3), (4, .int p4), (5, .int p5)] [] h := by
  unfold fX8_copy at hf
  refine hp_aload_n 0 dX8_copy_0 rfl rfl (?_ : hp_G _ _ _ _ _ _ _ _ _ 1 _ _ _)
  refine hp_iconst (v := 0) dX8_copy_1 ic_0 (?_ : hp_G _ _ _ _ _ _ _ _ _ 2 _ _ _)
  replace hf := ob_ hf
  obtain ⟨h1, eh1, hf⟩ := hf
  refine fpX8_53 rfl dX8_copy_2 eh1 (?_ : hp_G _ _ _ _ _ _ _ _ _ 5 _ _ _)
  refine hp_iload_n 1 dX8_copy_5 rfl rfl (?_ : hp_G _ _ _ _ _ _ _ _ _ 6 _ _ _)
  replace hf := ob_ hf
  obtain ⟨r2, er2, hf⟩ := hf
  refine clX8_57 (as := [.int p1]) (st := []) rfl (kX8_isSheet l er2) rfl (by decide) (Nat.le_of_ble_eq_true rfl) dX8_copy_6 rfl (?_ : hp_G _ _ _ _ _ _ _ _ _ 9 _ _ _)
  refine hp_if_eq (tgt := 19) dX8_copy_9 rfl (fun c3 => ?_) (fun c3 => (?_ : hp_G _ _ _ _ _ _ _ _ _ 12 _ _ _))
  · replace hf := ot_ c3 hf
    refine hp_iconst (v := (-1)) dX8_copy_19 ic_m1 (?_ : hp_G _ _ _ _ _ _ _ _ _ 20 _ _ _)
    obtain rfl := Option.some.inj hf
    exact hp_iret kr (fun z => z) rfl dX8_copy_20
  · replace hf := of_ c3 hf
    refine hp_iload_n 3 dX8_copy_12 rfl rfl (?_ : hp_G _ _ _ _ _ _ _ _ _ 13 _ _ _)
    replace hf := ob_ hf
    obtain ⟨r4, er4, hf⟩ := hf
    refine clX8_57 (as := [.int p3]) (st := []) rfl (kX8_isSheet l er4) rfl (by decide) (Nat.le_of_ble_eq_true rfl) dX8_copy_13 rfl (?_ : hp_G _ _ _ _ _ _ _ _ _ 16 _ _ _)
    refine hp_if_ne (tgt := 21) dX8_copy_16 rfl (fun c5 => ?_) (fun c5 => (?_ : hp_G _ _ _ _ _ _ _ _ _ 19 _ _ _))
    · replace hf := of_ c5 hf
      refine hp_aload_n 0 dX8_copy_21 rfl rfl (?_ : hp_G _ _ _ _ _ _ _ _ _ 22 _ _ _)
      replace hf := ob_ hf
      obtain ⟨x6, ex6, hf⟩ := hf
      refine fgX8_20 rfl dX8_copy_22 ex6 (?_ : hp_G _ _ _ _ _ _ _ _ _ 25 _ _ _)
      refine hp_iload_n 1 dX8_copy_25 rfl rfl (?_ : hp_G _ _ _ _ _ _ _ _ _ 26 _ _ _)
      replace hf := ob_ hf
      obtain ⟨x7, ex7, hf⟩ := hf
      refine hp_aaload dX8_copy_26 ex7 (?_ : hp_G _ _ _ _ _ _ _ _ _ 27 _ _ _)
      refine hp_astore (lv' := [(6, .ref x7), (0, .ref a0), (1, .int p1), (2, .int p2), (3, .int p3), (4, .int p4), (5, .int p5)]) dX8_copy_27 (Nat.le_of_ble_eq_true rfl) rfl (?_ : hp_G _ _ _ _ _ _ _ _ _ 29 _ _ _)
      refine hp_aload_n 1 dX8_copy_29 rfl rfl (?_ : hp_G _ _ _ _ _ _ _ _ _ 30 _ _ _)
      replace hf := ob_ hf
      obtain ⟨x8, ex8, hf⟩ := hf
      refine fgX8_20 rfl dX8_copy_30 ex8 (?_ : hp_G _ _ _ _ _ _ _ _ _ 33 _ _ _)
      refine hp_iload_n 4 dX8_copy_33 rfl rfl (?_ : hp_G _ _ _ _ _ _ _ _ _ 34 _ _ _)
      replace hf := ob_ hf
      obtain ⟨x9, ex9, hf⟩ := hf
      refine hp_aaload dX8_copy_34 ex9 (?_ : hp_G _ _ _ _ _ _ _ _ _ 35 _ _ _)
      refine hp_astore (lv' := [(7, .ref x9), (6, .ref x7), (0, .ref a0), (1, .int p1), (2, .int p2), (3, .int p3), (4, .int p4), (5, .int p5)]) dX8_copy_35 (Nat.le_of_ble_eq_true rfl) rfl (?_ : hp_G _ _ _ _ _ _ _ _ _ 37 _ _ _)
      refine hp_aload 1 dX8_copy_37 rfl (?_ : hp_G _ _ _ _ _ _ _ _ _ 39 _ _ _)
      replace hf := ob_ hf
      obtain ⟨x10, ex10, hf⟩ := hf
      refine fgX8_210 rfl dX8_copy_39 ex10 (?_ : hp_G _ _ _ _ _ _ _ _ _ 42 _ _ _)
      refine hp_if_eq (tgt := 53) dX8_copy_42 rfl (fun c11 => ?_) (fun c11 => (?_ : hp_G _ _ _ _ _ _ _ _ _ 45 _ _ _))
      · replace hf := ot_ c11 hf
        refine hp_aload_n 2 dX8_copy_53 rfl rfl (?_ : hp_G _ _ _ _ _ _ _ _ _ 54 _ _ _)
        refine hp_iconst (v := 1) dX8_copy_54 ic_1 (?_ : hp_G _ _ _ _ _ _ _ _ _ 55 _ _ _)
        replace hf := ob_ hf
        obtain ⟨o12, eo12, hf⟩ := hf
        replace hf := ob_ hf
        obtain ⟨r13, er13, hf⟩ := hf
        refine clX8_68 (as := [.int 1]) (st := []) rfl (kX8_faulted l er13) rfl (by decide) (Nat.le_of_ble_eq_true rfl) eo12 dX8_copy_55 rfl (?_ : hp_G _ _ _ _ _ _ _ _ _ 58 _ _ _)
        obtain rfl := Option.some.inj hf
        exact hp_iret kr (fun z => z) rfl dX8_copy_58
      · replace hf := of_ c11 hf
        refine hp_aload 0 dX8_copy_45 rfl (?_ : hp_G _ _ _ _ _ _ _ _ _ 47 _ _ _)
        replace hf := ob_ hf
        obtain ⟨x14, ex14, hf⟩ := hf
        refine fgX8_210 rfl dX8_copy_47 ex14 (?_ : hp_G _ _ _ _ _ _ _ _ _ 50 _ _ _)
        refine hp_if_ne (tgt := 59) dX8_copy_50 rfl (fun c15 => ?_) (fun c15 => (?_ : hp_G _ _ _ _ _ _ _ _ _ 53 _ _ _))
        · replace hf := of_ c15 hf
          refine hp_aload 1 dX8_copy_59 rfl (?_ : hp_G _ _ _ _ _ _ _ _ _ 61 _ _ _)
          replace hf := ob_ hf
          obtain ⟨x16, ex16, hf⟩ := hf
          refine fgX8_213 rfl dX8_copy_61 ex16 (?_ : hp_G _ _ _ _ _ _ _ _ _ 64 _ _ _)
          refine hp_aload 0 dX8_copy_64 rfl (?_ : hp_G _ _ _ _ _ _ _ _ _ 66 _ _ _)
          replace hf := ob_ hf
          obtain ⟨x17, ex17, hf⟩ := hf
          refine fgX8_213 rfl dX8_copy_66 ex17 (?_ : hp_G _ _ _ _ _ _ _ _ _ 69 _ _ _)
          refine hp_icmp_eq (tgt := 78) dX8_copy_69 rfl (fun c18 => ?_) (fun c18 => (?_ : hp_G _ _ _ _ _ _ _ _ _ 72 _ _ _))
          · replace hf := ot_ c18 hf
            refine hp_aload 1 dX8_copy_78 rfl (?_ : hp_G _ _ _ _ _ _ _ _ _ 80 _ _ _)
            refine hp_iload_n 4 dX8_copy_80 rfl rfl (?_ : hp_G _ _ _ _ _ _ _ _ _ 81 _ _ _)
            refine hp_iload 7 dX8_copy_81 rfl (?_ : hp_G _ _ _ _ _ _ _ _ _ 83 _ _ _)
            replace hf := ob_ hf
            obtain ⟨o19, eo19, hf⟩ := hf
            replace hf := ob_ hf
            obtain ⟨r20, er20, hf⟩ := hf
            refine clX8_222 (as := [.int p2, .int p5]) (st := []) rfl (kX5_reaches l er20) rfl (by decide) (Nat.le_of_ble_eq_true rfl) eo19 dX8_copy_83 rfl (?_ : hp_G _ _ _ _ _ _ _ _ _ 86 _ _ _)
            refine hp_if_eq (tgt := 101) dX8_copy_86 rfl (fun c21 => ?_) (fun c21 => (?_ : hp_G _ _ _ _ _ _ _ _ _ 89 _ _ _))
            · replace hf := ot_ c21 hf
              refine hp_aload_n 2 dX8_copy_101 rfl rfl (?_ : hp_G _ _ _ _ _ _ _ _ _ 102 _ _ _)
              refine hp_iconst (v := 3) dX8_copy_102 ic_3 (?_ : hp_G _ _ _ _ _ _ _ _ _ 103 _ _ _)
              replace hf := ob_ hf
              obtain ⟨o22, eo22, hf⟩ := hf
              replace hf := ob_ hf
              obtain ⟨r23, er23, hf⟩ := hf
              refine clX8_68 (as := [.int 3]) (st := []) rfl (kX8_faulted l er23) rfl (by decide) (Nat.le_of_ble_eq_true rfl) eo22 dX8_copy_103 rfl (?_ : hp_G _ _ _ _ _ _ _ _ _ 106 _ _ _)
              obtain rfl := Option.some.inj hf
              exact hp_iret kr (fun z => z) rfl dX8_copy_106
            · replace hf := of_ c21 hf
              refine hp_aload 0 dX8_copy_89 rfl (?_ : hp_G _ _ _ _ _ _ _ _ _ 91 _ _ _)
              refine hp_iload 6 dX8_copy_91 rfl (?_ : hp_G _ _ _ _ _ _ _ _ _ 93 _ _ _)
              refine hp_iload 7 dX8_copy_93 rfl (?_ : hp_G _ _ _ _ _ _ _ _ _ 95 _ _ _)
              replace hf := ob_ hf
              obtain ⟨o24, eo24, hf⟩ := hf
              replace hf := ob_ hf
              obtain ⟨r25, er25, hf⟩ := hf
              refine clX8_222 (as := [.int p4, .int p5]) (st := []) rfl (kX5_reaches l er25) rfl (by decide) (Nat.le_of_ble_eq_true rfl) eo24 dX8_copy_95 rfl (?_ : hp_G _ _ _ _ _ _ _ _ _ 98 _ _ _)
              refine hp_if_ne (tgt := 107) dX8_copy_98 rfl (fun c26 => ?_) (fun c26 => (?_ : hp_G _ _ _ _ _ _ _ _ _ 101 _ _ _))
              · replace hf := of_ c26 hf
                refine hp_aload 1 dX8_copy_107 rfl (?_ : hp_G _ _ _ _ _ _ _ _ _ 109 _ _ _)
                replace hf := ob_ hf
                obtain ⟨x27, ex27, hf⟩ := hf
                refine fgX8_225 rfl dX8_copy_109 ex27 (?_ : hp_G _ _ _ _ _ _ _ _ _ 112 _ _ _)
                refine hp_iload_n 4 dX8_copy_112 rfl rfl (?_ : hp_G _ _ _ _ _ _ _ _ _ 113 _ _ _)
                refine hp_aload 0 dX8_copy_113 rfl (?_ : hp_G _ _ _ _ _ _ _ _ _ 115 _ _ _)
                replace hf := ob_ hf
                obtain ⟨x28, ex28, hf⟩ := hf
                refine fgX8_225 rfl dX8_copy_115 ex28 (?_ : hp_G _ _ _ _ _ _ _ _ _ 118 _ _ _)
                refine hp_iload 6 dX8_copy_118 rfl (?_ : hp_G _ _ _ _ _ _ _ _ _ 120 _ _ _)
                refine hp_iload 7 dX8_copy_120 rfl (?_ : hp_G _ _ _ _ _ _ _ _ _ 122 _ _ _)
                replace hf := ob_ hf
                obtain ⟨h29, eh29, hf⟩ := hf
                refine hp_copy (List.forall_mem_cons.mpr ⟨wd_624, (List.forall_mem_cons.mpr ⟨wd_498, (List.forall_mem_cons.mpr ⟨wd_497, (List.forall_mem_cons.mpr ⟨wd_86, (fun _ h => absurd h List.not_mem_nil)⟩)⟩)⟩)⟩) (by decide) dX8_copy_122 eh29 (?_ : hp_G _ _ _ _ _ _ _ _ _ 125 _ _ _)
                refine hp_iload 7 dX8_copy_125 rfl (?_ : hp_G _ _ _ _ _ _ _ _ _ 127 _ _ _)
                obtain rfl := Option.some.inj hf
                exact hp_iret kr (fun z => z) rfl dX8_copy_127
              · replace hf := ot_ c26 hf
                refine hp_aload_n 2 dX8_copy_101 rfl rfl (?_ : hp_G _ _ _ _ _ _ _ _ _ 102 _ _ _)
                refine hp_iconst (v := 3) dX8_copy_102 ic_3 (?_ : hp_G _ _ _ _ _ _ _ _ _ 103 _ _ _)
                replace hf := ob_ hf
                obtain ⟨o30, eo30, hf⟩ := hf
                replace hf := ob_ hf
                obtain ⟨r31, er31, hf⟩ := hf
                refine clX8_68 (as := [.int 3]) (st := []) rfl (kX8_faulted l er31) rfl (by decide) (Nat.le_of_ble_eq_true rfl) eo30 dX8_copy_103 rfl (?_ : hp_G _ _ _ _ _ _ _ _ _ 106 _ _ _)
                obtain rfl := Option.some.inj hf
                exact hp_iret kr (fun z => z) rfl dX8_copy_106
          · replace hf := of_ c18 hf
            refine hp_aload_n 2 dX8_copy_72 rfl rfl (?_ : hp_G _ _ _ _ _ _ _ _ _ 73 _ _ _)
            refine hp_iconst (v := 2) dX8_copy_73 ic_2 (?_ : hp_G _ _ _ _ _ _ _ _ _ 74 _ _ _)
            replace hf := ob_ hf
            obtain ⟨o32, eo32, hf⟩ := hf
            replace hf := ob_ hf
            obtain ⟨r33, er33, hf⟩ := hf
            refine clX8_68 (as := [.int 2]) (st := []) rfl (kX8_faulted l er33) rfl (by decide) (Nat.le_of_ble_eq_true rfl) eo32 dX8_copy_74 rfl (?_ : hp_G _ _ _ _ _ _ _ _ _ 77 _ _ _)
            obtain rfl := Option.some.inj hf
            exact hp_iret kr (fun z => z) rfl dX8_copy_77
        · replace hf := ot_ c15 hf
          refine hp_aload_n 2 dX8_copy_53 rfl rfl (?_ : hp_G _ _ _ _ _ _ _ _ _ 54 _ _ _)
          refine hp_iconst (v := 1) dX8_copy_54 ic_1 (?_ : hp_G _ _ _ _ _ _ _ _ _ 55 _ _ _)
          replace hf := ob_ hf
          obtain ⟨o34, eo34, hf⟩ := hf
          replace hf := ob_ hf
          obtain ⟨r35, er35, hf⟩ := hf
          refine clX8_68 (as := [.int 1]) (st := []) rfl (kX8_faulted l er35) rfl (by decide) (Nat.le_of_ble_eq_true rfl) eo34 dX8_copy_55 rfl (?_ : hp_G _ _ _ _ _ _ _ _ _ 58 _ _ _)
          obtain rfl := Option.some.inj hf
          exact hp_iret kr (fun z => z) rfl dX8_copy_58
    · replace hf := ot_ c5 hf
      refine hp_iconst (v := (-1)) dX8_copy_19 ic_m1 (?_ : hp_G _ _ _ _ _ _ _ _ _ 20 _ _ _)
      obtain rfl := Option.some.inj hf
      exact hp_iret kr (fun z => z) rfl dX8_copy_20
theorem kX8_copy (l : Launch) {h : hp_H} {a0 : Nat} {p1 : Int32} {p2 : Int32} {p3 : Int32} {p4 : Int32} {p5 : Int32} {r : (Int32 × hp_H)} (hf : fX8_copy h a0 p1 p2 p3 p4 p5 = some r) : hp_Cn l yX8_copy mX8_copy 1 false 0 0 [.ref a0, .int p1, .int p2, .int p3, .int p4, .int p5] h (fun v h2 => some (.int r.1) = v ∧ r.2 = h2) :=
  hp_of (by decide) rfl (fun z => by cases z) (Nat.le_of_ble_eq_true rfl) (tX8_copy l hf ⟨rfl, rfl⟩)
noncomputable def jX9_copy_190_166 (g : hp_H) (v0 : Nat) (v1 : Int32) (v2 : Int32) (v3 : Int32) (v4 : Int32) (v5 : Int32) (v7 : Int32) (u8 : Int32) (k0 : Int32) : Option ((Int32 × hp_H) ⊕ hp_H) :=
(gq_ g v0 8 4).bind fun x34 =>
(gq_ g v0 8 4).bind fun x35 =>
(al_ g x35 (((60 * v1) + v2) + k0)).bind fun x36 =>
(ax_ g x34 (((60 * v3) + v4) + k0) x36).bind fun h37 =>
(some (u8 + 1)).bind fun x38 =>
some (.inl (x38, h37))
set_option maxRecDepth 20000 in
set_option maxHeartbeats 4000000 in
theorem tjX9_copy_190_166 (l : Launch) {g : hp_H} {v0 : Nat} {v1 : Int32} {v2 : Int32} {v3 : Int32} {v4 : Int32} {v5 : Int32} {v7 : Int32} {u8 : Int32} {k0 : Int32} {r : ((Int32 × hp_H) ⊕ hp_H)} (hf : jX9_copy_190_166 g v0 v1 v2 v3 v4 v5 v7 u8 k0 = some r) {Q : Option Value → hp_H → Prop} (kb : ∀ t, r = .inl t → hp_G l mX9_copy none 2 false Q false 0 0 166 [(0, .ref v0), (1, .int v1), (2, .int v2), (3, .int v3), (4, .int v4), (5, .int v5), (7, .int v7), (8, .int t.1)] [] t.2) (ke : ∀ x, r = .inr x → hp_G l mX9_copy none 2 false Q false 0 0 227 [(5, .int v5)] [] x) : hp_G l mX9_copy none 2 false Q false 0 0 190 [(0, .ref v0), (1, .int v1), (2, .int v2), (3, .int v3), (4, .int v4), (5, .int v5), (7, .int v7), (8, .int u8)] [.int k0] g := by
  unfold jX9_copy_190_166 at hf
  refine hp_istore (lv' := [(9, .int k0), (0, .ref v0), (1, .int v1), (2, .int v2), (3, .int v3), (4, .int v4), (5, .int v5), (7, .int v7), (8, .int u8)]) dX9_copy_190 (Nat.le_of_ble_eq_true rfl) rfl (?_ : hp_G _ _ _ _ _ _ _ _ _ 192 _ _ _)
  refine hp_aload_n 1 dX9_copy_192 rfl rfl (?_ : hp_G _ _ _ _ _ _ _ _ _ 193 _ _ _)
  replace hf := ob_ hf
  obtain ⟨x34, ex34, hf⟩ := hf
  refine fgX9_16 rfl dX9_copy_193 ex34 (?_ : hp_G _ _ _ _ _ _ _ _ _ 196 _ _ _)
  refine hp_bipush (v := 60) dX9_copy_196 bi_60 (?_ : hp_G _ _ _ _ _ _ _ _ _ 198 _ _ _)
  refine hp_iload_n 4 dX9_copy_198 rfl rfl (?_ : hp_G _ _ _ _ _ _ _ _ _ 199 _ _ _)
  refine hp_imul dX9_copy_199 (?_ : hp_G _ _ _ _ _ _ _ _ _ 200 _ _ _)
  refine hp_iload 5 dX9_copy_200 rfl (?_ : hp_G _ _ _ _ _ _ _ _ _ 202 _ _ _)
  refine hp_iadd dX9_copy_202 (?_ : hp_G _ _ _ _ _ _ _ _ _ 203 _ _ _)
  refine hp_iload 0 dX9_copy_203 rfl (?_ : hp_G _ _ _ _ _ _ _ _ _ 205 _ _ _)
  refine hp_iadd dX9_copy_205 (?_ : hp_G _ _ _ _ _ _ _ _ _ 206 _ _ _)
  refine hp_aload_n 1 dX9_copy_206 rfl rfl (?_ : hp_G _ _ _ _ _ _ _ _ _ 207 _ _ _)
  replace hf := ob_ hf
  obtain ⟨x35, ex35, hf⟩ := hf
  refine fgX9_16 rfl dX9_copy_207 ex35 (?_ : hp_G _ _ _ _ _ _ _ _ _ 210 _ _ _)
  refine hp_bipush (v := 60) dX9_copy_210 bi_60 (?_ : hp_G _ _ _ _ _ _ _ _ _ 212 _ _ _)
  refine hp_iload_n 2 dX9_copy_212 rfl rfl (?_ : hp_G _ _ _ _ _ _ _ _ _ 213 _ _ _)
  refine hp_imul dX9_copy_213 (?_ : hp_G _ _ _ _ _ _ _ _ _ 214 _ _ _)
  refine hp_iload_n 3 dX9_copy_214 rfl rfl (?_ : hp_G _ _ _ _ _ _ _ _ _ 215 _ _ _)
  refine hp_iadd dX9_copy_215 (?_ : hp_G _ _ _ _ _ _ _ _ _ 216 _ _ _)
  refine hp_iload 0 dX9_copy_216 rfl (?_ : hp_G _ _ _ _ _ _ _ _ _ 218 _ _ _)
  refine hp_iadd dX9_copy_218 (?_ : hp_G _ _ _ _ _ _ _ _ _ 219 _ _ _)
  replace hf := ob_ hf
  obtain ⟨x36, ex36, hf⟩ := hf
  refine hp_iaload dX9_copy_219 ex36 (?_ : hp_G _ _ _ _ _ _ _ _ _ 220 _ _ _)
  replace hf := ob_ hf
  obtain ⟨h37, eh37, hf⟩ := hf
  refine hp_iastore dX9_copy_220 eh37 (?_ : hp_G _ _ _ _ _ _ _ _ _ 221 _ _ _)
  replace hf := ob_ hf
  obtain ⟨x38, ex38, hf⟩ := hf
  refine hp_iinc (v := x38) (lv' := [(8, .int x38), (9, .int k0), (0, .ref v0), (1, .int v1), (2, .int v2), (3, .int v3), (4, .int v4), (5, .int v5), (7, .int v7)]) 8 dX9_copy_221 rfl (hp_inc ic_1 ex38) (Nat.le_of_ble_eq_true rfl) rfl (?_ : hp_G _ _ _ _ _ _ _ _ _ 224 _ _ _)
  refine hp_goto (tgt := 166) dX9_copy_224 rfl (?_ : hp_G _ _ _ _ _ _ _ _ _ 166 _ _ _)
  obtain rfl := Option.some.inj hf
  exact hp_sub [2, 3, 4, 5, 6, 7, 8, 0] rfl (kb _ rfl)
noncomputable def bX9_copy_166 (v0 : Nat) (v1 : Int32) (v2 : Int32) (v3 : Int32) (v4 : Int32) (v5 : Int32) (v7 : Int32) (s : (Int32 × hp_H)) : Option ((Int32 × hp_H) ⊕ hp_H) :=
if v5 ≤ s.1 then
(some (.inr s.2))
else
(if v7 = 0 then
(jX9_copy_190_166 s.2 v0 v1 v2 v3 v4 v5 v7 s.1 s.1)
else
(jX9_copy_190_166 s.2 v0 v1 v2 v3 v4 v5 v7 s.1 ((v5 - 1) - s.1)))
set_option maxRecDepth 20000 in
set_option maxHeartbeats 4000000 in
theorem tbX9_copy_166 (l : Launch) {v0 : Nat} {v1 : Int32} {v2 : Int32} {v3 : Int32} {v4 : Int32} {v5 : Int32} {v7 : Int32}  {s : (Int32 × hp_H)} {r : ((Int32 × hp_H) ⊕ hp_H)} (hf : bX9_copy_166  v0 v1 v2 v3 v4 v5 v7 s = some r) {Q : Option Value → hp_H → Prop} (kb : ∀ t, r = .inl t → hp_G l mX9_copy none 2 false Q false 0 0 166 [(0, .ref v0), (1, .int v1), (2, .int v2), (3, .int v3), (4, .int v4), (5, .int v5), (7, .int v7), (8, .int t.1)] [] t.2) (ke : ∀ x, r = .inr x → hp_G l mX9_copy none 2 false Q false 0 0 227 [(5, .int v5)] [] x) : hp_G l mX9_copy none 2 false Q false 0 0 166 [(0, .ref v0), (1, .int v1), (2, .int v2), (3, .int v3), (4, .int v4), (5, .int v5), (7, .int v7), (8, .int s.1)] [] s.2 := by
  unfold bX9_copy_166 at hf
  refine hp_iload 7 dX9_copy_166 rfl (?_ : hp_G _ _ _ _ _ _ _ _ _ 168 _ _ _)
  refine hp_iload 5 dX9_copy_168 rfl (?_ : hp_G _ _ _ _ _ _ _ _ _ 170 _ _ _)
  refine hp_icmp_ge (tgt := 227) dX9_copy_170 rfl (fun c32 => ?_) (fun c32 => (?_ : hp_G _ _ _ _ _ _ _ _ _ 173 _ _ _))
  · replace hf := ot_ c32 hf
    obtain rfl := Option.some.inj hf
    exact hp_sub [5] rfl (ke _ rfl)
  · replace hf := of_ c32 hf
    refine hp_iload 6 dX9_copy_173 rfl (?_ : hp_G _ _ _ _ _ _ _ _ _ 175 _ _ _)
    refine hp_if_eq (tgt := 188) dX9_copy_175 rfl (fun c33 => ?_) (fun c33 => (?_ : hp_G _ _ _ _ _ _ _ _ _ 178 _ _ _))
    · replace hf := ot_ c33 hf
      refine hp_iload 7 dX9_copy_188 rfl (?_ : hp_G _ _ _ _ _ _ _ _ _ 190 _ _ _)
      exact hp_sub [0, 1, 2, 3, 4, 5, 6, 7] rfl (tjX9_copy_190_166 l hf kb ke)
    · replace hf := of_ c33 hf
      refine hp_iload 5 dX9_copy_178 rfl (?_ : hp_G _ _ _ _ _ _ _ _ _ 180 _ _ _)
      refine hp_iconst (v := 1) dX9_copy_180 ic_1 (?_ : hp_G _ _ _ _ _ _ _ _ _ 181 _ _ _)
      refine hp_isub dX9_copy_181 (?_ : hp_G _ _ _ _ _ _ _ _ _ 182 _ _ _)
      refine hp_iload 7 dX9_copy_182 rfl (?_ : hp_G _ _ _ _ _ _ _ _ _ 184 _ _ _)
      refine hp_isub dX9_copy_184 (?_ : hp_G _ _ _ _ _ _ _ _ _ 185 _ _ _)
      refine hp_goto (tgt := 190) dX9_copy_185 rfl (?_ : hp_G _ _ _ _ _ _ _ _ _ 190 _ _ _)
      exact hp_sub [0, 1, 2, 3, 4, 5, 6, 7] rfl (tjX9_copy_190_166 l hf kb ke)
set_option maxRecDepth 20000 in
set_option maxHeartbeats 4000000 in
theorem tlX9_copy_166 (l : Launch) {v0 : Nat} {v1 : Int32} {v2 : Int32} {v3 : Int32} {v4 : Int32} {v5 : Int32} {v7 : Int32}  (q : Nat) {s : (Int32 × hp_H)} {x : hp_H} (hf : it_ (bX9_copy_166  v0 v1 v2 v3 v4 v5 v7) q s = some x) {Q : Option Value → hp_H → Prop} (ke : ∀ e, x = e → hp_G l mX9_copy none 2 false Q false 0 0 227 [(5, .int v5)] [] e) : hp_G l mX9_copy none 2 false Q false 0 0 166 [(0, .ref v0), (1, .int v1), (2, .int v2), (3, .int v3), (4, .int v4), (5, .int v5), (7, .int v7), (8, .int s.1)] [] s.2 := by
  exact it_rule (f := bX9_copy_166  v0 v1 v2 v3 v4 v5 v7) (fun s => hp_G l mX9_copy none 2 false Q false 0 0 166 [(0, .ref v0), (1, .int v1), (2, .int v2), (3, .int v3), (4, .int v4), (5, .int v5), (7, .int v7), (8, .int s.1)] [] s.2) (fun x => (∀ e, x = e → hp_G l mX9_copy none 2 false Q false 0 0 227 [(5, .int v5)] [] e)) (fun s r h1 h2 h3 => tbX9_copy_166 l h1 (fun t e => h2 t e) (fun e he => h3 _ he _ rfl)) q s x hf ke
noncomputable def jX9_copy_161 (g : hp_H)  (u0 : Nat) (u1 : Int32) (u2 : Int32) (u3 : Int32) (u4 : Int32) (u5 : Int32) (k0 : Int32) : Option (Int32 × hp_H) :=
(it_ (bX9_copy_166  u0 u1 u2 u3 u4 u5 k0) fu_ (0, g)).bind fun x39 =>
some (u5, x39)
set_option maxRecDepth 20000 in
set_option maxHeartbeats 4000000 in
theorem tjX9_copy_161 (l : Launch) {g : hp_H}  {u0 : Nat} {u1 : Int32} {u2 : Int32} {u3 : Int32} {u4 : Int32} {u5 : Int32} {k0 : Int32} {r : (Int32 × hp_H)} (hf : jX9_copy_161 g u0 u1 u2 u3 u4 u5 k0 = some r) {Q : Option Value → hp_H → Prop} (kr : Q (some (.int r.1)) r.2) : hp_G l mX9_copy none 2 false Q false 0 0 161 [(0, .ref u0), (1, .int u1), (2, .int u2), (3, .int u3), (4, .int u4), (5, .int u5)] [.int k0] g := by
  unfold jX9_copy_161 at hf
  refine hp_istore (lv' := [(7, .int k0), (0, .ref u0), (1, .int u1), (2, .int u2), (3, .int u3), (4, .int u4), (5, .int u5)]) dX9_copy_161 (Nat.le_of_ble_eq_true rfl) rfl (?_ : hp_G _ _ _ _ _ _ _ _ _ 163 _ _ _)
  refine hp_iconst (v := 0) dX9_copy_163 ic_0 (?_ : hp_G _ _ _ _ _ _ _ _ _ 164 _ _ _)
  refine hp_istore (lv' := [(8, .int 0), (7, .int k0), (0, .ref u0), (1, .int u1), (2, .int u2), (3, .int u3), (4, .int u4), (5, .int u5)]) dX9_copy_164 (Nat.le_of_ble_eq_true rfl) rfl (?_ : hp_G _ _ _ _ _ _ _ _ _ 166 _ _ _)
  replace hf := ob_ hf
  obtain ⟨x39, ex39, hf⟩ := hf
  refine hp_sub [2, 3, 4, 5, 6, 7, 1, 0] rfl ?_
  refine tlX9_copy_166 l fu_ ex39 (fun y hy => ?_)
  obtain rfl := hy
  refine hp_iload 0 dX9_copy_227 rfl (?_ : hp_G _ _ _ _ _ _ _ _ _ 229 _ _ _)
  obtain rfl := Option.some.inj hf
  exact hp_iret kr (fun z => z) rfl dX9_copy_229
noncomputable def jX9_copy_110 (g : hp_H)  (u0 : Nat) (u1 : Int32) (u2 : Int32) (u3 : Int32) (u4 : Int32) (u5 : Int32) (k0 : Int32) : Option (Int32 × hp_H) :=
if k0 = 0 then
((hg_o g u0 8).bind fun o21 =>
(fX9_fails g u0 3).bind fun r22 =>
some (r22.1, r22.2))
else
((gq_ g u0 8 3).bind fun x23 =>
(al_ g x23 u1).bind fun x24 =>
if x24 - u2 < u5 then
((hg_o g u0 8).bind fun o26 =>
(fX9_fails g u0 3).bind fun r27 =>
some (r27.1, r27.2))
else
((gq_ g u0 8 3).bind fun x28 =>
(al_ g x28 u3).bind fun x29 =>
if u5 ≤ x29 - u4 then
(if u4 ≤ u2 then
(jX9_copy_161 g u0 u1 u2 u3 u4 u5 0)
else
(jX9_copy_161 g u0 u1 u2 u3 u4 u5 1))
else
((hg_o g u0 8).bind fun o40 =>
(fX9_fails g u0 3).bind fun r41 =>
some (r41.1, r41.2))))
set_option maxRecDepth 20000 in
set_option maxHeartbeats 4000000 in
theorem tjX9_copy_110 (l : Launch) {g : hp_H}  {u0 : Nat} {u1 : Int32} {u2 : Int32} {u3 : Int32} {u4 : Int32} {u5 : Int32} {k0 : Int32} {r : (Int32 × hp_H)} (hf : jX9_copy_110 g u0 u1 u2 u3 u4 u5 k0 = some r) {Q : Option Value → hp_H → Prop} (kr : Q (some (.int r.1)) r.2) : hp_G l mX9_copy none 2 false Q false 0 0 110 [(0, .ref u0), (1, .int u1), (2, .int u2), (3, .int u3), (4, .int u4), (5, .int u5)] [.int k0] g := by
  unfold jX9_copy_110 at hf
  refine hp_istore (lv' := [(6, .int k0), (0, .ref u0), (1, .int u1), (2, .int u2), (3, .int u3), (4, .int u4), (5, .int u5)]) dX9_copy_110 (Nat.le_of_ble_eq_true rfl) rfl (?_ : hp_G _ _ _ _ _ _ _ _ _ 112 _ _ _)
  refine hp_iload 0 dX9_copy_112 rfl (?_ : hp_G _ _ _ _ _ _ _ _ _ 114 _ _ _)
  refine hp_if_eq (tgt := 144) dX9_copy_114 rfl (fun c20 => ?_) (fun c20 => (?_ : hp_G _ _ _ _ _ _ _ _ _ 117 _ _ _))
  · replace hf := ot_ c20 hf
    refine hp_aload_n 1 dX9_copy_144 rfl rfl (?_ : hp_G _ _ _ _ _ _ _ _ _ 145 _ _ _)
    refine hp_iconst (v := 3) dX9_copy_145 ic_3 (?_ : hp_G _ _ _ _ _ _ _ _ _ 146 _ _ _)
    replace hf := ob_ hf
    obtain ⟨o21, eo21, hf⟩ := hf
    replace hf := ob_ hf
    obtain ⟨r22, er22, hf⟩ := hf
    refine clX9_91 (as := [.int 3]) (st := []) rfl (kX9_fails l er22) rfl (by decide) (Nat.le_of_ble_eq_true rfl) eo21 dX9_copy_146 rfl (?_ : hp_G _ _ _ _ _ _ _ _ _ 149 _ _ _)
    obtain rfl := Option.some.inj hf
    exact hp_iret kr (fun z => z) rfl dX9_copy_149
  · replace hf := of_ c20 hf
    refine hp_iload 6 dX9_copy_117 rfl (?_ : hp_G _ _ _ _ _ _ _ _ _ 119 _ _ _)
    refine hp_aload_n 1 dX9_copy_119 rfl rfl (?_ : hp_G _ _ _ _ _ _ _ _ _ 120 _ _ _)
    replace hf := ob_ hf
    obtain ⟨x23, ex23, hf⟩ := hf
    refine fgX9_13 rfl dX9_copy_120 ex23 (?_ : hp_G _ _ _ _ _ _ _ _ _ 123 _ _ _)
    refine hp_iload_n 2 dX9_copy_123 rfl rfl (?_ : hp_G _ _ _ _ _ _ _ _ _ 124 _ _ _)
    replace hf := ob_ hf
    obtain ⟨x24, ex24, hf⟩ := hf
    refine hp_iaload dX9_copy_124 ex24 (?_ : hp_G _ _ _ _ _ _ _ _ _ 125 _ _ _)
    refine hp_iload_n 3 dX9_copy_125 rfl rfl (?_ : hp_G _ _ _ _ _ _ _ _ _ 126 _ _ _)
    refine hp_isub dX9_copy_126 (?_ : hp_G _ _ _ _ _ _ _ _ _ 127 _ _ _)
    refine hp_icmp_gt (tgt := 144) dX9_copy_127 rfl (fun c25 => ?_) (fun c25 => (?_ : hp_G _ _ _ _ _ _ _ _ _ 130 _ _ _))
    · replace hf := ot_ c25 hf
      refine hp_aload_n 1 dX9_copy_144 rfl rfl (?_ : hp_G _ _ _ _ _ _ _ _ _ 145 _ _ _)
      refine hp_iconst (v := 3) dX9_copy_145 ic_3 (?_ : hp_G _ _ _ _ _ _ _ _ _ 146 _ _ _)
      replace hf := ob_ hf
      obtain ⟨o26, eo26, hf⟩ := hf
      replace hf := ob_ hf
      obtain ⟨r27, er27, hf⟩ := hf
      refine clX9_91 (as := [.int 3]) (st := []) rfl (kX9_fails l er27) rfl (by decide) (Nat.le_of_ble_eq_true rfl) eo26 dX9_copy_146 rfl (?_ : hp_G _ _ _ _ _ _ _ _ _ 149 _ _ _)
      obtain rfl := Option.some.inj hf
      exact hp_iret kr (fun z => z) rfl dX9_copy_149
    · replace hf := of_ c25 hf
      refine hp_iload 6 dX9_copy_130 rfl (?_ : hp_G _ _ _ _ _ _ _ _ _ 132 _ _ _)
      refine hp_aload_n 1 dX9_copy_132 rfl rfl (?_ : hp_G _ _ _ _ _ _ _ _ _ 133 _ _ _)
      replace hf := ob_ hf
      obtain ⟨x28, ex28, hf⟩ := hf
      refine fgX9_13 rfl dX9_copy_133 ex28 (?_ : hp_G _ _ _ _ _ _ _ _ _ 136 _ _ _)
      refine hp_iload_n 4 dX9_copy_136 rfl rfl (?_ : hp_G _ _ _ _ _ _ _ _ _ 137 _ _ _)
      replace hf := ob_ hf
      obtain ⟨x29, ex29, hf⟩ := hf
      refine hp_iaload dX9_copy_137 ex29 (?_ : hp_G _ _ _ _ _ _ _ _ _ 138 _ _ _)
      refine hp_iload 5 dX9_copy_138 rfl (?_ : hp_G _ _ _ _ _ _ _ _ _ 140 _ _ _)
      refine hp_isub dX9_copy_140 (?_ : hp_G _ _ _ _ _ _ _ _ _ 141 _ _ _)
      refine hp_icmp_le (tgt := 150) dX9_copy_141 rfl (fun c30 => ?_) (fun c30 => (?_ : hp_G _ _ _ _ _ _ _ _ _ 144 _ _ _))
      · replace hf := ot_ c30 hf
        refine hp_iload_n 3 dX9_copy_150 rfl rfl (?_ : hp_G _ _ _ _ _ _ _ _ _ 151 _ _ _)
        refine hp_iload 5 dX9_copy_151 rfl (?_ : hp_G _ _ _ _ _ _ _ _ _ 153 _ _ _)
        refine hp_icmp_ge (tgt := 160) dX9_copy_153 rfl (fun c31 => ?_) (fun c31 => (?_ : hp_G _ _ _ _ _ _ _ _ _ 156 _ _ _))
        · replace hf := ot_ c31 hf
          refine hp_iconst (v := 0) dX9_copy_160 ic_0 (?_ : hp_G _ _ _ _ _ _ _ _ _ 161 _ _ _)
          exact hp_sub [1, 2, 3, 4, 5, 6] rfl (tjX9_copy_161 l hf kr)
        · replace hf := of_ c31 hf
          refine hp_iconst (v := 1) dX9_copy_156 ic_1 (?_ : hp_G _ _ _ _ _ _ _ _ _ 157 _ _ _)
          refine hp_goto (tgt := 161) dX9_copy_157 rfl (?_ : hp_G _ _ _ _ _ _ _ _ _ 161 _ _ _)
          exact hp_sub [1, 2, 3, 4, 5, 6] rfl (tjX9_copy_161 l hf kr)
      · replace hf := of_ c30 hf
        refine hp_aload_n 1 dX9_copy_144 rfl rfl (?_ : hp_G _ _ _ _ _ _ _ _ _ 145 _ _ _)
        refine hp_iconst (v := 3) dX9_copy_145 ic_3 (?_ : hp_G _ _ _ _ _ _ _ _ _ 146 _ _ _)
        replace hf := ob_ hf
        obtain ⟨o40, eo40, hf⟩ := hf
        replace hf := ob_ hf
        obtain ⟨r41, er41, hf⟩ := hf
        refine clX9_91 (as := [.int 3]) (st := []) rfl (kX9_fails l er41) rfl (by decide) (Nat.le_of_ble_eq_true rfl) eo40 dX9_copy_146 rfl (?_ : hp_G _ _ _ _ _ _ _ _ _ 149 _ _ _)
        obtain rfl := Option.some.inj hf
        exact hp_iret kr (fun z => z) rfl dX9_copy_149
noncomputable def jX9_copy_109 (g : hp_H)  (u0 : Nat) (u1 : Int32) (u2 : Int32) (u3 : Int32) (u4 : Int32) (u5 : Int32)  : Option (Int32 × hp_H) :=
jX9_copy_110 g u0 u1 u2 u3 u4 u5 0
set_option maxRecDepth 20000 in
set_option maxHeartbeats 4000000 in
theorem tjX9_copy_109 (l : Launch) {g : hp_H}  {u0 : Nat} {u1 : Int32} {u2 : Int32} {u3 : Int32} {u4 : Int32} {u5 : Int32}  {r : (Int32 × hp_H)} (hf : jX9_copy_109 g u0 u1 u2 u3 u4 u5 = some r) {Q : Option Value → hp_H → Prop} (kr : Q (some (.int r.1)) r.2) : hp_G l mX9_copy none 2 false Q false 0 0 109 [(0, .ref u0), (1, .int u1), (2, .int u2), (3, .int u3), (4, .int u4), (5, .int u5)] [] g := by
  unfold jX9_copy_109 at hf
  refine hp_iconst (v := 0) dX9_copy_109 ic_0 (?_ : hp_G _ _ _ _ _ _ _ _ _ 110 _ _ _)
  exact hp_sub [0, 1, 2, 3, 4, 5] rfl (tjX9_copy_110 l hf kr)
noncomputable def fX9_copy (h : hp_H) (a0 : Nat) (p1 : Int32) (p2 : Int32) (p3 : Int32) (p4 : Int32) (p5 : Int32) : Option (Int32 × hp_H) :=
(pi_ h a0 8 0 0).bind fun h1 =>
(fX9_isSheet h1 p1).bind fun r2 =>
if r2 = 0 then
(some ((-1), h1))
else
((fX9_isSheet h1 p3).bind fun r4 =>
if r4 = 0 then
(some ((-1), h1))
else
((gq_ h1 a0 8 2).bind fun x6 =>
(al_ h1 x6 p1).bind fun x7 =>
if x7 = (-9) then
((hg_o h1 a0 8).bind fun o9 =>
(fX9_fails h1 a0 1).bind fun r10 =>
some (r10.1, r10.2))
else
((gq_ h1 a0 8 2).bind fun x11 =>
(al_ h1 x11 p3).bind fun x12 =>
if x12 = (-9) then
((hg_o h1 a0 8).bind fun o52 =>
(fX9_fails h1 a0 1).bind fun r53 =>
some (r53.1, r53.2))
else
((gq_ h1 a0 8 2).bind fun x14 =>
(al_ h1 x14 p1).bind fun x15 =>
(gq_ h1 a0 8 2).bind fun x16 =>
(al_ h1 x16 p3).bind fun x17 =>
if x15 = x17 then
(if p2 < 0 then
(jX9_copy_109 h1 a0 p1 p2 p3 p4 p5)
else
(if p4 < 0 then
(jX9_copy_109 h1 a0 p1 p2 p3 p4 p5)
else
(if p5 < 0 then
(jX9_copy_109 h1 a0 p1 p2 p3 p4 p5)
else
((gq_ h1 a0 8 3).bind fun x44 =>
(al_ h1 x44 p1).bind fun x45 =>
if x45 < p2 then
(jX9_copy_109 h1 a0 p1 p2 p3 p4 p5)
else
((gq_ h1 a0 8 3).bind fun x47 =>
(al_ h1 x47 p3).bind fun x48 =>
if x48 < p4 then
(jX9_copy_109 h1 a0 p1 p2 p3 p4 p5)
else
(jX9_copy_110 h1 a0 p1 p2 p3 p4 p5 1))))))
else
((hg_o h1 a0 8).bind fun o50 =>
(fX9_fails h1 a0 2).bind fun r51 =>
some (r51.1, r51.2))))))
set_option maxRecDepth 20000 in
set_option maxHeartbeats 4000000 in
theorem tX9_copy (l : Launch) {h : hp_H} {a0 : Nat} {p1 : Int32} {p2 : Int32} {p3 : Int32} {p4 : Int32} {p5 : Int32} {r : (Int32 × hp_H)} (hf : fX9_copy h a0 p1 p2 p3 p4 p5 = some r) {Q : Option Value → hp_H → Prop} (kr : Q (some (.int r.1)) r.2) : hp_G l mX9_copy none 2 false Q false 0 0 0 [(0, .ref a0), (1, .int p1), (2, .int p2), (3, .int p3), (4, .int p4), (5, .int p5)] [] h := by
  unfold fX9_copy at hf
  refine hp_aload_n 0 dX9_copy_0 rfl rfl (?_ : hp_G _ _ _ _ _ _ _ _ _ 1 _ _ _)
  refine hp_iconst (v := 0) dX9_copy_1 ic_0 (?_ : hp_G _ _ _ _ _ _ _ _ _ 2 _ _ _)
  replace hf := ob_ hf
  obtain ⟨h1, eh1, hf⟩ := hf
  refine fpX9_61 rfl dX9_copy_2 eh1 (?_ : hp_G _ _ _ _ _ _ _ _ _ 5 _ _ _)
  refine hp_iload_n 1 dX9_copy_5 rfl rfl (?_ : hp_G _ _ _ _ _ _ _ _ _ 6 _ _ _)
  replace hf := ob_ hf
  obtain ⟨r2, er2, hf⟩ := hf
  refine clX9_81 (as := [.int p1]) (st := []) rfl (kX9_isSheet l er2) rfl (by decide) (Nat.le_of_ble_eq_true rfl) dX9_copy_6 rfl (?_ : hp_G _ _ _ _ _ _ _ _ _ 9 _ _ _)
  refine hp_if_eq (tgt := 19) dX9_copy_9 rfl (fun c3 => ?_) (fun c3 => (?_ : hp_G _ _ _ _ _ _ _ _ _ 12 _ _ _))
  · replace hf := ot_ c3 hf
    refine hp_iconst (v := (-1)) dX9_copy_19 ic_m1 (?_ : hp_G _ _ _ _ _ _ _ _ _ 20 _ _ _)
    obtain rfl := Option.some.inj hf
    exact hp_iret kr (fun z => z) rfl dX9_copy_20
  · replace hf := of_ c3 hf
    refine hp_iload_n 3 dX9_copy_12 rfl rfl (?_ : hp_G _ _ _ _ _ _ _ _ _ 13 _ _ _)
    replace hf := ob_ hf
    obtain ⟨r4, er4, hf⟩ := hf
    refine clX9_81 (as := [.int p3]) (st := []) rfl (kX9_isSheet l er4) rfl (by decide) (Nat.le_of_ble_eq_true rfl) dX9_copy_13 rfl (?_ : hp_G _ _ _ _ _ _ _ _ _ 16 _ _ _)
    refine hp_if_ne (tgt := 21) dX9_copy_16 rfl (fun c5 => ?_) (fun c5 => (?_ : hp_G _ _ _ _ _ _ _ _ _ 19 _ _ _))
    · replace hf := of_ c5 hf
      refine hp_aload_n 0 dX9_copy_21 rfl rfl (?_ : hp_G _ _ _ _ _ _ _ _ _ 22 _ _ _)
      replace hf := ob_ hf
      obtain ⟨x6, ex6, hf⟩ := hf
      refine fgX9_9 rfl dX9_copy_22 ex6 (?_ : hp_G _ _ _ _ _ _ _ _ _ 25 _ _ _)
      refine hp_iload_n 1 dX9_copy_25 rfl rfl (?_ : hp_G _ _ _ _ _ _ _ _ _ 26 _ _ _)
      replace hf := ob_ hf
      obtain ⟨x7, ex7, hf⟩ := hf
      refine hp_iaload dX9_copy_26 ex7 (?_ : hp_G _ _ _ _ _ _ _ _ _ 27 _ _ _)
      refine hp_bipush (v := (-9)) dX9_copy_27 bi_m9 (?_ : hp_G _ _ _ _ _ _ _ _ _ 29 _ _ _)
      refine hp_icmp_eq (tgt := 43) dX9_copy_29 rfl (fun c8 => ?_) (fun c8 => (?_ : hp_G _ _ _ _ _ _ _ _ _ 32 _ _ _))
      · replace hf := ot_ c8 hf
        refine hp_aload_n 0 dX9_copy_43 rfl rfl (?_ : hp_G _ _ _ _ _ _ _ _ _ 44 _ _ _)
        refine hp_iconst (v := 1) dX9_copy_44 ic_1 (?_ : hp_G _ _ _ _ _ _ _ _ _ 45 _ _ _)
        replace hf := ob_ hf
        obtain ⟨o9, eo9, hf⟩ := hf
        replace hf := ob_ hf
        obtain ⟨r10, er10, hf⟩ := hf
        refine clX9_91 (as := [.int 1]) (st := []) rfl (kX9_fails l er10) rfl (by decide) (Nat.le_of_ble_eq_true rfl) eo9 dX9_copy_45 rfl (?_ : hp_G _ _ _ _ _ _ _ _ _ 48 _ _ _)
        obtain rfl := Option.some.inj hf
        exact hp_iret kr (fun z => z) rfl dX9_copy_48
      · replace hf := of_ c8 hf
        refine hp_aload_n 0 dX9_copy_32 rfl rfl (?_ : hp_G _ _ _ _ _ _ _ _ _ 33 _ _ _)
        replace hf := ob_ hf
        obtain ⟨x11, ex11, hf⟩ := hf
        refine fgX9_9 rfl dX9_copy_33 ex11 (?_ : hp_G _ _ _ _ _ _ _ _ _ 36 _ _ _)
        refine hp_iload_n 3 dX9_copy_36 rfl rfl (?_ : hp_G _ _ _ _ _ _ _ _ _ 37 _ _ _)
        replace hf := ob_ hf
        obtain ⟨x12, ex12, hf⟩ := hf
        refine hp_iaload dX9_copy_37 ex12 (?_ : hp_G _ _ _ _ _ _ _ _ _ 38 _ _ _)
        refine hp_bipush (v := (-9)) dX9_copy_38 bi_m9 (?_ : hp_G _ _ _ _ _ _ _ _ _ 40 _ _ _)
        refine hp_icmp_ne (tgt := 49) dX9_copy_40 rfl (fun c13 => ?_) (fun c13 => (?_ : hp_G _ _ _ _ _ _ _ _ _ 43 _ _ _))
        · replace hf := of_ c13 hf
          refine hp_aload_n 0 dX9_copy_49 rfl rfl (?_ : hp_G _ _ _ _ _ _ _ _ _ 50 _ _ _)
          replace hf := ob_ hf
          obtain ⟨x14, ex14, hf⟩ := hf
          refine fgX9_9 rfl dX9_copy_50 ex14 (?_ : hp_G _ _ _ _ _ _ _ _ _ 53 _ _ _)
          refine hp_iload_n 1 dX9_copy_53 rfl rfl (?_ : hp_G _ _ _ _ _ _ _ _ _ 54 _ _ _)
          replace hf := ob_ hf
          obtain ⟨x15, ex15, hf⟩ := hf
          refine hp_iaload dX9_copy_54 ex15 (?_ : hp_G _ _ _ _ _ _ _ _ _ 55 _ _ _)
          refine hp_aload_n 0 dX9_copy_55 rfl rfl (?_ : hp_G _ _ _ _ _ _ _ _ _ 56 _ _ _)
          replace hf := ob_ hf
          obtain ⟨x16, ex16, hf⟩ := hf
          refine fgX9_9 rfl dX9_copy_56 ex16 (?_ : hp_G _ _ _ _ _ _ _ _ _ 59 _ _ _)
          refine hp_iload_n 3 dX9_copy_59 rfl rfl (?_ : hp_G _ _ _ _ _ _ _ _ _ 60 _ _ _)
          replace hf := ob_ hf
          obtain ⟨x17, ex17, hf⟩ := hf
          refine hp_iaload dX9_copy_60 ex17 (?_ : hp_G _ _ _ _ _ _ _ _ _ 61 _ _ _)
          refine hp_icmp_eq (tgt := 70) dX9_copy_61 rfl (fun c18 => ?_) (fun c18 => (?_ : hp_G _ _ _ _ _ _ _ _ _ 64 _ _ _))
          · replace hf := ot_ c18 hf
            refine hp_iload_n 2 dX9_copy_70 rfl rfl (?_ : hp_G _ _ _ _ _ _ _ _ _ 71 _ _ _)
            refine hp_if_lt (tgt := 109) dX9_copy_71 rfl (fun c19 => ?_) (fun c19 => (?_ : hp_G _ _ _ _ _ _ _ _ _ 74 _ _ _))
            · replace hf := ot_ c19 hf
              exact hp_sub [0, 1, 2, 3, 4, 5] rfl (tjX9_copy_109 l hf kr)
            · replace hf := of_ c19 hf
              refine hp_iload 4 dX9_copy_74 rfl (?_ : hp_G _ _ _ _ _ _ _ _ _ 76 _ _ _)
              refine hp_if_lt (tgt := 109) dX9_copy_76 rfl (fun c42 => ?_) (fun c42 => (?_ : hp_G _ _ _ _ _ _ _ _ _ 79 _ _ _))
              · replace hf := ot_ c42 hf
                exact hp_sub [0, 1, 2, 3, 4, 5] rfl (tjX9_copy_109 l hf kr)
              · replace hf := of_ c42 hf
                refine hp_iload 5 dX9_copy_79 rfl (?_ : hp_G _ _ _ _ _ _ _ _ _ 81 _ _ _)
                refine hp_if_lt (tgt := 109) dX9_copy_81 rfl (fun c43 => ?_) (fun c43 => (?_ : hp_G _ _ _ _ _ _ _ _ _ 84 _ _ _))
                · replace hf := ot_ c43 hf
                  exact hp_sub [0, 1, 2, 3, 4, 5] rfl (tjX9_copy_109 l hf kr)
                · replace hf := of_ c43 hf
                  refine hp_iload_n 2 dX9_copy_84 rfl rfl (?_ : hp_G _ _ _ _ _ _ _ _ _ 85 _ _ _)
                  refine hp_aload_n 0 dX9_copy_85 rfl rfl (?_ : hp_G _ _ _ _ _ _ _ _ _ 86 _ _ _)
                  replace hf := ob_ hf
                  obtain ⟨x44, ex44, hf⟩ := hf
                  refine fgX9_13 rfl dX9_copy_86 ex44 (?_ : hp_G _ _ _ _ _ _ _ _ _ 89 _ _ _)
                  refine hp_iload_n 1 dX9_copy_89 rfl rfl (?_ : hp_G _ _ _ _ _ _ _ _ _ 90 _ _ _)
                  replace hf := ob_ hf
                  obtain ⟨x45, ex45, hf⟩ := hf
                  refine hp_iaload dX9_copy_90 ex45 (?_ : hp_G _ _ _ _ _ _ _ _ _ 91 _ _ _)
                  refine hp_icmp_gt (tgt := 109) dX9_copy_91 rfl (fun c46 => ?_) (fun c46 => (?_ : hp_G _ _ _ _ _ _ _ _ _ 94 _ _ _))
                  · replace hf := ot_ c46 hf
                    exact hp_sub [0, 1, 2, 3, 4, 5] rfl (tjX9_copy_109 l hf kr)
                  · replace hf := of_ c46 hf
                    refine hp_iload 4 dX9_copy_94 rfl (?_ : hp_G _ _ _ _ _ _ _ _ _ 96 _ _ _)
                    refine hp_aload_n 0 dX9_copy_96 rfl rfl (?_ : hp_G _ _ _ _ _ _ _ _ _ 97 _ _ _)
                    replace hf := ob_ hf
                    obtain ⟨x47, ex47, hf⟩ := hf
                    refine fgX9_13 rfl dX9_copy_97 ex47 (?_ : hp_G _ _ _ _ _ _ _ _ _ 100 _ _ _)
                    refine hp_iload_n 3 dX9_copy_100 rfl rfl (?_ : hp_G _ _ _ _ _ _ _ _ _ 101 _ _ _)
                    replace hf := ob_ hf
                    obtain ⟨x48, ex48, hf⟩ := hf
                    refine hp_iaload dX9_copy_101 ex48 (?_ : hp_G _ _ _ _ _ _ _ _ _ 102 _ _ _)
                    refine hp_icmp_gt (tgt := 109) dX9_copy_102 rfl (fun c49 => ?_) (fun c49 => (?_ : hp_G _ _ _ _ _ _ _ _ _ 105 _ _ _))
                    · replace hf := ot_ c49 hf
                      exact hp_sub [0, 1, 2, 3, 4, 5] rfl (tjX9_copy_109 l hf kr)
                    · replace hf := of_ c49 hf
                      refine hp_iconst (v := 1) dX9_copy_105 ic_1 (?_ : hp_G _ _ _ _ _ _ _ _ _ 106 _ _ _)
                      refine hp_goto (tgt := 110) dX9_copy_106 rfl (?_ : hp_G _ _ _ _ _ _ _ _ _ 110 _ _ _)
                      exact hp_sub [0, 1, 2, 3, 4, 5] rfl (tjX9_copy_110 l hf kr)
          · replace hf := of_ c18 hf
            refine hp_aload_n 0 dX9_copy_64 rfl rfl (?_ : hp_G _ _ _ _ _ _ _ _ _ 65 _ _ _)
            refine hp_iconst (v := 2) dX9_copy_65 ic_2 (?_ : hp_G _ _ _ _ _ _ _ _ _ 66 _ _ _)
            replace hf := ob_ hf
            obtain ⟨o50, eo50, hf⟩ := hf
            replace hf := ob_ hf
            obtain ⟨r51, er51, hf⟩ := hf
            refine clX9_91 (as := [.int 2]) (st := []) rfl (kX9_fails l er51) rfl (by decide) (Nat.le_of_ble_eq_true rfl) eo50 dX9_copy_66 rfl (?_ : hp_G _ _ _ _ _ _ _ _ _ 69 _ _ _)
            obtain rfl := Option.some.inj hf
            exact hp_iret kr (fun z => z) rfl dX9_copy_69
        · replace hf := ot_ c13 hf
          refine hp_aload_n 0 dX9_copy_43 rfl rfl (?_ : hp_G _ _ _ _ _ _ _ _ _ 44 _ _ _)
          refine hp_iconst (v := 1) dX9_copy_44 ic_1 (?_ : hp_G _ _ _ _ _ _ _ _ _ 45 _ _ _)
          replace hf := ob_ hf
          obtain ⟨o52, eo52, hf⟩ := hf
          replace hf := ob_ hf
          obtain ⟨r53, er53, hf⟩ := hf
          refine clX9_91 (as := [.int 1]) (st := []) rfl (kX9_fails l er53) rfl (by decide) (Nat.le_of_ble_eq_true rfl) eo52 dX9_copy_45 rfl (?_ : hp_G _ _ _ _ _ _ _ _ _ 48 _ _ _)
          obtain rfl := Option.some.inj hf
          exact hp_iret kr (fun z => z) rfl dX9_copy_48
    · replace hf := ot_ c5 hf
      refine hp_iconst (v := (-1)) dX9_copy_19 ic_m1 (?_ : hp_G _ _ _ _ _ _ _ _ _ 20 _ _ _)
      obtain rfl := Option.some.inj hf
      exact hp_iret kr (fun z => z) rfl dX9_copy_20
theorem kX9_copy (l : Launch) {h : hp_H} {a0 : Nat} {p1 : Int32} {p2 : Int32} {p3 : Int32} {p4 : Int32} {p5 : Int32} {r : (Int32 × hp_H)} (hf : fX9_copy h a0 p1 p2 p3 p4 p5 = some r) : hp_Cn l yX9_copy mX9_copy 2 false 0 0 [.ref a0, .int p1, .int p2, .int p3, .int p4, .int p5] h (fun v h2 => some (.int r.1) = v ∧ r.2 = h2) :=
  hp_of (by decide) rfl (fun z => by cases z) (Nat.le_of_ble_eq_true rfl) (tX9_copy l hf ⟨rfl, rfl⟩)
noncomputable def fX8_mark (h : hp_H) (a0 : Nat) (p1 : Int32) : Option hp_H :=
(gi_ h a0 7 7).bind fun x1 =>
(pi_ h a0 7 7 ((31 * x1) + p1)).bind fun h2 =>
some h2
set_option maxRecDepth 20000 in
set_option maxHeartbeats 4000000 in
theorem tX8_mark (l : Launch) {h : hp_H} {a0 : Nat} {p1 : Int32} {r : hp_H} (hf : fX8_mark h a0 p1 = some r) {Q : Option Value → hp_H → Prop} (kr : Q (none) r) : hp_G l mX8_mark none 0 false Q false 0 0 0 [(0, .ref a0), (1, .int p1)] [] h := by
  unfold fX8_mark at hf
  refine hp_aload_n 0 dX8_mark_0 rfl rfl (?_ : hp_G _ _ _ _ _ _ _ _ _ 1 _ _ _)
  refine hp_bipush (v := 31) dX8_mark_1 bi_31 (?_ : hp_G _ _ _ _ _ _ _ _ _ 3 _ _ _)
  refine hp_aload_n 0 dX8_mark_3 rfl rfl (?_ : hp_G _ _ _ _ _ _ _ _ _ 4 _ _ _)
  replace hf := ob_ hf
  obtain ⟨x1, ex1, hf⟩ := hf
  refine fgX8_254 rfl dX8_mark_4 ex1 (?_ : hp_G _ _ _ _ _ _ _ _ _ 7 _ _ _)
  refine hp_imul dX8_mark_7 (?_ : hp_G _ _ _ _ _ _ _ _ _ 8 _ _ _)
  refine hp_iload_n 1 dX8_mark_8 rfl rfl (?_ : hp_G _ _ _ _ _ _ _ _ _ 9 _ _ _)
  refine hp_iadd dX8_mark_9 (?_ : hp_G _ _ _ _ _ _ _ _ _ 10 _ _ _)
  replace hf := ob_ hf
  obtain ⟨h2, eh2, hf⟩ := hf
  refine fpX8_254 rfl dX8_mark_10 eh2 (?_ : hp_G _ _ _ _ _ _ _ _ _ 13 _ _ _)
  obtain rfl := Option.some.inj hf
  exact hp_vret kr (fun z => z) rfl dX8_mark_13
theorem kX8_mark (l : Launch) {h : hp_H} {a0 : Nat} {p1 : Int32} {r : hp_H} (hf : fX8_mark h a0 p1 = some r) : hp_Cn l yX8_mark mX8_mark 0 false 0 0 [.ref a0, .int p1] h (fun v h2 => none = v ∧ r = h2) :=
  hp_of (by decide) rfl (fun z => by cases z) (Nat.le_of_ble_eq_true rfl) (tX8_mark l hf ⟨rfl, rfl⟩)
noncomputable def fX8_tellPlayer (h : hp_H) (a0 : Nat) (a1 : Nat) : Option (Int32 × hp_H) :=
(hg_o h a0 7).bind fun o1 =>
(fX8_mark h a0 1).bind fun r2 =>
(gi_ r2 a1 2 1).bind fun x3 =>
some (x3, r2)
set_option maxRecDepth 20000 in
set_option maxHeartbeats 4000000 in
theorem tX8_tellPlayer (l : Launch) {h : hp_H} {a0 : Nat} {a1 : Nat} {r : (Int32 × hp_H)} (hf : fX8_tellPlayer h a0 a1 = some r) {Q : Option Value → hp_H → Prop} (kr : Q (some (.int r.1)) r.2) : hp_G l mX8_tellPlayer none 1 false Q false 0 0 0 [(0, .ref a0), (1, .ref a1)] [] h := by
  unfold fX8_tellPlayer at hf
  refine hp_aload_n 0 dX8_tellPlayer_0 rfl rfl (?_ : hp_G _ _ _ _ _ _ _ _ _ 1 _ _ _)
  refine hp_iconst (v := 1) dX8_tellPlayer_1 ic_1 (?_ : hp_G _ _ _ _ _ _ _ _ _ 2 _ _ _)
  replace hf := ob_ hf
  obtain ⟨o1, eo1, hf⟩ := hf
  replace hf := ob_ hf
  obtain ⟨r2, er2, hf⟩ := hf
  refine clX8_248 (as := [.int 1]) (st := []) rfl (kX8_mark l er2) rfl (by decide) (Nat.le_of_ble_eq_true rfl) eo1 dX8_tellPlayer_2 rfl (?_ : hp_G _ _ _ _ _ _ _ _ _ 5 _ _ _)
  refine hp_aload_n 1 dX8_tellPlayer_5 rfl rfl (?_ : hp_G _ _ _ _ _ _ _ _ _ 6 _ _ _)
  replace hf := ob_ hf
  obtain ⟨x3, ex3, hf⟩ := hf
  refine fgX8_270 rfl dX8_tellPlayer_6 ex3 (?_ : hp_G _ _ _ _ _ _ _ _ _ 9 _ _ _)
  obtain rfl := Option.some.inj hf
  exact hp_iret kr (fun z => z) rfl dX8_tellPlayer_9
theorem kX8_tellPlayer (l : Launch) {h : hp_H} {a0 : Nat} {a1 : Nat} {r : (Int32 × hp_H)} (hf : fX8_tellPlayer h a0 a1 = some r) : hp_Cn l yX8_tellPlayer mX8_tellPlayer 1 false 0 0 [.ref a0, .ref a1] h (fun v h2 => some (.int r.1) = v ∧ r.2 = h2) :=
  hp_of (by decide) rfl (fun z => by cases z) (Nat.le_of_ble_eq_true rfl) (tX8_tellPlayer l hf ⟨rfl, rfl⟩)
