noncomputable def fX8_reading (h : hp_H) (a0 : Nat) (p1 : Int32) (p2 : Int32) (p3 : Int32) (p4 : Int32) : Option (Int32 × hp_H) :=
(gq_ h a0 7 0).bind fun x1 =>
(hg_o h x1 6).bind fun o2 =>
(fX7_hasTwo h x1 p1 p2).bind fun r3 =>
if r3 = 0 then
(some ((-1), h))
else
(if p3 < 0 then
(some ((-2), h))
else
(if (1 : Int32) < p3 then
(some ((-2), h))
else
(if p4 < 0 then
(some ((-2), h))
else
(if p4 ≤ 2 then
((gq_ h a0 7 2).bind fun x9 =>
(hg_o h x9 0).bind fun o10 =>
(fX0_note h x9 p1 p2 p3 p4).bind fun r11 =>
some (r11.1, r11.2))
else
(some ((-2), h))))))
set_option maxRecDepth 20000 in
set_option maxHeartbeats 4000000 in
theorem tX8_reading (l : Launch) {h : hp_H} {a0 : Nat} {p1 : Int32} {p2 : Int32} {p3 : Int32} {p4 : Int32} {r : (Int32 × hp_H)} (hf : fX8_reading h a0 p1 p2 p3 p4 = some r) {Q : Option Value → hp_H → Prop} (kr : Q (some (.int r.1)) r.2) : hp_G l mX8_reading none 2 false Q false 0 0 0 [(0, .ref a0), (1, .int p1), (2, .int p2), (3, .int p3), (4, .int p4)] [] h := by
  unfold fX8_reading at hf
  refine hp_aload_n 0 dX8_reading_0 rfl rfl (?_ : hp_G _ _ _ _ _ _ _ _ _ 1 _ _ _)
  replace hf := ob_ hf
  obtain ⟨x1, ex1, hf⟩ := hf
  refine fgX8_12 rfl dX8_reading_1 ex1 (?_ : hp_G _ _ _ _ _ _ _ _ _ 4 _ _ _)
  refine hp_iload_n 1 dX8_reading_4 rfl rfl (?_ : hp_G _ _ _ _ _ _ _ _ _ 5 _ _ _)
  refine hp_iload_n 2 dX8_reading_5 rfl rfl (?_ : hp_G _ _ _ _ _ _ _ _ _ 6 _ _ _)
  replace hf := ob_ hf
  obtain ⟨o2, eo2, hf⟩ := hf
  replace hf := ob_ hf
  obtain ⟨r3, er3, hf⟩ := hf
  refine clX8_119 (as := [.int p1, .int p2]) (st := []) rfl (kX7_hasTwo l er3) rfl (by decide) (Nat.le_of_ble_eq_true rfl) eo2 dX8_reading_6 rfl (?_ : hp_G _ _ _ _ _ _ _ _ _ 9 _ _ _)
  refine hp_if_ne (tgt := 14) dX8_reading_9 rfl (fun c4 => ?_) (fun c4 => (?_ : hp_G _ _ _ _ _ _ _ _ _ 12 _ _ _))
  · replace hf := of_ c4 hf
    refine hp_iload_n 3 dX8_reading_14 rfl rfl (?_ : hp_G _ _ _ _ _ _ _ _ _ 15 _ _ _)
    refine hp_if_lt (tgt := 34) dX8_reading_15 rfl (fun c5 => ?_) (fun c5 => (?_ : hp_G _ _ _ _ _ _ _ _ _ 18 _ _ _))
    · replace hf := ot_ c5 hf
      refine hp_bipush (v := (-2)) dX8_reading_34 bi_m2 (?_ : hp_G _ _ _ _ _ _ _ _ _ 36 _ _ _)
      obtain rfl := Option.some.inj hf
      exact hp_iret kr (fun z => z) rfl dX8_reading_36
    · replace hf := of_ c5 hf
      refine hp_iload_n 3 dX8_reading_18 rfl rfl (?_ : hp_G _ _ _ _ _ _ _ _ _ 19 _ _ _)
      refine hp_iconst (v := 1) dX8_reading_19 ic_1 (?_ : hp_G _ _ _ _ _ _ _ _ _ 20 _ _ _)
      refine hp_icmp_gt (tgt := 34) dX8_reading_20 rfl (fun c6 => ?_) (fun c6 => (?_ : hp_G _ _ _ _ _ _ _ _ _ 23 _ _ _))
      · replace hf := ot_ c6 hf
        refine hp_bipush (v := (-2)) dX8_reading_34 bi_m2 (?_ : hp_G _ _ _ _ _ _ _ _ _ 36 _ _ _)
        obtain rfl := Option.some.inj hf
        exact hp_iret kr (fun z => z) rfl dX8_reading_36
      · replace hf := of_ c6 hf
        refine hp_iload 4 dX8_reading_23 rfl (?_ : hp_G _ _ _ _ _ _ _ _ _ 25 _ _ _)
        refine hp_if_lt (tgt := 34) dX8_reading_25 rfl (fun c7 => ?_) (fun c7 => (?_ : hp_G _ _ _ _ _ _ _ _ _ 28 _ _ _))
        · replace hf := ot_ c7 hf
          refine hp_bipush (v := (-2)) dX8_reading_34 bi_m2 (?_ : hp_G _ _ _ _ _ _ _ _ _ 36 _ _ _)
          obtain rfl := Option.some.inj hf
          exact hp_iret kr (fun z => z) rfl dX8_reading_36
        · replace hf := of_ c7 hf
          refine hp_iload 4 dX8_reading_28 rfl (?_ : hp_G _ _ _ _ _ _ _ _ _ 30 _ _ _)
          refine hp_iconst (v := 2) dX8_reading_30 ic_2 (?_ : hp_G _ _ _ _ _ _ _ _ _ 31 _ _ _)
          refine hp_icmp_le (tgt := 37) dX8_reading_31 rfl (fun c8 => ?_) (fun c8 => (?_ : hp_G _ _ _ _ _ _ _ _ _ 34 _ _ _))
          · replace hf := ot_ c8 hf
            refine hp_aload_n 0 dX8_reading_37 rfl rfl (?_ : hp_G _ _ _ _ _ _ _ _ _ 38 _ _ _)
            replace hf := ob_ hf
            obtain ⟨x9, ex9, hf⟩ := hf
            refine fgX8_27 rfl dX8_reading_38 ex9 (?_ : hp_G _ _ _ _ _ _ _ _ _ 41 _ _ _)
            refine hp_iload_n 1 dX8_reading_41 rfl rfl (?_ : hp_G _ _ _ _ _ _ _ _ _ 42 _ _ _)
            refine hp_iload_n 2 dX8_reading_42 rfl rfl (?_ : hp_G _ _ _ _ _ _ _ _ _ 43 _ _ _)
            refine hp_iload_n 3 dX8_reading_43 rfl rfl (?_ : hp_G _ _ _ _ _ _ _ _ _ 44 _ _ _)
            refine hp_iload 4 dX8_reading_44 rfl (?_ : hp_G _ _ _ _ _ _ _ _ _ 46 _ _ _)
            replace hf := ob_ hf
            obtain ⟨o10, eo10, hf⟩ := hf
            replace hf := ob_ hf
            obtain ⟨r11, er11, hf⟩ := hf
            refine clX8_194 (as := [.int p1, .int p2, .int p3, .int p4]) (st := []) rfl (kX0_note l er11) rfl (by decide) (Nat.le_of_ble_eq_true rfl) eo10 dX8_reading_46 rfl (?_ : hp_G _ _ _ _ _ _ _ _ _ 49 _ _ _)
            obtain rfl := Option.some.inj hf
            exact hp_iret kr (fun z => z) rfl dX8_reading_49
          · replace hf := of_ c8 hf
            refine hp_bipush (v := (-2)) dX8_reading_34 bi_m2 (?_ : hp_G _ _ _ _ _ _ _ _ _ 36 _ _ _)
            obtain rfl := Option.some.inj hf
            exact hp_iret kr (fun z => z) rfl dX8_reading_36
  · replace hf := ot_ c4 hf
    refine hp_iconst (v := (-1)) dX8_reading_12 ic_m1 (?_ : hp_G _ _ _ _ _ _ _ _ _ 13 _ _ _)
    obtain rfl := Option.some.inj hf
    exact hp_iret kr (fun z => z) rfl dX8_reading_13
theorem kX8_reading (l : Launch) {h : hp_H} {a0 : Nat} {p1 : Int32} {p2 : Int32} {p3 : Int32} {p4 : Int32} {r : (Int32 × hp_H)} (hf : fX8_reading h a0 p1 p2 p3 p4 = some r) : hp_Cn l yX8_reading mX8_reading 2 false 0 0 [.ref a0, .int p1, .int p2, .int p3, .int p4] h (fun v h2 => some (.int r.1) = v ∧ r.2 = h2) :=
  hp_of (by decide) rfl (fun z => by cases z) (Nat.le_of_ble_eq_true rfl) (tX8_reading l hf ⟨rfl, rfl⟩)
noncomputable def fX9_reading (h : hp_H) (a0 : Nat) (p1 : Int32) (p2 : Int32) (p3 : Int32) (p4 : Int32) : Option (Int32 × hp_H) :=
(hg_o h a0 8).bind fun o1 =>
(fX9_areTwo h a0 p1 p2).bind fun r2 =>
if r2 = 0 then
(some ((-1), h))
else
((fX9_within h p3 0 1).bind fun r4 =>
if r4 = 0 then
(some ((-2), h))
else
((fX9_within h p4 0 2).bind fun r6 =>
if r6 = 0 then
(some ((-2), h))
else
((gi_ h a0 8 24).bind fun x8 =>
if x8 = 8 then
(some ((-4), h))
else
((gq_ h a0 8 25).bind fun x10 =>
(gi_ h a0 8 24).bind fun x11 =>
(ax_ h x10 x11 p1).bind fun h12 =>
(gq_ h12 a0 8 26).bind fun x13 =>
(gi_ h12 a0 8 24).bind fun x14 =>
(ax_ h12 x13 x14 p2).bind fun h15 =>
(gq_ h15 a0 8 27).bind fun x16 =>
(gi_ h15 a0 8 24).bind fun x17 =>
(ax_ h15 x16 x17 p3).bind fun h18 =>
(gq_ h18 a0 8 28).bind fun x19 =>
(gi_ h18 a0 8 24).bind fun x20 =>
(ax_ h18 x19 x20 p4).bind fun h21 =>
(gi_ h21 a0 8 24).bind fun x22 =>
(pi_ h21 a0 8 24 (x22 + 1)).bind fun h23 =>
(gi_ h23 a0 8 24).bind fun x24 =>
some (x24 - 1, h23)))))
set_option maxRecDepth 20000 in
set_option maxHeartbeats 4000000 in
theorem tX9_reading (l : Launch) {h : hp_H} {a0 : Nat} {p1 : Int32} {p2 : Int32} {p3 : Int32} {p4 : Int32} {r : (Int32 × hp_H)} (hf : fX9_reading h a0 p1 p2 p3 p4 = some r) {Q : Option Value → hp_H → Prop} (kr : Q (some (.int r.1)) r.2) : hp_G l mX9_reading none 2 false Q false 0 0 0 [(0, .ref a0), (1, .int p1), (2, .int p2), (3, .int p3), (4, .int p4)] [] h := by
  unfold fX9_reading at hf
  refine hp_aload_n 0 dX9_reading_0 rfl rfl (?_ : hp_G _ _ _ _ _ _ _ _ _ 1 _ _ _)
  refine hp_iload_n 1 dX9_reading_1 rfl rfl (?_ : hp_G _ _ _ _ _ _ _ _ _ 2 _ _ _)
  refine hp_iload_n 2 dX9_reading_2 rfl rfl (?_ : hp_G _ _ _ _ _ _ _ _ _ 3 _ _ _)
  replace hf := ob_ hf
  obtain ⟨o1, eo1, hf⟩ := hf
  replace hf := ob_ hf
  obtain ⟨r2, er2, hf⟩ := hf
  refine clX9_129 (as := [.int p1, .int p2]) (st := []) rfl (kX9_areTwo l er2) rfl (by decide) (Nat.le_of_ble_eq_true rfl) eo1 dX9_reading_3 rfl (?_ : hp_G _ _ _ _ _ _ _ _ _ 6 _ _ _)
  refine hp_if_ne (tgt := 11) dX9_reading_6 rfl (fun c3 => ?_) (fun c3 => (?_ : hp_G _ _ _ _ _ _ _ _ _ 9 _ _ _))
  · replace hf := of_ c3 hf
    refine hp_iload_n 3 dX9_reading_11 rfl rfl (?_ : hp_G _ _ _ _ _ _ _ _ _ 12 _ _ _)
    refine hp_iconst (v := 0) dX9_reading_12 ic_0 (?_ : hp_G _ _ _ _ _ _ _ _ _ 13 _ _ _)
    refine hp_iconst (v := 1) dX9_reading_13 ic_1 (?_ : hp_G _ _ _ _ _ _ _ _ _ 14 _ _ _)
    replace hf := ob_ hf
    obtain ⟨r4, er4, hf⟩ := hf
    refine clX9_67 (as := [.int p3, .int 0, .int 1]) (st := []) rfl (kX9_within l er4) rfl (by decide) (Nat.le_of_ble_eq_true rfl) dX9_reading_14 rfl (?_ : hp_G _ _ _ _ _ _ _ _ _ 17 _ _ _)
    refine hp_if_eq (tgt := 30) dX9_reading_17 rfl (fun c5 => ?_) (fun c5 => (?_ : hp_G _ _ _ _ _ _ _ _ _ 20 _ _ _))
    · replace hf := ot_ c5 hf
      refine hp_bipush (v := (-2)) dX9_reading_30 bi_m2 (?_ : hp_G _ _ _ _ _ _ _ _ _ 32 _ _ _)
      obtain rfl := Option.some.inj hf
      exact hp_iret kr (fun z => z) rfl dX9_reading_32
    · replace hf := of_ c5 hf
      refine hp_iload 4 dX9_reading_20 rfl (?_ : hp_G _ _ _ _ _ _ _ _ _ 22 _ _ _)
      refine hp_iconst (v := 0) dX9_reading_22 ic_0 (?_ : hp_G _ _ _ _ _ _ _ _ _ 23 _ _ _)
      refine hp_iconst (v := 2) dX9_reading_23 ic_2 (?_ : hp_G _ _ _ _ _ _ _ _ _ 24 _ _ _)
      replace hf := ob_ hf
      obtain ⟨r6, er6, hf⟩ := hf
      refine clX9_67 (as := [.int p4, .int 0, .int 2]) (st := []) rfl (kX9_within l er6) rfl (by decide) (Nat.le_of_ble_eq_true rfl) dX9_reading_24 rfl (?_ : hp_G _ _ _ _ _ _ _ _ _ 27 _ _ _)
      refine hp_if_ne (tgt := 33) dX9_reading_27 rfl (fun c7 => ?_) (fun c7 => (?_ : hp_G _ _ _ _ _ _ _ _ _ 30 _ _ _))
      · replace hf := of_ c7 hf
        refine hp_aload_n 0 dX9_reading_33 rfl rfl (?_ : hp_G _ _ _ _ _ _ _ _ _ 34 _ _ _)
        replace hf := ob_ hf
        obtain ⟨x8, ex8, hf⟩ := hf
        refine fgX9_107 rfl dX9_reading_34 ex8 (?_ : hp_G _ _ _ _ _ _ _ _ _ 37 _ _ _)
        refine hp_bipush (v := 8) dX9_reading_37 bi_8 (?_ : hp_G _ _ _ _ _ _ _ _ _ 39 _ _ _)
        refine hp_icmp_ne (tgt := 45) dX9_reading_39 rfl (fun c9 => ?_) (fun c9 => (?_ : hp_G _ _ _ _ _ _ _ _ _ 42 _ _ _))
        · replace hf := of_ c9 hf
          refine hp_aload_n 0 dX9_reading_45 rfl rfl (?_ : hp_G _ _ _ _ _ _ _ _ _ 46 _ _ _)
          replace hf := ob_ hf
          obtain ⟨x10, ex10, hf⟩ := hf
          refine fgX9_49 rfl dX9_reading_46 ex10 (?_ : hp_G _ _ _ _ _ _ _ _ _ 49 _ _ _)
          refine hp_aload_n 0 dX9_reading_49 rfl rfl (?_ : hp_G _ _ _ _ _ _ _ _ _ 50 _ _ _)
          replace hf := ob_ hf
          obtain ⟨x11, ex11, hf⟩ := hf
          refine fgX9_107 rfl dX9_reading_50 ex11 (?_ : hp_G _ _ _ _ _ _ _ _ _ 53 _ _ _)
          refine hp_iload_n 1 dX9_reading_53 rfl rfl (?_ : hp_G _ _ _ _ _ _ _ _ _ 54 _ _ _)
          replace hf := ob_ hf
          obtain ⟨h12, eh12, hf⟩ := hf
          refine hp_iastore dX9_reading_54 eh12 (?_ : hp_G _ _ _ _ _ _ _ _ _ 55 _ _ _)
          refine hp_aload_n 0 dX9_reading_55 rfl rfl (?_ : hp_G _ _ _ _ _ _ _ _ _ 56 _ _ _)
          replace hf := ob_ hf
          obtain ⟨x13, ex13, hf⟩ := hf
          refine fgX9_52 rfl dX9_reading_56 ex13 (?_ : hp_G _ _ _ _ _ _ _ _ _ 59 _ _ _)
          refine hp_aload_n 0 dX9_reading_59 rfl rfl (?_ : hp_G _ _ _ _ _ _ _ _ _ 60 _ _ _)
          replace hf := ob_ hf
          obtain ⟨x14, ex14, hf⟩ := hf
          refine fgX9_107 rfl dX9_reading_60 ex14 (?_ : hp_G _ _ _ _ _ _ _ _ _ 63 _ _ _)
          refine hp_iload_n 2 dX9_reading_63 rfl rfl (?_ : hp_G _ _ _ _ _ _ _ _ _ 64 _ _ _)
          replace hf := ob_ hf
          obtain ⟨h15, eh15, hf⟩ := hf
          refine hp_iastore dX9_reading_64 eh15 (?_ : hp_G _ _ _ _ _ _ _ _ _ 65 _ _ _)
          refine hp_aload_n 0 dX9_reading_65 rfl rfl (?_ : hp_G _ _ _ _ _ _ _ _ _ 66 _ _ _)
          replace hf := ob_ hf
          obtain ⟨x16, ex16, hf⟩ := hf
          refine fgX9_55 rfl dX9_reading_66 ex16 (?_ : hp_G _ _ _ _ _ _ _ _ _ 69 _ _ _)
          refine hp_aload_n 0 dX9_reading_69 rfl rfl (?_ : hp_G _ _ _ _ _ _ _ _ _ 70 _ _ _)
          replace hf := ob_ hf
          obtain ⟨x17, ex17, hf⟩ := hf
          refine fgX9_107 rfl dX9_reading_70 ex17 (?_ : hp_G _ _ _ _ _ _ _ _ _ 73 _ _ _)
          refine hp_iload_n 3 dX9_reading_73 rfl rfl (?_ : hp_G _ _ _ _ _ _ _ _ _ 74 _ _ _)
          replace hf := ob_ hf
          obtain ⟨h18, eh18, hf⟩ := hf
          refine hp_iastore dX9_reading_74 eh18 (?_ : hp_G _ _ _ _ _ _ _ _ _ 75 _ _ _)
          refine hp_aload_n 0 dX9_reading_75 rfl rfl (?_ : hp_G _ _ _ _ _ _ _ _ _ 76 _ _ _)
          replace hf := ob_ hf
          obtain ⟨x19, ex19, hf⟩ := hf
          refine fgX9_58 rfl dX9_reading_76 ex19 (?_ : hp_G _ _ _ _ _ _ _ _ _ 79 _ _ _)
          refine hp_aload_n 0 dX9_reading_79 rfl rfl (?_ : hp_G _ _ _ _ _ _ _ _ _ 80 _ _ _)
          replace hf := ob_ hf
          obtain ⟨x20, ex20, hf⟩ := hf
          refine fgX9_107 rfl dX9_reading_80 ex20 (?_ : hp_G _ _ _ _ _ _ _ _ _ 83 _ _ _)
          refine hp_iload 4 dX9_reading_83 rfl (?_ : hp_G _ _ _ _ _ _ _ _ _ 85 _ _ _)
          replace hf := ob_ hf
          obtain ⟨h21, eh21, hf⟩ := hf
          refine hp_iastore dX9_reading_85 eh21 (?_ : hp_G _ _ _ _ _ _ _ _ _ 86 _ _ _)
          refine hp_aload_n 0 dX9_reading_86 rfl rfl (?_ : hp_G _ _ _ _ _ _ _ _ _ 87 _ _ _)
          refine hp_dup dX9_reading_87 rfl (?_ : hp_G _ _ _ _ _ _ _ _ _ 88 _ _ _)
          replace hf := ob_ hf
          obtain ⟨x22, ex22, hf⟩ := hf
          refine fgX9_107 rfl dX9_reading_88 ex22 (?_ : hp_G _ _ _ _ _ _ _ _ _ 91 _ _ _)
          refine hp_iconst (v := 1) dX9_reading_91 ic_1 (?_ : hp_G _ _ _ _ _ _ _ _ _ 92 _ _ _)
          refine hp_iadd dX9_reading_92 (?_ : hp_G _ _ _ _ _ _ _ _ _ 93 _ _ _)
          replace hf := ob_ hf
          obtain ⟨h23, eh23, hf⟩ := hf
          refine fpX9_107 rfl dX9_reading_93 eh23 (?_ : hp_G _ _ _ _ _ _ _ _ _ 96 _ _ _)
          refine hp_aload_n 0 dX9_reading_96 rfl rfl (?_ : hp_G _ _ _ _ _ _ _ _ _ 97 _ _ _)
          replace hf := ob_ hf
          obtain ⟨x24, ex24, hf⟩ := hf
          refine fgX9_107 rfl dX9_reading_97 ex24 (?_ : hp_G _ _ _ _ _ _ _ _ _ 100 _ _ _)
          refine hp_iconst (v := 1) dX9_reading_100 ic_1 (?_ : hp_G _ _ _ _ _ _ _ _ _ 101 _ _ _)
          refine hp_isub dX9_reading_101 (?_ : hp_G _ _ _ _ _ _ _ _ _ 102 _ _ _)
          obtain rfl := Option.some.inj hf
          exact hp_iret kr (fun z => z) rfl dX9_reading_102
        · replace hf := ot_ c9 hf
          refine hp_bipush (v := (-4)) dX9_reading_42 bi_m4 (?_ : hp_G _ _ _ _ _ _ _ _ _ 44 _ _ _)
          obtain rfl := Option.some.inj hf
          exact hp_iret kr (fun z => z) rfl dX9_reading_44
      · replace hf := ot_ c7 hf
        refine hp_bipush (v := (-2)) dX9_reading_30 bi_m2 (?_ : hp_G _ _ _ _ _ _ _ _ _ 32 _ _ _)
        obtain rfl := Option.some.inj hf
        exact hp_iret kr (fun z => z) rfl dX9_reading_32
  · replace hf := ot_ c3 hf
    refine hp_iconst (v := (-1)) dX9_reading_9 ic_m1 (?_ : hp_G _ _ _ _ _ _ _ _ _ 10 _ _ _)
    obtain rfl := Option.some.inj hf
    exact hp_iret kr (fun z => z) rfl dX9_reading_10
theorem kX9_reading (l : Launch) {h : hp_H} {a0 : Nat} {p1 : Int32} {p2 : Int32} {p3 : Int32} {p4 : Int32} {r : (Int32 × hp_H)} (hf : fX9_reading h a0 p1 p2 p3 p4 = some r) : hp_Cn l yX9_reading mX9_reading 2 false 0 0 [.ref a0, .int p1, .int p2, .int p3, .int p4] h (fun v h2 => some (.int r.1) = v ∧ r.2 = h2) :=
  hp_of (by decide) rfl (fun z => by cases z) (Nat.le_of_ble_eq_true rfl) (tX9_reading l hf ⟨rfl, rfl⟩)
noncomputable def fX8_back (h : hp_H) (a0 : Nat) (p1 : Int32) : Option (Int32 × hp_H) :=
if p1 < 0 then
(some ((-2), h))
else
((gq_ h a0 7 2).bind fun x2 =>
(gi_ h x2 0 4).bind fun x3 =>
if p1 ≤ x3 then
((gq_ h a0 7 2).bind fun x5 =>
(hg_o h x5 0).bind fun o6 =>
(fX0_forget h x5 p1).bind fun r7 =>
(gq_ r7 a0 7 2).bind fun x8 =>
(gi_ r7 x8 0 4).bind fun x9 =>
some (x9, r7))
else
(some ((-2), h)))
set_option maxRecDepth 20000 in
set_option maxHeartbeats 4000000 in
theorem tX8_back (l : Launch) {h : hp_H} {a0 : Nat} {p1 : Int32} {r : (Int32 × hp_H)} (hf : fX8_back h a0 p1 = some r) {Q : Option Value → hp_H → Prop} (kr : Q (some (.int r.1)) r.2) : hp_G l mX8_back none 2 false Q false 0 0 0 [(0, .ref a0), (1, .int p1)] [] h := by
  unfold fX8_back at hf
  refine hp_iload_n 1 dX8_back_0 rfl rfl (?_ : hp_G _ _ _ _ _ _ _ _ _ 1 _ _ _)
  refine hp_if_lt (tgt := 15) dX8_back_1 rfl (fun c1 => ?_) (fun c1 => (?_ : hp_G _ _ _ _ _ _ _ _ _ 4 _ _ _))
  · replace hf := ot_ c1 hf
    refine hp_bipush (v := (-2)) dX8_back_15 bi_m2 (?_ : hp_G _ _ _ _ _ _ _ _ _ 17 _ _ _)
    obtain rfl := Option.some.inj hf
    exact hp_iret kr (fun z => z) rfl dX8_back_17
  · replace hf := of_ c1 hf
    refine hp_iload_n 1 dX8_back_4 rfl rfl (?_ : hp_G _ _ _ _ _ _ _ _ _ 5 _ _ _)
    refine hp_aload_n 0 dX8_back_5 rfl rfl (?_ : hp_G _ _ _ _ _ _ _ _ _ 6 _ _ _)
    replace hf := ob_ hf
    obtain ⟨x2, ex2, hf⟩ := hf
    refine fgX8_27 rfl dX8_back_6 ex2 (?_ : hp_G _ _ _ _ _ _ _ _ _ 9 _ _ _)
    replace hf := ob_ hf
    obtain ⟨x3, ex3, hf⟩ := hf
    refine fgX8_85 rfl dX8_back_9 ex3 (?_ : hp_G _ _ _ _ _ _ _ _ _ 12 _ _ _)
    refine hp_icmp_le (tgt := 18) dX8_back_12 rfl (fun c4 => ?_) (fun c4 => (?_ : hp_G _ _ _ _ _ _ _ _ _ 15 _ _ _))
    · replace hf := ot_ c4 hf
      refine hp_aload_n 0 dX8_back_18 rfl rfl (?_ : hp_G _ _ _ _ _ _ _ _ _ 19 _ _ _)
      replace hf := ob_ hf
      obtain ⟨x5, ex5, hf⟩ := hf
      refine fgX8_27 rfl dX8_back_19 ex5 (?_ : hp_G _ _ _ _ _ _ _ _ _ 22 _ _ _)
      refine hp_iload_n 1 dX8_back_22 rfl rfl (?_ : hp_G _ _ _ _ _ _ _ _ _ 23 _ _ _)
      replace hf := ob_ hf
      obtain ⟨o6, eo6, hf⟩ := hf
      replace hf := ob_ hf
      obtain ⟨r7, er7, hf⟩ := hf
      refine clX8_88 (as := [.int p1]) (st := []) rfl (kX0_forget l er7) rfl (by decide) (Nat.le_of_ble_eq_true rfl) eo6 dX8_back_23 rfl (?_ : hp_G _ _ _ _ _ _ _ _ _ 26 _ _ _)
      refine hp_aload_n 0 dX8_back_26 rfl rfl (?_ : hp_G _ _ _ _ _ _ _ _ _ 27 _ _ _)
      replace hf := ob_ hf
      obtain ⟨x8, ex8, hf⟩ := hf
      refine fgX8_27 rfl dX8_back_27 ex8 (?_ : hp_G _ _ _ _ _ _ _ _ _ 30 _ _ _)
      replace hf := ob_ hf
      obtain ⟨x9, ex9, hf⟩ := hf
      refine fgX8_85 rfl dX8_back_30 ex9 (?_ : hp_G _ _ _ _ _ _ _ _ _ 33 _ _ _)
      obtain rfl := Option.some.inj hf
      exact hp_iret kr (fun z => z) rfl dX8_back_33
    · replace hf := of_ c4 hf
      refine hp_bipush (v := (-2)) dX8_back_15 bi_m2 (?_ : hp_G _ _ _ _ _ _ _ _ _ 17 _ _ _)
      obtain rfl := Option.some.inj hf
      exact hp_iret kr (fun z => z) rfl dX8_back_17
theorem kX8_back (l : Launch) {h : hp_H} {a0 : Nat} {p1 : Int32} {r : (Int32 × hp_H)} (hf : fX8_back h a0 p1 = some r) : hp_Cn l yX8_back mX8_back 2 false 0 0 [.ref a0, .int p1] h (fun v h2 => some (.int r.1) = v ∧ r.2 = h2) :=
  hp_of (by decide) rfl (fun z => by cases z) (Nat.le_of_ble_eq_true rfl) (tX8_back l hf ⟨rfl, rfl⟩)
noncomputable def fX9_back (h : hp_H) (a0 : Nat) (p1 : Int32) : Option (Int32 × hp_H) :=
(gi_ h a0 8 24).bind fun x1 =>
(fX9_within h p1 0 x1).bind fun r2 =>
if r2 = 0 then
(some ((-2), h))
else
((gi_ h a0 8 24).bind fun x4 =>
(pi_ h a0 8 24 (x4 - p1)).bind fun h5 =>
(gi_ h5 a0 8 24).bind fun x6 =>
some (x6, h5))
set_option maxRecDepth 20000 in
set_option maxHeartbeats 4000000 in
theorem tX9_back (l : Launch) {h : hp_H} {a0 : Nat} {p1 : Int32} {r : (Int32 × hp_H)} (hf : fX9_back h a0 p1 = some r) {Q : Option Value → hp_H → Prop} (kr : Q (some (.int r.1)) r.2) : hp_G l mX9_back none 1 false Q false 0 0 0 [(0, .ref a0), (1, .int p1)] [] h := by
  unfold fX9_back at hf
  refine hp_iload_n 1 dX9_back_0 rfl rfl (?_ : hp_G _ _ _ _ _ _ _ _ _ 1 _ _ _)
  refine hp_iconst (v := 0) dX9_back_1 ic_0 (?_ : hp_G _ _ _ _ _ _ _ _ _ 2 _ _ _)
  refine hp_aload_n 0 dX9_back_2 rfl rfl (?_ : hp_G _ _ _ _ _ _ _ _ _ 3 _ _ _)
  replace hf := ob_ hf
  obtain ⟨x1, ex1, hf⟩ := hf
  refine fgX9_107 rfl dX9_back_3 ex1 (?_ : hp_G _ _ _ _ _ _ _ _ _ 6 _ _ _)
  replace hf := ob_ hf
  obtain ⟨r2, er2, hf⟩ := hf
  refine clX9_67 (as := [.int p1, .int 0, .int x1]) (st := []) rfl (kX9_within l er2) rfl (by decide) (Nat.le_of_ble_eq_true rfl) dX9_back_6 rfl (?_ : hp_G _ _ _ _ _ _ _ _ _ 9 _ _ _)
  refine hp_if_ne (tgt := 15) dX9_back_9 rfl (fun c3 => ?_) (fun c3 => (?_ : hp_G _ _ _ _ _ _ _ _ _ 12 _ _ _))
  · replace hf := of_ c3 hf
    refine hp_aload_n 0 dX9_back_15 rfl rfl (?_ : hp_G _ _ _ _ _ _ _ _ _ 16 _ _ _)
    refine hp_dup dX9_back_16 rfl (?_ : hp_G _ _ _ _ _ _ _ _ _ 17 _ _ _)
    replace hf := ob_ hf
    obtain ⟨x4, ex4, hf⟩ := hf
    refine fgX9_107 rfl dX9_back_17 ex4 (?_ : hp_G _ _ _ _ _ _ _ _ _ 20 _ _ _)
    refine hp_iload_n 1 dX9_back_20 rfl rfl (?_ : hp_G _ _ _ _ _ _ _ _ _ 21 _ _ _)
    refine hp_isub dX9_back_21 (?_ : hp_G _ _ _ _ _ _ _ _ _ 22 _ _ _)
    replace hf := ob_ hf
    obtain ⟨h5, eh5, hf⟩ := hf
    refine fpX9_107 rfl dX9_back_22 eh5 (?_ : hp_G _ _ _ _ _ _ _ _ _ 25 _ _ _)
    refine hp_aload_n 0 dX9_back_25 rfl rfl (?_ : hp_G _ _ _ _ _ _ _ _ _ 26 _ _ _)
    replace hf := ob_ hf
    obtain ⟨x6, ex6, hf⟩ := hf
    refine fgX9_107 rfl dX9_back_26 ex6 (?_ : hp_G _ _ _ _ _ _ _ _ _ 29 _ _ _)
    obtain rfl := Option.some.inj hf
    exact hp_iret kr (fun z => z) rfl dX9_back_29
  · replace hf := ot_ c3 hf
    refine hp_bipush (v := (-2)) dX9_back_12 bi_m2 (?_ : hp_G _ _ _ _ _ _ _ _ _ 14 _ _ _)
    obtain rfl := Option.some.inj hf
    exact hp_iret kr (fun z => z) rfl dX9_back_14
theorem kX9_back (l : Launch) {h : hp_H} {a0 : Nat} {p1 : Int32} {r : (Int32 × hp_H)} (hf : fX9_back h a0 p1 = some r) : hp_Cn l yX9_back mX9_back 1 false 0 0 [.ref a0, .int p1] h (fun v h2 => some (.int r.1) = v ∧ r.2 = h2) :=
  hp_of (by decide) rfl (fun z => by cases z) (Nat.le_of_ble_eq_true rfl) (tX9_back l hf ⟨rfl, rfl⟩)
noncomputable def fJ6_compare_7cf53 (h : hp_H) (p0 : Int32) (p1 : Int32) : Option Int32 :=
if p1 ≤ p0 then
(if p0 = p1 then
(some 0)
else
(some 1))
else
(some (-1))
set_option maxRecDepth 20000 in
set_option maxHeartbeats 4000000 in
theorem tJ6_compare_7cf53 (l : Launch) {h : hp_H} {p0 : Int32} {p1 : Int32} {r : Int32} (hf : fJ6_compare_7cf53 h p0 p1 = some r) {Q : Option Value → hp_H → Prop} (kr : Q (some (.int r)) h) : hp_G l mJ6_compare_7cf53 none 0 false Q false 0 0 0 [(0, .int p0), (1, .int p1)] [] h := by
  unfold fJ6_compare_7cf53 at hf
  refine hp_iload_n 0 dJ6_compare_7cf53_0 rfl rfl (?_ : hp_G _ _ _ _ _ _ _ _ _ 1 _ _ _)
  refine hp_iload_n 1 dJ6_compare_7cf53_1 rfl rfl (?_ : hp_G _ _ _ _ _ _ _ _ _ 2 _ _ _)
  refine hp_icmp_ge (tgt := 9) dJ6_compare_7cf53_2 rfl (fun c1 => ?_) (fun c1 => (?_ : hp_G _ _ _ _ _ _ _ _ _ 5 _ _ _))
  · replace hf := ot_ c1 hf
    refine hp_iload_n 0 dJ6_compare_7cf53_9 rfl rfl (?_ : hp_G _ _ _ _ _ _ _ _ _ 10 _ _ _)
    refine hp_iload_n 1 dJ6_compare_7cf53_10 rfl rfl (?_ : hp_G _ _ _ _ _ _ _ _ _ 11 _ _ _)
    refine hp_icmp_ne (tgt := 18) dJ6_compare_7cf53_11 rfl (fun c2 => ?_) (fun c2 => (?_ : hp_G _ _ _ _ _ _ _ _ _ 14 _ _ _))
    · replace hf := of_ c2 hf
      refine hp_iconst (v := 1) dJ6_compare_7cf53_18 ic_1 (?_ : hp_G _ _ _ _ _ _ _ _ _ 19 _ _ _)
      obtain rfl := Option.some.inj hf
      exact hp_iret kr (fun z => z) rfl dJ6_compare_7cf53_19
    · replace hf := ot_ c2 hf
      refine hp_iconst (v := 0) dJ6_compare_7cf53_14 ic_0 (?_ : hp_G _ _ _ _ _ _ _ _ _ 15 _ _ _)
      refine hp_goto (tgt := 19) dJ6_compare_7cf53_15 rfl (?_ : hp_G _ _ _ _ _ _ _ _ _ 19 _ _ _)
      obtain rfl := Option.some.inj hf
      exact hp_iret kr (fun z => z) rfl dJ6_compare_7cf53_19
  · replace hf := of_ c1 hf
    refine hp_iconst (v := (-1)) dJ6_compare_7cf53_5 ic_m1 (?_ : hp_G _ _ _ _ _ _ _ _ _ 6 _ _ _)
    refine hp_goto (tgt := 19) dJ6_compare_7cf53_6 rfl (?_ : hp_G _ _ _ _ _ _ _ _ _ 19 _ _ _)
    obtain rfl := Option.some.inj hf
    exact hp_iret kr (fun z => z) rfl dJ6_compare_7cf53_19
theorem kJ6_compare_7cf53 (l : Launch) {h : hp_H} {p0 : Int32} {p1 : Int32} {r : Int32} (hf : fJ6_compare_7cf53 h p0 p1 = some r) : hp_Cn l yJ6_compare_7cf53 mJ6_compare_7cf53 0 false 0 0 [.int p0, .int p1] h (fun v h2 => some (.int r) = v ∧ h = h2) :=
  hp_of (by decide) rfl (fun z => by cases z) (Nat.le_of_ble_eq_true rfl) (tJ6_compare_7cf53 l hf ⟨rfl, rfl⟩)
noncomputable def jX0_resultOf_31 (h : hp_H)  (u3 : Int32) (k0 : Int32) : Option Int32 :=
(fJ6_compare_7cf53 h u3 k0).bind fun r7 =>
some (1 + r7)
set_option maxRecDepth 20000 in
set_option maxHeartbeats 4000000 in
theorem tjX0_resultOf_31 (l : Launch) {h : hp_H}  {u3 : Int32} {k0 : Int32} {r : Int32} (hf : jX0_resultOf_31 h u3 k0 = some r) {Q : Option Value → hp_H → Prop} (kr : Q (some (.int r)) h) : hp_G l mX0_resultOf none 2 false Q false 0 0 31 [(3, .int u3)] [.int k0] h := by
  unfold jX0_resultOf_31 at hf
  refine hp_istore (lv' := [(4, .int k0), (3, .int u3)]) dX0_resultOf_31 (Nat.le_of_ble_eq_true rfl) rfl (?_ : hp_G _ _ _ _ _ _ _ _ _ 33 _ _ _)
  refine hp_iconst (v := 1) dX0_resultOf_33 ic_1 (?_ : hp_G _ _ _ _ _ _ _ _ _ 34 _ _ _)
  refine hp_iload_n 1 dX0_resultOf_34 rfl rfl (?_ : hp_G _ _ _ _ _ _ _ _ _ 35 _ _ _)
  refine hp_iload 0 dX0_resultOf_35 rfl (?_ : hp_G _ _ _ _ _ _ _ _ _ 37 _ _ _)
  replace hf := ob_ hf
  obtain ⟨r7, er7, hf⟩ := hf
  refine clX0_57 (as := [.int u3, .int k0]) (st := [.int 1]) rfl (kJ6_compare_7cf53 l er7) rfl (by decide) (Nat.le_of_ble_eq_true rfl) dX0_resultOf_37 rfl (?_ : hp_G _ _ _ _ _ _ _ _ _ 40 _ _ _)
  refine hp_iadd dX0_resultOf_40 (?_ : hp_G _ _ _ _ _ _ _ _ _ 41 _ _ _)
  obtain rfl := Option.some.inj hf
  exact hp_iret kr (fun z => z) rfl dX0_resultOf_41
noncomputable def jX0_resultOf_15 (h : hp_H)  (u1 : Nat) (u2 : Int32) (k0 : Int32) : Option Int32 :=
if u2 = 0 then
((hg_o h u1 2).bind fun o8 =>
(fX2_best h u1).bind fun r9 =>
jX0_resultOf_31 h k0 r9)
else
((hg_o h u1 2).bind fun o5 =>
(fX2_worst h u1).bind fun r6 =>
jX0_resultOf_31 h k0 r6)
set_option maxRecDepth 20000 in
set_option maxHeartbeats 4000000 in
theorem tjX0_resultOf_15 (l : Launch) {h : hp_H}  {u1 : Nat} {u2 : Int32} {k0 : Int32} {r : Int32} (hf : jX0_resultOf_15 h u1 u2 k0 = some r) {Q : Option Value → hp_H → Prop} (kr : Q (some (.int r)) h) : hp_G l mX0_resultOf none 2 false Q false 0 0 15 [(1, .ref u1), (2, .int u2)] [.int k0] h := by
  unfold jX0_resultOf_15 at hf
  refine hp_istore_n (lv' := [(3, .int k0), (1, .ref u1), (2, .int u2)]) dX0_resultOf_15 rfl (Nat.le_of_ble_eq_true rfl) rfl (?_ : hp_G _ _ _ _ _ _ _ _ _ 16 _ _ _)
  refine hp_iload_n 2 dX0_resultOf_16 rfl rfl (?_ : hp_G _ _ _ _ _ _ _ _ _ 17 _ _ _)
  refine hp_if_ne (tgt := 27) dX0_resultOf_17 rfl (fun c4 => ?_) (fun c4 => (?_ : hp_G _ _ _ _ _ _ _ _ _ 20 _ _ _))
  · replace hf := of_ c4 hf
    refine hp_aload_n 1 dX0_resultOf_27 rfl rfl (?_ : hp_G _ _ _ _ _ _ _ _ _ 28 _ _ _)
    replace hf := ob_ hf
    obtain ⟨o5, eo5, hf⟩ := hf
    replace hf := ob_ hf
    obtain ⟨r6, er6, hf⟩ := hf
    refine clX0_54 (as := []) (st := []) rfl (kX2_worst l er6) rfl (by decide) (Nat.le_of_ble_eq_true rfl) eo5 dX0_resultOf_28 rfl (?_ : hp_G _ _ _ _ _ _ _ _ _ 31 _ _ _)
    exact hp_sub [0] rfl (tjX0_resultOf_31 l hf kr)
  · replace hf := ot_ c4 hf
    refine hp_aload_n 1 dX0_resultOf_20 rfl rfl (?_ : hp_G _ _ _ _ _ _ _ _ _ 21 _ _ _)
    replace hf := ob_ hf
    obtain ⟨o8, eo8, hf⟩ := hf
    replace hf := ob_ hf
    obtain ⟨r9, er9, hf⟩ := hf
    refine clX0_48 (as := []) (st := []) rfl (kX2_best l er9) rfl (by decide) (Nat.le_of_ble_eq_true rfl) eo8 dX0_resultOf_21 rfl (?_ : hp_G _ _ _ _ _ _ _ _ _ 24 _ _ _)
    refine hp_goto (tgt := 31) dX0_resultOf_24 rfl (?_ : hp_G _ _ _ _ _ _ _ _ _ 31 _ _ _)
    exact hp_sub [0] rfl (tjX0_resultOf_31 l hf kr)
noncomputable def fX0_resultOf (h : hp_H) (a0 : Nat) (a1 : Nat) (p2 : Int32) : Option Int32 :=
if p2 = 0 then
((hg_o h a0 2).bind fun o10 =>
(fX2_best h a0).bind fun r11 =>
jX0_resultOf_15 h a1 p2 r11)
else
((hg_o h a0 2).bind fun o2 =>
(fX2_worst h a0).bind fun r3 =>
jX0_resultOf_15 h a1 p2 r3)
set_option maxRecDepth 20000 in
set_option maxHeartbeats 4000000 in
theorem tX0_resultOf (l : Launch) {h : hp_H} {a0 : Nat} {a1 : Nat} {p2 : Int32} {r : Int32} (hf : fX0_resultOf h a0 a1 p2 = some r) {Q : Option Value → hp_H → Prop} (kr : Q (some (.int r)) h) : hp_G l mX0_resultOf none 2 false Q false 0 0 0 [(0, .ref a0), (1, .ref a1), (2, .int p2)] [] h := by
  unfold fX0_resultOf at hf
  refine hp_iload_n 2 dX0_resultOf_0 rfl rfl (?_ : hp_G _ _ _ _ _ _ _ _ _ 1 _ _ _)
  refine hp_if_ne (tgt := 11) dX0_resultOf_1 rfl (fun c1 => ?_) (fun c1 => (?_ : hp_G _ _ _ _ _ _ _ _ _ 4 _ _ _))
  · replace hf := of_ c1 hf
    refine hp_aload_n 0 dX0_resultOf_11 rfl rfl (?_ : hp_G _ _ _ _ _ _ _ _ _ 12 _ _ _)
    replace hf := ob_ hf
    obtain ⟨o2, eo2, hf⟩ := hf
    replace hf := ob_ hf
    obtain ⟨r3, er3, hf⟩ := hf
    refine clX0_54 (as := []) (st := []) rfl (kX2_worst l er3) rfl (by decide) (Nat.le_of_ble_eq_true rfl) eo2 dX0_resultOf_12 rfl (?_ : hp_G _ _ _ _ _ _ _ _ _ 15 _ _ _)
    exact hp_sub [1, 2] rfl (tjX0_resultOf_15 l hf kr)
  · replace hf := ot_ c1 hf
    refine hp_aload_n 0 dX0_resultOf_4 rfl rfl (?_ : hp_G _ _ _ _ _ _ _ _ _ 5 _ _ _)
    replace hf := ob_ hf
    obtain ⟨o10, eo10, hf⟩ := hf
    replace hf := ob_ hf
    obtain ⟨r11, er11, hf⟩ := hf
    refine clX0_48 (as := []) (st := []) rfl (kX2_best l er11) rfl (by decide) (Nat.le_of_ble_eq_true rfl) eo10 dX0_resultOf_5 rfl (?_ : hp_G _ _ _ _ _ _ _ _ _ 8 _ _ _)
    refine hp_goto (tgt := 15) dX0_resultOf_8 rfl (?_ : hp_G _ _ _ _ _ _ _ _ _ 15 _ _ _)
    exact hp_sub [1, 2] rfl (tjX0_resultOf_15 l hf kr)
theorem kX0_resultOf (l : Launch) {h : hp_H} {a0 : Nat} {a1 : Nat} {p2 : Int32} {r : Int32} (hf : fX0_resultOf h a0 a1 p2 = some r) : hp_Cn l yX0_resultOf mX0_resultOf 2 false 0 0 [.ref a0, .ref a1, .int p2] h (fun v h2 => some (.int r) = v ∧ h = h2) :=
  hp_of (by decide) rfl (fun z => by cases z) (Nat.le_of_ble_eq_true rfl) (tX0_resultOf l hf ⟨rfl, rfl⟩)
noncomputable def bX0_agrees_2 (h : hp_H) (v0 : Nat) (v1 : Nat) (s : Int32) : Option (Int32 ⊕ (Unit ⊕ Int32)) :=
(gi_ h v0 0 4).bind fun x1 =>
if x1 ≤ s then
(some (.inr (.inl ())))
else
((gq_ h v0 0 0).bind fun x3 =>
(al_ h x3 s).bind fun x4 =>
(gq_ h v0 0 1).bind fun x5 =>
(al_ h x5 s).bind fun x6 =>
(hg_o h v1 6).bind fun o7 =>
(fX7_hasTwo h v1 x4 x6).bind fun r8 =>
if r8 = 0 then
(some (.inr (.inr 0)))
else
((gq_ h v1 6 0).bind fun x10 =>
(gq_ h v0 0 0).bind fun x11 =>
(al_ h x11 s).bind fun x12 =>
(ql_ h x10 x12).bind fun x13 =>
(gq_ h v1 6 0).bind fun x14 =>
(gq_ h v0 0 1).bind fun x15 =>
(al_ h x15 s).bind fun x16 =>
(ql_ h x14 x16).bind fun x17 =>
(gq_ h v0 0 2).bind fun x18 =>
(al_ h x18 s).bind fun x19 =>
(fX0_resultOf h x13 x17 x19).bind fun r20 =>
(gq_ h v0 0 3).bind fun x21 =>
(al_ h x21 s).bind fun x22 =>
if r20 = x22 then
((some (s + 1)).bind fun x24 =>
some (.inl x24))
else
(some (.inr (.inr 0)))))
set_option maxRecDepth 20000 in
set_option maxHeartbeats 4000000 in
theorem tbX0_agrees_2 (l : Launch) {h : hp_H} {v0 : Nat} {v1 : Nat}  {s : Int32} {r : (Int32 ⊕ (Unit ⊕ Int32))} (hf : bX0_agrees_2 h  v0 v1 s = some r) {Q : Option Value → hp_H → Prop} (kb : ∀ t, r = .inl t → hp_G l mX0_agrees none 3 false Q false 0 0 2 [(0, .ref v0), (1, .ref v1), (2, .int t)] [] h) (ke : ∀ x, r = .inr (.inl x) → hp_G l mX0_agrees none 3 false Q false 0 0 79 [] [] h) (kr : ∀ z, r = .inr (.inr z) → Q (some (.int z)) h) : hp_G l mX0_agrees none 3 false Q false 0 0 2 [(0, .ref v0), (1, .ref v1), (2, .int s)] [] h := by
  unfold bX0_agrees_2 at hf
  refine hp_iload_n 2 dX0_agrees_2 rfl rfl (?_ : hp_G _ _ _ _ _ _ _ _ _ 3 _ _ _)
  refine hp_aload_n 0 dX0_agrees_3 rfl rfl (?_ : hp_G _ _ _ _ _ _ _ _ _ 4 _ _ _)
  replace hf := ob_ hf
  obtain ⟨x1, ex1, hf⟩ := hf
  refine fgX0_24 rfl dX0_agrees_4 ex1 (?_ : hp_G _ _ _ _ _ _ _ _ _ 7 _ _ _)
  refine hp_icmp_ge (tgt := 79) dX0_agrees_7 rfl (fun c2 => ?_) (fun c2 => (?_ : hp_G _ _ _ _ _ _ _ _ _ 10 _ _ _))
  · replace hf := ot_ c2 hf
    obtain rfl := Option.some.inj hf
    exact hp_sub [] rfl (ke _ rfl)
  · replace hf := of_ c2 hf
    refine hp_aload_n 1 dX0_agrees_10 rfl rfl (?_ : hp_G _ _ _ _ _ _ _ _ _ 11 _ _ _)
    refine hp_aload_n 0 dX0_agrees_11 rfl rfl (?_ : hp_G _ _ _ _ _ _ _ _ _ 12 _ _ _)
    replace hf := ob_ hf
    obtain ⟨x3, ex3, hf⟩ := hf
    refine fgX0_9 rfl dX0_agrees_12 ex3 (?_ : hp_G _ _ _ _ _ _ _ _ _ 15 _ _ _)
    refine hp_iload_n 2 dX0_agrees_15 rfl rfl (?_ : hp_G _ _ _ _ _ _ _ _ _ 16 _ _ _)
    replace hf := ob_ hf
    obtain ⟨x4, ex4, hf⟩ := hf
    refine hp_iaload dX0_agrees_16 ex4 (?_ : hp_G _ _ _ _ _ _ _ _ _ 17 _ _ _)
    refine hp_aload_n 0 dX0_agrees_17 rfl rfl (?_ : hp_G _ _ _ _ _ _ _ _ _ 18 _ _ _)
    replace hf := ob_ hf
    obtain ⟨x5, ex5, hf⟩ := hf
    refine fgX0_15 rfl dX0_agrees_18 ex5 (?_ : hp_G _ _ _ _ _ _ _ _ _ 21 _ _ _)
    refine hp_iload_n 2 dX0_agrees_21 rfl rfl (?_ : hp_G _ _ _ _ _ _ _ _ _ 22 _ _ _)
    replace hf := ob_ hf
    obtain ⟨x6, ex6, hf⟩ := hf
    refine hp_iaload dX0_agrees_22 ex6 (?_ : hp_G _ _ _ _ _ _ _ _ _ 23 _ _ _)
    replace hf := ob_ hf
    obtain ⟨o7, eo7, hf⟩ := hf
    replace hf := ob_ hf
    obtain ⟨r8, er8, hf⟩ := hf
    refine clX0_34 (as := [.int x4, .int x6]) (st := []) rfl (kX7_hasTwo l er8) rfl (by decide) (Nat.le_of_ble_eq_true rfl) eo7 dX0_agrees_23 rfl (?_ : hp_G _ _ _ _ _ _ _ _ _ 26 _ _ _)
    refine hp_if_ne (tgt := 31) dX0_agrees_26 rfl (fun c9 => ?_) (fun c9 => (?_ : hp_G _ _ _ _ _ _ _ _ _ 29 _ _ _))
    · replace hf := of_ c9 hf
      refine hp_aload_n 1 dX0_agrees_31 rfl rfl (?_ : hp_G _ _ _ _ _ _ _ _ _ 32 _ _ _)
      replace hf := ob_ hf
      obtain ⟨x10, ex10, hf⟩ := hf
      refine fgX0_40 rfl dX0_agrees_32 ex10 (?_ : hp_G _ _ _ _ _ _ _ _ _ 35 _ _ _)
      refine hp_aload_n 0 dX0_agrees_35 rfl rfl (?_ : hp_G _ _ _ _ _ _ _ _ _ 36 _ _ _)
      replace hf := ob_ hf
      obtain ⟨x11, ex11, hf⟩ := hf
      refine fgX0_9 rfl dX0_agrees_36 ex11 (?_ : hp_G _ _ _ _ _ _ _ _ _ 39 _ _ _)
      refine hp_iload_n 2 dX0_agrees_39 rfl rfl (?_ : hp_G _ _ _ _ _ _ _ _ _ 40 _ _ _)
      replace hf := ob_ hf
      obtain ⟨x12, ex12, hf⟩ := hf
      refine hp_iaload dX0_agrees_40 ex12 (?_ : hp_G _ _ _ _ _ _ _ _ _ 41 _ _ _)
      replace hf := ob_ hf
      obtain ⟨x13, ex13, hf⟩ := hf
      refine hp_aaload dX0_agrees_41 ex13 (?_ : hp_G _ _ _ _ _ _ _ _ _ 42 _ _ _)
      refine hp_aload_n 1 dX0_agrees_42 rfl rfl (?_ : hp_G _ _ _ _ _ _ _ _ _ 43 _ _ _)
      replace hf := ob_ hf
      obtain ⟨x14, ex14, hf⟩ := hf
      refine fgX0_40 rfl dX0_agrees_43 ex14 (?_ : hp_G _ _ _ _ _ _ _ _ _ 46 _ _ _)
      refine hp_aload_n 0 dX0_agrees_46 rfl rfl (?_ : hp_G _ _ _ _ _ _ _ _ _ 47 _ _ _)
      replace hf := ob_ hf
      obtain ⟨x15, ex15, hf⟩ := hf
      refine fgX0_15 rfl dX0_agrees_47 ex15 (?_ : hp_G _ _ _ _ _ _ _ _ _ 50 _ _ _)
      refine hp_iload_n 2 dX0_agrees_50 rfl rfl (?_ : hp_G _ _ _ _ _ _ _ _ _ 51 _ _ _)
      replace hf := ob_ hf
      obtain ⟨x16, ex16, hf⟩ := hf
      refine hp_iaload dX0_agrees_51 ex16 (?_ : hp_G _ _ _ _ _ _ _ _ _ 52 _ _ _)
      replace hf := ob_ hf
      obtain ⟨x17, ex17, hf⟩ := hf
      refine hp_aaload dX0_agrees_52 ex17 (?_ : hp_G _ _ _ _ _ _ _ _ _ 53 _ _ _)
      refine hp_aload_n 0 dX0_agrees_53 rfl rfl (?_ : hp_G _ _ _ _ _ _ _ _ _ 54 _ _ _)
      replace hf := ob_ hf
      obtain ⟨x18, ex18, hf⟩ := hf
      refine fgX0_18 rfl dX0_agrees_54 ex18 (?_ : hp_G _ _ _ _ _ _ _ _ _ 57 _ _ _)
      refine hp_iload_n 2 dX0_agrees_57 rfl rfl (?_ : hp_G _ _ _ _ _ _ _ _ _ 58 _ _ _)
      replace hf := ob_ hf
      obtain ⟨x19, ex19, hf⟩ := hf
      refine hp_iaload dX0_agrees_58 ex19 (?_ : hp_G _ _ _ _ _ _ _ _ _ 59 _ _ _)
      replace hf := ob_ hf
      obtain ⟨r20, er20, hf⟩ := hf
      refine clX0_44 (as := [.ref x13, .ref x17, .int x19]) (st := []) rfl (kX0_resultOf l er20) rfl (by decide) (Nat.le_of_ble_eq_true rfl) dX0_agrees_59 rfl (?_ : hp_G _ _ _ _ _ _ _ _ _ 62 _ _ _)
      refine hp_aload_n 0 dX0_agrees_62 rfl rfl (?_ : hp_G _ _ _ _ _ _ _ _ _ 63 _ _ _)
      replace hf := ob_ hf
      obtain ⟨x21, ex21, hf⟩ := hf
      refine fgX0_21 rfl dX0_agrees_63 ex21 (?_ : hp_G _ _ _ _ _ _ _ _ _ 66 _ _ _)
      refine hp_iload_n 2 dX0_agrees_66 rfl rfl (?_ : hp_G _ _ _ _ _ _ _ _ _ 67 _ _ _)
      replace hf := ob_ hf
      obtain ⟨x22, ex22, hf⟩ := hf
      refine hp_iaload dX0_agrees_67 ex22 (?_ : hp_G _ _ _ _ _ _ _ _ _ 68 _ _ _)
      refine hp_icmp_eq (tgt := 73) dX0_agrees_68 rfl (fun c23 => ?_) (fun c23 => (?_ : hp_G _ _ _ _ _ _ _ _ _ 71 _ _ _))
      · replace hf := ot_ c23 hf
        replace hf := ob_ hf
        obtain ⟨x24, ex24, hf⟩ := hf
        refine hp_iinc (v := x24) (lv' := [(2, .int x24), (0, .ref v0), (1, .ref v1)]) 2 dX0_agrees_73 rfl (hp_inc ic_1 ex24) (Nat.le_of_ble_eq_true rfl) rfl (?_ : hp_G _ _ _ _ _ _ _ _ _ 76 _ _ _)
        refine hp_goto (tgt := 2) dX0_agrees_76 rfl (?_ : hp_G _ _ _ _ _ _ _ _ _ 2 _ _ _)
        obtain rfl := Option.some.inj hf
        exact hp_sub [1, 2, 0] rfl (kb _ rfl)
      · replace hf := of_ c23 hf
        refine hp_iconst (v := 0) dX0_agrees_71 ic_0 (?_ : hp_G _ _ _ _ _ _ _ _ _ 72 _ _ _)
        obtain rfl := Option.some.inj hf
        exact hp_zret (kr _ rfl) (fun z => z) rfl (by decide) dX0_agrees_72
    · replace hf := ot_ c9 hf
      refine hp_iconst (v := 0) dX0_agrees_29 ic_0 (?_ : hp_G _ _ _ _ _ _ _ _ _ 30 _ _ _)
      obtain rfl := Option.some.inj hf
      exact hp_zret (kr _ rfl) (fun z => z) rfl (by decide) dX0_agrees_30
set_option maxRecDepth 20000 in
set_option maxHeartbeats 4000000 in
theorem tlX0_agrees_2 (l : Launch) {h : hp_H} {v0 : Nat} {v1 : Nat}  (q : Nat) {s : Int32} {x : (Unit ⊕ Int32)} (hf : it_ (bX0_agrees_2 h  v0 v1) q s = some x) {Q : Option Value → hp_H → Prop} (ke : ∀ e, x = .inl e → hp_G l mX0_agrees none 3 false Q false 0 0 79 [] [] h) (kr : ∀ z, x = .inr z → Q (some (.int z)) h) : hp_G l mX0_agrees none 3 false Q false 0 0 2 [(0, .ref v0), (1, .ref v1), (2, .int s)] [] h := by
  exact it_rule (f := bX0_agrees_2 h  v0 v1) (fun s => hp_G l mX0_agrees none 3 false Q false 0 0 2 [(0, .ref v0), (1, .ref v1), (2, .int s)] [] h) (fun x => (∀ e, x = .inl e → hp_G l mX0_agrees none 3 false Q false 0 0 79 [] [] h) ∧ (∀ z, x = .inr z → Q (some (.int z)) h)) (fun s r h1 h2 h3 => tbX0_agrees_2 l h1 (fun t e => h2 t e) (fun e he => (h3 _ he).1 _ rfl) (fun z he => (h3 _ he).2 _ rfl)) q s x hf ⟨ke, kr⟩
noncomputable def fX0_agrees (h : hp_H) (a0 : Nat) (a1 : Nat) : Option Int32 :=
(it_ (bX0_agrees_2 h a0 a1) fu_ 0).bind fun x25 =>
match x25 with
| .inl y26 => (some 1)
| .inr z27 => some z27
set_option maxRecDepth 20000 in
set_option maxHeartbeats 4000000 in
theorem tX0_agrees (l : Launch) {h : hp_H} {a0 : Nat} {a1 : Nat} {r : Int32} (hf : fX0_agrees h a0 a1 = some r) {Q : Option Value → hp_H → Prop} (kr : Q (some (.int r)) h) : hp_G l mX0_agrees none 3 false Q false 0 0 0 [(0, .ref a0), (1, .ref a1)] [] h := by
  unfold fX0_agrees at hf
  refine hp_iconst (v := 0) dX0_agrees_0 ic_0 (?_ : hp_G _ _ _ _ _ _ _ _ _ 1 _ _ _)
  refine hp_istore_n (lv' := [(2, .int 0), (0, .ref a0), (1, .ref a1)]) dX0_agrees_1 rfl (Nat.le_of_ble_eq_true rfl) rfl (?_ : hp_G _ _ _ _ _ _ _ _ _ 2 _ _ _)
  replace hf := ob_ hf
  obtain ⟨x25, ex25, hf⟩ := hf
  refine hp_sub [1, 2, 0] rfl ?_
  rcases x25 with y26 | z27
  · (try dsimp only at hf)
    refine tlX0_agrees_2 l fu_ ex25 (fun w hw => ?_) (fun w hw => (by cases hw))
    obtain rfl := Sum.inl.inj hw
    refine hp_iconst (v := 1) dX0_agrees_79 ic_1 (?_ : hp_G _ _ _ _ _ _ _ _ _ 80 _ _ _)
    obtain rfl := Option.some.inj hf
    exact hp_zret kr (fun z => z) rfl (by decide) dX0_agrees_80
  · (try dsimp only at hf)
    refine tlX0_agrees_2 l fu_ ex25 (fun w hw => (by cases hw)) (fun w hw => ?_)
    obtain rfl := Sum.inr.inj hw
    obtain rfl := Option.some.inj hf
    exact kr
theorem kX0_agrees (l : Launch) {h : hp_H} {a0 : Nat} {a1 : Nat} {r : Int32} (hf : fX0_agrees h a0 a1 = some r) : hp_Cn l yX0_agrees mX0_agrees 3 false 0 0 [.ref a0, .ref a1] h (fun v h2 => some (.int r) = v ∧ h = h2) :=
  hp_of (by decide) rfl (fun z => by cases z) (Nat.le_of_ble_eq_true rfl) (tX0_agrees l hf ⟨rfl, rfl⟩)
noncomputable def jX8_agreeing_75_38 (g : hp_H) (v0 : Nat) (v2 : Int32) (v3 : Int32) (v4 : Nat) (v5 : Int32) (u6 : Int32) (u7 : Int32)  : Option ((Int32 × Int32 × hp_H) ⊕ (Int32 × hp_H)) :=
(some (u7 + 1)).bind fun x18 =>
some (.inl (u6, x18, g))
set_option maxRecDepth 20000 in
set_option maxHeartbeats 4000000 in
theorem tjX8_agreeing_75_38 (l : Launch) {g : hp_H} {v0 : Nat} {v2 : Int32} {v3 : Int32} {v4 : Nat} {v5 : Int32} {u6 : Int32} {u7 : Int32}  {r : ((Int32 × Int32 × hp_H) ⊕ (Int32 × hp_H))} (hf : jX8_agreeing_75_38 g v0 v2 v3 v4 v5 u6 u7 = some r) {Q : Option Value → hp_H → Prop} (kb : ∀ t, r = .inl t → hp_G l mX8_agreeing none 4 false Q false 0 0 38 [(0, .ref v0), (2, .int v2), (3, .int v3), (4, .ref v4), (5, .int v5), (6, .int t.1), (7, .int t.2.1)] [] t.2.2) (ke : ∀ x, r = .inr x → hp_G l mX8_agreeing none 4 false Q false 0 0 81 [(2, .int v2), (4, .ref v4), (5, .int v5), (6, .int x.1)] [] x.2) : hp_G l mX8_agreeing none 4 false Q false 0 0 75 [(0, .ref v0), (2, .int v2), (3, .int v3), (4, .ref v4), (5, .int v5), (6, .int u6), (7, .int u7)] [] g := by
  unfold jX8_agreeing_75_38 at hf
  replace hf := ob_ hf
  obtain ⟨x18, ex18, hf⟩ := hf
  refine hp_iinc (v := x18) (lv' := [(7, .int x18), (0, .ref v0), (2, .int v2), (3, .int v3), (4, .ref v4), (5, .int v5), (6, .int u6)]) 6 dX8_agreeing_75 rfl (hp_inc ic_1 ex18) (Nat.le_of_ble_eq_true rfl) rfl (?_ : hp_G _ _ _ _ _ _ _ _ _ 78 _ _ _)
  refine hp_goto (tgt := 38) dX8_agreeing_78 rfl (?_ : hp_G _ _ _ _ _ _ _ _ _ 38 _ _ _)
  obtain rfl := Option.some.inj hf
  exact hp_sub [1, 2, 3, 4, 5, 6, 0] rfl (kb _ rfl)
noncomputable def bX8_agreeing_38 (v0 : Nat) (v2 : Int32) (v3 : Int32) (v4 : Nat) (v5 : Int32) (s : (Int32 × Int32 × hp_H)) : Option ((Int32 × Int32 × hp_H) ⊕ (Int32 × hp_H)) :=
if v3 ≤ s.2.1 then
(some (.inr (s.1, s.2.2)))
else
((hg_o s.2.2 v4 2).bind fun o11 =>
(fX2_setTrait s.2.2 v4 v2 s.2.1).bind fun r12 =>
(gq_ r12 v0 7 2).bind fun x13 =>
(gq_ r12 v0 7 0).bind fun x14 =>
(hg_o r12 x13 0).bind fun o15 =>
(fX0_agrees r12 x13 x14).bind fun r16 =>
if r16 = 0 then
(jX8_agreeing_75_38 r12 v0 v2 v3 v4 v5 s.1 s.2.1)
else
((some (s.1 ||| ((1 : Int32) <<< (s.2.1 &&& 31)))).bind fun x19 =>
jX8_agreeing_75_38 r12 v0 v2 v3 v4 v5 x19 s.2.1))
set_option maxRecDepth 20000 in
set_option maxHeartbeats 4000000 in
theorem tbX8_agreeing_38 (l : Launch) {v0 : Nat} {v2 : Int32} {v3 : Int32} {v4 : Nat} {v5 : Int32}  {s : (Int32 × Int32 × hp_H)} {r : ((Int32 × Int32 × hp_H) ⊕ (Int32 × hp_H))} (hf : bX8_agreeing_38  v0 v2 v3 v4 v5 s = some r) {Q : Option Value → hp_H → Prop} (kb : ∀ t, r = .inl t → hp_G l mX8_agreeing none 4 false Q false 0 0 38 [(0, .ref v0), (2, .int v2), (3, .int v3), (4, .ref v4), (5, .int v5), (6, .int t.1), (7, .int t.2.1)] [] t.2.2) (ke : ∀ x, r = .inr x → hp_G l mX8_agreeing none 4 false Q false 0 0 81 [(2, .int v2), (4, .ref v4), (5, .int v5), (6, .int x.1)] [] x.2) : hp_G l mX8_agreeing none 4 false Q false 0 0 38 [(0, .ref v0), (2, .int v2), (3, .int v3), (4, .ref v4), (5, .int v5), (6, .int s.1), (7, .int s.2.1)] [] s.2.2 := by
  unfold bX8_agreeing_38 at hf
  refine hp_iload 6 dX8_agreeing_38 rfl (?_ : hp_G _ _ _ _ _ _ _ _ _ 40 _ _ _)
  refine hp_iload_n 2 dX8_agreeing_40 rfl rfl (?_ : hp_G _ _ _ _ _ _ _ _ _ 41 _ _ _)
  refine hp_icmp_ge (tgt := 81) dX8_agreeing_41 rfl (fun c10 => ?_) (fun c10 => (?_ : hp_G _ _ _ _ _ _ _ _ _ 44 _ _ _))
  · replace hf := ot_ c10 hf
    obtain rfl := Option.some.inj hf
    exact hp_sub [1, 3, 4, 5] rfl (ke _ rfl)
  · replace hf := of_ c10 hf
    refine hp_aload 3 dX8_agreeing_44 rfl (?_ : hp_G _ _ _ _ _ _ _ _ _ 46 _ _ _)
    refine hp_iload_n 1 dX8_agreeing_46 rfl rfl (?_ : hp_G _ _ _ _ _ _ _ _ _ 47 _ _ _)
    refine hp_iload 6 dX8_agreeing_47 rfl (?_ : hp_G _ _ _ _ _ _ _ _ _ 49 _ _ _)
    replace hf := ob_ hf
    obtain ⟨o11, eo11, hf⟩ := hf
    replace hf := ob_ hf
    obtain ⟨r12, er12, hf⟩ := hf
    refine clX8_263 (as := [.int v2, .int s.2.1]) (st := []) rfl (kX2_setTrait l er12) rfl (by decide) (Nat.le_of_ble_eq_true rfl) eo11 dX8_agreeing_49 rfl (?_ : hp_G _ _ _ _ _ _ _ _ _ 52 _ _ _)
    refine hp_aload_n 0 dX8_agreeing_52 rfl rfl (?_ : hp_G _ _ _ _ _ _ _ _ _ 53 _ _ _)
    replace hf := ob_ hf
    obtain ⟨x13, ex13, hf⟩ := hf
    refine fgX8_27 rfl dX8_agreeing_53 ex13 (?_ : hp_G _ _ _ _ _ _ _ _ _ 56 _ _ _)
    refine hp_aload_n 0 dX8_agreeing_56 rfl rfl (?_ : hp_G _ _ _ _ _ _ _ _ _ 57 _ _ _)
    replace hf := ob_ hf
    obtain ⟨x14, ex14, hf⟩ := hf
    refine fgX8_12 rfl dX8_agreeing_57 ex14 (?_ : hp_G _ _ _ _ _ _ _ _ _ 60 _ _ _)
    replace hf := ob_ hf
    obtain ⟨o15, eo15, hf⟩ := hf
    replace hf := ob_ hf
    obtain ⟨r16, er16, hf⟩ := hf
    refine clX8_266 (as := [.ref x14]) (st := []) rfl (kX0_agrees l er16) rfl (by decide) (Nat.le_of_ble_eq_true rfl) eo15 dX8_agreeing_60 rfl (?_ : hp_G _ _ _ _ _ _ _ _ _ 63 _ _ _)
    refine hp_if_eq (tgt := 75) dX8_agreeing_63 rfl (fun c17 => ?_) (fun c17 => (?_ : hp_G _ _ _ _ _ _ _ _ _ 66 _ _ _))
    · replace hf := ot_ c17 hf
      exact hp_sub [0, 1, 2, 3, 4, 5, 6] rfl (tjX8_agreeing_75_38 l hf kb ke)
    · replace hf := of_ c17 hf
      refine hp_iload 5 dX8_agreeing_66 rfl (?_ : hp_G _ _ _ _ _ _ _ _ _ 68 _ _ _)
      refine hp_iconst (v := 1) dX8_agreeing_68 ic_1 (?_ : hp_G _ _ _ _ _ _ _ _ _ 69 _ _ _)
      refine hp_iload 6 dX8_agreeing_69 rfl (?_ : hp_G _ _ _ _ _ _ _ _ _ 71 _ _ _)
      refine hp_ishl dX8_agreeing_71 (?_ : hp_G _ _ _ _ _ _ _ _ _ 72 _ _ _)
      refine hp_ior dX8_agreeing_72 (?_ : hp_G _ _ _ _ _ _ _ _ _ 73 _ _ _)
      replace hf := ob_ hf
      obtain ⟨x19, ex19, hf⟩ := hf
      refine hp_nmi ex19 ?_
      refine hp_istore (lv' := [(6, .int x19), (0, .ref v0), (2, .int v2), (3, .int v3), (4, .ref v4), (5, .int v5), (7, .int s.2.1)]) dX8_agreeing_73 (Nat.le_of_ble_eq_true rfl) rfl (?_ : hp_G _ _ _ _ _ _ _ _ _ 75 _ _ _)
      exact hp_sub [1, 2, 3, 4, 5, 0, 6] rfl (tjX8_agreeing_75_38 l hf kb ke)
set_option maxRecDepth 20000 in
set_option maxHeartbeats 4000000 in
theorem tlX8_agreeing_38 (l : Launch) {v0 : Nat} {v2 : Int32} {v3 : Int32} {v4 : Nat} {v5 : Int32}  (q : Nat) {s : (Int32 × Int32 × hp_H)} {x : (Int32 × hp_H)} (hf : it_ (bX8_agreeing_38  v0 v2 v3 v4 v5) q s = some x) {Q : Option Value → hp_H → Prop} (ke : ∀ e, x = e → hp_G l mX8_agreeing none 4 false Q false 0 0 81 [(2, .int v2), (4, .ref v4), (5, .int v5), (6, .int e.1)] [] e.2) : hp_G l mX8_agreeing none 4 false Q false 0 0 38 [(0, .ref v0), (2, .int v2), (3, .int v3), (4, .ref v4), (5, .int v5), (6, .int s.1), (7, .int s.2.1)] [] s.2.2 := by
  exact it_rule (f := bX8_agreeing_38  v0 v2 v3 v4 v5) (fun s => hp_G l mX8_agreeing none 4 false Q false 0 0 38 [(0, .ref v0), (2, .int v2), (3, .int v3), (4, .ref v4), (5, .int v5), (6, .int s.1), (7, .int s.2.1)] [] s.2.2) (fun x => (∀ e, x = e → hp_G l mX8_agreeing none 4 false Q false 0 0 81 [(2, .int v2), (4, .ref v4), (5, .int v5), (6, .int e.1)] [] e.2)) (fun s r h1 h2 h3 => tbX8_agreeing_38 l h1 (fun t e => h2 t e) (fun e he => h3 _ he _ rfl)) q s x hf ke
noncomputable def fX8_agreeing (h : hp_H) (a0 : Nat) (p1 : Int32) (p2 : Int32) (p3 : Int32) : Option (Int32 × hp_H) :=
(gq_ h a0 7 0).bind fun x1 =>
(hg_o h x1 6).bind fun o2 =>
(fX7_has h x1 p1).bind fun r3 =>
if r3 = 0 then
(some ((-1), h))
else
((gq_ h a0 7 0).bind fun x5 =>
(gq_ h x5 6 0).bind fun x6 =>
(ql_ h x6 p1).bind fun x7 =>
(hg_o h x7 2).bind fun o8 =>
(fX2_trait h x7 p2).bind fun r9 =>
(it_ (bX8_agreeing_38  a0 p2 p3 x7 r9) fu_ (0, 0, h)).bind fun x20 =>
(hg_o x20.2 x7 2).bind fun o21 =>
(fX2_setTrait x20.2 x7 p2 r9).bind fun r22 =>
some (x20.1, r22))
set_option maxRecDepth 20000 in
set_option maxHeartbeats 4000000 in
theorem tX8_agreeing (l : Launch) {h : hp_H} {a0 : Nat} {p1 : Int32} {p2 : Int32} {p3 : Int32} {r : (Int32 × hp_H)} (hf : fX8_agreeing h a0 p1 p2 p3 = some r) {Q : Option Value → hp_H → Prop} (kr : Q (some (.int r.1)) r.2) : hp_G l mX8_agreeing none 4 false Q false 0 0 0 [(0, .ref a0), (1, .int p1), (2, .int p2), (3, .int p3)] [] h := by
  unfold fX8_agreeing at hf
  refine hp_aload_n 0 dX8_agreeing_0 rfl rfl (?_ : hp_G _ _ _ _ _ _ _ _ _ 1 _ _ _)
  replace hf := ob_ hf
  obtain ⟨x1, ex1, hf⟩ := hf
  refine fgX8_12 rfl dX8_agreeing_1 ex1 (?_ : hp_G _ _ _ _ _ _ _ _ _ 4 _ _ _)
  refine hp_iload_n 1 dX8_agreeing_4 rfl rfl (?_ : hp_G _ _ _ _ _ _ _ _ _ 5 _ _ _)
  replace hf := ob_ hf
  obtain ⟨o2, eo2, hf⟩ := hf
  replace hf := ob_ hf
  obtain ⟨r3, er3, hf⟩ := hf
  refine clX8_93 (as := [.int p1]) (st := []) rfl (kX7_has l er3) rfl (by decide) (Nat.le_of_ble_eq_true rfl) eo2 dX8_agreeing_5 rfl (?_ : hp_G _ _ _ _ _ _ _ _ _ 8 _ _ _)
  refine hp_if_ne (tgt := 13) dX8_agreeing_8 rfl (fun c4 => ?_) (fun c4 => (?_ : hp_G _ _ _ _ _ _ _ _ _ 11 _ _ _))
  · replace hf := of_ c4 hf
    refine hp_aload_n 0 dX8_agreeing_13 rfl rfl (?_ : hp_G _ _ _ _ _ _ _ _ _ 14 _ _ _)
    replace hf := ob_ hf
    obtain ⟨x5, ex5, hf⟩ := hf
    refine fgX8_12 rfl dX8_agreeing_14 ex5 (?_ : hp_G _ _ _ _ _ _ _ _ _ 17 _ _ _)
    replace hf := ob_ hf
    obtain ⟨x6, ex6, hf⟩ := hf
    refine fgX8_96 rfl dX8_agreeing_17 ex6 (?_ : hp_G _ _ _ _ _ _ _ _ _ 20 _ _ _)
    refine hp_iload_n 1 dX8_agreeing_20 rfl rfl (?_ : hp_G _ _ _ _ _ _ _ _ _ 21 _ _ _)
    replace hf := ob_ hf
    obtain ⟨x7, ex7, hf⟩ := hf
    refine hp_aaload dX8_agreeing_21 ex7 (?_ : hp_G _ _ _ _ _ _ _ _ _ 22 _ _ _)
    refine hp_astore (lv' := [(4, .ref x7), (0, .ref a0), (1, .int p1), (2, .int p2), (3, .int p3)]) dX8_agreeing_22 (Nat.le_of_ble_eq_true rfl) rfl (?_ : hp_G _ _ _ _ _ _ _ _ _ 24 _ _ _)
    refine hp_aload 0 dX8_agreeing_24 rfl (?_ : hp_G _ _ _ _ _ _ _ _ _ 26 _ _ _)
    refine hp_iload_n 3 dX8_agreeing_26 rfl rfl (?_ : hp_G _ _ _ _ _ _ _ _ _ 27 _ _ _)
    replace hf := ob_ hf
    obtain ⟨o8, eo8, hf⟩ := hf
    replace hf := ob_ hf
    obtain ⟨r9, er9, hf⟩ := hf
    refine clX8_100 (as := [.int p2]) (st := []) rfl (kX2_trait l er9) rfl (by decide) (Nat.le_of_ble_eq_true rfl) eo8 dX8_agreeing_27 rfl (?_ : hp_G _ _ _ _ _ _ _ _ _ 30 _ _ _)
    refine hp_istore (lv' := [(5, .int r9), (4, .ref x7), (0, .ref a0), (1, .int p1), (2, .int p2), (3, .int p3)]) dX8_agreeing_30 (Nat.le_of_ble_eq_true rfl) rfl (?_ : hp_G _ _ _ _ _ _ _ _ _ 32 _ _ _)
    refine hp_iconst (v := 0) dX8_agreeing_32 ic_0 (?_ : hp_G _ _ _ _ _ _ _ _ _ 33 _ _ _)
    refine hp_istore (lv' := [(6, .int 0), (5, .int r9), (4, .ref x7), (0, .ref a0), (1, .int p1), (2, .int p2), (3, .int p3)]) dX8_agreeing_33 (Nat.le_of_ble_eq_true rfl) rfl (?_ : hp_G _ _ _ _ _ _ _ _ _ 35 _ _ _)
    refine hp_iconst (v := 0) dX8_agreeing_35 ic_0 (?_ : hp_G _ _ _ _ _ _ _ _ _ 36 _ _ _)
    refine hp_istore (lv' := [(7, .int 0), (6, .int 0), (5, .int r9), (4, .ref x7), (0, .ref a0), (1, .int p1), (2, .int p2), (3, .int p3)]) dX8_agreeing_36 (Nat.le_of_ble_eq_true rfl) rfl (?_ : hp_G _ _ _ _ _ _ _ _ _ 38 _ _ _)
    replace hf := ob_ hf
    obtain ⟨x20, ex20, hf⟩ := hf
    refine hp_sub [4, 6, 7, 3, 2, 1, 0] rfl ?_
    refine tlX8_agreeing_38 l fu_ ex20 (fun y hy => ?_)
    obtain rfl := hy
    refine hp_aload 1 dX8_agreeing_81 rfl (?_ : hp_G _ _ _ _ _ _ _ _ _ 83 _ _ _)
    refine hp_iload_n 0 dX8_agreeing_83 rfl rfl (?_ : hp_G _ _ _ _ _ _ _ _ _ 84 _ _ _)
    refine hp_iload 2 dX8_agreeing_84 rfl (?_ : hp_G _ _ _ _ _ _ _ _ _ 86 _ _ _)
    replace hf := ob_ hf
    obtain ⟨o21, eo21, hf⟩ := hf
    replace hf := ob_ hf
    obtain ⟨r22, er22, hf⟩ := hf
    refine clX8_263 (as := [.int p2, .int r9]) (st := []) rfl (kX2_setTrait l er22) rfl (by decide) (Nat.le_of_ble_eq_true rfl) eo21 dX8_agreeing_86 rfl (?_ : hp_G _ _ _ _ _ _ _ _ _ 89 _ _ _)
    refine hp_iload 3 dX8_agreeing_89 rfl (?_ : hp_G _ _ _ _ _ _ _ _ _ 91 _ _ _)
    obtain rfl := Option.some.inj hf
    exact hp_iret kr (fun z => z) rfl dX8_agreeing_91
  · replace hf := ot_ c4 hf
    refine hp_iconst (v := (-1)) dX8_agreeing_11 ic_m1 (?_ : hp_G _ _ _ _ _ _ _ _ _ 12 _ _ _)
    obtain rfl := Option.some.inj hf
    exact hp_iret kr (fun z => z) rfl dX8_agreeing_12
theorem kX8_agreeing (l : Launch) {h : hp_H} {a0 : Nat} {p1 : Int32} {p2 : Int32} {p3 : Int32} {r : (Int32 × hp_H)} (hf : fX8_agreeing h a0 p1 p2 p3 = some r) : hp_Cn l yX8_agreeing mX8_agreeing 4 false 0 0 [.ref a0, .int p1, .int p2, .int p3] h (fun v h2 => some (.int r.1) = v ∧ r.2 = h2) :=
  hp_of (by decide) rfl (fun z => by cases z) (Nat.le_of_ble_eq_true rfl) (tX8_agreeing l hf ⟨rfl, rfl⟩)
noncomputable def fX8_strengths (h : hp_H) (a0 : Nat) (p1 : Int32) : Option (Int32 × hp_H) :=
(hg_o h a0 7).bind fun o1 =>
(fX8_agreeing h a0 p1 1 10).bind fun r2 =>
some (r2.1, r2.2)
set_option maxRecDepth 20000 in
set_option maxHeartbeats 4000000 in
theorem tX8_strengths (l : Launch) {h : hp_H} {a0 : Nat} {p1 : Int32} {r : (Int32 × hp_H)} (hf : fX8_strengths h a0 p1 = some r) {Q : Option Value → hp_H → Prop} (kr : Q (some (.int r.1)) r.2) : hp_G l mX8_strengths none 5 false Q false 0 0 0 [(0, .ref a0), (1, .int p1)] [] h := by
  unfold fX8_strengths at hf
  refine hp_aload_n 0 dX8_strengths_0 rfl rfl (?_ : hp_G _ _ _ _ _ _ _ _ _ 1 _ _ _)
  refine hp_iload_n 1 dX8_strengths_1 rfl rfl (?_ : hp_G _ _ _ _ _ _ _ _ _ 2 _ _ _)
  refine hp_iconst (v := 1) dX8_strengths_2 ic_1 (?_ : hp_G _ _ _ _ _ _ _ _ _ 3 _ _ _)
  refine hp_bipush (v := 10) dX8_strengths_3 bi_10 (?_ : hp_G _ _ _ _ _ _ _ _ _ 5 _ _ _)
  replace hf := ob_ hf
  obtain ⟨o1, eo1, hf⟩ := hf
  replace hf := ob_ hf
  obtain ⟨r2, er2, hf⟩ := hf
  refine clX8_197 (as := [.int p1, .int 1, .int 10]) (st := []) rfl (kX8_agreeing l er2) rfl (by decide) (Nat.le_of_ble_eq_true rfl) eo1 dX8_strengths_5 rfl (?_ : hp_G _ _ _ _ _ _ _ _ _ 8 _ _ _)
  obtain rfl := Option.some.inj hf
  exact hp_iret kr (fun z => z) rfl dX8_strengths_8
theorem kX8_strengths (l : Launch) {h : hp_H} {a0 : Nat} {p1 : Int32} {r : (Int32 × hp_H)} (hf : fX8_strengths h a0 p1 = some r) : hp_Cn l yX8_strengths mX8_strengths 5 false 0 0 [.ref a0, .int p1] h (fun v h2 => some (.int r.1) = v ∧ r.2 = h2) :=
  hp_of (by decide) rfl (fun z => by cases z) (Nat.le_of_ble_eq_true rfl) (tX8_strengths l hf ⟨rfl, rfl⟩)
noncomputable def jX9_areSo_95_2 (h : hp_H) (v0 : Nat) (u1 : Int32) (k0 : Int32) : Option (Int32 ⊕ (Unit ⊕ Int32)) :=
(gq_ h v0 8 28).bind fun x19 =>
(al_ h x19 u1).bind fun x20 =>
if k0 = x20 then
((some (u1 + 1)).bind fun x22 =>
some (.inl x22))
else
(some (.inr (.inr 0)))
set_option maxRecDepth 20000 in
set_option maxHeartbeats 4000000 in
theorem tjX9_areSo_95_2 (l : Launch) {h : hp_H} {v0 : Nat} {u1 : Int32} {k0 : Int32} {r : (Int32 ⊕ (Unit ⊕ Int32))} (hf : jX9_areSo_95_2 h v0 u1 k0 = some r) {Q : Option Value → hp_H → Prop} (kb : ∀ t, r = .inl t → hp_G l mX9_areSo none 2 false Q false 0 0 2 [(0, .ref v0), (1, .int t)] [] h) (ke : ∀ x, r = .inr (.inl x) → hp_G l mX9_areSo none 2 false Q false 0 0 116 [] [] h) (kr : ∀ z, r = .inr (.inr z) → Q (some (.int z)) h) : hp_G l mX9_areSo none 2 false Q false 0 0 95 [(0, .ref v0), (1, .int u1)] [.int k0] h := by
  unfold jX9_areSo_95_2 at hf
  refine hp_istore (lv' := [(6, .int k0), (0, .ref v0), (1, .int u1)]) dX9_areSo_95 (Nat.le_of_ble_eq_true rfl) rfl (?_ : hp_G _ _ _ _ _ _ _ _ _ 97 _ _ _)
  refine hp_iload 0 dX9_areSo_97 rfl (?_ : hp_G _ _ _ _ _ _ _ _ _ 99 _ _ _)
  refine hp_aload_n 1 dX9_areSo_99 rfl rfl (?_ : hp_G _ _ _ _ _ _ _ _ _ 100 _ _ _)
  replace hf := ob_ hf
  obtain ⟨x19, ex19, hf⟩ := hf
  refine fgX9_58 rfl dX9_areSo_100 ex19 (?_ : hp_G _ _ _ _ _ _ _ _ _ 103 _ _ _)
  refine hp_iload_n 2 dX9_areSo_103 rfl rfl (?_ : hp_G _ _ _ _ _ _ _ _ _ 104 _ _ _)
  replace hf := ob_ hf
  obtain ⟨x20, ex20, hf⟩ := hf
  refine hp_iaload dX9_areSo_104 ex20 (?_ : hp_G _ _ _ _ _ _ _ _ _ 105 _ _ _)
  refine hp_icmp_eq (tgt := 110) dX9_areSo_105 rfl (fun c21 => ?_) (fun c21 => (?_ : hp_G _ _ _ _ _ _ _ _ _ 108 _ _ _))
  · replace hf := ot_ c21 hf
    replace hf := ob_ hf
    obtain ⟨x22, ex22, hf⟩ := hf
    refine hp_iinc (v := x22) (lv' := [(1, .int x22), (6, .int k0), (0, .ref v0)]) 2 dX9_areSo_110 rfl (hp_inc ic_1 ex22) (Nat.le_of_ble_eq_true rfl) rfl (?_ : hp_G _ _ _ _ _ _ _ _ _ 113 _ _ _)
    refine hp_goto (tgt := 2) dX9_areSo_113 rfl (?_ : hp_G _ _ _ _ _ _ _ _ _ 2 _ _ _)
    obtain rfl := Option.some.inj hf
    exact hp_sub [2, 0] rfl (kb _ rfl)
  · replace hf := of_ c21 hf
    refine hp_iconst (v := 0) dX9_areSo_108 ic_0 (?_ : hp_G _ _ _ _ _ _ _ _ _ 109 _ _ _)
    obtain rfl := Option.some.inj hf
    exact hp_zret (kr _ rfl) (fun z => z) rfl (by decide) dX9_areSo_109
noncomputable def jX9_areSo_70_2 (h : hp_H) (v0 : Nat) (u1 : Int32) (u4 : Int32) (k0 : Int32) : Option (Int32 ⊕ (Unit ⊕ Int32)) :=
if u4 ≤ k0 then
(if u4 = k0 then
(jX9_areSo_95_2 h v0 u1 1)
else
(jX9_areSo_95_2 h v0 u1 0))
else
(jX9_areSo_95_2 h v0 u1 2)
set_option maxRecDepth 20000 in
set_option maxHeartbeats 4000000 in
theorem tjX9_areSo_70_2 (l : Launch) {h : hp_H} {v0 : Nat} {u1 : Int32} {u4 : Int32} {k0 : Int32} {r : (Int32 ⊕ (Unit ⊕ Int32))} (hf : jX9_areSo_70_2 h v0 u1 u4 k0 = some r) {Q : Option Value → hp_H → Prop} (kb : ∀ t, r = .inl t → hp_G l mX9_areSo none 2 false Q false 0 0 2 [(0, .ref v0), (1, .int t)] [] h) (ke : ∀ x, r = .inr (.inl x) → hp_G l mX9_areSo none 2 false Q false 0 0 116 [] [] h) (kr : ∀ z, r = .inr (.inr z) → Q (some (.int z)) h) : hp_G l mX9_areSo none 2 false Q false 0 0 70 [(0, .ref v0), (1, .int u1), (4, .int u4)] [.int k0] h := by
  unfold jX9_areSo_70_2 at hf
  refine hp_istore (lv' := [(5, .int k0), (0, .ref v0), (1, .int u1), (4, .int u4)]) dX9_areSo_70 (Nat.le_of_ble_eq_true rfl) rfl (?_ : hp_G _ _ _ _ _ _ _ _ _ 72 _ _ _)
  refine hp_iload 3 dX9_areSo_72 rfl (?_ : hp_G _ _ _ _ _ _ _ _ _ 74 _ _ _)
  refine hp_iload 0 dX9_areSo_74 rfl (?_ : hp_G _ _ _ _ _ _ _ _ _ 76 _ _ _)
  refine hp_icmp_le (tgt := 83) dX9_areSo_76 rfl (fun c17 => ?_) (fun c17 => (?_ : hp_G _ _ _ _ _ _ _ _ _ 79 _ _ _))
  · replace hf := ot_ c17 hf
    refine hp_iload 3 dX9_areSo_83 rfl (?_ : hp_G _ _ _ _ _ _ _ _ _ 85 _ _ _)
    refine hp_iload 0 dX9_areSo_85 rfl (?_ : hp_G _ _ _ _ _ _ _ _ _ 87 _ _ _)
    refine hp_icmp_ne (tgt := 94) dX9_areSo_87 rfl (fun c18 => ?_) (fun c18 => (?_ : hp_G _ _ _ _ _ _ _ _ _ 90 _ _ _))
    · replace hf := of_ c18 hf
      refine hp_iconst (v := 0) dX9_areSo_94 ic_0 (?_ : hp_G _ _ _ _ _ _ _ _ _ 95 _ _ _)
      exact hp_sub [1, 2] rfl (tjX9_areSo_95_2 l hf kb ke kr)
    · replace hf := ot_ c18 hf
      refine hp_iconst (v := 1) dX9_areSo_90 ic_1 (?_ : hp_G _ _ _ _ _ _ _ _ _ 91 _ _ _)
      refine hp_goto (tgt := 95) dX9_areSo_91 rfl (?_ : hp_G _ _ _ _ _ _ _ _ _ 95 _ _ _)
      exact hp_sub [1, 2] rfl (tjX9_areSo_95_2 l hf kb ke kr)
  · replace hf := of_ c17 hf
    refine hp_iconst (v := 2) dX9_areSo_79 ic_2 (?_ : hp_G _ _ _ _ _ _ _ _ _ 80 _ _ _)
    refine hp_goto (tgt := 95) dX9_areSo_80 rfl (?_ : hp_G _ _ _ _ _ _ _ _ _ 95 _ _ _)
    exact hp_sub [1, 2] rfl (tjX9_areSo_95_2 l hf kb ke kr)
noncomputable def jX9_areSo_46_2 (h : hp_H) (v0 : Nat) (u1 : Int32) (u3 : Int32) (k0 : Int32) : Option (Int32 ⊕ (Unit ⊕ Int32)) :=
(gq_ h v0 8 27).bind fun x12 =>
(al_ h x12 u1).bind fun x13 =>
if x13 = 0 then
((hg_o h v0 8).bind fun o23 =>
(fX9_bestOf h v0 u3).bind fun r24 =>
jX9_areSo_70_2 h v0 u1 k0 r24)
else
((hg_o h v0 8).bind fun o15 =>
(fX9_worstOf h v0 u3).bind fun r16 =>
jX9_areSo_70_2 h v0 u1 k0 r16)
set_option maxRecDepth 20000 in
set_option maxHeartbeats 4000000 in
theorem tjX9_areSo_46_2 (l : Launch) {h : hp_H} {v0 : Nat} {u1 : Int32} {u3 : Int32} {k0 : Int32} {r : (Int32 ⊕ (Unit ⊕ Int32))} (hf : jX9_areSo_46_2 h v0 u1 u3 k0 = some r) {Q : Option Value → hp_H → Prop} (kb : ∀ t, r = .inl t → hp_G l mX9_areSo none 2 false Q false 0 0 2 [(0, .ref v0), (1, .int t)] [] h) (ke : ∀ x, r = .inr (.inl x) → hp_G l mX9_areSo none 2 false Q false 0 0 116 [] [] h) (kr : ∀ z, r = .inr (.inr z) → Q (some (.int z)) h) : hp_G l mX9_areSo none 2 false Q false 0 0 46 [(0, .ref v0), (1, .int u1), (3, .int u3)] [.int k0] h := by
  unfold jX9_areSo_46_2 at hf
  refine hp_istore (lv' := [(4, .int k0), (0, .ref v0), (1, .int u1), (3, .int u3)]) dX9_areSo_46 (Nat.le_of_ble_eq_true rfl) rfl (?_ : hp_G _ _ _ _ _ _ _ _ _ 48 _ _ _)
  refine hp_aload_n 1 dX9_areSo_48 rfl rfl (?_ : hp_G _ _ _ _ _ _ _ _ _ 49 _ _ _)
  replace hf := ob_ hf
  obtain ⟨x12, ex12, hf⟩ := hf
  refine fgX9_55 rfl dX9_areSo_49 ex12 (?_ : hp_G _ _ _ _ _ _ _ _ _ 52 _ _ _)
  refine hp_iload_n 2 dX9_areSo_52 rfl rfl (?_ : hp_G _ _ _ _ _ _ _ _ _ 53 _ _ _)
  replace hf := ob_ hf
  obtain ⟨x13, ex13, hf⟩ := hf
  refine hp_iaload dX9_areSo_53 ex13 (?_ : hp_G _ _ _ _ _ _ _ _ _ 54 _ _ _)
  refine hp_if_ne (tgt := 65) dX9_areSo_54 rfl (fun c14 => ?_) (fun c14 => (?_ : hp_G _ _ _ _ _ _ _ _ _ 57 _ _ _))
  · replace hf := of_ c14 hf
    refine hp_aload_n 1 dX9_areSo_65 rfl rfl (?_ : hp_G _ _ _ _ _ _ _ _ _ 66 _ _ _)
    refine hp_iload_n 3 dX9_areSo_66 rfl rfl (?_ : hp_G _ _ _ _ _ _ _ _ _ 67 _ _ _)
    replace hf := ob_ hf
    obtain ⟨o15, eo15, hf⟩ := hf
    replace hf := ob_ hf
    obtain ⟨r16, er16, hf⟩ := hf
    refine clX9_123 (as := [.int u3]) (st := []) rfl (kX9_worstOf l er16) rfl (by decide) (Nat.le_of_ble_eq_true rfl) eo15 dX9_areSo_67 rfl (?_ : hp_G _ _ _ _ _ _ _ _ _ 70 _ _ _)
    exact hp_sub [1, 2, 0] rfl (tjX9_areSo_70_2 l hf kb ke kr)
  · replace hf := ot_ c14 hf
    refine hp_aload_n 1 dX9_areSo_57 rfl rfl (?_ : hp_G _ _ _ _ _ _ _ _ _ 58 _ _ _)
    refine hp_iload_n 3 dX9_areSo_58 rfl rfl (?_ : hp_G _ _ _ _ _ _ _ _ _ 59 _ _ _)
    replace hf := ob_ hf
    obtain ⟨o23, eo23, hf⟩ := hf
    replace hf := ob_ hf
    obtain ⟨r24, er24, hf⟩ := hf
    refine clX9_120 (as := [.int u3]) (st := []) rfl (kX9_bestOf l er24) rfl (by decide) (Nat.le_of_ble_eq_true rfl) eo23 dX9_areSo_59 rfl (?_ : hp_G _ _ _ _ _ _ _ _ _ 62 _ _ _)
    refine hp_goto (tgt := 70) dX9_areSo_62 rfl (?_ : hp_G _ _ _ _ _ _ _ _ _ 70 _ _ _)
    exact hp_sub [1, 2, 0] rfl (tjX9_areSo_70_2 l hf kb ke kr)
noncomputable def bX9_areSo_2 (h : hp_H) (v0 : Nat) (s : Int32) : Option (Int32 ⊕ (Unit ⊕ Int32)) :=
(gi_ h v0 8 24).bind fun x1 =>
if x1 ≤ s then
(some (.inr (.inl ())))
else
((gq_ h v0 8 25).bind fun x3 =>
(al_ h x3 s).bind fun x4 =>
(gq_ h v0 8 26).bind fun x5 =>
(al_ h x5 s).bind fun x6 =>
(gq_ h v0 8 27).bind fun x7 =>
(al_ h x7 s).bind fun x8 =>
if x8 = 0 then
((hg_o h v0 8).bind fun o25 =>
(fX9_bestOf h v0 x4).bind fun r26 =>
jX9_areSo_46_2 h v0 s x6 r26)
else
((hg_o h v0 8).bind fun o10 =>
(fX9_worstOf h v0 x4).bind fun r11 =>
jX9_areSo_46_2 h v0 s x6 r11))
set_option maxRecDepth 20000 in
set_option maxHeartbeats 4000000 in
theorem tbX9_areSo_2 (l : Launch) {h : hp_H} {v0 : Nat}  {s : Int32} {r : (Int32 ⊕ (Unit ⊕ Int32))} (hf : bX9_areSo_2 h  v0 s = some r) {Q : Option Value → hp_H → Prop} (kb : ∀ t, r = .inl t → hp_G l mX9_areSo none 2 false Q false 0 0 2 [(0, .ref v0), (1, .int t)] [] h) (ke : ∀ x, r = .inr (.inl x) → hp_G l mX9_areSo none 2 false Q false 0 0 116 [] [] h) (kr : ∀ z, r = .inr (.inr z) → Q (some (.int z)) h) : hp_G l mX9_areSo none 2 false Q false 0 0 2 [(0, .ref v0), (1, .int s)] [] h := by
  unfold bX9_areSo_2 at hf
  refine hp_iload_n 1 dX9_areSo_2 rfl rfl (?_ : hp_G _ _ _ _ _ _ _ _ _ 3 _ _ _)
  refine hp_aload_n 0 dX9_areSo_3 rfl rfl (?_ : hp_G _ _ _ _ _ _ _ _ _ 4 _ _ _)
  replace hf := ob_ hf
  obtain ⟨x1, ex1, hf⟩ := hf
  refine fgX9_107 rfl dX9_areSo_4 ex1 (?_ : hp_G _ _ _ _ _ _ _ _ _ 7 _ _ _)
  refine hp_icmp_ge (tgt := 116) dX9_areSo_7 rfl (fun c2 => ?_) (fun c2 => (?_ : hp_G _ _ _ _ _ _ _ _ _ 10 _ _ _))
  · replace hf := ot_ c2 hf
    obtain rfl := Option.some.inj hf
    exact hp_sub [] rfl (ke _ rfl)
  · replace hf := of_ c2 hf
    refine hp_aload_n 0 dX9_areSo_10 rfl rfl (?_ : hp_G _ _ _ _ _ _ _ _ _ 11 _ _ _)
    replace hf := ob_ hf
    obtain ⟨x3, ex3, hf⟩ := hf
    refine fgX9_49 rfl dX9_areSo_11 ex3 (?_ : hp_G _ _ _ _ _ _ _ _ _ 14 _ _ _)
    refine hp_iload_n 1 dX9_areSo_14 rfl rfl (?_ : hp_G _ _ _ _ _ _ _ _ _ 15 _ _ _)
    replace hf := ob_ hf
    obtain ⟨x4, ex4, hf⟩ := hf
    refine hp_iaload dX9_areSo_15 ex4 (?_ : hp_G _ _ _ _ _ _ _ _ _ 16 _ _ _)
    refine hp_istore_n (lv' := [(2, .int x4), (0, .ref v0), (1, .int s)]) dX9_areSo_16 rfl (Nat.le_of_ble_eq_true rfl) rfl (?_ : hp_G _ _ _ _ _ _ _ _ _ 17 _ _ _)
    refine hp_aload_n 1 dX9_areSo_17 rfl rfl (?_ : hp_G _ _ _ _ _ _ _ _ _ 18 _ _ _)
    replace hf := ob_ hf
    obtain ⟨x5, ex5, hf⟩ := hf
    refine fgX9_52 rfl dX9_areSo_18 ex5 (?_ : hp_G _ _ _ _ _ _ _ _ _ 21 _ _ _)
    refine hp_iload_n 2 dX9_areSo_21 rfl rfl (?_ : hp_G _ _ _ _ _ _ _ _ _ 22 _ _ _)
    replace hf := ob_ hf
    obtain ⟨x6, ex6, hf⟩ := hf
    refine hp_iaload dX9_areSo_22 ex6 (?_ : hp_G _ _ _ _ _ _ _ _ _ 23 _ _ _)
    refine hp_istore_n (lv' := [(3, .int x6), (2, .int x4), (0, .ref v0), (1, .int s)]) dX9_areSo_23 rfl (Nat.le_of_ble_eq_true rfl) rfl (?_ : hp_G _ _ _ _ _ _ _ _ _ 24 _ _ _)
    refine hp_aload_n 2 dX9_areSo_24 rfl rfl (?_ : hp_G _ _ _ _ _ _ _ _ _ 25 _ _ _)
    replace hf := ob_ hf
    obtain ⟨x7, ex7, hf⟩ := hf
    refine fgX9_55 rfl dX9_areSo_25 ex7 (?_ : hp_G _ _ _ _ _ _ _ _ _ 28 _ _ _)
    refine hp_iload_n 3 dX9_areSo_28 rfl rfl (?_ : hp_G _ _ _ _ _ _ _ _ _ 29 _ _ _)
    replace hf := ob_ hf
    obtain ⟨x8, ex8, hf⟩ := hf
    refine hp_iaload dX9_areSo_29 ex8 (?_ : hp_G _ _ _ _ _ _ _ _ _ 30 _ _ _)
    refine hp_if_ne (tgt := 41) dX9_areSo_30 rfl (fun c9 => ?_) (fun c9 => (?_ : hp_G _ _ _ _ _ _ _ _ _ 33 _ _ _))
    · replace hf := of_ c9 hf
      refine hp_aload_n 2 dX9_areSo_41 rfl rfl (?_ : hp_G _ _ _ _ _ _ _ _ _ 42 _ _ _)
      refine hp_iload_n 1 dX9_areSo_42 rfl rfl (?_ : hp_G _ _ _ _ _ _ _ _ _ 43 _ _ _)
      replace hf := ob_ hf
      obtain ⟨o10, eo10, hf⟩ := hf
      replace hf := ob_ hf
      obtain ⟨r11, er11, hf⟩ := hf
      refine clX9_123 (as := [.int x4]) (st := []) rfl (kX9_worstOf l er11) rfl (by decide) (Nat.le_of_ble_eq_true rfl) eo10 dX9_areSo_43 rfl (?_ : hp_G _ _ _ _ _ _ _ _ _ 46 _ _ _)
      exact hp_sub [2, 3, 0] rfl (tjX9_areSo_46_2 l hf kb ke kr)
    · replace hf := ot_ c9 hf
      refine hp_aload_n 2 dX9_areSo_33 rfl rfl (?_ : hp_G _ _ _ _ _ _ _ _ _ 34 _ _ _)
      refine hp_iload_n 1 dX9_areSo_34 rfl rfl (?_ : hp_G _ _ _ _ _ _ _ _ _ 35 _ _ _)
      replace hf := ob_ hf
      obtain ⟨o25, eo25, hf⟩ := hf
      replace hf := ob_ hf
      obtain ⟨r26, er26, hf⟩ := hf
      refine clX9_120 (as := [.int x4]) (st := []) rfl (kX9_bestOf l er26) rfl (by decide) (Nat.le_of_ble_eq_true rfl) eo25 dX9_areSo_35 rfl (?_ : hp_G _ _ _ _ _ _ _ _ _ 38 _ _ _)
      refine hp_goto (tgt := 46) dX9_areSo_38 rfl (?_ : hp_G _ _ _ _ _ _ _ _ _ 46 _ _ _)
      exact hp_sub [2, 3, 0] rfl (tjX9_areSo_46_2 l hf kb ke kr)
set_option maxRecDepth 20000 in
set_option maxHeartbeats 4000000 in
theorem tlX9_areSo_2 (l : Launch) {h : hp_H} {v0 : Nat}  (q : Nat) {s : Int32} {x : (Unit ⊕ Int32)} (hf : it_ (bX9_areSo_2 h  v0) q s = some x) {Q : Option Value → hp_H → Prop} (ke : ∀ e, x = .inl e → hp_G l mX9_areSo none 2 false Q false 0 0 116 [] [] h) (kr : ∀ z, x = .inr z → Q (some (.int z)) h) : hp_G l mX9_areSo none 2 false Q false 0 0 2 [(0, .ref v0), (1, .int s)] [] h := by
  exact it_rule (f := bX9_areSo_2 h  v0) (fun s => hp_G l mX9_areSo none 2 false Q false 0 0 2 [(0, .ref v0), (1, .int s)] [] h) (fun x => (∀ e, x = .inl e → hp_G l mX9_areSo none 2 false Q false 0 0 116 [] [] h) ∧ (∀ z, x = .inr z → Q (some (.int z)) h)) (fun s r h1 h2 h3 => tbX9_areSo_2 l h1 (fun t e => h2 t e) (fun e he => (h3 _ he).1 _ rfl) (fun z he => (h3 _ he).2 _ rfl)) q s x hf ⟨ke, kr⟩
noncomputable def fX9_areSo (h : hp_H) (a0 : Nat) : Option Int32 :=
(it_ (bX9_areSo_2 h a0) fu_ 0).bind fun x27 =>
match x27 with
| .inl y28 => (some 1)
| .inr z29 => some z29
set_option maxRecDepth 20000 in
set_option maxHeartbeats 4000000 in
theorem tX9_areSo (l : Launch) {h : hp_H} {a0 : Nat} {r : Int32} (hf : fX9_areSo h a0 = some r) {Q : Option Value → hp_H → Prop} (kr : Q (some (.int r)) h) : hp_G l mX9_areSo none 2 false Q false 0 0 0 [(0, .ref a0)] [] h := by
  unfold fX9_areSo at hf
  refine hp_iconst (v := 0) dX9_areSo_0 ic_0 (?_ : hp_G _ _ _ _ _ _ _ _ _ 1 _ _ _)
  refine hp_istore_n (lv' := [(1, .int 0), (0, .ref a0)]) dX9_areSo_1 rfl (Nat.le_of_ble_eq_true rfl) rfl (?_ : hp_G _ _ _ _ _ _ _ _ _ 2 _ _ _)
  replace hf := ob_ hf
  obtain ⟨x27, ex27, hf⟩ := hf
  refine hp_sub [1, 0] rfl ?_
  rcases x27 with y28 | z29
  · (try dsimp only at hf)
    refine tlX9_areSo_2 l fu_ ex27 (fun w hw => ?_) (fun w hw => (by cases hw))
    obtain rfl := Sum.inl.inj hw
    refine hp_iconst (v := 1) dX9_areSo_116 ic_1 (?_ : hp_G _ _ _ _ _ _ _ _ _ 117 _ _ _)
    obtain rfl := Option.some.inj hf
    exact hp_zret kr (fun z => z) rfl (by decide) dX9_areSo_117
  · (try dsimp only at hf)
    refine tlX9_areSo_2 l fu_ ex27 (fun w hw => (by cases hw)) (fun w hw => ?_)
    obtain rfl := Sum.inr.inj hw
    obtain rfl := Option.some.inj hf
    exact kr
theorem kX9_areSo (l : Launch) {h : hp_H} {a0 : Nat} {r : Int32} (hf : fX9_areSo h a0 = some r) : hp_Cn l yX9_areSo mX9_areSo 2 false 0 0 [.ref a0] h (fun v h2 => some (.int r) = v ∧ h = h2) :=
  hp_of (by decide) rfl (fun z => by cases z) (Nat.le_of_ble_eq_true rfl) (tX9_areSo l hf ⟨rfl, rfl⟩)
