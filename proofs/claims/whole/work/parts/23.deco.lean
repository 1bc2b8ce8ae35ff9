noncomputable def fX9_fails (h : hp_H) (a0 : Nat) (p1 : Int32) : Option (Int32 × hp_H) :=
(pi_ h a0 8 0 p1).bind fun h1 =>
some ((-10) - p1, h1)
set_option maxRecDepth 20000 in
set_option maxHeartbeats 4000000 in
theorem tX9_fails (l : Launch) {h : hp_H} {a0 : Nat} {p1 : Int32} {r : (Int32 × hp_H)} (hf : fX9_fails h a0 p1 = some r) {Q : Option Value → hp_H → Prop} (kr : Q (some (.int r.1)) r.2) : hp_G l mX9_fails none 0 false Q false 0 0 0 [(0, .ref a0), (1, .int p1)] [] h := by
  unfold fX9_fails at hf
  refine hp_aload_n 0 dX9_fails_0 rfl rfl (?_ : hp_G _ _ _ _ _ _ _ _ _ 1 _ _ _)
  refine hp_iload_n 1 dX9_fails_1 rfl rfl (?_ : hp_G _ _ _ _ _ _ _ _ _ 2 _ _ _)
  replace hf := ob_ hf
  obtain ⟨h1, eh1, hf⟩ := hf
  refine fpX9_61 rfl dX9_fails_2 eh1 (?_ : hp_G _ _ _ _ _ _ _ _ _ 5 _ _ _)
  refine hp_bipush (v := (-10)) dX9_fails_5 bi_m10 (?_ : hp_G _ _ _ _ _ _ _ _ _ 7 _ _ _)
  refine hp_iload_n 1 dX9_fails_7 rfl rfl (?_ : hp_G _ _ _ _ _ _ _ _ _ 8 _ _ _)
  refine hp_isub dX9_fails_8 (?_ : hp_G _ _ _ _ _ _ _ _ _ 9 _ _ _)
  obtain rfl := Option.some.inj hf
  exact hp_iret kr (fun z => z) rfl dX9_fails_9
theorem kX9_fails (l : Launch) {h : hp_H} {a0 : Nat} {p1 : Int32} {r : (Int32 × hp_H)} (hf : fX9_fails h a0 p1 = some r) : hp_Cn l yX9_fails mX9_fails 0 false 0 0 [.ref a0, .int p1] h (fun v h2 => some (.int r.1) = v ∧ r.2 = h2) :=
  hp_of (by decide) rfl (fun z => by cases z) (Nat.le_of_ble_eq_true rfl) (tX9_fails l hf ⟨rfl, rfl⟩)
noncomputable def fX9_isSign (h : hp_H) (a0 : Nat) (p1 : Int32) (p2 : Int32) : Option (Int32 × hp_H) :=
(gi_ h a0 8 11).bind fun x1 =>
if p1 ≤ x1 then
(some (0, h))
else
((gq_ h a0 8 4).bind fun x3 =>
(gi_ h a0 8 11).bind fun x4 =>
(al_ h x3 x4).bind fun x5 =>
if x5 = p2 then
((gi_ h a0 8 11).bind fun x7 =>
(pi_ h a0 8 11 (x7 + 1)).bind fun h8 =>
some (1, h8))
else
(some (0, h)))
set_option maxRecDepth 20000 in
set_option maxHeartbeats 4000000 in
theorem tX9_isSign (l : Launch) {h : hp_H} {a0 : Nat} {p1 : Int32} {p2 : Int32} {r : (Int32 × hp_H)} (hf : fX9_isSign h a0 p1 p2 = some r) {Q : Option Value → hp_H → Prop} (kr : Q (some (.int r.1)) r.2) : hp_G l mX9_isSign none 0 false Q false 0 0 0 [(0, .ref a0), (1, .int p1), (2, .int p2)] [] h := by
  unfold fX9_isSign at hf
  refine hp_aload_n 0 dX9_isSign_0 rfl rfl (?_ : hp_G _ _ _ _ _ _ _ _ _ 1 _ _ _)
  replace hf := ob_ hf
  obtain ⟨x1, ex1, hf⟩ := hf
  refine fgX9_78 rfl dX9_isSign_1 ex1 (?_ : hp_G _ _ _ _ _ _ _ _ _ 4 _ _ _)
  refine hp_iload_n 1 dX9_isSign_4 rfl rfl (?_ : hp_G _ _ _ _ _ _ _ _ _ 5 _ _ _)
  refine hp_icmp_ge (tgt := 21) dX9_isSign_5 rfl (fun c2 => ?_) (fun c2 => (?_ : hp_G _ _ _ _ _ _ _ _ _ 8 _ _ _))
  · replace hf := ot_ c2 hf
    refine hp_iconst (v := 0) dX9_isSign_21 ic_0 (?_ : hp_G _ _ _ _ _ _ _ _ _ 22 _ _ _)
    obtain rfl := Option.some.inj hf
    exact hp_zret kr (fun z => z) rfl (by decide) dX9_isSign_22
  · replace hf := of_ c2 hf
    refine hp_aload_n 0 dX9_isSign_8 rfl rfl (?_ : hp_G _ _ _ _ _ _ _ _ _ 9 _ _ _)
    replace hf := ob_ hf
    obtain ⟨x3, ex3, hf⟩ := hf
    refine fgX9_16 rfl dX9_isSign_9 ex3 (?_ : hp_G _ _ _ _ _ _ _ _ _ 12 _ _ _)
    refine hp_aload_n 0 dX9_isSign_12 rfl rfl (?_ : hp_G _ _ _ _ _ _ _ _ _ 13 _ _ _)
    replace hf := ob_ hf
    obtain ⟨x4, ex4, hf⟩ := hf
    refine fgX9_78 rfl dX9_isSign_13 ex4 (?_ : hp_G _ _ _ _ _ _ _ _ _ 16 _ _ _)
    replace hf := ob_ hf
    obtain ⟨x5, ex5, hf⟩ := hf
    refine hp_iaload dX9_isSign_16 ex5 (?_ : hp_G _ _ _ _ _ _ _ _ _ 17 _ _ _)
    refine hp_iload_n 2 dX9_isSign_17 rfl rfl (?_ : hp_G _ _ _ _ _ _ _ _ _ 18 _ _ _)
    refine hp_icmp_eq (tgt := 23) dX9_isSign_18 rfl (fun c6 => ?_) (fun c6 => (?_ : hp_G _ _ _ _ _ _ _ _ _ 21 _ _ _))
    · replace hf := ot_ c6 hf
      refine hp_aload_n 0 dX9_isSign_23 rfl rfl (?_ : hp_G _ _ _ _ _ _ _ _ _ 24 _ _ _)
      refine hp_dup dX9_isSign_24 rfl (?_ : hp_G _ _ _ _ _ _ _ _ _ 25 _ _ _)
      replace hf := ob_ hf
      obtain ⟨x7, ex7, hf⟩ := hf
      refine fgX9_78 rfl dX9_isSign_25 ex7 (?_ : hp_G _ _ _ _ _ _ _ _ _ 28 _ _ _)
      refine hp_iconst (v := 1) dX9_isSign_28 ic_1 (?_ : hp_G _ _ _ _ _ _ _ _ _ 29 _ _ _)
      refine hp_iadd dX9_isSign_29 (?_ : hp_G _ _ _ _ _ _ _ _ _ 30 _ _ _)
      replace hf := ob_ hf
      obtain ⟨h8, eh8, hf⟩ := hf
      refine fpX9_78 rfl dX9_isSign_30 eh8 (?_ : hp_G _ _ _ _ _ _ _ _ _ 33 _ _ _)
      refine hp_iconst (v := 1) dX9_isSign_33 ic_1 (?_ : hp_G _ _ _ _ _ _ _ _ _ 34 _ _ _)
      obtain rfl := Option.some.inj hf
      exact hp_zret kr (fun z => z) rfl (by decide) dX9_isSign_34
    · replace hf := of_ c6 hf
      refine hp_iconst (v := 0) dX9_isSign_21 ic_0 (?_ : hp_G _ _ _ _ _ _ _ _ _ 22 _ _ _)
      obtain rfl := Option.some.inj hf
      exact hp_zret kr (fun z => z) rfl (by decide) dX9_isSign_22
theorem kX9_isSign (l : Launch) {h : hp_H} {a0 : Nat} {p1 : Int32} {p2 : Int32} {r : (Int32 × hp_H)} (hf : fX9_isSign h a0 p1 p2 = some r) : hp_Cn l yX9_isSign mX9_isSign 0 false 0 0 [.ref a0, .int p1, .int p2] h (fun v h2 => some (.int r.1) = v ∧ r.2 = h2) :=
  hp_of (by decide) rfl (fun z => by cases z) (Nat.le_of_ble_eq_true rfl) (tX9_isSign l hf ⟨rfl, rfl⟩)
noncomputable def fX9_digit (h : hp_H) (a0 : Nat) (p1 : Int32) : Option (Int32 × hp_H) :=
(gi_ h a0 8 11).bind fun x1 =>
if p1 ≤ x1 then
(some ((-9), h))
else
((gq_ h a0 8 4).bind fun x3 =>
(gi_ h a0 8 11).bind fun x4 =>
(al_ h x3 x4).bind fun x5 =>
(fX9_within h x5 48 57).bind fun r6 =>
if r6 = 0 then
(some ((-9), h))
else
((gi_ h a0 8 11).bind fun x8 =>
(pi_ h a0 8 11 (x8 + 1)).bind fun h9 =>
(gq_ h9 a0 8 4).bind fun x10 =>
(gi_ h9 a0 8 11).bind fun x11 =>
(al_ h9 x10 (x11 - 1)).bind fun x12 =>
some (x12 - 48, h9)))
set_option maxRecDepth 20000 in
set_option maxHeartbeats 4000000 in
theorem tX9_digit (l : Launch) {h : hp_H} {a0 : Nat} {p1 : Int32} {r : (Int32 × hp_H)} (hf : fX9_digit h a0 p1 = some r) {Q : Option Value → hp_H → Prop} (kr : Q (some (.int r.1)) r.2) : hp_G l mX9_digit none 1 false Q false 0 0 0 [(0, .ref a0), (1, .int p1)] [] h := by
  unfold fX9_digit at hf
  refine hp_aload_n 0 dX9_digit_0 rfl rfl (?_ : hp_G _ _ _ _ _ _ _ _ _ 1 _ _ _)
  replace hf := ob_ hf
  obtain ⟨x1, ex1, hf⟩ := hf
  refine fgX9_78 rfl dX9_digit_1 ex1 (?_ : hp_G _ _ _ _ _ _ _ _ _ 4 _ _ _)
  refine hp_iload_n 1 dX9_digit_4 rfl rfl (?_ : hp_G _ _ _ _ _ _ _ _ _ 5 _ _ _)
  refine hp_icmp_ge (tgt := 27) dX9_digit_5 rfl (fun c2 => ?_) (fun c2 => (?_ : hp_G _ _ _ _ _ _ _ _ _ 8 _ _ _))
  · replace hf := ot_ c2 hf
    refine hp_bipush (v := (-9)) dX9_digit_27 bi_m9 (?_ : hp_G _ _ _ _ _ _ _ _ _ 29 _ _ _)
    obtain rfl := Option.some.inj hf
    exact hp_iret kr (fun z => z) rfl dX9_digit_29
  · replace hf := of_ c2 hf
    refine hp_aload_n 0 dX9_digit_8 rfl rfl (?_ : hp_G _ _ _ _ _ _ _ _ _ 9 _ _ _)
    replace hf := ob_ hf
    obtain ⟨x3, ex3, hf⟩ := hf
    refine fgX9_16 rfl dX9_digit_9 ex3 (?_ : hp_G _ _ _ _ _ _ _ _ _ 12 _ _ _)
    refine hp_aload_n 0 dX9_digit_12 rfl rfl (?_ : hp_G _ _ _ _ _ _ _ _ _ 13 _ _ _)
    replace hf := ob_ hf
    obtain ⟨x4, ex4, hf⟩ := hf
    refine fgX9_78 rfl dX9_digit_13 ex4 (?_ : hp_G _ _ _ _ _ _ _ _ _ 16 _ _ _)
    replace hf := ob_ hf
    obtain ⟨x5, ex5, hf⟩ := hf
    refine hp_iaload dX9_digit_16 ex5 (?_ : hp_G _ _ _ _ _ _ _ _ _ 17 _ _ _)
    refine hp_bipush (v := 48) dX9_digit_17 bi_48 (?_ : hp_G _ _ _ _ _ _ _ _ _ 19 _ _ _)
    refine hp_bipush (v := 57) dX9_digit_19 bi_57 (?_ : hp_G _ _ _ _ _ _ _ _ _ 21 _ _ _)
    replace hf := ob_ hf
    obtain ⟨r6, er6, hf⟩ := hf
    refine clX9_67 (as := [.int x5, .int 48, .int 57]) (st := []) rfl (kX9_within l er6) rfl (by decide) (Nat.le_of_ble_eq_true rfl) dX9_digit_21 rfl (?_ : hp_G _ _ _ _ _ _ _ _ _ 24 _ _ _)
    refine hp_if_ne (tgt := 30) dX9_digit_24 rfl (fun c7 => ?_) (fun c7 => (?_ : hp_G _ _ _ _ _ _ _ _ _ 27 _ _ _))
    · replace hf := of_ c7 hf
      refine hp_aload_n 0 dX9_digit_30 rfl rfl (?_ : hp_G _ _ _ _ _ _ _ _ _ 31 _ _ _)
      refine hp_dup dX9_digit_31 rfl (?_ : hp_G _ _ _ _ _ _ _ _ _ 32 _ _ _)
      replace hf := ob_ hf
      obtain ⟨x8, ex8, hf⟩ := hf
      refine fgX9_78 rfl dX9_digit_32 ex8 (?_ : hp_G _ _ _ _ _ _ _ _ _ 35 _ _ _)
      refine hp_iconst (v := 1) dX9_digit_35 ic_1 (?_ : hp_G _ _ _ _ _ _ _ _ _ 36 _ _ _)
      refine hp_iadd dX9_digit_36 (?_ : hp_G _ _ _ _ _ _ _ _ _ 37 _ _ _)
      replace hf := ob_ hf
      obtain ⟨h9, eh9, hf⟩ := hf
      refine fpX9_78 rfl dX9_digit_37 eh9 (?_ : hp_G _ _ _ _ _ _ _ _ _ 40 _ _ _)
      refine hp_aload_n 0 dX9_digit_40 rfl rfl (?_ : hp_G _ _ _ _ _ _ _ _ _ 41 _ _ _)
      replace hf := ob_ hf
      obtain ⟨x10, ex10, hf⟩ := hf
      refine fgX9_16 rfl dX9_digit_41 ex10 (?_ : hp_G _ _ _ _ _ _ _ _ _ 44 _ _ _)
      refine hp_aload_n 0 dX9_digit_44 rfl rfl (?_ : hp_G _ _ _ _ _ _ _ _ _ 45 _ _ _)
      replace hf := ob_ hf
      obtain ⟨x11, ex11, hf⟩ := hf
      refine fgX9_78 rfl dX9_digit_45 ex11 (?_ : hp_G _ _ _ _ _ _ _ _ _ 48 _ _ _)
      refine hp_iconst (v := 1) dX9_digit_48 ic_1 (?_ : hp_G _ _ _ _ _ _ _ _ _ 49 _ _ _)
      refine hp_isub dX9_digit_49 (?_ : hp_G _ _ _ _ _ _ _ _ _ 50 _ _ _)
      replace hf := ob_ hf
      obtain ⟨x12, ex12, hf⟩ := hf
      refine hp_iaload dX9_digit_50 ex12 (?_ : hp_G _ _ _ _ _ _ _ _ _ 51 _ _ _)
      refine hp_bipush (v := 48) dX9_digit_51 bi_48 (?_ : hp_G _ _ _ _ _ _ _ _ _ 53 _ _ _)
      refine hp_isub dX9_digit_53 (?_ : hp_G _ _ _ _ _ _ _ _ _ 54 _ _ _)
      obtain rfl := Option.some.inj hf
      exact hp_iret kr (fun z => z) rfl dX9_digit_54
    · replace hf := ot_ c7 hf
      refine hp_bipush (v := (-9)) dX9_digit_27 bi_m9 (?_ : hp_G _ _ _ _ _ _ _ _ _ 29 _ _ _)
      obtain rfl := Option.some.inj hf
      exact hp_iret kr (fun z => z) rfl dX9_digit_29
theorem kX9_digit (l : Launch) {h : hp_H} {a0 : Nat} {p1 : Int32} {r : (Int32 × hp_H)} (hf : fX9_digit h a0 p1 = some r) : hp_Cn l yX9_digit mX9_digit 1 false 0 0 [.ref a0, .int p1] h (fun v h2 => some (.int r.1) = v ∧ r.2 = h2) :=
  hp_of (by decide) rfl (fun z => by cases z) (Nat.le_of_ble_eq_true rfl) (tX9_digit l hf ⟨rfl, rfl⟩)
noncomputable def jX9_readPerson_66 (g : hp_H)  (u0 : Nat) (u1 : Int32) (u3 : Int32) (k0 : Int32) (k1 : Int32) (k2 : Nat) : Option (Int32 × hp_H) :=
(ax_ g k2 k1 k0).bind fun h9 =>
(gq_ h9 u0 8 13).bind fun x10 =>
(al_ h9 x10 u3).bind fun x11 =>
if x11 = (-9) then
(some (0, h9))
else
((gi_ h9 u0 8 11).bind fun x13 =>
(pi_ h9 u0 8 11 (x13 + 1)).bind fun h14 =>
(gq_ h14 u0 8 13).bind fun x15 =>
(hg_o h14 u0 8).bind fun o16 =>
(fX9_digit h14 u0 u1).bind fun r17 =>
(ax_ r17.2 x15 (u3 + 1) r17.1).bind fun h18 =>
(gq_ h18 u0 8 13).bind fun x19 =>
(al_ h18 x19 (u3 + 1)).bind fun x20 =>
if x20 = (-9) then
(some (0, h18))
else
((gq_ h18 u0 8 13).bind fun x22 =>
(hg_o h18 u0 8).bind fun o23 =>
(fX9_digit h18 u0 u1).bind fun r24 =>
(ax_ r24.2 x22 (u3 + 2) r24.1).bind fun h25 =>
(gi_ h25 u0 8 12).bind fun x26 =>
(pi_ h25 u0 8 12 (x26 + 1)).bind fun h27 =>
(gq_ h27 u0 8 13).bind fun x28 =>
(al_ h27 x28 (u3 + 2)).bind fun x29 =>
if x29 = (-9) then
(some (0, h27))
else
(some (1, h27))))
set_option maxRecDepth 20000 in
set_option maxHeartbeats 4000000 in
theorem tjX9_readPerson_66 (l : Launch) {g : hp_H}  {u0 : Nat} {u1 : Int32} {u3 : Int32} {k0 : Int32} {k1 : Int32} {k2 : Nat} {r : (Int32 × hp_H)} (hf : jX9_readPerson_66 g u0 u1 u3 k0 k1 k2 = some r) {Q : Option Value → hp_H → Prop} (kr : Q (some (.int r.1)) r.2) : hp_G l mX9_readPerson none 2 false Q false 0 0 66 [(0, .ref u0), (1, .int u1), (3, .int u3)] [.int k0, .int k1, .ref k2] g := by
  unfold jX9_readPerson_66 at hf
  replace hf := ob_ hf
  obtain ⟨h9, eh9, hf⟩ := hf
  refine hp_iastore dX9_readPerson_66 eh9 (?_ : hp_G _ _ _ _ _ _ _ _ _ 67 _ _ _)
  refine hp_aload_n 0 dX9_readPerson_67 rfl rfl (?_ : hp_G _ _ _ _ _ _ _ _ _ 68 _ _ _)
  replace hf := ob_ hf
  obtain ⟨x10, ex10, hf⟩ := hf
  refine fgX9_28 rfl dX9_readPerson_68 ex10 (?_ : hp_G _ _ _ _ _ _ _ _ _ 71 _ _ _)
  refine hp_iload_n 2 dX9_readPerson_71 rfl rfl (?_ : hp_G _ _ _ _ _ _ _ _ _ 72 _ _ _)
  replace hf := ob_ hf
  obtain ⟨x11, ex11, hf⟩ := hf
  refine hp_iaload dX9_readPerson_72 ex11 (?_ : hp_G _ _ _ _ _ _ _ _ _ 73 _ _ _)
  refine hp_bipush (v := (-9)) dX9_readPerson_73 bi_m9 (?_ : hp_G _ _ _ _ _ _ _ _ _ 75 _ _ _)
  refine hp_icmp_ne (tgt := 80) dX9_readPerson_75 rfl (fun c12 => ?_) (fun c12 => (?_ : hp_G _ _ _ _ _ _ _ _ _ 78 _ _ _))
  · replace hf := of_ c12 hf
    refine hp_aload_n 0 dX9_readPerson_80 rfl rfl (?_ : hp_G _ _ _ _ _ _ _ _ _ 81 _ _ _)
    refine hp_dup dX9_readPerson_81 rfl (?_ : hp_G _ _ _ _ _ _ _ _ _ 82 _ _ _)
    replace hf := ob_ hf
    obtain ⟨x13, ex13, hf⟩ := hf
    refine fgX9_78 rfl dX9_readPerson_82 ex13 (?_ : hp_G _ _ _ _ _ _ _ _ _ 85 _ _ _)
    refine hp_iconst (v := 1) dX9_readPerson_85 ic_1 (?_ : hp_G _ _ _ _ _ _ _ _ _ 86 _ _ _)
    refine hp_iadd dX9_readPerson_86 (?_ : hp_G _ _ _ _ _ _ _ _ _ 87 _ _ _)
    replace hf := ob_ hf
    obtain ⟨h14, eh14, hf⟩ := hf
    refine fpX9_78 rfl dX9_readPerson_87 eh14 (?_ : hp_G _ _ _ _ _ _ _ _ _ 90 _ _ _)
    refine hp_aload_n 0 dX9_readPerson_90 rfl rfl (?_ : hp_G _ _ _ _ _ _ _ _ _ 91 _ _ _)
    replace hf := ob_ hf
    obtain ⟨x15, ex15, hf⟩ := hf
    refine fgX9_28 rfl dX9_readPerson_91 ex15 (?_ : hp_G _ _ _ _ _ _ _ _ _ 94 _ _ _)
    refine hp_iload_n 2 dX9_readPerson_94 rfl rfl (?_ : hp_G _ _ _ _ _ _ _ _ _ 95 _ _ _)
    refine hp_iconst (v := 1) dX9_readPerson_95 ic_1 (?_ : hp_G _ _ _ _ _ _ _ _ _ 96 _ _ _)
    refine hp_iadd dX9_readPerson_96 (?_ : hp_G _ _ _ _ _ _ _ _ _ 97 _ _ _)
    refine hp_aload_n 0 dX9_readPerson_97 rfl rfl (?_ : hp_G _ _ _ _ _ _ _ _ _ 98 _ _ _)
    refine hp_iload_n 1 dX9_readPerson_98 rfl rfl (?_ : hp_G _ _ _ _ _ _ _ _ _ 99 _ _ _)
    replace hf := ob_ hf
    obtain ⟨o16, eo16, hf⟩ := hf
    replace hf := ob_ hf
    obtain ⟨r17, er17, hf⟩ := hf
    refine clX9_117 (as := [.int u1]) (st := [.int (u3 + 1), .ref x15]) rfl (kX9_digit l er17) rfl (by decide) (Nat.le_of_ble_eq_true rfl) eo16 dX9_readPerson_99 rfl (?_ : hp_G _ _ _ _ _ _ _ _ _ 102 _ _ _)
    replace hf := ob_ hf
    obtain ⟨h18, eh18, hf⟩ := hf
    refine hp_iastore dX9_readPerson_102 eh18 (?_ : hp_G _ _ _ _ _ _ _ _ _ 103 _ _ _)
    refine hp_aload_n 0 dX9_readPerson_103 rfl rfl (?_ : hp_G _ _ _ _ _ _ _ _ _ 104 _ _ _)
    replace hf := ob_ hf
    obtain ⟨x19, ex19, hf⟩ := hf
    refine fgX9_28 rfl dX9_readPerson_104 ex19 (?_ : hp_G _ _ _ _ _ _ _ _ _ 107 _ _ _)
    refine hp_iload_n 2 dX9_readPerson_107 rfl rfl (?_ : hp_G _ _ _ _ _ _ _ _ _ 108 _ _ _)
    refine hp_iconst (v := 1) dX9_readPerson_108 ic_1 (?_ : hp_G _ _ _ _ _ _ _ _ _ 109 _ _ _)
    refine hp_iadd dX9_readPerson_109 (?_ : hp_G _ _ _ _ _ _ _ _ _ 110 _ _ _)
    replace hf := ob_ hf
    obtain ⟨x20, ex20, hf⟩ := hf
    refine hp_iaload dX9_readPerson_110 ex20 (?_ : hp_G _ _ _ _ _ _ _ _ _ 111 _ _ _)
    refine hp_bipush (v := (-9)) dX9_readPerson_111 bi_m9 (?_ : hp_G _ _ _ _ _ _ _ _ _ 113 _ _ _)
    refine hp_icmp_ne (tgt := 118) dX9_readPerson_113 rfl (fun c21 => ?_) (fun c21 => (?_ : hp_G _ _ _ _ _ _ _ _ _ 116 _ _ _))
    · replace hf := of_ c21 hf
      refine hp_aload_n 0 dX9_readPerson_118 rfl rfl (?_ : hp_G _ _ _ _ _ _ _ _ _ 119 _ _ _)
      replace hf := ob_ hf
      obtain ⟨x22, ex22, hf⟩ := hf
      refine fgX9_28 rfl dX9_readPerson_119 ex22 (?_ : hp_G _ _ _ _ _ _ _ _ _ 122 _ _ _)
      refine hp_iload_n 2 dX9_readPerson_122 rfl rfl (?_ : hp_G _ _ _ _ _ _ _ _ _ 123 _ _ _)
      refine hp_iconst (v := 2) dX9_readPerson_123 ic_2 (?_ : hp_G _ _ _ _ _ _ _ _ _ 124 _ _ _)
      refine hp_iadd dX9_readPerson_124 (?_ : hp_G _ _ _ _ _ _ _ _ _ 125 _ _ _)
      refine hp_aload_n 0 dX9_readPerson_125 rfl rfl (?_ : hp_G _ _ _ _ _ _ _ _ _ 126 _ _ _)
      refine hp_iload_n 1 dX9_readPerson_126 rfl rfl (?_ : hp_G _ _ _ _ _ _ _ _ _ 127 _ _ _)
      replace hf := ob_ hf
      obtain ⟨o23, eo23, hf⟩ := hf
      replace hf := ob_ hf
      obtain ⟨r24, er24, hf⟩ := hf
      refine clX9_117 (as := [.int u1]) (st := [.int (u3 + 2), .ref x22]) rfl (kX9_digit l er24) rfl (by decide) (Nat.le_of_ble_eq_true rfl) eo23 dX9_readPerson_127 rfl (?_ : hp_G _ _ _ _ _ _ _ _ _ 130 _ _ _)
      replace hf := ob_ hf
      obtain ⟨h25, eh25, hf⟩ := hf
      refine hp_iastore dX9_readPerson_130 eh25 (?_ : hp_G _ _ _ _ _ _ _ _ _ 131 _ _ _)
      refine hp_aload_n 0 dX9_readPerson_131 rfl rfl (?_ : hp_G _ _ _ _ _ _ _ _ _ 132 _ _ _)
      refine hp_dup dX9_readPerson_132 rfl (?_ : hp_G _ _ _ _ _ _ _ _ _ 133 _ _ _)
      replace hf := ob_ hf
      obtain ⟨x26, ex26, hf⟩ := hf
      refine fgX9_98 rfl dX9_readPerson_133 ex26 (?_ : hp_G _ _ _ _ _ _ _ _ _ 136 _ _ _)
      refine hp_iconst (v := 1) dX9_readPerson_136 ic_1 (?_ : hp_G _ _ _ _ _ _ _ _ _ 137 _ _ _)
      refine hp_iadd dX9_readPerson_137 (?_ : hp_G _ _ _ _ _ _ _ _ _ 138 _ _ _)
      replace hf := ob_ hf
      obtain ⟨h27, eh27, hf⟩ := hf
      refine fpX9_98 rfl dX9_readPerson_138 eh27 (?_ : hp_G _ _ _ _ _ _ _ _ _ 141 _ _ _)
      refine hp_aload_n 0 dX9_readPerson_141 rfl rfl (?_ : hp_G _ _ _ _ _ _ _ _ _ 142 _ _ _)
      replace hf := ob_ hf
      obtain ⟨x28, ex28, hf⟩ := hf
      refine fgX9_28 rfl dX9_readPerson_142 ex28 (?_ : hp_G _ _ _ _ _ _ _ _ _ 145 _ _ _)
      refine hp_iload_n 2 dX9_readPerson_145 rfl rfl (?_ : hp_G _ _ _ _ _ _ _ _ _ 146 _ _ _)
      refine hp_iconst (v := 2) dX9_readPerson_146 ic_2 (?_ : hp_G _ _ _ _ _ _ _ _ _ 147 _ _ _)
      refine hp_iadd dX9_readPerson_147 (?_ : hp_G _ _ _ _ _ _ _ _ _ 148 _ _ _)
      replace hf := ob_ hf
      obtain ⟨x29, ex29, hf⟩ := hf
      refine hp_iaload dX9_readPerson_148 ex29 (?_ : hp_G _ _ _ _ _ _ _ _ _ 149 _ _ _)
      refine hp_bipush (v := (-9)) dX9_readPerson_149 bi_m9 (?_ : hp_G _ _ _ _ _ _ _ _ _ 151 _ _ _)
      refine hp_icmp_eq (tgt := 158) dX9_readPerson_151 rfl (fun c30 => ?_) (fun c30 => (?_ : hp_G _ _ _ _ _ _ _ _ _ 154 _ _ _))
      · replace hf := ot_ c30 hf
        refine hp_iconst (v := 0) dX9_readPerson_158 ic_0 (?_ : hp_G _ _ _ _ _ _ _ _ _ 159 _ _ _)
        obtain rfl := Option.some.inj hf
        exact hp_zret kr (fun z => z) rfl (by decide) dX9_readPerson_159
      · replace hf := of_ c30 hf
        refine hp_iconst (v := 1) dX9_readPerson_154 ic_1 (?_ : hp_G _ _ _ _ _ _ _ _ _ 155 _ _ _)
        refine hp_goto (tgt := 159) dX9_readPerson_155 rfl (?_ : hp_G _ _ _ _ _ _ _ _ _ 159 _ _ _)
        obtain rfl := Option.some.inj hf
        exact hp_zret kr (fun z => z) rfl (by decide) dX9_readPerson_159
    · replace hf := ot_ c21 hf
      refine hp_iconst (v := 0) dX9_readPerson_116 ic_0 (?_ : hp_G _ _ _ _ _ _ _ _ _ 117 _ _ _)
      obtain rfl := Option.some.inj hf
      exact hp_zret kr (fun z => z) rfl (by decide) dX9_readPerson_117
  · replace hf := ot_ c12 hf
    refine hp_iconst (v := 0) dX9_readPerson_78 ic_0 (?_ : hp_G _ _ _ _ _ _ _ _ _ 79 _ _ _)
    obtain rfl := Option.some.inj hf
    exact hp_zret kr (fun z => z) rfl (by decide) dX9_readPerson_79
noncomputable def jX9_readPerson_21 (g : hp_H)  (u0 : Nat) (u1 : Int32) (k0 : Int32) : Option (Int32 × hp_H) :=
(gi_ g u0 8 12).bind fun x3 =>
(some (3 * x3)).bind fun x4 =>
(gq_ g u0 8 13).bind fun x5 =>
if k0 = 112 then
(jX9_readPerson_66 g u0 u1 x4 0 x4 x5)
else
(if k0 = 108 then
(jX9_readPerson_66 g u0 u1 x4 1 x4 x5)
else
(if k0 = 99 then
(jX9_readPerson_66 g u0 u1 x4 2 x4 x5)
else
(jX9_readPerson_66 g u0 u1 x4 (-9) x4 x5)))
set_option maxRecDepth 20000 in
set_option maxHeartbeats 4000000 in
theorem tjX9_readPerson_21 (l : Launch) {g : hp_H}  {u0 : Nat} {u1 : Int32} {k0 : Int32} {r : (Int32 × hp_H)} (hf : jX9_readPerson_21 g u0 u1 k0 = some r) {Q : Option Value → hp_H → Prop} (kr : Q (some (.int r.1)) r.2) : hp_G l mX9_readPerson none 2 false Q false 0 0 21 [(0, .ref u0), (1, .int u1)] [.int k0] g := by
  unfold jX9_readPerson_21 at hf
  refine hp_istore_n (lv' := [(2, .int k0), (0, .ref u0), (1, .int u1)]) dX9_readPerson_21 rfl (Nat.le_of_ble_eq_true rfl) rfl (?_ : hp_G _ _ _ _ _ _ _ _ _ 22 _ _ _)
  refine hp_iconst (v := 3) dX9_readPerson_22 ic_3 (?_ : hp_G _ _ _ _ _ _ _ _ _ 23 _ _ _)
  refine hp_aload_n 1 dX9_readPerson_23 rfl rfl (?_ : hp_G _ _ _ _ _ _ _ _ _ 24 _ _ _)
  replace hf := ob_ hf
  obtain ⟨x3, ex3, hf⟩ := hf
  refine fgX9_98 rfl dX9_readPerson_24 ex3 (?_ : hp_G _ _ _ _ _ _ _ _ _ 27 _ _ _)
  refine hp_imul dX9_readPerson_27 (?_ : hp_G _ _ _ _ _ _ _ _ _ 28 _ _ _)
  replace hf := ob_ hf
  obtain ⟨x4, ex4, hf⟩ := hf
  refine hp_nmi ex4 ?_
  refine hp_istore_n (lv' := [(3, .int x4), (2, .int k0), (0, .ref u0), (1, .int u1)]) dX9_readPerson_28 rfl (Nat.le_of_ble_eq_true rfl) rfl (?_ : hp_G _ _ _ _ _ _ _ _ _ 29 _ _ _)
  refine hp_aload_n 2 dX9_readPerson_29 rfl rfl (?_ : hp_G _ _ _ _ _ _ _ _ _ 30 _ _ _)
  replace hf := ob_ hf
  obtain ⟨x5, ex5, hf⟩ := hf
  refine fgX9_28 rfl dX9_readPerson_30 ex5 (?_ : hp_G _ _ _ _ _ _ _ _ _ 33 _ _ _)
  refine hp_iload_n 0 dX9_readPerson_33 rfl rfl (?_ : hp_G _ _ _ _ _ _ _ _ _ 34 _ _ _)
  refine hp_iload_n 1 dX9_readPerson_34 rfl rfl (?_ : hp_G _ _ _ _ _ _ _ _ _ 35 _ _ _)
  refine hp_bipush (v := 112) dX9_readPerson_35 bi_112 (?_ : hp_G _ _ _ _ _ _ _ _ _ 37 _ _ _)
  refine hp_icmp_ne (tgt := 44) dX9_readPerson_37 rfl (fun c6 => ?_) (fun c6 => (?_ : hp_G _ _ _ _ _ _ _ _ _ 40 _ _ _))
  · replace hf := of_ c6 hf
    refine hp_iload_n 1 dX9_readPerson_44 rfl rfl (?_ : hp_G _ _ _ _ _ _ _ _ _ 45 _ _ _)
    refine hp_bipush (v := 108) dX9_readPerson_45 bi_108 (?_ : hp_G _ _ _ _ _ _ _ _ _ 47 _ _ _)
    refine hp_icmp_ne (tgt := 54) dX9_readPerson_47 rfl (fun c7 => ?_) (fun c7 => (?_ : hp_G _ _ _ _ _ _ _ _ _ 50 _ _ _))
    · replace hf := of_ c7 hf
      refine hp_iload_n 1 dX9_readPerson_54 rfl rfl (?_ : hp_G _ _ _ _ _ _ _ _ _ 55 _ _ _)
      refine hp_bipush (v := 99) dX9_readPerson_55 bi_99 (?_ : hp_G _ _ _ _ _ _ _ _ _ 57 _ _ _)
      refine hp_icmp_ne (tgt := 64) dX9_readPerson_57 rfl (fun c8 => ?_) (fun c8 => (?_ : hp_G _ _ _ _ _ _ _ _ _ 60 _ _ _))
      · replace hf := of_ c8 hf
        refine hp_bipush (v := (-9)) dX9_readPerson_64 bi_m9 (?_ : hp_G _ _ _ _ _ _ _ _ _ 66 _ _ _)
        exact hp_sub [2, 3, 0] rfl (tjX9_readPerson_66 l hf kr)
      · replace hf := ot_ c8 hf
        refine hp_iconst (v := 2) dX9_readPerson_60 ic_2 (?_ : hp_G _ _ _ _ _ _ _ _ _ 61 _ _ _)
        refine hp_goto (tgt := 66) dX9_readPerson_61 rfl (?_ : hp_G _ _ _ _ _ _ _ _ _ 66 _ _ _)
        exact hp_sub [2, 3, 0] rfl (tjX9_readPerson_66 l hf kr)
    · replace hf := ot_ c7 hf
      refine hp_iconst (v := 1) dX9_readPerson_50 ic_1 (?_ : hp_G _ _ _ _ _ _ _ _ _ 51 _ _ _)
      refine hp_goto (tgt := 66) dX9_readPerson_51 rfl (?_ : hp_G _ _ _ _ _ _ _ _ _ 66 _ _ _)
      exact hp_sub [2, 3, 0] rfl (tjX9_readPerson_66 l hf kr)
  · replace hf := ot_ c6 hf
    refine hp_iconst (v := 0) dX9_readPerson_40 ic_0 (?_ : hp_G _ _ _ _ _ _ _ _ _ 41 _ _ _)
    refine hp_goto (tgt := 66) dX9_readPerson_41 rfl (?_ : hp_G _ _ _ _ _ _ _ _ _ 66 _ _ _)
    exact hp_sub [2, 3, 0] rfl (tjX9_readPerson_66 l hf kr)
noncomputable def fX9_readPerson (h : hp_H) (a0 : Nat) (p1 : Int32) : Option (Int32 × hp_H) :=
(gi_ h a0 8 11).bind fun x1 =>
if p1 ≤ x1 then
(jX9_readPerson_21 h a0 p1 0)
else
((gq_ h a0 8 4).bind fun x31 =>
(gi_ h a0 8 11).bind fun x32 =>
(al_ h x31 x32).bind fun x33 =>
jX9_readPerson_21 h a0 p1 x33)
set_option maxRecDepth 20000 in
set_option maxHeartbeats 4000000 in
theorem tX9_readPerson (l : Launch) {h : hp_H} {a0 : Nat} {p1 : Int32} {r : (Int32 × hp_H)} (hf : fX9_readPerson h a0 p1 = some r) {Q : Option Value → hp_H → Prop} (kr : Q (some (.int r.1)) r.2) : hp_G l mX9_readPerson none 2 false Q false 0 0 0 [(0, .ref a0), (1, .int p1)] [] h := by
  unfold fX9_readPerson at hf
  refine hp_aload_n 0 dX9_readPerson_0 rfl rfl (?_ : hp_G _ _ _ _ _ _ _ _ _ 1 _ _ _)
  replace hf := ob_ hf
  obtain ⟨x1, ex1, hf⟩ := hf
  refine fgX9_78 rfl dX9_readPerson_1 ex1 (?_ : hp_G _ _ _ _ _ _ _ _ _ 4 _ _ _)
  refine hp_iload_n 1 dX9_readPerson_4 rfl rfl (?_ : hp_G _ _ _ _ _ _ _ _ _ 5 _ _ _)
  refine hp_icmp_ge (tgt := 20) dX9_readPerson_5 rfl (fun c2 => ?_) (fun c2 => (?_ : hp_G _ _ _ _ _ _ _ _ _ 8 _ _ _))
  · replace hf := ot_ c2 hf
    refine hp_iconst (v := 0) dX9_readPerson_20 ic_0 (?_ : hp_G _ _ _ _ _ _ _ _ _ 21 _ _ _)
    exact hp_sub [0, 1] rfl (tjX9_readPerson_21 l hf kr)
  · replace hf := of_ c2 hf
    refine hp_aload_n 0 dX9_readPerson_8 rfl rfl (?_ : hp_G _ _ _ _ _ _ _ _ _ 9 _ _ _)
    replace hf := ob_ hf
    obtain ⟨x31, ex31, hf⟩ := hf
    refine fgX9_16 rfl dX9_readPerson_9 ex31 (?_ : hp_G _ _ _ _ _ _ _ _ _ 12 _ _ _)
    refine hp_aload_n 0 dX9_readPerson_12 rfl rfl (?_ : hp_G _ _ _ _ _ _ _ _ _ 13 _ _ _)
    replace hf := ob_ hf
    obtain ⟨x32, ex32, hf⟩ := hf
    refine fgX9_78 rfl dX9_readPerson_13 ex32 (?_ : hp_G _ _ _ _ _ _ _ _ _ 16 _ _ _)
    replace hf := ob_ hf
    obtain ⟨x33, ex33, hf⟩ := hf
    refine hp_iaload dX9_readPerson_16 ex33 (?_ : hp_G _ _ _ _ _ _ _ _ _ 17 _ _ _)
    refine hp_goto (tgt := 21) dX9_readPerson_17 rfl (?_ : hp_G _ _ _ _ _ _ _ _ _ 21 _ _ _)
    exact hp_sub [0, 1] rfl (tjX9_readPerson_21 l hf kr)
theorem kX9_readPerson (l : Launch) {h : hp_H} {a0 : Nat} {p1 : Int32} {r : (Int32 × hp_H)} (hf : fX9_readPerson h a0 p1 = some r) : hp_Cn l yX9_readPerson mX9_readPerson 2 false 0 0 [.ref a0, .int p1] h (fun v h2 => some (.int r.1) = v ∧ r.2 = h2) :=
  hp_of (by decide) rfl (fun z => by cases z) (Nat.le_of_ble_eq_true rfl) (tX9_readPerson l hf ⟨rfl, rfl⟩)
noncomputable def jX9_readHarbour_42_17 (g : hp_H) (v0 : Nat) (v1 : Int32)   : Option (hp_H ⊕ (hp_H ⊕ (Int32 × hp_H))) :=
(hg_o g v0 8).bind fun o7 =>
(fX9_isSign g v0 v1 59).bind fun r8 =>
if r8.1 = 0 then
(some (.inr (.inr (0, r8.2))))
else
((hg_o r8.2 v0 8).bind fun o10 =>
(fX9_readPerson r8.2 v0 v1).bind fun r11 =>
if r11.1 = 0 then
(some (.inr (.inr (0, r11.2))))
else
(some (.inl r11.2)))
set_option maxRecDepth 20000 in
set_option maxHeartbeats 4000000 in
theorem tjX9_readHarbour_42_17 (l : Launch) {g : hp_H} {v0 : Nat} {v1 : Int32}   {r : (hp_H ⊕ (hp_H ⊕ (Int32 × hp_H)))} (hf : jX9_readHarbour_42_17 g v0 v1 = some r) {Q : Option Value → hp_H → Prop} (kb : ∀ t, r = .inl t → hp_G l mX9_readHarbour none 3 false Q false 0 0 17 [(0, .ref v0), (1, .int v1)] [] t) (ke : ∀ x, r = .inr (.inl x) → hp_G l mX9_readHarbour none 3 false Q false 0 0 62 [(0, .ref v0), (1, .int v1)] [] x) (kr : ∀ z, r = .inr (.inr z) → Q (some (.int z.1)) z.2) : hp_G l mX9_readHarbour none 3 false Q false 0 0 42 [(0, .ref v0), (1, .int v1)] [] g := by
  unfold jX9_readHarbour_42_17 at hf
  refine hp_aload_n 0 dX9_readHarbour_42 rfl rfl (?_ : hp_G _ _ _ _ _ _ _ _ _ 43 _ _ _)
  refine hp_iload_n 1 dX9_readHarbour_43 rfl rfl (?_ : hp_G _ _ _ _ _ _ _ _ _ 44 _ _ _)
  refine hp_bipush (v := 59) dX9_readHarbour_44 bi_59 (?_ : hp_G _ _ _ _ _ _ _ _ _ 46 _ _ _)
  replace hf := ob_ hf
  obtain ⟨o7, eo7, hf⟩ := hf
  replace hf := ob_ hf
  obtain ⟨r8, er8, hf⟩ := hf
  refine clX9_110 (as := [.int v1, .int 59]) (st := []) rfl (kX9_isSign l er8) rfl (by decide) (Nat.le_of_ble_eq_true rfl) eo7 dX9_readHarbour_46 rfl (?_ : hp_G _ _ _ _ _ _ _ _ _ 49 _ _ _)
  refine hp_if_eq (tgt := 60) dX9_readHarbour_49 rfl (fun c9 => ?_) (fun c9 => (?_ : hp_G _ _ _ _ _ _ _ _ _ 52 _ _ _))
  · replace hf := ot_ c9 hf
    refine hp_iconst (v := 0) dX9_readHarbour_60 ic_0 (?_ : hp_G _ _ _ _ _ _ _ _ _ 61 _ _ _)
    obtain rfl := Option.some.inj hf
    exact hp_zret (kr _ rfl) (fun z => z) rfl (by decide) dX9_readHarbour_61
  · replace hf := of_ c9 hf
    refine hp_aload_n 0 dX9_readHarbour_52 rfl rfl (?_ : hp_G _ _ _ _ _ _ _ _ _ 53 _ _ _)
    refine hp_iload_n 1 dX9_readHarbour_53 rfl rfl (?_ : hp_G _ _ _ _ _ _ _ _ _ 54 _ _ _)
    replace hf := ob_ hf
    obtain ⟨o10, eo10, hf⟩ := hf
    replace hf := ob_ hf
    obtain ⟨r11, er11, hf⟩ := hf
    refine clX9_114 (as := [.int v1]) (st := []) rfl (kX9_readPerson l er11) rfl (by decide) (Nat.le_of_ble_eq_true rfl) eo10 dX9_readHarbour_54 rfl (?_ : hp_G _ _ _ _ _ _ _ _ _ 57 _ _ _)
    refine hp_if_ne (tgt := 17) dX9_readHarbour_57 rfl (fun c12 => ?_) (fun c12 => (?_ : hp_G _ _ _ _ _ _ _ _ _ 60 _ _ _))
    · replace hf := of_ c12 hf
      obtain rfl := Option.some.inj hf
      exact hp_sub [0, 1] rfl (kb _ rfl)
    · replace hf := ot_ c12 hf
      refine hp_iconst (v := 0) dX9_readHarbour_60 ic_0 (?_ : hp_G _ _ _ _ _ _ _ _ _ 61 _ _ _)
      obtain rfl := Option.some.inj hf
      exact hp_zret (kr _ rfl) (fun z => z) rfl (by decide) dX9_readHarbour_61
noncomputable def bX9_readHarbour_17 (v0 : Nat) (v1 : Int32) (s : hp_H) : Option (hp_H ⊕ (hp_H ⊕ (Int32 × hp_H))) :=
(gi_ s v0 8 12).bind fun x5 =>
if x5 < 2 then
(jX9_readHarbour_42_17 s v0 v1)
else
((gi_ s v0 8 12).bind fun x13 =>
if (6 : Int32) ≤ x13 then
(some (.inr (.inl s)))
else
((gi_ s v0 8 11).bind fun x15 =>
if v1 ≤ x15 then
(some (.inr (.inl s)))
else
(jX9_readHarbour_42_17 s v0 v1)))
set_option maxRecDepth 20000 in
set_option maxHeartbeats 4000000 in
theorem tbX9_readHarbour_17 (l : Launch) {v0 : Nat} {v1 : Int32}  {s : hp_H} {r : (hp_H ⊕ (hp_H ⊕ (Int32 × hp_H)))} (hf : bX9_readHarbour_17  v0 v1 s = some r) {Q : Option Value → hp_H → Prop} (kb : ∀ t, r = .inl t → hp_G l mX9_readHarbour none 3 false Q false 0 0 17 [(0, .ref v0), (1, .int v1)] [] t) (ke : ∀ x, r = .inr (.inl x) → hp_G l mX9_readHarbour none 3 false Q false 0 0 62 [(0, .ref v0), (1, .int v1)] [] x) (kr : ∀ z, r = .inr (.inr z) → Q (some (.int z.1)) z.2) : hp_G l mX9_readHarbour none 3 false Q false 0 0 17 [(0, .ref v0), (1, .int v1)] [] s := by
  unfold bX9_readHarbour_17 at hf
  refine hp_aload_n 0 dX9_readHarbour_17 rfl rfl (?_ : hp_G _ _ _ _ _ _ _ _ _ 18 _ _ _)
  replace hf := ob_ hf
  obtain ⟨x5, ex5, hf⟩ := hf
  refine fgX9_98 rfl dX9_readHarbour_18 ex5 (?_ : hp_G _ _ _ _ _ _ _ _ _ 21 _ _ _)
  refine hp_iconst (v := 2) dX9_readHarbour_21 ic_2 (?_ : hp_G _ _ _ _ _ _ _ _ _ 22 _ _ _)
  refine hp_icmp_lt (tgt := 42) dX9_readHarbour_22 rfl (fun c6 => ?_) (fun c6 => (?_ : hp_G _ _ _ _ _ _ _ _ _ 25 _ _ _))
  · replace hf := ot_ c6 hf
    exact hp_sub [0, 1] rfl (tjX9_readHarbour_42_17 l hf kb ke kr)
  · replace hf := of_ c6 hf
    refine hp_aload_n 0 dX9_readHarbour_25 rfl rfl (?_ : hp_G _ _ _ _ _ _ _ _ _ 26 _ _ _)
    replace hf := ob_ hf
    obtain ⟨x13, ex13, hf⟩ := hf
    refine fgX9_98 rfl dX9_readHarbour_26 ex13 (?_ : hp_G _ _ _ _ _ _ _ _ _ 29 _ _ _)
    refine hp_bipush (v := 6) dX9_readHarbour_29 bi_6 (?_ : hp_G _ _ _ _ _ _ _ _ _ 31 _ _ _)
    refine hp_icmp_ge (tgt := 62) dX9_readHarbour_31 rfl (fun c14 => ?_) (fun c14 => (?_ : hp_G _ _ _ _ _ _ _ _ _ 34 _ _ _))
    · replace hf := ot_ c14 hf
      obtain rfl := Option.some.inj hf
      exact hp_sub [0, 1] rfl (ke _ rfl)
    · replace hf := of_ c14 hf
      refine hp_aload_n 0 dX9_readHarbour_34 rfl rfl (?_ : hp_G _ _ _ _ _ _ _ _ _ 35 _ _ _)
      replace hf := ob_ hf
      obtain ⟨x15, ex15, hf⟩ := hf
      refine fgX9_78 rfl dX9_readHarbour_35 ex15 (?_ : hp_G _ _ _ _ _ _ _ _ _ 38 _ _ _)
      refine hp_iload_n 1 dX9_readHarbour_38 rfl rfl (?_ : hp_G _ _ _ _ _ _ _ _ _ 39 _ _ _)
      refine hp_icmp_ge (tgt := 62) dX9_readHarbour_39 rfl (fun c16 => ?_) (fun c16 => (?_ : hp_G _ _ _ _ _ _ _ _ _ 42 _ _ _))
      · replace hf := ot_ c16 hf
        obtain rfl := Option.some.inj hf
        exact hp_sub [0, 1] rfl (ke _ rfl)
      · replace hf := of_ c16 hf
        exact hp_sub [0, 1] rfl (tjX9_readHarbour_42_17 l hf kb ke kr)
set_option maxRecDepth 20000 in
set_option maxHeartbeats 4000000 in
theorem tlX9_readHarbour_17 (l : Launch) {v0 : Nat} {v1 : Int32}  (q : Nat) {s : hp_H} {x : (hp_H ⊕ (Int32 × hp_H))} (hf : it_ (bX9_readHarbour_17  v0 v1) q s = some x) {Q : Option Value → hp_H → Prop} (ke : ∀ e, x = .inl e → hp_G l mX9_readHarbour none 3 false Q false 0 0 62 [(0, .ref v0), (1, .int v1)] [] e) (kr : ∀ z, x = .inr z → Q (some (.int z.1)) z.2) : hp_G l mX9_readHarbour none 3 false Q false 0 0 17 [(0, .ref v0), (1, .int v1)] [] s := by
  exact it_rule (f := bX9_readHarbour_17  v0 v1) (fun s => hp_G l mX9_readHarbour none 3 false Q false 0 0 17 [(0, .ref v0), (1, .int v1)] [] s) (fun x => (∀ e, x = .inl e → hp_G l mX9_readHarbour none 3 false Q false 0 0 62 [(0, .ref v0), (1, .int v1)] [] e) ∧ (∀ z, x = .inr z → Q (some (.int z.1)) z.2)) (fun s r h1 h2 h3 => tbX9_readHarbour_17 l h1 (fun t e => h2 t e) (fun e he => (h3 _ he).1 _ rfl) (fun z he => (h3 _ he).2 _ rfl)) q s x hf ⟨ke, kr⟩
noncomputable def fX9_readHarbour (h : hp_H) (a0 : Nat) (p1 : Int32) : Option (Int32 × hp_H) :=
(pi_ h a0 8 12 0).bind fun h1 =>
(hg_o h1 a0 8).bind fun o2 =>
(fX9_isSign h1 a0 p1 118).bind fun r3 =>
if r3.1 = 0 then
(some (0, r3.2))
else
((it_ (bX9_readHarbour_17  a0 p1) fu_ r3.2).bind fun x17 =>
match x17 with
| .inl y18 => ((gi_ y18 a0 8 11).bind fun x20 =>
if x20 = p1 then
(some (1, y18))
else
(some (0, y18)))
| .inr z19 => some z19)
set_option maxRecDepth 20000 in
set_option maxHeartbeats 4000000 in
theorem tX9_readHarbour (l : Launch) {h : hp_H} {a0 : Nat} {p1 : Int32} {r : (Int32 × hp_H)} (hf : fX9_readHarbour h a0 p1 = some r) {Q : Option Value → hp_H → Prop} (kr : Q (some (.int r.1)) r.2) : hp_G l mX9_readHarbour none 3 false Q false 0 0 0 [(0, .ref a0), (1, .int p1)] [] h := by
  unfold fX9_readHarbour at hf
  refine hp_aload_n 0 dX9_readHarbour_0 rfl rfl (?_ : hp_G _ _ _ _ _ _ _ _ _ 1 _ _ _)
  refine hp_iconst (v := 0) dX9_readHarbour_1 ic_0 (?_ : hp_G _ _ _ _ _ _ _ _ _ 2 _ _ _)
  replace hf := ob_ hf
  obtain ⟨h1, eh1, hf⟩ := hf
  refine fpX9_98 rfl dX9_readHarbour_2 eh1 (?_ : hp_G _ _ _ _ _ _ _ _ _ 5 _ _ _)
  refine hp_aload_n 0 dX9_readHarbour_5 rfl rfl (?_ : hp_G _ _ _ _ _ _ _ _ _ 6 _ _ _)
  refine hp_iload_n 1 dX9_readHarbour_6 rfl rfl (?_ : hp_G _ _ _ _ _ _ _ _ _ 7 _ _ _)
  refine hp_bipush (v := 118) dX9_readHarbour_7 bi_118 (?_ : hp_G _ _ _ _ _ _ _ _ _ 9 _ _ _)
  replace hf := ob_ hf
  obtain ⟨o2, eo2, hf⟩ := hf
  replace hf := ob_ hf
  obtain ⟨r3, er3, hf⟩ := hf
  refine clX9_110 (as := [.int p1, .int 118]) (st := []) rfl (kX9_isSign l er3) rfl (by decide) (Nat.le_of_ble_eq_true rfl) eo2 dX9_readHarbour_9 rfl (?_ : hp_G _ _ _ _ _ _ _ _ _ 12 _ _ _)
  refine hp_if_ne (tgt := 17) dX9_readHarbour_12 rfl (fun c4 => ?_) (fun c4 => (?_ : hp_G _ _ _ _ _ _ _ _ _ 15 _ _ _))
  · replace hf := of_ c4 hf
    replace hf := ob_ hf
    obtain ⟨x17, ex17, hf⟩ := hf
    refine hp_sub [0, 1] rfl ?_
    rcases x17 with y18 | z19
    · (try dsimp only at hf)
      refine tlX9_readHarbour_17 l fu_ ex17 (fun w hw => ?_) (fun w hw => (by cases hw))
      obtain rfl := Sum.inl.inj hw
      refine hp_aload_n 0 dX9_readHarbour_62 rfl rfl (?_ : hp_G _ _ _ _ _ _ _ _ _ 63 _ _ _)
      replace hf := ob_ hf
      obtain ⟨x20, ex20, hf⟩ := hf
      refine fgX9_78 rfl dX9_readHarbour_63 ex20 (?_ : hp_G _ _ _ _ _ _ _ _ _ 66 _ _ _)
      refine hp_iload_n 1 dX9_readHarbour_66 rfl rfl (?_ : hp_G _ _ _ _ _ _ _ _ _ 67 _ _ _)
      refine hp_icmp_ne (tgt := 74) dX9_readHarbour_67 rfl (fun c21 => ?_) (fun c21 => (?_ : hp_G _ _ _ _ _ _ _ _ _ 70 _ _ _))
      · replace hf := of_ c21 hf
        refine hp_iconst (v := 0) dX9_readHarbour_74 ic_0 (?_ : hp_G _ _ _ _ _ _ _ _ _ 75 _ _ _)
        obtain rfl := Option.some.inj hf
        exact hp_zret kr (fun z => z) rfl (by decide) dX9_readHarbour_75
      · replace hf := ot_ c21 hf
        refine hp_iconst (v := 1) dX9_readHarbour_70 ic_1 (?_ : hp_G _ _ _ _ _ _ _ _ _ 71 _ _ _)
        refine hp_goto (tgt := 75) dX9_readHarbour_71 rfl (?_ : hp_G _ _ _ _ _ _ _ _ _ 75 _ _ _)
        obtain rfl := Option.some.inj hf
        exact hp_zret kr (fun z => z) rfl (by decide) dX9_readHarbour_75
    · (try dsimp only at hf)
      refine tlX9_readHarbour_17 l fu_ ex17 (fun w hw => (by cases hw)) (fun w hw => ?_)
      obtain rfl := Sum.inr.inj hw
      obtain rfl := Option.some.inj hf
      exact kr
  · replace hf := ot_ c4 hf
    refine hp_iconst (v := 0) dX9_readHarbour_15 ic_0 (?_ : hp_G _ _ _ _ _ _ _ _ _ 16 _ _ _)
    obtain rfl := Option.some.inj hf
    exact hp_zret kr (fun z => z) rfl (by decide) dX9_readHarbour_16
theorem kX9_readHarbour (l : Launch) {h : hp_H} {a0 : Nat} {p1 : Int32} {r : (Int32 × hp_H)} (hf : fX9_readHarbour h a0 p1 = some r) : hp_Cn l yX9_readHarbour mX9_readHarbour 3 false 0 0 [.ref a0, .int p1] h (fun v h2 => some (.int r.1) = v ∧ r.2 = h2) :=
  hp_of (by decide) rfl (fun z => by cases z) (Nat.le_of_ble_eq_true rfl) (tX9_readHarbour l hf ⟨rfl, rfl⟩)
noncomputable def bX9_harbour_95 (v0 : Nat) (s : (Int32 × hp_H)) : Option ((Int32 × hp_H) ⊕ hp_H) :=
(gi_ s.2 v0 8 5).bind fun x16 =>
if x16 ≤ s.1 then
(some (.inr s.2))
else
((gq_ s.2 v0 8 8).bind fun x18 =>
(gq_ s.2 v0 8 13).bind fun x19 =>
(al_ s.2 x19 (3 * s.1)).bind fun x20 =>
(ax_ s.2 x18 s.1 x20).bind fun h21 =>
(gq_ h21 v0 8 9).bind fun x22 =>
(gq_ h21 v0 8 13).bind fun x23 =>
(al_ h21 x23 ((3 * s.1) + 1)).bind fun x24 =>
(ax_ h21 x22 s.1 x24).bind fun h25 =>
(gq_ h25 v0 8 10).bind fun x26 =>
(gq_ h25 v0 8 13).bind fun x27 =>
(al_ h25 x27 ((3 * s.1) + 2)).bind fun x28 =>
(ax_ h25 x26 s.1 x28).bind fun h29 =>
(some (s.1 + 1)).bind fun x30 =>
some (.inl (x30, h29)))
set_option maxRecDepth 20000 in
set_option maxHeartbeats 4000000 in
theorem tbX9_harbour_95 (l : Launch) {v0 : Nat}  {s : (Int32 × hp_H)} {r : ((Int32 × hp_H) ⊕ hp_H)} (hf : bX9_harbour_95  v0 s = some r) {Q : Option Value → hp_H → Prop} (kb : ∀ t, r = .inl t → hp_G l mX9_harbour none 4 false Q false 0 0 95 [(0, .ref v0), (7, .int t.1)] [] t.2) (ke : ∀ x, r = .inr x → hp_G l mX9_harbour none 4 false Q false 0 0 162 [(0, .ref v0)] [] x) : hp_G l mX9_harbour none 4 false Q false 0 0 95 [(0, .ref v0), (7, .int s.1)] [] s.2 := by
  unfold bX9_harbour_95 at hf
  refine hp_iload 1 dX9_harbour_95 rfl (?_ : hp_G _ _ _ _ _ _ _ _ _ 97 _ _ _)
  refine hp_aload_n 0 dX9_harbour_97 rfl rfl (?_ : hp_G _ _ _ _ _ _ _ _ _ 98 _ _ _)
  replace hf := ob_ hf
  obtain ⟨x16, ex16, hf⟩ := hf
  refine fgX9_71 rfl dX9_harbour_98 ex16 (?_ : hp_G _ _ _ _ _ _ _ _ _ 101 _ _ _)
  refine hp_icmp_ge (tgt := 162) dX9_harbour_101 rfl (fun c17 => ?_) (fun c17 => (?_ : hp_G _ _ _ _ _ _ _ _ _ 104 _ _ _))
  · replace hf := ot_ c17 hf
    obtain rfl := Option.some.inj hf
    exact hp_sub [0] rfl (ke _ rfl)
  · replace hf := of_ c17 hf
    refine hp_aload_n 0 dX9_harbour_104 rfl rfl (?_ : hp_G _ _ _ _ _ _ _ _ _ 105 _ _ _)
    replace hf := ob_ hf
    obtain ⟨x18, ex18, hf⟩ := hf
    refine fgX9_19 rfl dX9_harbour_105 ex18 (?_ : hp_G _ _ _ _ _ _ _ _ _ 108 _ _ _)
    refine hp_iload 1 dX9_harbour_108 rfl (?_ : hp_G _ _ _ _ _ _ _ _ _ 110 _ _ _)
    refine hp_aload_n 0 dX9_harbour_110 rfl rfl (?_ : hp_G _ _ _ _ _ _ _ _ _ 111 _ _ _)
    replace hf := ob_ hf
    obtain ⟨x19, ex19, hf⟩ := hf
    refine fgX9_28 rfl dX9_harbour_111 ex19 (?_ : hp_G _ _ _ _ _ _ _ _ _ 114 _ _ _)
    refine hp_iconst (v := 3) dX9_harbour_114 ic_3 (?_ : hp_G _ _ _ _ _ _ _ _ _ 115 _ _ _)
    refine hp_iload 1 dX9_harbour_115 rfl (?_ : hp_G _ _ _ _ _ _ _ _ _ 117 _ _ _)
    refine hp_imul dX9_harbour_117 (?_ : hp_G _ _ _ _ _ _ _ _ _ 118 _ _ _)
    replace hf := ob_ hf
    obtain ⟨x20, ex20, hf⟩ := hf
    refine hp_iaload dX9_harbour_118 ex20 (?_ : hp_G _ _ _ _ _ _ _ _ _ 119 _ _ _)
    replace hf := ob_ hf
    obtain ⟨h21, eh21, hf⟩ := hf
    refine hp_iastore dX9_harbour_119 eh21 (?_ : hp_G _ _ _ _ _ _ _ _ _ 120 _ _ _)
    refine hp_aload_n 0 dX9_harbour_120 rfl rfl (?_ : hp_G _ _ _ _ _ _ _ _ _ 121 _ _ _)
    replace hf := ob_ hf
    obtain ⟨x22, ex22, hf⟩ := hf
    refine fgX9_22 rfl dX9_harbour_121 ex22 (?_ : hp_G _ _ _ _ _ _ _ _ _ 124 _ _ _)
    refine hp_iload 1 dX9_harbour_124 rfl (?_ : hp_G _ _ _ _ _ _ _ _ _ 126 _ _ _)
    refine hp_aload_n 0 dX9_harbour_126 rfl rfl (?_ : hp_G _ _ _ _ _ _ _ _ _ 127 _ _ _)
    replace hf := ob_ hf
    obtain ⟨x23, ex23, hf⟩ := hf
    refine fgX9_28 rfl dX9_harbour_127 ex23 (?_ : hp_G _ _ _ _ _ _ _ _ _ 130 _ _ _)
    refine hp_iconst (v := 3) dX9_harbour_130 ic_3 (?_ : hp_G _ _ _ _ _ _ _ _ _ 131 _ _ _)
    refine hp_iload 1 dX9_harbour_131 rfl (?_ : hp_G _ _ _ _ _ _ _ _ _ 133 _ _ _)
    refine hp_imul dX9_harbour_133 (?_ : hp_G _ _ _ _ _ _ _ _ _ 134 _ _ _)
    refine hp_iconst (v := 1) dX9_harbour_134 ic_1 (?_ : hp_G _ _ _ _ _ _ _ _ _ 135 _ _ _)
    refine hp_iadd dX9_harbour_135 (?_ : hp_G _ _ _ _ _ _ _ _ _ 136 _ _ _)
    replace hf := ob_ hf
    obtain ⟨x24, ex24, hf⟩ := hf
    refine hp_iaload dX9_harbour_136 ex24 (?_ : hp_G _ _ _ _ _ _ _ _ _ 137 _ _ _)
    replace hf := ob_ hf
    obtain ⟨h25, eh25, hf⟩ := hf
    refine hp_iastore dX9_harbour_137 eh25 (?_ : hp_G _ _ _ _ _ _ _ _ _ 138 _ _ _)
    refine hp_aload_n 0 dX9_harbour_138 rfl rfl (?_ : hp_G _ _ _ _ _ _ _ _ _ 139 _ _ _)
    replace hf := ob_ hf
    obtain ⟨x26, ex26, hf⟩ := hf
    refine fgX9_25 rfl dX9_harbour_139 ex26 (?_ : hp_G _ _ _ _ _ _ _ _ _ 142 _ _ _)
    refine hp_iload 1 dX9_harbour_142 rfl (?_ : hp_G _ _ _ _ _ _ _ _ _ 144 _ _ _)
    refine hp_aload_n 0 dX9_harbour_144 rfl rfl (?_ : hp_G _ _ _ _ _ _ _ _ _ 145 _ _ _)
    replace hf := ob_ hf
    obtain ⟨x27, ex27, hf⟩ := hf
    refine fgX9_28 rfl dX9_harbour_145 ex27 (?_ : hp_G _ _ _ _ _ _ _ _ _ 148 _ _ _)
    refine hp_iconst (v := 3) dX9_harbour_148 ic_3 (?_ : hp_G _ _ _ _ _ _ _ _ _ 149 _ _ _)
    refine hp_iload 1 dX9_harbour_149 rfl (?_ : hp_G _ _ _ _ _ _ _ _ _ 151 _ _ _)
    refine hp_imul dX9_harbour_151 (?_ : hp_G _ _ _ _ _ _ _ _ _ 152 _ _ _)
    refine hp_iconst (v := 2) dX9_harbour_152 ic_2 (?_ : hp_G _ _ _ _ _ _ _ _ _ 153 _ _ _)
    refine hp_iadd dX9_harbour_153 (?_ : hp_G _ _ _ _ _ _ _ _ _ 154 _ _ _)
    replace hf := ob_ hf
    obtain ⟨x28, ex28, hf⟩ := hf
    refine hp_iaload dX9_harbour_154 ex28 (?_ : hp_G _ _ _ _ _ _ _ _ _ 155 _ _ _)
    replace hf := ob_ hf
    obtain ⟨h29, eh29, hf⟩ := hf
    refine hp_iastore dX9_harbour_155 eh29 (?_ : hp_G _ _ _ _ _ _ _ _ _ 156 _ _ _)
    replace hf := ob_ hf
    obtain ⟨x30, ex30, hf⟩ := hf
    refine hp_iinc (v := x30) (lv' := [(7, .int x30), (0, .ref v0)]) 1 dX9_harbour_156 rfl (hp_inc ic_1 ex30) (Nat.le_of_ble_eq_true rfl) rfl (?_ : hp_G _ _ _ _ _ _ _ _ _ 159 _ _ _)
    refine hp_goto (tgt := 95) dX9_harbour_159 rfl (?_ : hp_G _ _ _ _ _ _ _ _ _ 95 _ _ _)
    obtain rfl := Option.some.inj hf
    exact hp_sub [1, 0] rfl (kb _ rfl)
set_option maxRecDepth 20000 in
set_option maxHeartbeats 4000000 in
theorem tlX9_harbour_95 (l : Launch) {v0 : Nat}  (q : Nat) {s : (Int32 × hp_H)} {x : hp_H} (hf : it_ (bX9_harbour_95  v0) q s = some x) {Q : Option Value → hp_H → Prop} (ke : ∀ e, x = e → hp_G l mX9_harbour none 4 false Q false 0 0 162 [(0, .ref v0)] [] e) : hp_G l mX9_harbour none 4 false Q false 0 0 95 [(0, .ref v0), (7, .int s.1)] [] s.2 := by
  exact it_rule (f := bX9_harbour_95  v0) (fun s => hp_G l mX9_harbour none 4 false Q false 0 0 95 [(0, .ref v0), (7, .int s.1)] [] s.2) (fun x => (∀ e, x = e → hp_G l mX9_harbour none 4 false Q false 0 0 162 [(0, .ref v0)] [] e)) (fun s r h1 h2 h3 => tbX9_harbour_95 l h1 (fun t e => h2 t e) (fun e he => h3 _ he _ rfl)) q s x hf ke
noncomputable def fX9_harbour (h : hp_H) (a0 : Nat) (p1 : Int32) (p2 : Int32) (p3 : Int32) (p4 : Int32) : Option (Int32 × hp_H) :=
(pi_ h a0 8 0 0).bind fun h1 =>
(fX9_isSheet h1 p1).bind fun r2 =>
if r2 = 0 then
(some ((-1), h1))
else
((fX9_isSort h1 p2).bind fun r4 =>
if r4 = 0 then
(some ((-2), h1))
else
((hg_o h1 a0 8).bind fun o6 =>
(fX9_against h1 a0 p1 p2 p3 p4).bind fun r7 =>
if r7 = 0 then
((some ((60 * p1) + p3)).bind fun x9 =>
(pi_ h1 a0 8 11 x9).bind fun h10 =>
(hg_o h10 a0 8).bind fun o11 =>
(fX9_readHarbour h10 a0 (x9 + p4)).bind fun r12 =>
if r12.1 = 0 then
((gi_ r12.2 a0 8 11).bind fun x36 =>
some ((-100) - (x36 - x9), r12.2))
else
((gi_ r12.2 a0 8 12).bind fun x14 =>
(pi_ r12.2 a0 8 5 x14).bind fun h15 =>
(it_ (bX9_harbour_95  a0) fu_ (0, h15)).bind fun x31 =>
(pi_ x31 a0 8 6 0).bind fun h32 =>
(pi_ h32 a0 8 7 0).bind fun h33 =>
(pi_ h33 a0 8 24 0).bind fun h34 =>
(gi_ h34 a0 8 5).bind fun x35 =>
some (x35, h34)))
else
((hg_o h1 a0 8).bind fun o37 =>
(fX9_fails h1 a0 r7).bind fun r38 =>
some (r38.1, r38.2))))
set_option maxRecDepth 20000 in
set_option maxHeartbeats 4000000 in
theorem tX9_harbour (l : Launch) {h : hp_H} {a0 : Nat} {p1 : Int32} {p2 : Int32} {p3 : Int32} {p4 : Int32} {r : (Int32 × hp_H)} (hf : fX9_harbour h a0 p1 p2 p3 p4 = some r) {Q : Option Value → hp_H → Prop} (kr : Q (some (.int r.1)) r.2) : hp_G l mX9_harbour none 4 false Q false 0 0 0 [(0, .ref a0), (1, .int p1), (2, .int p2), (3, .int p3), (4, .int p4)] [] h := by
  unfold fX9_harbour at hf
  refine hp_aload_n 0 dX9_harbour_0 rfl rfl (?_ : hp_G _ _ _ _ _ _ _ _ _ 1 _ _ _)
  refine hp_iconst (v := 0) dX9_harbour_1 ic_0 (?_ : hp_G _ _ _ _ _ _ _ _ _ 2 _ _ _)
  replace hf := ob_ hf
  obtain ⟨h1, eh1, hf⟩ := hf
  refine fpX9_61 rfl dX9_harbour_2 eh1 (?_ : hp_G _ _ _ _ _ _ _ _ _ 5 _ _ _)
  refine hp_iload_n 1 dX9_harbour_5 rfl rfl (?_ : hp_G _ _ _ _ _ _ _ _ _ 6 _ _ _)
  replace hf := ob_ hf
  obtain ⟨r2, er2, hf⟩ := hf
  refine clX9_81 (as := [.int p1]) (st := []) rfl (kX9_isSheet l er2) rfl (by decide) (Nat.le_of_ble_eq_true rfl) dX9_harbour_6 rfl (?_ : hp_G _ _ _ _ _ _ _ _ _ 9 _ _ _)
  refine hp_if_ne (tgt := 14) dX9_harbour_9 rfl (fun c3 => ?_) (fun c3 => (?_ : hp_G _ _ _ _ _ _ _ _ _ 12 _ _ _))
  · replace hf := of_ c3 hf
    refine hp_iload_n 2 dX9_harbour_14 rfl rfl (?_ : hp_G _ _ _ _ _ _ _ _ _ 15 _ _ _)
    replace hf := ob_ hf
    obtain ⟨r4, er4, hf⟩ := hf
    refine clX9_84 (as := [.int p2]) (st := []) rfl (kX9_isSort l er4) rfl (by decide) (Nat.le_of_ble_eq_true rfl) dX9_harbour_15 rfl (?_ : hp_G _ _ _ _ _ _ _ _ _ 18 _ _ _)
    refine hp_if_ne (tgt := 24) dX9_harbour_18 rfl (fun c5 => ?_) (fun c5 => (?_ : hp_G _ _ _ _ _ _ _ _ _ 21 _ _ _))
    · replace hf := of_ c5 hf
      refine hp_aload_n 0 dX9_harbour_24 rfl rfl (?_ : hp_G _ _ _ _ _ _ _ _ _ 25 _ _ _)
      refine hp_iload_n 1 dX9_harbour_25 rfl rfl (?_ : hp_G _ _ _ _ _ _ _ _ _ 26 _ _ _)
      refine hp_iload_n 2 dX9_harbour_26 rfl rfl (?_ : hp_G _ _ _ _ _ _ _ _ _ 27 _ _ _)
      refine hp_iload_n 3 dX9_harbour_27 rfl rfl (?_ : hp_G _ _ _ _ _ _ _ _ _ 28 _ _ _)
      refine hp_iload 4 dX9_harbour_28 rfl (?_ : hp_G _ _ _ _ _ _ _ _ _ 30 _ _ _)
      replace hf := ob_ hf
      obtain ⟨o6, eo6, hf⟩ := hf
      replace hf := ob_ hf
      obtain ⟨r7, er7, hf⟩ := hf
      refine clX9_87 (as := [.int p1, .int p2, .int p3, .int p4]) (st := []) rfl (kX9_against l er7) rfl (by decide) (Nat.le_of_ble_eq_true rfl) eo6 dX9_harbour_30 rfl (?_ : hp_G _ _ _ _ _ _ _ _ _ 33 _ _ _)
      refine hp_istore (lv' := [(5, .int r7), (0, .ref a0), (1, .int p1), (2, .int p2), (3, .int p3), (4, .int p4)]) dX9_harbour_33 (Nat.le_of_ble_eq_true rfl) rfl (?_ : hp_G _ _ _ _ _ _ _ _ _ 35 _ _ _)
      refine hp_iload 0 dX9_harbour_35 rfl (?_ : hp_G _ _ _ _ _ _ _ _ _ 37 _ _ _)
      refine hp_if_eq (tgt := 47) dX9_harbour_37 rfl (fun c8 => ?_) (fun c8 => (?_ : hp_G _ _ _ _ _ _ _ _ _ 40 _ _ _))
      · replace hf := ot_ c8 hf
        refine hp_bipush (v := 60) dX9_harbour_47 bi_60 (?_ : hp_G _ _ _ _ _ _ _ _ _ 49 _ _ _)
        refine hp_iload_n 2 dX9_harbour_49 rfl rfl (?_ : hp_G _ _ _ _ _ _ _ _ _ 50 _ _ _)
        refine hp_imul dX9_harbour_50 (?_ : hp_G _ _ _ _ _ _ _ _ _ 51 _ _ _)
        refine hp_iload_n 4 dX9_harbour_51 rfl rfl (?_ : hp_G _ _ _ _ _ _ _ _ _ 52 _ _ _)
        refine hp_iadd dX9_harbour_52 (?_ : hp_G _ _ _ _ _ _ _ _ _ 53 _ _ _)
        replace hf := ob_ hf
        obtain ⟨x9, ex9, hf⟩ := hf
        refine hp_nmi ex9 ?_
        refine hp_istore (lv' := [(6, .int x9), (5, .int r7), (0, .ref a0), (1, .int p1), (2, .int p2), (3, .int p3), (4, .int p4)]) dX9_harbour_53 (Nat.le_of_ble_eq_true rfl) rfl (?_ : hp_G _ _ _ _ _ _ _ _ _ 55 _ _ _)
        refine hp_aload_n 2 dX9_harbour_55 rfl rfl (?_ : hp_G _ _ _ _ _ _ _ _ _ 56 _ _ _)
        refine hp_iload 0 dX9_harbour_56 rfl (?_ : hp_G _ _ _ _ _ _ _ _ _ 58 _ _ _)
        replace hf := ob_ hf
        obtain ⟨h10, eh10, hf⟩ := hf
        refine fpX9_78 rfl dX9_harbour_58 eh10 (?_ : hp_G _ _ _ _ _ _ _ _ _ 61 _ _ _)
        refine hp_aload_n 2 dX9_harbour_61 rfl rfl (?_ : hp_G _ _ _ _ _ _ _ _ _ 62 _ _ _)
        refine hp_iload 0 dX9_harbour_62 rfl (?_ : hp_G _ _ _ _ _ _ _ _ _ 64 _ _ _)
        refine hp_iload 6 dX9_harbour_64 rfl (?_ : hp_G _ _ _ _ _ _ _ _ _ 66 _ _ _)
        refine hp_iadd dX9_harbour_66 (?_ : hp_G _ _ _ _ _ _ _ _ _ 67 _ _ _)
        replace hf := ob_ hf
        obtain ⟨o11, eo11, hf⟩ := hf
        replace hf := ob_ hf
        obtain ⟨r12, er12, hf⟩ := hf
        refine clX9_95 (as := [.int (x9 + p4)]) (st := []) rfl (kX9_readHarbour l er12) rfl (by decide) (Nat.le_of_ble_eq_true rfl) eo11 dX9_harbour_67 rfl (?_ : hp_G _ _ _ _ _ _ _ _ _ 70 _ _ _)
        refine hp_if_ne (tgt := 84) dX9_harbour_70 rfl (fun c13 => ?_) (fun c13 => (?_ : hp_G _ _ _ _ _ _ _ _ _ 73 _ _ _))
        · replace hf := of_ c13 hf
          refine hp_aload_n 2 dX9_harbour_84 rfl rfl (?_ : hp_G _ _ _ _ _ _ _ _ _ 85 _ _ _)
          refine hp_aload_n 2 dX9_harbour_85 rfl rfl (?_ : hp_G _ _ _ _ _ _ _ _ _ 86 _ _ _)
          replace hf := ob_ hf
          obtain ⟨x14, ex14, hf⟩ := hf
          refine fgX9_98 rfl dX9_harbour_86 ex14 (?_ : hp_G _ _ _ _ _ _ _ _ _ 89 _ _ _)
          replace hf := ob_ hf
          obtain ⟨h15, eh15, hf⟩ := hf
          refine fpX9_71 rfl dX9_harbour_89 eh15 (?_ : hp_G _ _ _ _ _ _ _ _ _ 92 _ _ _)
          refine hp_iconst (v := 0) dX9_harbour_92 ic_0 (?_ : hp_G _ _ _ _ _ _ _ _ _ 93 _ _ _)
          refine hp_istore (lv' := [(7, .int 0), (6, .int x9), (5, .int r7), (0, .ref a0), (1, .int p1), (2, .int p2), (3, .int p3), (4, .int p4)]) dX9_harbour_93 (Nat.le_of_ble_eq_true rfl) rfl (?_ : hp_G _ _ _ _ _ _ _ _ _ 95 _ _ _)
          replace hf := ob_ hf
          obtain ⟨x31, ex31, hf⟩ := hf
          refine hp_sub [3, 0] rfl ?_
          refine tlX9_harbour_95 l fu_ ex31 (fun y hy => ?_)
          obtain rfl := hy
          refine hp_aload_n 0 dX9_harbour_162 rfl rfl (?_ : hp_G _ _ _ _ _ _ _ _ _ 163 _ _ _)
          refine hp_iconst (v := 0) dX9_harbour_163 ic_0 (?_ : hp_G _ _ _ _ _ _ _ _ _ 164 _ _ _)
          replace hf := ob_ hf
          obtain ⟨h32, eh32, hf⟩ := hf
          refine fpX9_101 rfl dX9_harbour_164 eh32 (?_ : hp_G _ _ _ _ _ _ _ _ _ 167 _ _ _)
          refine hp_aload_n 0 dX9_harbour_167 rfl rfl (?_ : hp_G _ _ _ _ _ _ _ _ _ 168 _ _ _)
          refine hp_iconst (v := 0) dX9_harbour_168 ic_0 (?_ : hp_G _ _ _ _ _ _ _ _ _ 169 _ _ _)
          replace hf := ob_ hf
          obtain ⟨h33, eh33, hf⟩ := hf
          refine fpX9_104 rfl dX9_harbour_169 eh33 (?_ : hp_G _ _ _ _ _ _ _ _ _ 172 _ _ _)
          refine hp_aload_n 0 dX9_harbour_172 rfl rfl (?_ : hp_G _ _ _ _ _ _ _ _ _ 173 _ _ _)
          refine hp_iconst (v := 0) dX9_harbour_173 ic_0 (?_ : hp_G _ _ _ _ _ _ _ _ _ 174 _ _ _)
          replace hf := ob_ hf
          obtain ⟨h34, eh34, hf⟩ := hf
          refine fpX9_107 rfl dX9_harbour_174 eh34 (?_ : hp_G _ _ _ _ _ _ _ _ _ 177 _ _ _)
          refine hp_aload_n 0 dX9_harbour_177 rfl rfl (?_ : hp_G _ _ _ _ _ _ _ _ _ 178 _ _ _)
          replace hf := ob_ hf
          obtain ⟨x35, ex35, hf⟩ := hf
          refine fgX9_71 rfl dX9_harbour_178 ex35 (?_ : hp_G _ _ _ _ _ _ _ _ _ 181 _ _ _)
          obtain rfl := Option.some.inj hf
          exact hp_iret kr (fun z => z) rfl dX9_harbour_181
        · replace hf := ot_ c13 hf
          refine hp_bipush (v := (-100)) dX9_harbour_73 bi_m100 (?_ : hp_G _ _ _ _ _ _ _ _ _ 75 _ _ _)
          refine hp_aload_n 2 dX9_harbour_75 rfl rfl (?_ : hp_G _ _ _ _ _ _ _ _ _ 76 _ _ _)
          replace hf := ob_ hf
          obtain ⟨x36, ex36, hf⟩ := hf
          refine fgX9_78 rfl dX9_harbour_76 ex36 (?_ : hp_G _ _ _ _ _ _ _ _ _ 79 _ _ _)
          refine hp_iload 0 dX9_harbour_79 rfl (?_ : hp_G _ _ _ _ _ _ _ _ _ 81 _ _ _)
          refine hp_isub dX9_harbour_81 (?_ : hp_G _ _ _ _ _ _ _ _ _ 82 _ _ _)
          refine hp_isub dX9_harbour_82 (?_ : hp_G _ _ _ _ _ _ _ _ _ 83 _ _ _)
          obtain rfl := Option.some.inj hf
          exact hp_iret kr (fun z => z) rfl dX9_harbour_83
      · replace hf := of_ c8 hf
        refine hp_aload_n 1 dX9_harbour_40 rfl rfl (?_ : hp_G _ _ _ _ _ _ _ _ _ 41 _ _ _)
        refine hp_iload 0 dX9_harbour_41 rfl (?_ : hp_G _ _ _ _ _ _ _ _ _ 43 _ _ _)
        replace hf := ob_ hf
        obtain ⟨o37, eo37, hf⟩ := hf
        replace hf := ob_ hf
        obtain ⟨r38, er38, hf⟩ := hf
        refine clX9_91 (as := [.int r7]) (st := []) rfl (kX9_fails l er38) rfl (by decide) (Nat.le_of_ble_eq_true rfl) eo37 dX9_harbour_43 rfl (?_ : hp_G _ _ _ _ _ _ _ _ _ 46 _ _ _)
        obtain rfl := Option.some.inj hf
        exact hp_iret kr (fun z => z) rfl dX9_harbour_46
    · replace hf := ot_ c5 hf
      refine hp_bipush (v := (-2)) dX9_harbour_21 bi_m2 (?_ : hp_G _ _ _ _ _ _ _ _ _ 23 _ _ _)
      obtain rfl := Option.some.inj hf
      exact hp_iret kr (fun z => z) rfl dX9_harbour_23
  · replace hf := ot_ c3 hf
    refine hp_iconst (v := (-1)) dX9_harbour_12 ic_m1 (?_ : hp_G _ _ _ _ _ _ _ _ _ 13 _ _ _)
    obtain rfl := Option.some.inj hf
    exact hp_iret kr (fun z => z) rfl dX9_harbour_13
theorem kX9_harbour (l : Launch) {h : hp_H} {a0 : Nat} {p1 : Int32} {p2 : Int32} {p3 : Int32} {p4 : Int32} {r : (Int32 × hp_H)} (hf : fX9_harbour h a0 p1 p2 p3 p4 = some r) : hp_Cn l yX9_harbour mX9_harbour 4 false 0 0 [.ref a0, .int p1, .int p2, .int p3, .int p4] h (fun v h2 => some (.int r.1) = v ∧ r.2 = h2) :=
  hp_of (by decide) rfl (fun z => by cases z) (Nat.le_of_ble_eq_true rfl) (tX9_harbour l hf ⟨rfl, rfl⟩)
noncomputable def fX7_has (h : hp_H) (a0 : Nat) (p1 : Int32) : Option Int32 :=
if p1 < 0 then
(some 0)
else
((gi_ h a0 6 1).bind fun x2 =>
if x2 ≤ p1 then
(some 0)
else
(some 1))
set_option maxRecDepth 20000 in
set_option maxHeartbeats 4000000 in
theorem tX7_has (l : Launch) {h : hp_H} {a0 : Nat} {p1 : Int32} {r : Int32} (hf : fX7_has h a0 p1 = some r) {Q : Option Value → hp_H → Prop} (kr : Q (some (.int r)) h) : hp_G l mX7_has none 0 false Q false 0 0 0 [(0, .ref a0), (1, .int p1)] [] h := by
  unfold fX7_has at hf
  refine hp_iload_n 1 dX7_has_0 rfl rfl (?_ : hp_G _ _ _ _ _ _ _ _ _ 1 _ _ _)
  refine hp_if_lt (tgt := 16) dX7_has_1 rfl (fun c1 => ?_) (fun c1 => (?_ : hp_G _ _ _ _ _ _ _ _ _ 4 _ _ _))
  · replace hf := ot_ c1 hf
    refine hp_iconst (v := 0) dX7_has_16 ic_0 (?_ : hp_G _ _ _ _ _ _ _ _ _ 17 _ _ _)
    obtain rfl := Option.some.inj hf
    exact hp_zret kr (fun z => z) rfl (by decide) dX7_has_17
  · replace hf := of_ c1 hf
    refine hp_iload_n 1 dX7_has_4 rfl rfl (?_ : hp_G _ _ _ _ _ _ _ _ _ 5 _ _ _)
    refine hp_aload_n 0 dX7_has_5 rfl rfl (?_ : hp_G _ _ _ _ _ _ _ _ _ 6 _ _ _)
    replace hf := ob_ hf
    obtain ⟨x2, ex2, hf⟩ := hf
    refine fgX7_18 rfl dX7_has_6 ex2 (?_ : hp_G _ _ _ _ _ _ _ _ _ 9 _ _ _)
    refine hp_icmp_ge (tgt := 16) dX7_has_9 rfl (fun c3 => ?_) (fun c3 => (?_ : hp_G _ _ _ _ _ _ _ _ _ 12 _ _ _))
    · replace hf := ot_ c3 hf
      refine hp_iconst (v := 0) dX7_has_16 ic_0 (?_ : hp_G _ _ _ _ _ _ _ _ _ 17 _ _ _)
      obtain rfl := Option.some.inj hf
      exact hp_zret kr (fun z => z) rfl (by decide) dX7_has_17
    · replace hf := of_ c3 hf
      refine hp_iconst (v := 1) dX7_has_12 ic_1 (?_ : hp_G _ _ _ _ _ _ _ _ _ 13 _ _ _)
      refine hp_goto (tgt := 17) dX7_has_13 rfl (?_ : hp_G _ _ _ _ _ _ _ _ _ 17 _ _ _)
      obtain rfl := Option.some.inj hf
      exact hp_zret kr (fun z => z) rfl (by decide) dX7_has_17
theorem kX7_has (l : Launch) {h : hp_H} {a0 : Nat} {p1 : Int32} {r : Int32} (hf : fX7_has h a0 p1 = some r) : hp_Cn l yX7_has mX7_has 0 false 0 0 [.ref a0, .int p1] h (fun v h2 => some (.int r) = v ∧ h = h2) :=
  hp_of (by decide) rfl (fun z => by cases z) (Nat.le_of_ble_eq_true rfl) (tX7_has l hf ⟨rfl, rfl⟩)
noncomputable def fX2_trait (h : hp_H) (a0 : Nat) (p1 : Int32) : Option Int32 :=
if p1 = 0 then
((gi_ h a0 2 0).bind fun x2 =>
some x2)
else
(if p1 = 1 then
((gi_ h a0 2 1).bind fun x4 =>
some x4)
else
((gi_ h a0 2 2).bind fun x5 =>
some x5))
set_option maxRecDepth 20000 in
set_option maxHeartbeats 4000000 in
theorem tX2_trait (l : Launch) {h : hp_H} {a0 : Nat} {p1 : Int32} {r : Int32} (hf : fX2_trait h a0 p1 = some r) {Q : Option Value → hp_H → Prop} (kr : Q (some (.int r)) h) : hp_G l mX2_trait none 0 false Q false 0 0 0 [(0, .ref a0), (1, .int p1)] [] h := by
  unfold fX2_trait at hf
  refine hp_iload_n 1 dX2_trait_0 rfl rfl (?_ : hp_G _ _ _ _ _ _ _ _ _ 1 _ _ _)
  by_cases c1 : p1 = 0
  · replace hf := ot_ c1 hf
    refine hp_lookup (tgt := 28) dX2_trait_1 rfl (by rw [c1]; decide) ?_
    refine hp_aload_n 0 dX2_trait_28 rfl rfl (?_ : hp_G _ _ _ _ _ _ _ _ _ 29 _ _ _)
    replace hf := ob_ hf
    obtain ⟨x2, ex2, hf⟩ := hf
    refine fgX2_9 rfl dX2_trait_29 ex2 (?_ : hp_G _ _ _ _ _ _ _ _ _ 32 _ _ _)
    obtain rfl := Option.some.inj hf
    exact hp_iret kr (fun z => z) rfl dX2_trait_32
  · replace hf := of_ c1 hf
    by_cases c3 : p1 = 1
    · replace hf := ot_ c3 hf
      refine hp_lookup (tgt := 33) dX2_trait_1 rfl (by rw [c3]; decide) ?_
      refine hp_aload_n 0 dX2_trait_33 rfl rfl (?_ : hp_G _ _ _ _ _ _ _ _ _ 34 _ _ _)
      replace hf := ob_ hf
      obtain ⟨x4, ex4, hf⟩ := hf
      refine fgX2_15 rfl dX2_trait_34 ex4 (?_ : hp_G _ _ _ _ _ _ _ _ _ 37 _ _ _)
      obtain rfl := Option.some.inj hf
      exact hp_iret kr (fun z => z) rfl dX2_trait_37
    · replace hf := of_ c3 hf
      refine hp_lookup (tgt := 38) dX2_trait_1 (by decide) (by show (1 : Int) + Op.lookupswitch.offset [(0, 27), (1, 32)] 37 (Int32.toInt p1) = _; rw [Op.lookupswitch.offset_cons, if_neg (hp_nei (by decide) c1), Op.lookupswitch.offset_cons, if_neg (hp_nei (by decide) c3), Op.lookupswitch.offset_nil]; decide) ?_
      refine hp_aload_n 0 dX2_trait_38 rfl rfl (?_ : hp_G _ _ _ _ _ _ _ _ _ 39 _ _ _)
      replace hf := ob_ hf
      obtain ⟨x5, ex5, hf⟩ := hf
      refine fgX2_18 rfl dX2_trait_39 ex5 (?_ : hp_G _ _ _ _ _ _ _ _ _ 42 _ _ _)
      obtain rfl := Option.some.inj hf
      exact hp_iret kr (fun z => z) rfl dX2_trait_42
theorem kX2_trait (l : Launch) {h : hp_H} {a0 : Nat} {p1 : Int32} {r : Int32} (hf : fX2_trait h a0 p1 = some r) : hp_Cn l yX2_trait mX2_trait 0 false 0 0 [.ref a0, .int p1] h (fun v h2 => some (.int r) = v ∧ h = h2) :=
  hp_of (by decide) rfl (fun z => by cases z) (Nat.le_of_ble_eq_true rfl) (tX2_trait l hf ⟨rfl, rfl⟩)
noncomputable def fX2_best (h : hp_H) (a0 : Nat) : Option Int32 :=
(gi_ h a0 2 0).bind fun x1 =>
if x1 = 1 then
((gi_ h a0 2 1).bind fun x3 =>
some (x3 + 1))
else
(if x1 = 2 then
((gi_ h a0 2 1).bind fun x5 =>
some (2 * x5))
else
((gi_ h a0 2 1).bind fun x6 =>
some x6))
set_option maxRecDepth 20000 in
set_option maxHeartbeats 4000000 in
theorem tX2_best (l : Launch) {h : hp_H} {a0 : Nat} {r : Int32} (hf : fX2_best h a0 = some r) {Q : Option Value → hp_H → Prop} (kr : Q (some (.int r)) h) : hp_G l mX2_best none 0 false Q false 0 0 0 [(0, .ref a0)] [] h := by
  unfold fX2_best at hf
  refine hp_aload_n 0 dX2_best_0 rfl rfl (?_ : hp_G _ _ _ _ _ _ _ _ _ 1 _ _ _)
  replace hf := ob_ hf
  obtain ⟨x1, ex1, hf⟩ := hf
  refine fgX2_9 rfl dX2_best_1 ex1 (?_ : hp_G _ _ _ _ _ _ _ _ _ 4 _ _ _)
  by_cases c2 : x1 = 1
  · replace hf := ot_ c2 hf
    refine hp_lookup (tgt := 39) dX2_best_4 rfl (by rw [c2]; decide) ?_
    refine hp_aload_n 0 dX2_best_39 rfl rfl (?_ : hp_G _ _ _ _ _ _ _ _ _ 40 _ _ _)
    replace hf := ob_ hf
    obtain ⟨x3, ex3, hf⟩ := hf
    refine fgX2_15 rfl dX2_best_40 ex3 (?_ : hp_G _ _ _ _ _ _ _ _ _ 43 _ _ _)
    refine hp_iconst (v := 1) dX2_best_43 ic_1 (?_ : hp_G _ _ _ _ _ _ _ _ _ 44 _ _ _)
    refine hp_iadd dX2_best_44 (?_ : hp_G _ _ _ _ _ _ _ _ _ 45 _ _ _)
    obtain rfl := Option.some.inj hf
    exact hp_iret kr (fun z => z) rfl dX2_best_45
  · replace hf := of_ c2 hf
    by_cases c4 : x1 = 2
    · replace hf := ot_ c4 hf
      refine hp_lookup (tgt := 32) dX2_best_4 rfl (by rw [c4]; decide) ?_
      refine hp_iconst (v := 2) dX2_best_32 ic_2 (?_ : hp_G _ _ _ _ _ _ _ _ _ 33 _ _ _)
      refine hp_aload_n 0 dX2_best_33 rfl rfl (?_ : hp_G _ _ _ _ _ _ _ _ _ 34 _ _ _)
      replace hf := ob_ hf
      obtain ⟨x5, ex5, hf⟩ := hf
      refine fgX2_15 rfl dX2_best_34 ex5 (?_ : hp_G _ _ _ _ _ _ _ _ _ 37 _ _ _)
      refine hp_imul dX2_best_37 (?_ : hp_G _ _ _ _ _ _ _ _ _ 38 _ _ _)
      obtain rfl := Option.some.inj hf
      exact hp_iret kr (fun z => z) rfl dX2_best_38
    · replace hf := of_ c4 hf
      refine hp_lookup (tgt := 46) dX2_best_4 (by decide) (by show (4 : Int) + Op.lookupswitch.offset [(1, 35), (2, 28)] 42 (Int32.toInt x1) = _; rw [Op.lookupswitch.offset_cons, if_neg (hp_nei (by decide) c2), Op.lookupswitch.offset_cons, if_neg (hp_nei (by decide) c4), Op.lookupswitch.offset_nil]; decide) ?_
      refine hp_aload_n 0 dX2_best_46 rfl rfl (?_ : hp_G _ _ _ _ _ _ _ _ _ 47 _ _ _)
      replace hf := ob_ hf
      obtain ⟨x6, ex6, hf⟩ := hf
      refine fgX2_15 rfl dX2_best_47 ex6 (?_ : hp_G _ _ _ _ _ _ _ _ _ 50 _ _ _)
      obtain rfl := Option.some.inj hf
      exact hp_iret kr (fun z => z) rfl dX2_best_50
theorem kX2_best (l : Launch) {h : hp_H} {a0 : Nat} {r : Int32} (hf : fX2_best h a0 = some r) : hp_Cn l yX2_best mX2_best 0 false 0 0 [.ref a0] h (fun v h2 => some (.int r) = v ∧ h = h2) :=
  hp_of (by decide) rfl (fun z => by cases z) (Nat.le_of_ble_eq_true rfl) (tX2_best l hf ⟨rfl, rfl⟩)
