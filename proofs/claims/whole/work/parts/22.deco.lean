noncomputable def fX5_faultOfRow (h : hp_H) (a0 : Nat) (p1 : Int32) (p2 : Int32) (p3 : Int32) : Option Int32 :=
(gi_ h a0 5 1).bind fun x1 =>
if x1 = 0 then
(some 1)
else
((gi_ h a0 5 2).bind fun x3 =>
if x3 = p1 then
(if (0 : Int32) ≤ p3 then
((hg_o h a0 5).bind fun o6 =>
(fX5_reaches h a0 p2 p3).bind fun r7 =>
if r7 = 0 then
(some 3)
else
(some 0))
else
(some 4))
else
(some 2))
set_option maxRecDepth 20000 in
set_option maxHeartbeats 4000000 in
theorem tX5_faultOfRow (l : Launch) {h : hp_H} {a0 : Nat} {p1 : Int32} {p2 : Int32} {p3 : Int32} {r : Int32} (hf : fX5_faultOfRow h a0 p1 p2 p3 = some r) {Q : Option Value → hp_H → Prop} (kr : Q (some (.int r)) h) : hp_G l mX5_faultOfRow none 1 false Q false 0 0 0 [(0, .ref a0), (1, .int p1), (2, .int p2), (3, .int p3)] [] h := by
  unfold fX5_faultOfRow at hf
  refine hp_aload_n 0 dX5_faultOfRow_0 rfl rfl (?_ : hp_G _ _ _ _ _ _ _ _ _ 1 _ _ _)
  replace hf := ob_ hf
  obtain ⟨x1, ex1, hf⟩ := hf
  refine fgX5_21 rfl dX5_faultOfRow_1 ex1 (?_ : hp_G _ _ _ _ _ _ _ _ _ 4 _ _ _)
  refine hp_if_ne (tgt := 9) dX5_faultOfRow_4 rfl (fun c2 => ?_) (fun c2 => (?_ : hp_G _ _ _ _ _ _ _ _ _ 7 _ _ _))
  · replace hf := of_ c2 hf
    refine hp_aload_n 0 dX5_faultOfRow_9 rfl rfl (?_ : hp_G _ _ _ _ _ _ _ _ _ 10 _ _ _)
    replace hf := ob_ hf
    obtain ⟨x3, ex3, hf⟩ := hf
    refine fgX5_25 rfl dX5_faultOfRow_10 ex3 (?_ : hp_G _ _ _ _ _ _ _ _ _ 13 _ _ _)
    refine hp_iload_n 1 dX5_faultOfRow_13 rfl rfl (?_ : hp_G _ _ _ _ _ _ _ _ _ 14 _ _ _)
    refine hp_icmp_eq (tgt := 19) dX5_faultOfRow_14 rfl (fun c4 => ?_) (fun c4 => (?_ : hp_G _ _ _ _ _ _ _ _ _ 17 _ _ _))
    · replace hf := ot_ c4 hf
      refine hp_iload_n 3 dX5_faultOfRow_19 rfl rfl (?_ : hp_G _ _ _ _ _ _ _ _ _ 20 _ _ _)
      refine hp_if_ge (tgt := 25) dX5_faultOfRow_20 rfl (fun c5 => ?_) (fun c5 => (?_ : hp_G _ _ _ _ _ _ _ _ _ 23 _ _ _))
      · replace hf := ot_ c5 hf
        refine hp_aload_n 0 dX5_faultOfRow_25 rfl rfl (?_ : hp_G _ _ _ _ _ _ _ _ _ 26 _ _ _)
        refine hp_iload_n 2 dX5_faultOfRow_26 rfl rfl (?_ : hp_G _ _ _ _ _ _ _ _ _ 27 _ _ _)
        refine hp_iload_n 3 dX5_faultOfRow_27 rfl rfl (?_ : hp_G _ _ _ _ _ _ _ _ _ 28 _ _ _)
        replace hf := ob_ hf
        obtain ⟨o6, eo6, hf⟩ := hf
        replace hf := ob_ hf
        obtain ⟨r7, er7, hf⟩ := hf
        refine clX5_32 (as := [.int p2, .int p3]) (st := []) rfl (kX5_reaches l er7) rfl (by decide) (Nat.le_of_ble_eq_true rfl) eo6 dX5_faultOfRow_28 rfl (?_ : hp_G _ _ _ _ _ _ _ _ _ 31 _ _ _)
        refine hp_if_eq (tgt := 38) dX5_faultOfRow_31 rfl (fun c8 => ?_) (fun c8 => (?_ : hp_G _ _ _ _ _ _ _ _ _ 34 _ _ _))
        · replace hf := ot_ c8 hf
          refine hp_iconst (v := 3) dX5_faultOfRow_38 ic_3 (?_ : hp_G _ _ _ _ _ _ _ _ _ 39 _ _ _)
          obtain rfl := Option.some.inj hf
          exact hp_iret kr (fun z => z) rfl dX5_faultOfRow_39
        · replace hf := of_ c8 hf
          refine hp_iconst (v := 0) dX5_faultOfRow_34 ic_0 (?_ : hp_G _ _ _ _ _ _ _ _ _ 35 _ _ _)
          refine hp_goto (tgt := 39) dX5_faultOfRow_35 rfl (?_ : hp_G _ _ _ _ _ _ _ _ _ 39 _ _ _)
          obtain rfl := Option.some.inj hf
          exact hp_iret kr (fun z => z) rfl dX5_faultOfRow_39
      · replace hf := of_ c5 hf
        refine hp_iconst (v := 4) dX5_faultOfRow_23 ic_4 (?_ : hp_G _ _ _ _ _ _ _ _ _ 24 _ _ _)
        obtain rfl := Option.some.inj hf
        exact hp_iret kr (fun z => z) rfl dX5_faultOfRow_24
    · replace hf := of_ c4 hf
      refine hp_iconst (v := 2) dX5_faultOfRow_17 ic_2 (?_ : hp_G _ _ _ _ _ _ _ _ _ 18 _ _ _)
      obtain rfl := Option.some.inj hf
      exact hp_iret kr (fun z => z) rfl dX5_faultOfRow_18
  · replace hf := ot_ c2 hf
    refine hp_iconst (v := 1) dX5_faultOfRow_7 ic_1 (?_ : hp_G _ _ _ _ _ _ _ _ _ 8 _ _ _)
    obtain rfl := Option.some.inj hf
    exact hp_iret kr (fun z => z) rfl dX5_faultOfRow_8
theorem kX5_faultOfRow (l : Launch) {h : hp_H} {a0 : Nat} {p1 : Int32} {p2 : Int32} {p3 : Int32} {r : Int32} (hf : fX5_faultOfRow h a0 p1 p2 p3 = some r) : hp_Cn l yX5_faultOfRow mX5_faultOfRow 1 false 0 0 [.ref a0, .int p1, .int p2, .int p3] h (fun v h2 => some (.int r) = v ∧ h = h2) :=
  hp_of (by decide) rfl (fun z => by cases z) (Nat.le_of_ble_eq_true rfl) (tX5_faultOfRow l hf ⟨rfl, rfl⟩)
noncomputable def fX8_faulted (h : hp_H) (a0 : Nat) (p1 : Int32) : Option (Int32 × hp_H) :=
(pi_ h a0 7 8 p1).bind fun h1 =>
some ((-10) - p1, h1)
set_option maxRecDepth 20000 in
set_option maxHeartbeats 4000000 in
theorem tX8_faulted (l : Launch) {h : hp_H} {a0 : Nat} {p1 : Int32} {r : (Int32 × hp_H)} (hf : fX8_faulted h a0 p1 = some r) {Q : Option Value → hp_H → Prop} (kr : Q (some (.int r.1)) r.2) : hp_G l mX8_faulted none 0 false Q false 0 0 0 [(0, .ref a0), (1, .int p1)] [] h := by
  unfold fX8_faulted at hf
  refine hp_aload_n 0 dX8_faulted_0 rfl rfl (?_ : hp_G _ _ _ _ _ _ _ _ _ 1 _ _ _)
  refine hp_iload_n 1 dX8_faulted_1 rfl rfl (?_ : hp_G _ _ _ _ _ _ _ _ _ 2 _ _ _)
  replace hf := ob_ hf
  obtain ⟨h1, eh1, hf⟩ := hf
  refine fpX8_53 rfl dX8_faulted_2 eh1 (?_ : hp_G _ _ _ _ _ _ _ _ _ 5 _ _ _)
  refine hp_bipush (v := (-10)) dX8_faulted_5 bi_m10 (?_ : hp_G _ _ _ _ _ _ _ _ _ 7 _ _ _)
  refine hp_iload_n 1 dX8_faulted_7 rfl rfl (?_ : hp_G _ _ _ _ _ _ _ _ _ 8 _ _ _)
  refine hp_isub dX8_faulted_8 (?_ : hp_G _ _ _ _ _ _ _ _ _ 9 _ _ _)
  obtain rfl := Option.some.inj hf
  exact hp_iret kr (fun z => z) rfl dX8_faulted_9
theorem kX8_faulted (l : Launch) {h : hp_H} {a0 : Nat} {p1 : Int32} {r : (Int32 × hp_H)} (hf : fX8_faulted h a0 p1 = some r) : hp_Cn l yX8_faulted mX8_faulted 0 false 0 0 [.ref a0, .int p1] h (fun v h2 => some (.int r.1) = v ∧ r.2 = h2) :=
  hp_of (by decide) rfl (fun z => by cases z) (Nat.le_of_ble_eq_true rfl) (tX8_faulted l hf ⟨rfl, rfl⟩)
noncomputable def fX5_read (h : hp_H) (a0 : Nat) (p1 : Int32) : Option Int32 :=
(hg_o h a0 5).bind fun o1 =>
(fX5_reaches h a0 p1 1).bind fun r2 =>
if r2 = 0 then
(some 0)
else
((gq_ h a0 5 0).bind fun x4 =>
(al_ h x4 p1).bind fun x5 =>
some x5)
set_option maxRecDepth 20000 in
set_option maxHeartbeats 4000000 in
theorem tX5_read (l : Launch) {h : hp_H} {a0 : Nat} {p1 : Int32} {r : Int32} (hf : fX5_read h a0 p1 = some r) {Q : Option Value → hp_H → Prop} (kr : Q (some (.int r)) h) : hp_G l mX5_read none 1 false Q false 0 0 0 [(0, .ref a0), (1, .int p1)] [] h := by
  unfold fX5_read at hf
  refine hp_aload_n 0 dX5_read_0 rfl rfl (?_ : hp_G _ _ _ _ _ _ _ _ _ 1 _ _ _)
  refine hp_iload_n 1 dX5_read_1 rfl rfl (?_ : hp_G _ _ _ _ _ _ _ _ _ 2 _ _ _)
  refine hp_iconst (v := 1) dX5_read_2 ic_1 (?_ : hp_G _ _ _ _ _ _ _ _ _ 3 _ _ _)
  replace hf := ob_ hf
  obtain ⟨o1, eo1, hf⟩ := hf
  replace hf := ob_ hf
  obtain ⟨r2, er2, hf⟩ := hf
  refine clX5_32 (as := [.int p1, .int 1]) (st := []) rfl (kX5_reaches l er2) rfl (by decide) (Nat.le_of_ble_eq_true rfl) eo1 dX5_read_3 rfl (?_ : hp_G _ _ _ _ _ _ _ _ _ 6 _ _ _)
  refine hp_if_eq (tgt := 18) dX5_read_6 rfl (fun c3 => ?_) (fun c3 => (?_ : hp_G _ _ _ _ _ _ _ _ _ 9 _ _ _))
  · replace hf := ot_ c3 hf
    refine hp_iconst (v := 0) dX5_read_18 ic_0 (?_ : hp_G _ _ _ _ _ _ _ _ _ 19 _ _ _)
    obtain rfl := Option.some.inj hf
    exact hp_iret kr (fun z => z) rfl dX5_read_19
  · replace hf := of_ c3 hf
    refine hp_aload_n 0 dX5_read_9 rfl rfl (?_ : hp_G _ _ _ _ _ _ _ _ _ 10 _ _ _)
    replace hf := ob_ hf
    obtain ⟨x4, ex4, hf⟩ := hf
    refine fgX5_9 rfl dX5_read_10 ex4 (?_ : hp_G _ _ _ _ _ _ _ _ _ 13 _ _ _)
    refine hp_iload_n 1 dX5_read_13 rfl rfl (?_ : hp_G _ _ _ _ _ _ _ _ _ 14 _ _ _)
    replace hf := ob_ hf
    obtain ⟨x5, ex5, hf⟩ := hf
    refine hp_iaload dX5_read_14 ex5 (?_ : hp_G _ _ _ _ _ _ _ _ _ 15 _ _ _)
    refine hp_goto (tgt := 19) dX5_read_15 rfl (?_ : hp_G _ _ _ _ _ _ _ _ _ 19 _ _ _)
    obtain rfl := Option.some.inj hf
    exact hp_iret kr (fun z => z) rfl dX5_read_19
theorem kX5_read (l : Launch) {h : hp_H} {a0 : Nat} {p1 : Int32} {r : Int32} (hf : fX5_read h a0 p1 = some r) : hp_Cn l yX5_read mX5_read 1 false 0 0 [.ref a0, .int p1] h (fun v h2 => some (.int r) = v ∧ h = h2) :=
  hp_of (by decide) rfl (fun z => by cases z) (Nat.le_of_ble_eq_true rfl) (tX5_read l hf ⟨rfl, rfl⟩)
noncomputable def fX6_kindOf (h : hp_H) (p0 : Int32) : Option Int32 :=
if p0 = 99 then
(some 2)
else
(if p0 = 108 then
(some 1)
else
(if p0 = 112 then
(some 0)
else
(some (-9))))
set_option maxRecDepth 20000 in
set_option maxHeartbeats 4000000 in
theorem tX6_kindOf (l : Launch) {h : hp_H} {p0 : Int32} {r : Int32} (hf : fX6_kindOf h p0 = some r) {Q : Option Value → hp_H → Prop} (kr : Q (some (.int r)) h) : hp_G l mX6_kindOf none 0 false Q false 0 0 0 [(0, .int p0)] [] h := by
  unfold fX6_kindOf at hf
  refine hp_iload_n 0 dX6_kindOf_0 rfl rfl (?_ : hp_G _ _ _ _ _ _ _ _ _ 1 _ _ _)
  by_cases c1 : p0 = 99
  · replace hf := ot_ c1 hf
    refine hp_lookup (tgt := 40) dX6_kindOf_1 rfl (by rw [c1]; decide) ?_
    refine hp_iconst (v := 2) dX6_kindOf_40 ic_2 (?_ : hp_G _ _ _ _ _ _ _ _ _ 41 _ _ _)
    obtain rfl := Option.some.inj hf
    exact hp_iret kr (fun z => z) rfl dX6_kindOf_41
  · replace hf := of_ c1 hf
    by_cases c2 : p0 = 108
    · replace hf := ot_ c2 hf
      refine hp_lookup (tgt := 38) dX6_kindOf_1 rfl (by rw [c2]; decide) ?_
      refine hp_iconst (v := 1) dX6_kindOf_38 ic_1 (?_ : hp_G _ _ _ _ _ _ _ _ _ 39 _ _ _)
      obtain rfl := Option.some.inj hf
      exact hp_iret kr (fun z => z) rfl dX6_kindOf_39
    · replace hf := of_ c2 hf
      by_cases c3 : p0 = 112
      · replace hf := ot_ c3 hf
        refine hp_lookup (tgt := 36) dX6_kindOf_1 rfl (by rw [c3]; decide) ?_
        refine hp_iconst (v := 0) dX6_kindOf_36 ic_0 (?_ : hp_G _ _ _ _ _ _ _ _ _ 37 _ _ _)
        obtain rfl := Option.some.inj hf
        exact hp_iret kr (fun z => z) rfl dX6_kindOf_37
      · replace hf := of_ c3 hf
        refine hp_lookup (tgt := 42) dX6_kindOf_1 (by decide) (by show (1 : Int) + Op.lookupswitch.offset [(99, 39), (108, 37), (112, 35)] 41 (Int32.toInt p0) = _; rw [Op.lookupswitch.offset_cons, if_neg (hp_nei (by decide) c1), Op.lookupswitch.offset_cons, if_neg (hp_nei (by decide) c2), Op.lookupswitch.offset_cons, if_neg (hp_nei (by decide) c3), Op.lookupswitch.offset_nil]; decide) ?_
        refine hp_bipush (v := (-9)) dX6_kindOf_42 bi_m9 (?_ : hp_G _ _ _ _ _ _ _ _ _ 44 _ _ _)
        obtain rfl := Option.some.inj hf
        exact hp_iret kr (fun z => z) rfl dX6_kindOf_44
theorem kX6_kindOf (l : Launch) {h : hp_H} {p0 : Int32} {r : Int32} (hf : fX6_kindOf h p0 = some r) : hp_Cn l yX6_kindOf mX6_kindOf 0 false 0 0 [.int p0] h (fun v h2 => some (.int r) = v ∧ h = h2) :=
  hp_of (by decide) rfl (fun z => by cases z) (Nat.le_of_ble_eq_true rfl) (tX6_kindOf l hf ⟨rfl, rfl⟩)
noncomputable def fX8_isDigit (h : hp_H) (p0 : Int32) : Option Int32 :=
if p0 < 0 then
(some 0)
else
(if (10 : Int32) ≤ p0 then
(some 0)
else
(some 1))
set_option maxRecDepth 20000 in
set_option maxHeartbeats 4000000 in
theorem tX8_isDigit (l : Launch) {h : hp_H} {p0 : Int32} {r : Int32} (hf : fX8_isDigit h p0 = some r) {Q : Option Value → hp_H → Prop} (kr : Q (some (.int r)) h) : hp_G l mX8_isDigit none 0 false Q false 0 0 0 [(0, .int p0)] [] h := by
  unfold fX8_isDigit at hf
  refine hp_iload_n 0 dX8_isDigit_0 rfl rfl (?_ : hp_G _ _ _ _ _ _ _ _ _ 1 _ _ _)
  refine hp_if_lt (tgt := 14) dX8_isDigit_1 rfl (fun c1 => ?_) (fun c1 => (?_ : hp_G _ _ _ _ _ _ _ _ _ 4 _ _ _))
  · replace hf := ot_ c1 hf
    refine hp_iconst (v := 0) dX8_isDigit_14 ic_0 (?_ : hp_G _ _ _ _ _ _ _ _ _ 15 _ _ _)
    obtain rfl := Option.some.inj hf
    exact hp_zret kr (fun z => z) rfl (by decide) dX8_isDigit_15
  · replace hf := of_ c1 hf
    refine hp_iload_n 0 dX8_isDigit_4 rfl rfl (?_ : hp_G _ _ _ _ _ _ _ _ _ 5 _ _ _)
    refine hp_bipush (v := 10) dX8_isDigit_5 bi_10 (?_ : hp_G _ _ _ _ _ _ _ _ _ 7 _ _ _)
    refine hp_icmp_ge (tgt := 14) dX8_isDigit_7 rfl (fun c2 => ?_) (fun c2 => (?_ : hp_G _ _ _ _ _ _ _ _ _ 10 _ _ _))
    · replace hf := ot_ c2 hf
      refine hp_iconst (v := 0) dX8_isDigit_14 ic_0 (?_ : hp_G _ _ _ _ _ _ _ _ _ 15 _ _ _)
      obtain rfl := Option.some.inj hf
      exact hp_zret kr (fun z => z) rfl (by decide) dX8_isDigit_15
    · replace hf := of_ c2 hf
      refine hp_iconst (v := 1) dX8_isDigit_10 ic_1 (?_ : hp_G _ _ _ _ _ _ _ _ _ 11 _ _ _)
      refine hp_goto (tgt := 15) dX8_isDigit_11 rfl (?_ : hp_G _ _ _ _ _ _ _ _ _ 15 _ _ _)
      obtain rfl := Option.some.inj hf
      exact hp_zret kr (fun z => z) rfl (by decide) dX8_isDigit_15
theorem kX8_isDigit (l : Launch) {h : hp_H} {p0 : Int32} {r : Int32} (hf : fX8_isDigit h p0 = some r) : hp_Cn l yX8_isDigit mX8_isDigit 0 false 0 0 [.int p0] h (fun v h2 => some (.int r) = v ∧ h = h2) :=
  hp_of (by decide) rfl (fun z => by cases z) (Nat.le_of_ble_eq_true rfl) (tX8_isDigit l hf ⟨rfl, rfl⟩)
noncomputable def fX6_goesOn (h : hp_H) (p0 : Int32) (p1 : Int32) : Option Int32 :=
if p0 = 0 then
(if p1 = 118 then
(some 1)
else
(some 0))
else
(if p0 ≤ 24 then
((rm_ (p0 - 1) 4).bind fun x3 =>
if x3 = 0 then
(if p1 = 59 then
(some 1)
else
(some 0))
else
(if x3 = 1 then
((fX6_kindOf h p1).bind fun r7 =>
if r7 = (-9) then
(some 0)
else
(some 1))
else
((fX8_isDigit h (p1 - 48)).bind fun r9 =>
(bz_ r9).bind fun z10 =>
some z10)))
else
(some 0))
set_option maxRecDepth 20000 in
set_option maxHeartbeats 4000000 in
theorem tX6_goesOn (l : Launch) {h : hp_H} {p0 : Int32} {p1 : Int32} {r : Int32} (hf : fX6_goesOn h p0 p1 = some r) {Q : Option Value → hp_H → Prop} (kr : Q (some (.int r)) h) : hp_G l mX6_goesOn none 1 false Q false 0 0 0 [(0, .int p0), (1, .int p1)] [] h := by
  unfold fX6_goesOn at hf
  refine hp_iload_n 0 dX6_goesOn_0 rfl rfl (?_ : hp_G _ _ _ _ _ _ _ _ _ 1 _ _ _)
  refine hp_if_ne (tgt := 16) dX6_goesOn_1 rfl (fun c1 => ?_) (fun c1 => (?_ : hp_G _ _ _ _ _ _ _ _ _ 4 _ _ _))
  · replace hf := of_ c1 hf
    refine hp_iload_n 0 dX6_goesOn_16 rfl rfl (?_ : hp_G _ _ _ _ _ _ _ _ _ 17 _ _ _)
    refine hp_bipush (v := 24) dX6_goesOn_17 bi_24 (?_ : hp_G _ _ _ _ _ _ _ _ _ 19 _ _ _)
    refine hp_icmp_le (tgt := 24) dX6_goesOn_19 rfl (fun c2 => ?_) (fun c2 => (?_ : hp_G _ _ _ _ _ _ _ _ _ 22 _ _ _))
    · replace hf := ot_ c2 hf
      refine hp_iload_n 0 dX6_goesOn_24 rfl rfl (?_ : hp_G _ _ _ _ _ _ _ _ _ 25 _ _ _)
      refine hp_iconst (v := 1) dX6_goesOn_25 ic_1 (?_ : hp_G _ _ _ _ _ _ _ _ _ 26 _ _ _)
      refine hp_isub dX6_goesOn_26 (?_ : hp_G _ _ _ _ _ _ _ _ _ 27 _ _ _)
      refine hp_iconst (v := 4) dX6_goesOn_27 ic_4 (?_ : hp_G _ _ _ _ _ _ _ _ _ 28 _ _ _)
      replace hf := ob_ hf
      obtain ⟨x3, ex3, hf⟩ := hf
      refine hp_irem dX6_goesOn_28 ex3 (?_ : hp_G _ _ _ _ _ _ _ _ _ 29 _ _ _)
      by_cases c4 : x3 = 0
      · replace hf := ot_ c4 hf
        refine hp_lookup (tgt := 56) dX6_goesOn_29 rfl (by rw [c4]; decide) ?_
        refine hp_iload_n 1 dX6_goesOn_56 rfl rfl (?_ : hp_G _ _ _ _ _ _ _ _ _ 57 _ _ _)
        refine hp_bipush (v := 59) dX6_goesOn_57 bi_59 (?_ : hp_G _ _ _ _ _ _ _ _ _ 59 _ _ _)
        refine hp_icmp_ne (tgt := 66) dX6_goesOn_59 rfl (fun c5 => ?_) (fun c5 => (?_ : hp_G _ _ _ _ _ _ _ _ _ 62 _ _ _))
        · replace hf := of_ c5 hf
          refine hp_iconst (v := 0) dX6_goesOn_66 ic_0 (?_ : hp_G _ _ _ _ _ _ _ _ _ 67 _ _ _)
          obtain rfl := Option.some.inj hf
          exact hp_zret kr (fun z => z) rfl (by decide) dX6_goesOn_67
        · replace hf := ot_ c5 hf
          refine hp_iconst (v := 1) dX6_goesOn_62 ic_1 (?_ : hp_G _ _ _ _ _ _ _ _ _ 63 _ _ _)
          refine hp_goto (tgt := 67) dX6_goesOn_63 rfl (?_ : hp_G _ _ _ _ _ _ _ _ _ 67 _ _ _)
          obtain rfl := Option.some.inj hf
          exact hp_zret kr (fun z => z) rfl (by decide) dX6_goesOn_67
      · replace hf := of_ c4 hf
        by_cases c6 : x3 = 1
        · replace hf := ot_ c6 hf
          refine hp_lookup (tgt := 68) dX6_goesOn_29 rfl (by rw [c6]; decide) ?_
          refine hp_iload_n 1 dX6_goesOn_68 rfl rfl (?_ : hp_G _ _ _ _ _ _ _ _ _ 69 _ _ _)
          replace hf := ob_ hf
          obtain ⟨r7, er7, hf⟩ := hf
          refine clX6_21 (as := [.int p1]) (st := []) rfl (kX6_kindOf l er7) rfl (by decide) (Nat.le_of_ble_eq_true rfl) dX6_goesOn_69 rfl (?_ : hp_G _ _ _ _ _ _ _ _ _ 72 _ _ _)
          refine hp_bipush (v := (-9)) dX6_goesOn_72 bi_m9 (?_ : hp_G _ _ _ _ _ _ _ _ _ 74 _ _ _)
          refine hp_icmp_eq (tgt := 81) dX6_goesOn_74 rfl (fun c8 => ?_) (fun c8 => (?_ : hp_G _ _ _ _ _ _ _ _ _ 77 _ _ _))
          · replace hf := ot_ c8 hf
            refine hp_iconst (v := 0) dX6_goesOn_81 ic_0 (?_ : hp_G _ _ _ _ _ _ _ _ _ 82 _ _ _)
            obtain rfl := Option.some.inj hf
            exact hp_zret kr (fun z => z) rfl (by decide) dX6_goesOn_82
          · replace hf := of_ c8 hf
            refine hp_iconst (v := 1) dX6_goesOn_77 ic_1 (?_ : hp_G _ _ _ _ _ _ _ _ _ 78 _ _ _)
            refine hp_goto (tgt := 82) dX6_goesOn_78 rfl (?_ : hp_G _ _ _ _ _ _ _ _ _ 82 _ _ _)
            obtain rfl := Option.some.inj hf
            exact hp_zret kr (fun z => z) rfl (by decide) dX6_goesOn_82
        · replace hf := of_ c6 hf
          refine hp_lookup (tgt := 83) dX6_goesOn_29 (by decide) (by show (29 : Int) + Op.lookupswitch.offset [(0, 27), (1, 39)] 54 (Int32.toInt x3) = _; rw [Op.lookupswitch.offset_cons, if_neg (hp_nei (by decide) c4), Op.lookupswitch.offset_cons, if_neg (hp_nei (by decide) c6), Op.lookupswitch.offset_nil]; decide) ?_
          refine hp_iload_n 1 dX6_goesOn_83 rfl rfl (?_ : hp_G _ _ _ _ _ _ _ _ _ 84 _ _ _)
          refine hp_bipush (v := 48) dX6_goesOn_84 bi_48 (?_ : hp_G _ _ _ _ _ _ _ _ _ 86 _ _ _)
          refine hp_isub dX6_goesOn_86 (?_ : hp_G _ _ _ _ _ _ _ _ _ 87 _ _ _)
          replace hf := ob_ hf
          obtain ⟨r9, er9, hf⟩ := hf
          refine clX6_24 (as := [.int (p1 - 48)]) (st := []) rfl (kX8_isDigit l er9) rfl (by decide) (Nat.le_of_ble_eq_true rfl) dX6_goesOn_87 rfl (?_ : hp_G _ _ _ _ _ _ _ _ _ 90 _ _ _)
          replace hf := ob_ hf
          obtain ⟨z10, ez10, hf⟩ := hf
          obtain ⟨rfl, bz10⟩ := bz_inv ez10
          obtain rfl := Option.some.inj hf
          exact hp_zret kr (fun z => z) rfl bz10 dX6_goesOn_90
    · replace hf := of_ c2 hf
      refine hp_iconst (v := 0) dX6_goesOn_22 ic_0 (?_ : hp_G _ _ _ _ _ _ _ _ _ 23 _ _ _)
      obtain rfl := Option.some.inj hf
      exact hp_zret kr (fun z => z) rfl (by decide) dX6_goesOn_23
  · replace hf := ot_ c1 hf
    refine hp_iload_n 1 dX6_goesOn_4 rfl rfl (?_ : hp_G _ _ _ _ _ _ _ _ _ 5 _ _ _)
    refine hp_bipush (v := 118) dX6_goesOn_5 bi_118 (?_ : hp_G _ _ _ _ _ _ _ _ _ 7 _ _ _)
    refine hp_icmp_ne (tgt := 14) dX6_goesOn_7 rfl (fun c11 => ?_) (fun c11 => (?_ : hp_G _ _ _ _ _ _ _ _ _ 10 _ _ _))
    · replace hf := of_ c11 hf
      refine hp_iconst (v := 0) dX6_goesOn_14 ic_0 (?_ : hp_G _ _ _ _ _ _ _ _ _ 15 _ _ _)
      obtain rfl := Option.some.inj hf
      exact hp_zret kr (fun z => z) rfl (by decide) dX6_goesOn_15
    · replace hf := ot_ c11 hf
      refine hp_iconst (v := 1) dX6_goesOn_10 ic_1 (?_ : hp_G _ _ _ _ _ _ _ _ _ 11 _ _ _)
      refine hp_goto (tgt := 15) dX6_goesOn_11 rfl (?_ : hp_G _ _ _ _ _ _ _ _ _ 15 _ _ _)
      obtain rfl := Option.some.inj hf
      exact hp_zret kr (fun z => z) rfl (by decide) dX6_goesOn_15
theorem kX6_goesOn (l : Launch) {h : hp_H} {p0 : Int32} {p1 : Int32} {r : Int32} (hf : fX6_goesOn h p0 p1 = some r) : hp_Cn l yX6_goesOn mX6_goesOn 1 false 0 0 [.int p0, .int p1] h (fun v h2 => some (.int r) = v ∧ h = h2) :=
  hp_of (by decide) rfl (fun z => by cases z) (Nat.le_of_ble_eq_true rfl) (tX6_goesOn l hf ⟨rfl, rfl⟩)
noncomputable def bX6_firstFault_2 (h : hp_H) (v0 : Nat) (v1 : Int32) (v2 : Int32) (s : Int32) : Option (Int32 ⊕ (Unit ⊕ Int32)) :=
if v2 ≤ s then
(some (.inr (.inl ())))
else
((hg_o h v0 5).bind fun o2 =>
(fX5_read h v0 (v1 + s)).bind fun r3 =>
(fX6_goesOn h s r3).bind fun r4 =>
if r4 = 0 then
(some (.inr (.inr s)))
else
((some (s + 1)).bind fun x6 =>
some (.inl x6)))
set_option maxRecDepth 20000 in
set_option maxHeartbeats 4000000 in
theorem tbX6_firstFault_2 (l : Launch) {h : hp_H} {v0 : Nat} {v1 : Int32} {v2 : Int32}  {s : Int32} {r : (Int32 ⊕ (Unit ⊕ Int32))} (hf : bX6_firstFault_2 h  v0 v1 v2 s = some r) {Q : Option Value → hp_H → Prop} (kb : ∀ t, r = .inl t → hp_G l mX6_firstFault none 2 false Q false 0 0 2 [(0, .ref v0), (1, .int v1), (2, .int v2), (3, .int t)] [] h) (ke : ∀ x, r = .inr (.inl x) → hp_G l mX6_firstFault none 2 false Q false 0 0 29 [(2, .int v2)] [] h) (kr : ∀ z, r = .inr (.inr z) → Q (some (.int z)) h) : hp_G l mX6_firstFault none 2 false Q false 0 0 2 [(0, .ref v0), (1, .int v1), (2, .int v2), (3, .int s)] [] h := by
  unfold bX6_firstFault_2 at hf
  refine hp_iload_n 3 dX6_firstFault_2 rfl rfl (?_ : hp_G _ _ _ _ _ _ _ _ _ 3 _ _ _)
  refine hp_iload_n 2 dX6_firstFault_3 rfl rfl (?_ : hp_G _ _ _ _ _ _ _ _ _ 4 _ _ _)
  refine hp_icmp_ge (tgt := 29) dX6_firstFault_4 rfl (fun c1 => ?_) (fun c1 => (?_ : hp_G _ _ _ _ _ _ _ _ _ 7 _ _ _))
  · replace hf := ot_ c1 hf
    obtain rfl := Option.some.inj hf
    exact hp_sub [2] rfl (ke _ rfl)
  · replace hf := of_ c1 hf
    refine hp_iload_n 3 dX6_firstFault_7 rfl rfl (?_ : hp_G _ _ _ _ _ _ _ _ _ 8 _ _ _)
    refine hp_aload_n 0 dX6_firstFault_8 rfl rfl (?_ : hp_G _ _ _ _ _ _ _ _ _ 9 _ _ _)
    refine hp_iload_n 1 dX6_firstFault_9 rfl rfl (?_ : hp_G _ _ _ _ _ _ _ _ _ 10 _ _ _)
    refine hp_iload_n 3 dX6_firstFault_10 rfl rfl (?_ : hp_G _ _ _ _ _ _ _ _ _ 11 _ _ _)
    refine hp_iadd dX6_firstFault_11 (?_ : hp_G _ _ _ _ _ _ _ _ _ 12 _ _ _)
    replace hf := ob_ hf
    obtain ⟨o2, eo2, hf⟩ := hf
    replace hf := ob_ hf
    obtain ⟨r3, er3, hf⟩ := hf
    refine clX6_9 (as := [.int (v1 + s)]) (st := [.int s]) rfl (kX5_read l er3) rfl (by decide) (Nat.le_of_ble_eq_true rfl) eo2 dX6_firstFault_12 rfl (?_ : hp_G _ _ _ _ _ _ _ _ _ 15 _ _ _)
    replace hf := ob_ hf
    obtain ⟨r4, er4, hf⟩ := hf
    refine clX6_15 (as := [.int s, .int r3]) (st := []) rfl (kX6_goesOn l er4) rfl (by decide) (Nat.le_of_ble_eq_true rfl) dX6_firstFault_15 rfl (?_ : hp_G _ _ _ _ _ _ _ _ _ 18 _ _ _)
    refine hp_if_ne (tgt := 23) dX6_firstFault_18 rfl (fun c5 => ?_) (fun c5 => (?_ : hp_G _ _ _ _ _ _ _ _ _ 21 _ _ _))
    · replace hf := of_ c5 hf
      replace hf := ob_ hf
      obtain ⟨x6, ex6, hf⟩ := hf
      refine hp_iinc (v := x6) (lv' := [(3, .int x6), (0, .ref v0), (1, .int v1), (2, .int v2)]) 3 dX6_firstFault_23 rfl (hp_inc ic_1 ex6) (Nat.le_of_ble_eq_true rfl) rfl (?_ : hp_G _ _ _ _ _ _ _ _ _ 26 _ _ _)
      refine hp_goto (tgt := 2) dX6_firstFault_26 rfl (?_ : hp_G _ _ _ _ _ _ _ _ _ 2 _ _ _)
      obtain rfl := Option.some.inj hf
      exact hp_sub [1, 2, 3, 0] rfl (kb _ rfl)
    · replace hf := ot_ c5 hf
      refine hp_iload_n 3 dX6_firstFault_21 rfl rfl (?_ : hp_G _ _ _ _ _ _ _ _ _ 22 _ _ _)
      obtain rfl := Option.some.inj hf
      exact hp_iret (kr _ rfl) (fun z => z) rfl dX6_firstFault_22
set_option maxRecDepth 20000 in
set_option maxHeartbeats 4000000 in
theorem tlX6_firstFault_2 (l : Launch) {h : hp_H} {v0 : Nat} {v1 : Int32} {v2 : Int32}  (q : Nat) {s : Int32} {x : (Unit ⊕ Int32)} (hf : it_ (bX6_firstFault_2 h  v0 v1 v2) q s = some x) {Q : Option Value → hp_H → Prop} (ke : ∀ e, x = .inl e → hp_G l mX6_firstFault none 2 false Q false 0 0 29 [(2, .int v2)] [] h) (kr : ∀ z, x = .inr z → Q (some (.int z)) h) : hp_G l mX6_firstFault none 2 false Q false 0 0 2 [(0, .ref v0), (1, .int v1), (2, .int v2), (3, .int s)] [] h := by
  exact it_rule (f := bX6_firstFault_2 h  v0 v1 v2) (fun s => hp_G l mX6_firstFault none 2 false Q false 0 0 2 [(0, .ref v0), (1, .int v1), (2, .int v2), (3, .int s)] [] h) (fun x => (∀ e, x = .inl e → hp_G l mX6_firstFault none 2 false Q false 0 0 29 [(2, .int v2)] [] h) ∧ (∀ z, x = .inr z → Q (some (.int z)) h)) (fun s r h1 h2 h3 => tbX6_firstFault_2 l h1 (fun t e => h2 t e) (fun e he => (h3 _ he).1 _ rfl) (fun z he => (h3 _ he).2 _ rfl)) q s x hf ⟨ke, kr⟩
noncomputable def jX6_firstFault_48 (h : hp_H)  (u2 : Int32) (k0 : Int32) : Option Int32 :=
if k0 = 0 then
(some u2)
else
(some (-9))
set_option maxRecDepth 20000 in
set_option maxHeartbeats 4000000 in
theorem tjX6_firstFault_48 (l : Launch) {h : hp_H}  {u2 : Int32} {k0 : Int32} {r : Int32} (hf : jX6_firstFault_48 h u2 k0 = some r) {Q : Option Value → hp_H → Prop} (kr : Q (some (.int r)) h) : hp_G l mX6_firstFault none 2 false Q false 0 0 48 [(2, .int u2)] [.int k0] h := by
  unfold jX6_firstFault_48 at hf
  refine hp_istore_n (lv' := [(3, .int k0), (2, .int u2)]) dX6_firstFault_48 rfl (Nat.le_of_ble_eq_true rfl) rfl (?_ : hp_G _ _ _ _ _ _ _ _ _ 49 _ _ _)
  refine hp_iload_n 0 dX6_firstFault_49 rfl rfl (?_ : hp_G _ _ _ _ _ _ _ _ _ 50 _ _ _)
  refine hp_if_eq (tgt := 58) dX6_firstFault_50 rfl (fun c11 => ?_) (fun c11 => (?_ : hp_G _ _ _ _ _ _ _ _ _ 53 _ _ _))
  · replace hf := ot_ c11 hf
    refine hp_iload_n 1 dX6_firstFault_58 rfl rfl (?_ : hp_G _ _ _ _ _ _ _ _ _ 59 _ _ _)
    obtain rfl := Option.some.inj hf
    exact hp_iret kr (fun z => z) rfl dX6_firstFault_59
  · replace hf := of_ c11 hf
    refine hp_bipush (v := (-9)) dX6_firstFault_53 bi_m9 (?_ : hp_G _ _ _ _ _ _ _ _ _ 55 _ _ _)
    refine hp_goto (tgt := 59) dX6_firstFault_55 rfl (?_ : hp_G _ _ _ _ _ _ _ _ _ 59 _ _ _)
    obtain rfl := Option.some.inj hf
    exact hp_iret kr (fun z => z) rfl dX6_firstFault_59
noncomputable def jX6_firstFault_47 (h : hp_H)  (u2 : Int32)  : Option Int32 :=
jX6_firstFault_48 h u2 0
set_option maxRecDepth 20000 in
set_option maxHeartbeats 4000000 in
theorem tjX6_firstFault_47 (l : Launch) {h : hp_H}  {u2 : Int32}  {r : Int32} (hf : jX6_firstFault_47 h u2 = some r) {Q : Option Value → hp_H → Prop} (kr : Q (some (.int r)) h) : hp_G l mX6_firstFault none 2 false Q false 0 0 47 [(2, .int u2)] [] h := by
  unfold jX6_firstFault_47 at hf
  refine hp_iconst (v := 0) dX6_firstFault_47 ic_0 (?_ : hp_G _ _ _ _ _ _ _ _ _ 48 _ _ _)
  exact hp_sub [0] rfl (tjX6_firstFault_48 l hf kr)
noncomputable def fX6_firstFault (h : hp_H) (a0 : Nat) (p1 : Int32) (p2 : Int32) : Option Int32 :=
(it_ (bX6_firstFault_2 h a0 p1 p2) fu_ 0).bind fun x7 =>
match x7 with
| .inl y8 => (if p2 < 9 then
(jX6_firstFault_47 h p2)
else
((rm_ (p2 - 1) 4).bind fun x12 =>
if x12 = 0 then
(jX6_firstFault_48 h p2 1)
else
(jX6_firstFault_47 h p2)))
| .inr z9 => some z9
set_option maxRecDepth 20000 in
set_option maxHeartbeats 4000000 in
theorem tX6_firstFault (l : Launch) {h : hp_H} {a0 : Nat} {p1 : Int32} {p2 : Int32} {r : Int32} (hf : fX6_firstFault h a0 p1 p2 = some r) {Q : Option Value → hp_H → Prop} (kr : Q (some (.int r)) h) : hp_G l mX6_firstFault none 2 false Q false 0 0 0 [(0, .ref a0), (1, .int p1), (2, .int p2)] [] h := by
  unfold fX6_firstFault at hf
  refine hp_iconst (v := 0) dX6_firstFault_0 ic_0 (?_ : hp_G _ _ _ _ _ _ _ _ _ 1 _ _ _)
  refine hp_istore_n (lv' := [(3, .int 0), (0, .ref a0), (1, .int p1), (2, .int p2)]) dX6_firstFault_1 rfl (Nat.le_of_ble_eq_true rfl) rfl (?_ : hp_G _ _ _ _ _ _ _ _ _ 2 _ _ _)
  replace hf := ob_ hf
  obtain ⟨x7, ex7, hf⟩ := hf
  refine hp_sub [1, 2, 3, 0] rfl ?_
  rcases x7 with y8 | z9
  · (try dsimp only at hf)
    refine tlX6_firstFault_2 l fu_ ex7 (fun w hw => ?_) (fun w hw => (by cases hw))
    obtain rfl := Sum.inl.inj hw
    refine hp_iload_n 0 dX6_firstFault_29 rfl rfl (?_ : hp_G _ _ _ _ _ _ _ _ _ 30 _ _ _)
    refine hp_bipush (v := 9) dX6_firstFault_30 bi_9 (?_ : hp_G _ _ _ _ _ _ _ _ _ 32 _ _ _)
    refine hp_icmp_lt (tgt := 47) dX6_firstFault_32 rfl (fun c10 => ?_) (fun c10 => (?_ : hp_G _ _ _ _ _ _ _ _ _ 35 _ _ _))
    · replace hf := ot_ c10 hf
      exact hp_sub [0] rfl (tjX6_firstFault_47 l hf kr)
    · replace hf := of_ c10 hf
      refine hp_iload_n 0 dX6_firstFault_35 rfl rfl (?_ : hp_G _ _ _ _ _ _ _ _ _ 36 _ _ _)
      refine hp_iconst (v := 1) dX6_firstFault_36 ic_1 (?_ : hp_G _ _ _ _ _ _ _ _ _ 37 _ _ _)
      refine hp_isub dX6_firstFault_37 (?_ : hp_G _ _ _ _ _ _ _ _ _ 38 _ _ _)
      refine hp_iconst (v := 4) dX6_firstFault_38 ic_4 (?_ : hp_G _ _ _ _ _ _ _ _ _ 39 _ _ _)
      replace hf := ob_ hf
      obtain ⟨x12, ex12, hf⟩ := hf
      refine hp_irem dX6_firstFault_39 ex12 (?_ : hp_G _ _ _ _ _ _ _ _ _ 40 _ _ _)
      refine hp_if_ne (tgt := 47) dX6_firstFault_40 rfl (fun c13 => ?_) (fun c13 => (?_ : hp_G _ _ _ _ _ _ _ _ _ 43 _ _ _))
      · replace hf := of_ c13 hf
        exact hp_sub [0] rfl (tjX6_firstFault_47 l hf kr)
      · replace hf := ot_ c13 hf
        refine hp_iconst (v := 1) dX6_firstFault_43 ic_1 (?_ : hp_G _ _ _ _ _ _ _ _ _ 44 _ _ _)
        refine hp_goto (tgt := 48) dX6_firstFault_44 rfl (?_ : hp_G _ _ _ _ _ _ _ _ _ 48 _ _ _)
        exact hp_sub [0] rfl (tjX6_firstFault_48 l hf kr)
  · (try dsimp only at hf)
    refine tlX6_firstFault_2 l fu_ ex7 (fun w hw => (by cases hw)) (fun w hw => ?_)
    obtain rfl := Sum.inr.inj hw
    obtain rfl := Option.some.inj hf
    exact kr
theorem kX6_firstFault (l : Launch) {h : hp_H} {a0 : Nat} {p1 : Int32} {p2 : Int32} {r : Int32} (hf : fX6_firstFault h a0 p1 p2 = some r) : hp_Cn l yX6_firstFault mX6_firstFault 2 false 0 0 [.ref a0, .int p1, .int p2] h (fun v h2 => some (.int r) = v ∧ h = h2) :=
  hp_of (by decide) rfl (fun z => by cases z) (Nat.le_of_ble_eq_true rfl) (tX6_firstFault l hf ⟨rfl, rfl⟩)
noncomputable def fX2_become (h : hp_H) (a0 : Nat) (p1 : Int32) (p2 : Int32) (p3 : Int32) (p4 : Int32) : Option hp_H :=
(pi_ h a0 2 0 p1).bind fun h1 =>
(pi_ h1 a0 2 1 p2).bind fun h2 =>
(pi_ h2 a0 2 2 p3).bind fun h3 =>
(pz_ h3 a0 2 3 p4).bind fun h4 =>
some h4
set_option maxRecDepth 20000 in
set_option maxHeartbeats 4000000 in
theorem tX2_become (l : Launch) {h : hp_H} {a0 : Nat} {p1 : Int32} {p2 : Int32} {p3 : Int32} {p4 : Int32} {r : hp_H} (hf : fX2_become h a0 p1 p2 p3 p4 = some r) {Q : Option Value → hp_H → Prop} (kr : Q (none) r) : hp_G l mX2_become none 0 false Q false 0 0 0 [(0, .ref a0), (1, .int p1), (2, .int p2), (3, .int p3), (4, .int p4)] [] h := by
  unfold fX2_become at hf
  refine hp_aload_n 0 dX2_become_0 rfl rfl (?_ : hp_G _ _ _ _ _ _ _ _ _ 1 _ _ _)
  refine hp_iload_n 1 dX2_become_1 rfl rfl (?_ : hp_G _ _ _ _ _ _ _ _ _ 2 _ _ _)
  replace hf := ob_ hf
  obtain ⟨h1, eh1, hf⟩ := hf
  refine fpX2_9 rfl dX2_become_2 eh1 (?_ : hp_G _ _ _ _ _ _ _ _ _ 5 _ _ _)
  refine hp_aload_n 0 dX2_become_5 rfl rfl (?_ : hp_G _ _ _ _ _ _ _ _ _ 6 _ _ _)
  refine hp_iload_n 2 dX2_become_6 rfl rfl (?_ : hp_G _ _ _ _ _ _ _ _ _ 7 _ _ _)
  replace hf := ob_ hf
  obtain ⟨h2, eh2, hf⟩ := hf
  refine fpX2_15 rfl dX2_become_7 eh2 (?_ : hp_G _ _ _ _ _ _ _ _ _ 10 _ _ _)
  refine hp_aload_n 0 dX2_become_10 rfl rfl (?_ : hp_G _ _ _ _ _ _ _ _ _ 11 _ _ _)
  refine hp_iload_n 3 dX2_become_11 rfl rfl (?_ : hp_G _ _ _ _ _ _ _ _ _ 12 _ _ _)
  replace hf := ob_ hf
  obtain ⟨h3, eh3, hf⟩ := hf
  refine fpX2_18 rfl dX2_become_12 eh3 (?_ : hp_G _ _ _ _ _ _ _ _ _ 15 _ _ _)
  refine hp_aload_n 0 dX2_become_15 rfl rfl (?_ : hp_G _ _ _ _ _ _ _ _ _ 16 _ _ _)
  refine hp_iload 4 dX2_become_16 rfl (?_ : hp_G _ _ _ _ _ _ _ _ _ 18 _ _ _)
  replace hf := ob_ hf
  obtain ⟨h4, eh4, hf⟩ := hf
  refine fpX2_34 rfl dX2_become_18 eh4 (?_ : hp_G _ _ _ _ _ _ _ _ _ 21 _ _ _)
  obtain rfl := Option.some.inj hf
  exact hp_vret kr (fun z => z) rfl dX2_become_21
theorem kX2_become (l : Launch) {h : hp_H} {a0 : Nat} {p1 : Int32} {p2 : Int32} {p3 : Int32} {p4 : Int32} {r : hp_H} (hf : fX2_become h a0 p1 p2 p3 p4 = some r) : hp_Cn l yX2_become mX2_become 0 false 0 0 [.ref a0, .int p1, .int p2, .int p3, .int p4] h (fun v h2 => none = v ∧ r = h2) :=
  hp_of (by decide) rfl (fun z => by cases z) (Nat.le_of_ble_eq_true rfl) (tX2_become l hf ⟨rfl, rfl⟩)
noncomputable def bX6_settle_17 (v0 : Nat) (v1 : Int32) (v3 : Nat) (s : (Int32 × hp_H)) : Option ((Int32 × hp_H) ⊕ hp_H) :=
(gi_ s.2 v3 6 1).bind fun x3 =>
if x3 ≤ s.1 then
(some (.inr s.2))
else
((some ((v1 + 1) + (4 * s.1))).bind fun x5 =>
(hg_o s.2 v0 5).bind fun o6 =>
(fX5_read s.2 v0 (x5 + 1)).bind fun r7 =>
(fX6_kindOf s.2 r7).bind fun r8 =>
(hg_o s.2 v0 5).bind fun o9 =>
(fX5_read s.2 v0 (x5 + 2)).bind fun r10 =>
(some (r10 - 48)).bind fun x11 =>
(hg_o s.2 v0 5).bind fun o12 =>
(fX5_read s.2 v0 (x5 + 3)).bind fun r13 =>
(some (r13 - 48)).bind fun x14 =>
(gq_ s.2 v3 6 0).bind fun x15 =>
(ql_ s.2 x15 s.1).bind fun x16 =>
(hg_o s.2 x16 2).bind fun o17 =>
(fX2_become s.2 x16 r8 x11 x14 0).bind fun r18 =>
(some (s.1 + 1)).bind fun x19 =>
some (.inl (x19, r18)))
set_option maxRecDepth 20000 in
set_option maxHeartbeats 4000000 in
theorem tbX6_settle_17 (l : Launch) {v0 : Nat} {v1 : Int32} {v3 : Nat}  {s : (Int32 × hp_H)} {r : ((Int32 × hp_H) ⊕ hp_H)} (hf : bX6_settle_17  v0 v1 v3 s = some r) {Q : Option Value → hp_H → Prop} (kb : ∀ t, r = .inl t → hp_G l mX6_settle none 2 false Q false 0 0 17 [(0, .ref v0), (1, .int v1), (3, .ref v3), (4, .int t.1)] [] t.2) (ke : ∀ x, r = .inr x → hp_G l mX6_settle none 2 false Q false 0 0 98 [] [] x) : hp_G l mX6_settle none 2 false Q false 0 0 17 [(0, .ref v0), (1, .int v1), (3, .ref v3), (4, .int s.1)] [] s.2 := by
  unfold bX6_settle_17 at hf
  refine hp_iload 3 dX6_settle_17 rfl (?_ : hp_G _ _ _ _ _ _ _ _ _ 19 _ _ _)
  refine hp_aload_n 2 dX6_settle_19 rfl rfl (?_ : hp_G _ _ _ _ _ _ _ _ _ 20 _ _ _)
  replace hf := ob_ hf
  obtain ⟨x3, ex3, hf⟩ := hf
  refine fgX6_34 rfl dX6_settle_20 ex3 (?_ : hp_G _ _ _ _ _ _ _ _ _ 23 _ _ _)
  refine hp_icmp_ge (tgt := 98) dX6_settle_23 rfl (fun c4 => ?_) (fun c4 => (?_ : hp_G _ _ _ _ _ _ _ _ _ 26 _ _ _))
  · replace hf := ot_ c4 hf
    obtain rfl := Option.some.inj hf
    exact hp_sub [] rfl (ke _ rfl)
  · replace hf := of_ c4 hf
    refine hp_iload_n 1 dX6_settle_26 rfl rfl (?_ : hp_G _ _ _ _ _ _ _ _ _ 27 _ _ _)
    refine hp_iconst (v := 1) dX6_settle_27 ic_1 (?_ : hp_G _ _ _ _ _ _ _ _ _ 28 _ _ _)
    refine hp_iadd dX6_settle_28 (?_ : hp_G _ _ _ _ _ _ _ _ _ 29 _ _ _)
    refine hp_iconst (v := 4) dX6_settle_29 ic_4 (?_ : hp_G _ _ _ _ _ _ _ _ _ 30 _ _ _)
    refine hp_iload 3 dX6_settle_30 rfl (?_ : hp_G _ _ _ _ _ _ _ _ _ 32 _ _ _)
    refine hp_imul dX6_settle_32 (?_ : hp_G _ _ _ _ _ _ _ _ _ 33 _ _ _)
    refine hp_iadd dX6_settle_33 (?_ : hp_G _ _ _ _ _ _ _ _ _ 34 _ _ _)
    replace hf := ob_ hf
    obtain ⟨x5, ex5, hf⟩ := hf
    refine hp_nmi ex5 ?_
    refine hp_istore (lv' := [(5, .int x5), (0, .ref v0), (1, .int v1), (3, .ref v3), (4, .int s.1)]) dX6_settle_34 (Nat.le_of_ble_eq_true rfl) rfl (?_ : hp_G _ _ _ _ _ _ _ _ _ 36 _ _ _)
    refine hp_aload_n 1 dX6_settle_36 rfl rfl (?_ : hp_G _ _ _ _ _ _ _ _ _ 37 _ _ _)
    refine hp_iload 0 dX6_settle_37 rfl (?_ : hp_G _ _ _ _ _ _ _ _ _ 39 _ _ _)
    refine hp_iconst (v := 1) dX6_settle_39 ic_1 (?_ : hp_G _ _ _ _ _ _ _ _ _ 40 _ _ _)
    refine hp_iadd dX6_settle_40 (?_ : hp_G _ _ _ _ _ _ _ _ _ 41 _ _ _)
    replace hf := ob_ hf
    obtain ⟨o6, eo6, hf⟩ := hf
    replace hf := ob_ hf
    obtain ⟨r7, er7, hf⟩ := hf
    refine clX6_9 (as := [.int (x5 + 1)]) (st := []) rfl (kX5_read l er7) rfl (by decide) (Nat.le_of_ble_eq_true rfl) eo6 dX6_settle_41 rfl (?_ : hp_G _ _ _ _ _ _ _ _ _ 44 _ _ _)
    replace hf := ob_ hf
    obtain ⟨r8, er8, hf⟩ := hf
    refine clX6_21 (as := [.int r7]) (st := []) rfl (kX6_kindOf l er8) rfl (by decide) (Nat.le_of_ble_eq_true rfl) dX6_settle_44 rfl (?_ : hp_G _ _ _ _ _ _ _ _ _ 47 _ _ _)
    refine hp_istore (lv' := [(6, .int r8), (5, .int x5), (0, .ref v0), (1, .int v1), (3, .ref v3), (4, .int s.1)]) dX6_settle_47 (Nat.le_of_ble_eq_true rfl) rfl (?_ : hp_G _ _ _ _ _ _ _ _ _ 49 _ _ _)
    refine hp_aload_n 2 dX6_settle_49 rfl rfl (?_ : hp_G _ _ _ _ _ _ _ _ _ 50 _ _ _)
    refine hp_iload 1 dX6_settle_50 rfl (?_ : hp_G _ _ _ _ _ _ _ _ _ 52 _ _ _)
    refine hp_iconst (v := 2) dX6_settle_52 ic_2 (?_ : hp_G _ _ _ _ _ _ _ _ _ 53 _ _ _)
    refine hp_iadd dX6_settle_53 (?_ : hp_G _ _ _ _ _ _ _ _ _ 54 _ _ _)
    replace hf := ob_ hf
    obtain ⟨o9, eo9, hf⟩ := hf
    replace hf := ob_ hf
    obtain ⟨r10, er10, hf⟩ := hf
    refine clX6_9 (as := [.int (x5 + 2)]) (st := []) rfl (kX5_read l er10) rfl (by decide) (Nat.le_of_ble_eq_true rfl) eo9 dX6_settle_54 rfl (?_ : hp_G _ _ _ _ _ _ _ _ _ 57 _ _ _)
    refine hp_bipush (v := 48) dX6_settle_57 bi_48 (?_ : hp_G _ _ _ _ _ _ _ _ _ 59 _ _ _)
    refine hp_isub dX6_settle_59 (?_ : hp_G _ _ _ _ _ _ _ _ _ 60 _ _ _)
    replace hf := ob_ hf
    obtain ⟨x11, ex11, hf⟩ := hf
    refine hp_nmi ex11 ?_
    refine hp_istore (lv' := [(7, .int x11), (6, .int r8), (5, .int x5), (0, .ref v0), (1, .int v1), (3, .ref v3), (4, .int s.1)]) dX6_settle_60 (Nat.le_of_ble_eq_true rfl) rfl (?_ : hp_G _ _ _ _ _ _ _ _ _ 62 _ _ _)
    refine hp_aload_n 3 dX6_settle_62 rfl rfl (?_ : hp_G _ _ _ _ _ _ _ _ _ 63 _ _ _)
    refine hp_iload 2 dX6_settle_63 rfl (?_ : hp_G _ _ _ _ _ _ _ _ _ 65 _ _ _)
    refine hp_iconst (v := 3) dX6_settle_65 ic_3 (?_ : hp_G _ _ _ _ _ _ _ _ _ 66 _ _ _)
    refine hp_iadd dX6_settle_66 (?_ : hp_G _ _ _ _ _ _ _ _ _ 67 _ _ _)
    replace hf := ob_ hf
    obtain ⟨o12, eo12, hf⟩ := hf
    replace hf := ob_ hf
    obtain ⟨r13, er13, hf⟩ := hf
    refine clX6_9 (as := [.int (x5 + 3)]) (st := []) rfl (kX5_read l er13) rfl (by decide) (Nat.le_of_ble_eq_true rfl) eo12 dX6_settle_67 rfl (?_ : hp_G _ _ _ _ _ _ _ _ _ 70 _ _ _)
    refine hp_bipush (v := 48) dX6_settle_70 bi_48 (?_ : hp_G _ _ _ _ _ _ _ _ _ 72 _ _ _)
    refine hp_isub dX6_settle_72 (?_ : hp_G _ _ _ _ _ _ _ _ _ 73 _ _ _)
    replace hf := ob_ hf
    obtain ⟨x14, ex14, hf⟩ := hf
    refine hp_nmi ex14 ?_
    refine hp_istore (lv' := [(8, .int x14), (7, .int x11), (6, .int r8), (5, .int x5), (0, .ref v0), (1, .int v1), (3, .ref v3), (4, .int s.1)]) dX6_settle_73 (Nat.le_of_ble_eq_true rfl) rfl (?_ : hp_G _ _ _ _ _ _ _ _ _ 75 _ _ _)
    refine hp_aload_n 6 dX6_settle_75 rfl rfl (?_ : hp_G _ _ _ _ _ _ _ _ _ 76 _ _ _)
    replace hf := ob_ hf
    obtain ⟨x15, ex15, hf⟩ := hf
    refine fgX6_40 rfl dX6_settle_76 ex15 (?_ : hp_G _ _ _ _ _ _ _ _ _ 79 _ _ _)
    refine hp_iload 7 dX6_settle_79 rfl (?_ : hp_G _ _ _ _ _ _ _ _ _ 81 _ _ _)
    replace hf := ob_ hf
    obtain ⟨x16, ex16, hf⟩ := hf
    refine hp_aaload dX6_settle_81 ex16 (?_ : hp_G _ _ _ _ _ _ _ _ _ 82 _ _ _)
    refine hp_iload 2 dX6_settle_82 rfl (?_ : hp_G _ _ _ _ _ _ _ _ _ 84 _ _ _)
    refine hp_iload 1 dX6_settle_84 rfl (?_ : hp_G _ _ _ _ _ _ _ _ _ 86 _ _ _)
    refine hp_iload 0 dX6_settle_86 rfl (?_ : hp_G _ _ _ _ _ _ _ _ _ 88 _ _ _)
    refine hp_iconst (v := 0) dX6_settle_88 ic_0 (?_ : hp_G _ _ _ _ _ _ _ _ _ 89 _ _ _)
    replace hf := ob_ hf
    obtain ⟨o17, eo17, hf⟩ := hf
    replace hf := ob_ hf
    obtain ⟨r18, er18, hf⟩ := hf
    refine clX6_44 (as := [.int r8, .int x11, .int x14, .int 0]) (st := []) rfl (kX2_become l er18) rfl (by decide) (Nat.le_of_ble_eq_true rfl) eo17 dX6_settle_89 rfl (?_ : hp_G _ _ _ _ _ _ _ _ _ 92 _ _ _)
    replace hf := ob_ hf
    obtain ⟨x19, ex19, hf⟩ := hf
    refine hp_iinc (v := x19) (lv' := [(4, .int x19), (8, .int x14), (7, .int x11), (6, .int r8), (5, .int x5), (0, .ref v0), (1, .int v1), (3, .ref v3)]) 7 dX6_settle_92 rfl (hp_inc ic_1 ex19) (Nat.le_of_ble_eq_true rfl) rfl (?_ : hp_G _ _ _ _ _ _ _ _ _ 95 _ _ _)
    refine hp_goto (tgt := 17) dX6_settle_95 rfl (?_ : hp_G _ _ _ _ _ _ _ _ _ 17 _ _ _)
    obtain rfl := Option.some.inj hf
    exact hp_sub [5, 6, 7, 0] rfl (kb _ rfl)
set_option maxRecDepth 20000 in
set_option maxHeartbeats 4000000 in
theorem tlX6_settle_17 (l : Launch) {v0 : Nat} {v1 : Int32} {v3 : Nat}  (q : Nat) {s : (Int32 × hp_H)} {x : hp_H} (hf : it_ (bX6_settle_17  v0 v1 v3) q s = some x) {Q : Option Value → hp_H → Prop} (ke : ∀ e, x = e → hp_G l mX6_settle none 2 false Q false 0 0 98 [] [] e) : hp_G l mX6_settle none 2 false Q false 0 0 17 [(0, .ref v0), (1, .int v1), (3, .ref v3), (4, .int s.1)] [] s.2 := by
  exact it_rule (f := bX6_settle_17  v0 v1 v3) (fun s => hp_G l mX6_settle none 2 false Q false 0 0 17 [(0, .ref v0), (1, .int v1), (3, .ref v3), (4, .int s.1)] [] s.2) (fun x => (∀ e, x = e → hp_G l mX6_settle none 2 false Q false 0 0 98 [] [] e)) (fun s r h1 h2 h3 => tbX6_settle_17 l h1 (fun t e => h2 t e) (fun e he => h3 _ he _ rfl)) q s x hf ke
noncomputable def fX6_settle (h : hp_H) (a0 : Nat) (p1 : Int32) (p2 : Int32) (a3 : Nat) : Option hp_H :=
(dv_ (p2 - 1) 4).bind fun x1 =>
(pi_ h a3 6 1 (mn_ x1 6)).bind fun h2 =>
(it_ (bX6_settle_17  a0 p1 a3) fu_ (0, h2)).bind fun x20 =>
some x20
set_option maxRecDepth 20000 in
set_option maxHeartbeats 4000000 in
theorem tX6_settle (l : Launch) {h : hp_H} {a0 : Nat} {p1 : Int32} {p2 : Int32} {a3 : Nat} {r : hp_H} (hf : fX6_settle h a0 p1 p2 a3 = some r) {Q : Option Value → hp_H → Prop} (kr : Q (none) r) : hp_G l mX6_settle none 2 false Q false 0 0 0 [(0, .ref a0), (1, .int p1), (2, .int p2), (3, .ref a3)] [] h := by
  unfold fX6_settle at hf
  refine hp_aload_n 3 dX6_settle_0 rfl rfl (?_ : hp_G _ _ _ _ _ _ _ _ _ 1 _ _ _)
  refine hp_iload_n 2 dX6_settle_1 rfl rfl (?_ : hp_G _ _ _ _ _ _ _ _ _ 2 _ _ _)
  refine hp_iconst (v := 1) dX6_settle_2 ic_1 (?_ : hp_G _ _ _ _ _ _ _ _ _ 3 _ _ _)
  refine hp_isub dX6_settle_3 (?_ : hp_G _ _ _ _ _ _ _ _ _ 4 _ _ _)
  refine hp_iconst (v := 4) dX6_settle_4 ic_4 (?_ : hp_G _ _ _ _ _ _ _ _ _ 5 _ _ _)
  replace hf := ob_ hf
  obtain ⟨x1, ex1, hf⟩ := hf
  refine hp_idiv dX6_settle_5 ex1 (?_ : hp_G _ _ _ _ _ _ _ _ _ 6 _ _ _)
  refine hp_bipush (v := 6) dX6_settle_6 bi_6 (?_ : hp_G _ _ _ _ _ _ _ _ _ 8 _ _ _)
  refine mmX6_28 rfl (by decide) (Nat.le_of_ble_eq_true rfl) dX6_settle_8 (?_ : hp_G _ _ _ _ _ _ _ _ _ 11 _ _ _)
  replace hf := ob_ hf
  obtain ⟨h2, eh2, hf⟩ := hf
  refine fpX6_34 rfl dX6_settle_11 eh2 (?_ : hp_G _ _ _ _ _ _ _ _ _ 14 _ _ _)
  refine hp_iconst (v := 0) dX6_settle_14 ic_0 (?_ : hp_G _ _ _ _ _ _ _ _ _ 15 _ _ _)
  refine hp_istore (lv' := [(4, .int 0), (0, .ref a0), (1, .int p1), (2, .int p2), (3, .ref a3)]) dX6_settle_15 (Nat.le_of_ble_eq_true rfl) rfl (?_ : hp_G _ _ _ _ _ _ _ _ _ 17 _ _ _)
  replace hf := ob_ hf
  obtain ⟨x20, ex20, hf⟩ := hf
  refine hp_sub [1, 2, 4, 0] rfl ?_
  refine tlX6_settle_17 l fu_ ex20 (fun y hy => ?_)
  obtain rfl := hy
  obtain rfl := Option.some.inj hf
  exact hp_vret kr (fun z => z) rfl dX6_settle_98
theorem kX6_settle (l : Launch) {h : hp_H} {a0 : Nat} {p1 : Int32} {p2 : Int32} {a3 : Nat} {r : hp_H} (hf : fX6_settle h a0 p1 p2 a3 = some r) : hp_Cn l yX6_settle mX6_settle 2 false 0 0 [.ref a0, .int p1, .int p2, .ref a3] h (fun v h2 => none = v ∧ r = h2) :=
  hp_of (by decide) rfl (fun z => by cases z) (Nat.le_of_ble_eq_true rfl) (tX6_settle l hf ⟨rfl, rfl⟩)
noncomputable def fX0_forget (h : hp_H) (a0 : Nat) (p1 : Int32) : Option hp_H :=
(gi_ h a0 0 4).bind fun x1 =>
(pi_ h a0 0 4 (mx_ 0 (x1 - p1))).bind fun h2 =>
some h2
set_option maxRecDepth 20000 in
set_option maxHeartbeats 4000000 in
theorem tX0_forget (l : Launch) {h : hp_H} {a0 : Nat} {p1 : Int32} {r : hp_H} (hf : fX0_forget h a0 p1 = some r) {Q : Option Value → hp_H → Prop} (kr : Q (none) r) : hp_G l mX0_forget none 1 false Q false 0 0 0 [(0, .ref a0), (1, .int p1)] [] h := by
  unfold fX0_forget at hf
  refine hp_aload_n 0 dX0_forget_0 rfl rfl (?_ : hp_G _ _ _ _ _ _ _ _ _ 1 _ _ _)
  refine hp_iconst (v := 0) dX0_forget_1 ic_0 (?_ : hp_G _ _ _ _ _ _ _ _ _ 2 _ _ _)
  refine hp_aload_n 0 dX0_forget_2 rfl rfl (?_ : hp_G _ _ _ _ _ _ _ _ _ 3 _ _ _)
  replace hf := ob_ hf
  obtain ⟨x1, ex1, hf⟩ := hf
  refine fgX0_24 rfl dX0_forget_3 ex1 (?_ : hp_G _ _ _ _ _ _ _ _ _ 6 _ _ _)
  refine hp_iload_n 1 dX0_forget_6 rfl rfl (?_ : hp_G _ _ _ _ _ _ _ _ _ 7 _ _ _)
  refine hp_isub dX0_forget_7 (?_ : hp_G _ _ _ _ _ _ _ _ _ 8 _ _ _)
  refine mmX0_28 rfl (by decide) (Nat.le_of_ble_eq_true rfl) dX0_forget_8 (?_ : hp_G _ _ _ _ _ _ _ _ _ 11 _ _ _)
  replace hf := ob_ hf
  obtain ⟨h2, eh2, hf⟩ := hf
  refine fpX0_24 rfl dX0_forget_11 eh2 (?_ : hp_G _ _ _ _ _ _ _ _ _ 14 _ _ _)
  obtain rfl := Option.some.inj hf
  exact hp_vret kr (fun z => z) rfl dX0_forget_14
theorem kX0_forget (l : Launch) {h : hp_H} {a0 : Nat} {p1 : Int32} {r : hp_H} (hf : fX0_forget h a0 p1 = some r) : hp_Cn l yX0_forget mX0_forget 1 false 0 0 [.ref a0, .int p1] h (fun v h2 => none = v ∧ r = h2) :=
  hp_of (by decide) rfl (fun z => by cases z) (Nat.le_of_ble_eq_true rfl) (tX0_forget l hf ⟨rfl, rfl⟩)
noncomputable def fX8_harbour (h : hp_H) (a0 : Nat) (p1 : Int32) (p2 : Int32) (p3 : Int32) (p4 : Int32) : Option (Int32 × hp_H) :=
(pi_ h a0 7 8 0).bind fun h1 =>
(fX8_isSheet h1 p1).bind fun r2 =>
if r2 = 0 then
(some ((-1), h1))
else
((fX8_isLane h1 p2).bind fun r4 =>
if r4 = 0 then
(some ((-2), h1))
else
((gq_ h1 a0 7 1).bind fun x6 =>
(ql_ h1 x6 p1).bind fun x7 =>
(hg_o h1 x7 5).bind fun o8 =>
(fX5_faultOfRow h1 x7 p2 p3 p4).bind fun r9 =>
if r9 = 0 then
((fX6_firstFault h1 x7 p3 p4).bind fun r11 =>
if r11 = (-9) then
((gq_ h1 a0 7 0).bind fun x13 =>
(fX6_settle h1 x7 p3 p4 x13).bind fun r14 =>
(pi_ r14 a0 7 6 0).bind fun h15 =>
(gq_ h15 a0 7 2).bind fun x16 =>
(gq_ h15 a0 7 2).bind fun x17 =>
(gi_ h15 x17 0 4).bind fun x18 =>
(hg_o h15 x16 0).bind fun o19 =>
(fX0_forget h15 x16 x18).bind fun r20 =>
(gq_ r20 a0 7 0).bind fun x21 =>
(gi_ r20 x21 6 1).bind fun x22 =>
some (x22, r20))
else
(some ((-100) - r11, h1)))
else
((hg_o h1 a0 7).bind fun o23 =>
(fX8_faulted h1 a0 r9).bind fun r24 =>
some (r24.1, r24.2))))
set_option maxRecDepth 20000 in
set_option maxHeartbeats 4000000 in
theorem tX8_harbour (l : Launch) {h : hp_H} {a0 : Nat} {p1 : Int32} {p2 : Int32} {p3 : Int32} {p4 : Int32} {r : (Int32 × hp_H)} (hf : fX8_harbour h a0 p1 p2 p3 p4 = some r) {Q : Option Value → hp_H → Prop} (kr : Q (some (.int r.1)) r.2) : hp_G l mX8_harbour none 3 false Q false 0 0 0 [(0, .ref a0), (1, .int p1), (2, .int p2), (3, .int p3), (4, .int p4)] [] h := by
  unfold fX8_harbour at hf
  refine hp_aload_n 0 dX8_harbour_0 rfl rfl (?_ : hp_G _ _ _ _ _ _ _ _ _ 1 _ _ _)
  refine hp_iconst (v := 0) dX8_harbour_1 ic_0 (?_ : hp_G _ _ _ _ _ _ _ _ _ 2 _ _ _)
  replace hf := ob_ hf
  obtain ⟨h1, eh1, hf⟩ := hf
  refine fpX8_53 rfl dX8_harbour_2 eh1 (?_ : hp_G _ _ _ _ _ _ _ _ _ 5 _ _ _)
  refine hp_iload_n 1 dX8_harbour_5 rfl rfl (?_ : hp_G _ _ _ _ _ _ _ _ _ 6 _ _ _)
  replace hf := ob_ hf
  obtain ⟨r2, er2, hf⟩ := hf
  refine clX8_57 (as := [.int p1]) (st := []) rfl (kX8_isSheet l er2) rfl (by decide) (Nat.le_of_ble_eq_true rfl) dX8_harbour_6 rfl (?_ : hp_G _ _ _ _ _ _ _ _ _ 9 _ _ _)
  refine hp_if_ne (tgt := 14) dX8_harbour_9 rfl (fun c3 => ?_) (fun c3 => (?_ : hp_G _ _ _ _ _ _ _ _ _ 12 _ _ _))
  · replace hf := of_ c3 hf
    refine hp_iload_n 2 dX8_harbour_14 rfl rfl (?_ : hp_G _ _ _ _ _ _ _ _ _ 15 _ _ _)
    replace hf := ob_ hf
    obtain ⟨r4, er4, hf⟩ := hf
    refine clX8_61 (as := [.int p2]) (st := []) rfl (kX8_isLane l er4) rfl (by decide) (Nat.le_of_ble_eq_true rfl) dX8_harbour_15 rfl (?_ : hp_G _ _ _ _ _ _ _ _ _ 18 _ _ _)
    refine hp_if_ne (tgt := 24) dX8_harbour_18 rfl (fun c5 => ?_) (fun c5 => (?_ : hp_G _ _ _ _ _ _ _ _ _ 21 _ _ _))
    · replace hf := of_ c5 hf
      refine hp_aload_n 0 dX8_harbour_24 rfl rfl (?_ : hp_G _ _ _ _ _ _ _ _ _ 25 _ _ _)
      replace hf := ob_ hf
      obtain ⟨x6, ex6, hf⟩ := hf
      refine fgX8_20 rfl dX8_harbour_25 ex6 (?_ : hp_G _ _ _ _ _ _ _ _ _ 28 _ _ _)
      refine hp_iload_n 1 dX8_harbour_28 rfl rfl (?_ : hp_G _ _ _ _ _ _ _ _ _ 29 _ _ _)
      replace hf := ob_ hf
      obtain ⟨x7, ex7, hf⟩ := hf
      refine hp_aaload dX8_harbour_29 ex7 (?_ : hp_G _ _ _ _ _ _ _ _ _ 30 _ _ _)
      refine hp_astore (lv' := [(5, .ref x7), (0, .ref a0), (1, .int p1), (2, .int p2), (3, .int p3), (4, .int p4)]) dX8_harbour_30 (Nat.le_of_ble_eq_true rfl) rfl (?_ : hp_G _ _ _ _ _ _ _ _ _ 32 _ _ _)
      refine hp_aload 0 dX8_harbour_32 rfl (?_ : hp_G _ _ _ _ _ _ _ _ _ 34 _ _ _)
      refine hp_iload_n 3 dX8_harbour_34 rfl rfl (?_ : hp_G _ _ _ _ _ _ _ _ _ 35 _ _ _)
      refine hp_iload_n 4 dX8_harbour_35 rfl rfl (?_ : hp_G _ _ _ _ _ _ _ _ _ 36 _ _ _)
      refine hp_iload 5 dX8_harbour_36 rfl (?_ : hp_G _ _ _ _ _ _ _ _ _ 38 _ _ _)
      replace hf := ob_ hf
      obtain ⟨o8, eo8, hf⟩ := hf
      replace hf := ob_ hf
      obtain ⟨r9, er9, hf⟩ := hf
      refine clX8_64 (as := [.int p2, .int p3, .int p4]) (st := []) rfl (kX5_faultOfRow l er9) rfl (by decide) (Nat.le_of_ble_eq_true rfl) eo8 dX8_harbour_38 rfl (?_ : hp_G _ _ _ _ _ _ _ _ _ 41 _ _ _)
      refine hp_istore (lv' := [(6, .int r9), (5, .ref x7), (0, .ref a0), (1, .int p1), (2, .int p2), (3, .int p3), (4, .int p4)]) dX8_harbour_41 (Nat.le_of_ble_eq_true rfl) rfl (?_ : hp_G _ _ _ _ _ _ _ _ _ 43 _ _ _)
      refine hp_iload 0 dX8_harbour_43 rfl (?_ : hp_G _ _ _ _ _ _ _ _ _ 45 _ _ _)
      refine hp_if_eq (tgt := 55) dX8_harbour_45 rfl (fun c10 => ?_) (fun c10 => (?_ : hp_G _ _ _ _ _ _ _ _ _ 48 _ _ _))
      · replace hf := ot_ c10 hf
        refine hp_aload 1 dX8_harbour_55 rfl (?_ : hp_G _ _ _ _ _ _ _ _ _ 57 _ _ _)
        refine hp_iload_n 5 dX8_harbour_57 rfl rfl (?_ : hp_G _ _ _ _ _ _ _ _ _ 58 _ _ _)
        refine hp_iload 6 dX8_harbour_58 rfl (?_ : hp_G _ _ _ _ _ _ _ _ _ 60 _ _ _)
        replace hf := ob_ hf
        obtain ⟨r11, er11, hf⟩ := hf
        refine clX8_72 (as := [.ref x7, .int p3, .int p4]) (st := []) rfl (kX6_firstFault l er11) rfl (by decide) (Nat.le_of_ble_eq_true rfl) dX8_harbour_60 rfl (?_ : hp_G _ _ _ _ _ _ _ _ _ 63 _ _ _)
        refine hp_istore (lv' := [(7, .int r11), (6, .int r9), (5, .ref x7), (0, .ref a0), (1, .int p1), (2, .int p2), (3, .int p3), (4, .int p4)]) dX8_harbour_63 (Nat.le_of_ble_eq_true rfl) rfl (?_ : hp_G _ _ _ _ _ _ _ _ _ 65 _ _ _)
        refine hp_iload 0 dX8_harbour_65 rfl (?_ : hp_G _ _ _ _ _ _ _ _ _ 67 _ _ _)
        refine hp_bipush (v := (-9)) dX8_harbour_67 bi_m9 (?_ : hp_G _ _ _ _ _ _ _ _ _ 69 _ _ _)
        refine hp_icmp_eq (tgt := 78) dX8_harbour_69 rfl (fun c12 => ?_) (fun c12 => (?_ : hp_G _ _ _ _ _ _ _ _ _ 72 _ _ _))
        · replace hf := ot_ c12 hf
          refine hp_aload 2 dX8_harbour_78 rfl (?_ : hp_G _ _ _ _ _ _ _ _ _ 80 _ _ _)
          refine hp_iload_n 6 dX8_harbour_80 rfl rfl (?_ : hp_G _ _ _ _ _ _ _ _ _ 81 _ _ _)
          refine hp_iload 7 dX8_harbour_81 rfl (?_ : hp_G _ _ _ _ _ _ _ _ _ 83 _ _ _)
          refine hp_aload_n 3 dX8_harbour_83 rfl rfl (?_ : hp_G _ _ _ _ _ _ _ _ _ 84 _ _ _)
          replace hf := ob_ hf
          obtain ⟨x13, ex13, hf⟩ := hf
          refine fgX8_12 rfl dX8_harbour_84 ex13 (?_ : hp_G _ _ _ _ _ _ _ _ _ 87 _ _ _)
          replace hf := ob_ hf
          obtain ⟨r14, er14, hf⟩ := hf
          refine clX8_78 (as := [.ref x7, .int p3, .int p4, .ref x13]) (st := []) rfl (kX6_settle l er14) rfl (by decide) (Nat.le_of_ble_eq_true rfl) dX8_harbour_87 rfl (?_ : hp_G _ _ _ _ _ _ _ _ _ 90 _ _ _)
          refine hp_aload_n 3 dX8_harbour_90 rfl rfl (?_ : hp_G _ _ _ _ _ _ _ _ _ 91 _ _ _)
          refine hp_iconst (v := 0) dX8_harbour_91 ic_0 (?_ : hp_G _ _ _ _ _ _ _ _ _ 92 _ _ _)
          replace hf := ob_ hf
          obtain ⟨h15, eh15, hf⟩ := hf
          refine fpX8_82 rfl dX8_harbour_92 eh15 (?_ : hp_G _ _ _ _ _ _ _ _ _ 95 _ _ _)
          refine hp_aload_n 3 dX8_harbour_95 rfl rfl (?_ : hp_G _ _ _ _ _ _ _ _ _ 96 _ _ _)
          replace hf := ob_ hf
          obtain ⟨x16, ex16, hf⟩ := hf
          refine fgX8_27 rfl dX8_harbour_96 ex16 (?_ : hp_G _ _ _ _ _ _ _ _ _ 99 _ _ _)
          refine hp_aload_n 3 dX8_harbour_99 rfl rfl (?_ : hp_G _ _ _ _ _ _ _ _ _ 100 _ _ _)
          replace hf := ob_ hf
          obtain ⟨x17, ex17, hf⟩ := hf
          refine fgX8_27 rfl dX8_harbour_100 ex17 (?_ : hp_G _ _ _ _ _ _ _ _ _ 103 _ _ _)
          replace hf := ob_ hf
          obtain ⟨x18, ex18, hf⟩ := hf
          refine fgX8_85 rfl dX8_harbour_103 ex18 (?_ : hp_G _ _ _ _ _ _ _ _ _ 106 _ _ _)
          replace hf := ob_ hf
          obtain ⟨o19, eo19, hf⟩ := hf
          replace hf := ob_ hf
          obtain ⟨r20, er20, hf⟩ := hf
          refine clX8_88 (as := [.int x18]) (st := []) rfl (kX0_forget l er20) rfl (by decide) (Nat.le_of_ble_eq_true rfl) eo19 dX8_harbour_106 rfl (?_ : hp_G _ _ _ _ _ _ _ _ _ 109 _ _ _)
          refine hp_aload_n 3 dX8_harbour_109 rfl rfl (?_ : hp_G _ _ _ _ _ _ _ _ _ 110 _ _ _)
          replace hf := ob_ hf
          obtain ⟨x21, ex21, hf⟩ := hf
          refine fgX8_12 rfl dX8_harbour_110 ex21 (?_ : hp_G _ _ _ _ _ _ _ _ _ 113 _ _ _)
          replace hf := ob_ hf
          obtain ⟨x22, ex22, hf⟩ := hf
          refine fgX8_92 rfl dX8_harbour_113 ex22 (?_ : hp_G _ _ _ _ _ _ _ _ _ 116 _ _ _)
          obtain rfl := Option.some.inj hf
          exact hp_iret kr (fun z => z) rfl dX8_harbour_116
        · replace hf := of_ c12 hf
          refine hp_bipush (v := (-100)) dX8_harbour_72 bi_m100 (?_ : hp_G _ _ _ _ _ _ _ _ _ 74 _ _ _)
          refine hp_iload 0 dX8_harbour_74 rfl (?_ : hp_G _ _ _ _ _ _ _ _ _ 76 _ _ _)
          refine hp_isub dX8_harbour_76 (?_ : hp_G _ _ _ _ _ _ _ _ _ 77 _ _ _)
          obtain rfl := Option.some.inj hf
          exact hp_iret kr (fun z => z) rfl dX8_harbour_77
      · replace hf := of_ c10 hf
        refine hp_aload_n 2 dX8_harbour_48 rfl rfl (?_ : hp_G _ _ _ _ _ _ _ _ _ 49 _ _ _)
        refine hp_iload 0 dX8_harbour_49 rfl (?_ : hp_G _ _ _ _ _ _ _ _ _ 51 _ _ _)
        replace hf := ob_ hf
        obtain ⟨o23, eo23, hf⟩ := hf
        replace hf := ob_ hf
        obtain ⟨r24, er24, hf⟩ := hf
        refine clX8_68 (as := [.int r9]) (st := []) rfl (kX8_faulted l er24) rfl (by decide) (Nat.le_of_ble_eq_true rfl) eo23 dX8_harbour_51 rfl (?_ : hp_G _ _ _ _ _ _ _ _ _ 54 _ _ _)
        obtain rfl := Option.some.inj hf
        exact hp_iret kr (fun z => z) rfl dX8_harbour_54
    · replace hf := ot_ c5 hf
      refine hp_bipush (v := (-2)) dX8_harbour_21 bi_m2 (?_ : hp_G _ _ _ _ _ _ _ _ _ 23 _ _ _)
      obtain rfl := Option.some.inj hf
      exact hp_iret kr (fun z => z) rfl dX8_harbour_23
  · replace hf := ot_ c3 hf
    refine hp_iconst (v := (-1)) dX8_harbour_12 ic_m1 (?_ : hp_G _ _ _ _ _ _ _ _ _ 13 _ _ _)
    obtain rfl := Option.some.inj hf
    exact hp_iret kr (fun z => z) rfl dX8_harbour_13
theorem kX8_harbour (l : Launch) {h : hp_H} {a0 : Nat} {p1 : Int32} {p2 : Int32} {p3 : Int32} {p4 : Int32} {r : (Int32 × hp_H)} (hf : fX8_harbour h a0 p1 p2 p3 p4 = some r) : hp_Cn l yX8_harbour mX8_harbour 3 false 0 0 [.ref a0, .int p1, .int p2, .int p3, .int p4] h (fun v h2 => some (.int r.1) = v ∧ r.2 = h2) :=
  hp_of (by decide) rfl (fun z => by cases z) (Nat.le_of_ble_eq_true rfl) (tX8_harbour l hf ⟨rfl, rfl⟩)
noncomputable def fX9_within (h : hp_H) (p0 : Int32) (p1 : Int32) (p2 : Int32) : Option Int32 :=
if p0 < p1 then
(some 0)
else
(if p2 < p0 then
(some 0)
else
(some 1))
set_option maxRecDepth 20000 in
set_option maxHeartbeats 4000000 in
theorem tX9_within (l : Launch) {h : hp_H} {p0 : Int32} {p1 : Int32} {p2 : Int32} {r : Int32} (hf : fX9_within h p0 p1 p2 = some r) {Q : Option Value → hp_H → Prop} (kr : Q (some (.int r)) h) : hp_G l mX9_within none 0 false Q false 0 0 0 [(0, .int p0), (1, .int p1), (2, .int p2)] [] h := by
  unfold fX9_within at hf
  refine hp_iload_n 0 dX9_within_0 rfl rfl (?_ : hp_G _ _ _ _ _ _ _ _ _ 1 _ _ _)
  refine hp_iload_n 1 dX9_within_1 rfl rfl (?_ : hp_G _ _ _ _ _ _ _ _ _ 2 _ _ _)
  refine hp_icmp_lt (tgt := 14) dX9_within_2 rfl (fun c1 => ?_) (fun c1 => (?_ : hp_G _ _ _ _ _ _ _ _ _ 5 _ _ _))
  · replace hf := ot_ c1 hf
    refine hp_iconst (v := 0) dX9_within_14 ic_0 (?_ : hp_G _ _ _ _ _ _ _ _ _ 15 _ _ _)
    obtain rfl := Option.some.inj hf
    exact hp_zret kr (fun z => z) rfl (by decide) dX9_within_15
  · replace hf := of_ c1 hf
    refine hp_iload_n 0 dX9_within_5 rfl rfl (?_ : hp_G _ _ _ _ _ _ _ _ _ 6 _ _ _)
    refine hp_iload_n 2 dX9_within_6 rfl rfl (?_ : hp_G _ _ _ _ _ _ _ _ _ 7 _ _ _)
    refine hp_icmp_gt (tgt := 14) dX9_within_7 rfl (fun c2 => ?_) (fun c2 => (?_ : hp_G _ _ _ _ _ _ _ _ _ 10 _ _ _))
    · replace hf := ot_ c2 hf
      refine hp_iconst (v := 0) dX9_within_14 ic_0 (?_ : hp_G _ _ _ _ _ _ _ _ _ 15 _ _ _)
      obtain rfl := Option.some.inj hf
      exact hp_zret kr (fun z => z) rfl (by decide) dX9_within_15
    · replace hf := of_ c2 hf
      refine hp_iconst (v := 1) dX9_within_10 ic_1 (?_ : hp_G _ _ _ _ _ _ _ _ _ 11 _ _ _)
      refine hp_goto (tgt := 15) dX9_within_11 rfl (?_ : hp_G _ _ _ _ _ _ _ _ _ 15 _ _ _)
      obtain rfl := Option.some.inj hf
      exact hp_zret kr (fun z => z) rfl (by decide) dX9_within_15
theorem kX9_within (l : Launch) {h : hp_H} {p0 : Int32} {p1 : Int32} {p2 : Int32} {r : Int32} (hf : fX9_within h p0 p1 p2 = some r) : hp_Cn l yX9_within mX9_within 0 false 0 0 [.int p0, .int p1, .int p2] h (fun v h2 => some (.int r) = v ∧ h = h2) :=
  hp_of (by decide) rfl (fun z => by cases z) (Nat.le_of_ble_eq_true rfl) (tX9_within l hf ⟨rfl, rfl⟩)
noncomputable def fX9_isSheet (h : hp_H) (p0 : Int32) : Option Int32 :=
(fX9_within h p0 0 3).bind fun r1 =>
(bz_ r1).bind fun z2 =>
some z2
set_option maxRecDepth 20000 in
set_option maxHeartbeats 4000000 in
theorem tX9_isSheet (l : Launch) {h : hp_H} {p0 : Int32} {r : Int32} (hf : fX9_isSheet h p0 = some r) {Q : Option Value → hp_H → Prop} (kr : Q (some (.int r)) h) : hp_G l mX9_isSheet none 1 false Q false 0 0 0 [(0, .int p0)] [] h := by
  unfold fX9_isSheet at hf
  refine hp_iload_n 0 dX9_isSheet_0 rfl rfl (?_ : hp_G _ _ _ _ _ _ _ _ _ 1 _ _ _)
  refine hp_iconst (v := 0) dX9_isSheet_1 ic_0 (?_ : hp_G _ _ _ _ _ _ _ _ _ 2 _ _ _)
  refine hp_iconst (v := 3) dX9_isSheet_2 ic_3 (?_ : hp_G _ _ _ _ _ _ _ _ _ 3 _ _ _)
  replace hf := ob_ hf
  obtain ⟨r1, er1, hf⟩ := hf
  refine clX9_67 (as := [.int p0, .int 0, .int 3]) (st := []) rfl (kX9_within l er1) rfl (by decide) (Nat.le_of_ble_eq_true rfl) dX9_isSheet_3 rfl (?_ : hp_G _ _ _ _ _ _ _ _ _ 6 _ _ _)
  replace hf := ob_ hf
  obtain ⟨z2, ez2, hf⟩ := hf
  obtain ⟨rfl, bz2⟩ := bz_inv ez2
  obtain rfl := Option.some.inj hf
  exact hp_zret kr (fun z => z) rfl bz2 dX9_isSheet_6
theorem kX9_isSheet (l : Launch) {h : hp_H} {p0 : Int32} {r : Int32} (hf : fX9_isSheet h p0 = some r) : hp_Cn l yX9_isSheet mX9_isSheet 1 false 0 0 [.int p0] h (fun v h2 => some (.int r) = v ∧ h = h2) :=
  hp_of (by decide) rfl (fun z => by cases z) (Nat.le_of_ble_eq_true rfl) (tX9_isSheet l hf ⟨rfl, rfl⟩)
noncomputable def fX9_isSort (h : hp_H) (p0 : Int32) : Option Int32 :=
(fX9_within h p0 0 2).bind fun r1 =>
(bz_ r1).bind fun z2 =>
some z2
set_option maxRecDepth 20000 in
set_option maxHeartbeats 4000000 in
theorem tX9_isSort (l : Launch) {h : hp_H} {p0 : Int32} {r : Int32} (hf : fX9_isSort h p0 = some r) {Q : Option Value → hp_H → Prop} (kr : Q (some (.int r)) h) : hp_G l mX9_isSort none 1 false Q false 0 0 0 [(0, .int p0)] [] h := by
  unfold fX9_isSort at hf
  refine hp_iload_n 0 dX9_isSort_0 rfl rfl (?_ : hp_G _ _ _ _ _ _ _ _ _ 1 _ _ _)
  refine hp_iconst (v := 0) dX9_isSort_1 ic_0 (?_ : hp_G _ _ _ _ _ _ _ _ _ 2 _ _ _)
  refine hp_iconst (v := 2) dX9_isSort_2 ic_2 (?_ : hp_G _ _ _ _ _ _ _ _ _ 3 _ _ _)
  replace hf := ob_ hf
  obtain ⟨r1, er1, hf⟩ := hf
  refine clX9_67 (as := [.int p0, .int 0, .int 2]) (st := []) rfl (kX9_within l er1) rfl (by decide) (Nat.le_of_ble_eq_true rfl) dX9_isSort_3 rfl (?_ : hp_G _ _ _ _ _ _ _ _ _ 6 _ _ _)
  replace hf := ob_ hf
  obtain ⟨z2, ez2, hf⟩ := hf
  obtain ⟨rfl, bz2⟩ := bz_inv ez2
  obtain rfl := Option.some.inj hf
  exact hp_zret kr (fun z => z) rfl bz2 dX9_isSort_6
theorem kX9_isSort (l : Launch) {h : hp_H} {p0 : Int32} {r : Int32} (hf : fX9_isSort h p0 = some r) : hp_Cn l yX9_isSort mX9_isSort 1 false 0 0 [.int p0] h (fun v h2 => some (.int r) = v ∧ h = h2) :=
  hp_of (by decide) rfl (fun z => by cases z) (Nat.le_of_ble_eq_true rfl) (tX9_isSort l hf ⟨rfl, rfl⟩)
noncomputable def jX9_against_23 (h : hp_H)  (u0 : Nat) (u1 : Int32) (u3 : Int32) (u4 : Int32)  : Option Int32 :=
(gq_ h u0 8 2).bind fun x4 =>
(al_ h x4 u1).bind fun x5 =>
if x5 = (-9) then
(some 1)
else
(if (0 : Int32) ≤ u4 then
(if u3 < 0 then
(some 3)
else
((gq_ h u0 8 3).bind fun x9 =>
(al_ h x9 u1).bind fun x10 =>
if x10 < u3 then
(some 3)
else
((gq_ h u0 8 3).bind fun x12 =>
(al_ h x12 u1).bind fun x13 =>
if u4 ≤ x13 - u3 then
(some 0)
else
(some 3))))
else
(some 4))
set_option maxRecDepth 20000 in
set_option maxHeartbeats 4000000 in
theorem tjX9_against_23 (l : Launch) {h : hp_H}  {u0 : Nat} {u1 : Int32} {u3 : Int32} {u4 : Int32}  {r : Int32} (hf : jX9_against_23 h u0 u1 u3 u4 = some r) {Q : Option Value → hp_H → Prop} (kr : Q (some (.int r)) h) : hp_G l mX9_against none 0 false Q false 0 0 23 [(0, .ref u0), (1, .int u1), (3, .int u3), (4, .int u4)] [] h := by
  unfold jX9_against_23 at hf
  refine hp_aload_n 0 dX9_against_23 rfl rfl (?_ : hp_G _ _ _ _ _ _ _ _ _ 24 _ _ _)
  replace hf := ob_ hf
  obtain ⟨x4, ex4, hf⟩ := hf
  refine fgX9_9 rfl dX9_against_24 ex4 (?_ : hp_G _ _ _ _ _ _ _ _ _ 27 _ _ _)
  refine hp_iload_n 1 dX9_against_27 rfl rfl (?_ : hp_G _ _ _ _ _ _ _ _ _ 28 _ _ _)
  replace hf := ob_ hf
  obtain ⟨x5, ex5, hf⟩ := hf
  refine hp_iaload dX9_against_28 ex5 (?_ : hp_G _ _ _ _ _ _ _ _ _ 29 _ _ _)
  refine hp_bipush (v := (-9)) dX9_against_29 bi_m9 (?_ : hp_G _ _ _ _ _ _ _ _ _ 31 _ _ _)
  refine hp_icmp_ne (tgt := 36) dX9_against_31 rfl (fun c6 => ?_) (fun c6 => (?_ : hp_G _ _ _ _ _ _ _ _ _ 34 _ _ _))
  · replace hf := of_ c6 hf
    refine hp_iload 3 dX9_against_36 rfl (?_ : hp_G _ _ _ _ _ _ _ _ _ 38 _ _ _)
    refine hp_if_ge (tgt := 43) dX9_against_38 rfl (fun c7 => ?_) (fun c7 => (?_ : hp_G _ _ _ _ _ _ _ _ _ 41 _ _ _))
    · replace hf := ot_ c7 hf
      refine hp_iload_n 2 dX9_against_43 rfl rfl (?_ : hp_G _ _ _ _ _ _ _ _ _ 44 _ _ _)
      refine hp_if_lt (tgt := 70) dX9_against_44 rfl (fun c8 => ?_) (fun c8 => (?_ : hp_G _ _ _ _ _ _ _ _ _ 47 _ _ _))
      · replace hf := ot_ c8 hf
        refine hp_iconst (v := 3) dX9_against_70 ic_3 (?_ : hp_G _ _ _ _ _ _ _ _ _ 71 _ _ _)
        refine hp_goto (tgt := 75) dX9_against_71 rfl (?_ : hp_G _ _ _ _ _ _ _ _ _ 75 _ _ _)
        obtain rfl := Option.some.inj hf
        exact hp_iret kr (fun z => z) rfl dX9_against_75
      · replace hf := of_ c8 hf
        refine hp_iload_n 2 dX9_against_47 rfl rfl (?_ : hp_G _ _ _ _ _ _ _ _ _ 48 _ _ _)
        refine hp_aload_n 0 dX9_against_48 rfl rfl (?_ : hp_G _ _ _ _ _ _ _ _ _ 49 _ _ _)
        replace hf := ob_ hf
        obtain ⟨x9, ex9, hf⟩ := hf
        refine fgX9_13 rfl dX9_against_49 ex9 (?_ : hp_G _ _ _ _ _ _ _ _ _ 52 _ _ _)
        refine hp_iload_n 1 dX9_against_52 rfl rfl (?_ : hp_G _ _ _ _ _ _ _ _ _ 53 _ _ _)
        replace hf := ob_ hf
        obtain ⟨x10, ex10, hf⟩ := hf
        refine hp_iaload dX9_against_53 ex10 (?_ : hp_G _ _ _ _ _ _ _ _ _ 54 _ _ _)
        refine hp_icmp_gt (tgt := 70) dX9_against_54 rfl (fun c11 => ?_) (fun c11 => (?_ : hp_G _ _ _ _ _ _ _ _ _ 57 _ _ _))
        · replace hf := ot_ c11 hf
          refine hp_iconst (v := 3) dX9_against_70 ic_3 (?_ : hp_G _ _ _ _ _ _ _ _ _ 71 _ _ _)
          refine hp_goto (tgt := 75) dX9_against_71 rfl (?_ : hp_G _ _ _ _ _ _ _ _ _ 75 _ _ _)
          obtain rfl := Option.some.inj hf
          exact hp_iret kr (fun z => z) rfl dX9_against_75
        · replace hf := of_ c11 hf
          refine hp_iload 3 dX9_against_57 rfl (?_ : hp_G _ _ _ _ _ _ _ _ _ 59 _ _ _)
          refine hp_aload_n 0 dX9_against_59 rfl rfl (?_ : hp_G _ _ _ _ _ _ _ _ _ 60 _ _ _)
          replace hf := ob_ hf
          obtain ⟨x12, ex12, hf⟩ := hf
          refine fgX9_13 rfl dX9_against_60 ex12 (?_ : hp_G _ _ _ _ _ _ _ _ _ 63 _ _ _)
          refine hp_iload_n 1 dX9_against_63 rfl rfl (?_ : hp_G _ _ _ _ _ _ _ _ _ 64 _ _ _)
          replace hf := ob_ hf
          obtain ⟨x13, ex13, hf⟩ := hf
          refine hp_iaload dX9_against_64 ex13 (?_ : hp_G _ _ _ _ _ _ _ _ _ 65 _ _ _)
          refine hp_iload_n 2 dX9_against_65 rfl rfl (?_ : hp_G _ _ _ _ _ _ _ _ _ 66 _ _ _)
          refine hp_isub dX9_against_66 (?_ : hp_G _ _ _ _ _ _ _ _ _ 67 _ _ _)
          refine hp_icmp_le (tgt := 74) dX9_against_67 rfl (fun c14 => ?_) (fun c14 => (?_ : hp_G _ _ _ _ _ _ _ _ _ 70 _ _ _))
          · replace hf := ot_ c14 hf
            refine hp_iconst (v := 0) dX9_against_74 ic_0 (?_ : hp_G _ _ _ _ _ _ _ _ _ 75 _ _ _)
            obtain rfl := Option.some.inj hf
            exact hp_iret kr (fun z => z) rfl dX9_against_75
          · replace hf := of_ c14 hf
            refine hp_iconst (v := 3) dX9_against_70 ic_3 (?_ : hp_G _ _ _ _ _ _ _ _ _ 71 _ _ _)
            refine hp_goto (tgt := 75) dX9_against_71 rfl (?_ : hp_G _ _ _ _ _ _ _ _ _ 75 _ _ _)
            obtain rfl := Option.some.inj hf
            exact hp_iret kr (fun z => z) rfl dX9_against_75
    · replace hf := of_ c7 hf
      refine hp_iconst (v := 4) dX9_against_41 ic_4 (?_ : hp_G _ _ _ _ _ _ _ _ _ 42 _ _ _)
      obtain rfl := Option.some.inj hf
      exact hp_iret kr (fun z => z) rfl dX9_against_42
  · replace hf := ot_ c6 hf
    refine hp_iconst (v := 1) dX9_against_34 ic_1 (?_ : hp_G _ _ _ _ _ _ _ _ _ 35 _ _ _)
    obtain rfl := Option.some.inj hf
    exact hp_iret kr (fun z => z) rfl dX9_against_35
noncomputable def fX9_against (h : hp_H) (a0 : Nat) (p1 : Int32) (p2 : Int32) (p3 : Int32) (p4 : Int32) : Option Int32 :=
(gq_ h a0 8 2).bind fun x1 =>
(al_ h x1 p1).bind fun x2 =>
if x2 = (-9) then
(jX9_against_23 h a0 p1 p3 p4)
else
((gq_ h a0 8 2).bind fun x15 =>
(al_ h x15 p1).bind fun x16 =>
if x16 = p2 then
(jX9_against_23 h a0 p1 p3 p4)
else
(some 2))
set_option maxRecDepth 20000 in
set_option maxHeartbeats 4000000 in
theorem tX9_against (l : Launch) {h : hp_H} {a0 : Nat} {p1 : Int32} {p2 : Int32} {p3 : Int32} {p4 : Int32} {r : Int32} (hf : fX9_against h a0 p1 p2 p3 p4 = some r) {Q : Option Value → hp_H → Prop} (kr : Q (some (.int r)) h) : hp_G l mX9_against none 0 false Q false 0 0 0 [(0, .ref a0), (1, .int p1), (2, .int p2), (3, .int p3), (4, .int p4)] [] h := by
  unfold fX9_against at hf
  refine hp_aload_n 0 dX9_against_0 rfl rfl (?_ : hp_G _ _ _ _ _ _ _ _ _ 1 _ _ _)
  replace hf := ob_ hf
  obtain ⟨x1, ex1, hf⟩ := hf
  refine fgX9_9 rfl dX9_against_1 ex1 (?_ : hp_G _ _ _ _ _ _ _ _ _ 4 _ _ _)
  refine hp_iload_n 1 dX9_against_4 rfl rfl (?_ : hp_G _ _ _ _ _ _ _ _ _ 5 _ _ _)
  replace hf := ob_ hf
  obtain ⟨x2, ex2, hf⟩ := hf
  refine hp_iaload dX9_against_5 ex2 (?_ : hp_G _ _ _ _ _ _ _ _ _ 6 _ _ _)
  refine hp_bipush (v := (-9)) dX9_against_6 bi_m9 (?_ : hp_G _ _ _ _ _ _ _ _ _ 8 _ _ _)
  refine hp_icmp_eq (tgt := 23) dX9_against_8 rfl (fun c3 => ?_) (fun c3 => (?_ : hp_G _ _ _ _ _ _ _ _ _ 11 _ _ _))
  · replace hf := ot_ c3 hf
    exact hp_sub [0, 1, 3, 4] rfl (tjX9_against_23 l hf kr)
  · replace hf := of_ c3 hf
    refine hp_aload_n 0 dX9_against_11 rfl rfl (?_ : hp_G _ _ _ _ _ _ _ _ _ 12 _ _ _)
    replace hf := ob_ hf
    obtain ⟨x15, ex15, hf⟩ := hf
    refine fgX9_9 rfl dX9_against_12 ex15 (?_ : hp_G _ _ _ _ _ _ _ _ _ 15 _ _ _)
    refine hp_iload_n 1 dX9_against_15 rfl rfl (?_ : hp_G _ _ _ _ _ _ _ _ _ 16 _ _ _)
    replace hf := ob_ hf
    obtain ⟨x16, ex16, hf⟩ := hf
    refine hp_iaload dX9_against_16 ex16 (?_ : hp_G _ _ _ _ _ _ _ _ _ 17 _ _ _)
    refine hp_iload_n 2 dX9_against_17 rfl rfl (?_ : hp_G _ _ _ _ _ _ _ _ _ 18 _ _ _)
    refine hp_icmp_eq (tgt := 23) dX9_against_18 rfl (fun c17 => ?_) (fun c17 => (?_ : hp_G _ _ _ _ _ _ _ _ _ 21 _ _ _))
    · replace hf := ot_ c17 hf
      exact hp_sub [0, 1, 3, 4] rfl (tjX9_against_23 l hf kr)
    · replace hf := of_ c17 hf
      refine hp_iconst (v := 2) dX9_against_21 ic_2 (?_ : hp_G _ _ _ _ _ _ _ _ _ 22 _ _ _)
      obtain rfl := Option.some.inj hf
      exact hp_iret kr (fun z => z) rfl dX9_against_22
theorem kX9_against (l : Launch) {h : hp_H} {a0 : Nat} {p1 : Int32} {p2 : Int32} {p3 : Int32} {p4 : Int32} {r : Int32} (hf : fX9_against h a0 p1 p2 p3 p4 = some r) : hp_Cn l yX9_against mX9_against 0 false 0 0 [.ref a0, .int p1, .int p2, .int p3, .int p4] h (fun v h2 => some (.int r) = v ∧ h = h2) :=
  hp_of (by decide) rfl (fun z => by cases z) (Nat.le_of_ble_eq_true rfl) (tX9_against l hf ⟨rfl, rfl⟩)
