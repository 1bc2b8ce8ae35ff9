noncomputable def jX8_orders_18 (g : hp_H)  (u0 : Nat) (u1 : Int32) (u2 : Int32) (u3 : Int32) (u4 : Int32) (u5 : Int32) (k0 : Int32) : Option (Int32 × hp_H) :=
(hg_o g u0 7).bind fun o2 =>
(fX8_refusalOfTwos g u0 u1 u2 u3 u4 k0).bind fun r3 =>
if r3.1 = 0 then
((gq_ r3.2 u0 7 5).bind fun x5 =>
(gq_ r3.2 u0 7 0).bind fun x6 =>
(gi_ r3.2 x6 6 1).bind fun x7 =>
(gq_ r3.2 u0 7 1).bind fun x8 =>
(ql_ r3.2 x8 u1).bind fun x9 =>
(hg_o r3.2 x5 3).bind fun o10 =>
(fX3_take r3.2 x5 x7 x9 u3 u4 0).bind fun r11 =>
if (0 : Int32) ≤ u5 then
((gq_ r11 u0 7 5).bind fun x13 =>
(hg_o r11 x13 3).bind fun o14 =>
(fX3_placeOfFirst r11 x13 u5).bind fun r15 =>
some (r15.1, r15.2))
else
((gq_ r11 u0 7 5).bind fun x16 =>
(hg_o r11 x16 3).bind fun o17 =>
(fX3_howMany r11 x16).bind fun r18 =>
some (r18.1, r18.2)))
else
(some (r3.1, r3.2))
set_option maxRecDepth 20000 in
set_option maxHeartbeats 4000000 in
theorem tjX8_orders_18 (l : Launch) {g : hp_H}  {u0 : Nat} {u1 : Int32} {u2 : Int32} {u3 : Int32} {u4 : Int32} {u5 : Int32} {k0 : Int32} {r : (Int32 × hp_H)} (hf : jX8_orders_18 g u0 u1 u2 u3 u4 u5 k0 = some r) {Q : Option Value → hp_H → Prop} (kr : Q (some (.int r.1)) r.2) : hp_G l mX8_orders none 4 false Q false 0 0 18 [(0, .ref u0), (1, .int u1), (2, .int u2), (3, .int u3), (4, .int u4), (5, .int u5)] [.int k0] g := by
  unfold jX8_orders_18 at hf
  refine hp_istore (lv' := [(6, .int k0), (0, .ref u0), (1, .int u1), (2, .int u2), (3, .int u3), (4, .int u4), (5, .int u5)]) dX8_orders_18 (Nat.le_of_ble_eq_true rfl) rfl (?_ : hp_G _ _ _ _ _ _ _ _ _ 20 _ _ _)
  refine hp_aload_n 1 dX8_orders_20 rfl rfl (?_ : hp_G _ _ _ _ _ _ _ _ _ 21 _ _ _)
  refine hp_iload_n 2 dX8_orders_21 rfl rfl (?_ : hp_G _ _ _ _ _ _ _ _ _ 22 _ _ _)
  refine hp_iload_n 3 dX8_orders_22 rfl rfl (?_ : hp_G _ _ _ _ _ _ _ _ _ 23 _ _ _)
  refine hp_iload_n 4 dX8_orders_23 rfl rfl (?_ : hp_G _ _ _ _ _ _ _ _ _ 24 _ _ _)
  refine hp_iload 5 dX8_orders_24 rfl (?_ : hp_G _ _ _ _ _ _ _ _ _ 26 _ _ _)
  refine hp_iload 0 dX8_orders_26 rfl (?_ : hp_G _ _ _ _ _ _ _ _ _ 28 _ _ _)
  replace hf := ob_ hf
  obtain ⟨o2, eo2, hf⟩ := hf
  replace hf := ob_ hf
  obtain ⟨r3, er3, hf⟩ := hf
  refine clX8_177 (as := [.int u1, .int u2, .int u3, .int u4, .int k0]) (st := []) rfl (kX8_refusalOfTwos l er3) rfl (by decide) (Nat.le_of_ble_eq_true rfl) eo2 dX8_orders_28 rfl (?_ : hp_G _ _ _ _ _ _ _ _ _ 31 _ _ _)
  refine hp_istore (lv' := [(7, .int r3.1), (6, .int k0), (0, .ref u0), (1, .int u1), (2, .int u2), (3, .int u3), (4, .int u4), (5, .int u5)]) dX8_orders_31 (Nat.le_of_ble_eq_true rfl) rfl (?_ : hp_G _ _ _ _ _ _ _ _ _ 33 _ _ _)
  refine hp_iload 0 dX8_orders_33 rfl (?_ : hp_G _ _ _ _ _ _ _ _ _ 35 _ _ _)
  refine hp_if_eq (tgt := 41) dX8_orders_35 rfl (fun c4 => ?_) (fun c4 => (?_ : hp_G _ _ _ _ _ _ _ _ _ 38 _ _ _))
  · replace hf := ot_ c4 hf
    refine hp_aload_n 2 dX8_orders_41 rfl rfl (?_ : hp_G _ _ _ _ _ _ _ _ _ 42 _ _ _)
    replace hf := ob_ hf
    obtain ⟨x5, ex5, hf⟩ := hf
    refine fgX8_48 rfl dX8_orders_42 ex5 (?_ : hp_G _ _ _ _ _ _ _ _ _ 45 _ _ _)
    refine hp_aload_n 2 dX8_orders_45 rfl rfl (?_ : hp_G _ _ _ _ _ _ _ _ _ 46 _ _ _)
    replace hf := ob_ hf
    obtain ⟨x6, ex6, hf⟩ := hf
    refine fgX8_12 rfl dX8_orders_46 ex6 (?_ : hp_G _ _ _ _ _ _ _ _ _ 49 _ _ _)
    replace hf := ob_ hf
    obtain ⟨x7, ex7, hf⟩ := hf
    refine fgX8_92 rfl dX8_orders_49 ex7 (?_ : hp_G _ _ _ _ _ _ _ _ _ 52 _ _ _)
    refine hp_aload_n 2 dX8_orders_52 rfl rfl (?_ : hp_G _ _ _ _ _ _ _ _ _ 53 _ _ _)
    replace hf := ob_ hf
    obtain ⟨x8, ex8, hf⟩ := hf
    refine fgX8_20 rfl dX8_orders_53 ex8 (?_ : hp_G _ _ _ _ _ _ _ _ _ 56 _ _ _)
    refine hp_iload_n 3 dX8_orders_56 rfl rfl (?_ : hp_G _ _ _ _ _ _ _ _ _ 57 _ _ _)
    replace hf := ob_ hf
    obtain ⟨x9, ex9, hf⟩ := hf
    refine hp_aaload dX8_orders_57 ex9 (?_ : hp_G _ _ _ _ _ _ _ _ _ 58 _ _ _)
    refine hp_iload_n 5 dX8_orders_58 rfl rfl (?_ : hp_G _ _ _ _ _ _ _ _ _ 59 _ _ _)
    refine hp_iload 6 dX8_orders_59 rfl (?_ : hp_G _ _ _ _ _ _ _ _ _ 61 _ _ _)
    refine hp_iconst (v := 0) dX8_orders_61 ic_0 (?_ : hp_G _ _ _ _ _ _ _ _ _ 62 _ _ _)
    replace hf := ob_ hf
    obtain ⟨o10, eo10, hf⟩ := hf
    replace hf := ob_ hf
    obtain ⟨r11, er11, hf⟩ := hf
    refine clX8_180 (as := [.int x7, .ref x9, .int u3, .int u4, .int 0]) (st := []) rfl (kX3_take l er11) rfl (by decide) (Nat.le_of_ble_eq_true rfl) eo10 dX8_orders_62 rfl (?_ : hp_G _ _ _ _ _ _ _ _ _ 65 _ _ _)
    refine hp_iload 7 dX8_orders_65 rfl (?_ : hp_G _ _ _ _ _ _ _ _ _ 67 _ _ _)
    refine hp_if_ge (tgt := 80) dX8_orders_67 rfl (fun c12 => ?_) (fun c12 => (?_ : hp_G _ _ _ _ _ _ _ _ _ 70 _ _ _))
    · replace hf := ot_ c12 hf
      refine hp_aload_n 2 dX8_orders_80 rfl rfl (?_ : hp_G _ _ _ _ _ _ _ _ _ 81 _ _ _)
      replace hf := ob_ hf
      obtain ⟨x13, ex13, hf⟩ := hf
      refine fgX8_48 rfl dX8_orders_81 ex13 (?_ : hp_G _ _ _ _ _ _ _ _ _ 84 _ _ _)
      refine hp_iload 7 dX8_orders_84 rfl (?_ : hp_G _ _ _ _ _ _ _ _ _ 86 _ _ _)
      replace hf := ob_ hf
      obtain ⟨o14, eo14, hf⟩ := hf
      replace hf := ob_ hf
      obtain ⟨r15, er15, hf⟩ := hf
      refine clX8_187 (as := [.int u5]) (st := []) rfl (kX3_placeOfFirst l er15) rfl (by decide) (Nat.le_of_ble_eq_true rfl) eo14 dX8_orders_86 rfl (?_ : hp_G _ _ _ _ _ _ _ _ _ 89 _ _ _)
      obtain rfl := Option.some.inj hf
      exact hp_iret kr (fun z => z) rfl dX8_orders_89
    · replace hf := of_ c12 hf
      refine hp_aload_n 2 dX8_orders_70 rfl rfl (?_ : hp_G _ _ _ _ _ _ _ _ _ 71 _ _ _)
      replace hf := ob_ hf
      obtain ⟨x16, ex16, hf⟩ := hf
      refine fgX8_48 rfl dX8_orders_71 ex16 (?_ : hp_G _ _ _ _ _ _ _ _ _ 74 _ _ _)
      replace hf := ob_ hf
      obtain ⟨o17, eo17, hf⟩ := hf
      replace hf := ob_ hf
      obtain ⟨r18, er18, hf⟩ := hf
      refine clX8_184 (as := []) (st := []) rfl (kX3_howMany l er18) rfl (by decide) (Nat.le_of_ble_eq_true rfl) eo17 dX8_orders_74 rfl (?_ : hp_G _ _ _ _ _ _ _ _ _ 77 _ _ _)
      refine hp_goto (tgt := 89) dX8_orders_77 rfl (?_ : hp_G _ _ _ _ _ _ _ _ _ 89 _ _ _)
      obtain rfl := Option.some.inj hf
      exact hp_iret kr (fun z => z) rfl dX8_orders_89
  · replace hf := of_ c4 hf
    refine hp_iload 0 dX8_orders_38 rfl (?_ : hp_G _ _ _ _ _ _ _ _ _ 40 _ _ _)
    obtain rfl := Option.some.inj hf
    exact hp_iret kr (fun z => z) rfl dX8_orders_40
noncomputable def jX8_orders_17 (g : hp_H)  (u0 : Nat) (u1 : Int32) (u2 : Int32) (u3 : Int32) (u4 : Int32) (u5 : Int32)  : Option (Int32 × hp_H) :=
jX8_orders_18 g u0 u1 u2 u3 u4 u5 0
set_option maxRecDepth 20000 in
set_option maxHeartbeats 4000000 in
theorem tjX8_orders_17 (l : Launch) {g : hp_H}  {u0 : Nat} {u1 : Int32} {u2 : Int32} {u3 : Int32} {u4 : Int32} {u5 : Int32}  {r : (Int32 × hp_H)} (hf : jX8_orders_17 g u0 u1 u2 u3 u4 u5 = some r) {Q : Option Value → hp_H → Prop} (kr : Q (some (.int r.1)) r.2) : hp_G l mX8_orders none 4 false Q false 0 0 17 [(0, .ref u0), (1, .int u1), (2, .int u2), (3, .int u3), (4, .int u4), (5, .int u5)] [] g := by
  unfold jX8_orders_17 at hf
  refine hp_iconst (v := 0) dX8_orders_17 ic_0 (?_ : hp_G _ _ _ _ _ _ _ _ _ 18 _ _ _)
  exact hp_sub [0, 1, 2, 3, 4, 5] rfl (tjX8_orders_18 l hf kr)
noncomputable def fX8_orders (h : hp_H) (a0 : Nat) (p1 : Int32) (p2 : Int32) (p3 : Int32) (p4 : Int32) (p5 : Int32) : Option (Int32 × hp_H) :=
if p5 < (-1) then
(jX8_orders_17 h a0 p1 p2 p3 p4 p5)
else
(if (6 : Int32) ≤ p5 then
(jX8_orders_17 h a0 p1 p2 p3 p4 p5)
else
(jX8_orders_18 h a0 p1 p2 p3 p4 p5 1))
set_option maxRecDepth 20000 in
set_option maxHeartbeats 4000000 in
theorem tX8_orders (l : Launch) {h : hp_H} {a0 : Nat} {p1 : Int32} {p2 : Int32} {p3 : Int32} {p4 : Int32} {p5 : Int32} {r : (Int32 × hp_H)} (hf : fX8_orders h a0 p1 p2 p3 p4 p5 = some r) {Q : Option Value → hp_H → Prop} (kr : Q (some (.int r.1)) r.2) : hp_G l mX8_orders none 4 false Q false 0 0 0 [(0, .ref a0), (1, .int p1), (2, .int p2), (3, .int p3), (4, .int p4), (5, .int p5)] [] h := by
  unfold fX8_orders at hf
  refine hp_iload 5 dX8_orders_0 rfl (?_ : hp_G _ _ _ _ _ _ _ _ _ 2 _ _ _)
  refine hp_iconst (v := (-1)) dX8_orders_2 ic_m1 (?_ : hp_G _ _ _ _ _ _ _ _ _ 3 _ _ _)
  refine hp_icmp_lt (tgt := 17) dX8_orders_3 rfl (fun c1 => ?_) (fun c1 => (?_ : hp_G _ _ _ _ _ _ _ _ _ 6 _ _ _))
  · replace hf := ot_ c1 hf
    exact hp_sub [0, 1, 2, 3, 4, 5] rfl (tjX8_orders_17 l hf kr)
  · replace hf := of_ c1 hf
    refine hp_iload 5 dX8_orders_6 rfl (?_ : hp_G _ _ _ _ _ _ _ _ _ 8 _ _ _)
    refine hp_bipush (v := 6) dX8_orders_8 bi_6 (?_ : hp_G _ _ _ _ _ _ _ _ _ 10 _ _ _)
    refine hp_icmp_ge (tgt := 17) dX8_orders_10 rfl (fun c19 => ?_) (fun c19 => (?_ : hp_G _ _ _ _ _ _ _ _ _ 13 _ _ _))
    · replace hf := ot_ c19 hf
      exact hp_sub [0, 1, 2, 3, 4, 5] rfl (tjX8_orders_17 l hf kr)
    · replace hf := of_ c19 hf
      refine hp_iconst (v := 1) dX8_orders_13 ic_1 (?_ : hp_G _ _ _ _ _ _ _ _ _ 14 _ _ _)
      refine hp_goto (tgt := 18) dX8_orders_14 rfl (?_ : hp_G _ _ _ _ _ _ _ _ _ 18 _ _ _)
      exact hp_sub [0, 1, 2, 3, 4, 5] rfl (tjX8_orders_18 l hf kr)
theorem kX8_orders (l : Launch) {h : hp_H} {a0 : Nat} {p1 : Int32} {p2 : Int32} {p3 : Int32} {p4 : Int32} {p5 : Int32} {r : (Int32 × hp_H)} (hf : fX8_orders h a0 p1 p2 p3 p4 p5 = some r) : hp_Cn l yX8_orders mX8_orders 4 false 0 0 [.ref a0, .int p1, .int p2, .int p3, .int p4, .int p5] h (fun v h2 => some (.int r.1) = v ∧ r.2 = h2) :=
  hp_of (by decide) rfl (fun z => by cases z) (Nat.le_of_ble_eq_true rfl) (tX8_orders l hf ⟨rfl, rfl⟩)
noncomputable def bX9_refusesTwos_2 (h : hp_H) (v0 : Nat) (v1 : Int32) (v2 : Int32) (s : Int32) : Option (Int32 ⊕ (Unit ⊕ Int32)) :=
if v2 ≤ s then
(some (.inr (.inl ())))
else
((gq_ h v0 8 4).bind fun x2 =>
(al_ h x2 (v1 + (2 * s))).bind fun x3 =>
(gq_ h v0 8 4).bind fun x4 =>
(al_ h x4 ((v1 + (2 * s)) + 1)).bind fun x5 =>
(hg_o h v0 8).bind fun o6 =>
(fX9_areTwo h v0 x3 x5).bind fun r7 =>
if r7 = 0 then
(some (.inr (.inr (-1))))
else
((some (s + 1)).bind fun x9 =>
some (.inl x9)))
set_option maxRecDepth 20000 in
set_option maxHeartbeats 4000000 in
theorem tbX9_refusesTwos_2 (l : Launch) {h : hp_H} {v0 : Nat} {v1 : Int32} {v2 : Int32}  {s : Int32} {r : (Int32 ⊕ (Unit ⊕ Int32))} (hf : bX9_refusesTwos_2 h  v0 v1 v2 s = some r) {Q : Option Value → hp_H → Prop} (kb : ∀ t, r = .inl t → hp_G l mX9_refusesTwos none 2 false Q false 0 0 2 [(0, .ref v0), (1, .int v1), (2, .int v2), (3, .int t)] [] h) (ke : ∀ x, r = .inr (.inl x) → hp_G l mX9_refusesTwos none 2 false Q false 0 0 44 [] [] h) (kr : ∀ z, r = .inr (.inr z) → Q (some (.int z)) h) : hp_G l mX9_refusesTwos none 2 false Q false 0 0 2 [(0, .ref v0), (1, .int v1), (2, .int v2), (3, .int s)] [] h := by
  unfold bX9_refusesTwos_2 at hf
  refine hp_iload_n 3 dX9_refusesTwos_2 rfl rfl (?_ : hp_G _ _ _ _ _ _ _ _ _ 3 _ _ _)
  refine hp_iload_n 2 dX9_refusesTwos_3 rfl rfl (?_ : hp_G _ _ _ _ _ _ _ _ _ 4 _ _ _)
  refine hp_icmp_ge (tgt := 44) dX9_refusesTwos_4 rfl (fun c1 => ?_) (fun c1 => (?_ : hp_G _ _ _ _ _ _ _ _ _ 7 _ _ _))
  · replace hf := ot_ c1 hf
    obtain rfl := Option.some.inj hf
    exact hp_sub [] rfl (ke _ rfl)
  · replace hf := of_ c1 hf
    refine hp_aload_n 0 dX9_refusesTwos_7 rfl rfl (?_ : hp_G _ _ _ _ _ _ _ _ _ 8 _ _ _)
    refine hp_aload_n 0 dX9_refusesTwos_8 rfl rfl (?_ : hp_G _ _ _ _ _ _ _ _ _ 9 _ _ _)
    replace hf := ob_ hf
    obtain ⟨x2, ex2, hf⟩ := hf
    refine fgX9_16 rfl dX9_refusesTwos_9 ex2 (?_ : hp_G _ _ _ _ _ _ _ _ _ 12 _ _ _)
    refine hp_iload_n 1 dX9_refusesTwos_12 rfl rfl (?_ : hp_G _ _ _ _ _ _ _ _ _ 13 _ _ _)
    refine hp_iconst (v := 2) dX9_refusesTwos_13 ic_2 (?_ : hp_G _ _ _ _ _ _ _ _ _ 14 _ _ _)
    refine hp_iload_n 3 dX9_refusesTwos_14 rfl rfl (?_ : hp_G _ _ _ _ _ _ _ _ _ 15 _ _ _)
    refine hp_imul dX9_refusesTwos_15 (?_ : hp_G _ _ _ _ _ _ _ _ _ 16 _ _ _)
    refine hp_iadd dX9_refusesTwos_16 (?_ : hp_G _ _ _ _ _ _ _ _ _ 17 _ _ _)
    replace hf := ob_ hf
    obtain ⟨x3, ex3, hf⟩ := hf
    refine hp_iaload dX9_refusesTwos_17 ex3 (?_ : hp_G _ _ _ _ _ _ _ _ _ 18 _ _ _)
    refine hp_aload_n 0 dX9_refusesTwos_18 rfl rfl (?_ : hp_G _ _ _ _ _ _ _ _ _ 19 _ _ _)
    replace hf := ob_ hf
    obtain ⟨x4, ex4, hf⟩ := hf
    refine fgX9_16 rfl dX9_refusesTwos_19 ex4 (?_ : hp_G _ _ _ _ _ _ _ _ _ 22 _ _ _)
    refine hp_iload_n 1 dX9_refusesTwos_22 rfl rfl (?_ : hp_G _ _ _ _ _ _ _ _ _ 23 _ _ _)
    refine hp_iconst (v := 2) dX9_refusesTwos_23 ic_2 (?_ : hp_G _ _ _ _ _ _ _ _ _ 24 _ _ _)
    refine hp_iload_n 3 dX9_refusesTwos_24 rfl rfl (?_ : hp_G _ _ _ _ _ _ _ _ _ 25 _ _ _)
    refine hp_imul dX9_refusesTwos_25 (?_ : hp_G _ _ _ _ _ _ _ _ _ 26 _ _ _)
    refine hp_iadd dX9_refusesTwos_26 (?_ : hp_G _ _ _ _ _ _ _ _ _ 27 _ _ _)
    refine hp_iconst (v := 1) dX9_refusesTwos_27 ic_1 (?_ : hp_G _ _ _ _ _ _ _ _ _ 28 _ _ _)
    refine hp_iadd dX9_refusesTwos_28 (?_ : hp_G _ _ _ _ _ _ _ _ _ 29 _ _ _)
    replace hf := ob_ hf
    obtain ⟨x5, ex5, hf⟩ := hf
    refine hp_iaload dX9_refusesTwos_29 ex5 (?_ : hp_G _ _ _ _ _ _ _ _ _ 30 _ _ _)
    replace hf := ob_ hf
    obtain ⟨o6, eo6, hf⟩ := hf
    replace hf := ob_ hf
    obtain ⟨r7, er7, hf⟩ := hf
    refine clX9_129 (as := [.int x3, .int x5]) (st := []) rfl (kX9_areTwo l er7) rfl (by decide) (Nat.le_of_ble_eq_true rfl) eo6 dX9_refusesTwos_30 rfl (?_ : hp_G _ _ _ _ _ _ _ _ _ 33 _ _ _)
    refine hp_if_ne (tgt := 38) dX9_refusesTwos_33 rfl (fun c8 => ?_) (fun c8 => (?_ : hp_G _ _ _ _ _ _ _ _ _ 36 _ _ _))
    · replace hf := of_ c8 hf
      replace hf := ob_ hf
      obtain ⟨x9, ex9, hf⟩ := hf
      refine hp_iinc (v := x9) (lv' := [(3, .int x9), (0, .ref v0), (1, .int v1), (2, .int v2)]) 3 dX9_refusesTwos_38 rfl (hp_inc ic_1 ex9) (Nat.le_of_ble_eq_true rfl) rfl (?_ : hp_G _ _ _ _ _ _ _ _ _ 41 _ _ _)
      refine hp_goto (tgt := 2) dX9_refusesTwos_41 rfl (?_ : hp_G _ _ _ _ _ _ _ _ _ 2 _ _ _)
      obtain rfl := Option.some.inj hf
      exact hp_sub [1, 2, 3, 0] rfl (kb _ rfl)
    · replace hf := ot_ c8 hf
      refine hp_iconst (v := (-1)) dX9_refusesTwos_36 ic_m1 (?_ : hp_G _ _ _ _ _ _ _ _ _ 37 _ _ _)
      obtain rfl := Option.some.inj hf
      exact hp_iret (kr _ rfl) (fun z => z) rfl dX9_refusesTwos_37
set_option maxRecDepth 20000 in
set_option maxHeartbeats 4000000 in
theorem tlX9_refusesTwos_2 (l : Launch) {h : hp_H} {v0 : Nat} {v1 : Int32} {v2 : Int32}  (q : Nat) {s : Int32} {x : (Unit ⊕ Int32)} (hf : it_ (bX9_refusesTwos_2 h  v0 v1 v2) q s = some x) {Q : Option Value → hp_H → Prop} (ke : ∀ e, x = .inl e → hp_G l mX9_refusesTwos none 2 false Q false 0 0 44 [] [] h) (kr : ∀ z, x = .inr z → Q (some (.int z)) h) : hp_G l mX9_refusesTwos none 2 false Q false 0 0 2 [(0, .ref v0), (1, .int v1), (2, .int v2), (3, .int s)] [] h := by
  exact it_rule (f := bX9_refusesTwos_2 h  v0 v1 v2) (fun s => hp_G l mX9_refusesTwos none 2 false Q false 0 0 2 [(0, .ref v0), (1, .int v1), (2, .int v2), (3, .int s)] [] h) (fun x => (∀ e, x = .inl e → hp_G l mX9_refusesTwos none 2 false Q false 0 0 44 [] [] h) ∧ (∀ z, x = .inr z → Q (some (.int z)) h)) (fun s r h1 h2 h3 => tbX9_refusesTwos_2 l h1 (fun t e => h2 t e) (fun e he => (h3 _ he).1 _ rfl) (fun z he => (h3 _ he).2 _ rfl)) q s x hf ⟨ke, kr⟩
noncomputable def fX9_refusesTwos (h : hp_H) (a0 : Nat) (p1 : Int32) (p2 : Int32) : Option Int32 :=
(it_ (bX9_refusesTwos_2 h a0 p1 p2) fu_ 0).bind fun x10 =>
match x10 with
| .inl y11 => (some 0)
| .inr z12 => some z12
set_option maxRecDepth 20000 in
set_option maxHeartbeats 4000000 in
theorem tX9_refusesTwos (l : Launch) {h : hp_H} {a0 : Nat} {p1 : Int32} {p2 : Int32} {r : Int32} (hf : fX9_refusesTwos h a0 p1 p2 = some r) {Q : Option Value → hp_H → Prop} (kr : Q (some (.int r)) h) : hp_G l mX9_refusesTwos none 2 false Q false 0 0 0 [(0, .ref a0), (1, .int p1), (2, .int p2)] [] h := by
  unfold fX9_refusesTwos at hf
  refine hp_iconst (v := 0) dX9_refusesTwos_0 ic_0 (?_ : hp_G _ _ _ _ _ _ _ _ _ 1 _ _ _)
  refine hp_istore_n (lv' := [(3, .int 0), (0, .ref a0), (1, .int p1), (2, .int p2)]) dX9_refusesTwos_1 rfl (Nat.le_of_ble_eq_true rfl) rfl (?_ : hp_G _ _ _ _ _ _ _ _ _ 2 _ _ _)
  replace hf := ob_ hf
  obtain ⟨x10, ex10, hf⟩ := hf
  refine hp_sub [1, 2, 3, 0] rfl ?_
  rcases x10 with y11 | z12
  · (try dsimp only at hf)
    refine tlX9_refusesTwos_2 l fu_ ex10 (fun w hw => ?_) (fun w hw => (by cases hw))
    obtain rfl := Sum.inl.inj hw
    refine hp_iconst (v := 0) dX9_refusesTwos_44 ic_0 (?_ : hp_G _ _ _ _ _ _ _ _ _ 45 _ _ _)
    obtain rfl := Option.some.inj hf
    exact hp_iret kr (fun z => z) rfl dX9_refusesTwos_45
  · (try dsimp only at hf)
    refine tlX9_refusesTwos_2 l fu_ ex10 (fun w hw => (by cases hw)) (fun w hw => ?_)
    obtain rfl := Sum.inr.inj hw
    obtain rfl := Option.some.inj hf
    exact kr
theorem kX9_refusesTwos (l : Launch) {h : hp_H} {a0 : Nat} {p1 : Int32} {p2 : Int32} {r : Int32} (hf : fX9_refusesTwos h a0 p1 p2 = some r) : hp_Cn l yX9_refusesTwos mX9_refusesTwos 2 false 0 0 [.ref a0, .int p1, .int p2] h (fun v h2 => some (.int r) = v ∧ h = h2) :=
  hp_of (by decide) rfl (fun z => by cases z) (Nat.le_of_ble_eq_true rfl) (tX9_refusesTwos l hf ⟨rfl, rfl⟩)
noncomputable def bX9_ordersOf_4 (h : hp_H) (v0 : Int32) (s : (Int32 × Int32)) : Option ((Int32 × Int32) ⊕ Int32) :=
if v0 < s.2 then
(some (.inr s.1))
else
((some (s.1 * s.2)).bind fun x2 =>
(some (s.2 + 1)).bind fun x3 =>
some (.inl (x2, x3)))
set_option maxRecDepth 20000 in
set_option maxHeartbeats 4000000 in
theorem tbX9_ordersOf_4 (l : Launch) {h : hp_H} {v0 : Int32}  {s : (Int32 × Int32)} {r : ((Int32 × Int32) ⊕ Int32)} (hf : bX9_ordersOf_4 h  v0 s = some r) {Q : Option Value → hp_H → Prop} (kb : ∀ t, r = .inl t → hp_G l mX9_ordersOf none 0 false Q false 0 0 4 [(0, .int v0), (1, .int t.1), (2, .int t.2)] [] h) (ke : ∀ x, r = .inr x → hp_G l mX9_ordersOf none 0 false Q false 0 0 19 [(1, .int x)] [] h) : hp_G l mX9_ordersOf none 0 false Q false 0 0 4 [(0, .int v0), (1, .int s.1), (2, .int s.2)] [] h := by
  unfold bX9_ordersOf_4 at hf
  refine hp_iload_n 2 dX9_ordersOf_4 rfl rfl (?_ : hp_G _ _ _ _ _ _ _ _ _ 5 _ _ _)
  refine hp_iload_n 0 dX9_ordersOf_5 rfl rfl (?_ : hp_G _ _ _ _ _ _ _ _ _ 6 _ _ _)
  refine hp_icmp_gt (tgt := 19) dX9_ordersOf_6 rfl (fun c1 => ?_) (fun c1 => (?_ : hp_G _ _ _ _ _ _ _ _ _ 9 _ _ _))
  · replace hf := ot_ c1 hf
    obtain rfl := Option.some.inj hf
    exact hp_sub [1] rfl (ke _ rfl)
  · replace hf := of_ c1 hf
    refine hp_iload_n 1 dX9_ordersOf_9 rfl rfl (?_ : hp_G _ _ _ _ _ _ _ _ _ 10 _ _ _)
    refine hp_iload_n 2 dX9_ordersOf_10 rfl rfl (?_ : hp_G _ _ _ _ _ _ _ _ _ 11 _ _ _)
    refine hp_imul dX9_ordersOf_11 (?_ : hp_G _ _ _ _ _ _ _ _ _ 12 _ _ _)
    replace hf := ob_ hf
    obtain ⟨x2, ex2, hf⟩ := hf
    refine hp_nmi ex2 ?_
    refine hp_istore_n (lv' := [(1, .int x2), (0, .int v0), (2, .int s.2)]) dX9_ordersOf_12 rfl (Nat.le_of_ble_eq_true rfl) rfl (?_ : hp_G _ _ _ _ _ _ _ _ _ 13 _ _ _)
    replace hf := ob_ hf
    obtain ⟨x3, ex3, hf⟩ := hf
    refine hp_iinc (v := x3) (lv' := [(2, .int x3), (1, .int x2), (0, .int v0)]) 2 dX9_ordersOf_13 rfl (hp_inc ic_1 ex3) (Nat.le_of_ble_eq_true rfl) rfl (?_ : hp_G _ _ _ _ _ _ _ _ _ 16 _ _ _)
    refine hp_goto (tgt := 4) dX9_ordersOf_16 rfl (?_ : hp_G _ _ _ _ _ _ _ _ _ 4 _ _ _)
    obtain rfl := Option.some.inj hf
    exact hp_sub [2, 1, 0] rfl (kb _ rfl)
set_option maxRecDepth 20000 in
set_option maxHeartbeats 4000000 in
theorem tlX9_ordersOf_4 (l : Launch) {h : hp_H} {v0 : Int32}  (q : Nat) {s : (Int32 × Int32)} {x : Int32} (hf : it_ (bX9_ordersOf_4 h  v0) q s = some x) {Q : Option Value → hp_H → Prop} (ke : ∀ e, x = e → hp_G l mX9_ordersOf none 0 false Q false 0 0 19 [(1, .int e)] [] h) : hp_G l mX9_ordersOf none 0 false Q false 0 0 4 [(0, .int v0), (1, .int s.1), (2, .int s.2)] [] h := by
  exact it_rule (f := bX9_ordersOf_4 h  v0) (fun s => hp_G l mX9_ordersOf none 0 false Q false 0 0 4 [(0, .int v0), (1, .int s.1), (2, .int s.2)] [] h) (fun x => (∀ e, x = e → hp_G l mX9_ordersOf none 0 false Q false 0 0 19 [(1, .int e)] [] h)) (fun s r h1 h2 h3 => tbX9_ordersOf_4 l h1 (fun t e => h2 t e) (fun e he => h3 _ he _ rfl)) q s x hf ke
noncomputable def fX9_ordersOf (h : hp_H) (p0 : Int32) : Option Int32 :=
(it_ (bX9_ordersOf_4 h p0) fu_ (1, 2)).bind fun x4 =>
some x4
set_option maxRecDepth 20000 in
set_option maxHeartbeats 4000000 in
theorem tX9_ordersOf (l : Launch) {h : hp_H} {p0 : Int32} {r : Int32} (hf : fX9_ordersOf h p0 = some r) {Q : Option Value → hp_H → Prop} (kr : Q (some (.int r)) h) : hp_G l mX9_ordersOf none 0 false Q false 0 0 0 [(0, .int p0)] [] h := by
  unfold fX9_ordersOf at hf
  refine hp_iconst (v := 1) dX9_ordersOf_0 ic_1 (?_ : hp_G _ _ _ _ _ _ _ _ _ 1 _ _ _)
  refine hp_istore_n (lv' := [(1, .int 1), (0, .int p0)]) dX9_ordersOf_1 rfl (Nat.le_of_ble_eq_true rfl) rfl (?_ : hp_G _ _ _ _ _ _ _ _ _ 2 _ _ _)
  refine hp_iconst (v := 2) dX9_ordersOf_2 ic_2 (?_ : hp_G _ _ _ _ _ _ _ _ _ 3 _ _ _)
  refine hp_istore_n (lv' := [(2, .int 2), (1, .int 1), (0, .int p0)]) dX9_ordersOf_3 rfl (Nat.le_of_ble_eq_true rfl) rfl (?_ : hp_G _ _ _ _ _ _ _ _ _ 4 _ _ _)
  replace hf := ob_ hf
  obtain ⟨x4, ex4, hf⟩ := hf
  refine hp_sub [2, 1, 0] rfl ?_
  refine tlX9_ordersOf_4 l fu_ ex4 (fun y hy => ?_)
  obtain rfl := hy
  refine hp_iload_n 0 dX9_ordersOf_19 rfl rfl (?_ : hp_G _ _ _ _ _ _ _ _ _ 20 _ _ _)
  obtain rfl := Option.some.inj hf
  exact hp_iret kr (fun z => z) rfl dX9_ordersOf_20
theorem kX9_ordersOf (l : Launch) {h : hp_H} {p0 : Int32} {r : Int32} (hf : fX9_ordersOf h p0 = some r) : hp_Cn l yX9_ordersOf mX9_ordersOf 0 false 0 0 [.int p0] h (fun v h2 => some (.int r) = v ∧ h = h2) :=
  hp_of (by decide) rfl (fun z => by cases z) (Nat.le_of_ble_eq_true rfl) (tX9_ordersOf l hf ⟨rfl, rfl⟩)
noncomputable def jX9_findRow_71_39 (h : hp_H) (v0 : Nat) (v2 : Int32) (v3 : Int32) (v4 : Int32) (v5 : Int32) (u7 : Int32) (k0 : Int32) (k1 : Int32) : Option ((Int32 × Int32) ⊕ Int32) :=
(some (k1 - k0)).bind fun x11 =>
(some (u7 + 1)).bind fun x12 =>
some (.inl (x11, x12))
set_option maxRecDepth 20000 in
set_option maxHeartbeats 4000000 in
theorem tjX9_findRow_71_39 (l : Launch) {h : hp_H} {v0 : Nat} {v2 : Int32} {v3 : Int32} {v4 : Int32} {v5 : Int32} {u7 : Int32} {k0 : Int32} {k1 : Int32} {r : ((Int32 × Int32) ⊕ Int32)} (hf : jX9_findRow_71_39 h v0 v2 v3 v4 v5 u7 k0 k1 = some r) {Q : Option Value → hp_H → Prop} (kb : ∀ t, r = .inl t → hp_G l mX9_findRow none 1 false Q false 0 0 39 [(0, .ref v0), (2, .int v2), (3, .int v3), (4, .int v4), (5, .int v5), (6, .int t.1), (7, .int t.2)] [] h) (ke : ∀ x, r = .inr x → hp_G l mX9_findRow none 1 false Q false 0 0 80 [(0, .ref v0), (2, .int v2), (3, .int v3), (4, .int v4), (5, .int v5), (7, .int x)] [] h) : hp_G l mX9_findRow none 1 false Q false 0 0 71 [(0, .ref v0), (2, .int v2), (3, .int v3), (4, .int v4), (5, .int v5), (7, .int u7)] [.int k0, .int k1] h := by
  unfold jX9_findRow_71_39 at hf
  refine hp_isub dX9_findRow_71 (?_ : hp_G _ _ _ _ _ _ _ _ _ 72 _ _ _)
  replace hf := ob_ hf
  obtain ⟨x11, ex11, hf⟩ := hf
  refine hp_nmi ex11 ?_
  refine hp_istore (lv' := [(6, .int x11), (0, .ref v0), (2, .int v2), (3, .int v3), (4, .int v4), (5, .int v5), (7, .int u7)]) dX9_findRow_72 (Nat.le_of_ble_eq_true rfl) rfl (?_ : hp_G _ _ _ _ _ _ _ _ _ 74 _ _ _)
  replace hf := ob_ hf
  obtain ⟨x12, ex12, hf⟩ := hf
  refine hp_iinc (v := x12) (lv' := [(7, .int x12), (6, .int x11), (0, .ref v0), (2, .int v2), (3, .int v3), (4, .int v4), (5, .int v5)]) 6 dX9_findRow_74 rfl (hp_inc ic_1 ex12) (Nat.le_of_ble_eq_true rfl) rfl (?_ : hp_G _ _ _ _ _ _ _ _ _ 77 _ _ _)
  refine hp_goto (tgt := 39) dX9_findRow_77 rfl (?_ : hp_G _ _ _ _ _ _ _ _ _ 39 _ _ _)
  obtain rfl := Option.some.inj hf
  exact hp_sub [2, 3, 4, 5, 6, 1, 0] rfl (kb _ rfl)
noncomputable def jX9_findRow_54_39 (h : hp_H) (v0 : Nat) (v2 : Int32) (v3 : Int32) (v4 : Int32) (v5 : Int32) (u6 : Int32) (u7 : Int32)  : Option ((Int32 × Int32) ⊕ Int32) :=
(fX9_isOf h v4 u7).bind fun r9 =>
if r9 = 0 then
(jX9_findRow_71_39 h v0 v2 v3 v4 v5 u7 1 u6)
else
(jX9_findRow_71_39 h v0 v2 v3 v4 v5 u7 0 u6)
set_option maxRecDepth 20000 in
set_option maxHeartbeats 4000000 in
theorem tjX9_findRow_54_39 (l : Launch) {h : hp_H} {v0 : Nat} {v2 : Int32} {v3 : Int32} {v4 : Int32} {v5 : Int32} {u6 : Int32} {u7 : Int32}  {r : ((Int32 × Int32) ⊕ Int32)} (hf : jX9_findRow_54_39 h v0 v2 v3 v4 v5 u6 u7 = some r) {Q : Option Value → hp_H → Prop} (kb : ∀ t, r = .inl t → hp_G l mX9_findRow none 1 false Q false 0 0 39 [(0, .ref v0), (2, .int v2), (3, .int v3), (4, .int v4), (5, .int v5), (6, .int t.1), (7, .int t.2)] [] h) (ke : ∀ x, r = .inr x → hp_G l mX9_findRow none 1 false Q false 0 0 80 [(0, .ref v0), (2, .int v2), (3, .int v3), (4, .int v4), (5, .int v5), (7, .int x)] [] h) : hp_G l mX9_findRow none 1 false Q false 0 0 54 [(0, .ref v0), (2, .int v2), (3, .int v3), (4, .int v4), (5, .int v5), (6, .int u6), (7, .int u7)] [] h := by
  unfold jX9_findRow_54_39 at hf
  refine hp_iload 5 dX9_findRow_54 rfl (?_ : hp_G _ _ _ _ _ _ _ _ _ 56 _ _ _)
  refine hp_iload 3 dX9_findRow_56 rfl (?_ : hp_G _ _ _ _ _ _ _ _ _ 58 _ _ _)
  refine hp_iload 6 dX9_findRow_58 rfl (?_ : hp_G _ _ _ _ _ _ _ _ _ 60 _ _ _)
  replace hf := ob_ hf
  obtain ⟨r9, er9, hf⟩ := hf
  refine clX9_126 (as := [.int v4, .int u7]) (st := [.int u6]) rfl (kX9_isOf l er9) rfl (by decide) (Nat.le_of_ble_eq_true rfl) dX9_findRow_60 rfl (?_ : hp_G _ _ _ _ _ _ _ _ _ 63 _ _ _)
  refine hp_if_eq (tgt := 70) dX9_findRow_63 rfl (fun c10 => ?_) (fun c10 => (?_ : hp_G _ _ _ _ _ _ _ _ _ 66 _ _ _))
  · replace hf := ot_ c10 hf
    refine hp_iconst (v := 1) dX9_findRow_70 ic_1 (?_ : hp_G _ _ _ _ _ _ _ _ _ 71 _ _ _)
    exact hp_sub [0, 1, 2, 3, 4, 6] rfl (tjX9_findRow_71_39 l hf kb ke)
  · replace hf := of_ c10 hf
    refine hp_iconst (v := 0) dX9_findRow_66 ic_0 (?_ : hp_G _ _ _ _ _ _ _ _ _ 67 _ _ _)
    refine hp_goto (tgt := 71) dX9_findRow_67 rfl (?_ : hp_G _ _ _ _ _ _ _ _ _ 71 _ _ _)
    exact hp_sub [0, 1, 2, 3, 4, 6] rfl (tjX9_findRow_71_39 l hf kb ke)
noncomputable def bX9_findRow_39 (h : hp_H) (v0 : Nat) (v2 : Int32) (v3 : Int32) (v4 : Int32) (v5 : Int32) (s : (Int32 × Int32)) : Option ((Int32 × Int32) ⊕ Int32) :=
(fX9_isOf h v4 s.2).bind fun r7 =>
if r7 = 0 then
(if s.1 ≤ 0 then
(some (.inr s.2))
else
(jX9_findRow_54_39 h v0 v2 v3 v4 v5 s.1 s.2))
else
(jX9_findRow_54_39 h v0 v2 v3 v4 v5 s.1 s.2)
set_option maxRecDepth 20000 in
set_option maxHeartbeats 4000000 in
theorem tbX9_findRow_39 (l : Launch) {h : hp_H} {v0 : Nat} {v2 : Int32} {v3 : Int32} {v4 : Int32} {v5 : Int32}  {s : (Int32 × Int32)} {r : ((Int32 × Int32) ⊕ Int32)} (hf : bX9_findRow_39 h  v0 v2 v3 v4 v5 s = some r) {Q : Option Value → hp_H → Prop} (kb : ∀ t, r = .inl t → hp_G l mX9_findRow none 1 false Q false 0 0 39 [(0, .ref v0), (2, .int v2), (3, .int v3), (4, .int v4), (5, .int v5), (6, .int t.1), (7, .int t.2)] [] h) (ke : ∀ x, r = .inr x → hp_G l mX9_findRow none 1 false Q false 0 0 80 [(0, .ref v0), (2, .int v2), (3, .int v3), (4, .int v4), (5, .int v5), (7, .int x)] [] h) : hp_G l mX9_findRow none 1 false Q false 0 0 39 [(0, .ref v0), (2, .int v2), (3, .int v3), (4, .int v4), (5, .int v5), (6, .int s.1), (7, .int s.2)] [] h := by
  unfold bX9_findRow_39 at hf
  refine hp_iload 3 dX9_findRow_39 rfl (?_ : hp_G _ _ _ _ _ _ _ _ _ 41 _ _ _)
  refine hp_iload 6 dX9_findRow_41 rfl (?_ : hp_G _ _ _ _ _ _ _ _ _ 43 _ _ _)
  replace hf := ob_ hf
  obtain ⟨r7, er7, hf⟩ := hf
  refine clX9_126 (as := [.int v4, .int s.2]) (st := []) rfl (kX9_isOf l er7) rfl (by decide) (Nat.le_of_ble_eq_true rfl) dX9_findRow_43 rfl (?_ : hp_G _ _ _ _ _ _ _ _ _ 46 _ _ _)
  refine hp_if_ne (tgt := 54) dX9_findRow_46 rfl (fun c8 => ?_) (fun c8 => (?_ : hp_G _ _ _ _ _ _ _ _ _ 49 _ _ _))
  · replace hf := of_ c8 hf
    exact hp_sub [0, 1, 2, 3, 4, 5, 6] rfl (tjX9_findRow_54_39 l hf kb ke)
  · replace hf := ot_ c8 hf
    refine hp_iload 5 dX9_findRow_49 rfl (?_ : hp_G _ _ _ _ _ _ _ _ _ 51 _ _ _)
    refine hp_if_le (tgt := 80) dX9_findRow_51 rfl (fun c13 => ?_) (fun c13 => (?_ : hp_G _ _ _ _ _ _ _ _ _ 54 _ _ _))
    · replace hf := ot_ c13 hf
      obtain rfl := Option.some.inj hf
      exact hp_sub [0, 1, 2, 3, 4, 6] rfl (ke _ rfl)
    · replace hf := of_ c13 hf
      exact hp_sub [0, 1, 2, 3, 4, 5, 6] rfl (tjX9_findRow_54_39 l hf kb ke)
set_option maxRecDepth 20000 in
set_option maxHeartbeats 4000000 in
theorem tlX9_findRow_39 (l : Launch) {h : hp_H} {v0 : Nat} {v2 : Int32} {v3 : Int32} {v4 : Int32} {v5 : Int32}  (q : Nat) {s : (Int32 × Int32)} {x : Int32} (hf : it_ (bX9_findRow_39 h  v0 v2 v3 v4 v5) q s = some x) {Q : Option Value → hp_H → Prop} (ke : ∀ e, x = e → hp_G l mX9_findRow none 1 false Q false 0 0 80 [(0, .ref v0), (2, .int v2), (3, .int v3), (4, .int v4), (5, .int v5), (7, .int e)] [] h) : hp_G l mX9_findRow none 1 false Q false 0 0 39 [(0, .ref v0), (2, .int v2), (3, .int v3), (4, .int v4), (5, .int v5), (6, .int s.1), (7, .int s.2)] [] h := by
  exact it_rule (f := bX9_findRow_39 h  v0 v2 v3 v4 v5) (fun s => hp_G l mX9_findRow none 1 false Q false 0 0 39 [(0, .ref v0), (2, .int v2), (3, .int v3), (4, .int v4), (5, .int v5), (6, .int s.1), (7, .int s.2)] [] h) (fun x => (∀ e, x = e → hp_G l mX9_findRow none 1 false Q false 0 0 80 [(0, .ref v0), (2, .int v2), (3, .int v3), (4, .int v4), (5, .int v5), (7, .int e)] [] h)) (fun s r h1 h2 h3 => tbX9_findRow_39 l h1 (fun t e => h2 t e) (fun e he => h3 _ he _ rfl)) q s x hf ke
noncomputable def jX9_findRow_135_18 (g : hp_H) (v0 : Nat) (u2 : Int32) (u4 : Int32) (u5 : Int32) (k0 : Int32) : Option ((Int32 × Int32 × Int32 × Int32 × hp_H) ⊕ hp_H) :=
(some (u5 + 1)).bind fun x22 =>
some (.inl (u2, k0, u4, x22, g))
set_option maxRecDepth 20000 in
set_option maxHeartbeats 4000000 in
theorem tjX9_findRow_135_18 (l : Launch) {g : hp_H} {v0 : Nat} {u2 : Int32} {u4 : Int32} {u5 : Int32} {k0 : Int32} {r : ((Int32 × Int32 × Int32 × Int32 × hp_H) ⊕ hp_H)} (hf : jX9_findRow_135_18 g v0 u2 u4 u5 k0 = some r) {Q : Option Value → hp_H → Prop} (kb : ∀ t, r = .inl t → hp_G l mX9_findRow none 1 false Q false 0 0 18 [(0, .ref v0), (2, .int t.1), (3, .int t.2.1), (4, .int t.2.2.1), (5, .int t.2.2.2.1)] [] t.2.2.2.2) (ke : ∀ x, r = .inr x → hp_G l mX9_findRow none 1 false Q false 0 0 142 [] [] x) : hp_G l mX9_findRow none 1 false Q false 0 0 135 [(0, .ref v0), (2, .int u2), (4, .int u4), (5, .int u5)] [.int k0] g := by
  unfold jX9_findRow_135_18 at hf
  refine hp_istore_n (lv' := [(3, .int k0), (0, .ref v0), (2, .int u2), (4, .int u4), (5, .int u5)]) dX9_findRow_135 rfl (Nat.le_of_ble_eq_true rfl) rfl (?_ : hp_G _ _ _ _ _ _ _ _ _ 136 _ _ _)
  replace hf := ob_ hf
  obtain ⟨x22, ex22, hf⟩ := hf
  refine hp_iinc (v := x22) (lv' := [(5, .int x22), (3, .int k0), (0, .ref v0), (2, .int u2), (4, .int u4)]) 4 dX9_findRow_136 rfl (hp_inc ic_1 ex22) (Nat.le_of_ble_eq_true rfl) rfl (?_ : hp_G _ _ _ _ _ _ _ _ _ 139 _ _ _)
  refine hp_goto (tgt := 18) dX9_findRow_139 rfl (?_ : hp_G _ _ _ _ _ _ _ _ _ 18 _ _ _)
  obtain rfl := Option.some.inj hf
  exact hp_sub [2, 3, 1, 4, 0] rfl (kb _ rfl)
noncomputable def bX9_findRow_18 (v0 : Nat) (s : (Int32 × Int32 × Int32 × Int32 × hp_H)) : Option ((Int32 × Int32 × Int32 × Int32 × hp_H) ⊕ hp_H) :=
(gi_ s.2.2.2.2 v0 8 5).bind fun x3 =>
if x3 ≤ s.2.2.2.1 then
(some (.inr s.2.2.2.2))
else
((dv_ s.1 s.2.1).bind fun x5 =>
(rm_ s.1 s.2.1).bind fun x6 =>
(it_ (bX9_findRow_39 s.2.2.2.2 v0 x6 s.2.1 s.2.2.1 s.2.2.2.1) fu_ (x5, 0)).bind fun x14 =>
(gq_ s.2.2.2.2 v0 8 22).bind fun x15 =>
(ax_ s.2.2.2.2 x15 s.2.2.2.1 x14).bind fun h16 =>
(gq_ h16 v0 8 23).bind fun x17 =>
(ax_ h16 x17 x14 s.2.2.2.1).bind fun h18 =>
(some (s.2.2.1 ||| ((1 : Int32) <<< (x14 &&& 31)))).bind fun x19 =>
(gi_ h18 v0 8 5).bind fun x20 =>
if (x20 - s.2.2.2.1) - 1 ≤ 1 then
(jX9_findRow_135_18 h18 v0 x6 x19 s.2.2.2.1 1)
else
((gi_ h18 v0 8 5).bind fun x23 =>
(dv_ s.2.1 ((x23 - s.2.2.2.1) - 1)).bind fun x24 =>
jX9_findRow_135_18 h18 v0 x6 x19 s.2.2.2.1 x24))
set_option maxRecDepth 20000 in
set_option maxHeartbeats 4000000 in
theorem tbX9_findRow_18 (l : Launch) {v0 : Nat}  {s : (Int32 × Int32 × Int32 × Int32 × hp_H)} {r : ((Int32 × Int32 × Int32 × Int32 × hp_H) ⊕ hp_H)} (hf : bX9_findRow_18  v0 s = some r) {Q : Option Value → hp_H → Prop} (kb : ∀ t, r = .inl t → hp_G l mX9_findRow none 1 false Q false 0 0 18 [(0, .ref v0), (2, .int t.1), (3, .int t.2.1), (4, .int t.2.2.1), (5, .int t.2.2.2.1)] [] t.2.2.2.2) (ke : ∀ x, r = .inr x → hp_G l mX9_findRow none 1 false Q false 0 0 142 [] [] x) : hp_G l mX9_findRow none 1 false Q false 0 0 18 [(0, .ref v0), (2, .int s.1), (3, .int s.2.1), (4, .int s.2.2.1), (5, .int s.2.2.2.1)] [] s.2.2.2.2 := by
  unfold bX9_findRow_18 at hf
  refine hp_iload 4 dX9_findRow_18 rfl (?_ : hp_G _ _ _ _ _ _ _ _ _ 20 _ _ _)
  refine hp_aload_n 0 dX9_findRow_20 rfl rfl (?_ : hp_G _ _ _ _ _ _ _ _ _ 21 _ _ _)
  replace hf := ob_ hf
  obtain ⟨x3, ex3, hf⟩ := hf
  refine fgX9_71 rfl dX9_findRow_21 ex3 (?_ : hp_G _ _ _ _ _ _ _ _ _ 24 _ _ _)
  refine hp_icmp_ge (tgt := 142) dX9_findRow_24 rfl (fun c4 => ?_) (fun c4 => (?_ : hp_G _ _ _ _ _ _ _ _ _ 27 _ _ _))
  · replace hf := ot_ c4 hf
    obtain rfl := Option.some.inj hf
    exact hp_sub [] rfl (ke _ rfl)
  · replace hf := of_ c4 hf
    refine hp_iload_n 1 dX9_findRow_27 rfl rfl (?_ : hp_G _ _ _ _ _ _ _ _ _ 28 _ _ _)
    refine hp_iload_n 2 dX9_findRow_28 rfl rfl (?_ : hp_G _ _ _ _ _ _ _ _ _ 29 _ _ _)
    replace hf := ob_ hf
    obtain ⟨x5, ex5, hf⟩ := hf
    refine hp_idiv dX9_findRow_29 ex5 (?_ : hp_G _ _ _ _ _ _ _ _ _ 30 _ _ _)
    refine hp_istore (lv' := [(6, .int x5), (0, .ref v0), (2, .int s.1), (3, .int s.2.1), (4, .int s.2.2.1), (5, .int s.2.2.2.1)]) dX9_findRow_30 (Nat.le_of_ble_eq_true rfl) rfl (?_ : hp_G _ _ _ _ _ _ _ _ _ 32 _ _ _)
    refine hp_iload_n 2 dX9_findRow_32 rfl rfl (?_ : hp_G _ _ _ _ _ _ _ _ _ 33 _ _ _)
    refine hp_iload_n 3 dX9_findRow_33 rfl rfl (?_ : hp_G _ _ _ _ _ _ _ _ _ 34 _ _ _)
    replace hf := ob_ hf
    obtain ⟨x6, ex6, hf⟩ := hf
    refine hp_irem dX9_findRow_34 ex6 (?_ : hp_G _ _ _ _ _ _ _ _ _ 35 _ _ _)
    refine hp_istore_n (lv' := [(2, .int x6), (6, .int x5), (0, .ref v0), (3, .int s.2.1), (4, .int s.2.2.1), (5, .int s.2.2.2.1)]) dX9_findRow_35 rfl (Nat.le_of_ble_eq_true rfl) rfl (?_ : hp_G _ _ _ _ _ _ _ _ _ 36 _ _ _)
    refine hp_iconst (v := 0) dX9_findRow_36 ic_0 (?_ : hp_G _ _ _ _ _ _ _ _ _ 37 _ _ _)
    refine hp_istore (lv' := [(7, .int 0), (2, .int x6), (6, .int x5), (0, .ref v0), (3, .int s.2.1), (4, .int s.2.2.1), (5, .int s.2.2.2.1)]) dX9_findRow_37 (Nat.le_of_ble_eq_true rfl) rfl (?_ : hp_G _ _ _ _ _ _ _ _ _ 39 _ _ _)
    replace hf := ob_ hf
    obtain ⟨x14, ex14, hf⟩ := hf
    refine hp_sub [3, 1, 4, 5, 6, 2, 0] rfl ?_
    refine tlX9_findRow_39 l fu_ ex14 (fun y hy => ?_)
    obtain rfl := hy
    refine hp_aload_n 0 dX9_findRow_80 rfl rfl (?_ : hp_G _ _ _ _ _ _ _ _ _ 81 _ _ _)
    replace hf := ob_ hf
    obtain ⟨x15, ex15, hf⟩ := hf
    refine fgX9_43 rfl dX9_findRow_81 ex15 (?_ : hp_G _ _ _ _ _ _ _ _ _ 84 _ _ _)
    refine hp_iload 4 dX9_findRow_84 rfl (?_ : hp_G _ _ _ _ _ _ _ _ _ 86 _ _ _)
    refine hp_iload 5 dX9_findRow_86 rfl (?_ : hp_G _ _ _ _ _ _ _ _ _ 88 _ _ _)
    replace hf := ob_ hf
    obtain ⟨h16, eh16, hf⟩ := hf
    refine hp_iastore dX9_findRow_88 eh16 (?_ : hp_G _ _ _ _ _ _ _ _ _ 89 _ _ _)
    refine hp_aload_n 0 dX9_findRow_89 rfl rfl (?_ : hp_G _ _ _ _ _ _ _ _ _ 90 _ _ _)
    replace hf := ob_ hf
    obtain ⟨x17, ex17, hf⟩ := hf
    refine fgX9_46 rfl dX9_findRow_90 ex17 (?_ : hp_G _ _ _ _ _ _ _ _ _ 93 _ _ _)
    refine hp_iload 5 dX9_findRow_93 rfl (?_ : hp_G _ _ _ _ _ _ _ _ _ 95 _ _ _)
    refine hp_iload 4 dX9_findRow_95 rfl (?_ : hp_G _ _ _ _ _ _ _ _ _ 97 _ _ _)
    replace hf := ob_ hf
    obtain ⟨h18, eh18, hf⟩ := hf
    refine hp_iastore dX9_findRow_97 eh18 (?_ : hp_G _ _ _ _ _ _ _ _ _ 98 _ _ _)
    refine hp_iload 3 dX9_findRow_98 rfl (?_ : hp_G _ _ _ _ _ _ _ _ _ 100 _ _ _)
    refine hp_iconst (v := 1) dX9_findRow_100 ic_1 (?_ : hp_G _ _ _ _ _ _ _ _ _ 101 _ _ _)
    refine hp_iload 5 dX9_findRow_101 rfl (?_ : hp_G _ _ _ _ _ _ _ _ _ 103 _ _ _)
    refine hp_ishl dX9_findRow_103 (?_ : hp_G _ _ _ _ _ _ _ _ _ 104 _ _ _)
    refine hp_ior dX9_findRow_104 (?_ : hp_G _ _ _ _ _ _ _ _ _ 105 _ _ _)
    replace hf := ob_ hf
    obtain ⟨x19, ex19, hf⟩ := hf
    refine hp_nmi ex19 ?_
    refine hp_istore (lv' := [(4, .int x19), (0, .ref v0), (2, .int x6), (3, .int s.2.1), (5, .int s.2.2.2.1), (7, .int x14)]) dX9_findRow_105 (Nat.le_of_ble_eq_true rfl) rfl (?_ : hp_G _ _ _ _ _ _ _ _ _ 107 _ _ _)
    refine hp_aload_n 1 dX9_findRow_107 rfl rfl (?_ : hp_G _ _ _ _ _ _ _ _ _ 108 _ _ _)
    replace hf := ob_ hf
    obtain ⟨x20, ex20, hf⟩ := hf
    refine fgX9_71 rfl dX9_findRow_108 ex20 (?_ : hp_G _ _ _ _ _ _ _ _ _ 111 _ _ _)
    refine hp_iload 4 dX9_findRow_111 rfl (?_ : hp_G _ _ _ _ _ _ _ _ _ 113 _ _ _)
    refine hp_isub dX9_findRow_113 (?_ : hp_G _ _ _ _ _ _ _ _ _ 114 _ _ _)
    refine hp_iconst (v := 1) dX9_findRow_114 ic_1 (?_ : hp_G _ _ _ _ _ _ _ _ _ 115 _ _ _)
    refine hp_isub dX9_findRow_115 (?_ : hp_G _ _ _ _ _ _ _ _ _ 116 _ _ _)
    refine hp_iconst (v := 1) dX9_findRow_116 ic_1 (?_ : hp_G _ _ _ _ _ _ _ _ _ 117 _ _ _)
    refine hp_icmp_le (tgt := 134) dX9_findRow_117 rfl (fun c21 => ?_) (fun c21 => (?_ : hp_G _ _ _ _ _ _ _ _ _ 120 _ _ _))
    · replace hf := ot_ c21 hf
      refine hp_iconst (v := 1) dX9_findRow_134 ic_1 (?_ : hp_G _ _ _ _ _ _ _ _ _ 135 _ _ _)
      exact hp_sub [1, 2, 0, 4] rfl (tjX9_findRow_135_18 l hf kb ke)
    · replace hf := of_ c21 hf
      refine hp_iload_n 3 dX9_findRow_120 rfl rfl (?_ : hp_G _ _ _ _ _ _ _ _ _ 121 _ _ _)
      refine hp_aload_n 1 dX9_findRow_121 rfl rfl (?_ : hp_G _ _ _ _ _ _ _ _ _ 122 _ _ _)
      replace hf := ob_ hf
      obtain ⟨x23, ex23, hf⟩ := hf
      refine fgX9_71 rfl dX9_findRow_122 ex23 (?_ : hp_G _ _ _ _ _ _ _ _ _ 125 _ _ _)
      refine hp_iload 4 dX9_findRow_125 rfl (?_ : hp_G _ _ _ _ _ _ _ _ _ 127 _ _ _)
      refine hp_isub dX9_findRow_127 (?_ : hp_G _ _ _ _ _ _ _ _ _ 128 _ _ _)
      refine hp_iconst (v := 1) dX9_findRow_128 ic_1 (?_ : hp_G _ _ _ _ _ _ _ _ _ 129 _ _ _)
      refine hp_isub dX9_findRow_129 (?_ : hp_G _ _ _ _ _ _ _ _ _ 130 _ _ _)
      replace hf := ob_ hf
      obtain ⟨x24, ex24, hf⟩ := hf
      refine hp_idiv dX9_findRow_130 ex24 (?_ : hp_G _ _ _ _ _ _ _ _ _ 131 _ _ _)
      refine hp_goto (tgt := 135) dX9_findRow_131 rfl (?_ : hp_G _ _ _ _ _ _ _ _ _ 135 _ _ _)
      exact hp_sub [1, 2, 0, 4] rfl (tjX9_findRow_135_18 l hf kb ke)
set_option maxRecDepth 20000 in
set_option maxHeartbeats 4000000 in
theorem tlX9_findRow_18 (l : Launch) {v0 : Nat}  (q : Nat) {s : (Int32 × Int32 × Int32 × Int32 × hp_H)} {x : hp_H} (hf : it_ (bX9_findRow_18  v0) q s = some x) {Q : Option Value → hp_H → Prop} (ke : ∀ e, x = e → hp_G l mX9_findRow none 1 false Q false 0 0 142 [] [] e) : hp_G l mX9_findRow none 1 false Q false 0 0 18 [(0, .ref v0), (2, .int s.1), (3, .int s.2.1), (4, .int s.2.2.1), (5, .int s.2.2.2.1)] [] s.2.2.2.2 := by
  exact it_rule (f := bX9_findRow_18  v0) (fun s => hp_G l mX9_findRow none 1 false Q false 0 0 18 [(0, .ref v0), (2, .int s.1), (3, .int s.2.1), (4, .int s.2.2.1), (5, .int s.2.2.2.1)] [] s.2.2.2.2) (fun x => (∀ e, x = e → hp_G l mX9_findRow none 1 false Q false 0 0 142 [] [] e)) (fun s r h1 h2 h3 => tbX9_findRow_18 l h1 (fun t e => h2 t e) (fun e he => h3 _ he _ rfl)) q s x hf ke
noncomputable def fX9_findRow (h : hp_H) (a0 : Nat) (p1 : Int32) : Option hp_H :=
(gi_ h a0 8 5).bind fun x1 =>
(fX9_ordersOf h (x1 - 1)).bind fun r2 =>
(it_ (bX9_findRow_18  a0) fu_ (p1, r2, 0, 0, h)).bind fun x25 =>
some x25
set_option maxRecDepth 20000 in
set_option maxHeartbeats 4000000 in
theorem tX9_findRow (l : Launch) {h : hp_H} {a0 : Nat} {p1 : Int32} {r : hp_H} (hf : fX9_findRow h a0 p1 = some r) {Q : Option Value → hp_H → Prop} (kr : Q (none) r) : hp_G l mX9_findRow none 1 false Q false 0 0 0 [(0, .ref a0), (1, .int p1)] [] h := by
  unfold fX9_findRow at hf
  refine hp_iload_n 1 dX9_findRow_0 rfl rfl (?_ : hp_G _ _ _ _ _ _ _ _ _ 1 _ _ _)
  refine hp_istore_n (lv' := [(2, .int p1), (0, .ref a0), (1, .int p1)]) dX9_findRow_1 rfl (Nat.le_of_ble_eq_true rfl) rfl (?_ : hp_G _ _ _ _ _ _ _ _ _ 2 _ _ _)
  refine hp_aload_n 1 dX9_findRow_2 rfl rfl (?_ : hp_G _ _ _ _ _ _ _ _ _ 3 _ _ _)
  replace hf := ob_ hf
  obtain ⟨x1, ex1, hf⟩ := hf
  refine fgX9_71 rfl dX9_findRow_3 ex1 (?_ : hp_G _ _ _ _ _ _ _ _ _ 6 _ _ _)
  refine hp_iconst (v := 1) dX9_findRow_6 ic_1 (?_ : hp_G _ _ _ _ _ _ _ _ _ 7 _ _ _)
  refine hp_isub dX9_findRow_7 (?_ : hp_G _ _ _ _ _ _ _ _ _ 8 _ _ _)
  replace hf := ob_ hf
  obtain ⟨r2, er2, hf⟩ := hf
  refine clX9_186 (as := [.int (x1 - 1)]) (st := []) rfl (kX9_ordersOf l er2) rfl (by decide) (Nat.le_of_ble_eq_true rfl) dX9_findRow_8 rfl (?_ : hp_G _ _ _ _ _ _ _ _ _ 11 _ _ _)
  refine hp_istore_n (lv' := [(3, .int r2), (2, .int p1), (0, .ref a0), (1, .int p1)]) dX9_findRow_11 rfl (Nat.le_of_ble_eq_true rfl) rfl (?_ : hp_G _ _ _ _ _ _ _ _ _ 12 _ _ _)
  refine hp_iconst (v := 0) dX9_findRow_12 ic_0 (?_ : hp_G _ _ _ _ _ _ _ _ _ 13 _ _ _)
  refine hp_istore (lv' := [(4, .int 0), (3, .int r2), (2, .int p1), (0, .ref a0), (1, .int p1)]) dX9_findRow_13 (Nat.le_of_ble_eq_true rfl) rfl (?_ : hp_G _ _ _ _ _ _ _ _ _ 15 _ _ _)
  refine hp_iconst (v := 0) dX9_findRow_15 ic_0 (?_ : hp_G _ _ _ _ _ _ _ _ _ 16 _ _ _)
  refine hp_istore (lv' := [(5, .int 0), (4, .int 0), (3, .int r2), (2, .int p1), (0, .ref a0), (1, .int p1)]) dX9_findRow_16 (Nat.le_of_ble_eq_true rfl) rfl (?_ : hp_G _ _ _ _ _ _ _ _ _ 18 _ _ _)
  replace hf := ob_ hf
  obtain ⟨x25, ex25, hf⟩ := hf
  refine hp_sub [4, 3, 2, 1, 0] rfl ?_
  refine tlX9_findRow_18 l fu_ ex25 (fun y hy => ?_)
  obtain rfl := hy
  obtain rfl := Option.some.inj hf
  exact hp_vret kr (fun z => z) rfl dX9_findRow_142
theorem kX9_findRow (l : Launch) {h : hp_H} {a0 : Nat} {p1 : Int32} {r : hp_H} (hf : fX9_findRow h a0 p1 = some r) : hp_Cn l yX9_findRow mX9_findRow 1 false 0 0 [.ref a0, .int p1] h (fun v h2 => none = v ∧ r = h2) :=
  hp_of (by decide) rfl (fun z => by cases z) (Nat.le_of_ble_eq_true rfl) (tX9_findRow l hf ⟨rfl, rfl⟩)
noncomputable def bX9_areAhead_2 (h : hp_H) (v0 : Nat) (v1 : Int32) (v2 : Int32) (s : Int32) : Option (Int32 ⊕ (Unit ⊕ Int32)) :=
if v2 ≤ s then
(some (.inr (.inl ())))
else
((gq_ h v0 8 23).bind fun x2 =>
(gq_ h v0 8 4).bind fun x3 =>
(al_ h x3 (v1 + (2 * s))).bind fun x4 =>
(al_ h x2 x4).bind fun x5 =>
(gq_ h v0 8 23).bind fun x6 =>
(gq_ h v0 8 4).bind fun x7 =>
(al_ h x7 ((v1 + (2 * s)) + 1)).bind fun x8 =>
(al_ h x6 x8).bind fun x9 =>
if x5 ≤ x9 then
((some (s + 1)).bind fun x11 =>
some (.inl x11))
else
(some (.inr (.inr 0))))
set_option maxRecDepth 20000 in
set_option maxHeartbeats 4000000 in
theorem tbX9_areAhead_2 (l : Launch) {h : hp_H} {v0 : Nat} {v1 : Int32} {v2 : Int32}  {s : Int32} {r : (Int32 ⊕ (Unit ⊕ Int32))} (hf : bX9_areAhead_2 h  v0 v1 v2 s = some r) {Q : Option Value → hp_H → Prop} (kb : ∀ t, r = .inl t → hp_G l mX9_areAhead none 0 false Q false 0 0 2 [(0, .ref v0), (1, .int v1), (2, .int v2), (3, .int t)] [] h) (ke : ∀ x, r = .inr (.inl x) → hp_G l mX9_areAhead none 0 false Q false 0 0 50 [] [] h) (kr : ∀ z, r = .inr (.inr z) → Q (some (.int z)) h) : hp_G l mX9_areAhead none 0 false Q false 0 0 2 [(0, .ref v0), (1, .int v1), (2, .int v2), (3, .int s)] [] h := by
  unfold bX9_areAhead_2 at hf
  refine hp_iload_n 3 dX9_areAhead_2 rfl rfl (?_ : hp_G _ _ _ _ _ _ _ _ _ 3 _ _ _)
  refine hp_iload_n 2 dX9_areAhead_3 rfl rfl (?_ : hp_G _ _ _ _ _ _ _ _ _ 4 _ _ _)
  refine hp_icmp_ge (tgt := 50) dX9_areAhead_4 rfl (fun c1 => ?_) (fun c1 => (?_ : hp_G _ _ _ _ _ _ _ _ _ 7 _ _ _))
  · replace hf := ot_ c1 hf
    obtain rfl := Option.some.inj hf
    exact hp_sub [] rfl (ke _ rfl)
  · replace hf := of_ c1 hf
    refine hp_aload_n 0 dX9_areAhead_7 rfl rfl (?_ : hp_G _ _ _ _ _ _ _ _ _ 8 _ _ _)
    replace hf := ob_ hf
    obtain ⟨x2, ex2, hf⟩ := hf
    refine fgX9_46 rfl dX9_areAhead_8 ex2 (?_ : hp_G _ _ _ _ _ _ _ _ _ 11 _ _ _)
    refine hp_aload_n 0 dX9_areAhead_11 rfl rfl (?_ : hp_G _ _ _ _ _ _ _ _ _ 12 _ _ _)
    replace hf := ob_ hf
    obtain ⟨x3, ex3, hf⟩ := hf
    refine fgX9_16 rfl dX9_areAhead_12 ex3 (?_ : hp_G _ _ _ _ _ _ _ _ _ 15 _ _ _)
    refine hp_iload_n 1 dX9_areAhead_15 rfl rfl (?_ : hp_G _ _ _ _ _ _ _ _ _ 16 _ _ _)
    refine hp_iconst (v := 2) dX9_areAhead_16 ic_2 (?_ : hp_G _ _ _ _ _ _ _ _ _ 17 _ _ _)
    refine hp_iload_n 3 dX9_areAhead_17 rfl rfl (?_ : hp_G _ _ _ _ _ _ _ _ _ 18 _ _ _)
    refine hp_imul dX9_areAhead_18 (?_ : hp_G _ _ _ _ _ _ _ _ _ 19 _ _ _)
    refine hp_iadd dX9_areAhead_19 (?_ : hp_G _ _ _ _ _ _ _ _ _ 20 _ _ _)
    replace hf := ob_ hf
    obtain ⟨x4, ex4, hf⟩ := hf
    refine hp_iaload dX9_areAhead_20 ex4 (?_ : hp_G _ _ _ _ _ _ _ _ _ 21 _ _ _)
    replace hf := ob_ hf
    obtain ⟨x5, ex5, hf⟩ := hf
    refine hp_iaload dX9_areAhead_21 ex5 (?_ : hp_G _ _ _ _ _ _ _ _ _ 22 _ _ _)
    refine hp_aload_n 0 dX9_areAhead_22 rfl rfl (?_ : hp_G _ _ _ _ _ _ _ _ _ 23 _ _ _)
    replace hf := ob_ hf
    obtain ⟨x6, ex6, hf⟩ := hf
    refine fgX9_46 rfl dX9_areAhead_23 ex6 (?_ : hp_G _ _ _ _ _ _ _ _ _ 26 _ _ _)
    refine hp_aload_n 0 dX9_areAhead_26 rfl rfl (?_ : hp_G _ _ _ _ _ _ _ _ _ 27 _ _ _)
    replace hf := ob_ hf
    obtain ⟨x7, ex7, hf⟩ := hf
    refine fgX9_16 rfl dX9_areAhead_27 ex7 (?_ : hp_G _ _ _ _ _ _ _ _ _ 30 _ _ _)
    refine hp_iload_n 1 dX9_areAhead_30 rfl rfl (?_ : hp_G _ _ _ _ _ _ _ _ _ 31 _ _ _)
    refine hp_iconst (v := 2) dX9_areAhead_31 ic_2 (?_ : hp_G _ _ _ _ _ _ _ _ _ 32 _ _ _)
    refine hp_iload_n 3 dX9_areAhead_32 rfl rfl (?_ : hp_G _ _ _ _ _ _ _ _ _ 33 _ _ _)
    refine hp_imul dX9_areAhead_33 (?_ : hp_G _ _ _ _ _ _ _ _ _ 34 _ _ _)
    refine hp_iadd dX9_areAhead_34 (?_ : hp_G _ _ _ _ _ _ _ _ _ 35 _ _ _)
    refine hp_iconst (v := 1) dX9_areAhead_35 ic_1 (?_ : hp_G _ _ _ _ _ _ _ _ _ 36 _ _ _)
    refine hp_iadd dX9_areAhead_36 (?_ : hp_G _ _ _ _ _ _ _ _ _ 37 _ _ _)
    replace hf := ob_ hf
    obtain ⟨x8, ex8, hf⟩ := hf
    refine hp_iaload dX9_areAhead_37 ex8 (?_ : hp_G _ _ _ _ _ _ _ _ _ 38 _ _ _)
    replace hf := ob_ hf
    obtain ⟨x9, ex9, hf⟩ := hf
    refine hp_iaload dX9_areAhead_38 ex9 (?_ : hp_G _ _ _ _ _ _ _ _ _ 39 _ _ _)
    refine hp_icmp_le (tgt := 44) dX9_areAhead_39 rfl (fun c10 => ?_) (fun c10 => (?_ : hp_G _ _ _ _ _ _ _ _ _ 42 _ _ _))
    · replace hf := ot_ c10 hf
      replace hf := ob_ hf
      obtain ⟨x11, ex11, hf⟩ := hf
      refine hp_iinc (v := x11) (lv' := [(3, .int x11), (0, .ref v0), (1, .int v1), (2, .int v2)]) 3 dX9_areAhead_44 rfl (hp_inc ic_1 ex11) (Nat.le_of_ble_eq_true rfl) rfl (?_ : hp_G _ _ _ _ _ _ _ _ _ 47 _ _ _)
      refine hp_goto (tgt := 2) dX9_areAhead_47 rfl (?_ : hp_G _ _ _ _ _ _ _ _ _ 2 _ _ _)
      obtain rfl := Option.some.inj hf
      exact hp_sub [1, 2, 3, 0] rfl (kb _ rfl)
    · replace hf := of_ c10 hf
      refine hp_iconst (v := 0) dX9_areAhead_42 ic_0 (?_ : hp_G _ _ _ _ _ _ _ _ _ 43 _ _ _)
      obtain rfl := Option.some.inj hf
      exact hp_zret (kr _ rfl) (fun z => z) rfl (by decide) dX9_areAhead_43
set_option maxRecDepth 20000 in
set_option maxHeartbeats 4000000 in
theorem tlX9_areAhead_2 (l : Launch) {h : hp_H} {v0 : Nat} {v1 : Int32} {v2 : Int32}  (q : Nat) {s : Int32} {x : (Unit ⊕ Int32)} (hf : it_ (bX9_areAhead_2 h  v0 v1 v2) q s = some x) {Q : Option Value → hp_H → Prop} (ke : ∀ e, x = .inl e → hp_G l mX9_areAhead none 0 false Q false 0 0 50 [] [] h) (kr : ∀ z, x = .inr z → Q (some (.int z)) h) : hp_G l mX9_areAhead none 0 false Q false 0 0 2 [(0, .ref v0), (1, .int v1), (2, .int v2), (3, .int s)] [] h := by
  exact it_rule (f := bX9_areAhead_2 h  v0 v1 v2) (fun s => hp_G l mX9_areAhead none 0 false Q false 0 0 2 [(0, .ref v0), (1, .int v1), (2, .int v2), (3, .int s)] [] h) (fun x => (∀ e, x = .inl e → hp_G l mX9_areAhead none 0 false Q false 0 0 50 [] [] h) ∧ (∀ z, x = .inr z → Q (some (.int z)) h)) (fun s r h1 h2 h3 => tbX9_areAhead_2 l h1 (fun t e => h2 t e) (fun e he => (h3 _ he).1 _ rfl) (fun z he => (h3 _ he).2 _ rfl)) q s x hf ⟨ke, kr⟩
noncomputable def fX9_areAhead (h : hp_H) (a0 : Nat) (p1 : Int32) (p2 : Int32) : Option Int32 :=
(it_ (bX9_areAhead_2 h a0 p1 p2) fu_ 0).bind fun x12 =>
match x12 with
| .inl y13 => (some 1)
| .inr z14 => some z14
set_option maxRecDepth 20000 in
set_option maxHeartbeats 4000000 in
theorem tX9_areAhead (l : Launch) {h : hp_H} {a0 : Nat} {p1 : Int32} {p2 : Int32} {r : Int32} (hf : fX9_areAhead h a0 p1 p2 = some r) {Q : Option Value → hp_H → Prop} (kr : Q (some (.int r)) h) : hp_G l mX9_areAhead none 0 false Q false 0 0 0 [(0, .ref a0), (1, .int p1), (2, .int p2)] [] h := by
  unfold fX9_areAhead at hf
  refine hp_iconst (v := 0) dX9_areAhead_0 ic_0 (?_ : hp_G _ _ _ _ _ _ _ _ _ 1 _ _ _)
  refine hp_istore_n (lv' := [(3, .int 0), (0, .ref a0), (1, .int p1), (2, .int p2)]) dX9_areAhead_1 rfl (Nat.le_of_ble_eq_true rfl) rfl (?_ : hp_G _ _ _ _ _ _ _ _ _ 2 _ _ _)
  replace hf := ob_ hf
  obtain ⟨x12, ex12, hf⟩ := hf
  refine hp_sub [1, 2, 3, 0] rfl ?_
  rcases x12 with y13 | z14
  · (try dsimp only at hf)
    refine tlX9_areAhead_2 l fu_ ex12 (fun w hw => ?_) (fun w hw => (by cases hw))
    obtain rfl := Sum.inl.inj hw
    refine hp_iconst (v := 1) dX9_areAhead_50 ic_1 (?_ : hp_G _ _ _ _ _ _ _ _ _ 51 _ _ _)
    obtain rfl := Option.some.inj hf
    exact hp_zret kr (fun z => z) rfl (by decide) dX9_areAhead_51
  · (try dsimp only at hf)
    refine tlX9_areAhead_2 l fu_ ex12 (fun w hw => (by cases hw)) (fun w hw => ?_)
    obtain rfl := Sum.inr.inj hw
    obtain rfl := Option.some.inj hf
    exact kr
theorem kX9_areAhead (l : Launch) {h : hp_H} {a0 : Nat} {p1 : Int32} {p2 : Int32} {r : Int32} (hf : fX9_areAhead h a0 p1 p2 = some r) : hp_Cn l yX9_areAhead mX9_areAhead 0 false 0 0 [.ref a0, .int p1, .int p2] h (fun v h2 => some (.int r) = v ∧ h = h2) :=
  hp_of (by decide) rfl (fun z => by cases z) (Nat.le_of_ble_eq_true rfl) (tX9_areAhead l hf ⟨rfl, rfl⟩)
noncomputable def jX9_orders_171_111 (g : hp_H) (v0 : Nat) (v4 : Int32) (v5 : Int32) (v7 : Int32) (u8 : Int32) (u9 : Int32) (u10 : Int32)  : Option ((Int32 × Int32 × Int32 × hp_H) ⊕ (Int32 × Int32 × hp_H)) :=
(some (u10 + 1)).bind fun x27 =>
some (.inl (u8, u9, x27, g))
set_option maxRecDepth 20000 in
set_option maxHeartbeats 4000000 in
theorem tjX9_orders_171_111 (l : Launch) {g : hp_H} {v0 : Nat} {v4 : Int32} {v5 : Int32} {v7 : Int32} {u8 : Int32} {u9 : Int32} {u10 : Int32}  {r : ((Int32 × Int32 × Int32 × hp_H) ⊕ (Int32 × Int32 × hp_H))} (hf : jX9_orders_171_111 g v0 v4 v5 v7 u8 u9 u10 = some r) {Q : Option Value → hp_H → Prop} (kb : ∀ t, r = .inl t → hp_G l mX9_orders none 3 false Q false 0 0 111 [(0, .ref v0), (4, .int v4), (5, .int v5), (7, .int v7), (8, .int t.1), (9, .int t.2.1), (10, .int t.2.2.1)] [] t.2.2.2) (ke : ∀ x, r = .inr x → hp_G l mX9_orders none 3 false Q false 0 0 177 [(5, .int v5), (8, .int x.1), (9, .int x.2.1)] [] x.2.2) : hp_G l mX9_orders none 3 false Q false 0 0 171 [(0, .ref v0), (4, .int v4), (5, .int v5), (7, .int v7), (8, .int u8), (9, .int u9), (10, .int u10)] [] g := by
  unfold jX9_orders_171_111 at hf
  replace hf := ob_ hf
  obtain ⟨x27, ex27, hf⟩ := hf
  refine hp_iinc (v := x27) (lv' := [(10, .int x27), (0, .ref v0), (4, .int v4), (5, .int v5), (7, .int v7), (8, .int u8), (9, .int u9)]) 6 dX9_orders_171 rfl (hp_inc ic_1 ex27) (Nat.le_of_ble_eq_true rfl) rfl (?_ : hp_G _ _ _ _ _ _ _ _ _ 174 _ _ _)
  refine hp_goto (tgt := 111) dX9_orders_174 rfl (?_ : hp_G _ _ _ _ _ _ _ _ _ 111 _ _ _)
  obtain rfl := Option.some.inj hf
  exact hp_sub [1, 2, 3, 4, 5, 6, 0] rfl (kb _ rfl)
noncomputable def jX9_orders_166_111 (g : hp_H) (v0 : Nat) (v4 : Int32) (v5 : Int32) (v7 : Int32) (u8 : Int32) (u10 : Int32) (k0 : Int32) : Option ((Int32 × Int32 × Int32 × hp_H) ⊕ (Int32 × Int32 × hp_H)) :=
(some (u8 + 1)).bind fun x29 =>
jX9_orders_171_111 g v0 v4 v5 v7 x29 k0 u10
set_option maxRecDepth 20000 in
set_option maxHeartbeats 4000000 in
theorem tjX9_orders_166_111 (l : Launch) {g : hp_H} {v0 : Nat} {v4 : Int32} {v5 : Int32} {v7 : Int32} {u8 : Int32} {u10 : Int32} {k0 : Int32} {r : ((Int32 × Int32 × Int32 × hp_H) ⊕ (Int32 × Int32 × hp_H))} (hf : jX9_orders_166_111 g v0 v4 v5 v7 u8 u10 k0 = some r) {Q : Option Value → hp_H → Prop} (kb : ∀ t, r = .inl t → hp_G l mX9_orders none 3 false Q false 0 0 111 [(0, .ref v0), (4, .int v4), (5, .int v5), (7, .int v7), (8, .int t.1), (9, .int t.2.1), (10, .int t.2.2.1)] [] t.2.2.2) (ke : ∀ x, r = .inr x → hp_G l mX9_orders none 3 false Q false 0 0 177 [(5, .int v5), (8, .int x.1), (9, .int x.2.1)] [] x.2.2) : hp_G l mX9_orders none 3 false Q false 0 0 166 [(0, .ref v0), (4, .int v4), (5, .int v5), (7, .int v7), (8, .int u8), (10, .int u10)] [.int k0] g := by
  unfold jX9_orders_166_111 at hf
  refine hp_istore (lv' := [(9, .int k0), (0, .ref v0), (4, .int v4), (5, .int v5), (7, .int v7), (8, .int u8), (10, .int u10)]) dX9_orders_166 (Nat.le_of_ble_eq_true rfl) rfl (?_ : hp_G _ _ _ _ _ _ _ _ _ 168 _ _ _)
  replace hf := ob_ hf
  obtain ⟨x29, ex29, hf⟩ := hf
  refine hp_iinc (v := x29) (lv' := [(8, .int x29), (9, .int k0), (0, .ref v0), (4, .int v4), (5, .int v5), (7, .int v7), (10, .int u10)]) 5 dX9_orders_168 rfl (hp_inc ic_1 ex29) (Nat.le_of_ble_eq_true rfl) rfl (?_ : hp_G _ _ _ _ _ _ _ _ _ 171 _ _ _)
  exact hp_sub [2, 3, 4, 5, 0, 1, 6] rfl (tjX9_orders_171_111 l hf kb ke)
noncomputable def jX9_orders_164_111 (g : hp_H) (v0 : Nat) (v4 : Int32) (v5 : Int32) (v7 : Int32) (u8 : Int32) (u9 : Int32) (u10 : Int32)  : Option ((Int32 × Int32 × Int32 × hp_H) ⊕ (Int32 × Int32 × hp_H)) :=
jX9_orders_166_111 g v0 v4 v5 v7 u8 u10 u9
set_option maxRecDepth 20000 in
set_option maxHeartbeats 4000000 in
theorem tjX9_orders_164_111 (l : Launch) {g : hp_H} {v0 : Nat} {v4 : Int32} {v5 : Int32} {v7 : Int32} {u8 : Int32} {u9 : Int32} {u10 : Int32}  {r : ((Int32 × Int32 × Int32 × hp_H) ⊕ (Int32 × Int32 × hp_H))} (hf : jX9_orders_164_111 g v0 v4 v5 v7 u8 u9 u10 = some r) {Q : Option Value → hp_H → Prop} (kb : ∀ t, r = .inl t → hp_G l mX9_orders none 3 false Q false 0 0 111 [(0, .ref v0), (4, .int v4), (5, .int v5), (7, .int v7), (8, .int t.1), (9, .int t.2.1), (10, .int t.2.2.1)] [] t.2.2.2) (ke : ∀ x, r = .inr x → hp_G l mX9_orders none 3 false Q false 0 0 177 [(5, .int v5), (8, .int x.1), (9, .int x.2.1)] [] x.2.2) : hp_G l mX9_orders none 3 false Q false 0 0 164 [(0, .ref v0), (4, .int v4), (5, .int v5), (7, .int v7), (8, .int u8), (9, .int u9), (10, .int u10)] [] g := by
  unfold jX9_orders_164_111 at hf
  refine hp_iload 5 dX9_orders_164 rfl (?_ : hp_G _ _ _ _ _ _ _ _ _ 166 _ _ _)
  exact hp_sub [0, 1, 2, 3, 4, 6] rfl (tjX9_orders_166_111 l hf kb ke)
noncomputable def bX9_orders_111 (v0 : Nat) (v4 : Int32) (v5 : Int32) (v7 : Int32) (s : (Int32 × Int32 × Int32 × hp_H)) : Option ((Int32 × Int32 × Int32 × hp_H) ⊕ (Int32 × Int32 × hp_H)) :=
(gi_ s.2.2.2 v0 8 5).bind fun x19 =>
(fX9_ordersOf s.2.2.2 x19).bind fun r20 =>
if r20 ≤ s.2.2.1 then
(some (.inr (s.1, s.2.1, s.2.2.2)))
else
((hg_o s.2.2.2 v0 8).bind fun o22 =>
(fX9_findRow s.2.2.2 v0 s.2.2.1).bind fun r23 =>
(hg_o r23 v0 8).bind fun o24 =>
(fX9_areAhead r23 v0 v7 v4).bind fun r25 =>
if r25 = 0 then
(jX9_orders_171_111 r23 v0 v4 v5 v7 s.1 s.2.1 s.2.2.1)
else
(if s.1 = 0 then
((hg_o r23 v0 8).bind fun o30 =>
(fX9_isPerson r23 v0 v5).bind fun r31 =>
if r31 = 0 then
(jX9_orders_164_111 r23 v0 v4 v5 v7 s.1 s.2.1 s.2.2.1)
else
((gq_ r23 v0 8 22).bind fun x33 =>
(al_ r23 x33 v5).bind fun x34 =>
jX9_orders_166_111 r23 v0 v4 v5 v7 s.1 s.2.2.1 x34))
else
(jX9_orders_164_111 r23 v0 v4 v5 v7 s.1 s.2.1 s.2.2.1)))
set_option maxRecDepth 20000 in
set_option maxHeartbeats 4000000 in
theorem tbX9_orders_111 (l : Launch) {v0 : Nat} {v4 : Int32} {v5 : Int32} {v7 : Int32}  {s : (Int32 × Int32 × Int32 × hp_H)} {r : ((Int32 × Int32 × Int32 × hp_H) ⊕ (Int32 × Int32 × hp_H))} (hf : bX9_orders_111  v0 v4 v5 v7 s = some r) {Q : Option Value → hp_H → Prop} (kb : ∀ t, r = .inl t → hp_G l mX9_orders none 3 false Q false 0 0 111 [(0, .ref v0), (4, .int v4), (5, .int v5), (7, .int v7), (8, .int t.1), (9, .int t.2.1), (10, .int t.2.2.1)] [] t.2.2.2) (ke : ∀ x, r = .inr x → hp_G l mX9_orders none 3 false Q false 0 0 177 [(5, .int v5), (8, .int x.1), (9, .int x.2.1)] [] x.2.2) : hp_G l mX9_orders none 3 false Q false 0 0 111 [(0, .ref v0), (4, .int v4), (5, .int v5), (7, .int v7), (8, .int s.1), (9, .int s.2.1), (10, .int s.2.2.1)] [] s.2.2.2 := by
  unfold bX9_orders_111 at hf
  refine hp_iload 6 dX9_orders_111 rfl (?_ : hp_G _ _ _ _ _ _ _ _ _ 113 _ _ _)
  refine hp_aload_n 0 dX9_orders_113 rfl rfl (?_ : hp_G _ _ _ _ _ _ _ _ _ 114 _ _ _)
  replace hf := ob_ hf
  obtain ⟨x19, ex19, hf⟩ := hf
  refine fgX9_71 rfl dX9_orders_114 ex19 (?_ : hp_G _ _ _ _ _ _ _ _ _ 117 _ _ _)
  replace hf := ob_ hf
  obtain ⟨r20, er20, hf⟩ := hf
  refine clX9_186 (as := [.int x19]) (st := [.int s.2.2.1]) rfl (kX9_ordersOf l er20) rfl (by decide) (Nat.le_of_ble_eq_true rfl) dX9_orders_117 rfl (?_ : hp_G _ _ _ _ _ _ _ _ _ 120 _ _ _)
  refine hp_icmp_ge (tgt := 177) dX9_orders_120 rfl (fun c21 => ?_) (fun c21 => (?_ : hp_G _ _ _ _ _ _ _ _ _ 123 _ _ _))
  · replace hf := ot_ c21 hf
    obtain rfl := Option.some.inj hf
    exact hp_sub [2, 4, 5] rfl (ke _ rfl)
  · replace hf := of_ c21 hf
    refine hp_aload_n 0 dX9_orders_123 rfl rfl (?_ : hp_G _ _ _ _ _ _ _ _ _ 124 _ _ _)
    refine hp_iload 6 dX9_orders_124 rfl (?_ : hp_G _ _ _ _ _ _ _ _ _ 126 _ _ _)
    replace hf := ob_ hf
    obtain ⟨o22, eo22, hf⟩ := hf
    replace hf := ob_ hf
    obtain ⟨r23, er23, hf⟩ := hf
    refine clX9_192 (as := [.int s.2.2.1]) (st := []) rfl (kX9_findRow l er23) rfl (by decide) (Nat.le_of_ble_eq_true rfl) eo22 dX9_orders_126 rfl (?_ : hp_G _ _ _ _ _ _ _ _ _ 129 _ _ _)
    refine hp_aload_n 0 dX9_orders_129 rfl rfl (?_ : hp_G _ _ _ _ _ _ _ _ _ 130 _ _ _)
    refine hp_iload 3 dX9_orders_130 rfl (?_ : hp_G _ _ _ _ _ _ _ _ _ 132 _ _ _)
    refine hp_iload 1 dX9_orders_132 rfl (?_ : hp_G _ _ _ _ _ _ _ _ _ 134 _ _ _)
    replace hf := ob_ hf
    obtain ⟨o24, eo24, hf⟩ := hf
    replace hf := ob_ hf
    obtain ⟨r25, er25, hf⟩ := hf
    refine clX9_195 (as := [.int v7, .int v4]) (st := []) rfl (kX9_areAhead l er25) rfl (by decide) (Nat.le_of_ble_eq_true rfl) eo24 dX9_orders_134 rfl (?_ : hp_G _ _ _ _ _ _ _ _ _ 137 _ _ _)
    refine hp_if_eq (tgt := 171) dX9_orders_137 rfl (fun c26 => ?_) (fun c26 => (?_ : hp_G _ _ _ _ _ _ _ _ _ 140 _ _ _))
    · replace hf := ot_ c26 hf
      exact hp_sub [0, 1, 2, 3, 4, 5, 6] rfl (tjX9_orders_171_111 l hf kb ke)
    · replace hf := of_ c26 hf
      refine hp_iload 4 dX9_orders_140 rfl (?_ : hp_G _ _ _ _ _ _ _ _ _ 142 _ _ _)
      refine hp_if_ne (tgt := 164) dX9_orders_142 rfl (fun c28 => ?_) (fun c28 => (?_ : hp_G _ _ _ _ _ _ _ _ _ 145 _ _ _))
      · replace hf := of_ c28 hf
        exact hp_sub [0, 1, 2, 3, 4, 5, 6] rfl (tjX9_orders_164_111 l hf kb ke)
      · replace hf := ot_ c28 hf
        refine hp_aload_n 0 dX9_orders_145 rfl rfl (?_ : hp_G _ _ _ _ _ _ _ _ _ 146 _ _ _)
        refine hp_iload 2 dX9_orders_146 rfl (?_ : hp_G _ _ _ _ _ _ _ _ _ 148 _ _ _)
        replace hf := ob_ hf
        obtain ⟨o30, eo30, hf⟩ := hf
        replace hf := ob_ hf
        obtain ⟨r31, er31, hf⟩ := hf
        refine clX9_74 (as := [.int v5]) (st := []) rfl (kX9_isPerson l er31) rfl (by decide) (Nat.le_of_ble_eq_true rfl) eo30 dX9_orders_148 rfl (?_ : hp_G _ _ _ _ _ _ _ _ _ 151 _ _ _)
        refine hp_if_eq (tgt := 164) dX9_orders_151 rfl (fun c32 => ?_) (fun c32 => (?_ : hp_G _ _ _ _ _ _ _ _ _ 154 _ _ _))
        · replace hf := ot_ c32 hf
          exact hp_sub [0, 1, 2, 3, 4, 5, 6] rfl (tjX9_orders_164_111 l hf kb ke)
        · replace hf := of_ c32 hf
          refine hp_aload_n 0 dX9_orders_154 rfl rfl (?_ : hp_G _ _ _ _ _ _ _ _ _ 155 _ _ _)
          replace hf := ob_ hf
          obtain ⟨x33, ex33, hf⟩ := hf
          refine fgX9_43 rfl dX9_orders_155 ex33 (?_ : hp_G _ _ _ _ _ _ _ _ _ 158 _ _ _)
          refine hp_iload 2 dX9_orders_158 rfl (?_ : hp_G _ _ _ _ _ _ _ _ _ 160 _ _ _)
          replace hf := ob_ hf
          obtain ⟨x34, ex34, hf⟩ := hf
          refine hp_iaload dX9_orders_160 ex34 (?_ : hp_G _ _ _ _ _ _ _ _ _ 161 _ _ _)
          refine hp_goto (tgt := 166) dX9_orders_161 rfl (?_ : hp_G _ _ _ _ _ _ _ _ _ 166 _ _ _)
          exact hp_sub [0, 1, 2, 3, 4, 6] rfl (tjX9_orders_166_111 l hf kb ke)
set_option maxRecDepth 20000 in
set_option maxHeartbeats 4000000 in
theorem tlX9_orders_111 (l : Launch) {v0 : Nat} {v4 : Int32} {v5 : Int32} {v7 : Int32}  (q : Nat) {s : (Int32 × Int32 × Int32 × hp_H)} {x : (Int32 × Int32 × hp_H)} (hf : it_ (bX9_orders_111  v0 v4 v5 v7) q s = some x) {Q : Option Value → hp_H → Prop} (ke : ∀ e, x = e → hp_G l mX9_orders none 3 false Q false 0 0 177 [(5, .int v5), (8, .int e.1), (9, .int e.2.1)] [] e.2.2) : hp_G l mX9_orders none 3 false Q false 0 0 111 [(0, .ref v0), (4, .int v4), (5, .int v5), (7, .int v7), (8, .int s.1), (9, .int s.2.1), (10, .int s.2.2.1)] [] s.2.2.2 := by
  exact it_rule (f := bX9_orders_111  v0 v4 v5 v7) (fun s => hp_G l mX9_orders none 3 false Q false 0 0 111 [(0, .ref v0), (4, .int v4), (5, .int v5), (7, .int v7), (8, .int s.1), (9, .int s.2.1), (10, .int s.2.2.1)] [] s.2.2.2) (fun x => (∀ e, x = e → hp_G l mX9_orders none 3 false Q false 0 0 177 [(5, .int v5), (8, .int e.1), (9, .int e.2.1)] [] e.2.2)) (fun s r h1 h2 h3 => tbX9_orders_111 l h1 (fun t e => h2 t e) (fun e he => h3 _ he _ rfl)) q s x hf ke
noncomputable def fX9_orders (h : hp_H) (a0 : Nat) (p1 : Int32) (p2 : Int32) (p3 : Int32) (p4 : Int32) (p5 : Int32) : Option (Int32 × hp_H) :=
(pi_ h a0 8 0 0).bind fun h1 =>
(fX9_isSheet h1 p1).bind fun r2 =>
if r2 = 0 then
(some ((-1), h1))
else
((fX9_isSort h1 p2).bind fun r4 =>
if r4 = 0 then
(some ((-2), h1))
else
((fX9_within h1 p4 0 10).bind fun r6 =>
if r6 = 0 then
(some ((-2), h1))
else
((fX9_within h1 p5 (-1) 5).bind fun r8 =>
if r8 = 0 then
(some ((-2), h1))
else
((hg_o h1 a0 8).bind fun o10 =>
(fX9_against h1 a0 p1 p2 p3 (2 * p4)).bind fun r11 =>
if r11 = 0 then
((gi_ h1 a0 8 5).bind fun x13 =>
if x13 = 0 then
(some ((-3), h1))
else
((some ((60 * p1) + p3)).bind fun x15 =>
(hg_o h1 a0 8).bind fun o16 =>
(fX9_refusesTwos h1 a0 x15 p4).bind fun r17 =>
if r17 = 0 then
((it_ (bX9_orders_111  a0 p4 p5 x15) fu_ (0, (-9), 0, h1)).bind fun x35 =>
if p5 = (-1) then
(some (x35.1, x35.2.2))
else
(some (x35.2.1, x35.2.2)))
else
(some ((-1), h1))))
else
((hg_o h1 a0 8).bind fun o37 =>
(fX9_fails h1 a0 r11).bind fun r38 =>
some (r38.1, r38.2))))))
set_option maxRecDepth 20000 in
set_option maxHeartbeats 4000000 in
theorem tX9_orders (l : Launch) {h : hp_H} {a0 : Nat} {p1 : Int32} {p2 : Int32} {p3 : Int32} {p4 : Int32} {p5 : Int32} {r : (Int32 × hp_H)} (hf : fX9_orders h a0 p1 p2 p3 p4 p5 = some r) {Q : Option Value → hp_H → Prop} (kr : Q (some (.int r.1)) r.2) : hp_G l mX9_orders none 3 false Q false 0 0 0 [(0, .ref a0), (1, .int p1), (2, .int p2), (3, .int p3), (4, .int p4), (5, .int p5)] [] h := by
  unfold fX9_orders at hf
  refine hp_aload_n 0 dX9_orders_0 rfl rfl (?_ : hp_G _ _ _ _ _ _ _ _ _ 1 _ _ _)
  refine hp_iconst (v := 0) dX9_orders_1 ic_0 (?_ : hp_G _ _ _ _ _ _ _ _ _ 2 _ _ _)
  replace hf := ob_ hf
  obtain ⟨h1, eh1, hf⟩ := hf
  refine fpX9_61 rfl dX9_orders_2 eh1 (?_ : hp_G _ _ _ _ _ _ _ _ _ 5 _ _ _)
  refine hp_iload_n 1 dX9_orders_5 rfl rfl (?_ : hp_G _ _ _ _ _ _ _ _ _ 6 _ _ _)
  replace hf := ob_ hf
  obtain ⟨r2, er2, hf⟩ := hf
  refine clX9_81 (as := [.int p1]) (st := []) rfl (kX9_isSheet l er2) rfl (by decide) (Nat.le_of_ble_eq_true rfl) dX9_orders_6 rfl (?_ : hp_G _ _ _ _ _ _ _ _ _ 9 _ _ _)
  refine hp_if_ne (tgt := 14) dX9_orders_9 rfl (fun c3 => ?_) (fun c3 => (?_ : hp_G _ _ _ _ _ _ _ _ _ 12 _ _ _))
  · replace hf := of_ c3 hf
    refine hp_iload_n 2 dX9_orders_14 rfl rfl (?_ : hp_G _ _ _ _ _ _ _ _ _ 15 _ _ _)
    replace hf := ob_ hf
    obtain ⟨r4, er4, hf⟩ := hf
    refine clX9_84 (as := [.int p2]) (st := []) rfl (kX9_isSort l er4) rfl (by decide) (Nat.le_of_ble_eq_true rfl) dX9_orders_15 rfl (?_ : hp_G _ _ _ _ _ _ _ _ _ 18 _ _ _)
    refine hp_if_eq (tgt := 42) dX9_orders_18 rfl (fun c5 => ?_) (fun c5 => (?_ : hp_G _ _ _ _ _ _ _ _ _ 21 _ _ _))
    · replace hf := ot_ c5 hf
      refine hp_bipush (v := (-2)) dX9_orders_42 bi_m2 (?_ : hp_G _ _ _ _ _ _ _ _ _ 44 _ _ _)
      obtain rfl := Option.some.inj hf
      exact hp_iret kr (fun z => z) rfl dX9_orders_44
    · replace hf := of_ c5 hf
      refine hp_iload 4 dX9_orders_21 rfl (?_ : hp_G _ _ _ _ _ _ _ _ _ 23 _ _ _)
      refine hp_iconst (v := 0) dX9_orders_23 ic_0 (?_ : hp_G _ _ _ _ _ _ _ _ _ 24 _ _ _)
      refine hp_bipush (v := 10) dX9_orders_24 bi_10 (?_ : hp_G _ _ _ _ _ _ _ _ _ 26 _ _ _)
      replace hf := ob_ hf
      obtain ⟨r6, er6, hf⟩ := hf
      refine clX9_67 (as := [.int p4, .int 0, .int 10]) (st := []) rfl (kX9_within l er6) rfl (by decide) (Nat.le_of_ble_eq_true rfl) dX9_orders_26 rfl (?_ : hp_G _ _ _ _ _ _ _ _ _ 29 _ _ _)
      refine hp_if_eq (tgt := 42) dX9_orders_29 rfl (fun c7 => ?_) (fun c7 => (?_ : hp_G _ _ _ _ _ _ _ _ _ 32 _ _ _))
      · replace hf := ot_ c7 hf
        refine hp_bipush (v := (-2)) dX9_orders_42 bi_m2 (?_ : hp_G _ _ _ _ _ _ _ _ _ 44 _ _ _)
        obtain rfl := Option.some.inj hf
        exact hp_iret kr (fun z => z) rfl dX9_orders_44
      · replace hf := of_ c7 hf
        refine hp_iload 5 dX9_orders_32 rfl (?_ : hp_G _ _ _ _ _ _ _ _ _ 34 _ _ _)
        refine hp_iconst (v := (-1)) dX9_orders_34 ic_m1 (?_ : hp_G _ _ _ _ _ _ _ _ _ 35 _ _ _)
        refine hp_iconst (v := 5) dX9_orders_35 ic_5 (?_ : hp_G _ _ _ _ _ _ _ _ _ 36 _ _ _)
        replace hf := ob_ hf
        obtain ⟨r8, er8, hf⟩ := hf
        refine clX9_67 (as := [.int p5, .int ((-1)), .int 5]) (st := []) rfl (kX9_within l er8) rfl (by decide) (Nat.le_of_ble_eq_true rfl) dX9_orders_36 rfl (?_ : hp_G _ _ _ _ _ _ _ _ _ 39 _ _ _)
        refine hp_if_ne (tgt := 45) dX9_orders_39 rfl (fun c9 => ?_) (fun c9 => (?_ : hp_G _ _ _ _ _ _ _ _ _ 42 _ _ _))
        · replace hf := of_ c9 hf
          refine hp_aload_n 0 dX9_orders_45 rfl rfl (?_ : hp_G _ _ _ _ _ _ _ _ _ 46 _ _ _)
          refine hp_iload_n 1 dX9_orders_46 rfl rfl (?_ : hp_G _ _ _ _ _ _ _ _ _ 47 _ _ _)
          refine hp_iload_n 2 dX9_orders_47 rfl rfl (?_ : hp_G _ _ _ _ _ _ _ _ _ 48 _ _ _)
          refine hp_iload_n 3 dX9_orders_48 rfl rfl (?_ : hp_G _ _ _ _ _ _ _ _ _ 49 _ _ _)
          refine hp_iconst (v := 2) dX9_orders_49 ic_2 (?_ : hp_G _ _ _ _ _ _ _ _ _ 50 _ _ _)
          refine hp_iload 4 dX9_orders_50 rfl (?_ : hp_G _ _ _ _ _ _ _ _ _ 52 _ _ _)
          refine hp_imul dX9_orders_52 (?_ : hp_G _ _ _ _ _ _ _ _ _ 53 _ _ _)
          replace hf := ob_ hf
          obtain ⟨o10, eo10, hf⟩ := hf
          replace hf := ob_ hf
          obtain ⟨r11, er11, hf⟩ := hf
          refine clX9_87 (as := [.int p1, .int p2, .int p3, .int (2 * p4)]) (st := []) rfl (kX9_against l er11) rfl (by decide) (Nat.le_of_ble_eq_true rfl) eo10 dX9_orders_53 rfl (?_ : hp_G _ _ _ _ _ _ _ _ _ 56 _ _ _)
          refine hp_istore (lv' := [(6, .int r11), (0, .ref a0), (1, .int p1), (2, .int p2), (3, .int p3), (4, .int p4), (5, .int p5)]) dX9_orders_56 (Nat.le_of_ble_eq_true rfl) rfl (?_ : hp_G _ _ _ _ _ _ _ _ _ 58 _ _ _)
          refine hp_iload 0 dX9_orders_58 rfl (?_ : hp_G _ _ _ _ _ _ _ _ _ 60 _ _ _)
          refine hp_if_eq (tgt := 70) dX9_orders_60 rfl (fun c12 => ?_) (fun c12 => (?_ : hp_G _ _ _ _ _ _ _ _ _ 63 _ _ _))
          · replace hf := ot_ c12 hf
            refine hp_aload_n 1 dX9_orders_70 rfl rfl (?_ : hp_G _ _ _ _ _ _ _ _ _ 71 _ _ _)
            replace hf := ob_ hf
            obtain ⟨x13, ex13, hf⟩ := hf
            refine fgX9_71 rfl dX9_orders_71 ex13 (?_ : hp_G _ _ _ _ _ _ _ _ _ 74 _ _ _)
            refine hp_if_ne (tgt := 80) dX9_orders_74 rfl (fun c14 => ?_) (fun c14 => (?_ : hp_G _ _ _ _ _ _ _ _ _ 77 _ _ _))
            · replace hf := of_ c14 hf
              refine hp_bipush (v := 60) dX9_orders_80 bi_60 (?_ : hp_G _ _ _ _ _ _ _ _ _ 82 _ _ _)
              refine hp_iload_n 2 dX9_orders_82 rfl rfl (?_ : hp_G _ _ _ _ _ _ _ _ _ 83 _ _ _)
              refine hp_imul dX9_orders_83 (?_ : hp_G _ _ _ _ _ _ _ _ _ 84 _ _ _)
              refine hp_iload_n 4 dX9_orders_84 rfl rfl (?_ : hp_G _ _ _ _ _ _ _ _ _ 85 _ _ _)
              refine hp_iadd dX9_orders_85 (?_ : hp_G _ _ _ _ _ _ _ _ _ 86 _ _ _)
              replace hf := ob_ hf
              obtain ⟨x15, ex15, hf⟩ := hf
              refine hp_nmi ex15 ?_
              refine hp_istore (lv' := [(7, .int x15), (6, .int r11), (0, .ref a0), (1, .int p1), (2, .int p2), (3, .int p3), (4, .int p4), (5, .int p5)]) dX9_orders_86 (Nat.le_of_ble_eq_true rfl) rfl (?_ : hp_G _ _ _ _ _ _ _ _ _ 88 _ _ _)
              refine hp_aload_n 2 dX9_orders_88 rfl rfl (?_ : hp_G _ _ _ _ _ _ _ _ _ 89 _ _ _)
              refine hp_iload 0 dX9_orders_89 rfl (?_ : hp_G _ _ _ _ _ _ _ _ _ 91 _ _ _)
              refine hp_iload 6 dX9_orders_91 rfl (?_ : hp_G _ _ _ _ _ _ _ _ _ 93 _ _ _)
              replace hf := ob_ hf
              obtain ⟨o16, eo16, hf⟩ := hf
              replace hf := ob_ hf
              obtain ⟨r17, er17, hf⟩ := hf
              refine clX9_189 (as := [.int x15, .int p4]) (st := []) rfl (kX9_refusesTwos l er17) rfl (by decide) (Nat.le_of_ble_eq_true rfl) eo16 dX9_orders_93 rfl (?_ : hp_G _ _ _ _ _ _ _ _ _ 96 _ _ _)
              refine hp_if_eq (tgt := 101) dX9_orders_96 rfl (fun c18 => ?_) (fun c18 => (?_ : hp_G _ _ _ _ _ _ _ _ _ 99 _ _ _))
              · replace hf := ot_ c18 hf
                refine hp_iconst (v := 0) dX9_orders_101 ic_0 (?_ : hp_G _ _ _ _ _ _ _ _ _ 102 _ _ _)
                refine hp_istore (lv' := [(8, .int 0), (7, .int x15), (6, .int r11), (0, .ref a0), (1, .int p1), (2, .int p2), (3, .int p3), (4, .int p4), (5, .int p5)]) dX9_orders_102 (Nat.le_of_ble_eq_true rfl) rfl (?_ : hp_G _ _ _ _ _ _ _ _ _ 104 _ _ _)
                refine hp_bipush (v := (-9)) dX9_orders_104 bi_m9 (?_ : hp_G _ _ _ _ _ _ _ _ _ 106 _ _ _)
                refine hp_istore (lv' := [(9, .int ((-9))), (8, .int 0), (7, .int x15), (6, .int r11), (0, .ref a0), (1, .int p1), (2, .int p2), (3, .int p3), (4, .int p4), (5, .int p5)]) dX9_orders_106 (Nat.le_of_ble_eq_true rfl) rfl (?_ : hp_G _ _ _ _ _ _ _ _ _ 108 _ _ _)
                refine hp_iconst (v := 0) dX9_orders_108 ic_0 (?_ : hp_G _ _ _ _ _ _ _ _ _ 109 _ _ _)
                refine hp_istore (lv' := [(10, .int 0), (9, .int ((-9))), (8, .int 0), (7, .int x15), (6, .int r11), (0, .ref a0), (1, .int p1), (2, .int p2), (3, .int p3), (4, .int p4), (5, .int p5)]) dX9_orders_109 (Nat.le_of_ble_eq_true rfl) rfl (?_ : hp_G _ _ _ _ _ _ _ _ _ 111 _ _ _)
                replace hf := ob_ hf
                obtain ⟨x35, ex35, hf⟩ := hf
                refine hp_sub [5, 9, 10, 3, 2, 1, 0] rfl ?_
                refine tlX9_orders_111 l fu_ ex35 (fun y hy => ?_)
                obtain rfl := hy
                refine hp_iload 0 dX9_orders_177 rfl (?_ : hp_G _ _ _ _ _ _ _ _ _ 179 _ _ _)
                refine hp_iconst (v := (-1)) dX9_orders_179 ic_m1 (?_ : hp_G _ _ _ _ _ _ _ _ _ 180 _ _ _)
                refine hp_icmp_ne (tgt := 188) dX9_orders_180 rfl (fun c36 => ?_) (fun c36 => (?_ : hp_G _ _ _ _ _ _ _ _ _ 183 _ _ _))
                · replace hf := of_ c36 hf
                  refine hp_iload 2 dX9_orders_188 rfl (?_ : hp_G _ _ _ _ _ _ _ _ _ 190 _ _ _)
                  obtain rfl := Option.some.inj hf
                  exact hp_iret kr (fun z => z) rfl dX9_orders_190
                · replace hf := ot_ c36 hf
                  refine hp_iload 1 dX9_orders_183 rfl (?_ : hp_G _ _ _ _ _ _ _ _ _ 185 _ _ _)
                  refine hp_goto (tgt := 190) dX9_orders_185 rfl (?_ : hp_G _ _ _ _ _ _ _ _ _ 190 _ _ _)
                  obtain rfl := Option.some.inj hf
                  exact hp_iret kr (fun z => z) rfl dX9_orders_190
              · replace hf := of_ c18 hf
                refine hp_iconst (v := (-1)) dX9_orders_99 ic_m1 (?_ : hp_G _ _ _ _ _ _ _ _ _ 100 _ _ _)
                obtain rfl := Option.some.inj hf
                exact hp_iret kr (fun z => z) rfl dX9_orders_100
            · replace hf := ot_ c14 hf
              refine hp_bipush (v := (-3)) dX9_orders_77 bi_m3 (?_ : hp_G _ _ _ _ _ _ _ _ _ 79 _ _ _)
              obtain rfl := Option.some.inj hf
              exact hp_iret kr (fun z => z) rfl dX9_orders_79
          · replace hf := of_ c12 hf
            refine hp_aload_n 1 dX9_orders_63 rfl rfl (?_ : hp_G _ _ _ _ _ _ _ _ _ 64 _ _ _)
            refine hp_iload 0 dX9_orders_64 rfl (?_ : hp_G _ _ _ _ _ _ _ _ _ 66 _ _ _)
            replace hf := ob_ hf
            obtain ⟨o37, eo37, hf⟩ := hf
            replace hf := ob_ hf
            obtain ⟨r38, er38, hf⟩ := hf
            refine clX9_91 (as := [.int r11]) (st := []) rfl (kX9_fails l er38) rfl (by decide) (Nat.le_of_ble_eq_true rfl) eo37 dX9_orders_66 rfl (?_ : hp_G _ _ _ _ _ _ _ _ _ 69 _ _ _)
            obtain rfl := Option.some.inj hf
            exact hp_iret kr (fun z => z) rfl dX9_orders_69
        · replace hf := ot_ c9 hf
          refine hp_bipush (v := (-2)) dX9_orders_42 bi_m2 (?_ : hp_G _ _ _ _ _ _ _ _ _ 44 _ _ _)
          obtain rfl := Option.some.inj hf
          exact hp_iret kr (fun z => z) rfl dX9_orders_44
  · replace hf := ot_ c3 hf
    refine hp_iconst (v := (-1)) dX9_orders_12 ic_m1 (?_ : hp_G _ _ _ _ _ _ _ _ _ 13 _ _ _)
    obtain rfl := Option.some.inj hf
    exact hp_iret kr (fun z => z) rfl dX9_orders_13
theorem kX9_orders (l : Launch) {h : hp_H} {a0 : Nat} {p1 : Int32} {p2 : Int32} {p3 : Int32} {p4 : Int32} {p5 : Int32} {r : (Int32 × hp_H)} (hf : fX9_orders h a0 p1 p2 p3 p4 p5 = some r) : hp_Cn l yX9_orders mX9_orders 3 false 0 0 [.ref a0, .int p1, .int p2, .int p3, .int p4, .int p5] h (fun v h2 => some (.int r.1) = v ∧ r.2 = h2) :=
  hp_of (by decide) rfl (fun z => by cases z) (Nat.le_of_ble_eq_true rfl) (tX9_orders l hf ⟨rfl, rfl⟩)
