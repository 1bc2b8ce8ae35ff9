noncomputable def fX8_common (h : hp_H) (a0 : Nat) (p1 : Int32) (p2 : Int32) : Option Int32 :=
(gq_ h a0 7 0).bind fun x1 =>
(hg_o h x1 6).bind fun o2 =>
(fX7_hasTwo h x1 p1 p2).bind fun r3 =>
if r3 = 0 then
(some (-1))
else
((gq_ h a0 7 0).bind fun x5 =>
(gq_ h x5 6 0).bind fun x6 =>
(ql_ h x6 p1).bind fun x7 =>
(gq_ h a0 7 0).bind fun x8 =>
(gq_ h x8 6 0).bind fun x9 =>
(ql_ h x9 p2).bind fun x10 =>
(hg_o h x7 2).bind fun o11 =>
(fX2_best h x7).bind fun r12 =>
(hg_o h x10 2).bind fun o13 =>
(fX2_best h x10).bind fun r14 =>
(some (mn_ r12 r14)).bind fun x15 =>
(hg_o h x7 2).bind fun o16 =>
(fX2_worst h x7).bind fun r17 =>
(hg_o h x10 2).bind fun o18 =>
(fX2_worst h x10).bind fun r19 =>
(some (mx_ r17 r19)).bind fun x20 =>
some (mx_ 0 ((x15 - x20) + 1)))
set_option maxRecDepth 20000 in
set_option maxHeartbeats 4000000 in
theorem tX8_common (l : Launch) {h : hp_H} {a0 : Nat} {p1 : Int32} {p2 : Int32} {r : Int32} (hf : fX8_common h a0 p1 p2 = some r) {Q : Option Value → hp_H → Prop} (kr : Q (some (.int r)) h) : hp_G l mX8_common none 2 false Q false 0 0 0 [(0, .ref a0), (1, .int p1), (2, .int p2)] [] h := by
  unfold fX8_common at hf
  refine hp_aload_n 0 dX8_common_0 rfl rfl (?_ : hp_G _ _ _ _ _ _ _ _ _ 1 _ _ _)
  replace hf := ob_ hf
  obtain ⟨x1, ex1, hf⟩ := hf
  refine fgX8_12 rfl dX8_common_1 ex1 (?_ : hp_G _ _ _ _ _ _ _ _ _ 4 _ _ _)
  refine hp_iload_n 1 dX8_common_4 rfl rfl (?_ : hp_G _ _ _ _ _ _ _ _ _ 5 _ _ _)
  refine hp_iload_n 2 dX8_common_5 rfl rfl (?_ : hp_G _ _ _ _ _ _ _ _ _ 6 _ _ _)
  replace hf := ob_ hf
  obtain ⟨o2, eo2, hf⟩ := hf
  replace hf := ob_ hf
  obtain ⟨r3, er3, hf⟩ := hf
  refine clX8_121 (as := [.int p1, .int p2]) (st := []) rfl (kX7_hasTwo l er3) rfl (by decide) (Nat.le_of_ble_eq_true rfl) eo2 dX8_common_6 rfl (?_ : hp_G _ _ _ _ _ _ _ _ _ 9 _ _ _)
  refine hp_if_ne (tgt := 14) dX8_common_9 rfl (fun c4 => ?_) (fun c4 => (?_ : hp_G _ _ _ _ _ _ _ _ _ 12 _ _ _))
  · replace hf := of_ c4 hf
    refine hp_aload_n 0 dX8_common_14 rfl rfl (?_ : hp_G _ _ _ _ _ _ _ _ _ 15 _ _ _)
    replace hf := ob_ hf
    obtain ⟨x5, ex5, hf⟩ := hf
    refine fgX8_12 rfl dX8_common_15 ex5 (?_ : hp_G _ _ _ _ _ _ _ _ _ 18 _ _ _)
    replace hf := ob_ hf
    obtain ⟨x6, ex6, hf⟩ := hf
    refine fgX8_98 rfl dX8_common_18 ex6 (?_ : hp_G _ _ _ _ _ _ _ _ _ 21 _ _ _)
    refine hp_iload_n 1 dX8_common_21 rfl rfl (?_ : hp_G _ _ _ _ _ _ _ _ _ 22 _ _ _)
    replace hf := ob_ hf
    obtain ⟨x7, ex7, hf⟩ := hf
    refine hp_aaload dX8_common_22 ex7 (?_ : hp_G _ _ _ _ _ _ _ _ _ 23 _ _ _)
    refine hp_astore_n (lv' := [(3, .ref x7), (0, .ref a0), (1, .int p1), (2, .int p2)]) dX8_common_23 rfl (Nat.le_of_ble_eq_true rfl) rfl (?_ : hp_G _ _ _ _ _ _ _ _ _ 24 _ _ _)
    refine hp_aload_n 1 dX8_common_24 rfl rfl (?_ : hp_G _ _ _ _ _ _ _ _ _ 25 _ _ _)
    replace hf := ob_ hf
    obtain ⟨x8, ex8, hf⟩ := hf
    refine fgX8_12 rfl dX8_common_25 ex8 (?_ : hp_G _ _ _ _ _ _ _ _ _ 28 _ _ _)
    replace hf := ob_ hf
    obtain ⟨x9, ex9, hf⟩ := hf
    refine fgX8_98 rfl dX8_common_28 ex9 (?_ : hp_G _ _ _ _ _ _ _ _ _ 31 _ _ _)
    refine hp_iload_n 3 dX8_common_31 rfl rfl (?_ : hp_G _ _ _ _ _ _ _ _ _ 32 _ _ _)
    replace hf := ob_ hf
    obtain ⟨x10, ex10, hf⟩ := hf
    refine hp_aaload dX8_common_32 ex10 (?_ : hp_G _ _ _ _ _ _ _ _ _ 33 _ _ _)
    refine hp_astore (lv' := [(4, .ref x10), (3, .ref x7), (0, .ref a0), (1, .int p1), (2, .int p2)]) dX8_common_33 (Nat.le_of_ble_eq_true rfl) rfl (?_ : hp_G _ _ _ _ _ _ _ _ _ 35 _ _ _)
    refine hp_aload_n 1 dX8_common_35 rfl rfl (?_ : hp_G _ _ _ _ _ _ _ _ _ 36 _ _ _)
    replace hf := ob_ hf
    obtain ⟨o11, eo11, hf⟩ := hf
    replace hf := ob_ hf
    obtain ⟨r12, er12, hf⟩ := hf
    refine clX8_107 (as := []) (st := []) rfl (kX2_best l er12) rfl (by decide) (Nat.le_of_ble_eq_true rfl) eo11 dX8_common_36 rfl (?_ : hp_G _ _ _ _ _ _ _ _ _ 39 _ _ _)
    refine hp_aload 0 dX8_common_39 rfl (?_ : hp_G _ _ _ _ _ _ _ _ _ 41 _ _ _)
    replace hf := ob_ hf
    obtain ⟨o13, eo13, hf⟩ := hf
    replace hf := ob_ hf
    obtain ⟨r14, er14, hf⟩ := hf
    refine clX8_107 (as := []) (st := [.int r12]) rfl (kX2_best l er14) rfl (by decide) (Nat.le_of_ble_eq_true rfl) eo13 dX8_common_41 rfl (?_ : hp_G _ _ _ _ _ _ _ _ _ 44 _ _ _)
    refine mmX8_160 rfl (by decide) (Nat.le_of_ble_eq_true rfl) dX8_common_44 (?_ : hp_G _ _ _ _ _ _ _ _ _ 47 _ _ _)
    replace hf := ob_ hf
    obtain ⟨x15, ex15, hf⟩ := hf
    refine hp_nmi ex15 ?_
    refine hp_istore (lv' := [(5, .int x15), (4, .ref x10), (3, .ref x7), (0, .ref a0), (1, .int p1), (2, .int p2)]) dX8_common_47 (Nat.le_of_ble_eq_true rfl) rfl (?_ : hp_G _ _ _ _ _ _ _ _ _ 49 _ _ _)
    refine hp_aload_n 2 dX8_common_49 rfl rfl (?_ : hp_G _ _ _ _ _ _ _ _ _ 50 _ _ _)
    replace hf := ob_ hf
    obtain ⟨o16, eo16, hf⟩ := hf
    replace hf := ob_ hf
    obtain ⟨r17, er17, hf⟩ := hf
    refine clX8_111 (as := []) (st := []) rfl (kX2_worst l er17) rfl (by decide) (Nat.le_of_ble_eq_true rfl) eo16 dX8_common_50 rfl (?_ : hp_G _ _ _ _ _ _ _ _ _ 53 _ _ _)
    refine hp_aload 1 dX8_common_53 rfl (?_ : hp_G _ _ _ _ _ _ _ _ _ 55 _ _ _)
    replace hf := ob_ hf
    obtain ⟨o18, eo18, hf⟩ := hf
    replace hf := ob_ hf
    obtain ⟨r19, er19, hf⟩ := hf
    refine clX8_111 (as := []) (st := [.int r17]) rfl (kX2_worst l er19) rfl (by decide) (Nat.le_of_ble_eq_true rfl) eo18 dX8_common_55 rfl (?_ : hp_G _ _ _ _ _ _ _ _ _ 58 _ _ _)
    refine mmX8_166 rfl (by decide) (Nat.le_of_ble_eq_true rfl) dX8_common_58 (?_ : hp_G _ _ _ _ _ _ _ _ _ 61 _ _ _)
    replace hf := ob_ hf
    obtain ⟨x20, ex20, hf⟩ := hf
    refine hp_nmi ex20 ?_
    refine hp_istore (lv' := [(6, .int x20), (5, .int x15), (4, .ref x10), (3, .ref x7), (0, .ref a0), (1, .int p1), (2, .int p2)]) dX8_common_61 (Nat.le_of_ble_eq_true rfl) rfl (?_ : hp_G _ _ _ _ _ _ _ _ _ 63 _ _ _)
    refine hp_iconst (v := 0) dX8_common_63 ic_0 (?_ : hp_G _ _ _ _ _ _ _ _ _ 64 _ _ _)
    refine hp_iload 1 dX8_common_64 rfl (?_ : hp_G _ _ _ _ _ _ _ _ _ 66 _ _ _)
    refine hp_iload 0 dX8_common_66 rfl (?_ : hp_G _ _ _ _ _ _ _ _ _ 68 _ _ _)
    refine hp_isub dX8_common_68 (?_ : hp_G _ _ _ _ _ _ _ _ _ 69 _ _ _)
    refine hp_iconst (v := 1) dX8_common_69 ic_1 (?_ : hp_G _ _ _ _ _ _ _ _ _ 70 _ _ _)
    refine hp_iadd dX8_common_70 (?_ : hp_G _ _ _ _ _ _ _ _ _ 71 _ _ _)
    refine mmX8_166 rfl (by decide) (Nat.le_of_ble_eq_true rfl) dX8_common_71 (?_ : hp_G _ _ _ _ _ _ _ _ _ 74 _ _ _)
    obtain rfl := Option.some.inj hf
    exact hp_iret kr (fun z => z) rfl dX8_common_74
  · replace hf := ot_ c4 hf
    refine hp_iconst (v := (-1)) dX8_common_12 ic_m1 (?_ : hp_G _ _ _ _ _ _ _ _ _ 13 _ _ _)
    obtain rfl := Option.some.inj hf
    exact hp_iret kr (fun z => z) rfl dX8_common_13
theorem kX8_common (l : Launch) {h : hp_H} {a0 : Nat} {p1 : Int32} {p2 : Int32} {r : Int32} (hf : fX8_common h a0 p1 p2 = some r) : hp_Cn l yX8_common mX8_common 2 false 0 0 [.ref a0, .int p1, .int p2] h (fun v h2 => some (.int r) = v ∧ h = h2) :=
  hp_of (by decide) rfl (fun z => by cases z) (Nat.le_of_ble_eq_true rfl) (tX8_common l hf ⟨rfl, rfl⟩)
noncomputable def jX9_common_64 (h : hp_H)  (u3 : Int32) (k0 : Int32) : Option Int32 :=
if u3 ≤ k0 then
(some ((k0 - u3) + 1))
else
(some 0)
set_option maxRecDepth 20000 in
set_option maxHeartbeats 4000000 in
theorem tjX9_common_64 (l : Launch) {h : hp_H}  {u3 : Int32} {k0 : Int32} {r : Int32} (hf : jX9_common_64 h u3 k0 = some r) {Q : Option Value → hp_H → Prop} (kr : Q (some (.int r)) h) : hp_G l mX9_common none 2 false Q false 0 0 64 [(3, .int u3)] [.int k0] h := by
  unfold jX9_common_64 at hf
  refine hp_istore (lv' := [(4, .int k0), (3, .int u3)]) dX9_common_64 (Nat.le_of_ble_eq_true rfl) rfl (?_ : hp_G _ _ _ _ _ _ _ _ _ 66 _ _ _)
  refine hp_iload 0 dX9_common_66 rfl (?_ : hp_G _ _ _ _ _ _ _ _ _ 68 _ _ _)
  refine hp_iload_n 1 dX9_common_68 rfl rfl (?_ : hp_G _ _ _ _ _ _ _ _ _ 69 _ _ _)
  refine hp_icmp_ge (tgt := 76) dX9_common_69 rfl (fun c18 => ?_) (fun c18 => (?_ : hp_G _ _ _ _ _ _ _ _ _ 72 _ _ _))
  · replace hf := ot_ c18 hf
    refine hp_iload 0 dX9_common_76 rfl (?_ : hp_G _ _ _ _ _ _ _ _ _ 78 _ _ _)
    refine hp_iload_n 1 dX9_common_78 rfl rfl (?_ : hp_G _ _ _ _ _ _ _ _ _ 79 _ _ _)
    refine hp_isub dX9_common_79 (?_ : hp_G _ _ _ _ _ _ _ _ _ 80 _ _ _)
    refine hp_iconst (v := 1) dX9_common_80 ic_1 (?_ : hp_G _ _ _ _ _ _ _ _ _ 81 _ _ _)
    refine hp_iadd dX9_common_81 (?_ : hp_G _ _ _ _ _ _ _ _ _ 82 _ _ _)
    obtain rfl := Option.some.inj hf
    exact hp_iret kr (fun z => z) rfl dX9_common_82
  · replace hf := of_ c18 hf
    refine hp_iconst (v := 0) dX9_common_72 ic_0 (?_ : hp_G _ _ _ _ _ _ _ _ _ 73 _ _ _)
    refine hp_goto (tgt := 82) dX9_common_73 rfl (?_ : hp_G _ _ _ _ _ _ _ _ _ 82 _ _ _)
    obtain rfl := Option.some.inj hf
    exact hp_iret kr (fun z => z) rfl dX9_common_82
noncomputable def jX9_common_37 (h : hp_H)  (u0 : Nat) (u1 : Int32) (u2 : Int32) (k0 : Int32) : Option Int32 :=
(hg_o h u0 8).bind fun o11 =>
(fX9_bestOf h u0 u1).bind fun r12 =>
(hg_o h u0 8).bind fun o13 =>
(fX9_bestOf h u0 u2).bind fun r14 =>
if r14 ≤ r12 then
((hg_o h u0 8).bind fun o16 =>
(fX9_bestOf h u0 u2).bind fun r17 =>
jX9_common_64 h k0 r17)
else
((hg_o h u0 8).bind fun o19 =>
(fX9_bestOf h u0 u1).bind fun r20 =>
jX9_common_64 h k0 r20)
set_option maxRecDepth 20000 in
set_option maxHeartbeats 4000000 in
theorem tjX9_common_37 (l : Launch) {h : hp_H}  {u0 : Nat} {u1 : Int32} {u2 : Int32} {k0 : Int32} {r : Int32} (hf : jX9_common_37 h u0 u1 u2 k0 = some r) {Q : Option Value → hp_H → Prop} (kr : Q (some (.int r)) h) : hp_G l mX9_common none 2 false Q false 0 0 37 [(0, .ref u0), (1, .int u1), (2, .int u2)] [.int k0] h := by
  unfold jX9_common_37 at hf
  refine hp_istore_n (lv' := [(3, .int k0), (0, .ref u0), (1, .int u1), (2, .int u2)]) dX9_common_37 rfl (Nat.le_of_ble_eq_true rfl) rfl (?_ : hp_G _ _ _ _ _ _ _ _ _ 38 _ _ _)
  refine hp_aload_n 1 dX9_common_38 rfl rfl (?_ : hp_G _ _ _ _ _ _ _ _ _ 39 _ _ _)
  refine hp_iload_n 2 dX9_common_39 rfl rfl (?_ : hp_G _ _ _ _ _ _ _ _ _ 40 _ _ _)
  replace hf := ob_ hf
  obtain ⟨o11, eo11, hf⟩ := hf
  replace hf := ob_ hf
  obtain ⟨r12, er12, hf⟩ := hf
  refine clX9_120 (as := [.int u1]) (st := []) rfl (kX9_bestOf l er12) rfl (by decide) (Nat.le_of_ble_eq_true rfl) eo11 dX9_common_40 rfl (?_ : hp_G _ _ _ _ _ _ _ _ _ 43 _ _ _)
  refine hp_aload_n 1 dX9_common_43 rfl rfl (?_ : hp_G _ _ _ _ _ _ _ _ _ 44 _ _ _)
  refine hp_iload_n 3 dX9_common_44 rfl rfl (?_ : hp_G _ _ _ _ _ _ _ _ _ 45 _ _ _)
  replace hf := ob_ hf
  obtain ⟨o13, eo13, hf⟩ := hf
  replace hf := ob_ hf
  obtain ⟨r14, er14, hf⟩ := hf
  refine clX9_120 (as := [.int u2]) (st := [.int r12]) rfl (kX9_bestOf l er14) rfl (by decide) (Nat.le_of_ble_eq_true rfl) eo13 dX9_common_45 rfl (?_ : hp_G _ _ _ _ _ _ _ _ _ 48 _ _ _)
  refine hp_icmp_ge (tgt := 59) dX9_common_48 rfl (fun c15 => ?_) (fun c15 => (?_ : hp_G _ _ _ _ _ _ _ _ _ 51 _ _ _))
  · replace hf := ot_ c15 hf
    refine hp_aload_n 1 dX9_common_59 rfl rfl (?_ : hp_G _ _ _ _ _ _ _ _ _ 60 _ _ _)
    refine hp_iload_n 3 dX9_common_60 rfl rfl (?_ : hp_G _ _ _ _ _ _ _ _ _ 61 _ _ _)
    replace hf := ob_ hf
    obtain ⟨o16, eo16, hf⟩ := hf
    replace hf := ob_ hf
    obtain ⟨r17, er17, hf⟩ := hf
    refine clX9_120 (as := [.int u2]) (st := []) rfl (kX9_bestOf l er17) rfl (by decide) (Nat.le_of_ble_eq_true rfl) eo16 dX9_common_61 rfl (?_ : hp_G _ _ _ _ _ _ _ _ _ 64 _ _ _)
    exact hp_sub [0] rfl (tjX9_common_64 l hf kr)
  · replace hf := of_ c15 hf
    refine hp_aload_n 1 dX9_common_51 rfl rfl (?_ : hp_G _ _ _ _ _ _ _ _ _ 52 _ _ _)
    refine hp_iload_n 2 dX9_common_52 rfl rfl (?_ : hp_G _ _ _ _ _ _ _ _ _ 53 _ _ _)
    replace hf := ob_ hf
    obtain ⟨o19, eo19, hf⟩ := hf
    replace hf := ob_ hf
    obtain ⟨r20, er20, hf⟩ := hf
    refine clX9_120 (as := [.int u1]) (st := []) rfl (kX9_bestOf l er20) rfl (by decide) (Nat.le_of_ble_eq_true rfl) eo19 dX9_common_53 rfl (?_ : hp_G _ _ _ _ _ _ _ _ _ 56 _ _ _)
    refine hp_goto (tgt := 64) dX9_common_56 rfl (?_ : hp_G _ _ _ _ _ _ _ _ _ 64 _ _ _)
    exact hp_sub [0] rfl (tjX9_common_64 l hf kr)
noncomputable def fX9_common (h : hp_H) (a0 : Nat) (p1 : Int32) (p2 : Int32) : Option Int32 :=
(hg_o h a0 8).bind fun o1 =>
(fX9_areTwo h a0 p1 p2).bind fun r2 =>
if r2 = 0 then
(some (-1))
else
((hg_o h a0 8).bind fun o4 =>
(fX9_worstOf h a0 p1).bind fun r5 =>
(hg_o h a0 8).bind fun o6 =>
(fX9_worstOf h a0 p2).bind fun r7 =>
if r5 ≤ r7 then
((hg_o h a0 8).bind fun o9 =>
(fX9_worstOf h a0 p2).bind fun r10 =>
jX9_common_37 h a0 p1 p2 r10)
else
((hg_o h a0 8).bind fun o21 =>
(fX9_worstOf h a0 p1).bind fun r22 =>
jX9_common_37 h a0 p1 p2 r22))
set_option maxRecDepth 20000 in
set_option maxHeartbeats 4000000 in
theorem tX9_common (l : Launch) {h : hp_H} {a0 : Nat} {p1 : Int32} {p2 : Int32} {r : Int32} (hf : fX9_common h a0 p1 p2 = some r) {Q : Option Value → hp_H → Prop} (kr : Q (some (.int r)) h) : hp_G l mX9_common none 2 false Q false 0 0 0 [(0, .ref a0), (1, .int p1), (2, .int p2)] [] h := by
  unfold fX9_common at hf
  refine hp_aload_n 0 dX9_common_0 rfl rfl (?_ : hp_G _ _ _ _ _ _ _ _ _ 1 _ _ _)
  refine hp_iload_n 1 dX9_common_1 rfl rfl (?_ : hp_G _ _ _ _ _ _ _ _ _ 2 _ _ _)
  refine hp_iload_n 2 dX9_common_2 rfl rfl (?_ : hp_G _ _ _ _ _ _ _ _ _ 3 _ _ _)
  replace hf := ob_ hf
  obtain ⟨o1, eo1, hf⟩ := hf
  replace hf := ob_ hf
  obtain ⟨r2, er2, hf⟩ := hf
  refine clX9_129 (as := [.int p1, .int p2]) (st := []) rfl (kX9_areTwo l er2) rfl (by decide) (Nat.le_of_ble_eq_true rfl) eo1 dX9_common_3 rfl (?_ : hp_G _ _ _ _ _ _ _ _ _ 6 _ _ _)
  refine hp_if_ne (tgt := 11) dX9_common_6 rfl (fun c3 => ?_) (fun c3 => (?_ : hp_G _ _ _ _ _ _ _ _ _ 9 _ _ _))
  · replace hf := of_ c3 hf
    refine hp_aload_n 0 dX9_common_11 rfl rfl (?_ : hp_G _ _ _ _ _ _ _ _ _ 12 _ _ _)
    refine hp_iload_n 1 dX9_common_12 rfl rfl (?_ : hp_G _ _ _ _ _ _ _ _ _ 13 _ _ _)
    replace hf := ob_ hf
    obtain ⟨o4, eo4, hf⟩ := hf
    replace hf := ob_ hf
    obtain ⟨r5, er5, hf⟩ := hf
    refine clX9_123 (as := [.int p1]) (st := []) rfl (kX9_worstOf l er5) rfl (by decide) (Nat.le_of_ble_eq_true rfl) eo4 dX9_common_13 rfl (?_ : hp_G _ _ _ _ _ _ _ _ _ 16 _ _ _)
    refine hp_aload_n 0 dX9_common_16 rfl rfl (?_ : hp_G _ _ _ _ _ _ _ _ _ 17 _ _ _)
    refine hp_iload_n 2 dX9_common_17 rfl rfl (?_ : hp_G _ _ _ _ _ _ _ _ _ 18 _ _ _)
    replace hf := ob_ hf
    obtain ⟨o6, eo6, hf⟩ := hf
    replace hf := ob_ hf
    obtain ⟨r7, er7, hf⟩ := hf
    refine clX9_123 (as := [.int p2]) (st := [.int r5]) rfl (kX9_worstOf l er7) rfl (by decide) (Nat.le_of_ble_eq_true rfl) eo6 dX9_common_18 rfl (?_ : hp_G _ _ _ _ _ _ _ _ _ 21 _ _ _)
    refine hp_icmp_le (tgt := 32) dX9_common_21 rfl (fun c8 => ?_) (fun c8 => (?_ : hp_G _ _ _ _ _ _ _ _ _ 24 _ _ _))
    · replace hf := ot_ c8 hf
      refine hp_aload_n 0 dX9_common_32 rfl rfl (?_ : hp_G _ _ _ _ _ _ _ _ _ 33 _ _ _)
      refine hp_iload_n 2 dX9_common_33 rfl rfl (?_ : hp_G _ _ _ _ _ _ _ _ _ 34 _ _ _)
      replace hf := ob_ hf
      obtain ⟨o9, eo9, hf⟩ := hf
      replace hf := ob_ hf
      obtain ⟨r10, er10, hf⟩ := hf
      refine clX9_123 (as := [.int p2]) (st := []) rfl (kX9_worstOf l er10) rfl (by decide) (Nat.le_of_ble_eq_true rfl) eo9 dX9_common_34 rfl (?_ : hp_G _ _ _ _ _ _ _ _ _ 37 _ _ _)
      exact hp_sub [0, 1, 2] rfl (tjX9_common_37 l hf kr)
    · replace hf := of_ c8 hf
      refine hp_aload_n 0 dX9_common_24 rfl rfl (?_ : hp_G _ _ _ _ _ _ _ _ _ 25 _ _ _)
      refine hp_iload_n 1 dX9_common_25 rfl rfl (?_ : hp_G _ _ _ _ _ _ _ _ _ 26 _ _ _)
      replace hf := ob_ hf
      obtain ⟨o21, eo21, hf⟩ := hf
      replace hf := ob_ hf
      obtain ⟨r22, er22, hf⟩ := hf
      refine clX9_123 (as := [.int p1]) (st := []) rfl (kX9_worstOf l er22) rfl (by decide) (Nat.le_of_ble_eq_true rfl) eo21 dX9_common_26 rfl (?_ : hp_G _ _ _ _ _ _ _ _ _ 29 _ _ _)
      refine hp_goto (tgt := 37) dX9_common_29 rfl (?_ : hp_G _ _ _ _ _ _ _ _ _ 37 _ _ _)
      exact hp_sub [0, 1, 2] rfl (tjX9_common_37 l hf kr)
  · replace hf := ot_ c3 hf
    refine hp_iconst (v := (-1)) dX9_common_9 ic_m1 (?_ : hp_G _ _ _ _ _ _ _ _ _ 10 _ _ _)
    obtain rfl := Option.some.inj hf
    exact hp_iret kr (fun z => z) rfl dX9_common_10
theorem kX9_common (l : Launch) {h : hp_H} {a0 : Nat} {p1 : Int32} {p2 : Int32} {r : Int32} (hf : fX9_common h a0 p1 p2 = some r) : hp_Cn l yX9_common mX9_common 2 false 0 0 [.ref a0, .int p1, .int p2] h (fun v h2 => some (.int r) = v ∧ h = h2) :=
  hp_of (by decide) rfl (fun z => by cases z) (Nat.le_of_ble_eq_true rfl) (tX9_common l hf ⟨rfl, rfl⟩)
noncomputable def jX1_pairFrom_167_65 (rc : hp_H → Nat → Int32 → Int32 → Int32 → Option hp_H) (g : hp_H) (v0 : Nat) (v1 : Int32) (v2 : Int32) (v3 : Int32) (u4 : Int32)  : Option ((Int32 × hp_H) ⊕ hp_H) :=
(some (u4 + 1)).bind fun x14 =>
some (.inl (x14, g))
set_option maxRecDepth 20000 in
set_option maxHeartbeats 4000000 in
theorem tjX1_pairFrom_167_65 {dd : Nat} {rc : hp_H → Nat → Int32 → Int32 → Int32 → Option hp_H} (l : Launch) {g : hp_H} {v0 : Nat} {v1 : Int32} {v2 : Int32} {v3 : Int32} {u4 : Int32}  (hrc : ∀ (h : hp_H) (y0 : Nat) (y1 : Int32) (y2 : Int32) (y3 : Int32) (r : hp_H), rc h y0 y1 y2 y3 = some r → hp_Cn l yX1_pairFrom mX1_pairFrom (dd + 3) false 0 0 [.ref y0, .int y1, .int y2, .int y3] h (fun v h2 => none = v ∧ r = h2)) {r : ((Int32 × hp_H) ⊕ hp_H)} (hf : jX1_pairFrom_167_65 rc g v0 v1 v2 v3 u4 = some r) {Q : Option Value → hp_H → Prop} (kb : ∀ t, r = .inl t → hp_G l mX1_pairFrom none (dd + 4) false Q false 0 0 65 [(0, .ref v0), (1, .int v1), (2, .int v2), (3, .int v3), (4, .int t.1)] [] t.2) (ke : ∀ x, r = .inr x → hp_G l mX1_pairFrom none (dd + 4) false Q false 0 0 173 [(0, .ref v0), (1, .int v1), (2, .int v2), (3, .int v3)] [] x) : hp_G l mX1_pairFrom none (dd + 4) false Q false 0 0 167 [(0, .ref v0), (1, .int v1), (2, .int v2), (3, .int v3), (4, .int u4)] [] g := by
  unfold jX1_pairFrom_167_65 at hf
  replace hf := ob_ hf
  obtain ⟨x14, ex14, hf⟩ := hf
  refine hp_iinc (v := x14) (lv' := [(4, .int x14), (0, .ref v0), (1, .int v1), (2, .int v2), (3, .int v3)]) 4 dX1_pairFrom_167 rfl (hp_inc ic_1 ex14) (Nat.le_of_ble_eq_true rfl) rfl (?_ : hp_G _ _ _ _ _ _ _ _ _ 170 _ _ _)
  refine hp_goto (tgt := 65) dX1_pairFrom_170 rfl (?_ : hp_G _ _ _ _ _ _ _ _ _ 65 _ _ _)
  obtain rfl := Option.some.inj hf
  exact hp_sub [1, 2, 3, 4, 0] rfl (kb _ rfl)
noncomputable def jX1_pairFrom_156_65 (rc : hp_H → Nat → Int32 → Int32 → Int32 → Option hp_H) (g : hp_H) (v0 : Nat) (v1 : Int32) (v2 : Int32) (v3 : Int32) (u4 : Int32) (k0 : Int32) (k1 : Int32) (k2 : Int32) (k3 : Nat) : Option ((Int32 × hp_H) ⊕ hp_H) :=
(hg_o g k3 1).bind fun o31 =>
(rc g k3 k2 k1 k0).bind fun r32 =>
(gq_ r32 v0 1 0).bind fun x33 =>
(ax_ r32 x33 u4 (-1)).bind fun h34 =>
jX1_pairFrom_167_65 rc h34 v0 v1 v2 v3 u4
set_option maxRecDepth 20000 in
set_option maxHeartbeats 4000000 in
theorem tjX1_pairFrom_156_65 {dd : Nat} {rc : hp_H → Nat → Int32 → Int32 → Int32 → Option hp_H} (l : Launch) {g : hp_H} {v0 : Nat} {v1 : Int32} {v2 : Int32} {v3 : Int32} {u4 : Int32} {k0 : Int32} {k1 : Int32} {k2 : Int32} {k3 : Nat} (hrc : ∀ (h : hp_H) (y0 : Nat) (y1 : Int32) (y2 : Int32) (y3 : Int32) (r : hp_H), rc h y0 y1 y2 y3 = some r → hp_Cn l yX1_pairFrom mX1_pairFrom (dd + 3) false 0 0 [.ref y0, .int y1, .int y2, .int y3] h (fun v h2 => none = v ∧ r = h2)) {r : ((Int32 × hp_H) ⊕ hp_H)} (hf : jX1_pairFrom_156_65 rc g v0 v1 v2 v3 u4 k0 k1 k2 k3 = some r) {Q : Option Value → hp_H → Prop} (kb : ∀ t, r = .inl t → hp_G l mX1_pairFrom none (dd + 4) false Q false 0 0 65 [(0, .ref v0), (1, .int v1), (2, .int v2), (3, .int v3), (4, .int t.1)] [] t.2) (ke : ∀ x, r = .inr x → hp_G l mX1_pairFrom none (dd + 4) false Q false 0 0 173 [(0, .ref v0), (1, .int v1), (2, .int v2), (3, .int v3)] [] x) : hp_G l mX1_pairFrom none (dd + 4) false Q false 0 0 156 [(0, .ref v0), (1, .int v1), (2, .int v2), (3, .int v3), (4, .int u4)] [.int k0, .int k1, .int k2, .ref k3] g := by
  unfold jX1_pairFrom_156_65 at hf
  replace hf := ob_ hf
  obtain ⟨o31, eo31, hf⟩ := hf
  replace hf := ob_ hf
  obtain ⟨r32, er32, hf⟩ := hf
  refine clX1_47 (as := [.int k2, .int k1, .int k0]) (st := []) rfl (hrc _ _ _ _ _ _ er32) rfl (by omega) (Nat.le_of_ble_eq_true rfl) eo31 dX1_pairFrom_156 rfl (?_ : hp_G _ _ _ _ _ _ _ _ _ 159 _ _ _)
  refine hp_aload_n 0 dX1_pairFrom_159 rfl rfl (?_ : hp_G _ _ _ _ _ _ _ _ _ 160 _ _ _)
  replace hf := ob_ hf
  obtain ⟨x33, ex33, hf⟩ := hf
  refine fgX1_9 rfl dX1_pairFrom_160 ex33 (?_ : hp_G _ _ _ _ _ _ _ _ _ 163 _ _ _)
  refine hp_iload 4 dX1_pairFrom_163 rfl (?_ : hp_G _ _ _ _ _ _ _ _ _ 165 _ _ _)
  refine hp_iconst (v := (-1)) dX1_pairFrom_165 ic_m1 (?_ : hp_G _ _ _ _ _ _ _ _ _ 166 _ _ _)
  replace hf := ob_ hf
  obtain ⟨h34, eh34, hf⟩ := hf
  refine hp_iastore dX1_pairFrom_166 eh34 (?_ : hp_G _ _ _ _ _ _ _ _ _ 167 _ _ _)
  exact hp_sub [0, 1, 2, 3, 4] rfl (tjX1_pairFrom_167_65 l hrc hf kb ke)
noncomputable def jX1_pairFrom_137_65 (rc : hp_H → Nat → Int32 → Int32 → Int32 → Option hp_H) (g : hp_H) (v0 : Nat) (v1 : Int32) (v2 : Int32) (v3 : Int32) (u4 : Int32) (k0 : Int32) : Option ((Int32 × hp_H) ⊕ hp_H) :=
if k0 = 0 then
(jX1_pairFrom_156_65 rc g v0 v1 v2 v3 u4 (v3 + 1) v2 (v1 + 1) v0)
else
(jX1_pairFrom_156_65 rc g v0 v1 v2 v3 u4 v3 v2 (v1 + 1) v0)
set_option maxRecDepth 20000 in
set_option maxHeartbeats 4000000 in
theorem tjX1_pairFrom_137_65 {dd : Nat} {rc : hp_H → Nat → Int32 → Int32 → Int32 → Option hp_H} (l : Launch) {g : hp_H} {v0 : Nat} {v1 : Int32} {v2 : Int32} {v3 : Int32} {u4 : Int32} {k0 : Int32} (hrc : ∀ (h : hp_H) (y0 : Nat) (y1 : Int32) (y2 : Int32) (y3 : Int32) (r : hp_H), rc h y0 y1 y2 y3 = some r → hp_Cn l yX1_pairFrom mX1_pairFrom (dd + 3) false 0 0 [.ref y0, .int y1, .int y2, .int y3] h (fun v h2 => none = v ∧ r = h2)) {r : ((Int32 × hp_H) ⊕ hp_H)} (hf : jX1_pairFrom_137_65 rc g v0 v1 v2 v3 u4 k0 = some r) {Q : Option Value → hp_H → Prop} (kb : ∀ t, r = .inl t → hp_G l mX1_pairFrom none (dd + 4) false Q false 0 0 65 [(0, .ref v0), (1, .int v1), (2, .int v2), (3, .int v3), (4, .int t.1)] [] t.2) (ke : ∀ x, r = .inr x → hp_G l mX1_pairFrom none (dd + 4) false Q false 0 0 173 [(0, .ref v0), (1, .int v1), (2, .int v2), (3, .int v3)] [] x) : hp_G l mX1_pairFrom none (dd + 4) false Q false 0 0 137 [(0, .ref v0), (1, .int v1), (2, .int v2), (3, .int v3), (4, .int u4)] [.int k0] g := by
  unfold jX1_pairFrom_137_65 at hf
  refine hp_istore (lv' := [(5, .int k0), (0, .ref v0), (1, .int v1), (2, .int v2), (3, .int v3), (4, .int u4)]) dX1_pairFrom_137 (Nat.le_of_ble_eq_true rfl) rfl (?_ : hp_G _ _ _ _ _ _ _ _ _ 139 _ _ _)
  refine hp_aload_n 1 dX1_pairFrom_139 rfl rfl (?_ : hp_G _ _ _ _ _ _ _ _ _ 140 _ _ _)
  refine hp_iload_n 2 dX1_pairFrom_140 rfl rfl (?_ : hp_G _ _ _ _ _ _ _ _ _ 141 _ _ _)
  refine hp_iconst (v := 1) dX1_pairFrom_141 ic_1 (?_ : hp_G _ _ _ _ _ _ _ _ _ 142 _ _ _)
  refine hp_iadd dX1_pairFrom_142 (?_ : hp_G _ _ _ _ _ _ _ _ _ 143 _ _ _)
  refine hp_iload_n 3 dX1_pairFrom_143 rfl rfl (?_ : hp_G _ _ _ _ _ _ _ _ _ 144 _ _ _)
  refine hp_iload 0 dX1_pairFrom_144 rfl (?_ : hp_G _ _ _ _ _ _ _ _ _ 146 _ _ _)
  refine hp_if_eq (tgt := 153) dX1_pairFrom_146 rfl (fun c30 => ?_) (fun c30 => (?_ : hp_G _ _ _ _ _ _ _ _ _ 149 _ _ _))
  · replace hf := ot_ c30 hf
    refine hp_iload_n 4 dX1_pairFrom_153 rfl rfl (?_ : hp_G _ _ _ _ _ _ _ _ _ 154 _ _ _)
    refine hp_iconst (v := 1) dX1_pairFrom_154 ic_1 (?_ : hp_G _ _ _ _ _ _ _ _ _ 155 _ _ _)
    refine hp_iadd dX1_pairFrom_155 (?_ : hp_G _ _ _ _ _ _ _ _ _ 156 _ _ _)
    exact hp_sub [1, 2, 3, 4, 5] rfl (tjX1_pairFrom_156_65 l hrc hf kb ke)
  · replace hf := of_ c30 hf
    refine hp_iload_n 4 dX1_pairFrom_149 rfl rfl (?_ : hp_G _ _ _ _ _ _ _ _ _ 150 _ _ _)
    refine hp_goto (tgt := 156) dX1_pairFrom_150 rfl (?_ : hp_G _ _ _ _ _ _ _ _ _ 156 _ _ _)
    exact hp_sub [1, 2, 3, 4, 5] rfl (tjX1_pairFrom_156_65 l hrc hf kb ke)
noncomputable def bX1_pairFrom_65 (rc : hp_H → Nat → Int32 → Int32 → Int32 → Option hp_H) (v0 : Nat) (v1 : Int32) (v2 : Int32) (v3 : Int32) (s : (Int32 × hp_H)) : Option ((Int32 × hp_H) ⊕ hp_H) :=
(gq_ s.2 v0 1 2).bind fun x8 =>
(gi_ s.2 x8 6 1).bind fun x9 =>
if x9 ≤ s.1 then
(some (.inr s.2))
else
((gq_ s.2 v0 1 0).bind fun x11 =>
(al_ s.2 x11 s.1).bind fun x12 =>
if x12 = (-1) then
((gq_ s.2 v0 1 0).bind fun x15 =>
(ax_ s.2 x15 v1 s.1).bind fun h16 =>
(gq_ h16 v0 1 0).bind fun x17 =>
(ax_ h16 x17 s.1 v1).bind fun h18 =>
(gq_ h18 v0 1 2).bind fun x19 =>
(gq_ h18 x19 6 0).bind fun x20 =>
(ql_ h18 x20 v1).bind fun x21 =>
(hg_o h18 x21 2).bind fun o22 =>
(fX2_worst h18 x21).bind fun r23 =>
(gq_ h18 v0 1 2).bind fun x24 =>
(gq_ h18 x24 6 0).bind fun x25 =>
(ql_ h18 x25 s.1).bind fun x26 =>
(hg_o h18 x26 2).bind fun o27 =>
(fX2_worst h18 x26).bind fun r28 =>
if r23 = r28 then
(jX1_pairFrom_137_65 rc h18 v0 v1 v2 v3 s.1 1)
else
(jX1_pairFrom_137_65 rc h18 v0 v1 v2 v3 s.1 0))
else
(jX1_pairFrom_167_65 rc s.2 v0 v1 v2 v3 s.1))
set_option maxRecDepth 20000 in
set_option maxHeartbeats 4000000 in
theorem tbX1_pairFrom_65 {dd : Nat} {rc : hp_H → Nat → Int32 → Int32 → Int32 → Option hp_H} (l : Launch) {v0 : Nat} {v1 : Int32} {v2 : Int32} {v3 : Int32} (hrc : ∀ (h : hp_H) (y0 : Nat) (y1 : Int32) (y2 : Int32) (y3 : Int32) (r : hp_H), rc h y0 y1 y2 y3 = some r → hp_Cn l yX1_pairFrom mX1_pairFrom (dd + 3) false 0 0 [.ref y0, .int y1, .int y2, .int y3] h (fun v h2 => none = v ∧ r = h2))  {s : (Int32 × hp_H)} {r : ((Int32 × hp_H) ⊕ hp_H)} (hf : bX1_pairFrom_65 rc  v0 v1 v2 v3 s = some r) {Q : Option Value → hp_H → Prop} (kb : ∀ t, r = .inl t → hp_G l mX1_pairFrom none (dd + 4) false Q false 0 0 65 [(0, .ref v0), (1, .int v1), (2, .int v2), (3, .int v3), (4, .int t.1)] [] t.2) (ke : ∀ x, r = .inr x → hp_G l mX1_pairFrom none (dd + 4) false Q false 0 0 173 [(0, .ref v0), (1, .int v1), (2, .int v2), (3, .int v3)] [] x) : hp_G l mX1_pairFrom none (dd + 4) false Q false 0 0 65 [(0, .ref v0), (1, .int v1), (2, .int v2), (3, .int v3), (4, .int s.1)] [] s.2 := by
  unfold bX1_pairFrom_65 at hf
  refine hp_iload 4 dX1_pairFrom_65 rfl (?_ : hp_G _ _ _ _ _ _ _ _ _ 67 _ _ _)
  refine hp_aload_n 0 dX1_pairFrom_67 rfl rfl (?_ : hp_G _ _ _ _ _ _ _ _ _ 68 _ _ _)
  replace hf := ob_ hf
  obtain ⟨x8, ex8, hf⟩ := hf
  refine fgX1_18 rfl dX1_pairFrom_68 ex8 (?_ : hp_G _ _ _ _ _ _ _ _ _ 71 _ _ _)
  replace hf := ob_ hf
  obtain ⟨x9, ex9, hf⟩ := hf
  refine fgX1_32 rfl dX1_pairFrom_71 ex9 (?_ : hp_G _ _ _ _ _ _ _ _ _ 74 _ _ _)
  refine hp_icmp_ge (tgt := 173) dX1_pairFrom_74 rfl (fun c10 => ?_) (fun c10 => (?_ : hp_G _ _ _ _ _ _ _ _ _ 77 _ _ _))
  · replace hf := ot_ c10 hf
    obtain rfl := Option.some.inj hf
    exact hp_sub [0, 1, 2, 3] rfl (ke _ rfl)
  · replace hf := of_ c10 hf
    refine hp_aload_n 0 dX1_pairFrom_77 rfl rfl (?_ : hp_G _ _ _ _ _ _ _ _ _ 78 _ _ _)
    replace hf := ob_ hf
    obtain ⟨x11, ex11, hf⟩ := hf
    refine fgX1_9 rfl dX1_pairFrom_78 ex11 (?_ : hp_G _ _ _ _ _ _ _ _ _ 81 _ _ _)
    refine hp_iload 4 dX1_pairFrom_81 rfl (?_ : hp_G _ _ _ _ _ _ _ _ _ 83 _ _ _)
    replace hf := ob_ hf
    obtain ⟨x12, ex12, hf⟩ := hf
    refine hp_iaload dX1_pairFrom_83 ex12 (?_ : hp_G _ _ _ _ _ _ _ _ _ 84 _ _ _)
    refine hp_iconst (v := (-1)) dX1_pairFrom_84 ic_m1 (?_ : hp_G _ _ _ _ _ _ _ _ _ 85 _ _ _)
    refine hp_icmp_ne (tgt := 167) dX1_pairFrom_85 rfl (fun c13 => ?_) (fun c13 => (?_ : hp_G _ _ _ _ _ _ _ _ _ 88 _ _ _))
    · replace hf := of_ c13 hf
      exact hp_sub [0, 1, 2, 3, 4] rfl (tjX1_pairFrom_167_65 l hrc hf kb ke)
    · replace hf := ot_ c13 hf
      refine hp_aload_n 0 dX1_pairFrom_88 rfl rfl (?_ : hp_G _ _ _ _ _ _ _ _ _ 89 _ _ _)
      replace hf := ob_ hf
      obtain ⟨x15, ex15, hf⟩ := hf
      refine fgX1_9 rfl dX1_pairFrom_89 ex15 (?_ : hp_G _ _ _ _ _ _ _ _ _ 92 _ _ _)
      refine hp_iload_n 1 dX1_pairFrom_92 rfl rfl (?_ : hp_G _ _ _ _ _ _ _ _ _ 93 _ _ _)
      refine hp_iload 4 dX1_pairFrom_93 rfl (?_ : hp_G _ _ _ _ _ _ _ _ _ 95 _ _ _)
      replace hf := ob_ hf
      obtain ⟨h16, eh16, hf⟩ := hf
      refine hp_iastore dX1_pairFrom_95 eh16 (?_ : hp_G _ _ _ _ _ _ _ _ _ 96 _ _ _)
      refine hp_aload_n 0 dX1_pairFrom_96 rfl rfl (?_ : hp_G _ _ _ _ _ _ _ _ _ 97 _ _ _)
      replace hf := ob_ hf
      obtain ⟨x17, ex17, hf⟩ := hf
      refine fgX1_9 rfl dX1_pairFrom_97 ex17 (?_ : hp_G _ _ _ _ _ _ _ _ _ 100 _ _ _)
      refine hp_iload 4 dX1_pairFrom_100 rfl (?_ : hp_G _ _ _ _ _ _ _ _ _ 102 _ _ _)
      refine hp_iload_n 1 dX1_pairFrom_102 rfl rfl (?_ : hp_G _ _ _ _ _ _ _ _ _ 103 _ _ _)
      replace hf := ob_ hf
      obtain ⟨h18, eh18, hf⟩ := hf
      refine hp_iastore dX1_pairFrom_103 eh18 (?_ : hp_G _ _ _ _ _ _ _ _ _ 104 _ _ _)
      refine hp_aload_n 0 dX1_pairFrom_104 rfl rfl (?_ : hp_G _ _ _ _ _ _ _ _ _ 105 _ _ _)
      replace hf := ob_ hf
      obtain ⟨x19, ex19, hf⟩ := hf
      refine fgX1_18 rfl dX1_pairFrom_105 ex19 (?_ : hp_G _ _ _ _ _ _ _ _ _ 108 _ _ _)
      replace hf := ob_ hf
      obtain ⟨x20, ex20, hf⟩ := hf
      refine fgX1_37 rfl dX1_pairFrom_108 ex20 (?_ : hp_G _ _ _ _ _ _ _ _ _ 111 _ _ _)
      refine hp_iload_n 1 dX1_pairFrom_111 rfl rfl (?_ : hp_G _ _ _ _ _ _ _ _ _ 112 _ _ _)
      replace hf := ob_ hf
      obtain ⟨x21, ex21, hf⟩ := hf
      refine hp_aaload dX1_pairFrom_112 ex21 (?_ : hp_G _ _ _ _ _ _ _ _ _ 113 _ _ _)
      replace hf := ob_ hf
      obtain ⟨o22, eo22, hf⟩ := hf
      replace hf := ob_ hf
      obtain ⟨r23, er23, hf⟩ := hf
      refine clX1_57 (as := []) (st := []) rfl (kX2_worst l er23) rfl (by omega) (Nat.le_of_ble_eq_true rfl) eo22 dX1_pairFrom_113 rfl (?_ : hp_G _ _ _ _ _ _ _ _ _ 116 _ _ _)
      refine hp_aload_n 0 dX1_pairFrom_116 rfl rfl (?_ : hp_G _ _ _ _ _ _ _ _ _ 117 _ _ _)
      replace hf := ob_ hf
      obtain ⟨x24, ex24, hf⟩ := hf
      refine fgX1_18 rfl dX1_pairFrom_117 ex24 (?_ : hp_G _ _ _ _ _ _ _ _ _ 120 _ _ _)
      replace hf := ob_ hf
      obtain ⟨x25, ex25, hf⟩ := hf
      refine fgX1_37 rfl dX1_pairFrom_120 ex25 (?_ : hp_G _ _ _ _ _ _ _ _ _ 123 _ _ _)
      refine hp_iload 4 dX1_pairFrom_123 rfl (?_ : hp_G _ _ _ _ _ _ _ _ _ 125 _ _ _)
      replace hf := ob_ hf
      obtain ⟨x26, ex26, hf⟩ := hf
      refine hp_aaload dX1_pairFrom_125 ex26 (?_ : hp_G _ _ _ _ _ _ _ _ _ 126 _ _ _)
      replace hf := ob_ hf
      obtain ⟨o27, eo27, hf⟩ := hf
      replace hf := ob_ hf
      obtain ⟨r28, er28, hf⟩ := hf
      refine clX1_57 (as := []) (st := [.int r23]) rfl (kX2_worst l er28) rfl (by omega) (Nat.le_of_ble_eq_true rfl) eo27 dX1_pairFrom_126 rfl (?_ : hp_G _ _ _ _ _ _ _ _ _ 129 _ _ _)
      refine hp_icmp_ne (tgt := 136) dX1_pairFrom_129 rfl (fun c29 => ?_) (fun c29 => (?_ : hp_G _ _ _ _ _ _ _ _ _ 132 _ _ _))
      · replace hf := of_ c29 hf
        refine hp_iconst (v := 0) dX1_pairFrom_136 ic_0 (?_ : hp_G _ _ _ _ _ _ _ _ _ 137 _ _ _)
        exact hp_sub [0, 1, 2, 3, 4] rfl (tjX1_pairFrom_137_65 l hrc hf kb ke)
      · replace hf := ot_ c29 hf
        refine hp_iconst (v := 1) dX1_pairFrom_132 ic_1 (?_ : hp_G _ _ _ _ _ _ _ _ _ 133 _ _ _)
        refine hp_goto (tgt := 137) dX1_pairFrom_133 rfl (?_ : hp_G _ _ _ _ _ _ _ _ _ 137 _ _ _)
        exact hp_sub [0, 1, 2, 3, 4] rfl (tjX1_pairFrom_137_65 l hrc hf kb ke)
set_option maxRecDepth 20000 in
set_option maxHeartbeats 4000000 in
theorem tlX1_pairFrom_65 {dd : Nat} {rc : hp_H → Nat → Int32 → Int32 → Int32 → Option hp_H} (l : Launch) {v0 : Nat} {v1 : Int32} {v2 : Int32} {v3 : Int32} (hrc : ∀ (h : hp_H) (y0 : Nat) (y1 : Int32) (y2 : Int32) (y3 : Int32) (r : hp_H), rc h y0 y1 y2 y3 = some r → hp_Cn l yX1_pairFrom mX1_pairFrom (dd + 3) false 0 0 [.ref y0, .int y1, .int y2, .int y3] h (fun v h2 => none = v ∧ r = h2))  (q : Nat) {s : (Int32 × hp_H)} {x : hp_H} (hf : it_ (bX1_pairFrom_65 rc  v0 v1 v2 v3) q s = some x) {Q : Option Value → hp_H → Prop} (ke : ∀ e, x = e → hp_G l mX1_pairFrom none (dd + 4) false Q false 0 0 173 [(0, .ref v0), (1, .int v1), (2, .int v2), (3, .int v3)] [] e) : hp_G l mX1_pairFrom none (dd + 4) false Q false 0 0 65 [(0, .ref v0), (1, .int v1), (2, .int v2), (3, .int v3), (4, .int s.1)] [] s.2 := by
  exact it_rule (f := bX1_pairFrom_65 rc  v0 v1 v2 v3) (fun s => hp_G l mX1_pairFrom none (dd + 4) false Q false 0 0 65 [(0, .ref v0), (1, .int v1), (2, .int v2), (3, .int v3), (4, .int s.1)] [] s.2) (fun x => (∀ e, x = e → hp_G l mX1_pairFrom none (dd + 4) false Q false 0 0 173 [(0, .ref v0), (1, .int v1), (2, .int v2), (3, .int v3)] [] e)) (fun s r h1 h2 h3 => tbX1_pairFrom_65 l hrc h1 (fun t e => h2 t e) (fun e he => h3 _ he _ rfl)) q s x hf ke
noncomputable def jX1_pairFrom_196 (rc : hp_H → Nat → Int32 → Int32 → Int32 → Option hp_H) (g : hp_H)  (u0 : Nat) (u1 : Int32)  : Option hp_H :=
(gq_ g u0 1 0).bind fun x37 =>
(ax_ g x37 u1 (-1)).bind fun h38 =>
some h38
set_option maxRecDepth 20000 in
set_option maxHeartbeats 4000000 in
theorem tjX1_pairFrom_196 {dd : Nat} {rc : hp_H → Nat → Int32 → Int32 → Int32 → Option hp_H} (l : Launch) {g : hp_H}  {u0 : Nat} {u1 : Int32}  (hrc : ∀ (h : hp_H) (y0 : Nat) (y1 : Int32) (y2 : Int32) (y3 : Int32) (r : hp_H), rc h y0 y1 y2 y3 = some r → hp_Cn l yX1_pairFrom mX1_pairFrom (dd + 3) false 0 0 [.ref y0, .int y1, .int y2, .int y3] h (fun v h2 => none = v ∧ r = h2)) {r : hp_H} (hf : jX1_pairFrom_196 rc g u0 u1 = some r) {Q : Option Value → hp_H → Prop} (kr : Q (none) r) : hp_G l mX1_pairFrom none (dd + 4) false Q false 0 0 196 [(0, .ref u0), (1, .int u1)] [] g := by
  unfold jX1_pairFrom_196 at hf
  refine hp_aload_n 0 dX1_pairFrom_196 rfl rfl (?_ : hp_G _ _ _ _ _ _ _ _ _ 197 _ _ _)
  replace hf := ob_ hf
  obtain ⟨x37, ex37, hf⟩ := hf
  refine fgX1_9 rfl dX1_pairFrom_197 ex37 (?_ : hp_G _ _ _ _ _ _ _ _ _ 200 _ _ _)
  refine hp_iload_n 1 dX1_pairFrom_200 rfl rfl (?_ : hp_G _ _ _ _ _ _ _ _ _ 201 _ _ _)
  refine hp_iconst (v := (-1)) dX1_pairFrom_201 ic_m1 (?_ : hp_G _ _ _ _ _ _ _ _ _ 202 _ _ _)
  replace hf := ob_ hf
  obtain ⟨h38, eh38, hf⟩ := hf
  refine hp_iastore dX1_pairFrom_202 eh38 (?_ : hp_G _ _ _ _ _ _ _ _ _ 203 _ _ _)
  obtain rfl := Option.some.inj hf
  exact hp_vret kr (fun z => z) rfl dX1_pairFrom_203
noncomputable def wX1_pairFrom (rc : hp_H → Nat → Int32 → Int32 → Int32 → Option hp_H) (h : hp_H) (a0 : Nat) (p1 : Int32) (p2 : Int32) (p3 : Int32) : Option hp_H :=
(gq_ h a0 1 2).bind fun x1 =>
(gi_ h x1 6 1).bind fun x2 =>
if p1 < x2 then
((gq_ h a0 1 0).bind fun x4 =>
(al_ h x4 p1).bind fun x5 =>
if x5 = (-1) then
((some (p1 + 1)).bind fun x7 =>
(it_ (bX1_pairFrom_65 rc  a0 p1 p2 p3) fu_ (x7, h)).bind fun x35 =>
if p2 ≤ 0 then
(jX1_pairFrom_196 rc x35 a0 p1)
else
((gq_ x35 a0 1 0).bind fun x39 =>
(ax_ x35 x39 p1 9).bind fun h40 =>
(hg_o h40 a0 1).bind fun o41 =>
(rc h40 a0 (p1 + 1) (p2 - 1) p3).bind fun r42 =>
jX1_pairFrom_196 rc r42 a0 p1))
else
((hg_o h a0 1).bind fun o43 =>
(rc h a0 (p1 + 1) p2 p3).bind fun r44 =>
some r44))
else
((gi_ h a0 1 3).bind fun x45 =>
if x45 ≤ p3 then
(some h)
else
((pi_ h a0 1 3 p3).bind fun h47 =>
(gq_ h47 a0 1 0).bind fun x48 =>
(gq_ h47 a0 1 1).bind fun x49 =>
(cp_ h47 x48 0 x49 0 6).bind fun h50 =>
some h50))
set_option maxRecDepth 20000 in
set_option maxHeartbeats 4000000 in
theorem tX1_pairFrom {dd : Nat} {rc : hp_H → Nat → Int32 → Int32 → Int32 → Option hp_H} (l : Launch) {h : hp_H} {a0 : Nat} {p1 : Int32} {p2 : Int32} {p3 : Int32} (hrc : ∀ (h : hp_H) (y0 : Nat) (y1 : Int32) (y2 : Int32) (y3 : Int32) (r : hp_H), rc h y0 y1 y2 y3 = some r → hp_Cn l yX1_pairFrom mX1_pairFrom (dd + 3) false 0 0 [.ref y0, .int y1, .int y2, .int y3] h (fun v h2 => none = v ∧ r = h2)) {r : hp_H} (hf : wX1_pairFrom rc h a0 p1 p2 p3 = some r) {Q : Option Value → hp_H → Prop} (kr : Q (none) r) : hp_G l mX1_pairFrom none (dd + 4) false Q false 0 0 0 [(0, .ref a0), (1, .int p1), (2, .int p2), (3, .int p3)] [] h := by
  unfold wX1_pairFrom at hf
  refine hp_iload_n 1 dX1_pairFrom_0 rfl rfl (?_ : hp_G _ _ _ _ _ _ _ _ _ 1 _ _ _)
  refine hp_aload_n 0 dX1_pairFrom_1 rfl rfl (?_ : hp_G _ _ _ _ _ _ _ _ _ 2 _ _ _)
  replace hf := ob_ hf
  obtain ⟨x1, ex1, hf⟩ := hf
  refine fgX1_18 rfl dX1_pairFrom_2 ex1 (?_ : hp_G _ _ _ _ _ _ _ _ _ 5 _ _ _)
  replace hf := ob_ hf
  obtain ⟨x2, ex2, hf⟩ := hf
  refine fgX1_32 rfl dX1_pairFrom_5 ex2 (?_ : hp_G _ _ _ _ _ _ _ _ _ 8 _ _ _)
  refine hp_icmp_lt (tgt := 40) dX1_pairFrom_8 rfl (fun c3 => ?_) (fun c3 => (?_ : hp_G _ _ _ _ _ _ _ _ _ 11 _ _ _))
  · replace hf := ot_ c3 hf
    refine hp_aload_n 0 dX1_pairFrom_40 rfl rfl (?_ : hp_G _ _ _ _ _ _ _ _ _ 41 _ _ _)
    replace hf := ob_ hf
    obtain ⟨x4, ex4, hf⟩ := hf
    refine fgX1_9 rfl dX1_pairFrom_41 ex4 (?_ : hp_G _ _ _ _ _ _ _ _ _ 44 _ _ _)
    refine hp_iload_n 1 dX1_pairFrom_44 rfl rfl (?_ : hp_G _ _ _ _ _ _ _ _ _ 45 _ _ _)
    replace hf := ob_ hf
    obtain ⟨x5, ex5, hf⟩ := hf
    refine hp_iaload dX1_pairFrom_45 ex5 (?_ : hp_G _ _ _ _ _ _ _ _ _ 46 _ _ _)
    refine hp_iconst (v := (-1)) dX1_pairFrom_46 ic_m1 (?_ : hp_G _ _ _ _ _ _ _ _ _ 47 _ _ _)
    refine hp_icmp_eq (tgt := 60) dX1_pairFrom_47 rfl (fun c6 => ?_) (fun c6 => (?_ : hp_G _ _ _ _ _ _ _ _ _ 50 _ _ _))
    · replace hf := ot_ c6 hf
      refine hp_iload_n 1 dX1_pairFrom_60 rfl rfl (?_ : hp_G _ _ _ _ _ _ _ _ _ 61 _ _ _)
      refine hp_iconst (v := 1) dX1_pairFrom_61 ic_1 (?_ : hp_G _ _ _ _ _ _ _ _ _ 62 _ _ _)
      refine hp_iadd dX1_pairFrom_62 (?_ : hp_G _ _ _ _ _ _ _ _ _ 63 _ _ _)
      replace hf := ob_ hf
      obtain ⟨x7, ex7, hf⟩ := hf
      refine hp_nmi ex7 ?_
      refine hp_istore (lv' := [(4, .int x7), (0, .ref a0), (1, .int p1), (2, .int p2), (3, .int p3)]) dX1_pairFrom_63 (Nat.le_of_ble_eq_true rfl) rfl (?_ : hp_G _ _ _ _ _ _ _ _ _ 65 _ _ _)
      replace hf := ob_ hf
      obtain ⟨x35, ex35, hf⟩ := hf
      refine hp_sub [1, 2, 3, 4, 0] rfl ?_
      refine tlX1_pairFrom_65 l hrc fu_ ex35 (fun y hy => ?_)
      obtain rfl := hy
      refine hp_iload_n 2 dX1_pairFrom_173 rfl rfl (?_ : hp_G _ _ _ _ _ _ _ _ _ 174 _ _ _)
      refine hp_if_le (tgt := 196) dX1_pairFrom_174 rfl (fun c36 => ?_) (fun c36 => (?_ : hp_G _ _ _ _ _ _ _ _ _ 177 _ _ _))
      · replace hf := ot_ c36 hf
        exact hp_sub [0, 1] rfl (tjX1_pairFrom_196 l hrc hf kr)
      · replace hf := of_ c36 hf
        refine hp_aload_n 0 dX1_pairFrom_177 rfl rfl (?_ : hp_G _ _ _ _ _ _ _ _ _ 178 _ _ _)
        replace hf := ob_ hf
        obtain ⟨x39, ex39, hf⟩ := hf
        refine fgX1_9 rfl dX1_pairFrom_178 ex39 (?_ : hp_G _ _ _ _ _ _ _ _ _ 181 _ _ _)
        refine hp_iload_n 1 dX1_pairFrom_181 rfl rfl (?_ : hp_G _ _ _ _ _ _ _ _ _ 182 _ _ _)
        refine hp_bipush (v := 9) dX1_pairFrom_182 bi_9 (?_ : hp_G _ _ _ _ _ _ _ _ _ 184 _ _ _)
        replace hf := ob_ hf
        obtain ⟨h40, eh40, hf⟩ := hf
        refine hp_iastore dX1_pairFrom_184 eh40 (?_ : hp_G _ _ _ _ _ _ _ _ _ 185 _ _ _)
        refine hp_aload_n 0 dX1_pairFrom_185 rfl rfl (?_ : hp_G _ _ _ _ _ _ _ _ _ 186 _ _ _)
        refine hp_iload_n 1 dX1_pairFrom_186 rfl rfl (?_ : hp_G _ _ _ _ _ _ _ _ _ 187 _ _ _)
        refine hp_iconst (v := 1) dX1_pairFrom_187 ic_1 (?_ : hp_G _ _ _ _ _ _ _ _ _ 188 _ _ _)
        refine hp_iadd dX1_pairFrom_188 (?_ : hp_G _ _ _ _ _ _ _ _ _ 189 _ _ _)
        refine hp_iload_n 2 dX1_pairFrom_189 rfl rfl (?_ : hp_G _ _ _ _ _ _ _ _ _ 190 _ _ _)
        refine hp_iconst (v := 1) dX1_pairFrom_190 ic_1 (?_ : hp_G _ _ _ _ _ _ _ _ _ 191 _ _ _)
        refine hp_isub dX1_pairFrom_191 (?_ : hp_G _ _ _ _ _ _ _ _ _ 192 _ _ _)
        refine hp_iload_n 3 dX1_pairFrom_192 rfl rfl (?_ : hp_G _ _ _ _ _ _ _ _ _ 193 _ _ _)
        replace hf := ob_ hf
        obtain ⟨o41, eo41, hf⟩ := hf
        replace hf := ob_ hf
        obtain ⟨r42, er42, hf⟩ := hf
        refine clX1_47 (as := [.int (p1 + 1), .int (p2 - 1), .int p3]) (st := []) rfl (hrc _ _ _ _ _ _ er42) rfl (by omega) (Nat.le_of_ble_eq_true rfl) eo41 dX1_pairFrom_193 rfl (?_ : hp_G _ _ _ _ _ _ _ _ _ 196 _ _ _)
        exact hp_sub [0, 1] rfl (tjX1_pairFrom_196 l hrc hf kr)
    · replace hf := of_ c6 hf
      refine hp_aload_n 0 dX1_pairFrom_50 rfl rfl (?_ : hp_G _ _ _ _ _ _ _ _ _ 51 _ _ _)
      refine hp_iload_n 1 dX1_pairFrom_51 rfl rfl (?_ : hp_G _ _ _ _ _ _ _ _ _ 52 _ _ _)
      refine hp_iconst (v := 1) dX1_pairFrom_52 ic_1 (?_ : hp_G _ _ _ _ _ _ _ _ _ 53 _ _ _)
      refine hp_iadd dX1_pairFrom_53 (?_ : hp_G _ _ _ _ _ _ _ _ _ 54 _ _ _)
      refine hp_iload_n 2 dX1_pairFrom_54 rfl rfl (?_ : hp_G _ _ _ _ _ _ _ _ _ 55 _ _ _)
      refine hp_iload_n 3 dX1_pairFrom_55 rfl rfl (?_ : hp_G _ _ _ _ _ _ _ _ _ 56 _ _ _)
      replace hf := ob_ hf
      obtain ⟨o43, eo43, hf⟩ := hf
      replace hf := ob_ hf
      obtain ⟨r44, er44, hf⟩ := hf
      refine clX1_47 (as := [.int (p1 + 1), .int p2, .int p3]) (st := []) rfl (hrc _ _ _ _ _ _ er44) rfl (by omega) (Nat.le_of_ble_eq_true rfl) eo43 dX1_pairFrom_56 rfl (?_ : hp_G _ _ _ _ _ _ _ _ _ 59 _ _ _)
      obtain rfl := Option.some.inj hf
      exact hp_vret kr (fun z => z) rfl dX1_pairFrom_59
  · replace hf := of_ c3 hf
    refine hp_iload_n 3 dX1_pairFrom_11 rfl rfl (?_ : hp_G _ _ _ _ _ _ _ _ _ 12 _ _ _)
    refine hp_aload_n 0 dX1_pairFrom_12 rfl rfl (?_ : hp_G _ _ _ _ _ _ _ _ _ 13 _ _ _)
    replace hf := ob_ hf
    obtain ⟨x45, ex45, hf⟩ := hf
    refine fgX1_22 rfl dX1_pairFrom_13 ex45 (?_ : hp_G _ _ _ _ _ _ _ _ _ 16 _ _ _)
    refine hp_icmp_ge (tgt := 39) dX1_pairFrom_16 rfl (fun c46 => ?_) (fun c46 => (?_ : hp_G _ _ _ _ _ _ _ _ _ 19 _ _ _))
    · replace hf := ot_ c46 hf
      obtain rfl := Option.some.inj hf
      exact hp_vret kr (fun z => z) rfl dX1_pairFrom_39
    · replace hf := of_ c46 hf
      refine hp_aload_n 0 dX1_pairFrom_19 rfl rfl (?_ : hp_G _ _ _ _ _ _ _ _ _ 20 _ _ _)
      refine hp_iload_n 3 dX1_pairFrom_20 rfl rfl (?_ : hp_G _ _ _ _ _ _ _ _ _ 21 _ _ _)
      replace hf := ob_ hf
      obtain ⟨h47, eh47, hf⟩ := hf
      refine fpX1_22 rfl dX1_pairFrom_21 eh47 (?_ : hp_G _ _ _ _ _ _ _ _ _ 24 _ _ _)
      refine hp_aload_n 0 dX1_pairFrom_24 rfl rfl (?_ : hp_G _ _ _ _ _ _ _ _ _ 25 _ _ _)
      replace hf := ob_ hf
      obtain ⟨x48, ex48, hf⟩ := hf
      refine fgX1_9 rfl dX1_pairFrom_25 ex48 (?_ : hp_G _ _ _ _ _ _ _ _ _ 28 _ _ _)
      refine hp_iconst (v := 0) dX1_pairFrom_28 ic_0 (?_ : hp_G _ _ _ _ _ _ _ _ _ 29 _ _ _)
      refine hp_aload_n 0 dX1_pairFrom_29 rfl rfl (?_ : hp_G _ _ _ _ _ _ _ _ _ 30 _ _ _)
      replace hf := ob_ hf
      obtain ⟨x49, ex49, hf⟩ := hf
      refine fgX1_15 rfl dX1_pairFrom_30 ex49 (?_ : hp_G _ _ _ _ _ _ _ _ _ 33 _ _ _)
      refine hp_iconst (v := 0) dX1_pairFrom_33 ic_0 (?_ : hp_G _ _ _ _ _ _ _ _ _ 34 _ _ _)
      refine hp_bipush (v := 6) dX1_pairFrom_34 bi_6 (?_ : hp_G _ _ _ _ _ _ _ _ _ 36 _ _ _)
      replace hf := ob_ hf
      obtain ⟨h50, eh50, hf⟩ := hf
      refine hp_copy (List.forall_mem_cons.mpr ⟨wd_499, (List.forall_mem_cons.mpr ⟨wd_501, (List.forall_mem_cons.mpr ⟨wd_500, (List.forall_mem_cons.mpr ⟨wd_86, (fun _ h => absurd h List.not_mem_nil)⟩)⟩)⟩)⟩) (by refine ⟨by omega, ?_⟩; show 0 + (7 + 11) ≤ _; omega) dX1_pairFrom_36 eh50 (?_ : hp_G _ _ _ _ _ _ _ _ _ 39 _ _ _)
      obtain rfl := Option.some.inj hf
      exact hp_vret kr (fun z => z) rfl dX1_pairFrom_39
noncomputable def fX1_pairFrom : Nat → hp_H → Nat → Int32 → Int32 → Int32 → Option hp_H
  | 0 => fun _ _ _ _ _ => none
  | q + 1 => fun h a0 p1 p2 p3 => wX1_pairFrom (fX1_pairFrom q) h a0 p1 p2 p3
theorem kX1_pairFrom (q : Nat) (l : Launch) : ∀ {h : hp_H} {a0 : Nat} {p1 : Int32} {p2 : Int32} {p3 : Int32} {r : hp_H}, fX1_pairFrom q h a0 p1 p2 p3 = some r → hp_Cn l yX1_pairFrom mX1_pairFrom (q + 3) false 0 0 [.ref a0, .int p1, .int p2, .int p3] h (fun v h2 => none = v ∧ r = h2) := by
  induction q with
  | zero => intro h a0 p1 p2 p3 r hf; cases hf
  | succ q ih =>
    intro h a0 p1 p2 p3 r hf
    have hg := tX1_pairFrom (dd := q) (rc := fX1_pairFrom q) l (fun h y0 y1 y2 y3 r e => ih e) (hf : wX1_pairFrom (fX1_pairFrom q) h a0 p1 p2 p3 = some r) (Q := fun v h2 => none = v ∧ r = h2) ⟨rfl, rfl⟩
    rw [show q + 1 + 3 = q + 4 by omega]
    exact hp_of (by decide) rfl (fun z => by cases z) (Nat.le_of_ble_eq_true rfl) hg
noncomputable def jX1_find_55_19 (g : hp_H) (v0 : Nat) (u1 : Int32) (u2 : Int32)  : Option ((Int32 × Int32 × hp_H) ⊕ (Int32 × hp_H)) :=
(some (u2 + 1)).bind fun x12 =>
some (.inl (u1, x12, g))
set_option maxRecDepth 20000 in
set_option maxHeartbeats 4000000 in
theorem tjX1_find_55_19 (l : Launch) {g : hp_H} {v0 : Nat} {u1 : Int32} {u2 : Int32}  {r : ((Int32 × Int32 × hp_H) ⊕ (Int32 × hp_H))} (hf : jX1_find_55_19 g v0 u1 u2 = some r) {Q : Option Value → hp_H → Prop} (kb : ∀ t, r = .inl t → hp_G l mX1_find none 12 false Q false 0 0 19 [(0, .ref v0), (1, .int t.1), (2, .int t.2.1)] [] t.2.2) (ke : ∀ x, r = .inr x → hp_G l mX1_find none 12 false Q false 0 0 61 [(0, .ref v0), (1, .int x.1)] [] x.2) : hp_G l mX1_find none 12 false Q false 0 0 55 [(0, .ref v0), (1, .int u1), (2, .int u2)] [] g := by
  unfold jX1_find_55_19 at hf
  replace hf := ob_ hf
  obtain ⟨x12, ex12, hf⟩ := hf
  refine hp_iinc (v := x12) (lv' := [(2, .int x12), (0, .ref v0), (1, .int u1)]) 2 dX1_find_55 rfl (hp_inc ic_1 ex12) (Nat.le_of_ble_eq_true rfl) rfl (?_ : hp_G _ _ _ _ _ _ _ _ _ 58 _ _ _)
  refine hp_goto (tgt := 19) dX1_find_58 rfl (?_ : hp_G _ _ _ _ _ _ _ _ _ 19 _ _ _)
  obtain rfl := Option.some.inj hf
  exact hp_sub [1, 2, 0] rfl (kb _ rfl)
noncomputable def bX1_find_19 (v0 : Nat) (s : (Int32 × Int32 × hp_H)) : Option ((Int32 × Int32 × hp_H) ⊕ (Int32 × hp_H)) :=
(gq_ s.2.2 v0 1 2).bind fun x4 =>
(gi_ s.2.2 x4 6 1).bind fun x5 =>
if x5 ≤ s.2.1 then
(some (.inr (s.1, s.2.2)))
else
((gq_ s.2.2 v0 1 2).bind fun x7 =>
(gq_ s.2.2 x7 6 0).bind fun x8 =>
(ql_ s.2.2 x8 s.2.1).bind fun x9 =>
(gi_ s.2.2 x9 2 3).bind fun x10 =>
if x10 = 0 then
((gq_ s.2.2 v0 1 0).bind fun x13 =>
(ax_ s.2.2 x13 s.2.1 (-1)).bind fun h14 =>
(some (s.1 + 1)).bind fun x15 =>
jX1_find_55_19 h14 v0 x15 s.2.1)
else
(jX1_find_55_19 s.2.2 v0 s.1 s.2.1))
set_option maxRecDepth 20000 in
set_option maxHeartbeats 4000000 in
theorem tbX1_find_19 (l : Launch) {v0 : Nat}  {s : (Int32 × Int32 × hp_H)} {r : ((Int32 × Int32 × hp_H) ⊕ (Int32 × hp_H))} (hf : bX1_find_19  v0 s = some r) {Q : Option Value → hp_H → Prop} (kb : ∀ t, r = .inl t → hp_G l mX1_find none 12 false Q false 0 0 19 [(0, .ref v0), (1, .int t.1), (2, .int t.2.1)] [] t.2.2) (ke : ∀ x, r = .inr x → hp_G l mX1_find none 12 false Q false 0 0 61 [(0, .ref v0), (1, .int x.1)] [] x.2) : hp_G l mX1_find none 12 false Q false 0 0 19 [(0, .ref v0), (1, .int s.1), (2, .int s.2.1)] [] s.2.2 := by
  unfold bX1_find_19 at hf
  refine hp_iload_n 2 dX1_find_19 rfl rfl (?_ : hp_G _ _ _ _ _ _ _ _ _ 20 _ _ _)
  refine hp_aload_n 0 dX1_find_20 rfl rfl (?_ : hp_G _ _ _ _ _ _ _ _ _ 21 _ _ _)
  replace hf := ob_ hf
  obtain ⟨x4, ex4, hf⟩ := hf
  refine fgX1_18 rfl dX1_find_21 ex4 (?_ : hp_G _ _ _ _ _ _ _ _ _ 24 _ _ _)
  replace hf := ob_ hf
  obtain ⟨x5, ex5, hf⟩ := hf
  refine fgX1_32 rfl dX1_find_24 ex5 (?_ : hp_G _ _ _ _ _ _ _ _ _ 27 _ _ _)
  refine hp_icmp_ge (tgt := 61) dX1_find_27 rfl (fun c6 => ?_) (fun c6 => (?_ : hp_G _ _ _ _ _ _ _ _ _ 30 _ _ _))
  · replace hf := ot_ c6 hf
    obtain rfl := Option.some.inj hf
    exact hp_sub [0, 1] rfl (ke _ rfl)
  · replace hf := of_ c6 hf
    refine hp_aload_n 0 dX1_find_30 rfl rfl (?_ : hp_G _ _ _ _ _ _ _ _ _ 31 _ _ _)
    replace hf := ob_ hf
    obtain ⟨x7, ex7, hf⟩ := hf
    refine fgX1_18 rfl dX1_find_31 ex7 (?_ : hp_G _ _ _ _ _ _ _ _ _ 34 _ _ _)
    replace hf := ob_ hf
    obtain ⟨x8, ex8, hf⟩ := hf
    refine fgX1_37 rfl dX1_find_34 ex8 (?_ : hp_G _ _ _ _ _ _ _ _ _ 37 _ _ _)
    refine hp_iload_n 2 dX1_find_37 rfl rfl (?_ : hp_G _ _ _ _ _ _ _ _ _ 38 _ _ _)
    replace hf := ob_ hf
    obtain ⟨x9, ex9, hf⟩ := hf
    refine hp_aaload dX1_find_38 ex9 (?_ : hp_G _ _ _ _ _ _ _ _ _ 39 _ _ _)
    replace hf := ob_ hf
    obtain ⟨x10, ex10, hf⟩ := hf
    refine fgX1_41 rfl dX1_find_39 ex10 (?_ : hp_G _ _ _ _ _ _ _ _ _ 42 _ _ _)
    refine hp_if_ne (tgt := 55) dX1_find_42 rfl (fun c11 => ?_) (fun c11 => (?_ : hp_G _ _ _ _ _ _ _ _ _ 45 _ _ _))
    · replace hf := of_ c11 hf
      exact hp_sub [0, 1, 2] rfl (tjX1_find_55_19 l hf kb ke)
    · replace hf := ot_ c11 hf
      refine hp_aload_n 0 dX1_find_45 rfl rfl (?_ : hp_G _ _ _ _ _ _ _ _ _ 46 _ _ _)
      replace hf := ob_ hf
      obtain ⟨x13, ex13, hf⟩ := hf
      refine fgX1_9 rfl dX1_find_46 ex13 (?_ : hp_G _ _ _ _ _ _ _ _ _ 49 _ _ _)
      refine hp_iload_n 2 dX1_find_49 rfl rfl (?_ : hp_G _ _ _ _ _ _ _ _ _ 50 _ _ _)
      refine hp_iconst (v := (-1)) dX1_find_50 ic_m1 (?_ : hp_G _ _ _ _ _ _ _ _ _ 51 _ _ _)
      replace hf := ob_ hf
      obtain ⟨h14, eh14, hf⟩ := hf
      refine hp_iastore dX1_find_51 eh14 (?_ : hp_G _ _ _ _ _ _ _ _ _ 52 _ _ _)
      replace hf := ob_ hf
      obtain ⟨x15, ex15, hf⟩ := hf
      refine hp_iinc (v := x15) (lv' := [(1, .int x15), (0, .ref v0), (2, .int s.2.1)]) 1 dX1_find_52 rfl (hp_inc ic_1 ex15) (Nat.le_of_ble_eq_true rfl) rfl (?_ : hp_G _ _ _ _ _ _ _ _ _ 55 _ _ _)
      exact hp_sub [1, 0, 2] rfl (tjX1_find_55_19 l hf kb ke)
set_option maxRecDepth 20000 in
set_option maxHeartbeats 4000000 in
theorem tlX1_find_19 (l : Launch) {v0 : Nat}  (q : Nat) {s : (Int32 × Int32 × hp_H)} {x : (Int32 × hp_H)} (hf : it_ (bX1_find_19  v0) q s = some x) {Q : Option Value → hp_H → Prop} (ke : ∀ e, x = e → hp_G l mX1_find none 12 false Q false 0 0 61 [(0, .ref v0), (1, .int e.1)] [] e.2) : hp_G l mX1_find none 12 false Q false 0 0 19 [(0, .ref v0), (1, .int s.1), (2, .int s.2.1)] [] s.2.2 := by
  exact it_rule (f := bX1_find_19  v0) (fun s => hp_G l mX1_find none 12 false Q false 0 0 19 [(0, .ref v0), (1, .int s.1), (2, .int s.2.1)] [] s.2.2) (fun x => (∀ e, x = e → hp_G l mX1_find none 12 false Q false 0 0 61 [(0, .ref v0), (1, .int e.1)] [] e.2)) (fun s r h1 h2 h3 => tbX1_find_19 l h1 (fun t e => h2 t e) (fun e he => h3 _ he _ rfl)) q s x hf ke
noncomputable def fX1_find (h : hp_H) (a0 : Nat) : Option hp_H :=
(pi_ h a0 1 3 6).bind fun h1 =>
(gq_ h1 a0 1 0).bind fun x2 =>
(fJ7_fill_53178 h1 x2 9).bind fun r3 =>
(it_ (bX1_find_19  a0) fu_ (0, 0, r3)).bind fun x16 =>
(rm_ x16.1 2).bind fun x17 =>
(hg_o x16.2 a0 1).bind fun o18 =>
(fX1_pairFrom 8 x16.2 a0 0 x17 0).bind fun r19 =>
some r19
set_option maxRecDepth 20000 in
set_option maxHeartbeats 4000000 in
theorem tX1_find (l : Launch) {h : hp_H} {a0 : Nat} {r : hp_H} (hf : fX1_find h a0 = some r) {Q : Option Value → hp_H → Prop} (kr : Q (none) r) : hp_G l mX1_find none 12 false Q false 0 0 0 [(0, .ref a0)] [] h := by
  unfold fX1_find at hf
  refine hp_aload_n 0 dX1_find_0 rfl rfl (?_ : hp_G _ _ _ _ _ _ _ _ _ 1 _ _ _)
  refine hp_bipush (v := 6) dX1_find_1 bi_6 (?_ : hp_G _ _ _ _ _ _ _ _ _ 3 _ _ _)
  replace hf := ob_ hf
  obtain ⟨h1, eh1, hf⟩ := hf
  refine fpX1_22 rfl dX1_find_3 eh1 (?_ : hp_G _ _ _ _ _ _ _ _ _ 6 _ _ _)
  refine hp_aload_n 0 dX1_find_6 rfl rfl (?_ : hp_G _ _ _ _ _ _ _ _ _ 7 _ _ _)
  replace hf := ob_ hf
  obtain ⟨x2, ex2, hf⟩ := hf
  refine fgX1_9 rfl dX1_find_7 ex2 (?_ : hp_G _ _ _ _ _ _ _ _ _ 10 _ _ _)
  refine hp_bipush (v := 9) dX1_find_10 bi_9 (?_ : hp_G _ _ _ _ _ _ _ _ _ 12 _ _ _)
  replace hf := ob_ hf
  obtain ⟨r3, er3, hf⟩ := hf
  refine clX1_26 (as := [.ref x2, .int 9]) (st := []) rfl (kJ7_fill_53178 l er3) rfl (by decide) (Nat.le_of_ble_eq_true rfl) dX1_find_12 rfl (?_ : hp_G _ _ _ _ _ _ _ _ _ 15 _ _ _)
  refine hp_iconst (v := 0) dX1_find_15 ic_0 (?_ : hp_G _ _ _ _ _ _ _ _ _ 16 _ _ _)
  refine hp_istore_n (lv' := [(1, .int 0), (0, .ref a0)]) dX1_find_16 rfl (Nat.le_of_ble_eq_true rfl) rfl (?_ : hp_G _ _ _ _ _ _ _ _ _ 17 _ _ _)
  refine hp_iconst (v := 0) dX1_find_17 ic_0 (?_ : hp_G _ _ _ _ _ _ _ _ _ 18 _ _ _)
  refine hp_istore_n (lv' := [(2, .int 0), (1, .int 0), (0, .ref a0)]) dX1_find_18 rfl (Nat.le_of_ble_eq_true rfl) rfl (?_ : hp_G _ _ _ _ _ _ _ _ _ 19 _ _ _)
  replace hf := ob_ hf
  obtain ⟨x16, ex16, hf⟩ := hf
  refine hp_sub [2, 1, 0] rfl ?_
  refine tlX1_find_19 l fu_ ex16 (fun y hy => ?_)
  obtain rfl := hy
  refine hp_aload_n 0 dX1_find_61 rfl rfl (?_ : hp_G _ _ _ _ _ _ _ _ _ 62 _ _ _)
  refine hp_iconst (v := 0) dX1_find_62 ic_0 (?_ : hp_G _ _ _ _ _ _ _ _ _ 63 _ _ _)
  refine hp_iload_n 1 dX1_find_63 rfl rfl (?_ : hp_G _ _ _ _ _ _ _ _ _ 64 _ _ _)
  refine hp_iconst (v := 2) dX1_find_64 ic_2 (?_ : hp_G _ _ _ _ _ _ _ _ _ 65 _ _ _)
  replace hf := ob_ hf
  obtain ⟨x17, ex17, hf⟩ := hf
  refine hp_irem dX1_find_65 ex17 (?_ : hp_G _ _ _ _ _ _ _ _ _ 66 _ _ _)
  refine hp_iconst (v := 0) dX1_find_66 ic_0 (?_ : hp_G _ _ _ _ _ _ _ _ _ 67 _ _ _)
  replace hf := ob_ hf
  obtain ⟨o18, eo18, hf⟩ := hf
  replace hf := ob_ hf
  obtain ⟨r19, er19, hf⟩ := hf
  refine clX1_47 (as := [.int 0, .int x17, .int 0]) (st := []) rfl (kX1_pairFrom 8 l er19) rfl (by decide) (Nat.le_of_ble_eq_true rfl) eo18 dX1_find_67 rfl (?_ : hp_G _ _ _ _ _ _ _ _ _ 70 _ _ _)
  obtain rfl := Option.some.inj hf
  exact hp_vret kr (fun z => z) rfl dX1_find_70
theorem kX1_find (l : Launch) {h : hp_H} {a0 : Nat} {r : hp_H} (hf : fX1_find h a0 = some r) : hp_Cn l yX1_find mX1_find 12 false 0 0 [.ref a0] h (fun v h2 => none = v ∧ r = h2) :=
  hp_of (by decide) rfl (fun z => by cases z) (Nat.le_of_ble_eq_true rfl) (tX1_find l hf ⟨rfl, rfl⟩)
noncomputable def fX1_partnerOf (h : hp_H) (a0 : Nat) (p1 : Int32) : Option Int32 :=
(gq_ h a0 1 2).bind fun x1 =>
(hg_o h x1 6).bind fun o2 =>
(fX7_has h x1 p1).bind fun r3 =>
if r3 = 0 then
(some (-9))
else
((gq_ h a0 1 1).bind fun x5 =>
(al_ h x5 p1).bind fun x6 =>
if x6 = 9 then
(some (-9))
else
((gq_ h a0 1 1).bind fun x8 =>
(al_ h x8 p1).bind fun x9 =>
some x9))
set_option maxRecDepth 20000 in
set_option maxHeartbeats 4000000 in
theorem tX1_partnerOf (l : Launch) {h : hp_H} {a0 : Nat} {p1 : Int32} {r : Int32} (hf : fX1_partnerOf h a0 p1 = some r) {Q : Option Value → hp_H → Prop} (kr : Q (some (.int r)) h) : hp_G l mX1_partnerOf none 1 false Q false 0 0 0 [(0, .ref a0), (1, .int p1)] [] h := by
  unfold fX1_partnerOf at hf
  refine hp_aload_n 0 dX1_partnerOf_0 rfl rfl (?_ : hp_G _ _ _ _ _ _ _ _ _ 1 _ _ _)
  replace hf := ob_ hf
  obtain ⟨x1, ex1, hf⟩ := hf
  refine fgX1_18 rfl dX1_partnerOf_1 ex1 (?_ : hp_G _ _ _ _ _ _ _ _ _ 4 _ _ _)
  refine hp_iload_n 1 dX1_partnerOf_4 rfl rfl (?_ : hp_G _ _ _ _ _ _ _ _ _ 5 _ _ _)
  replace hf := ob_ hf
  obtain ⟨o2, eo2, hf⟩ := hf
  replace hf := ob_ hf
  obtain ⟨r3, er3, hf⟩ := hf
  refine clX1_61 (as := [.int p1]) (st := []) rfl (kX7_has l er3) rfl (by decide) (Nat.le_of_ble_eq_true rfl) eo2 dX1_partnerOf_5 rfl (?_ : hp_G _ _ _ _ _ _ _ _ _ 8 _ _ _)
  refine hp_if_eq (tgt := 22) dX1_partnerOf_8 rfl (fun c4 => ?_) (fun c4 => (?_ : hp_G _ _ _ _ _ _ _ _ _ 11 _ _ _))
  · replace hf := ot_ c4 hf
    refine hp_bipush (v := (-9)) dX1_partnerOf_22 bi_m9 (?_ : hp_G _ _ _ _ _ _ _ _ _ 24 _ _ _)
    refine hp_goto (tgt := 33) dX1_partnerOf_24 rfl (?_ : hp_G _ _ _ _ _ _ _ _ _ 33 _ _ _)
    obtain rfl := Option.some.inj hf
    exact hp_iret kr (fun z => z) rfl dX1_partnerOf_33
  · replace hf := of_ c4 hf
    refine hp_aload_n 0 dX1_partnerOf_11 rfl rfl (?_ : hp_G _ _ _ _ _ _ _ _ _ 12 _ _ _)
    replace hf := ob_ hf
    obtain ⟨x5, ex5, hf⟩ := hf
    refine fgX1_15 rfl dX1_partnerOf_12 ex5 (?_ : hp_G _ _ _ _ _ _ _ _ _ 15 _ _ _)
    refine hp_iload_n 1 dX1_partnerOf_15 rfl rfl (?_ : hp_G _ _ _ _ _ _ _ _ _ 16 _ _ _)
    replace hf := ob_ hf
    obtain ⟨x6, ex6, hf⟩ := hf
    refine hp_iaload dX1_partnerOf_16 ex6 (?_ : hp_G _ _ _ _ _ _ _ _ _ 17 _ _ _)
    refine hp_bipush (v := 9) dX1_partnerOf_17 bi_9 (?_ : hp_G _ _ _ _ _ _ _ _ _ 19 _ _ _)
    refine hp_icmp_ne (tgt := 27) dX1_partnerOf_19 rfl (fun c7 => ?_) (fun c7 => (?_ : hp_G _ _ _ _ _ _ _ _ _ 22 _ _ _))
    · replace hf := of_ c7 hf
      refine hp_aload_n 0 dX1_partnerOf_27 rfl rfl (?_ : hp_G _ _ _ _ _ _ _ _ _ 28 _ _ _)
      replace hf := ob_ hf
      obtain ⟨x8, ex8, hf⟩ := hf
      refine fgX1_15 rfl dX1_partnerOf_28 ex8 (?_ : hp_G _ _ _ _ _ _ _ _ _ 31 _ _ _)
      refine hp_iload_n 1 dX1_partnerOf_31 rfl rfl (?_ : hp_G _ _ _ _ _ _ _ _ _ 32 _ _ _)
      replace hf := ob_ hf
      obtain ⟨x9, ex9, hf⟩ := hf
      refine hp_iaload dX1_partnerOf_32 ex9 (?_ : hp_G _ _ _ _ _ _ _ _ _ 33 _ _ _)
      obtain rfl := Option.some.inj hf
      exact hp_iret kr (fun z => z) rfl dX1_partnerOf_33
    · replace hf := ot_ c7 hf
      refine hp_bipush (v := (-9)) dX1_partnerOf_22 bi_m9 (?_ : hp_G _ _ _ _ _ _ _ _ _ 24 _ _ _)
      refine hp_goto (tgt := 33) dX1_partnerOf_24 rfl (?_ : hp_G _ _ _ _ _ _ _ _ _ 33 _ _ _)
      obtain rfl := Option.some.inj hf
      exact hp_iret kr (fun z => z) rfl dX1_partnerOf_33
theorem kX1_partnerOf (l : Launch) {h : hp_H} {a0 : Nat} {p1 : Int32} {r : Int32} (hf : fX1_partnerOf h a0 p1 = some r) : hp_Cn l yX1_partnerOf mX1_partnerOf 1 false 0 0 [.ref a0, .int p1] h (fun v h2 => some (.int r) = v ∧ h = h2) :=
  hp_of (by decide) rfl (fun z => by cases z) (Nat.le_of_ble_eq_true rfl) (tX1_partnerOf l hf ⟨rfl, rfl⟩)
noncomputable def fX8_pairs (h : hp_H) (a0 : Nat) (p1 : Int32) : Option (Int32 × hp_H) :=
if p1 < (-1) then
(some ((-2), h))
else
(if p1 < 6 then
((gq_ h a0 7 0).bind fun x3 =>
(gi_ h x3 6 1).bind fun x4 =>
if x4 = 0 then
(some ((-3), h))
else
((gq_ h a0 7 4).bind fun x6 =>
(hg_o h x6 1).bind fun o7 =>
(fX1_find h x6).bind fun r8 =>
if (0 : Int32) ≤ p1 then
((gq_ r8 a0 7 4).bind fun x10 =>
(hg_o r8 x10 1).bind fun o11 =>
(fX1_partnerOf r8 x10 p1).bind fun r12 =>
some (r12, r8))
else
((gq_ r8 a0 7 4).bind fun x13 =>
(gi_ r8 x13 1 3).bind fun x14 =>
some (x14, r8))))
else
(some ((-2), h)))
set_option maxRecDepth 20000 in
set_option maxHeartbeats 4000000 in
theorem tX8_pairs (l : Launch) {h : hp_H} {a0 : Nat} {p1 : Int32} {r : (Int32 × hp_H)} (hf : fX8_pairs h a0 p1 = some r) {Q : Option Value → hp_H → Prop} (kr : Q (some (.int r.1)) r.2) : hp_G l mX8_pairs none 13 false Q false 0 0 0 [(0, .ref a0), (1, .int p1)] [] h := by
  unfold fX8_pairs at hf
  refine hp_iload_n 1 dX8_pairs_0 rfl rfl (?_ : hp_G _ _ _ _ _ _ _ _ _ 1 _ _ _)
  refine hp_iconst (v := (-1)) dX8_pairs_1 ic_m1 (?_ : hp_G _ _ _ _ _ _ _ _ _ 2 _ _ _)
  refine hp_icmp_lt (tgt := 11) dX8_pairs_2 rfl (fun c1 => ?_) (fun c1 => (?_ : hp_G _ _ _ _ _ _ _ _ _ 5 _ _ _))
  · replace hf := ot_ c1 hf
    refine hp_bipush (v := (-2)) dX8_pairs_11 bi_m2 (?_ : hp_G _ _ _ _ _ _ _ _ _ 13 _ _ _)
    obtain rfl := Option.some.inj hf
    exact hp_iret kr (fun z => z) rfl dX8_pairs_13
  · replace hf := of_ c1 hf
    refine hp_iload_n 1 dX8_pairs_5 rfl rfl (?_ : hp_G _ _ _ _ _ _ _ _ _ 6 _ _ _)
    refine hp_bipush (v := 6) dX8_pairs_6 bi_6 (?_ : hp_G _ _ _ _ _ _ _ _ _ 8 _ _ _)
    refine hp_icmp_lt (tgt := 14) dX8_pairs_8 rfl (fun c2 => ?_) (fun c2 => (?_ : hp_G _ _ _ _ _ _ _ _ _ 11 _ _ _))
    · replace hf := ot_ c2 hf
      refine hp_aload_n 0 dX8_pairs_14 rfl rfl (?_ : hp_G _ _ _ _ _ _ _ _ _ 15 _ _ _)
      replace hf := ob_ hf
      obtain ⟨x3, ex3, hf⟩ := hf
      refine fgX8_12 rfl dX8_pairs_15 ex3 (?_ : hp_G _ _ _ _ _ _ _ _ _ 18 _ _ _)
      replace hf := ob_ hf
      obtain ⟨x4, ex4, hf⟩ := hf
      refine fgX8_94 rfl dX8_pairs_18 ex4 (?_ : hp_G _ _ _ _ _ _ _ _ _ 21 _ _ _)
      refine hp_if_ne (tgt := 27) dX8_pairs_21 rfl (fun c5 => ?_) (fun c5 => (?_ : hp_G _ _ _ _ _ _ _ _ _ 24 _ _ _))
      · replace hf := of_ c5 hf
        refine hp_aload_n 0 dX8_pairs_27 rfl rfl (?_ : hp_G _ _ _ _ _ _ _ _ _ 28 _ _ _)
        replace hf := ob_ hf
        obtain ⟨x6, ex6, hf⟩ := hf
        refine fgX8_43 rfl dX8_pairs_28 ex6 (?_ : hp_G _ _ _ _ _ _ _ _ _ 31 _ _ _)
        replace hf := ob_ hf
        obtain ⟨o7, eo7, hf⟩ := hf
        replace hf := ob_ hf
        obtain ⟨r8, er8, hf⟩ := hf
        refine clX8_169 (as := []) (st := []) rfl (kX1_find l er8) rfl (by decide) (Nat.le_of_ble_eq_true rfl) eo7 dX8_pairs_31 rfl (?_ : hp_G _ _ _ _ _ _ _ _ _ 34 _ _ _)
        refine hp_iload_n 1 dX8_pairs_34 rfl rfl (?_ : hp_G _ _ _ _ _ _ _ _ _ 35 _ _ _)
        refine hp_if_ge (tgt := 48) dX8_pairs_35 rfl (fun c9 => ?_) (fun c9 => (?_ : hp_G _ _ _ _ _ _ _ _ _ 38 _ _ _))
        · replace hf := ot_ c9 hf
          refine hp_aload_n 0 dX8_pairs_48 rfl rfl (?_ : hp_G _ _ _ _ _ _ _ _ _ 49 _ _ _)
          replace hf := ob_ hf
          obtain ⟨x10, ex10, hf⟩ := hf
          refine fgX8_43 rfl dX8_pairs_49 ex10 (?_ : hp_G _ _ _ _ _ _ _ _ _ 52 _ _ _)
          refine hp_iload_n 1 dX8_pairs_52 rfl rfl (?_ : hp_G _ _ _ _ _ _ _ _ _ 53 _ _ _)
          replace hf := ob_ hf
          obtain ⟨o11, eo11, hf⟩ := hf
          replace hf := ob_ hf
          obtain ⟨r12, er12, hf⟩ := hf
          refine clX8_175 (as := [.int p1]) (st := []) rfl (kX1_partnerOf l er12) rfl (by decide) (Nat.le_of_ble_eq_true rfl) eo11 dX8_pairs_53 rfl (?_ : hp_G _ _ _ _ _ _ _ _ _ 56 _ _ _)
          obtain rfl := Option.some.inj hf
          exact hp_iret kr (fun z => z) rfl dX8_pairs_56
        · replace hf := of_ c9 hf
          refine hp_aload_n 0 dX8_pairs_38 rfl rfl (?_ : hp_G _ _ _ _ _ _ _ _ _ 39 _ _ _)
          replace hf := ob_ hf
          obtain ⟨x13, ex13, hf⟩ := hf
          refine fgX8_43 rfl dX8_pairs_39 ex13 (?_ : hp_G _ _ _ _ _ _ _ _ _ 42 _ _ _)
          replace hf := ob_ hf
          obtain ⟨x14, ex14, hf⟩ := hf
          refine fgX8_172 rfl dX8_pairs_42 ex14 (?_ : hp_G _ _ _ _ _ _ _ _ _ 45 _ _ _)
          refine hp_goto (tgt := 56) dX8_pairs_45 rfl (?_ : hp_G _ _ _ _ _ _ _ _ _ 56 _ _ _)
          obtain rfl := Option.some.inj hf
          exact hp_iret kr (fun z => z) rfl dX8_pairs_56
      · replace hf := ot_ c5 hf
        refine hp_bipush (v := (-3)) dX8_pairs_24 bi_m3 (?_ : hp_G _ _ _ _ _ _ _ _ _ 26 _ _ _)
        obtain rfl := Option.some.inj hf
        exact hp_iret kr (fun z => z) rfl dX8_pairs_26
    · replace hf := of_ c2 hf
      refine hp_bipush (v := (-2)) dX8_pairs_11 bi_m2 (?_ : hp_G _ _ _ _ _ _ _ _ _ 13 _ _ _)
      obtain rfl := Option.some.inj hf
      exact hp_iret kr (fun z => z) rfl dX8_pairs_13
theorem kX8_pairs (l : Launch) {h : hp_H} {a0 : Nat} {p1 : Int32} {r : (Int32 × hp_H)} (hf : fX8_pairs h a0 p1 = some r) : hp_Cn l yX8_pairs mX8_pairs 13 false 0 0 [.ref a0, .int p1] h (fun v h2 => some (.int r.1) = v ∧ r.2 = h2) :=
  hp_of (by decide) rfl (fun z => by cases z) (Nat.le_of_ble_eq_true rfl) (tX8_pairs l hf ⟨rfl, rfl⟩)
