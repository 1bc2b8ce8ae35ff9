noncomputable def fX8_common (h : hp_H) (a0 : Nat) (p1 : Int32) (p2 : Int32) : Option Int32 :=
(gq_ h a0 7 0).bind fun x1 =>
(hg_o h x1 6).bind fun o2 =>
(fX7_hasTwo h x1 p1 p2).bind fun r3 =>
if r3 = 0 then
(some (-1))
else
((gq_ h a0 7 0).bind fun x5 =>
(gq_ h x5 6 0).bind fun x6 =>
(ql_ h x6 p1).bind fun x7 =>
(gq_ h a0 7 0).bind fun x8 =>
(gq_ h x8 6 0).bind fun x9 =>
(ql_ h x9 p2).bind fun x10 =>
(hg_o h x7 2).bind fun o11 =>
(fX2_best h x7).bind fun r12 =>
(hg_o h x10 2).bind fun o13 =>
(fX2_best h x10).bind fun r14 =>
(some (mn_ r12 r14)).bind fun x15 =>
(hg_o h x7 2).bind fun o16 =>
(fX2_worst h x7).bind fun r17 =>
(hg_o h x10 2).bind fun o18 =>
(fX2_worst h x10).bind fun r19 =>
(some (mx_ r17 r19)).bind fun x20 =>
some (mx_ 0 ((x15 - x20) + 1)))
set_option maxRecDepth 20000 in
set_option maxHeartbeats 4000000 in
theorem tX8_common (l : Launch) {h : hp_H} {a0 : Nat} {p1 : Int32} {p2 : Int32} {r : Int32} (hf : fX8_common h a0 p1 p2 = some r) {Q : Option Value → hp_H → Prop} (kr : Q (some (.int r)) h) : hp_G l mX8_common none 2 false Q false 0 0 0 [(0, .ref a0), (1, .int p1), (2, .int p2)] [] h := by
  unfold fX8_common at hf
  refine hp_aload_n 0 dX8_common_0 rfl rfl (?_ : hp_G _ _ _ _ _ _ _ _ _ 1 _ _ _)
  replace hf := ob_ hf
  obtain ⟨x1, ex1, hf⟩ := hf
  refine fgX8_12 rfl dX8_common_1 ex1 (?_ : hp_G _ _ _ _ _ _ _ _ _ 4 _ _ _)
  refine hp_iload_n 1 dX8_common_4 rfl rfl (?_ : hp_G _ _ _ _ _ _ _ _ _ 5 _ _ _)
  refine hp_iload_n 2 dX8_common_5 rfl rfl (?_ : hp_G _ _ _ _ _ _ _ _ _ 6 _ _ _)
  replace hf := ob_ hf
  obtain ⟨o2, eo2, hf⟩ := hf
  replace hf := ob_ hf
  obtain ⟨r3, er3, hf⟩ := hf
  refine clX8_119 (as := [.int p1, .int p2]) (st := []) rfl (kX7_hasTwo l er3) rfl (by decide) (Nat.le_of_ble_eq_true rfl) eo2 dX8_common_6 rfl (?_ : hp_G _ _ _ _ _ _ _ _ _ 9 _ _ _)
  refine hp_if_ne (tgt := 14) dX8_common_9 rfl (fun c4 => ?_) (fun c4 => (?_ : hp_G _ _ _ _ _ _ _ _ _ 12 _ _ _))
  · replace hf := of_ c4 hf
    refine hp_aload_n 0 dX8_common_14 rfl rfl (?_ : hp_G _ _ _ _ _ _ _ _ _ 15 _ _ _)
    replace hf := ob_ hf
    obtain ⟨x5, ex5, hf⟩ := hf
    refine fgX8_12 rfl dX8_common_15 ex5 (?_ : hp_G _ _ _ _ _ _ _ _ _ 18 _ _ _)
    replace hf := ob_ hf
    obtain ⟨x6, ex6, hf⟩ := hf
    refine fgX8_96 rfl dX8_common_18 ex6 (?_ : hp_G _ _ _ _ _ _ _ _ _ 21 _ _ _)
    refine hp_iload_n 1 dX8_common_21 rfl rfl (?_ : hp_G _ _ _ _ _ _ _ _ _ 22 _ _ _)
    replace hf := ob_ hf
    obtain ⟨x7, ex7, hf⟩ := hf
    refine hp_aaload dX8_common_22 ex7 (?_ : hp_G _ _ _ _ _ _ _ _ _ 23 _ _ _)
    refine hp_astore_n (lv' := [(3, .ref x7), (0, .ref a0), (1, .int p1), (2, .int p2)]) dX8_common_23 rfl (Nat.le_of_ble_eq_true rfl) rfl (?_ : hp_G _ _ _ _ _ _ _ _ _ 24 _ _ _)
    refine hp_aload_n 1 dX8_common_24 rfl rfl (?_ : hp_G _ _ _ _ _ _ _ _ _ 25 _ _ _)
    replace hf := ob_ hf
    obtain ⟨x8, ex8, hf⟩ := hf
    refine fgX8_12 rfl dX8_common_25 ex8 (?_ : hp_G _ _ _ _ _ _ _ _ _ 28 _ _ _)
    replace hf := ob_ hf
    obtain ⟨x9, ex9, hf⟩ := hf
    refine fgX8_96 rfl dX8_common_28 ex9 (?_ : hp_G _ _ _ _ _ _ _ _ _ 31 _ _ _)
    refine hp_iload_n 3 dX8_common_31 rfl rfl (?_ : hp_G _ _ _ _ _ _ _ _ _ 32 _ _ _)
    replace hf := ob_ hf
    obtain ⟨x10, ex10, hf⟩ := hf
    refine hp_aaload dX8_common_32 ex10 (?_ : hp_G _ _ _ _ _ _ _ _ _ 33 _ _ _)
    refine hp_astore (lv' := [(4, .ref x10), (3, .ref x7), (0, .ref a0), (1, .int p1), (2, .int p2)]) dX8_common_33 (Nat.le_of_ble_eq_true rfl) rfl (?_ : hp_G _ _ _ _ _ _ _ _ _ 35 _ _ _)
    refine hp_aload_n 1 dX8_common_35 rfl rfl (?_ : hp_G _ _ _ _ _ _ _ _ _ 36 _ _ _)
    replace hf := ob_ hf
    obtain ⟨o11, eo11, hf⟩ := hf
    replace hf := ob_ hf
    obtain ⟨r12, er12, hf⟩ := hf
    refine clX8_105 (as := []) (st := []) rfl (kX2_best l er12) rfl (by decide) (Nat.le_of_ble_eq_true rfl) eo11 dX8_common_36 rfl (?_ : hp_G _ _ _ _ _ _ _ _ _ 39 _ _ _)
    refine hp_aload 0 dX8_common_39 rfl (?_ : hp_G _ _ _ _ _ _ _ _ _ 41 _ _ _)
    replace hf := ob_ hf
    obtain ⟨o13, eo13, hf⟩ := hf
    replace hf := ob_ hf
    obtain ⟨r14, er14, hf⟩ := hf
    refine clX8_105 (as := []) (st := [.int r12]) rfl (kX2_best l er14) rfl (by decide) (Nat.le_of_ble_eq_true rfl) eo13 dX8_common_41 rfl (?_ : hp_G _ _ _ _ _ _ _ _ _ 44 _ _ _)
    refine mmX8_158 rfl (by decide) (Nat.le_of_ble_eq_true rfl) dX8_common_44 (?_ : hp_G _ _ _ _ _ _ _ _ _ 47 _ _ _)
    replace hf := ob_ hf
    obtain ⟨x15, ex15, hf⟩ := hf
    refine hp_nmi ex15 ?_
    refine hp_istore (lv' := [(5, .int x15), (4, .ref x10), (3, .ref x7), (0, .ref a0), (1, .int p1), (2, .int p2)]) dX8_common_47 (Nat.le_of_ble_eq_true rfl) rfl (?_ : hp_G _ _ _ _ _ _ _ _ _ 49 _ _ _)
    refine hp_aload_n 2 dX8_common_49 rfl rfl (?_ : hp_G _ _ _ _ _ _ _ _ _ 50 _ _ _)
    replace hf := ob_ hf
    obtain ⟨o16, eo16, hf⟩ := hf
    replace hf := ob_ hf
    obtain ⟨r17, er17, hf⟩ := hf
    refine clX8_109 (as := []) (st := []) rfl (kX2_worst l er17) rfl (by decide) (Nat.le_of_ble_eq_true rfl) eo16 dX8_common_50 rfl (?_ : hp_G _ _ _ _ _ _ _ _ _ 53 _ _ _)
    refine hp_aload 1 dX8_common_53 rfl (?_ : hp_G _ _ _ _ _ _ _ _ _ 55 _ _ _)
    replace hf := ob_ hf
    obtain ⟨o18, eo18, hf⟩ := hf
    replace hf := ob_ hf
    obtain ⟨r19, er19, hf⟩ := hf
    refine clX8_109 (as := []) (st := [.int r17]) rfl (kX2_worst l er19) rfl (by decide) (Nat.le_of_ble_eq_true rfl) eo18 dX8_common_55 rfl (?_ : hp_G _ _ _ _ _ _ _ _ _ 58 _ _ _)
    refine mmX8_164 rfl (by decide) (Nat.le_of_ble_eq_true rfl) dX8_common_58 (?_ : hp_G _ _ _ _ _ _ _ _ _ 61 _ _ _)
    replace hf := ob_ hf
    obtain ⟨x20, ex20, hf⟩ := hf
    refine hp_nmi ex20 ?_
    refine hp_istore (lv' := [(6, .int x20), (5, .int x15), (4, .ref x10), (3, .ref x7), (0, .ref a0), (1, .int p1), (2, .int p2)]) dX8_common_61 (Nat.le_of_ble_eq_true rfl) rfl (?_ : hp_G _ _ _ _ _ _ _ _ _ 63 _ _ _)
    refine hp_iconst (v := 0) dX8_common_63 ic_0 (?_ : hp_G _ _ _ _ _ _ _ _ _ 64 _ _ _)
    refine hp_iload 1 dX8_common_64 rfl (?_ : hp_G _ _ _ _ _ _ _ _ _ 66 _ _ _)
    refine hp_iload 0 dX8_common_66 rfl (?_ : hp_G _ _ _ _ _ _ _ _ _ 68 _ _ _)
    refine hp_isub dX8_common_68 (?_ : hp_G _ _ _ _ _ _ _ _ _ 69 _ _ _)
    refine hp_iconst (v := 1) dX8_common_69 ic_1 (?_ : hp_G _ _ _ _ _ _ _ _ _ 70 _ _ _)
    refine hp_iadd dX8_common_70 (?_ : hp_G _ _ _ _ _ _ _ _ _ 71 _ _ _)
    refine mmX8_164 rfl (by decide) (Nat.le_of_ble_eq_true rfl) dX8_common_71 (?_ : hp_G _ _ _ _ _ _ _ _ _ 74 _ _ _)
    obtain rfl := Option.some.inj hf
    exact hp_iret kr (fun z => z) rfl dX8_common_74
  · replace hf := ot_ c4 hf
    refine hp_iconst (v := (-1)) dX8_common_12 ic_m1 (?_ : hp_G _ _ _ _ _ _ _ _ _ 13 _ _ _)
    obtain rfl := Option.some.inj hf
    exact hp_iret kr (fun z => z) rfl dX8_common_13
theorem kX8_common (l : Launch) {h : hp_H} {a0 : Nat} {p1 : Int32} {p2 : Int32} {r : Int32} (hf : fX8_common h a0 p1 p2 = some r) : hp_Cn l yX8_common mX8_common 2 false 0 0 [.ref a0, .int p1, .int p2] h (fun v h2 => some (.int r) = v ∧ h = h2) :=
  hp_of (by decide) rfl (fun z => by cases z) (Nat.le_of_ble_eq_true rfl) (tX8_common l hf ⟨rfl, rfl⟩)
noncomputable def jX9_common_64 (h : hp_H)  (u3 : Int32) (k0 : Int32) : Option Int32 :=
if u3 ≤ k0 then
(some ((k0 - u3) + 1))
else
(some 0)
set_option maxRecDepth 20000 in
set_option maxHeartbeats 4000000 in
theorem tjX9_common_64 (l : Launch) {h : hp_H}  {u3 : Int32} {k0 : Int32} {r : Int32} (hf : jX9_common_64 h u3 k0 = some r) {Q : Option Value → hp_H → Prop} (kr : Q (some (.int r)) h) : hp_G l mX9_common none 2 false Q false 0 0 64 [(3, .int u3)] [.int k0] h := by
  unfold jX9_common_64 at hf
  refine hp_istore (lv' := [(4, .int k0), (3, .int u3)]) dX9_common_64 (Nat.le_of_ble_eq_true rfl) rfl (?_ : hp_G _ _ _ _ _ _ _ _ _ 66 _ _ _)
  refine hp_iload 0 dX9_common_66 rfl (?_ : hp_G _ _ _ _ _ _ _ _ _ 68 _ _ _)
  refine hp_iload_n 1 dX9_common_68 rfl rfl (?_ : hp_G _ _ _ _ _ _ _ _ _ 69 _ _ _)
  refine hp_icmp_ge (tgt := 76) dX9_common_69 rfl (fun c18 => ?_) (fun c18 => (?_ : hp_G _ _ _ _ _ _ _ _ _ 72 _ _ _))
  · replace hf := ot_ c18 hf
    refine hp_iload 0 dX9_common_76 rfl (?_ : hp_G _ _ _ _ _ _ _ _ _ 78 _ _ _)
    refine hp_iload_n 1 dX9_common_78 rfl rfl (?_ : hp_G _ _ _ _ _ _ _ _ _ 79 _ _ _)
    refine hp_isub dX9_common_79 (?_ : hp_G _ _ _ _ _ _ _ _ _ 80 _ _ _)
    refine hp_iconst (v := 1) dX9_common_80 ic_1 (?_ : hp_G _ _ _ _ _ _ _ _ _ 81 _ _ _)
    refine hp_iadd dX9_common_81 (?_ : hp_G _ _ _ _ _ _ _ _ _ 82 _ _ _)
    obtain rfl := Option.some.inj hf
    exact hp_iret kr (fun z => z) rfl dX9_common_82
  · replace hf := of_ c18 hf
    refine hp_iconst (v := 0) dX9_common_72 ic_0 (?_ : hp_G _ _ _ _ _ _ _ _ _ 73 _ _ _)
    refine hp_goto (tgt := 82) dX9_common_73 rfl (?_ : hp_G _ _ _ _ _ _ _ _ _ 82 _ _ _)
    obtain rfl := Option.some.inj hf
    exact hp_iret kr (fun z => z) rfl dX9_common_82
noncomputable def jX9_common_37 (h : hp_H)  (u0 : Nat) (u1 : Int32) (u2 : Int32) (k0 : Int32) : Option Int32 :=
(hg_o h u0 8).bind fun o11 =>
(fX9_bestOf h u0 u1).bind fun r12 =>
(hg_o h u0 8).bind fun o13 =>
(fX9_bestOf h u0 u2).bind fun r14 =>
if r14 ≤ r12 then
((hg_o h u0 8).bind fun o16 =>
(fX9_bestOf h u0 u2).bind fun r17 =>
jX9_common_64 h k0 r17)
else
((hg_o h u0 8).bind fun o19 =>
(fX9_bestOf h u0 u1).bind fun r20 =>
jX9_common_64 h k0 r20)
set_option maxRecDepth 20000 in
set_option maxHeartbeats 4000000 in
theorem tjX9_common_37 (l : Launch) {h : hp_H}  {u0 : Nat} {u1 : Int32} {u2 : Int32} {k0 : Int32} {r : Int32} (hf : jX9_common_37 h u0 u1 u2 k0 = some r) {Q : Option Value → hp_H → Prop} (kr : Q (some (.int r)) h) : hp_G l mX9_common none 2 false Q false 0 0 37 [(0, .ref u0), (1, .int u1), (2, .int u2)] [.int k0] h := by
  unfold jX9_common_37 at hf
  refine hp_istore_n (lv' := [(3, .int k0), (0, .ref u0), (1, .int u1), (2, .int u2)]) dX9_common_37 rfl (Nat.le_of_ble_eq_true rfl) rfl (?_ : hp_G _ _ _ _ _ _ _ _ _ 38 _ _ _)
  refine hp_aload_n 1 dX9_common_38 rfl rfl (?_ : hp_G _ _ _ _ _ _ _ _ _ 39 _ _ _)
  refine hp_iload_n 2 dX9_common_39 rfl rfl (?_ : hp_G _ _ _ _ _ _ _ _ _ 40 _ _ _)
  replace hf := ob_ hf
  obtain ⟨o11, eo11, hf⟩ := hf
  replace hf := ob_ hf
  obtain ⟨r12, er12, hf⟩ := hf
  refine clX9_120 (as := [.int u1]) (st := []) rfl (kX9_bestOf l er12) rfl (by decide) (Nat.le_of_ble_eq_true rfl) eo11 dX9_common_40 rfl (?_ : hp_G _ _ _ _ _ _ _ _ _ 43 _ _ _)
  refine hp_aload_n 1 dX9_common_43 rfl rfl (?_ : hp_G _ _ _ _ _ _ _ _ _ 44 _ _ _)
  refine hp_iload_n 3 dX9_common_44 rfl rfl (?_ : hp_G _ _ _ _ _ _ _ _ _ 45 _ _ _)
  replace hf := ob_ hf
  obtain ⟨o13, eo13, hf⟩ := hf
  replace hf := ob_ hf
  obtain ⟨r14, er14, hf⟩ := hf
  refine clX9_120 (as := [.int u2]) (st := [.int r12]) rfl (kX9_bestOf l er14) rfl (by decide) (Nat.le_of_ble_eq_true rfl) eo13 dX9_common_45 rfl (?_ : hp_G _ _ _ _ _ _ _ _ _ 48 _ _ _)
  refine hp_icmp_ge (tgt := 59) dX9_common_48 rfl (fun c15 => ?_) (fun c15 => (?_ : hp_G _ _ _ _ _ _ _ _ _ 51 _ _ _))
  · replace hf := ot_ c15 hf
    refine hp_aload_n 1 dX9_common_59 rfl rfl (?_ : hp_G _ _ _ _ _ _ _ _ _ 60 _ _ _)
    refine hp_iload_n 3 dX9_common_60 rfl rfl (?_ : hp_G _ _ _ _ _ _ _ _ _ 61 _ _ _)
    replace hf := ob_ hf
    obtain ⟨o16, eo16, hf⟩ := hf
    replace hf := ob_ hf
    obtain ⟨r17, er17, hf⟩ := hf
    refine clX9_120 (as := [.int u2]) (st := []) rfl (kX9_bestOf l er17) rfl (by decide) (Nat.le_of_ble_eq_true rfl) eo16 dX9_common_61 rfl (?_ : hp_G _ _ _ _ _ _ _ _ _ 64 _ _ _)
    exact hp_sub [0] rfl (tjX9_common_64 l hf kr)
  · replace hf := of_ c15 hf
    refine hp_aload_n 1 dX9_common_51 rfl rfl (?_ : hp_G _ _ _ _ _ _ _ _ _ 52 _ _ _)
    refine hp_iload_n 2 dX9_common_52 rfl rfl (?_ : hp_G _ _ _ _ _ _ _ _ _ 53 _ _ _)
    replace hf := ob_ hf
    obtain ⟨o19, eo19, hf⟩ := hf
    replace hf := ob_ hf
    obtain ⟨r20, er20, hf⟩ := hf
    refine clX9_120 (as := [.int u1]) (st := []) rfl (kX9_bestOf l er20) rfl (by decide) (Nat.le_of_ble_eq_true rfl) eo19 dX9_common_53 rfl (?_ : hp_G _ _ _ _ _ _ _ _ _ 56 _ _ _)
    refine hp_goto (tgt := 64) dX9_common_56 rfl (?_ : hp_G _ _ _ _ _ _ _ _ _ 64 _ _ _)
    exact hp_sub [0] rfl (tjX9_common_64 l hf kr)
noncomputable def fX9_common (h : hp_H) (a0 : Nat) (p1 : Int32) (p2 : Int32) : Option Int32 :=
(hg_o h a0 8).bind fun o1 =>
(fX9_areTwo h a0 p1 p2).bind fun r2 =>
if r2 = 0 then
(some (-1))
else
((hg_o h a0 8).bind fun o4 =>
(fX9_worstOf h a0 p1).bind fun r5 =>
(hg_o h a0 8).bind fun o6 =>
(fX9_worstOf h a0 p2).bind fun r7 =>
if r5 ≤ r7 then
((hg_o h a0 8).bind fun o9 =>
(fX9_worstOf h a0 p2).bind fun r10 =>
jX9_common_37 h a0 p1 p2 r10)
else
((hg_o h a0 8).bind fun o21 =>
(fX9_worstOf h a0 p1).bind fun r22 =>
jX9_common_37 h a0 p1 p2 r22))
set_option maxRecDepth 20000 in
set_option maxHeartbeats 4000000 in
theorem tX9_common (l : Launch) {h : hp_H} {a0 : Nat} {p1 : Int32} {p2 : Int32} {r : Int32} (hf : fX9_common h a0 p1 p2 = some r) {Q : Option Value → hp_H → Prop} (kr : Q (some (.int r)) h) : hp_G l mX9_common none 2 false Q false 0 0 0 [(0, .ref a0), (1, .int p1), (2, .int p2)] [] h := by
  unfold fX9_common at hf
  refine hp_aload_n 0 dX9_common_0 rfl rfl (?_ : hp_G _ _ _ _ _ _ _ _ _ 1 _ _ _)
  refine hp_iload_n 1 dX9_common_1 rfl rfl (?_ : hp_G _ _ _ _ _ _ _ _ _ 2 _ _ _)
  refine hp_iload_n 2 dX9_common_2 rfl rfl (?_ : hp_G _ _ _ _ _ _ _ _ _ 3 _ _ _)
  replace hf := ob_ hf
  obtain ⟨o1, eo1, hf⟩ := hf
  replace hf := ob_ hf
  obtain ⟨r2, er2, hf⟩ := hf
  refine clX9_129 (as := [.int p1, .int p2]) (st := []) rfl (kX9_areTwo l er2) rfl (by decide) (Nat.le_of_ble_eq_true rfl) eo1 dX9_common_3 rfl (?_ : hp_G _ _ _ _ _ _ _ _ _ 6 _ _ _)
  refine hp_if_ne (tgt := 11) dX9_common_6 rfl (fun c3 => ?_) (fun c3 => (?_ : hp_G _ _ _ _ _ _ _ _ _ 9 _ _ _))
  · replace hf := of_ c3 hf
    refine hp_aload_n 0 dX9_common_11 rfl rfl (?_ : hp_G _ _ _ _ _ _ _ _ _ 12 _ _ _)
    refine hp_iload_n 1 dX9_common_12 rfl rfl (?_ : hp_G _ _ _ _ _ _ _ _ _ 13 _ _ _)
    replace hf := ob_ hf
    obtain ⟨o4, eo4, hf⟩ := hf
    replace hf := ob_ hf
    obtain ⟨r5, er5, hf⟩ := hf
    refine clX9_123 (as := [.int p1]) (st := []) rfl (kX9_worstOf l er5) rfl (by decide) (Nat.le_of_ble_eq_true rfl) eo4 dX9_common_13 rfl (?_ : hp_G _ _ _ _ _ _ _ _ _ 16 _ _ _)
    refine hp_aload_n 0 dX9_common_16 rfl rfl (?_ : hp_G _ _ _ _ _ _ _ _ _ 17 _ _ _)
    refine hp_iload_n 2 dX9_common_17 rfl rfl (?_ : hp_G _ _ _ _ _ _ _ _ _ 18 _ _ _)
    replace hf := ob_ hf
    obtain ⟨o6, eo6, hf⟩ := hf
    replace hf := ob_ hf
    obtain ⟨r7, er7, hf⟩ := hf
    refine clX9_123 (as := [.int p2]) (st := [.int r5]) rfl (kX9_worstOf l er7) rfl (by decide) (Nat.le_of_ble_eq_true rfl) eo6 dX9_common_18 rfl (?_ : hp_G _ _ _ _ _ _ _ _ _ 21 _ _ _)
    refine hp_icmp_le (tgt := 32) dX9_common_21 rfl (fun c8 => ?_) (fun c8 => (?_ : hp_G _ _ _ _ _ _ _ _ _ 24 _ _ _))
    · replace hf := ot_ c8 hf
      refine hp_aload_n 0 dX9_common_32 rfl rfl (?_ : hp_G _ _ _ _ _ _ _ _ _ 33 _ _ _)
      refine hp_iload_n 2 dX9_common_33 rfl rfl (?_ : hp_G _ _ _ _ _ _ _ _ _ 34 _ _ _)
      replace hf := ob_ hf
      obtain ⟨o9, eo9, hf⟩ := hf
      replace hf := ob_ hf
      obtain ⟨r10, er10, hf⟩ := hf
      refine clX9_123 (as := [.int p2]) (st := []) rfl (kX9_worstOf l er10) rfl (by decide) (Nat.le_of_ble_eq_true rfl) eo9 dX9_common_34 rfl (?_ : hp_G _ _ _ _ _ _ _ _ _ 37 _ _ _)
      exact hp_sub [0, 1, 2] rfl (tjX9_common_37 l hf kr)
    · replace hf := of_ c8 hf
      refine hp_aload_n 0 dX9_common_24 rfl rfl (?_ : hp_G _ _ _ _ _ _ _ _ _ 25 _ _ _)
      refine hp_iload_n 1 dX9_common_25 rfl rfl (?_ : hp_G _ _ _ _ _ _ _ _ _ 26 _ _ _)
      replace hf := ob_ hf
      obtain ⟨o21, eo21, hf⟩ := hf
      replace hf := ob_ hf
      obtain ⟨r22, er22, hf⟩ := hf
      refine clX9_123 (as := [.int p1]) (st := []) rfl (kX9_worstOf l er22) rfl (by decide) (Nat.le_of_ble_eq_true rfl) eo21 dX9_common_26 rfl (?_ : hp_G _ _ _ _ _ _ _ _ _ 29 _ _ _)
      refine hp_goto (tgt := 37) dX9_common_29 rfl (?_ : hp_G _ _ _ _ _ _ _ _ _ 37 _ _ _)
      exact hp_sub [0, 1, 2] rfl (tjX9_common_37 l hf kr)
  · replace hf := ot_ c3 hf
    refine hp_iconst (v := (-1)) dX9_common_9 ic_m1 (?_ : hp_G _ _ _ _ _ _ _ _ _ 10 _ _ _)
    obtain rfl := Option.some.inj hf
    exact hp_iret kr (fun z => z) rfl dX9_common_10
theorem kX9_common (l : Launch) {h : hp_H} {a0 : Nat} {p1 : Int32} {p2 : Int32} {r : Int32} (hf : fX9_common h a0 p1 p2 = some r) : hp_Cn l yX9_common mX9_common 2 false 0 0 [.ref a0, .int p1, .int p2] h (fun v h2 => some (.int r) = v ∧ h = h2) :=
  hp_of (by decide) rfl (fun z => by cases z) (Nat.le_of_ble_eq_true rfl) (tX9_common l hf ⟨rfl, rfl⟩)
noncomputable def jX1_pairFrom_162_66 (rc : hp_H → Nat → Nat → Int32 → Int32 → Int32 → Option hp_H) (g : hp_H) (v0 : Nat) (v1 : Nat) (v2 : Int32) (v3 : Int32) (v4 : Int32) (u5 : Int32)  : Option ((Int32 × hp_H) ⊕ hp_H) :=
(some (u5 + 1)).bind fun x12 =>
some (.inl (x12, g))
set_option maxRecDepth 20000 in
set_option maxHeartbeats 4000000 in
theorem tjX1_pairFrom_162_66 {dd : Nat} {rc : hp_H → Nat → Nat → Int32 → Int32 → Int32 → Option hp_H} (l : Launch) {g : hp_H} {v0 : Nat} {v1 : Nat} {v2 : Int32} {v3 : Int32} {v4 : Int32} {u5 : Int32}  (hrc : ∀ (h : hp_H) (y0 : Nat) (y1 : Nat) (y2 : Int32) (y3 : Int32) (y4 : Int32) (r : hp_H), rc h y0 y1 y2 y3 y4 = some r → hp_Cn l yX1_pairFrom mX1_pairFrom (dd + 3) false 0 0 [.ref y0, .ref y1, .int y2, .int y3, .int y4] h (fun v h2 => none = v ∧ r = h2)) {r : ((Int32 × hp_H) ⊕ hp_H)} (hf : jX1_pairFrom_162_66 rc g v0 v1 v2 v3 v4 u5 = some r) {Q : Option Value → hp_H → Prop} (kb : ∀ t, r = .inl t → hp_G l mX1_pairFrom none (dd + 4) false Q false 0 0 66 [(0, .ref v0), (1, .ref v1), (2, .int v2), (3, .int v3), (4, .int v4), (5, .int t.1)] [] t.2) (ke : ∀ x, r = .inr x → hp_G l mX1_pairFrom none (dd + 4) false Q false 0 0 168 [(0, .ref v0), (1, .ref v1), (2, .int v2), (3, .int v3), (4, .int v4)] [] x) : hp_G l mX1_pairFrom none (dd + 4) false Q false 0 0 162 [(0, .ref v0), (1, .ref v1), (2, .int v2), (3, .int v3), (4, .int v4), (5, .int u5)] [] g := by
  unfold jX1_pairFrom_162_66 at hf
  replace hf := ob_ hf
  obtain ⟨x12, ex12, hf⟩ := hf
  refine hp_iinc (v := x12) (lv' := [(5, .int x12), (0, .ref v0), (1, .ref v1), (2, .int v2), (3, .int v3), (4, .int v4)]) 5 dX1_pairFrom_162 rfl (hp_inc ic_1 ex12) (Nat.le_of_ble_eq_true rfl) rfl (?_ : hp_G _ _ _ _ _ _ _ _ _ 165 _ _ _)
  refine hp_goto (tgt := 66) dX1_pairFrom_165 rfl (?_ : hp_G _ _ _ _ _ _ _ _ _ 66 _ _ _)
  obtain rfl := Option.some.inj hf
  exact hp_sub [1, 2, 3, 4, 5, 0] rfl (kb _ rfl)
noncomputable def jX1_pairFrom_151_66 (rc : hp_H → Nat → Nat → Int32 → Int32 → Int32 → Option hp_H) (g : hp_H) (v0 : Nat) (v1 : Nat) (v2 : Int32) (v3 : Int32) (v4 : Int32) (u5 : Int32) (k0 : Int32) (k1 : Int32) (k2 : Int32) (k3 : Nat) (k4 : Nat) : Option ((Int32 × hp_H) ⊕ hp_H) :=
(hg_o g k4 1).bind fun o27 =>
(rc g k4 k3 k2 k1 k0).bind fun r28 =>
(gq_ r28 v0 1 0).bind fun x29 =>
(ax_ r28 x29 u5 (-1)).bind fun h30 =>
jX1_pairFrom_162_66 rc h30 v0 v1 v2 v3 v4 u5
set_option maxRecDepth 20000 in
set_option maxHeartbeats 4000000 in
theorem tjX1_pairFrom_151_66 {dd : Nat} {rc : hp_H → Nat → Nat → Int32 → Int32 → Int32 → Option hp_H} (l : Launch) {g : hp_H} {v0 : Nat} {v1 : Nat} {v2 : Int32} {v3 : Int32} {v4 : Int32} {u5 : Int32} {k0 : Int32} {k1 : Int32} {k2 : Int32} {k3 : Nat} {k4 : Nat} (hrc : ∀ (h : hp_H) (y0 : Nat) (y1 : Nat) (y2 : Int32) (y3 : Int32) (y4 : Int32) (r : hp_H), rc h y0 y1 y2 y3 y4 = some r → hp_Cn l yX1_pairFrom mX1_pairFrom (dd + 3) false 0 0 [.ref y0, .ref y1, .int y2, .int y3, .int y4] h (fun v h2 => none = v ∧ r = h2)) {r : ((Int32 × hp_H) ⊕ hp_H)} (hf : jX1_pairFrom_151_66 rc g v0 v1 v2 v3 v4 u5 k0 k1 k2 k3 k4 = some r) {Q : Option Value → hp_H → Prop} (kb : ∀ t, r = .inl t → hp_G l mX1_pairFrom none (dd + 4) false Q false 0 0 66 [(0, .ref v0), (1, .ref v1), (2, .int v2), (3, .int v3), (4, .int v4), (5, .int t.1)] [] t.2) (ke : ∀ x, r = .inr x → hp_G l mX1_pairFrom none (dd + 4) false Q false 0 0 168 [(0, .ref v0), (1, .ref v1), (2, .int v2), (3, .int v3), (4, .int v4)] [] x) : hp_G l mX1_pairFrom none (dd + 4) false Q false 0 0 151 [(0, .ref v0), (1, .ref v1), (2, .int v2), (3, .int v3), (4, .int v4), (5, .int u5)] [.int k0, .int k1, .int k2, .ref k3, .ref k4] g := by
  unfold jX1_pairFrom_151_66 at hf
  replace hf := ob_ hf
  obtain ⟨o27, eo27, hf⟩ := hf
  replace hf := ob_ hf
  obtain ⟨r28, er28, hf⟩ := hf
  refine clX1_43 (as := [.ref k3, .int k2, .int k1, .int k0]) (st := []) rfl (hrc _ _ _ _ _ _ _ er28) rfl (by omega) (Nat.le_of_ble_eq_true rfl) eo27 dX1_pairFrom_151 rfl (?_ : hp_G _ _ _ _ _ _ _ _ _ 154 _ _ _)
  refine hp_aload_n 0 dX1_pairFrom_154 rfl rfl (?_ : hp_G _ _ _ _ _ _ _ _ _ 155 _ _ _)
  replace hf := ob_ hf
  obtain ⟨x29, ex29, hf⟩ := hf
  refine fgX1_9 rfl dX1_pairFrom_155 ex29 (?_ : hp_G _ _ _ _ _ _ _ _ _ 158 _ _ _)
  refine hp_iload 5 dX1_pairFrom_158 rfl (?_ : hp_G _ _ _ _ _ _ _ _ _ 160 _ _ _)
  refine hp_iconst (v := (-1)) dX1_pairFrom_160 ic_m1 (?_ : hp_G _ _ _ _ _ _ _ _ _ 161 _ _ _)
  replace hf := ob_ hf
  obtain ⟨h30, eh30, hf⟩ := hf
  refine hp_iastore dX1_pairFrom_161 eh30 (?_ : hp_G _ _ _ _ _ _ _ _ _ 162 _ _ _)
  exact hp_sub [0, 1, 2, 3, 4, 5] rfl (tjX1_pairFrom_162_66 l hrc hf kb ke)
noncomputable def jX1_pairFrom_129_66 (rc : hp_H → Nat → Nat → Int32 → Int32 → Int32 → Option hp_H) (g : hp_H) (v0 : Nat) (v1 : Nat) (v2 : Int32) (v3 : Int32) (v4 : Int32) (u5 : Int32) (k0 : Int32) : Option ((Int32 × hp_H) ⊕ hp_H) :=
if k0 = 0 then
(jX1_pairFrom_151_66 rc g v0 v1 v2 v3 v4 u5 (v4 + 1) v3 (v2 + 1) v1 v0)
else
(jX1_pairFrom_151_66 rc g v0 v1 v2 v3 v4 u5 v4 v3 (v2 + 1) v1 v0)
set_option maxRecDepth 20000 in
set_option maxHeartbeats 4000000 in
theorem tjX1_pairFrom_129_66 {dd : Nat} {rc : hp_H → Nat → Nat → Int32 → Int32 → Int32 → Option hp_H} (l : Launch) {g : hp_H} {v0 : Nat} {v1 : Nat} {v2 : Int32} {v3 : Int32} {v4 : Int32} {u5 : Int32} {k0 : Int32} (hrc : ∀ (h : hp_H) (y0 : Nat) (y1 : Nat) (y2 : Int32) (y3 : Int32) (y4 : Int32) (r : hp_H), rc h y0 y1 y2 y3 y4 = some r → hp_Cn l yX1_pairFrom mX1_pairFrom (dd + 3) false 0 0 [.ref y0, .ref y1, .int y2, .int y3, .int y4] h (fun v h2 => none = v ∧ r = h2)) {r : ((Int32 × hp_H) ⊕ hp_H)} (hf : jX1_pairFrom_129_66 rc g v0 v1 v2 v3 v4 u5 k0 = some r) {Q : Option Value → hp_H → Prop} (kb : ∀ t, r = .inl t → hp_G l mX1_pairFrom none (dd + 4) false Q false 0 0 66 [(0, .ref v0), (1, .ref v1), (2, .int v2), (3, .int v3), (4, .int v4), (5, .int t.1)] [] t.2) (ke : ∀ x, r = .inr x → hp_G l mX1_pairFrom none (dd + 4) false Q false 0 0 168 [(0, .ref v0), (1, .ref v1), (2, .int v2), (3, .int v3), (4, .int v4)] [] x) : hp_G l mX1_pairFrom none (dd + 4) false Q false 0 0 129 [(0, .ref v0), (1, .ref v1), (2, .int v2), (3, .int v3), (4, .int v4), (5, .int u5)] [.int k0] g := by
  unfold jX1_pairFrom_129_66 at hf
  refine hp_istore (lv' := [(6, .int k0), (0, .ref v0), (1, .ref v1), (2, .int v2), (3, .int v3), (4, .int v4), (5, .int u5)]) dX1_pairFrom_129 (Nat.le_of_ble_eq_true rfl) rfl (?_ : hp_G _ _ _ _ _ _ _ _ _ 131 _ _ _)
  refine hp_aload_n 1 dX1_pairFrom_131 rfl rfl (?_ : hp_G _ _ _ _ _ _ _ _ _ 132 _ _ _)
  refine hp_aload_n 2 dX1_pairFrom_132 rfl rfl (?_ : hp_G _ _ _ _ _ _ _ _ _ 133 _ _ _)
  refine hp_iload_n 3 dX1_pairFrom_133 rfl rfl (?_ : hp_G _ _ _ _ _ _ _ _ _ 134 _ _ _)
  refine hp_iconst (v := 1) dX1_pairFrom_134 ic_1 (?_ : hp_G _ _ _ _ _ _ _ _ _ 135 _ _ _)
  refine hp_iadd dX1_pairFrom_135 (?_ : hp_G _ _ _ _ _ _ _ _ _ 136 _ _ _)
  refine hp_iload_n 4 dX1_pairFrom_136 rfl rfl (?_ : hp_G _ _ _ _ _ _ _ _ _ 137 _ _ _)
  refine hp_iload 0 dX1_pairFrom_137 rfl (?_ : hp_G _ _ _ _ _ _ _ _ _ 139 _ _ _)
  refine hp_if_eq (tgt := 147) dX1_pairFrom_139 rfl (fun c26 => ?_) (fun c26 => (?_ : hp_G _ _ _ _ _ _ _ _ _ 142 _ _ _))
  · replace hf := ot_ c26 hf
    refine hp_iload 5 dX1_pairFrom_147 rfl (?_ : hp_G _ _ _ _ _ _ _ _ _ 149 _ _ _)
    refine hp_iconst (v := 1) dX1_pairFrom_149 ic_1 (?_ : hp_G _ _ _ _ _ _ _ _ _ 150 _ _ _)
    refine hp_iadd dX1_pairFrom_150 (?_ : hp_G _ _ _ _ _ _ _ _ _ 151 _ _ _)
    exact hp_sub [1, 2, 3, 4, 5, 6] rfl (tjX1_pairFrom_151_66 l hrc hf kb ke)
  · replace hf := of_ c26 hf
    refine hp_iload 5 dX1_pairFrom_142 rfl (?_ : hp_G _ _ _ _ _ _ _ _ _ 144 _ _ _)
    refine hp_goto (tgt := 151) dX1_pairFrom_144 rfl (?_ : hp_G _ _ _ _ _ _ _ _ _ 151 _ _ _)
    exact hp_sub [1, 2, 3, 4, 5, 6] rfl (tjX1_pairFrom_151_66 l hrc hf kb ke)
noncomputable def bX1_pairFrom_66 (rc : hp_H → Nat → Nat → Int32 → Int32 → Int32 → Option hp_H) (v0 : Nat) (v1 : Nat) (v2 : Int32) (v3 : Int32) (v4 : Int32) (s : (Int32 × hp_H)) : Option ((Int32 × hp_H) ⊕ hp_H) :=
(gi_ s.2 v1 6 1).bind fun x7 =>
if x7 ≤ s.1 then
(some (.inr s.2))
else
((gq_ s.2 v0 1 0).bind fun x9 =>
(al_ s.2 x9 s.1).bind fun x10 =>
if x10 = (-1) then
((gq_ s.2 v0 1 0).bind fun x13 =>
(ax_ s.2 x13 v2 s.1).bind fun h14 =>
(gq_ h14 v0 1 0).bind fun x15 =>
(ax_ h14 x15 s.1 v2).bind fun h16 =>
(gq_ h16 v1 6 0).bind fun x17 =>
(ql_ h16 x17 v2).bind fun x18 =>
(hg_o h16 x18 2).bind fun o19 =>
(fX2_worst h16 x18).bind fun r20 =>
(gq_ h16 v1 6 0).bind fun x21 =>
(ql_ h16 x21 s.1).bind fun x22 =>
(hg_o h16 x22 2).bind fun o23 =>
(fX2_worst h16 x22).bind fun r24 =>
if r20 = r24 then
(jX1_pairFrom_129_66 rc h16 v0 v1 v2 v3 v4 s.1 1)
else
(jX1_pairFrom_129_66 rc h16 v0 v1 v2 v3 v4 s.1 0))
else
(jX1_pairFrom_162_66 rc s.2 v0 v1 v2 v3 v4 s.1))
set_option maxRecDepth 20000 in
set_option maxHeartbeats 4000000 in
theorem tbX1_pairFrom_66 {dd : Nat} {rc : hp_H → Nat → Nat → Int32 → Int32 → Int32 → Option hp_H} (l : Launch) {v0 : Nat} {v1 : Nat} {v2 : Int32} {v3 : Int32} {v4 : Int32} (hrc : ∀ (h : hp_H) (y0 : Nat) (y1 : Nat) (y2 : Int32) (y3 : Int32) (y4 : Int32) (r : hp_H), rc h y0 y1 y2 y3 y4 = some r → hp_Cn l yX1_pairFrom mX1_pairFrom (dd + 3) false 0 0 [.ref y0, .ref y1, .int y2, .int y3, .int y4] h (fun v h2 => none = v ∧ r = h2))  {s : (Int32 × hp_H)} {r : ((Int32 × hp_H) ⊕ hp_H)} (hf : bX1_pairFrom_66 rc  v0 v1 v2 v3 v4 s = some r) {Q : Option Value → hp_H → Prop} (kb : ∀ t, r = .inl t → hp_G l mX1_pairFrom none (dd + 4) false Q false 0 0 66 [(0, .ref v0), (1, .ref v1), (2, .int v2), (3, .int v3), (4, .int v4), (5, .int t.1)] [] t.2) (ke : ∀ x, r = .inr x → hp_G l mX1_pairFrom none (dd + 4) false Q false 0 0 168 [(0, .ref v0), (1, .ref v1), (2, .int v2), (3, .int v3), (4, .int v4)] [] x) : hp_G l mX1_pairFrom none (dd + 4) false Q false 0 0 66 [(0, .ref v0), (1, .ref v1), (2, .int v2), (3, .int v3), (4, .int v4), (5, .int s.1)] [] s.2 := by
  unfold bX1_pairFrom_66 at hf
  refine hp_iload 5 dX1_pairFrom_66 rfl (?_ : hp_G _ _ _ _ _ _ _ _ _ 68 _ _ _)
  refine hp_aload_n 1 dX1_pairFrom_68 rfl rfl (?_ : hp_G _ _ _ _ _ _ _ _ _ 69 _ _ _)
  replace hf := ob_ hf
  obtain ⟨x7, ex7, hf⟩ := hf
  refine fgX1_28 rfl dX1_pairFrom_69 ex7 (?_ : hp_G _ _ _ _ _ _ _ _ _ 72 _ _ _)
  refine hp_icmp_ge (tgt := 168) dX1_pairFrom_72 rfl (fun c8 => ?_) (fun c8 => (?_ : hp_G _ _ _ _ _ _ _ _ _ 75 _ _ _))
  · replace hf := ot_ c8 hf
    obtain rfl := Option.some.inj hf
    exact hp_sub [0, 1, 2, 3, 4] rfl (ke _ rfl)
  · replace hf := of_ c8 hf
    refine hp_aload_n 0 dX1_pairFrom_75 rfl rfl (?_ : hp_G _ _ _ _ _ _ _ _ _ 76 _ _ _)
    replace hf := ob_ hf
    obtain ⟨x9, ex9, hf⟩ := hf
    refine fgX1_9 rfl dX1_pairFrom_76 ex9 (?_ : hp_G _ _ _ _ _ _ _ _ _ 79 _ _ _)
    refine hp_iload 5 dX1_pairFrom_79 rfl (?_ : hp_G _ _ _ _ _ _ _ _ _ 81 _ _ _)
    replace hf := ob_ hf
    obtain ⟨x10, ex10, hf⟩ := hf
    refine hp_iaload dX1_pairFrom_81 ex10 (?_ : hp_G _ _ _ _ _ _ _ _ _ 82 _ _ _)
    refine hp_iconst (v := (-1)) dX1_pairFrom_82 ic_m1 (?_ : hp_G _ _ _ _ _ _ _ _ _ 83 _ _ _)
    refine hp_icmp_ne (tgt := 162) dX1_pairFrom_83 rfl (fun c11 => ?_) (fun c11 => (?_ : hp_G _ _ _ _ _ _ _ _ _ 86 _ _ _))
    · replace hf := of_ c11 hf
      exact hp_sub [0, 1, 2, 3, 4, 5] rfl (tjX1_pairFrom_162_66 l hrc hf kb ke)
    · replace hf := ot_ c11 hf
      refine hp_aload_n 0 dX1_pairFrom_86 rfl rfl (?_ : hp_G _ _ _ _ _ _ _ _ _ 87 _ _ _)
      replace hf := ob_ hf
      obtain ⟨x13, ex13, hf⟩ := hf
      refine fgX1_9 rfl dX1_pairFrom_87 ex13 (?_ : hp_G _ _ _ _ _ _ _ _ _ 90 _ _ _)
      refine hp_iload_n 2 dX1_pairFrom_90 rfl rfl (?_ : hp_G _ _ _ _ _ _ _ _ _ 91 _ _ _)
      refine hp_iload 5 dX1_pairFrom_91 rfl (?_ : hp_G _ _ _ _ _ _ _ _ _ 93 _ _ _)
      replace hf := ob_ hf
      obtain ⟨h14, eh14, hf⟩ := hf
      refine hp_iastore dX1_pairFrom_93 eh14 (?_ : hp_G _ _ _ _ _ _ _ _ _ 94 _ _ _)
      refine hp_aload_n 0 dX1_pairFrom_94 rfl rfl (?_ : hp_G _ _ _ _ _ _ _ _ _ 95 _ _ _)
      replace hf := ob_ hf
      obtain ⟨x15, ex15, hf⟩ := hf
      refine fgX1_9 rfl dX1_pairFrom_95 ex15 (?_ : hp_G _ _ _ _ _ _ _ _ _ 98 _ _ _)
      refine hp_iload 5 dX1_pairFrom_98 rfl (?_ : hp_G _ _ _ _ _ _ _ _ _ 100 _ _ _)
      refine hp_iload_n 2 dX1_pairFrom_100 rfl rfl (?_ : hp_G _ _ _ _ _ _ _ _ _ 101 _ _ _)
      replace hf := ob_ hf
      obtain ⟨h16, eh16, hf⟩ := hf
      refine hp_iastore dX1_pairFrom_101 eh16 (?_ : hp_G _ _ _ _ _ _ _ _ _ 102 _ _ _)
      refine hp_aload_n 1 dX1_pairFrom_102 rfl rfl (?_ : hp_G _ _ _ _ _ _ _ _ _ 103 _ _ _)
      replace hf := ob_ hf
      obtain ⟨x17, ex17, hf⟩ := hf
      refine fgX1_33 rfl dX1_pairFrom_103 ex17 (?_ : hp_G _ _ _ _ _ _ _ _ _ 106 _ _ _)
      refine hp_iload_n 2 dX1_pairFrom_106 rfl rfl (?_ : hp_G _ _ _ _ _ _ _ _ _ 107 _ _ _)
      replace hf := ob_ hf
      obtain ⟨x18, ex18, hf⟩ := hf
      refine hp_aaload dX1_pairFrom_107 ex18 (?_ : hp_G _ _ _ _ _ _ _ _ _ 108 _ _ _)
      replace hf := ob_ hf
      obtain ⟨o19, eo19, hf⟩ := hf
      replace hf := ob_ hf
      obtain ⟨r20, er20, hf⟩ := hf
      refine clX1_53 (as := []) (st := []) rfl (kX2_worst l er20) rfl (by omega) (Nat.le_of_ble_eq_true rfl) eo19 dX1_pairFrom_108 rfl (?_ : hp_G _ _ _ _ _ _ _ _ _ 111 _ _ _)
      refine hp_aload_n 1 dX1_pairFrom_111 rfl rfl (?_ : hp_G _ _ _ _ _ _ _ _ _ 112 _ _ _)
      replace hf := ob_ hf
      obtain ⟨x21, ex21, hf⟩ := hf
      refine fgX1_33 rfl dX1_pairFrom_112 ex21 (?_ : hp_G _ _ _ _ _ _ _ _ _ 115 _ _ _)
      refine hp_iload 5 dX1_pairFrom_115 rfl (?_ : hp_G _ _ _ _ _ _ _ _ _ 117 _ _ _)
      replace hf := ob_ hf
      obtain ⟨x22, ex22, hf⟩ := hf
      refine hp_aaload dX1_pairFrom_117 ex22 (?_ : hp_G _ _ _ _ _ _ _ _ _ 118 _ _ _)
      replace hf := ob_ hf
      obtain ⟨o23, eo23, hf⟩ := hf
      replace hf := ob_ hf
      obtain ⟨r24, er24, hf⟩ := hf
      refine clX1_53 (as := []) (st := [.int r20]) rfl (kX2_worst l er24) rfl (by omega) (Nat.le_of_ble_eq_true rfl) eo23 dX1_pairFrom_118 rfl (?_ : hp_G _ _ _ _ _ _ _ _ _ 121 _ _ _)
      refine hp_icmp_ne (tgt := 128) dX1_pairFrom_121 rfl (fun c25 => ?_) (fun c25 => (?_ : hp_G _ _ _ _ _ _ _ _ _ 124 _ _ _))
      · replace hf := of_ c25 hf
        refine hp_iconst (v := 0) dX1_pairFrom_128 ic_0 (?_ : hp_G _ _ _ _ _ _ _ _ _ 129 _ _ _)
        exact hp_sub [0, 1, 2, 3, 4, 5] rfl (tjX1_pairFrom_129_66 l hrc hf kb ke)
      · replace hf := ot_ c25 hf
        refine hp_iconst (v := 1) dX1_pairFrom_124 ic_1 (?_ : hp_G _ _ _ _ _ _ _ _ _ 125 _ _ _)
        refine hp_goto (tgt := 129) dX1_pairFrom_125 rfl (?_ : hp_G _ _ _ _ _ _ _ _ _ 129 _ _ _)
        exact hp_sub [0, 1, 2, 3, 4, 5] rfl (tjX1_pairFrom_129_66 l hrc hf kb ke)
set_option maxRecDepth 20000 in
set_option maxHeartbeats 4000000 in
theorem tlX1_pairFrom_66 {dd : Nat} {rc : hp_H → Nat → Nat → Int32 → Int32 → Int32 → Option hp_H} (l : Launch) {v0 : Nat} {v1 : Nat} {v2 : Int32} {v3 : Int32} {v4 : Int32} (hrc : ∀ (h : hp_H) (y0 : Nat) (y1 : Nat) (y2 : Int32) (y3 : Int32) (y4 : Int32) (r : hp_H), rc h y0 y1 y2 y3 y4 = some r → hp_Cn l yX1_pairFrom mX1_pairFrom (dd + 3) false 0 0 [.ref y0, .ref y1, .int y2, .int y3, .int y4] h (fun v h2 => none = v ∧ r = h2))  (q : Nat) {s : (Int32 × hp_H)} {x : hp_H} (hf : it_ (bX1_pairFrom_66 rc  v0 v1 v2 v3 v4) q s = some x) {Q : Option Value → hp_H → Prop} (ke : ∀ e, x = e → hp_G l mX1_pairFrom none (dd + 4) false Q false 0 0 168 [(0, .ref v0), (1, .ref v1), (2, .int v2), (3, .int v3), (4, .int v4)] [] e) : hp_G l mX1_pairFrom none (dd + 4) false Q false 0 0 66 [(0, .ref v0), (1, .ref v1), (2, .int v2), (3, .int v3), (4, .int v4), (5, .int s.1)] [] s.2 := by
  exact it_rule (f := bX1_pairFrom_66 rc  v0 v1 v2 v3 v4) (fun s => hp_G l mX1_pairFrom none (dd + 4) false Q false 0 0 66 [(0, .ref v0), (1, .ref v1), (2, .int v2), (3, .int v3), (4, .int v4), (5, .int s.1)] [] s.2) (fun x => (∀ e, x = e → hp_G l mX1_pairFrom none (dd + 4) false Q false 0 0 168 [(0, .ref v0), (1, .ref v1), (2, .int v2), (3, .int v3), (4, .int v4)] [] e)) (fun s r h1 h2 h3 => tbX1_pairFrom_66 l hrc h1 (fun t e => h2 t e) (fun e he => h3 _ he _ rfl)) q s x hf ke
noncomputable def jX1_pairFrom_193 (rc : hp_H → Nat → Nat → Int32 → Int32 → Int32 → Option hp_H) (g : hp_H)  (u0 : Nat) (u2 : Int32)  : Option hp_H :=
(gq_ g u0 1 0).bind fun x33 =>
(ax_ g x33 u2 (-1)).bind fun h34 =>
some h34
set_option maxRecDepth 20000 in
set_option maxHeartbeats 4000000 in
theorem tjX1_pairFrom_193 {dd : Nat} {rc : hp_H → Nat → Nat → Int32 → Int32 → Int32 → Option hp_H} (l : Launch) {g : hp_H}  {u0 : Nat} {u2 : Int32}  (hrc : ∀ (h : hp_H) (y0 : Nat) (y1 : Nat) (y2 : Int32) (y3 : Int32) (y4 : Int32) (r : hp_H), rc h y0 y1 y2 y3 y4 = some r → hp_Cn l yX1_pairFrom mX1_pairFrom (dd + 3) false 0 0 [.ref y0, .ref y1, .int y2, .int y3, .int y4] h (fun v h2 => none = v ∧ r = h2)) {r : hp_H} (hf : jX1_pairFrom_193 rc g u0 u2 = some r) {Q : Option Value → hp_H → Prop} (kr : Q (none) r) : hp_G l mX1_pairFrom none (dd + 4) false Q false 0 0 193 [(0, .ref u0), (2, .int u2)] [] g := by
  unfold jX1_pairFrom_193 at hf
  refine hp_aload_n 0 dX1_pairFrom_193 rfl rfl (?_ : hp_G _ _ _ _ _ _ _ _ _ 194 _ _ _)
  replace hf := ob_ hf
  obtain ⟨x33, ex33, hf⟩ := hf
  refine fgX1_9 rfl dX1_pairFrom_194 ex33 (?_ : hp_G _ _ _ _ _ _ _ _ _ 197 _ _ _)
  refine hp_iload_n 1 dX1_pairFrom_197 rfl rfl (?_ : hp_G _ _ _ _ _ _ _ _ _ 198 _ _ _)
  refine hp_iconst (v := (-1)) dX1_pairFrom_198 ic_m1 (?_ : hp_G _ _ _ _ _ _ _ _ _ 199 _ _ _)
  replace hf := ob_ hf
  obtain ⟨h34, eh34, hf⟩ := hf
  refine hp_iastore dX1_pairFrom_199 eh34 (?_ : hp_G _ _ _ _ _ _ _ _ _ 200 _ _ _)
  obtain rfl := Option.some.inj hf
  exact hp_vret kr (fun z => z) rfl dX1_pairFrom_200
noncomputable def wX1_pairFrom (rc : hp_H → Nat → Nat → Int32 → Int32 → Int32 → Option hp_H) (h : hp_H) (a0 : Nat) (a1 : Nat) (p2 : Int32) (p3 : Int32) (p4 : Int32) : Option hp_H :=
(gi_ h a1 6 1).bind fun x1 =>
if p2 < x1 then
((gq_ h a0 1 0).bind fun x3 =>
(al_ h x3 p2).bind fun x4 =>
if x4 = (-1) then
((some (p2 + 1)).bind fun x6 =>
(it_ (bX1_pairFrom_66 rc  a0 a1 p2 p3 p4) fu_ (x6, h)).bind fun x31 =>
if p3 ≤ 0 then
(jX1_pairFrom_193 rc x31 a0 p2)
else
((gq_ x31 a0 1 0).bind fun x35 =>
(ax_ x31 x35 p2 9).bind fun h36 =>
(hg_o h36 a0 1).bind fun o37 =>
(rc h36 a0 a1 (p2 + 1) (p3 - 1) p4).bind fun r38 =>
jX1_pairFrom_193 rc r38 a0 p2))
else
((hg_o h a0 1).bind fun o39 =>
(rc h a0 a1 (p2 + 1) p3 p4).bind fun r40 =>
some r40))
else
((gi_ h a0 1 2).bind fun x41 =>
if x41 ≤ p4 then
(some h)
else
((pi_ h a0 1 2 p4).bind fun h43 =>
(gq_ h43 a0 1 0).bind fun x44 =>
(gq_ h43 a0 1 1).bind fun x45 =>
(cp_ h43 x44 0 x45 0 6).bind fun h46 =>
some h46))
set_option maxRecDepth 20000 in
set_option maxHeartbeats 4000000 in
theorem tX1_pairFrom {dd : Nat} {rc : hp_H → Nat → Nat → Int32 → Int32 → Int32 → Option hp_H} (l : Launch) {h : hp_H} {a0 : Nat} {a1 : Nat} {p2 : Int32} {p3 : Int32} {p4 : Int32} (hrc : ∀ (h : hp_H) (y0 : Nat) (y1 : Nat) (y2 : Int32) (y3 : Int32) (y4 : Int32) (r : hp_H), rc h y0 y1 y2 y3 y4 = some r → hp_Cn l yX1_pairFrom mX1_pairFrom (dd + 3) false 0 0 [.ref y0, .ref y1, .int y2, .int y3, .int y4] h (fun v h2 => none = v ∧ r = h2)) {r : hp_H} (hf : wX1_pairFrom rc h a0 a1 p2 p3 p4 = some r) {Q : Option Value → hp_H → Prop} (kr : Q (none) r) : hp_G l mX1_pairFrom none (dd + 4) false Q false 0 0 0 [(0, .ref a0), (1, .ref a1), (2, .int p2), (3, .int p3), (4, .int p4)] [] h := by
  unfold wX1_pairFrom at hf
  refine hp_iload_n 2 dX1_pairFrom_0 rfl rfl (?_ : hp_G _ _ _ _ _ _ _ _ _ 1 _ _ _)
  refine hp_aload_n 1 dX1_pairFrom_1 rfl rfl (?_ : hp_G _ _ _ _ _ _ _ _ _ 2 _ _ _)
  replace hf := ob_ hf
  obtain ⟨x1, ex1, hf⟩ := hf
  refine fgX1_28 rfl dX1_pairFrom_2 ex1 (?_ : hp_G _ _ _ _ _ _ _ _ _ 5 _ _ _)
  refine hp_icmp_lt (tgt := 39) dX1_pairFrom_5 rfl (fun c2 => ?_) (fun c2 => (?_ : hp_G _ _ _ _ _ _ _ _ _ 8 _ _ _))
  · replace hf := ot_ c2 hf
    refine hp_aload_n 0 dX1_pairFrom_39 rfl rfl (?_ : hp_G _ _ _ _ _ _ _ _ _ 40 _ _ _)
    replace hf := ob_ hf
    obtain ⟨x3, ex3, hf⟩ := hf
    refine fgX1_9 rfl dX1_pairFrom_40 ex3 (?_ : hp_G _ _ _ _ _ _ _ _ _ 43 _ _ _)
    refine hp_iload_n 2 dX1_pairFrom_43 rfl rfl (?_ : hp_G _ _ _ _ _ _ _ _ _ 44 _ _ _)
    replace hf := ob_ hf
    obtain ⟨x4, ex4, hf⟩ := hf
    refine hp_iaload dX1_pairFrom_44 ex4 (?_ : hp_G _ _ _ _ _ _ _ _ _ 45 _ _ _)
    refine hp_iconst (v := (-1)) dX1_pairFrom_45 ic_m1 (?_ : hp_G _ _ _ _ _ _ _ _ _ 46 _ _ _)
    refine hp_icmp_eq (tgt := 61) dX1_pairFrom_46 rfl (fun c5 => ?_) (fun c5 => (?_ : hp_G _ _ _ _ _ _ _ _ _ 49 _ _ _))
    · replace hf := ot_ c5 hf
      refine hp_iload_n 2 dX1_pairFrom_61 rfl rfl (?_ : hp_G _ _ _ _ _ _ _ _ _ 62 _ _ _)
      refine hp_iconst (v := 1) dX1_pairFrom_62 ic_1 (?_ : hp_G _ _ _ _ _ _ _ _ _ 63 _ _ _)
      refine hp_iadd dX1_pairFrom_63 (?_ : hp_G _ _ _ _ _ _ _ _ _ 64 _ _ _)
      replace hf := ob_ hf
      obtain ⟨x6, ex6, hf⟩ := hf
      refine hp_nmi ex6 ?_
      refine hp_istore (lv' := [(5, .int x6), (0, .ref a0), (1, .ref a1), (2, .int p2), (3, .int p3), (4, .int p4)]) dX1_pairFrom_64 (Nat.le_of_ble_eq_true rfl) rfl (?_ : hp_G _ _ _ _ _ _ _ _ _ 66 _ _ _)
      replace hf := ob_ hf
      obtain ⟨x31, ex31, hf⟩ := hf
      refine hp_sub [1, 2, 3, 4, 5, 0] rfl ?_
      refine tlX1_pairFrom_66 l hrc fu_ ex31 (fun y hy => ?_)
      obtain rfl := hy
      refine hp_iload_n 3 dX1_pairFrom_168 rfl rfl (?_ : hp_G _ _ _ _ _ _ _ _ _ 169 _ _ _)
      refine hp_if_le (tgt := 193) dX1_pairFrom_169 rfl (fun c32 => ?_) (fun c32 => (?_ : hp_G _ _ _ _ _ _ _ _ _ 172 _ _ _))
      · replace hf := ot_ c32 hf
        exact hp_sub [0, 2] rfl (tjX1_pairFrom_193 l hrc hf kr)
      · replace hf := of_ c32 hf
        refine hp_aload_n 0 dX1_pairFrom_172 rfl rfl (?_ : hp_G _ _ _ _ _ _ _ _ _ 173 _ _ _)
        replace hf := ob_ hf
        obtain ⟨x35, ex35, hf⟩ := hf
        refine fgX1_9 rfl dX1_pairFrom_173 ex35 (?_ : hp_G _ _ _ _ _ _ _ _ _ 176 _ _ _)
        refine hp_iload_n 2 dX1_pairFrom_176 rfl rfl (?_ : hp_G _ _ _ _ _ _ _ _ _ 177 _ _ _)
        refine hp_bipush (v := 9) dX1_pairFrom_177 bi_9 (?_ : hp_G _ _ _ _ _ _ _ _ _ 179 _ _ _)
        replace hf := ob_ hf
        obtain ⟨h36, eh36, hf⟩ := hf
        refine hp_iastore dX1_pairFrom_179 eh36 (?_ : hp_G _ _ _ _ _ _ _ _ _ 180 _ _ _)
        refine hp_aload_n 0 dX1_pairFrom_180 rfl rfl (?_ : hp_G _ _ _ _ _ _ _ _ _ 181 _ _ _)
        refine hp_aload_n 1 dX1_pairFrom_181 rfl rfl (?_ : hp_G _ _ _ _ _ _ _ _ _ 182 _ _ _)
        refine hp_iload_n 2 dX1_pairFrom_182 rfl rfl (?_ : hp_G _ _ _ _ _ _ _ _ _ 183 _ _ _)
        refine hp_iconst (v := 1) dX1_pairFrom_183 ic_1 (?_ : hp_G _ _ _ _ _ _ _ _ _ 184 _ _ _)
        refine hp_iadd dX1_pairFrom_184 (?_ : hp_G _ _ _ _ _ _ _ _ _ 185 _ _ _)
        refine hp_iload_n 3 dX1_pairFrom_185 rfl rfl (?_ : hp_G _ _ _ _ _ _ _ _ _ 186 _ _ _)
        refine hp_iconst (v := 1) dX1_pairFrom_186 ic_1 (?_ : hp_G _ _ _ _ _ _ _ _ _ 187 _ _ _)
        refine hp_isub dX1_pairFrom_187 (?_ : hp_G _ _ _ _ _ _ _ _ _ 188 _ _ _)
        refine hp_iload 4 dX1_pairFrom_188 rfl (?_ : hp_G _ _ _ _ _ _ _ _ _ 190 _ _ _)
        replace hf := ob_ hf
        obtain ⟨o37, eo37, hf⟩ := hf
        replace hf := ob_ hf
        obtain ⟨r38, er38, hf⟩ := hf
        refine clX1_43 (as := [.ref a1, .int (p2 + 1), .int (p3 - 1), .int p4]) (st := []) rfl (hrc _ _ _ _ _ _ _ er38) rfl (by omega) (Nat.le_of_ble_eq_true rfl) eo37 dX1_pairFrom_190 rfl (?_ : hp_G _ _ _ _ _ _ _ _ _ 193 _ _ _)
        exact hp_sub [0, 2] rfl (tjX1_pairFrom_193 l hrc hf kr)
    · replace hf := of_ c5 hf
      refine hp_aload_n 0 dX1_pairFrom_49 rfl rfl (?_ : hp_G _ _ _ _ _ _ _ _ _ 50 _ _ _)
      refine hp_aload_n 1 dX1_pairFrom_50 rfl rfl (?_ : hp_G _ _ _ _ _ _ _ _ _ 51 _ _ _)
      refine hp_iload_n 2 dX1_pairFrom_51 rfl rfl (?_ : hp_G _ _ _ _ _ _ _ _ _ 52 _ _ _)
      refine hp_iconst (v := 1) dX1_pairFrom_52 ic_1 (?_ : hp_G _ _ _ _ _ _ _ _ _ 53 _ _ _)
      refine hp_iadd dX1_pairFrom_53 (?_ : hp_G _ _ _ _ _ _ _ _ _ 54 _ _ _)
      refine hp_iload_n 3 dX1_pairFrom_54 rfl rfl (?_ : hp_G _ _ _ _ _ _ _ _ _ 55 _ _ _)
      refine hp_iload 4 dX1_pairFrom_55 rfl (?_ : hp_G _ _ _ _ _ _ _ _ _ 57 _ _ _)
      replace hf := ob_ hf
      obtain ⟨o39, eo39, hf⟩ := hf
      replace hf := ob_ hf
      obtain ⟨r40, er40, hf⟩ := hf
      refine clX1_43 (as := [.ref a1, .int (p2 + 1), .int p3, .int p4]) (st := []) rfl (hrc _ _ _ _ _ _ _ er40) rfl (by omega) (Nat.le_of_ble_eq_true rfl) eo39 dX1_pairFrom_57 rfl (?_ : hp_G _ _ _ _ _ _ _ _ _ 60 _ _ _)
      obtain rfl := Option.some.inj hf
      exact hp_vret kr (fun z => z) rfl dX1_pairFrom_60
  · replace hf := of_ c2 hf
    refine hp_iload 4 dX1_pairFrom_8 rfl (?_ : hp_G _ _ _ _ _ _ _ _ _ 10 _ _ _)
    refine hp_aload_n 0 dX1_pairFrom_10 rfl rfl (?_ : hp_G _ _ _ _ _ _ _ _ _ 11 _ _ _)
    replace hf := ob_ hf
    obtain ⟨x41, ex41, hf⟩ := hf
    refine fgX1_18 rfl dX1_pairFrom_11 ex41 (?_ : hp_G _ _ _ _ _ _ _ _ _ 14 _ _ _)
    refine hp_icmp_ge (tgt := 38) dX1_pairFrom_14 rfl (fun c42 => ?_) (fun c42 => (?_ : hp_G _ _ _ _ _ _ _ _ _ 17 _ _ _))
    · replace hf := ot_ c42 hf
      obtain rfl := Option.some.inj hf
      exact hp_vret kr (fun z => z) rfl dX1_pairFrom_38
    · replace hf := of_ c42 hf
      refine hp_aload_n 0 dX1_pairFrom_17 rfl rfl (?_ : hp_G _ _ _ _ _ _ _ _ _ 18 _ _ _)
      refine hp_iload 4 dX1_pairFrom_18 rfl (?_ : hp_G _ _ _ _ _ _ _ _ _ 20 _ _ _)
      replace hf := ob_ hf
      obtain ⟨h43, eh43, hf⟩ := hf
      refine fpX1_18 rfl dX1_pairFrom_20 eh43 (?_ : hp_G _ _ _ _ _ _ _ _ _ 23 _ _ _)
      refine hp_aload_n 0 dX1_pairFrom_23 rfl rfl (?_ : hp_G _ _ _ _ _ _ _ _ _ 24 _ _ _)
      replace hf := ob_ hf
      obtain ⟨x44, ex44, hf⟩ := hf
      refine fgX1_9 rfl dX1_pairFrom_24 ex44 (?_ : hp_G _ _ _ _ _ _ _ _ _ 27 _ _ _)
      refine hp_iconst (v := 0) dX1_pairFrom_27 ic_0 (?_ : hp_G _ _ _ _ _ _ _ _ _ 28 _ _ _)
      refine hp_aload_n 0 dX1_pairFrom_28 rfl rfl (?_ : hp_G _ _ _ _ _ _ _ _ _ 29 _ _ _)
      replace hf := ob_ hf
      obtain ⟨x45, ex45, hf⟩ := hf
      refine fgX1_15 rfl dX1_pairFrom_29 ex45 (?_ : hp_G _ _ _ _ _ _ _ _ _ 32 _ _ _)
      refine hp_iconst (v := 0) dX1_pairFrom_32 ic_0 (?_ : hp_G _ _ _ _ _ _ _ _ _ 33 _ _ _)
      refine hp_bipush (v := 6) dX1_pairFrom_33 bi_6 (?_ : hp_G _ _ _ _ _ _ _ _ _ 35 _ _ _)
      replace hf := ob_ hf
      obtain ⟨h46, eh46, hf⟩ := hf
      refine hp_copy (List.forall_mem_cons.mpr ⟨wd_496, (List.forall_mem_cons.mpr ⟨wd_498, (List.forall_mem_cons.mpr ⟨wd_497, (List.forall_mem_cons.mpr ⟨wd_86, (fun _ h => absurd h List.not_mem_nil)⟩)⟩)⟩)⟩) (by refine ⟨by omega, ?_⟩; show 0 + (7 + 11) ≤ _; omega) dX1_pairFrom_35 eh46 (?_ : hp_G _ _ _ _ _ _ _ _ _ 38 _ _ _)
      obtain rfl := Option.some.inj hf
      exact hp_vret kr (fun z => z) rfl dX1_pairFrom_38
noncomputable def fX1_pairFrom : Nat → hp_H → Nat → Nat → Int32 → Int32 → Int32 → Option hp_H
  | 0 => fun _ _ _ _ _ _ => none
  | q + 1 => fun h a0 a1 p2 p3 p4 => wX1_pairFrom (fX1_pairFrom q) h a0 a1 p2 p3 p4
theorem kX1_pairFrom (q : Nat) (l : Launch) : ∀ {h : hp_H} {a0 : Nat} {a1 : Nat} {p2 : Int32} {p3 : Int32} {p4 : Int32} {r : hp_H}, fX1_pairFrom q h a0 a1 p2 p3 p4 = some r → hp_Cn l yX1_pairFrom mX1_pairFrom (q + 3) false 0 0 [.ref a0, .ref a1, .int p2, .int p3, .int p4] h (fun v h2 => none = v ∧ r = h2) := by
  induction q with
  | zero => intro h a0 a1 p2 p3 p4 r hf; cases hf
  | succ q ih =>
    intro h a0 a1 p2 p3 p4 r hf
    have hg := tX1_pairFrom (dd := q) (rc := fX1_pairFrom q) l (fun h y0 y1 y2 y3 y4 r e => ih e) (hf : wX1_pairFrom (fX1_pairFrom q) h a0 a1 p2 p3 p4 = some r) (Q := fun v h2 => none = v ∧ r = h2) ⟨rfl, rfl⟩
    rw [show q + 1 + 3 = q + 4 by omega]
    exact hp_of (by decide) rfl (fun z => by cases z) (Nat.le_of_ble_eq_true rfl) hg
noncomputable def jX1_find_49_19 (g : hp_H) (v0 : Nat) (v1 : Nat) (u2 : Int32) (u3 : Int32)  : Option ((Int32 × Int32 × hp_H) ⊕ (Int32 × hp_H)) :=
(some (u3 + 1)).bind fun x10 =>
some (.inl (u2, x10, g))
set_option maxRecDepth 20000 in
set_option maxHeartbeats 4000000 in
theorem tjX1_find_49_19 (l : Launch) {g : hp_H} {v0 : Nat} {v1 : Nat} {u2 : Int32} {u3 : Int32}  {r : ((Int32 × Int32 × hp_H) ⊕ (Int32 × hp_H))} (hf : jX1_find_49_19 g v0 v1 u2 u3 = some r) {Q : Option Value → hp_H → Prop} (kb : ∀ t, r = .inl t → hp_G l mX1_find none 12 false Q false 0 0 19 [(0, .ref v0), (1, .ref v1), (2, .int t.1), (3, .int t.2.1)] [] t.2.2) (ke : ∀ x, r = .inr x → hp_G l mX1_find none 12 false Q false 0 0 55 [(0, .ref v0), (1, .ref v1), (2, .int x.1)] [] x.2) : hp_G l mX1_find none 12 false Q false 0 0 49 [(0, .ref v0), (1, .ref v1), (2, .int u2), (3, .int u3)] [] g := by
  unfold jX1_find_49_19 at hf
  replace hf := ob_ hf
  obtain ⟨x10, ex10, hf⟩ := hf
  refine hp_iinc (v := x10) (lv' := [(3, .int x10), (0, .ref v0), (1, .ref v1), (2, .int u2)]) 3 dX1_find_49 rfl (hp_inc ic_1 ex10) (Nat.le_of_ble_eq_true rfl) rfl (?_ : hp_G _ _ _ _ _ _ _ _ _ 52 _ _ _)
  refine hp_goto (tgt := 19) dX1_find_52 rfl (?_ : hp_G _ _ _ _ _ _ _ _ _ 19 _ _ _)
  obtain rfl := Option.some.inj hf
  exact hp_sub [1, 2, 3, 0] rfl (kb _ rfl)
noncomputable def bX1_find_19 (v0 : Nat) (v1 : Nat) (s : (Int32 × Int32 × hp_H)) : Option ((Int32 × Int32 × hp_H) ⊕ (Int32 × hp_H)) :=
(gi_ s.2.2 v1 6 1).bind fun x4 =>
if x4 ≤ s.2.1 then
(some (.inr (s.1, s.2.2)))
else
((gq_ s.2.2 v1 6 0).bind fun x6 =>
(ql_ s.2.2 x6 s.2.1).bind fun x7 =>
(gi_ s.2.2 x7 2 3).bind fun x8 =>
if x8 = 0 then
((gq_ s.2.2 v0 1 0).bind fun x11 =>
(ax_ s.2.2 x11 s.2.1 (-1)).bind fun h12 =>
(some (s.1 + 1)).bind fun x13 =>
jX1_find_49_19 h12 v0 v1 x13 s.2.1)
else
(jX1_find_49_19 s.2.2 v0 v1 s.1 s.2.1))
set_option maxRecDepth 20000 in
set_option maxHeartbeats 4000000 in
theorem tbX1_find_19 (l : Launch) {v0 : Nat} {v1 : Nat}  {s : (Int32 × Int32 × hp_H)} {r : ((Int32 × Int32 × hp_H) ⊕ (Int32 × hp_H))} (hf : bX1_find_19  v0 v1 s = some r) {Q : Option Value → hp_H → Prop} (kb : ∀ t, r = .inl t → hp_G l mX1_find none 12 false Q false 0 0 19 [(0, .ref v0), (1, .ref v1), (2, .int t.1), (3, .int t.2.1)] [] t.2.2) (ke : ∀ x, r = .inr x → hp_G l mX1_find none 12 false Q false 0 0 55 [(0, .ref v0), (1, .ref v1), (2, .int x.1)] [] x.2) : hp_G l mX1_find none 12 false Q false 0 0 19 [(0, .ref v0), (1, .ref v1), (2, .int s.1), (3, .int s.2.1)] [] s.2.2 := by
  unfold bX1_find_19 at hf
  refine hp_iload_n 3 dX1_find_19 rfl rfl (?_ : hp_G _ _ _ _ _ _ _ _ _ 20 _ _ _)
  refine hp_aload_n 1 dX1_find_20 rfl rfl (?_ : hp_G _ _ _ _ _ _ _ _ _ 21 _ _ _)
  replace hf := ob_ hf
  obtain ⟨x4, ex4, hf⟩ := hf
  refine fgX1_28 rfl dX1_find_21 ex4 (?_ : hp_G _ _ _ _ _ _ _ _ _ 24 _ _ _)
  refine hp_icmp_ge (tgt := 55) dX1_find_24 rfl (fun c5 => ?_) (fun c5 => (?_ : hp_G _ _ _ _ _ _ _ _ _ 27 _ _ _))
  · replace hf := ot_ c5 hf
    obtain rfl := Option.some.inj hf
    exact hp_sub [0, 1, 2] rfl (ke _ rfl)
  · replace hf := of_ c5 hf
    refine hp_aload_n 1 dX1_find_27 rfl rfl (?_ : hp_G _ _ _ _ _ _ _ _ _ 28 _ _ _)
    replace hf := ob_ hf
    obtain ⟨x6, ex6, hf⟩ := hf
    refine fgX1_33 rfl dX1_find_28 ex6 (?_ : hp_G _ _ _ _ _ _ _ _ _ 31 _ _ _)
    refine hp_iload_n 3 dX1_find_31 rfl rfl (?_ : hp_G _ _ _ _ _ _ _ _ _ 32 _ _ _)
    replace hf := ob_ hf
    obtain ⟨x7, ex7, hf⟩ := hf
    refine hp_aaload dX1_find_32 ex7 (?_ : hp_G _ _ _ _ _ _ _ _ _ 33 _ _ _)
    replace hf := ob_ hf
    obtain ⟨x8, ex8, hf⟩ := hf
    refine fgX1_37 rfl dX1_find_33 ex8 (?_ : hp_G _ _ _ _ _ _ _ _ _ 36 _ _ _)
    refine hp_if_ne (tgt := 49) dX1_find_36 rfl (fun c9 => ?_) (fun c9 => (?_ : hp_G _ _ _ _ _ _ _ _ _ 39 _ _ _))
    · replace hf := of_ c9 hf
      exact hp_sub [0, 1, 2, 3] rfl (tjX1_find_49_19 l hf kb ke)
    · replace hf := ot_ c9 hf
      refine hp_aload_n 0 dX1_find_39 rfl rfl (?_ : hp_G _ _ _ _ _ _ _ _ _ 40 _ _ _)
      replace hf := ob_ hf
      obtain ⟨x11, ex11, hf⟩ := hf
      refine fgX1_9 rfl dX1_find_40 ex11 (?_ : hp_G _ _ _ _ _ _ _ _ _ 43 _ _ _)
      refine hp_iload_n 3 dX1_find_43 rfl rfl (?_ : hp_G _ _ _ _ _ _ _ _ _ 44 _ _ _)
      refine hp_iconst (v := (-1)) dX1_find_44 ic_m1 (?_ : hp_G _ _ _ _ _ _ _ _ _ 45 _ _ _)
      replace hf := ob_ hf
      obtain ⟨h12, eh12, hf⟩ := hf
      refine hp_iastore dX1_find_45 eh12 (?_ : hp_G _ _ _ _ _ _ _ _ _ 46 _ _ _)
      replace hf := ob_ hf
      obtain ⟨x13, ex13, hf⟩ := hf
      refine hp_iinc (v := x13) (lv' := [(2, .int x13), (0, .ref v0), (1, .ref v1), (3, .int s.2.1)]) 2 dX1_find_46 rfl (hp_inc ic_1 ex13) (Nat.le_of_ble_eq_true rfl) rfl (?_ : hp_G _ _ _ _ _ _ _ _ _ 49 _ _ _)
      exact hp_sub [1, 2, 0, 3] rfl (tjX1_find_49_19 l hf kb ke)
set_option maxRecDepth 20000 in
set_option maxHeartbeats 4000000 in
theorem tlX1_find_19 (l : Launch) {v0 : Nat} {v1 : Nat}  (q : Nat) {s : (Int32 × Int32 × hp_H)} {x : (Int32 × hp_H)} (hf : it_ (bX1_find_19  v0 v1) q s = some x) {Q : Option Value → hp_H → Prop} (ke : ∀ e, x = e → hp_G l mX1_find none 12 false Q false 0 0 55 [(0, .ref v0), (1, .ref v1), (2, .int e.1)] [] e.2) : hp_G l mX1_find none 12 false Q false 0 0 19 [(0, .ref v0), (1, .ref v1), (2, .int s.1), (3, .int s.2.1)] [] s.2.2 := by
  exact it_rule (f := bX1_find_19  v0 v1) (fun s => hp_G l mX1_find none 12 false Q false 0 0 19 [(0, .ref v0), (1, .ref v1), (2, .int s.1), (3, .int s.2.1)] [] s.2.2) (fun x => (∀ e, x = e → hp_G l mX1_find none 12 false Q false 0 0 55 [(0, .ref v0), (1, .ref v1), (2, .int e.1)] [] e.2)) (fun s r h1 h2 h3 => tbX1_find_19 l h1 (fun t e => h2 t e) (fun e he => h3 _ he _ rfl)) q s x hf ke
noncomputable def fX1_find (h : hp_H) (a0 : Nat) (a1 : Nat) : Option hp_H :=
(pi_ h a0 1 2 6).bind fun h1 =>
(gq_ h1 a0 1 0).bind fun x2 =>
(fJ7_fill_53178 h1 x2 9).bind fun r3 =>
(it_ (bX1_find_19  a0 a1) fu_ (0, 0, r3)).bind fun x14 =>
(rm_ x14.1 2).bind fun x15 =>
(hg_o x14.2 a0 1).bind fun o16 =>
(fX1_pairFrom 8 x14.2 a0 a1 0 x15 0).bind fun r17 =>
some r17
set_option maxRecDepth 20000 in
set_option maxHeartbeats 4000000 in
theorem tX1_find (l : Launch) {h : hp_H} {a0 : Nat} {a1 : Nat} {r : hp_H} (hf : fX1_find h a0 a1 = some r) {Q : Option Value → hp_H → Prop} (kr : Q (none) r) : hp_G l mX1_find none 12 false Q false 0 0 0 [(0, .ref a0), (1, .ref a1)] [] h := by
  unfold fX1_find at hf
  refine hp_aload_n 0 dX1_find_0 rfl rfl (?_ : hp_G _ _ _ _ _ _ _ _ _ 1 _ _ _)
  refine hp_bipush (v := 6) dX1_find_1 bi_6 (?_ : hp_G _ _ _ _ _ _ _ _ _ 3 _ _ _)
  replace hf := ob_ hf
  obtain ⟨h1, eh1, hf⟩ := hf
  refine fpX1_18 rfl dX1_find_3 eh1 (?_ : hp_G _ _ _ _ _ _ _ _ _ 6 _ _ _)
  refine hp_aload_n 0 dX1_find_6 rfl rfl (?_ : hp_G _ _ _ _ _ _ _ _ _ 7 _ _ _)
  replace hf := ob_ hf
  obtain ⟨x2, ex2, hf⟩ := hf
  refine fgX1_9 rfl dX1_find_7 ex2 (?_ : hp_G _ _ _ _ _ _ _ _ _ 10 _ _ _)
  refine hp_bipush (v := 9) dX1_find_10 bi_9 (?_ : hp_G _ _ _ _ _ _ _ _ _ 12 _ _ _)
  replace hf := ob_ hf
  obtain ⟨r3, er3, hf⟩ := hf
  refine clX1_22 (as := [.ref x2, .int 9]) (st := []) rfl (kJ7_fill_53178 l er3) rfl (by decide) (Nat.le_of_ble_eq_true rfl) dX1_find_12 rfl (?_ : hp_G _ _ _ _ _ _ _ _ _ 15 _ _ _)
  refine hp_iconst (v := 0) dX1_find_15 ic_0 (?_ : hp_G _ _ _ _ _ _ _ _ _ 16 _ _ _)
  refine hp_istore_n (lv' := [(2, .int 0), (0, .ref a0), (1, .ref a1)]) dX1_find_16 rfl (Nat.le_of_ble_eq_true rfl) rfl (?_ : hp_G _ _ _ _ _ _ _ _ _ 17 _ _ _)
  refine hp_iconst (v := 0) dX1_find_17 ic_0 (?_ : hp_G _ _ _ _ _ _ _ _ _ 18 _ _ _)
  refine hp_istore_n (lv' := [(3, .int 0), (2, .int 0), (0, .ref a0), (1, .ref a1)]) dX1_find_18 rfl (Nat.le_of_ble_eq_true rfl) rfl (?_ : hp_G _ _ _ _ _ _ _ _ _ 19 _ _ _)
  replace hf := ob_ hf
  obtain ⟨x14, ex14, hf⟩ := hf
  refine hp_sub [2, 3, 1, 0] rfl ?_
  refine tlX1_find_19 l fu_ ex14 (fun y hy => ?_)
  obtain rfl := hy
  refine hp_aload_n 0 dX1_find_55 rfl rfl (?_ : hp_G _ _ _ _ _ _ _ _ _ 56 _ _ _)
  refine hp_aload_n 1 dX1_find_56 rfl rfl (?_ : hp_G _ _ _ _ _ _ _ _ _ 57 _ _ _)
  refine hp_iconst (v := 0) dX1_find_57 ic_0 (?_ : hp_G _ _ _ _ _ _ _ _ _ 58 _ _ _)
  refine hp_iload_n 2 dX1_find_58 rfl rfl (?_ : hp_G _ _ _ _ _ _ _ _ _ 59 _ _ _)
  refine hp_iconst (v := 2) dX1_find_59 ic_2 (?_ : hp_G _ _ _ _ _ _ _ _ _ 60 _ _ _)
  replace hf := ob_ hf
  obtain ⟨x15, ex15, hf⟩ := hf
  refine hp_irem dX1_find_60 ex15 (?_ : hp_G _ _ _ _ _ _ _ _ _ 61 _ _ _)
  refine hp_iconst (v := 0) dX1_find_61 ic_0 (?_ : hp_G _ _ _ _ _ _ _ _ _ 62 _ _ _)
  replace hf := ob_ hf
  obtain ⟨o16, eo16, hf⟩ := hf
  replace hf := ob_ hf
  obtain ⟨r17, er17, hf⟩ := hf
  refine clX1_43 (as := [.ref a1, .int 0, .int x15, .int 0]) (st := []) rfl (kX1_pairFrom 8 l er17) rfl (by decide) (Nat.le_of_ble_eq_true rfl) eo16 dX1_find_62 rfl (?_ : hp_G _ _ _ _ _ _ _ _ _ 65 _ _ _)
  obtain rfl := Option.some.inj hf
  exact hp_vret kr (fun z => z) rfl dX1_find_65
theorem kX1_find (l : Launch) {h : hp_H} {a0 : Nat} {a1 : Nat} {r : hp_H} (hf : fX1_find h a0 a1 = some r) : hp_Cn l yX1_find mX1_find 12 false 0 0 [.ref a0, .ref a1] h (fun v h2 => none = v ∧ r = h2) :=
  hp_of (by decide) rfl (fun z => by cases z) (Nat.le_of_ble_eq_true rfl) (tX1_find l hf ⟨rfl, rfl⟩)
noncomputable def fX1_partnerOf (h : hp_H) (a0 : Nat) (p1 : Int32) : Option Int32 :=
if p1 < 0 then
(some (-9))
else
(if (6 : Int32) ≤ p1 then
(some (-9))
else
((gq_ h a0 1 1).bind fun x3 =>
(al_ h x3 p1).bind fun x4 =>
if x4 = 9 then
(some (-9))
else
((gq_ h a0 1 1).bind fun x6 =>
(al_ h x6 p1).bind fun x7 =>
some x7)))
set_option maxRecDepth 20000 in
set_option maxHeartbeats 4000000 in
theorem tX1_partnerOf (l : Launch) {h : hp_H} {a0 : Nat} {p1 : Int32} {r : Int32} (hf : fX1_partnerOf h a0 p1 = some r) {Q : Option Value → hp_H → Prop} (kr : Q (some (.int r)) h) : hp_G l mX1_partnerOf none 0 false Q false 0 0 0 [(0, .ref a0), (1, .int p1)] [] h := by
  unfold fX1_partnerOf at hf
  refine hp_iload_n 1 dX1_partnerOf_0 rfl rfl (?_ : hp_G _ _ _ _ _ _ _ _ _ 1 _ _ _)
  refine hp_if_lt (tgt := 21) dX1_partnerOf_1 rfl (fun c1 => ?_) (fun c1 => (?_ : hp_G _ _ _ _ _ _ _ _ _ 4 _ _ _))
  · replace hf := ot_ c1 hf
    refine hp_bipush (v := (-9)) dX1_partnerOf_21 bi_m9 (?_ : hp_G _ _ _ _ _ _ _ _ _ 23 _ _ _)
    refine hp_goto (tgt := 32) dX1_partnerOf_23 rfl (?_ : hp_G _ _ _ _ _ _ _ _ _ 32 _ _ _)
    obtain rfl := Option.some.inj hf
    exact hp_iret kr (fun z => z) rfl dX1_partnerOf_32
  · replace hf := of_ c1 hf
    refine hp_iload_n 1 dX1_partnerOf_4 rfl rfl (?_ : hp_G _ _ _ _ _ _ _ _ _ 5 _ _ _)
    refine hp_bipush (v := 6) dX1_partnerOf_5 bi_6 (?_ : hp_G _ _ _ _ _ _ _ _ _ 7 _ _ _)
    refine hp_icmp_ge (tgt := 21) dX1_partnerOf_7 rfl (fun c2 => ?_) (fun c2 => (?_ : hp_G _ _ _ _ _ _ _ _ _ 10 _ _ _))
    · replace hf := ot_ c2 hf
      refine hp_bipush (v := (-9)) dX1_partnerOf_21 bi_m9 (?_ : hp_G _ _ _ _ _ _ _ _ _ 23 _ _ _)
      refine hp_goto (tgt := 32) dX1_partnerOf_23 rfl (?_ : hp_G _ _ _ _ _ _ _ _ _ 32 _ _ _)
      obtain rfl := Option.some.inj hf
      exact hp_iret kr (fun z => z) rfl dX1_partnerOf_32
    · replace hf := of_ c2 hf
      refine hp_aload_n 0 dX1_partnerOf_10 rfl rfl (?_ : hp_G _ _ _ _ _ _ _ _ _ 11 _ _ _)
      replace hf := ob_ hf
      obtain ⟨x3, ex3, hf⟩ := hf
      refine fgX1_15 rfl dX1_partnerOf_11 ex3 (?_ : hp_G _ _ _ _ _ _ _ _ _ 14 _ _ _)
      refine hp_iload_n 1 dX1_partnerOf_14 rfl rfl (?_ : hp_G _ _ _ _ _ _ _ _ _ 15 _ _ _)
      replace hf := ob_ hf
      obtain ⟨x4, ex4, hf⟩ := hf
      refine hp_iaload dX1_partnerOf_15 ex4 (?_ : hp_G _ _ _ _ _ _ _ _ _ 16 _ _ _)
      refine hp_bipush (v := 9) dX1_partnerOf_16 bi_9 (?_ : hp_G _ _ _ _ _ _ _ _ _ 18 _ _ _)
      refine hp_icmp_ne (tgt := 26) dX1_partnerOf_18 rfl (fun c5 => ?_) (fun c5 => (?_ : hp_G _ _ _ _ _ _ _ _ _ 21 _ _ _))
      · replace hf := of_ c5 hf
        refine hp_aload_n 0 dX1_partnerOf_26 rfl rfl (?_ : hp_G _ _ _ _ _ _ _ _ _ 27 _ _ _)
        replace hf := ob_ hf
        obtain ⟨x6, ex6, hf⟩ := hf
        refine fgX1_15 rfl dX1_partnerOf_27 ex6 (?_ : hp_G _ _ _ _ _ _ _ _ _ 30 _ _ _)
        refine hp_iload_n 1 dX1_partnerOf_30 rfl rfl (?_ : hp_G _ _ _ _ _ _ _ _ _ 31 _ _ _)
        replace hf := ob_ hf
        obtain ⟨x7, ex7, hf⟩ := hf
        refine hp_iaload dX1_partnerOf_31 ex7 (?_ : hp_G _ _ _ _ _ _ _ _ _ 32 _ _ _)
        obtain rfl := Option.some.inj hf
        exact hp_iret kr (fun z => z) rfl dX1_partnerOf_32
      · replace hf := ot_ c5 hf
        refine hp_bipush (v := (-9)) dX1_partnerOf_21 bi_m9 (?_ : hp_G _ _ _ _ _ _ _ _ _ 23 _ _ _)
        refine hp_goto (tgt := 32) dX1_partnerOf_23 rfl (?_ : hp_G _ _ _ _ _ _ _ _ _ 32 _ _ _)
        obtain rfl := Option.some.inj hf
        exact hp_iret kr (fun z => z) rfl dX1_partnerOf_32
theorem kX1_partnerOf (l : Launch) {h : hp_H} {a0 : Nat} {p1 : Int32} {r : Int32} (hf : fX1_partnerOf h a0 p1 = some r) : hp_Cn l yX1_partnerOf mX1_partnerOf 0 false 0 0 [.ref a0, .int p1] h (fun v h2 => some (.int r) = v ∧ h = h2) :=
  hp_of (by decide) rfl (fun z => by cases z) (Nat.le_of_ble_eq_true rfl) (tX1_partnerOf l hf ⟨rfl, rfl⟩)
noncomputable def fX8_pairs (h : hp_H) (a0 : Nat) (p1 : Int32) : Option (Int32 × hp_H) :=
if p1 < (-1) then
(some ((-2), h))
else
(if p1 < 6 then
((gq_ h a0 7 0).bind fun x3 =>
(gi_ h x3 6 1).bind fun x4 =>
if x4 = 0 then
(some ((-3), h))
else
((gq_ h a0 7 4).bind fun x6 =>
(gq_ h a0 7 0).bind fun x7 =>
(hg_o h x6 1).bind fun o8 =>
(fX1_find h x6 x7).bind fun r9 =>
if (0 : Int32) ≤ p1 then
((gq_ r9 a0 7 4).bind fun x11 =>
(hg_o r9 x11 1).bind fun o12 =>
(fX1_partnerOf r9 x11 p1).bind fun r13 =>
some (r13, r9))
else
((gq_ r9 a0 7 4).bind fun x14 =>
(gi_ r9 x14 1 2).bind fun x15 =>
some (x15, r9))))
else
(some ((-2), h)))
set_option maxRecDepth 20000 in
set_option maxHeartbeats 4000000 in
theorem tX8_pairs (l : Launch) {h : hp_H} {a0 : Nat} {p1 : Int32} {r : (Int32 × hp_H)} (hf : fX8_pairs h a0 p1 = some r) {Q : Option Value → hp_H → Prop} (kr : Q (some (.int r.1)) r.2) : hp_G l mX8_pairs none 13 false Q false 0 0 0 [(0, .ref a0), (1, .int p1)] [] h := by
  unfold fX8_pairs at hf
  refine hp_iload_n 1 dX8_pairs_0 rfl rfl (?_ : hp_G _ _ _ _ _ _ _ _ _ 1 _ _ _)
  refine hp_iconst (v := (-1)) dX8_pairs_1 ic_m1 (?_ : hp_G _ _ _ _ _ _ _ _ _ 2 _ _ _)
  refine hp_icmp_lt (tgt := 11) dX8_pairs_2 rfl (fun c1 => ?_) (fun c1 => (?_ : hp_G _ _ _ _ _ _ _ _ _ 5 _ _ _))
  · replace hf := ot_ c1 hf
    refine hp_bipush (v := (-2)) dX8_pairs_11 bi_m2 (?_ : hp_G _ _ _ _ _ _ _ _ _ 13 _ _ _)
    obtain rfl := Option.some.inj hf
    exact hp_iret kr (fun z => z) rfl dX8_pairs_13
  · replace hf := of_ c1 hf
    refine hp_iload_n 1 dX8_pairs_5 rfl rfl (?_ : hp_G _ _ _ _ _ _ _ _ _ 6 _ _ _)
    refine hp_bipush (v := 6) dX8_pairs_6 bi_6 (?_ : hp_G _ _ _ _ _ _ _ _ _ 8 _ _ _)
    refine hp_icmp_lt (tgt := 14) dX8_pairs_8 rfl (fun c2 => ?_) (fun c2 => (?_ : hp_G _ _ _ _ _ _ _ _ _ 11 _ _ _))
    · replace hf := ot_ c2 hf
      refine hp_aload_n 0 dX8_pairs_14 rfl rfl (?_ : hp_G _ _ _ _ _ _ _ _ _ 15 _ _ _)
      replace hf := ob_ hf
      obtain ⟨x3, ex3, hf⟩ := hf
      refine fgX8_12 rfl dX8_pairs_15 ex3 (?_ : hp_G _ _ _ _ _ _ _ _ _ 18 _ _ _)
      replace hf := ob_ hf
      obtain ⟨x4, ex4, hf⟩ := hf
      refine fgX8_92 rfl dX8_pairs_18 ex4 (?_ : hp_G _ _ _ _ _ _ _ _ _ 21 _ _ _)
      refine hp_if_ne (tgt := 27) dX8_pairs_21 rfl (fun c5 => ?_) (fun c5 => (?_ : hp_G _ _ _ _ _ _ _ _ _ 24 _ _ _))
      · replace hf := of_ c5 hf
        refine hp_aload_n 0 dX8_pairs_27 rfl rfl (?_ : hp_G _ _ _ _ _ _ _ _ _ 28 _ _ _)
        replace hf := ob_ hf
        obtain ⟨x6, ex6, hf⟩ := hf
        refine fgX8_41 rfl dX8_pairs_28 ex6 (?_ : hp_G _ _ _ _ _ _ _ _ _ 31 _ _ _)
        refine hp_aload_n 0 dX8_pairs_31 rfl rfl (?_ : hp_G _ _ _ _ _ _ _ _ _ 32 _ _ _)
        replace hf := ob_ hf
        obtain ⟨x7, ex7, hf⟩ := hf
        refine fgX8_12 rfl dX8_pairs_32 ex7 (?_ : hp_G _ _ _ _ _ _ _ _ _ 35 _ _ _)
        replace hf := ob_ hf
        obtain ⟨o8, eo8, hf⟩ := hf
        replace hf := ob_ hf
        obtain ⟨r9, er9, hf⟩ := hf
        refine clX8_167 (as := [.ref x7]) (st := []) rfl (kX1_find l er9) rfl (by decide) (Nat.le_of_ble_eq_true rfl) eo8 dX8_pairs_35 rfl (?_ : hp_G _ _ _ _ _ _ _ _ _ 38 _ _ _)
        refine hp_iload_n 1 dX8_pairs_38 rfl rfl (?_ : hp_G _ _ _ _ _ _ _ _ _ 39 _ _ _)
        refine hp_if_ge (tgt := 52) dX8_pairs_39 rfl (fun c10 => ?_) (fun c10 => (?_ : hp_G _ _ _ _ _ _ _ _ _ 42 _ _ _))
        · replace hf := ot_ c10 hf
          refine hp_aload_n 0 dX8_pairs_52 rfl rfl (?_ : hp_G _ _ _ _ _ _ _ _ _ 53 _ _ _)
          replace hf := ob_ hf
          obtain ⟨x11, ex11, hf⟩ := hf
          refine fgX8_41 rfl dX8_pairs_53 ex11 (?_ : hp_G _ _ _ _ _ _ _ _ _ 56 _ _ _)
          refine hp_iload_n 1 dX8_pairs_56 rfl rfl (?_ : hp_G _ _ _ _ _ _ _ _ _ 57 _ _ _)
          replace hf := ob_ hf
          obtain ⟨o12, eo12, hf⟩ := hf
          replace hf := ob_ hf
          obtain ⟨r13, er13, hf⟩ := hf
          refine clX8_174 (as := [.int p1]) (st := []) rfl (kX1_partnerOf l er13) rfl (by decide) (Nat.le_of_ble_eq_true rfl) eo12 dX8_pairs_57 rfl (?_ : hp_G _ _ _ _ _ _ _ _ _ 60 _ _ _)
          obtain rfl := Option.some.inj hf
          exact hp_iret kr (fun z => z) rfl dX8_pairs_60
        · replace hf := of_ c10 hf
          refine hp_aload_n 0 dX8_pairs_42 rfl rfl (?_ : hp_G _ _ _ _ _ _ _ _ _ 43 _ _ _)
          replace hf := ob_ hf
          obtain ⟨x14, ex14, hf⟩ := hf
          refine fgX8_41 rfl dX8_pairs_43 ex14 (?_ : hp_G _ _ _ _ _ _ _ _ _ 46 _ _ _)
          replace hf := ob_ hf
          obtain ⟨x15, ex15, hf⟩ := hf
          refine fgX8_171 rfl dX8_pairs_46 ex15 (?_ : hp_G _ _ _ _ _ _ _ _ _ 49 _ _ _)
          refine hp_goto (tgt := 60) dX8_pairs_49 rfl (?_ : hp_G _ _ _ _ _ _ _ _ _ 60 _ _ _)
          obtain rfl := Option.some.inj hf
          exact hp_iret kr (fun z => z) rfl dX8_pairs_60
      · replace hf := ot_ c5 hf
        refine hp_bipush (v := (-3)) dX8_pairs_24 bi_m3 (?_ : hp_G _ _ _ _ _ _ _ _ _ 26 _ _ _)
        obtain rfl := Option.some.inj hf
        exact hp_iret kr (fun z => z) rfl dX8_pairs_26
    · replace hf := of_ c2 hf
      refine hp_bipush (v := (-2)) dX8_pairs_11 bi_m2 (?_ : hp_G _ _ _ _ _ _ _ _ _ 13 _ _ _)
      obtain rfl := Option.some.inj hf
      exact hp_iret kr (fun z => z) rfl dX8_pairs_13
theorem kX8_pairs (l : Launch) {h : hp_H} {a0 : Nat} {p1 : Int32} {r : (Int32 × hp_H)} (hf : fX8_pairs h a0 p1 = some r) : hp_Cn l yX8_pairs mX8_pairs 13 false 0 0 [.ref a0, .int p1] h (fun v h2 => some (.int r.1) = v ∧ r.2 = h2) :=
  hp_of (by decide) rfl (fun z => by cases z) (Nat.le_of_ble_eq_true rfl) (tX8_pairs l hf ⟨rfl, rfl⟩)
