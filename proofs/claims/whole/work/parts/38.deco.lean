noncomputable def fX8_tellLefty (h : hp_H) (a0 : Nat) (a1 : Nat) : Option (Int32 × hp_H) :=
(hg_o h a0 7).bind fun o1 =>
(fX8_mark h a0 2).bind fun r2 =>
(hg_o r2 a0 7).bind fun o3 =>
(fX8_tellPlayer r2 a0 a1).bind fun r4 =>
some (r4.1 + 100, r4.2)
set_option maxRecDepth 20000 in
set_option maxHeartbeats 4000000 in
theorem tX8_tellLefty (l : Launch) {h : hp_H} {a0 : Nat} {a1 : Nat} {r : (Int32 × hp_H)} (hf : fX8_tellLefty h a0 a1 = some r) {Q : Option Value → hp_H → Prop} (kr : Q (some (.int r.1)) r.2) : hp_G l mX8_tellLefty none 2 false Q false 0 0 0 [(0, .ref a0), (1, .ref a1)] [] h := by
  unfold fX8_tellLefty at hf
  refine hp_aload_n 0 dX8_tellLefty_0 rfl rfl (?_ : hp_G _ _ _ _ _ _ _ _ _ 1 _ _ _)
  refine hp_iconst (v := 2) dX8_tellLefty_1 ic_2 (?_ : hp_G _ _ _ _ _ _ _ _ _ 2 _ _ _)
  replace hf := ob_ hf
  obtain ⟨o1, eo1, hf⟩ := hf
  replace hf := ob_ hf
  obtain ⟨r2, er2, hf⟩ := hf
  refine clX8_248 (as := [.int 2]) (st := []) rfl (kX8_mark l er2) rfl (by decide) (Nat.le_of_ble_eq_true rfl) eo1 dX8_tellLefty_2 rfl (?_ : hp_G _ _ _ _ _ _ _ _ _ 5 _ _ _)
  refine hp_aload_n 0 dX8_tellLefty_5 rfl rfl (?_ : hp_G _ _ _ _ _ _ _ _ _ 6 _ _ _)
  refine hp_aload_n 1 dX8_tellLefty_6 rfl rfl (?_ : hp_G _ _ _ _ _ _ _ _ _ 7 _ _ _)
  replace hf := ob_ hf
  obtain ⟨o3, eo3, hf⟩ := hf
  replace hf := ob_ hf
  obtain ⟨r4, er4, hf⟩ := hf
  refine clX8_245 (as := [.ref a1]) (st := []) rfl (kX8_tellPlayer l er4) rfl (by decide) (Nat.le_of_ble_eq_true rfl) eo3 dX8_tellLefty_7 rfl (?_ : hp_G _ _ _ _ _ _ _ _ _ 10 _ _ _)
  refine hp_bipush (v := 100) dX8_tellLefty_10 bi_100 (?_ : hp_G _ _ _ _ _ _ _ _ _ 12 _ _ _)
  refine hp_iadd dX8_tellLefty_12 (?_ : hp_G _ _ _ _ _ _ _ _ _ 13 _ _ _)
  obtain rfl := Option.some.inj hf
  exact hp_iret kr (fun z => z) rfl dX8_tellLefty_13
theorem kX8_tellLefty (l : Launch) {h : hp_H} {a0 : Nat} {a1 : Nat} {r : (Int32 × hp_H)} (hf : fX8_tellLefty h a0 a1 = some r) : hp_Cn l yX8_tellLefty mX8_tellLefty 2 false 0 0 [.ref a0, .ref a1] h (fun v h2 => some (.int r.1) = v ∧ r.2 = h2) :=
  hp_of (by decide) rfl (fun z => by cases z) (Nat.le_of_ble_eq_true rfl) (tX8_tellLefty l hf ⟨rfl, rfl⟩)
noncomputable def fX8_tellChampion (h : hp_H) (a0 : Nat) (a1 : Nat) : Option (Int32 × hp_H) :=
(hg_o h a0 7).bind fun o1 =>
(fX8_mark h a0 3).bind fun r2 =>
(hg_o r2 a0 7).bind fun o3 =>
(fX8_tellLefty r2 a0 a1).bind fun r4 =>
(hg_o r4.2 a0 7).bind fun o5 =>
(fX8_tellPlayer r4.2 a0 a1).bind fun r6 =>
some (r4.1 + r6.1, r6.2)
set_option maxRecDepth 20000 in
set_option maxHeartbeats 4000000 in
theorem tX8_tellChampion (l : Launch) {h : hp_H} {a0 : Nat} {a1 : Nat} {r : (Int32 × hp_H)} (hf : fX8_tellChampion h a0 a1 = some r) {Q : Option Value → hp_H → Prop} (kr : Q (some (.int r.1)) r.2) : hp_G l mX8_tellChampion none 3 false Q false 0 0 0 [(0, .ref a0), (1, .ref a1)] [] h := by
  unfold fX8_tellChampion at hf
  refine hp_aload_n 0 dX8_tellChampion_0 rfl rfl (?_ : hp_G _ _ _ _ _ _ _ _ _ 1 _ _ _)
  refine hp_iconst (v := 3) dX8_tellChampion_1 ic_3 (?_ : hp_G _ _ _ _ _ _ _ _ _ 2 _ _ _)
  replace hf := ob_ hf
  obtain ⟨o1, eo1, hf⟩ := hf
  replace hf := ob_ hf
  obtain ⟨r2, er2, hf⟩ := hf
  refine clX8_248 (as := [.int 3]) (st := []) rfl (kX8_mark l er2) rfl (by decide) (Nat.le_of_ble_eq_true rfl) eo1 dX8_tellChampion_2 rfl (?_ : hp_G _ _ _ _ _ _ _ _ _ 5 _ _ _)
  refine hp_aload_n 0 dX8_tellChampion_5 rfl rfl (?_ : hp_G _ _ _ _ _ _ _ _ _ 6 _ _ _)
  refine hp_aload_n 1 dX8_tellChampion_6 rfl rfl (?_ : hp_G _ _ _ _ _ _ _ _ _ 7 _ _ _)
  replace hf := ob_ hf
  obtain ⟨o3, eo3, hf⟩ := hf
  replace hf := ob_ hf
  obtain ⟨r4, er4, hf⟩ := hf
  refine clX8_242 (as := [.ref a1]) (st := []) rfl (kX8_tellLefty l er4) rfl (by decide) (Nat.le_of_ble_eq_true rfl) eo3 dX8_tellChampion_7 rfl (?_ : hp_G _ _ _ _ _ _ _ _ _ 10 _ _ _)
  refine hp_istore_n (lv' := [(2, .int r4.1), (0, .ref a0), (1, .ref a1)]) dX8_tellChampion_10 rfl (Nat.le_of_ble_eq_true rfl) rfl (?_ : hp_G _ _ _ _ _ _ _ _ _ 11 _ _ _)
  refine hp_iload_n 0 dX8_tellChampion_11 rfl rfl (?_ : hp_G _ _ _ _ _ _ _ _ _ 12 _ _ _)
  refine hp_aload_n 1 dX8_tellChampion_12 rfl rfl (?_ : hp_G _ _ _ _ _ _ _ _ _ 13 _ _ _)
  refine hp_aload_n 2 dX8_tellChampion_13 rfl rfl (?_ : hp_G _ _ _ _ _ _ _ _ _ 14 _ _ _)
  replace hf := ob_ hf
  obtain ⟨o5, eo5, hf⟩ := hf
  replace hf := ob_ hf
  obtain ⟨r6, er6, hf⟩ := hf
  refine clX8_245 (as := [.ref a1]) (st := [.int r4.1]) rfl (kX8_tellPlayer l er6) rfl (by decide) (Nat.le_of_ble_eq_true rfl) eo5 dX8_tellChampion_14 rfl (?_ : hp_G _ _ _ _ _ _ _ _ _ 17 _ _ _)
  refine hp_iadd dX8_tellChampion_17 (?_ : hp_G _ _ _ _ _ _ _ _ _ 18 _ _ _)
  obtain rfl := Option.some.inj hf
  exact hp_iret kr (fun z => z) rfl dX8_tellChampion_18
theorem kX8_tellChampion (l : Launch) {h : hp_H} {a0 : Nat} {a1 : Nat} {r : (Int32 × hp_H)} (hf : fX8_tellChampion h a0 a1 = some r) : hp_Cn l yX8_tellChampion mX8_tellChampion 3 false 0 0 [.ref a0, .ref a1] h (fun v h2 => some (.int r.1) = v ∧ r.2 = h2) :=
  hp_of (by decide) rfl (fun z => by cases z) (Nat.le_of_ble_eq_true rfl) (tX8_tellChampion l hf ⟨rfl, rfl⟩)
noncomputable def fX8_tell (h : hp_H) (a0 : Nat) (p1 : Int32) : Option (Int32 × hp_H) :=
(gq_ h a0 7 0).bind fun x1 =>
(hg_o h x1 6).bind fun o2 =>
(fX7_has h x1 p1).bind fun r3 =>
if r3 = 0 then
(some ((-1), h))
else
((gq_ h a0 7 0).bind fun x5 =>
(gq_ h x5 6 0).bind fun x6 =>
(ql_ h x6 p1).bind fun x7 =>
(gi_ h x7 2 0).bind fun x8 =>
if x8 = 1 then
((hg_o h a0 7).bind fun o10 =>
(fX8_tellLefty h a0 x7).bind fun r11 =>
some (r11.1, r11.2))
else
(if x8 = 2 then
((hg_o h a0 7).bind fun o13 =>
(fX8_tellChampion h a0 x7).bind fun r14 =>
some (r14.1, r14.2))
else
((hg_o h a0 7).bind fun o15 =>
(fX8_tellPlayer h a0 x7).bind fun r16 =>
some (r16.1, r16.2))))
set_option maxRecDepth 20000 in
set_option maxHeartbeats 4000000 in
theorem tX8_tell (l : Launch) {h : hp_H} {a0 : Nat} {p1 : Int32} {r : (Int32 × hp_H)} (hf : fX8_tell h a0 p1 = some r) {Q : Option Value → hp_H → Prop} (kr : Q (some (.int r.1)) r.2) : hp_G l mX8_tell none 4 false Q false 0 0 0 [(0, .ref a0), (1, .int p1)] [] h := by
  unfold fX8_tell at hf
  refine hp_aload_n 0 dX8_tell_0 rfl rfl (?_ : hp_G _ _ _ _ _ _ _ _ _ 1 _ _ _)
  replace hf := ob_ hf
  obtain ⟨x1, ex1, hf⟩ := hf
  refine fgX8_12 rfl dX8_tell_1 ex1 (?_ : hp_G _ _ _ _ _ _ _ _ _ 4 _ _ _)
  refine hp_iload_n 1 dX8_tell_4 rfl rfl (?_ : hp_G _ _ _ _ _ _ _ _ _ 5 _ _ _)
  replace hf := ob_ hf
  obtain ⟨o2, eo2, hf⟩ := hf
  replace hf := ob_ hf
  obtain ⟨r3, er3, hf⟩ := hf
  refine clX8_93 (as := [.int p1]) (st := []) rfl (kX7_has l er3) rfl (by decide) (Nat.le_of_ble_eq_true rfl) eo2 dX8_tell_5 rfl (?_ : hp_G _ _ _ _ _ _ _ _ _ 8 _ _ _)
  refine hp_if_ne (tgt := 13) dX8_tell_8 rfl (fun c4 => ?_) (fun c4 => (?_ : hp_G _ _ _ _ _ _ _ _ _ 11 _ _ _))
  · replace hf := of_ c4 hf
    refine hp_aload_n 0 dX8_tell_13 rfl rfl (?_ : hp_G _ _ _ _ _ _ _ _ _ 14 _ _ _)
    replace hf := ob_ hf
    obtain ⟨x5, ex5, hf⟩ := hf
    refine fgX8_12 rfl dX8_tell_14 ex5 (?_ : hp_G _ _ _ _ _ _ _ _ _ 17 _ _ _)
    replace hf := ob_ hf
    obtain ⟨x6, ex6, hf⟩ := hf
    refine fgX8_96 rfl dX8_tell_17 ex6 (?_ : hp_G _ _ _ _ _ _ _ _ _ 20 _ _ _)
    refine hp_iload_n 1 dX8_tell_20 rfl rfl (?_ : hp_G _ _ _ _ _ _ _ _ _ 21 _ _ _)
    replace hf := ob_ hf
    obtain ⟨x7, ex7, hf⟩ := hf
    refine hp_aaload dX8_tell_21 ex7 (?_ : hp_G _ _ _ _ _ _ _ _ _ 22 _ _ _)
    refine hp_astore_n (lv' := [(2, .ref x7), (0, .ref a0), (1, .int p1)]) dX8_tell_22 rfl (Nat.le_of_ble_eq_true rfl) rfl (?_ : hp_G _ _ _ _ _ _ _ _ _ 23 _ _ _)
    refine hp_aload_n 0 dX8_tell_23 rfl rfl (?_ : hp_G _ _ _ _ _ _ _ _ _ 24 _ _ _)
    replace hf := ob_ hf
    obtain ⟨x8, ex8, hf⟩ := hf
    refine fgX8_235 rfl dX8_tell_24 ex8 (?_ : hp_G _ _ _ _ _ _ _ _ _ 27 _ _ _)
    by_cases c9 : x8 = 1
    · replace hf := ot_ c9 hf
      refine hp_lookup (tgt := 58) dX8_tell_27 rfl (by rw [c9]; decide) ?_
      refine hp_aload_n 1 dX8_tell_58 rfl rfl (?_ : hp_G _ _ _ _ _ _ _ _ _ 59 _ _ _)
      refine hp_aload_n 0 dX8_tell_59 rfl rfl (?_ : hp_G _ _ _ _ _ _ _ _ _ 60 _ _ _)
      replace hf := ob_ hf
      obtain ⟨o10, eo10, hf⟩ := hf
      replace hf := ob_ hf
      obtain ⟨r11, er11, hf⟩ := hf
      refine clX8_242 (as := [.ref x7]) (st := []) rfl (kX8_tellLefty l er11) rfl (by decide) (Nat.le_of_ble_eq_true rfl) eo10 dX8_tell_60 rfl (?_ : hp_G _ _ _ _ _ _ _ _ _ 63 _ _ _)
      obtain rfl := Option.some.inj hf
      exact hp_iret kr (fun z => z) rfl dX8_tell_63
    · replace hf := of_ c9 hf
      by_cases c12 : x8 = 2
      · replace hf := ot_ c12 hf
        refine hp_lookup (tgt := 52) dX8_tell_27 rfl (by rw [c12]; decide) ?_
        refine hp_aload_n 1 dX8_tell_52 rfl rfl (?_ : hp_G _ _ _ _ _ _ _ _ _ 53 _ _ _)
        refine hp_aload_n 0 dX8_tell_53 rfl rfl (?_ : hp_G _ _ _ _ _ _ _ _ _ 54 _ _ _)
        replace hf := ob_ hf
        obtain ⟨o13, eo13, hf⟩ := hf
        replace hf := ob_ hf
        obtain ⟨r14, er14, hf⟩ := hf
        refine clX8_238 (as := [.ref x7]) (st := []) rfl (kX8_tellChampion l er14) rfl (by decide) (Nat.le_of_ble_eq_true rfl) eo13 dX8_tell_54 rfl (?_ : hp_G _ _ _ _ _ _ _ _ _ 57 _ _ _)
        obtain rfl := Option.some.inj hf
        exact hp_iret kr (fun z => z) rfl dX8_tell_57
      · replace hf := of_ c12 hf
        refine hp_lookup (tgt := 64) dX8_tell_27 (by decide) (by show (27 : Int) + Op.lookupswitch.offset [(1, 31), (2, 25)] 37 (Int32.toInt x8) = _; rw [Op.lookupswitch.offset_cons, if_neg (hp_nei (by decide) c9), Op.lookupswitch.offset_cons, if_neg (hp_nei (by decide) c12), Op.lookupswitch.offset_nil]; decide) ?_
        refine hp_aload_n 1 dX8_tell_64 rfl rfl (?_ : hp_G _ _ _ _ _ _ _ _ _ 65 _ _ _)
        refine hp_aload_n 0 dX8_tell_65 rfl rfl (?_ : hp_G _ _ _ _ _ _ _ _ _ 66 _ _ _)
        replace hf := ob_ hf
        obtain ⟨o15, eo15, hf⟩ := hf
        replace hf := ob_ hf
        obtain ⟨r16, er16, hf⟩ := hf
        refine clX8_245 (as := [.ref x7]) (st := []) rfl (kX8_tellPlayer l er16) rfl (by decide) (Nat.le_of_ble_eq_true rfl) eo15 dX8_tell_66 rfl (?_ : hp_G _ _ _ _ _ _ _ _ _ 69 _ _ _)
        obtain rfl := Option.some.inj hf
        exact hp_iret kr (fun z => z) rfl dX8_tell_69
  · replace hf := ot_ c4 hf
    refine hp_iconst (v := (-1)) dX8_tell_11 ic_m1 (?_ : hp_G _ _ _ _ _ _ _ _ _ 12 _ _ _)
    obtain rfl := Option.some.inj hf
    exact hp_iret kr (fun z => z) rfl dX8_tell_12
theorem kX8_tell (l : Launch) {h : hp_H} {a0 : Nat} {p1 : Int32} {r : (Int32 × hp_H)} (hf : fX8_tell h a0 p1 = some r) : hp_Cn l yX8_tell mX8_tell 4 false 0 0 [.ref a0, .int p1] h (fun v h2 => some (.int r.1) = v ∧ r.2 = h2) :=
  hp_of (by decide) rfl (fun z => by cases z) (Nat.le_of_ble_eq_true rfl) (tX8_tell l hf ⟨rfl, rfl⟩)
noncomputable def fX9_begins (h : hp_H) (a0 : Nat) (p1 : Int32) : Option hp_H :=
(gi_ h a0 8 1).bind fun x1 =>
(pi_ h a0 8 1 ((31 * x1) + p1)).bind fun h2 =>
some h2
set_option maxRecDepth 20000 in
set_option maxHeartbeats 4000000 in
theorem tX9_begins (l : Launch) {h : hp_H} {a0 : Nat} {p1 : Int32} {r : hp_H} (hf : fX9_begins h a0 p1 = some r) {Q : Option Value → hp_H → Prop} (kr : Q (none) r) : hp_G l mX9_begins none 0 false Q false 0 0 0 [(0, .ref a0), (1, .int p1)] [] h := by
  unfold fX9_begins at hf
  refine hp_aload_n 0 dX9_begins_0 rfl rfl (?_ : hp_G _ _ _ _ _ _ _ _ _ 1 _ _ _)
  refine hp_bipush (v := 31) dX9_begins_1 bi_31 (?_ : hp_G _ _ _ _ _ _ _ _ _ 3 _ _ _)
  refine hp_aload_n 0 dX9_begins_3 rfl rfl (?_ : hp_G _ _ _ _ _ _ _ _ _ 4 _ _ _)
  replace hf := ob_ hf
  obtain ⟨x1, ex1, hf⟩ := hf
  refine fgX9_213 rfl dX9_begins_4 ex1 (?_ : hp_G _ _ _ _ _ _ _ _ _ 7 _ _ _)
  refine hp_imul dX9_begins_7 (?_ : hp_G _ _ _ _ _ _ _ _ _ 8 _ _ _)
  refine hp_iload_n 1 dX9_begins_8 rfl rfl (?_ : hp_G _ _ _ _ _ _ _ _ _ 9 _ _ _)
  refine hp_iadd dX9_begins_9 (?_ : hp_G _ _ _ _ _ _ _ _ _ 10 _ _ _)
  replace hf := ob_ hf
  obtain ⟨h2, eh2, hf⟩ := hf
  refine fpX9_213 rfl dX9_begins_10 eh2 (?_ : hp_G _ _ _ _ _ _ _ _ _ 13 _ _ _)
  obtain rfl := Option.some.inj hf
  exact hp_vret kr (fun z => z) rfl dX9_begins_13
theorem kX9_begins (l : Launch) {h : hp_H} {a0 : Nat} {p1 : Int32} {r : hp_H} (hf : fX9_begins h a0 p1 = some r) : hp_Cn l yX9_begins mX9_begins 0 false 0 0 [.ref a0, .int p1] h (fun v h2 => none = v ∧ r = h2) :=
  hp_of (by decide) rfl (fun z => by cases z) (Nat.le_of_ble_eq_true rfl) (tX9_begins l hf ⟨rfl, rfl⟩)
noncomputable def fX9_tell (h : hp_H) (a0 : Nat) (p1 : Int32) : Option (Int32 × hp_H) :=
(hg_o h a0 8).bind fun o1 =>
(fX9_isPerson h a0 p1).bind fun r2 =>
if r2 = 0 then
(some ((-1), h))
else
((gq_ h a0 8 9).bind fun x4 =>
(al_ h x4 p1).bind fun x5 =>
(gq_ h a0 8 8).bind fun x6 =>
(al_ h x6 p1).bind fun x7 =>
if x7 = 1 then
((hg_o h a0 8).bind fun o9 =>
(fX9_begins h a0 2).bind fun r10 =>
(hg_o r10 a0 8).bind fun o11 =>
(fX9_begins r10 a0 1).bind fun r12 =>
some (x5 + 100, r12))
else
(if x7 = 2 then
((hg_o h a0 8).bind fun o14 =>
(fX9_begins h a0 3).bind fun r15 =>
(hg_o r15 a0 8).bind fun o16 =>
(fX9_begins r15 a0 2).bind fun r17 =>
(hg_o r17 a0 8).bind fun o18 =>
(fX9_begins r17 a0 1).bind fun r19 =>
(hg_o r19 a0 8).bind fun o20 =>
(fX9_begins r19 a0 1).bind fun r21 =>
some ((2 * x5) + 100, r21))
else
((hg_o h a0 8).bind fun o22 =>
(fX9_begins h a0 1).bind fun r23 =>
some (x5, r23))))
set_option maxRecDepth 20000 in
set_option maxHeartbeats 4000000 in
theorem tX9_tell (l : Launch) {h : hp_H} {a0 : Nat} {p1 : Int32} {r : (Int32 × hp_H)} (hf : fX9_tell h a0 p1 = some r) {Q : Option Value → hp_H → Prop} (kr : Q (some (.int r.1)) r.2) : hp_G l mX9_tell none 1 false Q false 0 0 0 [(0, .ref a0), (1, .int p1)] [] h := by
  unfold fX9_tell at hf
  refine hp_aload_n 0 dX9_tell_0 rfl rfl (?_ : hp_G _ _ _ _ _ _ _ _ _ 1 _ _ _)
  refine hp_iload_n 1 dX9_tell_1 rfl rfl (?_ : hp_G _ _ _ _ _ _ _ _ _ 2 _ _ _)
  replace hf := ob_ hf
  obtain ⟨o1, eo1, hf⟩ := hf
  replace hf := ob_ hf
  obtain ⟨r2, er2, hf⟩ := hf
  refine clX9_74 (as := [.int p1]) (st := []) rfl (kX9_isPerson l er2) rfl (by decide) (Nat.le_of_ble_eq_true rfl) eo1 dX9_tell_2 rfl (?_ : hp_G _ _ _ _ _ _ _ _ _ 5 _ _ _)
  refine hp_if_ne (tgt := 10) dX9_tell_5 rfl (fun c3 => ?_) (fun c3 => (?_ : hp_G _ _ _ _ _ _ _ _ _ 8 _ _ _))
  · replace hf := of_ c3 hf
    refine hp_aload_n 0 dX9_tell_10 rfl rfl (?_ : hp_G _ _ _ _ _ _ _ _ _ 11 _ _ _)
    replace hf := ob_ hf
    obtain ⟨x4, ex4, hf⟩ := hf
    refine fgX9_22 rfl dX9_tell_11 ex4 (?_ : hp_G _ _ _ _ _ _ _ _ _ 14 _ _ _)
    refine hp_iload_n 1 dX9_tell_14 rfl rfl (?_ : hp_G _ _ _ _ _ _ _ _ _ 15 _ _ _)
    replace hf := ob_ hf
    obtain ⟨x5, ex5, hf⟩ := hf
    refine hp_iaload dX9_tell_15 ex5 (?_ : hp_G _ _ _ _ _ _ _ _ _ 16 _ _ _)
    refine hp_istore_n (lv' := [(2, .int x5), (0, .ref a0), (1, .int p1)]) dX9_tell_16 rfl (Nat.le_of_ble_eq_true rfl) rfl (?_ : hp_G _ _ _ _ _ _ _ _ _ 17 _ _ _)
    refine hp_aload_n 1 dX9_tell_17 rfl rfl (?_ : hp_G _ _ _ _ _ _ _ _ _ 18 _ _ _)
    replace hf := ob_ hf
    obtain ⟨x6, ex6, hf⟩ := hf
    refine fgX9_19 rfl dX9_tell_18 ex6 (?_ : hp_G _ _ _ _ _ _ _ _ _ 21 _ _ _)
    refine hp_iload_n 2 dX9_tell_21 rfl rfl (?_ : hp_G _ _ _ _ _ _ _ _ _ 22 _ _ _)
    replace hf := ob_ hf
    obtain ⟨x7, ex7, hf⟩ := hf
    refine hp_iaload dX9_tell_22 ex7 (?_ : hp_G _ _ _ _ _ _ _ _ _ 23 _ _ _)
    by_cases c8 : x7 = 1
    · replace hf := ot_ c8 hf
      refine hp_lookup (tgt := 48) dX9_tell_23 rfl (by rw [c8]; decide) ?_
      refine hp_aload_n 1 dX9_tell_48 rfl rfl (?_ : hp_G _ _ _ _ _ _ _ _ _ 49 _ _ _)
      refine hp_iconst (v := 2) dX9_tell_49 ic_2 (?_ : hp_G _ _ _ _ _ _ _ _ _ 50 _ _ _)
      replace hf := ob_ hf
      obtain ⟨o9, eo9, hf⟩ := hf
      replace hf := ob_ hf
      obtain ⟨r10, er10, hf⟩ := hf
      refine clX9_216 (as := [.int 2]) (st := []) rfl (kX9_begins l er10) rfl (by decide) (Nat.le_of_ble_eq_true rfl) eo9 dX9_tell_50 rfl (?_ : hp_G _ _ _ _ _ _ _ _ _ 53 _ _ _)
      refine hp_aload_n 1 dX9_tell_53 rfl rfl (?_ : hp_G _ _ _ _ _ _ _ _ _ 54 _ _ _)
      refine hp_iconst (v := 1) dX9_tell_54 ic_1 (?_ : hp_G _ _ _ _ _ _ _ _ _ 55 _ _ _)
      replace hf := ob_ hf
      obtain ⟨o11, eo11, hf⟩ := hf
      replace hf := ob_ hf
      obtain ⟨r12, er12, hf⟩ := hf
      refine clX9_216 (as := [.int 1]) (st := []) rfl (kX9_begins l er12) rfl (by decide) (Nat.le_of_ble_eq_true rfl) eo11 dX9_tell_55 rfl (?_ : hp_G _ _ _ _ _ _ _ _ _ 58 _ _ _)
      refine hp_iload_n 0 dX9_tell_58 rfl rfl (?_ : hp_G _ _ _ _ _ _ _ _ _ 59 _ _ _)
      refine hp_bipush (v := 100) dX9_tell_59 bi_100 (?_ : hp_G _ _ _ _ _ _ _ _ _ 61 _ _ _)
      refine hp_iadd dX9_tell_61 (?_ : hp_G _ _ _ _ _ _ _ _ _ 62 _ _ _)
      obtain rfl := Option.some.inj hf
      exact hp_iret kr (fun z => z) rfl dX9_tell_62
    · replace hf := of_ c8 hf
      by_cases c13 : x7 = 2
      · replace hf := ot_ c13 hf
        refine hp_lookup (tgt := 63) dX9_tell_23 rfl (by rw [c13]; decide) ?_
        refine hp_aload_n 1 dX9_tell_63 rfl rfl (?_ : hp_G _ _ _ _ _ _ _ _ _ 64 _ _ _)
        refine hp_iconst (v := 3) dX9_tell_64 ic_3 (?_ : hp_G _ _ _ _ _ _ _ _ _ 65 _ _ _)
        replace hf := ob_ hf
        obtain ⟨o14, eo14, hf⟩ := hf
        replace hf := ob_ hf
        obtain ⟨r15, er15, hf⟩ := hf
        refine clX9_216 (as := [.int 3]) (st := []) rfl (kX9_begins l er15) rfl (by decide) (Nat.le_of_ble_eq_true rfl) eo14 dX9_tell_65 rfl (?_ : hp_G _ _ _ _ _ _ _ _ _ 68 _ _ _)
        refine hp_aload_n 1 dX9_tell_68 rfl rfl (?_ : hp_G _ _ _ _ _ _ _ _ _ 69 _ _ _)
        refine hp_iconst (v := 2) dX9_tell_69 ic_2 (?_ : hp_G _ _ _ _ _ _ _ _ _ 70 _ _ _)
        replace hf := ob_ hf
        obtain ⟨o16, eo16, hf⟩ := hf
        replace hf := ob_ hf
        obtain ⟨r17, er17, hf⟩ := hf
        refine clX9_216 (as := [.int 2]) (st := []) rfl (kX9_begins l er17) rfl (by decide) (Nat.le_of_ble_eq_true rfl) eo16 dX9_tell_70 rfl (?_ : hp_G _ _ _ _ _ _ _ _ _ 73 _ _ _)
        refine hp_aload_n 1 dX9_tell_73 rfl rfl (?_ : hp_G _ _ _ _ _ _ _ _ _ 74 _ _ _)
        refine hp_iconst (v := 1) dX9_tell_74 ic_1 (?_ : hp_G _ _ _ _ _ _ _ _ _ 75 _ _ _)
        replace hf := ob_ hf
        obtain ⟨o18, eo18, hf⟩ := hf
        replace hf := ob_ hf
        obtain ⟨r19, er19, hf⟩ := hf
        refine clX9_216 (as := [.int 1]) (st := []) rfl (kX9_begins l er19) rfl (by decide) (Nat.le_of_ble_eq_true rfl) eo18 dX9_tell_75 rfl (?_ : hp_G _ _ _ _ _ _ _ _ _ 78 _ _ _)
        refine hp_aload_n 1 dX9_tell_78 rfl rfl (?_ : hp_G _ _ _ _ _ _ _ _ _ 79 _ _ _)
        refine hp_iconst (v := 1) dX9_tell_79 ic_1 (?_ : hp_G _ _ _ _ _ _ _ _ _ 80 _ _ _)
        replace hf := ob_ hf
        obtain ⟨o20, eo20, hf⟩ := hf
        replace hf := ob_ hf
        obtain ⟨r21, er21, hf⟩ := hf
        refine clX9_216 (as := [.int 1]) (st := []) rfl (kX9_begins l er21) rfl (by decide) (Nat.le_of_ble_eq_true rfl) eo20 dX9_tell_80 rfl (?_ : hp_G _ _ _ _ _ _ _ _ _ 83 _ _ _)
        refine hp_iconst (v := 2) dX9_tell_83 ic_2 (?_ : hp_G _ _ _ _ _ _ _ _ _ 84 _ _ _)
        refine hp_iload_n 0 dX9_tell_84 rfl rfl (?_ : hp_G _ _ _ _ _ _ _ _ _ 85 _ _ _)
        refine hp_imul dX9_tell_85 (?_ : hp_G _ _ _ _ _ _ _ _ _ 86 _ _ _)
        refine hp_bipush (v := 100) dX9_tell_86 bi_100 (?_ : hp_G _ _ _ _ _ _ _ _ _ 88 _ _ _)
        refine hp_iadd dX9_tell_88 (?_ : hp_G _ _ _ _ _ _ _ _ _ 89 _ _ _)
        obtain rfl := Option.some.inj hf
        exact hp_iret kr (fun z => z) rfl dX9_tell_89
      · replace hf := of_ c13 hf
        refine hp_lookup (tgt := 90) dX9_tell_23 (by decide) (by show (23 : Int) + Op.lookupswitch.offset [(1, 25), (2, 40)] 67 (Int32.toInt x7) = _; rw [Op.lookupswitch.offset_cons, if_neg (hp_nei (by decide) c8), Op.lookupswitch.offset_cons, if_neg (hp_nei (by decide) c13), Op.lookupswitch.offset_nil]; decide) ?_
        refine hp_aload_n 1 dX9_tell_90 rfl rfl (?_ : hp_G _ _ _ _ _ _ _ _ _ 91 _ _ _)
        refine hp_iconst (v := 1) dX9_tell_91 ic_1 (?_ : hp_G _ _ _ _ _ _ _ _ _ 92 _ _ _)
        replace hf := ob_ hf
        obtain ⟨o22, eo22, hf⟩ := hf
        replace hf := ob_ hf
        obtain ⟨r23, er23, hf⟩ := hf
        refine clX9_216 (as := [.int 1]) (st := []) rfl (kX9_begins l er23) rfl (by decide) (Nat.le_of_ble_eq_true rfl) eo22 dX9_tell_92 rfl (?_ : hp_G _ _ _ _ _ _ _ _ _ 95 _ _ _)
        refine hp_iload_n 0 dX9_tell_95 rfl rfl (?_ : hp_G _ _ _ _ _ _ _ _ _ 96 _ _ _)
        obtain rfl := Option.some.inj hf
        exact hp_iret kr (fun z => z) rfl dX9_tell_96
  · replace hf := ot_ c3 hf
    refine hp_iconst (v := (-1)) dX9_tell_8 ic_m1 (?_ : hp_G _ _ _ _ _ _ _ _ _ 9 _ _ _)
    obtain rfl := Option.some.inj hf
    exact hp_iret kr (fun z => z) rfl dX9_tell_9
theorem kX9_tell (l : Launch) {h : hp_H} {a0 : Nat} {p1 : Int32} {r : (Int32 × hp_H)} (hf : fX9_tell h a0 p1 = some r) : hp_Cn l yX9_tell mX9_tell 1 false 0 0 [.ref a0, .int p1] h (fun v h2 => some (.int r.1) = v ∧ r.2 = h2) :=
  hp_of (by decide) rfl (fun z => by cases z) (Nat.le_of_ble_eq_true rfl) (tX9_tell l hf ⟨rfl, rfl⟩)
noncomputable def fX8_wave (h : hp_H) (a0 : Nat) (p1 : Int32) : Option (Int32 × hp_H) :=
(gq_ h a0 7 0).bind fun x1 =>
(hg_o h x1 6).bind fun o2 =>
(fX7_has h x1 p1).bind fun r3 =>
if r3 = 0 then
(some ((-1), h))
else
((gq_ h a0 7 0).bind fun x5 =>
(gq_ h x5 6 0).bind fun x6 =>
(ql_ h x6 p1).bind fun x7 =>
(gi_ h x7 2 0).bind fun x8 =>
if x8 = 2 then
((hg_o h a0 7).bind fun o16 =>
(fX8_mark h a0 5).bind fun r17 =>
some (30, r17))
else
((hg_o h a0 7).bind fun o10 =>
(fX8_mark h a0 4).bind fun r11 =>
(gq_ r11 a0 7 0).bind fun x12 =>
(gq_ r11 x12 6 0).bind fun x13 =>
(ql_ r11 x13 p1).bind fun x14 =>
(gi_ r11 x14 2 2).bind fun x15 =>
some (x15, r11)))
set_option maxRecDepth 20000 in
set_option maxHeartbeats 4000000 in
theorem tX8_wave (l : Launch) {h : hp_H} {a0 : Nat} {p1 : Int32} {r : (Int32 × hp_H)} (hf : fX8_wave h a0 p1 = some r) {Q : Option Value → hp_H → Prop} (kr : Q (some (.int r.1)) r.2) : hp_G l mX8_wave none 1 false Q false 0 0 0 [(0, .ref a0), (1, .int p1)] [] h := by
  unfold fX8_wave at hf
  refine hp_aload_n 0 dX8_wave_0 rfl rfl (?_ : hp_G _ _ _ _ _ _ _ _ _ 1 _ _ _)
  replace hf := ob_ hf
  obtain ⟨x1, ex1, hf⟩ := hf
  refine fgX8_12 rfl dX8_wave_1 ex1 (?_ : hp_G _ _ _ _ _ _ _ _ _ 4 _ _ _)
  refine hp_iload_n 1 dX8_wave_4 rfl rfl (?_ : hp_G _ _ _ _ _ _ _ _ _ 5 _ _ _)
  replace hf := ob_ hf
  obtain ⟨o2, eo2, hf⟩ := hf
  replace hf := ob_ hf
  obtain ⟨r3, er3, hf⟩ := hf
  refine clX8_93 (as := [.int p1]) (st := []) rfl (kX7_has l er3) rfl (by decide) (Nat.le_of_ble_eq_true rfl) eo2 dX8_wave_5 rfl (?_ : hp_G _ _ _ _ _ _ _ _ _ 8 _ _ _)
  refine hp_if_ne (tgt := 13) dX8_wave_8 rfl (fun c4 => ?_) (fun c4 => (?_ : hp_G _ _ _ _ _ _ _ _ _ 11 _ _ _))
  · replace hf := of_ c4 hf
    refine hp_aload_n 0 dX8_wave_13 rfl rfl (?_ : hp_G _ _ _ _ _ _ _ _ _ 14 _ _ _)
    replace hf := ob_ hf
    obtain ⟨x5, ex5, hf⟩ := hf
    refine fgX8_12 rfl dX8_wave_14 ex5 (?_ : hp_G _ _ _ _ _ _ _ _ _ 17 _ _ _)
    replace hf := ob_ hf
    obtain ⟨x6, ex6, hf⟩ := hf
    refine fgX8_96 rfl dX8_wave_17 ex6 (?_ : hp_G _ _ _ _ _ _ _ _ _ 20 _ _ _)
    refine hp_iload_n 1 dX8_wave_20 rfl rfl (?_ : hp_G _ _ _ _ _ _ _ _ _ 21 _ _ _)
    replace hf := ob_ hf
    obtain ⟨x7, ex7, hf⟩ := hf
    refine hp_aaload dX8_wave_21 ex7 (?_ : hp_G _ _ _ _ _ _ _ _ _ 22 _ _ _)
    replace hf := ob_ hf
    obtain ⟨x8, ex8, hf⟩ := hf
    refine fgX8_235 rfl dX8_wave_22 ex8 (?_ : hp_G _ _ _ _ _ _ _ _ _ 25 _ _ _)
    refine hp_iconst (v := 2) dX8_wave_25 ic_2 (?_ : hp_G _ _ _ _ _ _ _ _ _ 26 _ _ _)
    refine hp_icmp_ne (tgt := 37) dX8_wave_26 rfl (fun c9 => ?_) (fun c9 => (?_ : hp_G _ _ _ _ _ _ _ _ _ 29 _ _ _))
    · replace hf := of_ c9 hf
      refine hp_aload_n 0 dX8_wave_37 rfl rfl (?_ : hp_G _ _ _ _ _ _ _ _ _ 38 _ _ _)
      refine hp_iconst (v := 4) dX8_wave_38 ic_4 (?_ : hp_G _ _ _ _ _ _ _ _ _ 39 _ _ _)
      replace hf := ob_ hf
      obtain ⟨o10, eo10, hf⟩ := hf
      replace hf := ob_ hf
      obtain ⟨r11, er11, hf⟩ := hf
      refine clX8_248 (as := [.int 4]) (st := []) rfl (kX8_mark l er11) rfl (by decide) (Nat.le_of_ble_eq_true rfl) eo10 dX8_wave_39 rfl (?_ : hp_G _ _ _ _ _ _ _ _ _ 42 _ _ _)
      refine hp_aload_n 0 dX8_wave_42 rfl rfl (?_ : hp_G _ _ _ _ _ _ _ _ _ 43 _ _ _)
      replace hf := ob_ hf
      obtain ⟨x12, ex12, hf⟩ := hf
      refine fgX8_12 rfl dX8_wave_43 ex12 (?_ : hp_G _ _ _ _ _ _ _ _ _ 46 _ _ _)
      replace hf := ob_ hf
      obtain ⟨x13, ex13, hf⟩ := hf
      refine fgX8_96 rfl dX8_wave_46 ex13 (?_ : hp_G _ _ _ _ _ _ _ _ _ 49 _ _ _)
      refine hp_iload_n 1 dX8_wave_49 rfl rfl (?_ : hp_G _ _ _ _ _ _ _ _ _ 50 _ _ _)
      replace hf := ob_ hf
      obtain ⟨x14, ex14, hf⟩ := hf
      refine hp_aaload dX8_wave_50 ex14 (?_ : hp_G _ _ _ _ _ _ _ _ _ 51 _ _ _)
      replace hf := ob_ hf
      obtain ⟨x15, ex15, hf⟩ := hf
      refine fgX8_251 rfl dX8_wave_51 ex15 (?_ : hp_G _ _ _ _ _ _ _ _ _ 54 _ _ _)
      obtain rfl := Option.some.inj hf
      exact hp_iret kr (fun z => z) rfl dX8_wave_54
    · replace hf := ot_ c9 hf
      refine hp_aload_n 0 dX8_wave_29 rfl rfl (?_ : hp_G _ _ _ _ _ _ _ _ _ 30 _ _ _)
      refine hp_iconst (v := 5) dX8_wave_30 ic_5 (?_ : hp_G _ _ _ _ _ _ _ _ _ 31 _ _ _)
      replace hf := ob_ hf
      obtain ⟨o16, eo16, hf⟩ := hf
      replace hf := ob_ hf
      obtain ⟨r17, er17, hf⟩ := hf
      refine clX8_248 (as := [.int 5]) (st := []) rfl (kX8_mark l er17) rfl (by decide) (Nat.le_of_ble_eq_true rfl) eo16 dX8_wave_31 rfl (?_ : hp_G _ _ _ _ _ _ _ _ _ 34 _ _ _)
      refine hp_bipush (v := 30) dX8_wave_34 bi_30 (?_ : hp_G _ _ _ _ _ _ _ _ _ 36 _ _ _)
      obtain rfl := Option.some.inj hf
      exact hp_iret kr (fun z => z) rfl dX8_wave_36
  · replace hf := ot_ c4 hf
    refine hp_iconst (v := (-1)) dX8_wave_11 ic_m1 (?_ : hp_G _ _ _ _ _ _ _ _ _ 12 _ _ _)
    obtain rfl := Option.some.inj hf
    exact hp_iret kr (fun z => z) rfl dX8_wave_12
theorem kX8_wave (l : Launch) {h : hp_H} {a0 : Nat} {p1 : Int32} {r : (Int32 × hp_H)} (hf : fX8_wave h a0 p1 = some r) : hp_Cn l yX8_wave mX8_wave 1 false 0 0 [.ref a0, .int p1] h (fun v h2 => some (.int r.1) = v ∧ r.2 = h2) :=
  hp_of (by decide) rfl (fun z => by cases z) (Nat.le_of_ble_eq_true rfl) (tX8_wave l hf ⟨rfl, rfl⟩)
noncomputable def jX9_wave_26 (g : hp_H)  (u0 : Nat) (u1 : Int32) (k0 : Int32) (k1 : Nat) : Option (Int32 × hp_H) :=
(hg_o g k1 8).bind fun o7 =>
(fX9_begins g k1 k0).bind fun r8 =>
(gq_ r8 u0 8 8).bind fun x9 =>
(al_ r8 x9 u1).bind fun x10 =>
if x10 = 2 then
(some (30, r8))
else
((gq_ r8 u0 8 10).bind fun x12 =>
(al_ r8 x12 u1).bind fun x13 =>
some (x13, r8))
set_option maxRecDepth 20000 in
set_option maxHeartbeats 4000000 in
theorem tjX9_wave_26 (l : Launch) {g : hp_H}  {u0 : Nat} {u1 : Int32} {k0 : Int32} {k1 : Nat} {r : (Int32 × hp_H)} (hf : jX9_wave_26 g u0 u1 k0 k1 = some r) {Q : Option Value → hp_H → Prop} (kr : Q (some (.int r.1)) r.2) : hp_G l mX9_wave none 1 false Q false 0 0 26 [(0, .ref u0), (1, .int u1)] [.int k0, .ref k1] g := by
  unfold jX9_wave_26 at hf
  replace hf := ob_ hf
  obtain ⟨o7, eo7, hf⟩ := hf
  replace hf := ob_ hf
  obtain ⟨r8, er8, hf⟩ := hf
  refine clX9_216 (as := [.int k0]) (st := []) rfl (kX9_begins l er8) rfl (by decide) (Nat.le_of_ble_eq_true rfl) eo7 dX9_wave_26 rfl (?_ : hp_G _ _ _ _ _ _ _ _ _ 29 _ _ _)
  refine hp_aload_n 0 dX9_wave_29 rfl rfl (?_ : hp_G _ _ _ _ _ _ _ _ _ 30 _ _ _)
  replace hf := ob_ hf
  obtain ⟨x9, ex9, hf⟩ := hf
  refine fgX9_19 rfl dX9_wave_30 ex9 (?_ : hp_G _ _ _ _ _ _ _ _ _ 33 _ _ _)
  refine hp_iload_n 1 dX9_wave_33 rfl rfl (?_ : hp_G _ _ _ _ _ _ _ _ _ 34 _ _ _)
  replace hf := ob_ hf
  obtain ⟨x10, ex10, hf⟩ := hf
  refine hp_iaload dX9_wave_34 ex10 (?_ : hp_G _ _ _ _ _ _ _ _ _ 35 _ _ _)
  refine hp_iconst (v := 2) dX9_wave_35 ic_2 (?_ : hp_G _ _ _ _ _ _ _ _ _ 36 _ _ _)
  refine hp_icmp_ne (tgt := 44) dX9_wave_36 rfl (fun c11 => ?_) (fun c11 => (?_ : hp_G _ _ _ _ _ _ _ _ _ 39 _ _ _))
  · replace hf := of_ c11 hf
    refine hp_aload_n 0 dX9_wave_44 rfl rfl (?_ : hp_G _ _ _ _ _ _ _ _ _ 45 _ _ _)
    replace hf := ob_ hf
    obtain ⟨x12, ex12, hf⟩ := hf
    refine fgX9_25 rfl dX9_wave_45 ex12 (?_ : hp_G _ _ _ _ _ _ _ _ _ 48 _ _ _)
    refine hp_iload_n 1 dX9_wave_48 rfl rfl (?_ : hp_G _ _ _ _ _ _ _ _ _ 49 _ _ _)
    replace hf := ob_ hf
    obtain ⟨x13, ex13, hf⟩ := hf
    refine hp_iaload dX9_wave_49 ex13 (?_ : hp_G _ _ _ _ _ _ _ _ _ 50 _ _ _)
    obtain rfl := Option.some.inj hf
    exact hp_iret kr (fun z => z) rfl dX9_wave_50
  · replace hf := ot_ c11 hf
    refine hp_bipush (v := 30) dX9_wave_39 bi_30 (?_ : hp_G _ _ _ _ _ _ _ _ _ 41 _ _ _)
    refine hp_goto (tgt := 50) dX9_wave_41 rfl (?_ : hp_G _ _ _ _ _ _ _ _ _ 50 _ _ _)
    obtain rfl := Option.some.inj hf
    exact hp_iret kr (fun z => z) rfl dX9_wave_50
noncomputable def fX9_wave (h : hp_H) (a0 : Nat) (p1 : Int32) : Option (Int32 × hp_H) :=
(hg_o h a0 8).bind fun o1 =>
(fX9_isPerson h a0 p1).bind fun r2 =>
if r2 = 0 then
(some ((-1), h))
else
((gq_ h a0 8 8).bind fun x4 =>
(al_ h x4 p1).bind fun x5 =>
if x5 = 2 then
(jX9_wave_26 h a0 p1 5 a0)
else
(jX9_wave_26 h a0 p1 4 a0))
set_option maxRecDepth 20000 in
set_option maxHeartbeats 4000000 in
theorem tX9_wave (l : Launch) {h : hp_H} {a0 : Nat} {p1 : Int32} {r : (Int32 × hp_H)} (hf : fX9_wave h a0 p1 = some r) {Q : Option Value → hp_H → Prop} (kr : Q (some (.int r.1)) r.2) : hp_G l mX9_wave none 1 false Q false 0 0 0 [(0, .ref a0), (1, .int p1)] [] h := by
  unfold fX9_wave at hf
  refine hp_aload_n 0 dX9_wave_0 rfl rfl (?_ : hp_G _ _ _ _ _ _ _ _ _ 1 _ _ _)
  refine hp_iload_n 1 dX9_wave_1 rfl rfl (?_ : hp_G _ _ _ _ _ _ _ _ _ 2 _ _ _)
  replace hf := ob_ hf
  obtain ⟨o1, eo1, hf⟩ := hf
  replace hf := ob_ hf
  obtain ⟨r2, er2, hf⟩ := hf
  refine clX9_74 (as := [.int p1]) (st := []) rfl (kX9_isPerson l er2) rfl (by decide) (Nat.le_of_ble_eq_true rfl) eo1 dX9_wave_2 rfl (?_ : hp_G _ _ _ _ _ _ _ _ _ 5 _ _ _)
  refine hp_if_ne (tgt := 10) dX9_wave_5 rfl (fun c3 => ?_) (fun c3 => (?_ : hp_G _ _ _ _ _ _ _ _ _ 8 _ _ _))
  · replace hf := of_ c3 hf
    refine hp_aload_n 0 dX9_wave_10 rfl rfl (?_ : hp_G _ _ _ _ _ _ _ _ _ 11 _ _ _)
    refine hp_aload_n 0 dX9_wave_11 rfl rfl (?_ : hp_G _ _ _ _ _ _ _ _ _ 12 _ _ _)
    replace hf := ob_ hf
    obtain ⟨x4, ex4, hf⟩ := hf
    refine fgX9_19 rfl dX9_wave_12 ex4 (?_ : hp_G _ _ _ _ _ _ _ _ _ 15 _ _ _)
    refine hp_iload_n 1 dX9_wave_15 rfl rfl (?_ : hp_G _ _ _ _ _ _ _ _ _ 16 _ _ _)
    replace hf := ob_ hf
    obtain ⟨x5, ex5, hf⟩ := hf
    refine hp_iaload dX9_wave_16 ex5 (?_ : hp_G _ _ _ _ _ _ _ _ _ 17 _ _ _)
    refine hp_iconst (v := 2) dX9_wave_17 ic_2 (?_ : hp_G _ _ _ _ _ _ _ _ _ 18 _ _ _)
    refine hp_icmp_ne (tgt := 25) dX9_wave_18 rfl (fun c6 => ?_) (fun c6 => (?_ : hp_G _ _ _ _ _ _ _ _ _ 21 _ _ _))
    · replace hf := of_ c6 hf
      refine hp_iconst (v := 4) dX9_wave_25 ic_4 (?_ : hp_G _ _ _ _ _ _ _ _ _ 26 _ _ _)
      exact hp_sub [0, 1] rfl (tjX9_wave_26 l hf kr)
    · replace hf := ot_ c6 hf
      refine hp_iconst (v := 5) dX9_wave_21 ic_5 (?_ : hp_G _ _ _ _ _ _ _ _ _ 22 _ _ _)
      refine hp_goto (tgt := 26) dX9_wave_22 rfl (?_ : hp_G _ _ _ _ _ _ _ _ _ 26 _ _ _)
      exact hp_sub [0, 1] rfl (tjX9_wave_26 l hf kr)
  · replace hf := ot_ c3 hf
    refine hp_iconst (v := (-1)) dX9_wave_8 ic_m1 (?_ : hp_G _ _ _ _ _ _ _ _ _ 9 _ _ _)
    obtain rfl := Option.some.inj hf
    exact hp_iret kr (fun z => z) rfl dX9_wave_9
theorem kX9_wave (l : Launch) {h : hp_H} {a0 : Nat} {p1 : Int32} {r : (Int32 × hp_H)} (hf : fX9_wave h a0 p1 = some r) : hp_Cn l yX9_wave mX9_wave 1 false 0 0 [.ref a0, .int p1] h (fun v h2 => some (.int r.1) = v ∧ r.2 = h2) :=
  hp_of (by decide) rfl (fun z => by cases z) (Nat.le_of_ble_eq_true rfl) (tX9_wave l hf ⟨rfl, rfl⟩)
noncomputable def fX8_as (h : hp_H) (a0 : Nat) (p1 : Int32) (p2 : Int32) : Option (Int32 × hp_H) :=
(pi_ h a0 7 8 0).bind fun h1 =>
(gq_ h1 a0 7 0).bind fun x2 =>
(hg_o h1 x2 6).bind fun o3 =>
(fX7_has h1 x2 p1).bind fun r4 =>
if r4 = 0 then
(some ((-1), h1))
else
(if p2 < 0 then
(some ((-2), h1))
else
(if p2 < 3 then
((gq_ h1 a0 7 0).bind fun x8 =>
(gq_ h1 x8 6 0).bind fun x9 =>
(ql_ h1 x9 p1).bind fun x10 =>
(gi_ h1 x10 2 0).bind fun x11 =>
if p2 ≤ x11 then
(some (1, h1))
else
((hg_o h1 a0 7).bind fun o13 =>
(fX8_faulted h1 a0 2).bind fun r14 =>
some (r14.1, r14.2)))
else
(some ((-2), h1))))
set_option maxRecDepth 20000 in
set_option maxHeartbeats 4000000 in
theorem tX8_as (l : Launch) {h : hp_H} {a0 : Nat} {p1 : Int32} {p2 : Int32} {r : (Int32 × hp_H)} (hf : fX8_as h a0 p1 p2 = some r) {Q : Option Value → hp_H → Prop} (kr : Q (some (.int r.1)) r.2) : hp_G l mX8_as none 1 false Q false 0 0 0 [(0, .ref a0), (1, .int p1), (2, .int p2)] [] h := by
  unfold fX8_as at hf
  refine hp_aload_n 0 dX8_as_0 rfl rfl (?_ : hp_G _ _ _ _ _ _ _ _ _ 1 _ _ _)
  refine hp_iconst (v := 0) dX8_as_1 ic_0 (?_ : hp_G _ _ _ _ _ _ _ _ _ 2 _ _ _)
  replace hf := ob_ hf
  obtain ⟨h1, eh1, hf⟩ := hf
  refine fpX8_53 rfl dX8_as_2 eh1 (?_ : hp_G _ _ _ _ _ _ _ _ _ 5 _ _ _)
  refine hp_aload_n 0 dX8_as_5 rfl rfl (?_ : hp_G _ _ _ _ _ _ _ _ _ 6 _ _ _)
  replace hf := ob_ hf
  obtain ⟨x2, ex2, hf⟩ := hf
  refine fgX8_12 rfl dX8_as_6 ex2 (?_ : hp_G _ _ _ _ _ _ _ _ _ 9 _ _ _)
  refine hp_iload_n 1 dX8_as_9 rfl rfl (?_ : hp_G _ _ _ _ _ _ _ _ _ 10 _ _ _)
  replace hf := ob_ hf
  obtain ⟨o3, eo3, hf⟩ := hf
  replace hf := ob_ hf
  obtain ⟨r4, er4, hf⟩ := hf
  refine clX8_93 (as := [.int p1]) (st := []) rfl (kX7_has l er4) rfl (by decide) (Nat.le_of_ble_eq_true rfl) eo3 dX8_as_10 rfl (?_ : hp_G _ _ _ _ _ _ _ _ _ 13 _ _ _)
  refine hp_if_ne (tgt := 18) dX8_as_13 rfl (fun c5 => ?_) (fun c5 => (?_ : hp_G _ _ _ _ _ _ _ _ _ 16 _ _ _))
  · replace hf := of_ c5 hf
    refine hp_iload_n 2 dX8_as_18 rfl rfl (?_ : hp_G _ _ _ _ _ _ _ _ _ 19 _ _ _)
    refine hp_if_lt (tgt := 27) dX8_as_19 rfl (fun c6 => ?_) (fun c6 => (?_ : hp_G _ _ _ _ _ _ _ _ _ 22 _ _ _))
    · replace hf := ot_ c6 hf
      refine hp_bipush (v := (-2)) dX8_as_27 bi_m2 (?_ : hp_G _ _ _ _ _ _ _ _ _ 29 _ _ _)
      obtain rfl := Option.some.inj hf
      exact hp_iret kr (fun z => z) rfl dX8_as_29
    · replace hf := of_ c6 hf
      refine hp_iload_n 2 dX8_as_22 rfl rfl (?_ : hp_G _ _ _ _ _ _ _ _ _ 23 _ _ _)
      refine hp_iconst (v := 3) dX8_as_23 ic_3 (?_ : hp_G _ _ _ _ _ _ _ _ _ 24 _ _ _)
      refine hp_icmp_lt (tgt := 30) dX8_as_24 rfl (fun c7 => ?_) (fun c7 => (?_ : hp_G _ _ _ _ _ _ _ _ _ 27 _ _ _))
      · replace hf := ot_ c7 hf
        refine hp_aload_n 0 dX8_as_30 rfl rfl (?_ : hp_G _ _ _ _ _ _ _ _ _ 31 _ _ _)
        replace hf := ob_ hf
        obtain ⟨x8, ex8, hf⟩ := hf
        refine fgX8_12 rfl dX8_as_31 ex8 (?_ : hp_G _ _ _ _ _ _ _ _ _ 34 _ _ _)
        replace hf := ob_ hf
        obtain ⟨x9, ex9, hf⟩ := hf
        refine fgX8_96 rfl dX8_as_34 ex9 (?_ : hp_G _ _ _ _ _ _ _ _ _ 37 _ _ _)
        refine hp_iload_n 1 dX8_as_37 rfl rfl (?_ : hp_G _ _ _ _ _ _ _ _ _ 38 _ _ _)
        replace hf := ob_ hf
        obtain ⟨x10, ex10, hf⟩ := hf
        refine hp_aaload dX8_as_38 ex10 (?_ : hp_G _ _ _ _ _ _ _ _ _ 39 _ _ _)
        replace hf := ob_ hf
        obtain ⟨x11, ex11, hf⟩ := hf
        refine fgX8_235 rfl dX8_as_39 ex11 (?_ : hp_G _ _ _ _ _ _ _ _ _ 42 _ _ _)
        refine hp_iload_n 2 dX8_as_42 rfl rfl (?_ : hp_G _ _ _ _ _ _ _ _ _ 43 _ _ _)
        refine hp_icmp_ge (tgt := 54) dX8_as_43 rfl (fun c12 => ?_) (fun c12 => (?_ : hp_G _ _ _ _ _ _ _ _ _ 46 _ _ _))
        · replace hf := ot_ c12 hf
          refine hp_iconst (v := 1) dX8_as_54 ic_1 (?_ : hp_G _ _ _ _ _ _ _ _ _ 55 _ _ _)
          obtain rfl := Option.some.inj hf
          exact hp_iret kr (fun z => z) rfl dX8_as_55
        · replace hf := of_ c12 hf
          refine hp_aload_n 0 dX8_as_46 rfl rfl (?_ : hp_G _ _ _ _ _ _ _ _ _ 47 _ _ _)
          refine hp_iconst (v := 2) dX8_as_47 ic_2 (?_ : hp_G _ _ _ _ _ _ _ _ _ 48 _ _ _)
          replace hf := ob_ hf
          obtain ⟨o13, eo13, hf⟩ := hf
          replace hf := ob_ hf
          obtain ⟨r14, er14, hf⟩ := hf
          refine clX8_68 (as := [.int 2]) (st := []) rfl (kX8_faulted l er14) rfl (by decide) (Nat.le_of_ble_eq_true rfl) eo13 dX8_as_48 rfl (?_ : hp_G _ _ _ _ _ _ _ _ _ 51 _ _ _)
          refine hp_goto (tgt := 55) dX8_as_51 rfl (?_ : hp_G _ _ _ _ _ _ _ _ _ 55 _ _ _)
          obtain rfl := Option.some.inj hf
          exact hp_iret kr (fun z => z) rfl dX8_as_55
      · replace hf := of_ c7 hf
        refine hp_bipush (v := (-2)) dX8_as_27 bi_m2 (?_ : hp_G _ _ _ _ _ _ _ _ _ 29 _ _ _)
        obtain rfl := Option.some.inj hf
        exact hp_iret kr (fun z => z) rfl dX8_as_29
  · replace hf := ot_ c5 hf
    refine hp_iconst (v := (-1)) dX8_as_16 ic_m1 (?_ : hp_G _ _ _ _ _ _ _ _ _ 17 _ _ _)
    obtain rfl := Option.some.inj hf
    exact hp_iret kr (fun z => z) rfl dX8_as_17
theorem kX8_as (l : Launch) {h : hp_H} {a0 : Nat} {p1 : Int32} {p2 : Int32} {r : (Int32 × hp_H)} (hf : fX8_as h a0 p1 p2 = some r) : hp_Cn l yX8_as mX8_as 1 false 0 0 [.ref a0, .int p1, .int p2] h (fun v h2 => some (.int r.1) = v ∧ r.2 = h2) :=
  hp_of (by decide) rfl (fun z => by cases z) (Nat.le_of_ble_eq_true rfl) (tX8_as l hf ⟨rfl, rfl⟩)
noncomputable def fX9_as (h : hp_H) (a0 : Nat) (p1 : Int32) (p2 : Int32) : Option (Int32 × hp_H) :=
(pi_ h a0 8 0 0).bind fun h1 =>
(hg_o h1 a0 8).bind fun o2 =>
(fX9_isPerson h1 a0 p1).bind fun r3 =>
if r3 = 0 then
(some ((-1), h1))
else
((fX9_within h1 p2 0 2).bind fun r5 =>
if r5 = 0 then
(some ((-2), h1))
else
((gq_ h1 a0 8 8).bind fun x7 =>
(al_ h1 x7 p1).bind fun x8 =>
if x8 < p2 then
((hg_o h1 a0 8).bind fun o10 =>
(fX9_fails h1 a0 2).bind fun r11 =>
some (r11.1, r11.2))
else
(some (1, h1))))
set_option maxRecDepth 20000 in
set_option maxHeartbeats 4000000 in
theorem tX9_as (l : Launch) {h : hp_H} {a0 : Nat} {p1 : Int32} {p2 : Int32} {r : (Int32 × hp_H)} (hf : fX9_as h a0 p1 p2 = some r) {Q : Option Value → hp_H → Prop} (kr : Q (some (.int r.1)) r.2) : hp_G l mX9_as none 1 false Q false 0 0 0 [(0, .ref a0), (1, .int p1), (2, .int p2)] [] h := by
  unfold fX9_as at hf
  refine hp_aload_n 0 dX9_as_0 rfl rfl (?_ : hp_G _ _ _ _ _ _ _ _ _ 1 _ _ _)
  refine hp_iconst (v := 0) dX9_as_1 ic_0 (?_ : hp_G _ _ _ _ _ _ _ _ _ 2 _ _ _)
  replace hf := ob_ hf
  obtain ⟨h1, eh1, hf⟩ := hf
  refine fpX9_61 rfl dX9_as_2 eh1 (?_ : hp_G _ _ _ _ _ _ _ _ _ 5 _ _ _)
  refine hp_aload_n 0 dX9_as_5 rfl rfl (?_ : hp_G _ _ _ _ _ _ _ _ _ 6 _ _ _)
  refine hp_iload_n 1 dX9_as_6 rfl rfl (?_ : hp_G _ _ _ _ _ _ _ _ _ 7 _ _ _)
  replace hf := ob_ hf
  obtain ⟨o2, eo2, hf⟩ := hf
  replace hf := ob_ hf
  obtain ⟨r3, er3, hf⟩ := hf
  refine clX9_74 (as := [.int p1]) (st := []) rfl (kX9_isPerson l er3) rfl (by decide) (Nat.le_of_ble_eq_true rfl) eo2 dX9_as_7 rfl (?_ : hp_G _ _ _ _ _ _ _ _ _ 10 _ _ _)
  refine hp_if_ne (tgt := 15) dX9_as_10 rfl (fun c4 => ?_) (fun c4 => (?_ : hp_G _ _ _ _ _ _ _ _ _ 13 _ _ _))
  · replace hf := of_ c4 hf
    refine hp_iload_n 2 dX9_as_15 rfl rfl (?_ : hp_G _ _ _ _ _ _ _ _ _ 16 _ _ _)
    refine hp_iconst (v := 0) dX9_as_16 ic_0 (?_ : hp_G _ _ _ _ _ _ _ _ _ 17 _ _ _)
    refine hp_iconst (v := 2) dX9_as_17 ic_2 (?_ : hp_G _ _ _ _ _ _ _ _ _ 18 _ _ _)
    replace hf := ob_ hf
    obtain ⟨r5, er5, hf⟩ := hf
    refine clX9_67 (as := [.int p2, .int 0, .int 2]) (st := []) rfl (kX9_within l er5) rfl (by decide) (Nat.le_of_ble_eq_true rfl) dX9_as_18 rfl (?_ : hp_G _ _ _ _ _ _ _ _ _ 21 _ _ _)
    refine hp_if_ne (tgt := 27) dX9_as_21 rfl (fun c6 => ?_) (fun c6 => (?_ : hp_G _ _ _ _ _ _ _ _ _ 24 _ _ _))
    · replace hf := of_ c6 hf
      refine hp_aload_n 0 dX9_as_27 rfl rfl (?_ : hp_G _ _ _ _ _ _ _ _ _ 28 _ _ _)
      replace hf := ob_ hf
      obtain ⟨x7, ex7, hf⟩ := hf
      refine fgX9_19 rfl dX9_as_28 ex7 (?_ : hp_G _ _ _ _ _ _ _ _ _ 31 _ _ _)
      refine hp_iload_n 1 dX9_as_31 rfl rfl (?_ : hp_G _ _ _ _ _ _ _ _ _ 32 _ _ _)
      replace hf := ob_ hf
      obtain ⟨x8, ex8, hf⟩ := hf
      refine hp_iaload dX9_as_32 ex8 (?_ : hp_G _ _ _ _ _ _ _ _ _ 33 _ _ _)
      refine hp_iload_n 2 dX9_as_33 rfl rfl (?_ : hp_G _ _ _ _ _ _ _ _ _ 34 _ _ _)
      refine hp_icmp_lt (tgt := 41) dX9_as_34 rfl (fun c9 => ?_) (fun c9 => (?_ : hp_G _ _ _ _ _ _ _ _ _ 37 _ _ _))
      · replace hf := ot_ c9 hf
        refine hp_aload_n 0 dX9_as_41 rfl rfl (?_ : hp_G _ _ _ _ _ _ _ _ _ 42 _ _ _)
        refine hp_iconst (v := 2) dX9_as_42 ic_2 (?_ : hp_G _ _ _ _ _ _ _ _ _ 43 _ _ _)
        replace hf := ob_ hf
        obtain ⟨o10, eo10, hf⟩ := hf
        replace hf := ob_ hf
        obtain ⟨r11, er11, hf⟩ := hf
        refine clX9_91 (as := [.int 2]) (st := []) rfl (kX9_fails l er11) rfl (by decide) (Nat.le_of_ble_eq_true rfl) eo10 dX9_as_43 rfl (?_ : hp_G _ _ _ _ _ _ _ _ _ 46 _ _ _)
        obtain rfl := Option.some.inj hf
        exact hp_iret kr (fun z => z) rfl dX9_as_46
      · replace hf := of_ c9 hf
        refine hp_iconst (v := 1) dX9_as_37 ic_1 (?_ : hp_G _ _ _ _ _ _ _ _ _ 38 _ _ _)
        refine hp_goto (tgt := 46) dX9_as_38 rfl (?_ : hp_G _ _ _ _ _ _ _ _ _ 46 _ _ _)
        obtain rfl := Option.some.inj hf
        exact hp_iret kr (fun z => z) rfl dX9_as_46
    · replace hf := ot_ c6 hf
      refine hp_bipush (v := (-2)) dX9_as_24 bi_m2 (?_ : hp_G _ _ _ _ _ _ _ _ _ 26 _ _ _)
      obtain rfl := Option.some.inj hf
      exact hp_iret kr (fun z => z) rfl dX9_as_26
  · replace hf := ot_ c4 hf
    refine hp_iconst (v := (-1)) dX9_as_13 ic_m1 (?_ : hp_G _ _ _ _ _ _ _ _ _ 14 _ _ _)
    obtain rfl := Option.some.inj hf
    exact hp_iret kr (fun z => z) rfl dX9_as_14
theorem kX9_as (l : Launch) {h : hp_H} {a0 : Nat} {p1 : Int32} {p2 : Int32} {r : (Int32 × hp_H)} (hf : fX9_as h a0 p1 p2 = some r) : hp_Cn l yX9_as mX9_as 1 false 0 0 [.ref a0, .int p1, .int p2] h (fun v h2 => some (.int r.1) = v ∧ r.2 = h2) :=
  hp_of (by decide) rfl (fun z => by cases z) (Nat.le_of_ble_eq_true rfl) (tX9_as l hf ⟨rfl, rfl⟩)
noncomputable def fX8_trace (h : hp_H) (a0 : Nat) : Option Int32 :=
(gi_ h a0 7 7).bind fun x1 =>
some x1
set_option maxRecDepth 20000 in
set_option maxHeartbeats 4000000 in
theorem tX8_trace (l : Launch) {h : hp_H} {a0 : Nat} {r : Int32} (hf : fX8_trace h a0 = some r) {Q : Option Value → hp_H → Prop} (kr : Q (some (.int r)) h) : hp_G l mX8_trace none 0 false Q false 0 0 0 [(0, .ref a0)] [] h := by
  unfold fX8_trace at hf
  refine hp_aload_n 0 dX8_trace_0 rfl rfl (?_ : hp_G _ _ _ _ _ _ _ _ _ 1 _ _ _)
  replace hf := ob_ hf
  obtain ⟨x1, ex1, hf⟩ := hf
  refine fgX8_254 rfl dX8_trace_1 ex1 (?_ : hp_G _ _ _ _ _ _ _ _ _ 4 _ _ _)
  obtain rfl := Option.some.inj hf
  exact hp_iret kr (fun z => z) rfl dX8_trace_4
theorem kX8_trace (l : Launch) {h : hp_H} {a0 : Nat} {r : Int32} (hf : fX8_trace h a0 = some r) : hp_Cn l yX8_trace mX8_trace 0 false 0 0 [.ref a0] h (fun v h2 => some (.int r) = v ∧ h = h2) :=
  hp_of (by decide) rfl (fun z => by cases z) (Nat.le_of_ble_eq_true rfl) (tX8_trace l hf ⟨rfl, rfl⟩)
noncomputable def fX9_trace (h : hp_H) (a0 : Nat) : Option Int32 :=
(gi_ h a0 8 1).bind fun x1 =>
some x1
set_option maxRecDepth 20000 in
set_option maxHeartbeats 4000000 in
theorem tX9_trace (l : Launch) {h : hp_H} {a0 : Nat} {r : Int32} (hf : fX9_trace h a0 = some r) {Q : Option Value → hp_H → Prop} (kr : Q (some (.int r)) h) : hp_G l mX9_trace none 0 false Q false 0 0 0 [(0, .ref a0)] [] h := by
  unfold fX9_trace at hf
  refine hp_aload_n 0 dX9_trace_0 rfl rfl (?_ : hp_G _ _ _ _ _ _ _ _ _ 1 _ _ _)
  replace hf := ob_ hf
  obtain ⟨x1, ex1, hf⟩ := hf
  refine fgX9_213 rfl dX9_trace_1 ex1 (?_ : hp_G _ _ _ _ _ _ _ _ _ 4 _ _ _)
  obtain rfl := Option.some.inj hf
  exact hp_iret kr (fun z => z) rfl dX9_trace_4
theorem kX9_trace (l : Launch) {h : hp_H} {a0 : Nat} {r : Int32} (hf : fX9_trace h a0 = some r) : hp_Cn l yX9_trace mX9_trace 0 false 0 0 [.ref a0] h (fun v h2 => some (.int r) = v ∧ h = h2) :=
  hp_of (by decide) rfl (fun z => by cases z) (Nat.le_of_ble_eq_true rfl) (tX9_trace l hf ⟨rfl, rfl⟩)
noncomputable def fX8_fault (h : hp_H) (a0 : Nat) : Option Int32 :=
(gi_ h a0 7 8).bind fun x1 =>
some x1
set_option maxRecDepth 20000 in
set_option maxHeartbeats 4000000 in
theorem tX8_fault (l : Launch) {h : hp_H} {a0 : Nat} {r : Int32} (hf : fX8_fault h a0 = some r) {Q : Option Value → hp_H → Prop} (kr : Q (some (.int r)) h) : hp_G l mX8_fault none 0 false Q false 0 0 0 [(0, .ref a0)] [] h := by
  unfold fX8_fault at hf
  refine hp_aload_n 0 dX8_fault_0 rfl rfl (?_ : hp_G _ _ _ _ _ _ _ _ _ 1 _ _ _)
  replace hf := ob_ hf
  obtain ⟨x1, ex1, hf⟩ := hf
  refine fgX8_53 rfl dX8_fault_1 ex1 (?_ : hp_G _ _ _ _ _ _ _ _ _ 4 _ _ _)
  obtain rfl := Option.some.inj hf
  exact hp_iret kr (fun z => z) rfl dX8_fault_4
theorem kX8_fault (l : Launch) {h : hp_H} {a0 : Nat} {r : Int32} (hf : fX8_fault h a0 = some r) : hp_Cn l yX8_fault mX8_fault 0 false 0 0 [.ref a0] h (fun v h2 => some (.int r) = v ∧ h = h2) :=
  hp_of (by decide) rfl (fun z => by cases z) (Nat.le_of_ble_eq_true rfl) (tX8_fault l hf ⟨rfl, rfl⟩)
noncomputable def fX9_fault (h : hp_H) (a0 : Nat) : Option Int32 :=
(gi_ h a0 8 0).bind fun x1 =>
some x1
set_option maxRecDepth 20000 in
set_option maxHeartbeats 4000000 in
theorem tX9_fault (l : Launch) {h : hp_H} {a0 : Nat} {r : Int32} (hf : fX9_fault h a0 = some r) {Q : Option Value → hp_H → Prop} (kr : Q (some (.int r)) h) : hp_G l mX9_fault none 0 false Q false 0 0 0 [(0, .ref a0)] [] h := by
  unfold fX9_fault at hf
  refine hp_aload_n 0 dX9_fault_0 rfl rfl (?_ : hp_G _ _ _ _ _ _ _ _ _ 1 _ _ _)
  replace hf := ob_ hf
  obtain ⟨x1, ex1, hf⟩ := hf
  refine fgX9_61 rfl dX9_fault_1 ex1 (?_ : hp_G _ _ _ _ _ _ _ _ _ 4 _ _ _)
  obtain rfl := Option.some.inj hf
  exact hp_iret kr (fun z => z) rfl dX9_fault_4
theorem kX9_fault (l : Launch) {h : hp_H} {a0 : Nat} {r : Int32} (hf : fX9_fault h a0 = some r) : hp_Cn l yX9_fault mX9_fault 0 false 0 0 [.ref a0] h (fun v h2 => some (.int r) = v ∧ h = h2) :=
  hp_of (by decide) rfl (fun z => by cases z) (Nat.le_of_ble_eq_true rfl) (tX9_fault l hf ⟨rfl, rfl⟩)
noncomputable def fX8_many (h : hp_H) (a0 : Nat) (p1 : Int32) : Option Int32 :=
if p1 = 0 then
((gq_ h a0 7 0).bind fun x2 =>
(gi_ h x2 6 1).bind fun x3 =>
some x3)
else
(if p1 = 1 then
((gq_ h a0 7 0).bind fun x5 =>
(hg_o h x5 6).bind fun o6 =>
(fX7_goneSet h x5).bind fun r7 =>
(fJ6_bitCount_0f7a4 h r7).bind fun r8 =>
some r8)
else
(if p1 = 2 then
((gi_ h a0 7 6).bind fun x10 =>
some x10)
else
(if p1 = 3 then
((gq_ h a0 7 2).bind fun x12 =>
(gi_ h x12 0 4).bind fun x13 =>
some x13)
else
(some (-2)))))
set_option maxRecDepth 20000 in
set_option maxHeartbeats 4000000 in
theorem tX8_many (l : Launch) {h : hp_H} {a0 : Nat} {p1 : Int32} {r : Int32} (hf : fX8_many h a0 p1 = some r) {Q : Option Value → hp_H → Prop} (kr : Q (some (.int r)) h) : hp_G l mX8_many none 1 false Q false 0 0 0 [(0, .ref a0), (1, .int p1)] [] h := by
  unfold fX8_many at hf
  refine hp_iload_n 1 dX8_many_0 rfl rfl (?_ : hp_G _ _ _ _ _ _ _ _ _ 1 _ _ _)
  by_cases c1 : p1 = 0
  · replace hf := ot_ c1 hf
    refine hp_tableIn (tgt := 32) dX8_many_1 (by rw [c1]; decide) (by rw [c1]; decide) (by rw [c1]; rfl) (by decide) ?_
    refine hp_aload_n 0 dX8_many_32 rfl rfl (?_ : hp_G _ _ _ _ _ _ _ _ _ 33 _ _ _)
    replace hf := ob_ hf
    obtain ⟨x2, ex2, hf⟩ := hf
    refine fgX8_12 rfl dX8_many_33 ex2 (?_ : hp_G _ _ _ _ _ _ _ _ _ 36 _ _ _)
    replace hf := ob_ hf
    obtain ⟨x3, ex3, hf⟩ := hf
    refine fgX8_92 rfl dX8_many_36 ex3 (?_ : hp_G _ _ _ _ _ _ _ _ _ 39 _ _ _)
    obtain rfl := Option.some.inj hf
    exact hp_iret kr (fun z => z) rfl dX8_many_39
  · replace hf := of_ c1 hf
    by_cases c4 : p1 = 1
    · replace hf := ot_ c4 hf
      refine hp_tableIn (tgt := 40) dX8_many_1 (by rw [c4]; decide) (by rw [c4]; decide) (by rw [c4]; rfl) (by decide) ?_
      refine hp_aload_n 0 dX8_many_40 rfl rfl (?_ : hp_G _ _ _ _ _ _ _ _ _ 41 _ _ _)
      replace hf := ob_ hf
      obtain ⟨x5, ex5, hf⟩ := hf
      refine fgX8_12 rfl dX8_many_41 ex5 (?_ : hp_G _ _ _ _ _ _ _ _ _ 44 _ _ _)
      replace hf := ob_ hf
      obtain ⟨o6, eo6, hf⟩ := hf
      replace hf := ob_ hf
      obtain ⟨r7, er7, hf⟩ := hf
      refine clX8_136 (as := []) (st := []) rfl (kX7_goneSet l er7) rfl (by decide) (Nat.le_of_ble_eq_true rfl) eo6 dX8_many_44 rfl (?_ : hp_G _ _ _ _ _ _ _ _ _ 47 _ _ _)
      replace hf := ob_ hf
      obtain ⟨r8, er8, hf⟩ := hf
      refine clX8_139 (as := [.int r7]) (st := []) rfl (kJ6_bitCount_0f7a4 l er8) rfl (by decide) (Nat.le_of_ble_eq_true rfl) dX8_many_47 rfl (?_ : hp_G _ _ _ _ _ _ _ _ _ 50 _ _ _)
      obtain rfl := Option.some.inj hf
      exact hp_iret kr (fun z => z) rfl dX8_many_50
    · replace hf := of_ c4 hf
      by_cases c9 : p1 = 2
      · replace hf := ot_ c9 hf
        refine hp_tableIn (tgt := 51) dX8_many_1 (by rw [c9]; decide) (by rw [c9]; decide) (by rw [c9]; rfl) (by decide) ?_
        refine hp_aload_n 0 dX8_many_51 rfl rfl (?_ : hp_G _ _ _ _ _ _ _ _ _ 52 _ _ _)
        replace hf := ob_ hf
        obtain ⟨x10, ex10, hf⟩ := hf
        refine fgX8_82 rfl dX8_many_52 ex10 (?_ : hp_G _ _ _ _ _ _ _ _ _ 55 _ _ _)
        obtain rfl := Option.some.inj hf
        exact hp_iret kr (fun z => z) rfl dX8_many_55
      · replace hf := of_ c9 hf
        by_cases c11 : p1 = 3
        · replace hf := ot_ c11 hf
          refine hp_tableIn (tgt := 56) dX8_many_1 (by rw [c11]; decide) (by rw [c11]; decide) (by rw [c11]; rfl) (by decide) ?_
          refine hp_aload_n 0 dX8_many_56 rfl rfl (?_ : hp_G _ _ _ _ _ _ _ _ _ 57 _ _ _)
          replace hf := ob_ hf
          obtain ⟨x12, ex12, hf⟩ := hf
          refine fgX8_27 rfl dX8_many_57 ex12 (?_ : hp_G _ _ _ _ _ _ _ _ _ 60 _ _ _)
          replace hf := ob_ hf
          obtain ⟨x13, ex13, hf⟩ := hf
          refine fgX8_85 rfl dX8_many_60 ex13 (?_ : hp_G _ _ _ _ _ _ _ _ _ 63 _ _ _)
          obtain rfl := Option.some.inj hf
          exact hp_iret kr (fun z => z) rfl dX8_many_63
        · replace hf := of_ c11 hf
          refine hp_tableOut (tgt := 64) dX8_many_1 (by have q0 := hp_nei (z := 0) (by decide) c1; have q1 := hp_nei (z := 1) (by decide) c4; have q2 := hp_nei (z := 2) (by decide) c9; have q3 := hp_nei (z := 3) (by decide) c11; omega) (by decide) ?_
          refine hp_bipush (v := (-2)) dX8_many_64 bi_m2 (?_ : hp_G _ _ _ _ _ _ _ _ _ 66 _ _ _)
          obtain rfl := Option.some.inj hf
          exact hp_iret kr (fun z => z) rfl dX8_many_66
theorem kX8_many (l : Launch) {h : hp_H} {a0 : Nat} {p1 : Int32} {r : Int32} (hf : fX8_many h a0 p1 = some r) : hp_Cn l yX8_many mX8_many 1 false 0 0 [.ref a0, .int p1] h (fun v h2 => some (.int r) = v ∧ h = h2) :=
  hp_of (by decide) rfl (fun z => by cases z) (Nat.le_of_ble_eq_true rfl) (tX8_many l hf ⟨rfl, rfl⟩)
noncomputable def fX9_many (h : hp_H) (a0 : Nat) (p1 : Int32) : Option Int32 :=
if p1 = 0 then
((gi_ h a0 8 5).bind fun x2 =>
some x2)
else
(if p1 = 1 then
((gi_ h a0 8 6).bind fun x4 =>
(fX9_size h x4).bind fun r5 =>
some r5)
else
(if p1 = 2 then
((gi_ h a0 8 7).bind fun x7 =>
some x7)
else
(if p1 = 3 then
((gi_ h a0 8 24).bind fun x9 =>
some x9)
else
(some (-2)))))
set_option maxRecDepth 20000 in
set_option maxHeartbeats 4000000 in
theorem tX9_many (l : Launch) {h : hp_H} {a0 : Nat} {p1 : Int32} {r : Int32} (hf : fX9_many h a0 p1 = some r) {Q : Option Value → hp_H → Prop} (kr : Q (some (.int r)) h) : hp_G l mX9_many none 1 false Q false 0 0 0 [(0, .ref a0), (1, .int p1)] [] h := by
  unfold fX9_many at hf
  refine hp_iload_n 1 dX9_many_0 rfl rfl (?_ : hp_G _ _ _ _ _ _ _ _ _ 1 _ _ _)
  by_cases c1 : p1 = 0
  · replace hf := ot_ c1 hf
    refine hp_tableIn (tgt := 32) dX9_many_1 (by rw [c1]; decide) (by rw [c1]; decide) (by rw [c1]; rfl) (by decide) ?_
    refine hp_aload_n 0 dX9_many_32 rfl rfl (?_ : hp_G _ _ _ _ _ _ _ _ _ 33 _ _ _)
    replace hf := ob_ hf
    obtain ⟨x2, ex2, hf⟩ := hf
    refine fgX9_71 rfl dX9_many_33 ex2 (?_ : hp_G _ _ _ _ _ _ _ _ _ 36 _ _ _)
    obtain rfl := Option.some.inj hf
    exact hp_iret kr (fun z => z) rfl dX9_many_36
  · replace hf := of_ c1 hf
    by_cases c3 : p1 = 1
    · replace hf := ot_ c3 hf
      refine hp_tableIn (tgt := 37) dX9_many_1 (by rw [c3]; decide) (by rw [c3]; decide) (by rw [c3]; rfl) (by decide) ?_
      refine hp_aload_n 0 dX9_many_37 rfl rfl (?_ : hp_G _ _ _ _ _ _ _ _ _ 38 _ _ _)
      replace hf := ob_ hf
      obtain ⟨x4, ex4, hf⟩ := hf
      refine fgX9_101 rfl dX9_many_38 ex4 (?_ : hp_G _ _ _ _ _ _ _ _ _ 41 _ _ _)
      replace hf := ob_ hf
      obtain ⟨r5, er5, hf⟩ := hf
      refine clX9_138 (as := [.int x4]) (st := []) rfl (kX9_size l er5) rfl (by decide) (Nat.le_of_ble_eq_true rfl) dX9_many_41 rfl (?_ : hp_G _ _ _ _ _ _ _ _ _ 44 _ _ _)
      obtain rfl := Option.some.inj hf
      exact hp_iret kr (fun z => z) rfl dX9_many_44
    · replace hf := of_ c3 hf
      by_cases c6 : p1 = 2
      · replace hf := ot_ c6 hf
        refine hp_tableIn (tgt := 45) dX9_many_1 (by rw [c6]; decide) (by rw [c6]; decide) (by rw [c6]; rfl) (by decide) ?_
        refine hp_aload_n 0 dX9_many_45 rfl rfl (?_ : hp_G _ _ _ _ _ _ _ _ _ 46 _ _ _)
        replace hf := ob_ hf
        obtain ⟨x7, ex7, hf⟩ := hf
        refine fgX9_104 rfl dX9_many_46 ex7 (?_ : hp_G _ _ _ _ _ _ _ _ _ 49 _ _ _)
        obtain rfl := Option.some.inj hf
        exact hp_iret kr (fun z => z) rfl dX9_many_49
      · replace hf := of_ c6 hf
        by_cases c8 : p1 = 3
        · replace hf := ot_ c8 hf
          refine hp_tableIn (tgt := 50) dX9_many_1 (by rw [c8]; decide) (by rw [c8]; decide) (by rw [c8]; rfl) (by decide) ?_
          refine hp_aload_n 0 dX9_many_50 rfl rfl (?_ : hp_G _ _ _ _ _ _ _ _ _ 51 _ _ _)
          replace hf := ob_ hf
          obtain ⟨x9, ex9, hf⟩ := hf
          refine fgX9_107 rfl dX9_many_51 ex9 (?_ : hp_G _ _ _ _ _ _ _ _ _ 54 _ _ _)
          obtain rfl := Option.some.inj hf
          exact hp_iret kr (fun z => z) rfl dX9_many_54
        · replace hf := of_ c8 hf
          refine hp_tableOut (tgt := 55) dX9_many_1 (by have q0 := hp_nei (z := 0) (by decide) c1; have q1 := hp_nei (z := 1) (by decide) c3; have q2 := hp_nei (z := 2) (by decide) c6; have q3 := hp_nei (z := 3) (by decide) c8; omega) (by decide) ?_
          refine hp_bipush (v := (-2)) dX9_many_55 bi_m2 (?_ : hp_G _ _ _ _ _ _ _ _ _ 57 _ _ _)
          obtain rfl := Option.some.inj hf
          exact hp_iret kr (fun z => z) rfl dX9_many_57
theorem kX9_many (l : Launch) {h : hp_H} {a0 : Nat} {p1 : Int32} {r : Int32} (hf : fX9_many h a0 p1 = some r) : hp_Cn l yX9_many mX9_many 1 false 0 0 [.ref a0, .int p1] h (fun v h2 => some (.int r) = v ∧ h = h2) :=
  hp_of (by decide) rfl (fun z => by cases z) (Nat.le_of_ble_eq_true rfl) (tX9_many l hf ⟨rfl, rfl⟩)
noncomputable def jL_law_1257_18 (L : Nat) (xs : Nat → Int32) (g : hp_H) (v1 : Nat) (v2 : Nat) (u3 : Int32)  : Option ((Int32 × hp_H) ⊕ (hp_H ⊕ (Int32 × hp_H))) :=
(some (u3 + 6)).bind fun x23 =>
some (.inl (x23, g))
set_option maxRecDepth 20000 in
set_option maxHeartbeats 4000000 in
theorem tjL_law_1257_18 {L : Nat} {xs : Nat → Int32} (l : Launch) {g : hp_H} {v1 : Nat} {v2 : Nat} {u3 : Int32}  {r : ((Int32 × hp_H) ⊕ (hp_H ⊕ (Int32 × hp_H)))} (hf : jL_law_1257_18 L xs g v1 v2 u3 = some r) {Q : Option Value → hp_H → Prop} (kb : ∀ t, r = .inl t → hp_G l mL_law (some (L, xs)) 14 false Q false 0 0 18 [(0, .float 0), (1, .ref v1), (2, .ref v2), (3, .int t.1)] [] t.2) (ke : ∀ x, r = .inr (.inl x) → hp_G l mL_law (some (L, xs)) 14 false Q false 0 0 1263 [] [] x) (kr : ∀ z, r = .inr (.inr z) → Q (some (.int z.1)) z.2) : hp_G l mL_law (some (L, xs)) 14 false Q false 0 0 1257 [(0, .float 0), (1, .ref v1), (2, .ref v2), (3, .int u3)] [] g := by
  unfold jL_law_1257_18 at hf
  replace hf := ob_ hf
  obtain ⟨x23, ex23, hf⟩ := hf
  refine hp_iinc (v := x23) (lv' := [(3, .int x23), (0, .float 0), (1, .ref v1), (2, .ref v2)]) 3 dL_law_1257 rfl (hp_inc ic_6 ex23) (Nat.le_of_ble_eq_true rfl) rfl (?_ : hp_G _ _ _ _ _ _ _ _ _ 1260 _ _ _)
  refine hp_goto (tgt := 18) dL_law_1260 rfl (?_ : hp_G _ _ _ _ _ _ _ _ _ 18 _ _ _)
  obtain rfl := Option.some.inj hf
  exact hp_sub [1, 2, 3, 0] rfl (kb _ rfl)
noncomputable def bL_law_18 (L : Nat) (xs : Nat → Int32) (v1 : Nat) (v2 : Nat) (s : (Int32 × hp_H)) : Option ((Int32 × hp_H) ⊕ (hp_H ⊕ (Int32 × hp_H))) :=
if (Int32.ofNat L) - 6 < s.1 then
(some (.inr (.inl s.2)))
else
((sl_ L xs s.1).bind fun x8 =>
if x8 &&& 31 = 0 then
((sl_ L xs (s.1 + 1)).bind fun x10 =>
(sl_ L xs (s.1 + 2)).bind fun x11 =>
(sl_ L xs (s.1 + 3)).bind fun x12 =>
(sl_ L xs (s.1 + 4)).bind fun x13 =>
(hg_o s.2 v1 7).bind fun o14 =>
(fX8_harbour s.2 v1 x10 x11 x12 x13).bind fun r15 =>
(sl_ L xs (s.1 + 1)).bind fun x16 =>
(sl_ L xs (s.1 + 2)).bind fun x17 =>
(sl_ L xs (s.1 + 3)).bind fun x18 =>
(sl_ L xs (s.1 + 4)).bind fun x19 =>
(hg_o r15.2 v2 8).bind fun o20 =>
(fX9_harbour r15.2 v2 x16 x17 x18 x19).bind fun r21 =>
if r15.1 = r21.1 then
(jL_law_1257_18 L xs r21.2 v1 v2 s.1)
else
(some (.inr (.inr (0, r21.2)))))
else
(if x8 &&& 31 = 1 then
((sl_ L xs (s.1 + 1)).bind fun x25 =>
(sl_ L xs (s.1 + 2)).bind fun x26 =>
(hg_o s.2 v1 7).bind fun o27 =>
(fX8_ofPerson s.2 v1 x25 x26).bind fun r28 =>
(sl_ L xs (s.1 + 1)).bind fun x29 =>
(sl_ L xs (s.1 + 2)).bind fun x30 =>
(hg_o s.2 v2 8).bind fun o31 =>
(fX9_ofPerson s.2 v2 x29 x30).bind fun r32 =>
if r28 = r32 then
(jL_law_1257_18 L xs s.2 v1 v2 s.1)
else
(some (.inr (.inr (0, s.2)))))
else
(if x8 &&& 31 = 2 then
((sl_ L xs (s.1 + 1)).bind fun x35 =>
(sl_ L xs (s.1 + 2)).bind fun x36 =>
(hg_o s.2 v1 7).bind fun o37 =>
(fX8_train s.2 v1 x35 x36).bind fun r38 =>
(sl_ L xs (s.1 + 1)).bind fun x39 =>
(sl_ L xs (s.1 + 2)).bind fun x40 =>
(hg_o r38.2 v2 8).bind fun o41 =>
(fX9_train r38.2 v2 x39 x40).bind fun r42 =>
if r38.1 = r42.1 then
(jL_law_1257_18 L xs r42.2 v1 v2 s.1)
else
(some (.inr (.inr (0, r42.2)))))
else
(if x8 &&& 31 = 3 then
((sl_ L xs (s.1 + 1)).bind fun x45 =>
(sl_ L xs (s.1 + 2)).bind fun x46 =>
(hg_o s.2 v1 7).bind fun o47 =>
(fX8_learn s.2 v1 x45 x46).bind fun r48 =>
(sl_ L xs (s.1 + 1)).bind fun x49 =>
(sl_ L xs (s.1 + 2)).bind fun x50 =>
(hg_o r48.2 v2 8).bind fun o51 =>
(fX9_learn r48.2 v2 x49 x50).bind fun r52 =>
if r48.1 = r52.1 then
(jL_law_1257_18 L xs r52.2 v1 v2 s.1)
else
(some (.inr (.inr (0, r52.2)))))
else
(if x8 &&& 31 = 4 then
((sl_ L xs (s.1 + 1)).bind fun x55 =>
(sl_ L xs (s.1 + 2)).bind fun x56 =>
(sl_ L xs (s.1 + 3)).bind fun x57 =>
(sl_ L xs (s.1 + 4)).bind fun x58 =>
(hg_o s.2 v1 7).bind fun o59 =>
(fX8_game s.2 v1 x55 x56 x57 x58).bind fun r60 =>
(sl_ L xs (s.1 + 1)).bind fun x61 =>
(sl_ L xs (s.1 + 2)).bind fun x62 =>
(sl_ L xs (s.1 + 3)).bind fun x63 =>
(sl_ L xs (s.1 + 4)).bind fun x64 =>
(hg_o r60.2 v2 8).bind fun o65 =>
(fX9_game r60.2 v2 x61 x62 x63 x64).bind fun r66 =>
if r60.1 = r66.1 then
(jL_law_1257_18 L xs r66.2 v1 v2 s.1)
else
(some (.inr (.inr (0, r66.2)))))
else
(if x8 &&& 31 = 5 then
((sl_ L xs (s.1 + 1)).bind fun x69 =>
(sl_ L xs (s.1 + 2)).bind fun x70 =>
(hg_o s.2 v1 7).bind fun o71 =>
(fX8_shy s.2 v1 x69 x70).bind fun r72 =>
(sl_ L xs (s.1 + 1)).bind fun x73 =>
(sl_ L xs (s.1 + 2)).bind fun x74 =>
(hg_o r72.2 v2 8).bind fun o75 =>
(fX9_shy r72.2 v2 x73 x74).bind fun r76 =>
if r72.1 = r76.1 then
(jL_law_1257_18 L xs r76.2 v1 v2 s.1)
else
(some (.inr (.inr (0, r76.2)))))
else
(if x8 &&& 31 = 6 then
((sl_ L xs (s.1 + 1)).bind fun x79 =>
(hg_o s.2 v1 7).bind fun o80 =>
(fX8_fetch s.2 v1 x79).bind fun r81 =>
(sl_ L xs (s.1 + 1)).bind fun x82 =>
(hg_o r81.2 v2 8).bind fun o83 =>
(fX9_fetch r81.2 v2 x82).bind fun r84 =>
if r81.1 = r84.1 then
(jL_law_1257_18 L xs r84.2 v1 v2 s.1)
else
(some (.inr (.inr (0, r84.2)))))
else
(if x8 &&& 31 = 7 then
((sl_ L xs (s.1 + 1)).bind fun x87 =>
(sl_ L xs (s.1 + 2)).bind fun x88 =>
(sl_ L xs (s.1 + 3)).bind fun x89 =>
(sl_ L xs (s.1 + 4)).bind fun x90 =>
(sl_ L xs (s.1 + 5)).bind fun x91 =>
(hg_o s.2 v1 7).bind fun o92 =>
(fX8_season s.2 v1 x87 x88 x89 x90 x91).bind fun r93 =>
(sl_ L xs (s.1 + 1)).bind fun x94 =>
(sl_ L xs (s.1 + 2)).bind fun x95 =>
(sl_ L xs (s.1 + 3)).bind fun x96 =>
(sl_ L xs (s.1 + 4)).bind fun x97 =>
(sl_ L xs (s.1 + 5)).bind fun x98 =>
(hg_o r93.2 v2 8).bind fun o99 =>
(fX9_season r93.2 v2 x94 x95 x96 x97 x98).bind fun r100 =>
if r93.1 = r100.1 then
(jL_law_1257_18 L xs r100.2 v1 v2 s.1)
else
(some (.inr (.inr (0, r100.2)))))
else
(if x8 &&& 31 = 8 then
((sl_ L xs (s.1 + 1)).bind fun x103 =>
(sl_ L xs (s.1 + 2)).bind fun x104 =>
(hg_o s.2 v1 7).bind fun o105 =>
(fX8_safe s.2 v1 x103 x104).bind fun r106 =>
(sl_ L xs (s.1 + 1)).bind fun x107 =>
(sl_ L xs (s.1 + 2)).bind fun x108 =>
(hg_o s.2 v2 8).bind fun o109 =>
(fX9_safe s.2 v2 x107 x108).bind fun r110 =>
if r106 = r110 then
(jL_law_1257_18 L xs s.2 v1 v2 s.1)
else
(some (.inr (.inr (0, s.2)))))
else
(if x8 &&& 31 = 9 then
((sl_ L xs (s.1 + 1)).bind fun x113 =>
(hg_o s.2 v1 7).bind fun o114 =>
(fX8_sure s.2 v1 x113).bind fun r115 =>
(sl_ L xs (s.1 + 1)).bind fun x116 =>
(hg_o s.2 v2 8).bind fun o117 =>
(fX9_sure s.2 v2 x116).bind fun r118 =>
if r115 = r118 then
(jL_law_1257_18 L xs s.2 v1 v2 s.1)
else
(some (.inr (.inr (0, s.2)))))
else
(if x8 &&& 31 = 10 then
((sl_ L xs (s.1 + 1)).bind fun x121 =>
(sl_ L xs (s.1 + 2)).bind fun x122 =>
(hg_o s.2 v1 7).bind fun o123 =>
(fX8_common s.2 v1 x121 x122).bind fun r124 =>
(sl_ L xs (s.1 + 1)).bind fun x125 =>
(sl_ L xs (s.1 + 2)).bind fun x126 =>
(hg_o s.2 v2 8).bind fun o127 =>
(fX9_common s.2 v2 x125 x126).bind fun r128 =>
if r124 = r128 then
(jL_law_1257_18 L xs s.2 v1 v2 s.1)
else
(some (.inr (.inr (0, s.2)))))
else
(if x8 &&& 31 = 11 then
((sl_ L xs (s.1 + 1)).bind fun x131 =>
(hg_o s.2 v1 7).bind fun o132 =>
(fX8_pairs s.2 v1 x131).bind fun r133 =>
(sl_ L xs (s.1 + 1)).bind fun x134 =>
(hg_o r133.2 v2 8).bind fun o135 =>
(fX9_pairs r133.2 v2 x134).bind fun r136 =>
if r133.1 = r136.1 then
(jL_law_1257_18 L xs r136.2 v1 v2 s.1)
else
(some (.inr (.inr (0, r136.2)))))
else
(if x8 &&& 31 = 12 then
((sl_ L xs (s.1 + 1)).bind fun x139 =>
(sl_ L xs (s.1 + 2)).bind fun x140 =>
(sl_ L xs (s.1 + 3)).bind fun x141 =>
(sl_ L xs (s.1 + 4)).bind fun x142 =>
(sl_ L xs (s.1 + 5)).bind fun x143 =>
(hg_o s.2 v1 7).bind fun o144 =>
(fX8_orders s.2 v1 x139 x140 x141 x142 x143).bind fun r145 =>
(sl_ L xs (s.1 + 1)).bind fun x146 =>
(sl_ L xs (s.1 + 2)).bind fun x147 =>
(sl_ L xs (s.1 + 3)).bind fun x148 =>
(sl_ L xs (s.1 + 4)).bind fun x149 =>
(sl_ L xs (s.1 + 5)).bind fun x150 =>
(hg_o r145.2 v2 8).bind fun o151 =>
(fX9_orders r145.2 v2 x146 x147 x148 x149 x150).bind fun r152 =>
if r145.1 = r152.1 then
(jL_law_1257_18 L xs r152.2 v1 v2 s.1)
else
(some (.inr (.inr (0, r152.2)))))
else
(if x8 &&& 31 = 13 then
((sl_ L xs (s.1 + 1)).bind fun x155 =>
(sl_ L xs (s.1 + 2)).bind fun x156 =>
(sl_ L xs (s.1 + 3)).bind fun x157 =>
(sl_ L xs (s.1 + 4)).bind fun x158 =>
(hg_o s.2 v1 7).bind fun o159 =>
(fX8_drops s.2 v1 x155 x156 x157 x158).bind fun r160 =>
(sl_ L xs (s.1 + 1)).bind fun x161 =>
(sl_ L xs (s.1 + 2)).bind fun x162 =>
(sl_ L xs (s.1 + 3)).bind fun x163 =>
(sl_ L xs (s.1 + 4)).bind fun x164 =>
(hg_o r160.2 v2 8).bind fun o165 =>
(fX9_drops r160.2 v2 x161 x162 x163 x164).bind fun r166 =>
if r160.1 = r166.1 then
(jL_law_1257_18 L xs r166.2 v1 v2 s.1)
else
(some (.inr (.inr (0, r166.2)))))
else
(if x8 &&& 31 = 14 then
((sl_ L xs (s.1 + 1)).bind fun x169 =>
(sl_ L xs (s.1 + 2)).bind fun x170 =>
(sl_ L xs (s.1 + 3)).bind fun x171 =>
(sl_ L xs (s.1 + 4)).bind fun x172 =>
(hg_o s.2 v1 7).bind fun o173 =>
(fX8_reading s.2 v1 x169 x170 x171 x172).bind fun r174 =>
(sl_ L xs (s.1 + 1)).bind fun x175 =>
(sl_ L xs (s.1 + 2)).bind fun x176 =>
(sl_ L xs (s.1 + 3)).bind fun x177 =>
(sl_ L xs (s.1 + 4)).bind fun x178 =>
(hg_o r174.2 v2 8).bind fun o179 =>
(fX9_reading r174.2 v2 x175 x176 x177 x178).bind fun r180 =>
if r174.1 = r180.1 then
(jL_law_1257_18 L xs r180.2 v1 v2 s.1)
else
(some (.inr (.inr (0, r180.2)))))
else
(if x8 &&& 31 = 15 then
((sl_ L xs (s.1 + 1)).bind fun x183 =>
(hg_o s.2 v1 7).bind fun o184 =>
(fX8_back s.2 v1 x183).bind fun r185 =>
(sl_ L xs (s.1 + 1)).bind fun x186 =>
(hg_o r185.2 v2 8).bind fun o187 =>
(fX9_back r185.2 v2 x186).bind fun r188 =>
if r185.1 = r188.1 then
(jL_law_1257_18 L xs r188.2 v1 v2 s.1)
else
(some (.inr (.inr (0, r188.2)))))
else
(if x8 &&& 31 = 16 then
((sl_ L xs (s.1 + 1)).bind fun x191 =>
(hg_o s.2 v1 7).bind fun o192 =>
(fX8_strengths s.2 v1 x191).bind fun r193 =>
(sl_ L xs (s.1 + 1)).bind fun x194 =>
(hg_o r193.2 v2 8).bind fun o195 =>
(fX9_strengths r193.2 v2 x194).bind fun r196 =>
if r193.1 = r196.1 then
(jL_law_1257_18 L xs r196.2 v1 v2 s.1)
else
(some (.inr (.inr (0, r196.2)))))
else
(if x8 &&& 31 = 17 then
((sl_ L xs (s.1 + 1)).bind fun x199 =>
(hg_o s.2 v1 7).bind fun o200 =>
(fX8_feints s.2 v1 x199).bind fun r201 =>
(sl_ L xs (s.1 + 1)).bind fun x202 =>
(hg_o r201.2 v2 8).bind fun o203 =>
(fX9_feints r201.2 v2 x202).bind fun r204 =>
if r201.1 = r204.1 then
(jL_law_1257_18 L xs r204.2 v1 v2 s.1)
else
(some (.inr (.inr (0, r204.2)))))
else
(if x8 &&& 31 = 18 then
((sl_ L xs (s.1 + 1)).bind fun x207 =>
(hg_o s.2 v1 7).bind fun o208 =>
(fX8_kinds s.2 v1 x207).bind fun r209 =>
(sl_ L xs (s.1 + 1)).bind fun x210 =>
(hg_o r209.2 v2 8).bind fun o211 =>
(fX9_kinds r209.2 v2 x210).bind fun r212 =>
if r209.1 = r212.1 then
(jL_law_1257_18 L xs r212.2 v1 v2 s.1)
else
(some (.inr (.inr (0, r212.2)))))
else
(if x8 &&& 31 = 19 then
((sl_ L xs (s.1 + 1)).bind fun x215 =>
(sl_ L xs (s.1 + 2)).bind fun x216 =>
(sl_ L xs (s.1 + 3)).bind fun x217 =>
(hg_o s.2 v1 7).bind fun o218 =>
(fX8_odds s.2 v1 x215 x216 x217).bind fun r219 =>
(sl_ L xs (s.1 + 1)).bind fun x220 =>
(sl_ L xs (s.1 + 2)).bind fun x221 =>
(sl_ L xs (s.1 + 3)).bind fun x222 =>
(hg_o s.2 v2 8).bind fun o223 =>
(fX9_odds s.2 v2 x220 x221 x222).bind fun r224 =>
if lg_cmp r219 r224 = 0 then
(jL_law_1257_18 L xs s.2 v1 v2 s.1)
else
(some (.inr (.inr (0, s.2)))))
else
(if x8 &&& 31 = 20 then
((sl_ L xs (s.1 + 1)).bind fun x227 =>
(sl_ L xs (s.1 + 2)).bind fun x228 =>
(sl_ L xs (s.1 + 3)).bind fun x229 =>
(hg_o s.2 v1 7).bind fun o230 =>
(fX8_sheet s.2 v1 x227 x228 x229).bind fun r231 =>
(sl_ L xs (s.1 + 1)).bind fun x232 =>
(sl_ L xs (s.1 + 2)).bind fun x233 =>
(sl_ L xs (s.1 + 3)).bind fun x234 =>
(hg_o r231.2 v2 8).bind fun o235 =>
(fX9_sheet r231.2 v2 x232 x233 x234).bind fun r236 =>
if r231.1 = r236.1 then
(jL_law_1257_18 L xs r236.2 v1 v2 s.1)
else
(some (.inr (.inr (0, r236.2)))))
else
(if x8 &&& 31 = 21 then
((sl_ L xs (s.1 + 1)).bind fun x239 =>
(hg_o s.2 v1 7).bind fun o240 =>
(fX8_lose s.2 v1 x239).bind fun r241 =>
(sl_ L xs (s.1 + 1)).bind fun x242 =>
(hg_o r241.2 v2 8).bind fun o243 =>
(fX9_lose r241.2 v2 x242).bind fun r244 =>
if r241.1 = r244.1 then
(jL_law_1257_18 L xs r244.2 v1 v2 s.1)
else
(some (.inr (.inr (0, r244.2)))))
else
(if x8 &&& 31 = 22 then
((sl_ L xs (s.1 + 1)).bind fun x247 =>
(sl_ L xs (s.1 + 2)).bind fun x248 =>
(sl_ L xs (s.1 + 3)).bind fun x249 =>
(hg_o s.2 v1 7).bind fun o250 =>
(fX8_put s.2 v1 x247 x248 x249).bind fun r251 =>
(sl_ L xs (s.1 + 1)).bind fun x252 =>
(sl_ L xs (s.1 + 2)).bind fun x253 =>
(sl_ L xs (s.1 + 3)).bind fun x254 =>
(hg_o r251.2 v2 8).bind fun o255 =>
(fX9_put r251.2 v2 x252 x253 x254).bind fun r256 =>
if r251.1 = r256.1 then
(jL_law_1257_18 L xs r256.2 v1 v2 s.1)
else
(some (.inr (.inr (0, r256.2)))))
else
(if x8 &&& 31 = 23 then
((sl_ L xs (s.1 + 1)).bind fun x259 =>
(sl_ L xs (s.1 + 2)).bind fun x260 =>
(sl_ L xs (s.1 + 3)).bind fun x261 =>
(hg_o s.2 v1 7).bind fun o262 =>
(fX8_cell s.2 v1 x259 x260 x261).bind fun r263 =>
(sl_ L xs (s.1 + 1)).bind fun x264 =>
(sl_ L xs (s.1 + 2)).bind fun x265 =>
(sl_ L xs (s.1 + 3)).bind fun x266 =>
(hg_o r263.2 v2 8).bind fun o267 =>
(fX9_cell r263.2 v2 x264 x265 x266).bind fun r268 =>
if lg_cmp r263.1 r268.1 = 0 then
(jL_law_1257_18 L xs r268.2 v1 v2 s.1)
else
(some (.inr (.inr (0, r268.2)))))
else
(if x8 &&& 31 = 24 then
((sl_ L xs (s.1 + 1)).bind fun x271 =>
(sl_ L xs (s.1 + 2)).bind fun x272 =>
(sl_ L xs (s.1 + 3)).bind fun x273 =>
(sl_ L xs (s.1 + 4)).bind fun x274 =>
(sl_ L xs (s.1 + 5)).bind fun x275 =>
(hg_o s.2 v1 7).bind fun o276 =>
(fX8_copy s.2 v1 x271 x272 x273 x274 x275).bind fun r277 =>
(sl_ L xs (s.1 + 1)).bind fun x278 =>
(sl_ L xs (s.1 + 2)).bind fun x279 =>
(sl_ L xs (s.1 + 3)).bind fun x280 =>
(sl_ L xs (s.1 + 4)).bind fun x281 =>
(sl_ L xs (s.1 + 5)).bind fun x282 =>
(hg_o r277.2 v2 8).bind fun o283 =>
(fX9_copy r277.2 v2 x278 x279 x280 x281 x282).bind fun r284 =>
if r277.1 = r284.1 then
(jL_law_1257_18 L xs r284.2 v1 v2 s.1)
else
(some (.inr (.inr (0, r284.2)))))
else
(if x8 &&& 31 = 25 then
((sl_ L xs (s.1 + 1)).bind fun x287 =>
(hg_o s.2 v1 7).bind fun o288 =>
(fX8_tell s.2 v1 x287).bind fun r289 =>
(sl_ L xs (s.1 + 1)).bind fun x290 =>
(hg_o r289.2 v2 8).bind fun o291 =>
(fX9_tell r289.2 v2 x290).bind fun r292 =>
if r289.1 = r292.1 then
(jL_law_1257_18 L xs r292.2 v1 v2 s.1)
else
(some (.inr (.inr (0, r292.2)))))
else
(if x8 &&& 31 = 26 then
((sl_ L xs (s.1 + 1)).bind fun x295 =>
(hg_o s.2 v1 7).bind fun o296 =>
(fX8_wave s.2 v1 x295).bind fun r297 =>
(sl_ L xs (s.1 + 1)).bind fun x298 =>
(hg_o r297.2 v2 8).bind fun o299 =>
(fX9_wave r297.2 v2 x298).bind fun r300 =>
if r297.1 = r300.1 then
(jL_law_1257_18 L xs r300.2 v1 v2 s.1)
else
(some (.inr (.inr (0, r300.2)))))
else
(if x8 &&& 31 = 27 then
((sl_ L xs (s.1 + 1)).bind fun x303 =>
(sl_ L xs (s.1 + 2)).bind fun x304 =>
(hg_o s.2 v1 7).bind fun o305 =>
(fX8_as s.2 v1 x303 x304).bind fun r306 =>
(sl_ L xs (s.1 + 1)).bind fun x307 =>
(sl_ L xs (s.1 + 2)).bind fun x308 =>
(hg_o r306.2 v2 8).bind fun o309 =>
(fX9_as r306.2 v2 x307 x308).bind fun r310 =>
if r306.1 = r310.1 then
(jL_law_1257_18 L xs r310.2 v1 v2 s.1)
else
(some (.inr (.inr (0, r310.2)))))
else
(if x8 &&& 31 = 28 then
((hg_o s.2 v1 7).bind fun o313 =>
(fX8_trace s.2 v1).bind fun r314 =>
(hg_o s.2 v2 8).bind fun o315 =>
(fX9_trace s.2 v2).bind fun r316 =>
if r314 = r316 then
(jL_law_1257_18 L xs s.2 v1 v2 s.1)
else
(some (.inr (.inr (0, s.2)))))
else
(if x8 &&& 31 = 29 then
((hg_o s.2 v1 7).bind fun o319 =>
(fX8_fault s.2 v1).bind fun r320 =>
(hg_o s.2 v2 8).bind fun o321 =>
(fX9_fault s.2 v2).bind fun r322 =>
if r320 = r322 then
(jL_law_1257_18 L xs s.2 v1 v2 s.1)
else
(some (.inr (.inr (0, s.2)))))
else
(if x8 &&& 31 = 30 then
((sl_ L xs (s.1 + 1)).bind fun x325 =>
(hg_o s.2 v1 7).bind fun o326 =>
(fX8_many s.2 v1 x325).bind fun r327 =>
(sl_ L xs (s.1 + 1)).bind fun x328 =>
(hg_o s.2 v2 8).bind fun o329 =>
(fX9_many s.2 v2 x328).bind fun r330 =>
if r327 = r330 then
(jL_law_1257_18 L xs s.2 v1 v2 s.1)
else
(some (.inr (.inr (0, s.2)))))
else
(jL_law_1257_18 L xs s.2 v1 v2 s.1))))))))))))))))))))))))))))))))
set_option maxRecDepth 20000 in
set_option maxHeartbeats 4000000 in
theorem tbL_law_18 {L : Nat} {xs : Nat → Int32} (l : Launch) {v1 : Nat} {v2 : Nat}  {s : (Int32 × hp_H)} {r : ((Int32 × hp_H) ⊕ (hp_H ⊕ (Int32 × hp_H)))} (hf : bL_law_18 L xs  v1 v2 s = some r) {Q : Option Value → hp_H → Prop} (kb : ∀ t, r = .inl t → hp_G l mL_law (some (L, xs)) 14 false Q false 0 0 18 [(0, .float 0), (1, .ref v1), (2, .ref v2), (3, .int t.1)] [] t.2) (ke : ∀ x, r = .inr (.inl x) → hp_G l mL_law (some (L, xs)) 14 false Q false 0 0 1263 [] [] x) (kr : ∀ z, r = .inr (.inr z) → Q (some (.int z.1)) z.2) : hp_G l mL_law (some (L, xs)) 14 false Q false 0 0 18 [(0, .float 0), (1, .ref v1), (2, .ref v2), (3, .int s.1)] [] s.2 := by
  unfold bL_law_18 at hf
  refine hp_iload_n 3 dL_law_18 rfl rfl (?_ : hp_G _ _ _ _ _ _ _ _ _ 19 _ _ _)
  refine hp_aload_nS 0 dL_law_19 rfl rfl (?_ : hp_G _ _ _ _ _ _ _ _ _ 20 _ _ _)
  refine hp_slen (q := (L, xs)) rfl dL_law_20 (?_ : hp_G _ _ _ _ _ _ _ _ _ 21 _ _ _)
  refine hp_bipush (v := 6) dL_law_21 bi_6 (?_ : hp_G _ _ _ _ _ _ _ _ _ 23 _ _ _)
  refine hp_isub dL_law_23 (?_ : hp_G _ _ _ _ _ _ _ _ _ 24 _ _ _)
  refine hp_icmp_gt (tgt := 1263) dL_law_24 rfl (fun c7 => ?_) (fun c7 => (?_ : hp_G _ _ _ _ _ _ _ _ _ 27 _ _ _))
  · replace hf := ot_ c7 hf
    obtain rfl := Option.some.inj hf
    exact hp_sub [] rfl (ke _ rfl)
  · replace hf := of_ c7 hf
    refine hp_aload_nS 0 dL_law_27 rfl rfl (?_ : hp_G _ _ _ _ _ _ _ _ _ 28 _ _ _)
    refine hp_iload_n 3 dL_law_28 rfl rfl (?_ : hp_G _ _ _ _ _ _ _ _ _ 29 _ _ _)
    replace hf := ob_ hf
    obtain ⟨x8, ex8, hf⟩ := hf
    refine hp_sl dL_law_29 ex8 (?_ : hp_G _ _ _ _ _ _ _ _ _ 30 _ _ _)
    refine hp_bipush (v := 31) dL_law_30 bi_31 (?_ : hp_G _ _ _ _ _ _ _ _ _ 32 _ _ _)
    refine hp_iand dL_law_32 (?_ : hp_G _ _ _ _ _ _ _ _ _ 33 _ _ _)
    by_cases c9 : x8 &&& 31 = 0
    · replace hf := ot_ c9 hf
      refine hp_tableIn (tgt := 172) dL_law_33 (by rw [c9]; decide) (by rw [c9]; decide) (by rw [c9]; rfl) (by decide) ?_
      refine hp_aload_n 1 dL_law_172 rfl rfl (?_ : hp_G _ _ _ _ _ _ _ _ _ 173 _ _ _)
      refine hp_aload_nS 0 dL_law_173 rfl rfl (?_ : hp_G _ _ _ _ _ _ _ _ _ 174 _ _ _)
      refine hp_iload_n 3 dL_law_174 rfl rfl (?_ : hp_G _ _ _ _ _ _ _ _ _ 175 _ _ _)
      refine hp_iconst (v := 1) dL_law_175 ic_1 (?_ : hp_G _ _ _ _ _ _ _ _ _ 176 _ _ _)
      refine hp_iadd dL_law_176 (?_ : hp_G _ _ _ _ _ _ _ _ _ 177 _ _ _)
      replace hf := ob_ hf
      obtain ⟨x10, ex10, hf⟩ := hf
      refine hp_sl dL_law_177 ex10 (?_ : hp_G _ _ _ _ _ _ _ _ _ 178 _ _ _)
      refine hp_aload_nS 0 dL_law_178 rfl rfl (?_ : hp_G _ _ _ _ _ _ _ _ _ 179 _ _ _)
      refine hp_iload_n 3 dL_law_179 rfl rfl (?_ : hp_G _ _ _ _ _ _ _ _ _ 180 _ _ _)
      refine hp_iconst (v := 2) dL_law_180 ic_2 (?_ : hp_G _ _ _ _ _ _ _ _ _ 181 _ _ _)
      refine hp_iadd dL_law_181 (?_ : hp_G _ _ _ _ _ _ _ _ _ 182 _ _ _)
      replace hf := ob_ hf
      obtain ⟨x11, ex11, hf⟩ := hf
      refine hp_sl dL_law_182 ex11 (?_ : hp_G _ _ _ _ _ _ _ _ _ 183 _ _ _)
      refine hp_aload_nS 0 dL_law_183 rfl rfl (?_ : hp_G _ _ _ _ _ _ _ _ _ 184 _ _ _)
      refine hp_iload_n 3 dL_law_184 rfl rfl (?_ : hp_G _ _ _ _ _ _ _ _ _ 185 _ _ _)
      refine hp_iconst (v := 3) dL_law_185 ic_3 (?_ : hp_G _ _ _ _ _ _ _ _ _ 186 _ _ _)
      refine hp_iadd dL_law_186 (?_ : hp_G _ _ _ _ _ _ _ _ _ 187 _ _ _)
      replace hf := ob_ hf
      obtain ⟨x12, ex12, hf⟩ := hf
      refine hp_sl dL_law_187 ex12 (?_ : hp_G _ _ _ _ _ _ _ _ _ 188 _ _ _)
      refine hp_aload_nS 0 dL_law_188 rfl rfl (?_ : hp_G _ _ _ _ _ _ _ _ _ 189 _ _ _)
      refine hp_iload_n 3 dL_law_189 rfl rfl (?_ : hp_G _ _ _ _ _ _ _ _ _ 190 _ _ _)
      refine hp_iconst (v := 4) dL_law_190 ic_4 (?_ : hp_G _ _ _ _ _ _ _ _ _ 191 _ _ _)
      refine hp_iadd dL_law_191 (?_ : hp_G _ _ _ _ _ _ _ _ _ 192 _ _ _)
      replace hf := ob_ hf
      obtain ⟨x13, ex13, hf⟩ := hf
      refine hp_sl dL_law_192 ex13 (?_ : hp_G _ _ _ _ _ _ _ _ _ 193 _ _ _)
      replace hf := ob_ hf
      obtain ⟨o14, eo14, hf⟩ := hf
      replace hf := ob_ hf
      obtain ⟨r15, er15, hf⟩ := hf
      refine clL_13 (as := [.int x10, .int x11, .int x12, .int x13]) (st := []) rfl (kX8_harbour l er15) rfl (by decide) (Nat.le_of_ble_eq_true rfl) eo14 dL_law_193 rfl (?_ : hp_G _ _ _ _ _ _ _ _ _ 196 _ _ _)
      refine hp_aload_n 2 dL_law_196 rfl rfl (?_ : hp_G _ _ _ _ _ _ _ _ _ 197 _ _ _)
      refine hp_aload_nS 0 dL_law_197 rfl rfl (?_ : hp_G _ _ _ _ _ _ _ _ _ 198 _ _ _)
      refine hp_iload_n 3 dL_law_198 rfl rfl (?_ : hp_G _ _ _ _ _ _ _ _ _ 199 _ _ _)
      refine hp_iconst (v := 1) dL_law_199 ic_1 (?_ : hp_G _ _ _ _ _ _ _ _ _ 200 _ _ _)
      refine hp_iadd dL_law_200 (?_ : hp_G _ _ _ _ _ _ _ _ _ 201 _ _ _)
      replace hf := ob_ hf
      obtain ⟨x16, ex16, hf⟩ := hf
      refine hp_sl dL_law_201 ex16 (?_ : hp_G _ _ _ _ _ _ _ _ _ 202 _ _ _)
      refine hp_aload_nS 0 dL_law_202 rfl rfl (?_ : hp_G _ _ _ _ _ _ _ _ _ 203 _ _ _)
      refine hp_iload_n 3 dL_law_203 rfl rfl (?_ : hp_G _ _ _ _ _ _ _ _ _ 204 _ _ _)
      refine hp_iconst (v := 2) dL_law_204 ic_2 (?_ : hp_G _ _ _ _ _ _ _ _ _ 205 _ _ _)
      refine hp_iadd dL_law_205 (?_ : hp_G _ _ _ _ _ _ _ _ _ 206 _ _ _)
      replace hf := ob_ hf
      obtain ⟨x17, ex17, hf⟩ := hf
      refine hp_sl dL_law_206 ex17 (?_ : hp_G _ _ _ _ _ _ _ _ _ 207 _ _ _)
      refine hp_aload_nS 0 dL_law_207 rfl rfl (?_ : hp_G _ _ _ _ _ _ _ _ _ 208 _ _ _)
      refine hp_iload_n 3 dL_law_208 rfl rfl (?_ : hp_G _ _ _ _ _ _ _ _ _ 209 _ _ _)
      refine hp_iconst (v := 3) dL_law_209 ic_3 (?_ : hp_G _ _ _ _ _ _ _ _ _ 210 _ _ _)
      refine hp_iadd dL_law_210 (?_ : hp_G _ _ _ _ _ _ _ _ _ 211 _ _ _)
      replace hf := ob_ hf
      obtain ⟨x18, ex18, hf⟩ := hf
      refine hp_sl dL_law_211 ex18 (?_ : hp_G _ _ _ _ _ _ _ _ _ 212 _ _ _)
      refine hp_aload_nS 0 dL_law_212 rfl rfl (?_ : hp_G _ _ _ _ _ _ _ _ _ 213 _ _ _)
      refine hp_iload_n 3 dL_law_213 rfl rfl (?_ : hp_G _ _ _ _ _ _ _ _ _ 214 _ _ _)
      refine hp_iconst (v := 4) dL_law_214 ic_4 (?_ : hp_G _ _ _ _ _ _ _ _ _ 215 _ _ _)
      refine hp_iadd dL_law_215 (?_ : hp_G _ _ _ _ _ _ _ _ _ 216 _ _ _)
      replace hf := ob_ hf
      obtain ⟨x19, ex19, hf⟩ := hf
      refine hp_sl dL_law_216 ex19 (?_ : hp_G _ _ _ _ _ _ _ _ _ 217 _ _ _)
      replace hf := ob_ hf
      obtain ⟨o20, eo20, hf⟩ := hf
      replace hf := ob_ hf
      obtain ⟨r21, er21, hf⟩ := hf
      refine clL_17 (as := [.int x16, .int x17, .int x18, .int x19]) (st := [.int r15.1]) rfl (kX9_harbour l er21) rfl (by decide) (Nat.le_of_ble_eq_true rfl) eo20 dL_law_217 rfl (?_ : hp_G _ _ _ _ _ _ _ _ _ 220 _ _ _)
      refine hp_icmp_eq (tgt := 1257) dL_law_220 rfl (fun c22 => ?_) (fun c22 => (?_ : hp_G _ _ _ _ _ _ _ _ _ 223 _ _ _))
      · replace hf := ot_ c22 hf
        exact hp_sub [0, 1, 2, 3] rfl (tjL_law_1257_18 l hf kb ke kr)
      · replace hf := of_ c22 hf
        refine hp_iconst (v := 0) dL_law_223 ic_0 (?_ : hp_G _ _ _ _ _ _ _ _ _ 224 _ _ _)
        obtain rfl := Option.some.inj hf
        exact hp_zret (kr _ rfl) (fun z => z) rfl (by decide) dL_law_224
    · replace hf := of_ c9 hf
      by_cases c24 : x8 &&& 31 = 1
      · replace hf := ot_ c24 hf
        refine hp_tableIn (tgt := 225) dL_law_33 (by rw [c24]; decide) (by rw [c24]; decide) (by rw [c24]; rfl) (by decide) ?_
        refine hp_aload_n 1 dL_law_225 rfl rfl (?_ : hp_G _ _ _ _ _ _ _ _ _ 226 _ _ _)
        refine hp_aload_nS 0 dL_law_226 rfl rfl (?_ : hp_G _ _ _ _ _ _ _ _ _ 227 _ _ _)
        refine hp_iload_n 3 dL_law_227 rfl rfl (?_ : hp_G _ _ _ _ _ _ _ _ _ 228 _ _ _)
        refine hp_iconst (v := 1) dL_law_228 ic_1 (?_ : hp_G _ _ _ _ _ _ _ _ _ 229 _ _ _)
        refine hp_iadd dL_law_229 (?_ : hp_G _ _ _ _ _ _ _ _ _ 230 _ _ _)
        replace hf := ob_ hf
        obtain ⟨x25, ex25, hf⟩ := hf
        refine hp_sl dL_law_230 ex25 (?_ : hp_G _ _ _ _ _ _ _ _ _ 231 _ _ _)
        refine hp_aload_nS 0 dL_law_231 rfl rfl (?_ : hp_G _ _ _ _ _ _ _ _ _ 232 _ _ _)
        refine hp_iload_n 3 dL_law_232 rfl rfl (?_ : hp_G _ _ _ _ _ _ _ _ _ 233 _ _ _)
        refine hp_iconst (v := 2) dL_law_233 ic_2 (?_ : hp_G _ _ _ _ _ _ _ _ _ 234 _ _ _)
        refine hp_iadd dL_law_234 (?_ : hp_G _ _ _ _ _ _ _ _ _ 235 _ _ _)
        replace hf := ob_ hf
        obtain ⟨x26, ex26, hf⟩ := hf
        refine hp_sl dL_law_235 ex26 (?_ : hp_G _ _ _ _ _ _ _ _ _ 236 _ _ _)
        replace hf := ob_ hf
        obtain ⟨o27, eo27, hf⟩ := hf
        replace hf := ob_ hf
        obtain ⟨r28, er28, hf⟩ := hf
        refine clL_18 (as := [.int x25, .int x26]) (st := []) rfl (kX8_ofPerson l er28) rfl (by decide) (Nat.le_of_ble_eq_true rfl) eo27 dL_law_236 rfl (?_ : hp_G _ _ _ _ _ _ _ _ _ 239 _ _ _)
        refine hp_aload_n 2 dL_law_239 rfl rfl (?_ : hp_G _ _ _ _ _ _ _ _ _ 240 _ _ _)
        refine hp_aload_nS 0 dL_law_240 rfl rfl (?_ : hp_G _ _ _ _ _ _ _ _ _ 241 _ _ _)
        refine hp_iload_n 3 dL_law_241 rfl rfl (?_ : hp_G _ _ _ _ _ _ _ _ _ 242 _ _ _)
        refine hp_iconst (v := 1) dL_law_242 ic_1 (?_ : hp_G _ _ _ _ _ _ _ _ _ 243 _ _ _)
        refine hp_iadd dL_law_243 (?_ : hp_G _ _ _ _ _ _ _ _ _ 244 _ _ _)
        replace hf := ob_ hf
        obtain ⟨x29, ex29, hf⟩ := hf
        refine hp_sl dL_law_244 ex29 (?_ : hp_G _ _ _ _ _ _ _ _ _ 245 _ _ _)
        refine hp_aload_nS 0 dL_law_245 rfl rfl (?_ : hp_G _ _ _ _ _ _ _ _ _ 246 _ _ _)
        refine hp_iload_n 3 dL_law_246 rfl rfl (?_ : hp_G _ _ _ _ _ _ _ _ _ 247 _ _ _)
        refine hp_iconst (v := 2) dL_law_247 ic_2 (?_ : hp_G _ _ _ _ _ _ _ _ _ 248 _ _ _)
        refine hp_iadd dL_law_248 (?_ : hp_G _ _ _ _ _ _ _ _ _ 249 _ _ _)
        replace hf := ob_ hf
        obtain ⟨x30, ex30, hf⟩ := hf
        refine hp_sl dL_law_249 ex30 (?_ : hp_G _ _ _ _ _ _ _ _ _ 250 _ _ _)
        replace hf := ob_ hf
        obtain ⟨o31, eo31, hf⟩ := hf
        replace hf := ob_ hf
        obtain ⟨r32, er32, hf⟩ := hf
        refine clL_22 (as := [.int x29, .int x30]) (st := [.int r28]) rfl (kX9_ofPerson l er32) rfl (by decide) (Nat.le_of_ble_eq_true rfl) eo31 dL_law_250 rfl (?_ : hp_G _ _ _ _ _ _ _ _ _ 253 _ _ _)
        refine hp_icmp_eq (tgt := 1257) dL_law_253 rfl (fun c33 => ?_) (fun c33 => (?_ : hp_G _ _ _ _ _ _ _ _ _ 256 _ _ _))
        · replace hf := ot_ c33 hf
          exact hp_sub [0, 1, 2, 3] rfl (tjL_law_1257_18 l hf kb ke kr)
        · replace hf := of_ c33 hf
          refine hp_iconst (v := 0) dL_law_256 ic_0 (?_ : hp_G _ _ _ _ _ _ _ _ _ 257 _ _ _)
          obtain rfl := Option.some.inj hf
          exact hp_zret (kr _ rfl) (fun z => z) rfl (by decide) dL_law_257
      · replace hf := of_ c24 hf
        by_cases c34 : x8 &&& 31 = 2
        · replace hf := ot_ c34 hf
          refine hp_tableIn (tgt := 258) dL_law_33 (by rw [c34]; decide) (by rw [c34]; decide) (by rw [c34]; rfl) (by decide) ?_
          refine hp_aload_n 1 dL_law_258 rfl rfl (?_ : hp_G _ _ _ _ _ _ _ _ _ 259 _ _ _)
          refine hp_aload_nS 0 dL_law_259 rfl rfl (?_ : hp_G _ _ _ _ _ _ _ _ _ 260 _ _ _)
          refine hp_iload_n 3 dL_law_260 rfl rfl (?_ : hp_G _ _ _ _ _ _ _ _ _ 261 _ _ _)
          refine hp_iconst (v := 1) dL_law_261 ic_1 (?_ : hp_G _ _ _ _ _ _ _ _ _ 262 _ _ _)
          refine hp_iadd dL_law_262 (?_ : hp_G _ _ _ _ _ _ _ _ _ 263 _ _ _)
          replace hf := ob_ hf
          obtain ⟨x35, ex35, hf⟩ := hf
          refine hp_sl dL_law_263 ex35 (?_ : hp_G _ _ _ _ _ _ _ _ _ 264 _ _ _)
          refine hp_aload_nS 0 dL_law_264 rfl rfl (?_ : hp_G _ _ _ _ _ _ _ _ _ 265 _ _ _)
          refine hp_iload_n 3 dL_law_265 rfl rfl (?_ : hp_G _ _ _ _ _ _ _ _ _ 266 _ _ _)
          refine hp_iconst (v := 2) dL_law_266 ic_2 (?_ : hp_G _ _ _ _ _ _ _ _ _ 267 _ _ _)
          refine hp_iadd dL_law_267 (?_ : hp_G _ _ _ _ _ _ _ _ _ 268 _ _ _)
          replace hf := ob_ hf
          obtain ⟨x36, ex36, hf⟩ := hf
          refine hp_sl dL_law_268 ex36 (?_ : hp_G _ _ _ _ _ _ _ _ _ 269 _ _ _)
          replace hf := ob_ hf
          obtain ⟨o37, eo37, hf⟩ := hf
          replace hf := ob_ hf
          obtain ⟨r38, er38, hf⟩ := hf
          refine clL_23 (as := [.int x35, .int x36]) (st := []) rfl (kX8_train l er38) rfl (by decide) (Nat.le_of_ble_eq_true rfl) eo37 dL_law_269 rfl (?_ : hp_G _ _ _ _ _ _ _ _ _ 272 _ _ _)
          refine hp_aload_n 2 dL_law_272 rfl rfl (?_ : hp_G _ _ _ _ _ _ _ _ _ 273 _ _ _)
          refine hp_aload_nS 0 dL_law_273 rfl rfl (?_ : hp_G _ _ _ _ _ _ _ _ _ 274 _ _ _)
          refine hp_iload_n 3 dL_law_274 rfl rfl (?_ : hp_G _ _ _ _ _ _ _ _ _ 275 _ _ _)
          refine hp_iconst (v := 1) dL_law_275 ic_1 (?_ : hp_G _ _ _ _ _ _ _ _ _ 276 _ _ _)
          refine hp_iadd dL_law_276 (?_ : hp_G _ _ _ _ _ _ _ _ _ 277 _ _ _)
          replace hf := ob_ hf
          obtain ⟨x39, ex39, hf⟩ := hf
          refine hp_sl dL_law_277 ex39 (?_ : hp_G _ _ _ _ _ _ _ _ _ 278 _ _ _)
          refine hp_aload_nS 0 dL_law_278 rfl rfl (?_ : hp_G _ _ _ _ _ _ _ _ _ 279 _ _ _)
          refine hp_iload_n 3 dL_law_279 rfl rfl (?_ : hp_G _ _ _ _ _ _ _ _ _ 280 _ _ _)
          refine hp_iconst (v := 2) dL_law_280 ic_2 (?_ : hp_G _ _ _ _ _ _ _ _ _ 281 _ _ _)
          refine hp_iadd dL_law_281 (?_ : hp_G _ _ _ _ _ _ _ _ _ 282 _ _ _)
          replace hf := ob_ hf
          obtain ⟨x40, ex40, hf⟩ := hf
          refine hp_sl dL_law_282 ex40 (?_ : hp_G _ _ _ _ _ _ _ _ _ 283 _ _ _)
          replace hf := ob_ hf
          obtain ⟨o41, eo41, hf⟩ := hf
          replace hf := ob_ hf
          obtain ⟨r42, er42, hf⟩ := hf
          refine clL_26 (as := [.int x39, .int x40]) (st := [.int r38.1]) rfl (kX9_train l er42) rfl (by decide) (Nat.le_of_ble_eq_true rfl) eo41 dL_law_283 rfl (?_ : hp_G _ _ _ _ _ _ _ _ _ 286 _ _ _)
          refine hp_icmp_eq (tgt := 1257) dL_law_286 rfl (fun c43 => ?_) (fun c43 => (?_ : hp_G _ _ _ _ _ _ _ _ _ 289 _ _ _))
          · replace hf := ot_ c43 hf
            exact hp_sub [0, 1, 2, 3] rfl (tjL_law_1257_18 l hf kb ke kr)
          · replace hf := of_ c43 hf
            refine hp_iconst (v := 0) dL_law_289 ic_0 (?_ : hp_G _ _ _ _ _ _ _ _ _ 290 _ _ _)
            obtain rfl := Option.some.inj hf
            exact hp_zret (kr _ rfl) (fun z => z) rfl (by decide) dL_law_290
        · replace hf := of_ c34 hf
          by_cases c44 : x8 &&& 31 = 3
          · replace hf := ot_ c44 hf
            refine hp_tableIn (tgt := 291) dL_law_33 (by rw [c44]; decide) (by rw [c44]; decide) (by rw [c44]; rfl) (by decide) ?_
            refine hp_aload_n 1 dL_law_291 rfl rfl (?_ : hp_G _ _ _ _ _ _ _ _ _ 292 _ _ _)
            refine hp_aload_nS 0 dL_law_292 rfl rfl (?_ : hp_G _ _ _ _ _ _ _ _ _ 293 _ _ _)
            refine hp_iload_n 3 dL_law_293 rfl rfl (?_ : hp_G _ _ _ _ _ _ _ _ _ 294 _ _ _)
            refine hp_iconst (v := 1) dL_law_294 ic_1 (?_ : hp_G _ _ _ _ _ _ _ _ _ 295 _ _ _)
            refine hp_iadd dL_law_295 (?_ : hp_G _ _ _ _ _ _ _ _ _ 296 _ _ _)
            replace hf := ob_ hf
            obtain ⟨x45, ex45, hf⟩ := hf
            refine hp_sl dL_law_296 ex45 (?_ : hp_G _ _ _ _ _ _ _ _ _ 297 _ _ _)
            refine hp_aload_nS 0 dL_law_297 rfl rfl (?_ : hp_G _ _ _ _ _ _ _ _ _ 298 _ _ _)
            refine hp_iload_n 3 dL_law_298 rfl rfl (?_ : hp_G _ _ _ _ _ _ _ _ _ 299 _ _ _)
            refine hp_iconst (v := 2) dL_law_299 ic_2 (?_ : hp_G _ _ _ _ _ _ _ _ _ 300 _ _ _)
            refine hp_iadd dL_law_300 (?_ : hp_G _ _ _ _ _ _ _ _ _ 301 _ _ _)
            replace hf := ob_ hf
            obtain ⟨x46, ex46, hf⟩ := hf
            refine hp_sl dL_law_301 ex46 (?_ : hp_G _ _ _ _ _ _ _ _ _ 302 _ _ _)
            replace hf := ob_ hf
            obtain ⟨o47, eo47, hf⟩ := hf
            replace hf := ob_ hf
            obtain ⟨r48, er48, hf⟩ := hf
            refine clL_27 (as := [.int x45, .int x46]) (st := []) rfl (kX8_learn l er48) rfl (by decide) (Nat.le_of_ble_eq_true rfl) eo47 dL_law_302 rfl (?_ : hp_G _ _ _ _ _ _ _ _ _ 305 _ _ _)
            refine hp_aload_n 2 dL_law_305 rfl rfl (?_ : hp_G _ _ _ _ _ _ _ _ _ 306 _ _ _)
            refine hp_aload_nS 0 dL_law_306 rfl rfl (?_ : hp_G _ _ _ _ _ _ _ _ _ 307 _ _ _)
            refine hp_iload_n 3 dL_law_307 rfl rfl (?_ : hp_G _ _ _ _ _ _ _ _ _ 308 _ _ _)
            refine hp_iconst (v := 1) dL_law_308 ic_1 (?_ : hp_G _ _ _ _ _ _ _ _ _ 309 _ _ _)
            refine hp_iadd dL_law_309 (?_ : hp_G _ _ _ _ _ _ _ _ _ 310 _ _ _)
            replace hf := ob_ hf
            obtain ⟨x49, ex49, hf⟩ := hf
            refine hp_sl dL_law_310 ex49 (?_ : hp_G _ _ _ _ _ _ _ _ _ 311 _ _ _)
            refine hp_aload_nS 0 dL_law_311 rfl rfl (?_ : hp_G _ _ _ _ _ _ _ _ _ 312 _ _ _)
            refine hp_iload_n 3 dL_law_312 rfl rfl (?_ : hp_G _ _ _ _ _ _ _ _ _ 313 _ _ _)
            refine hp_iconst (v := 2) dL_law_313 ic_2 (?_ : hp_G _ _ _ _ _ _ _ _ _ 314 _ _ _)
            refine hp_iadd dL_law_314 (?_ : hp_G _ _ _ _ _ _ _ _ _ 315 _ _ _)
            replace hf := ob_ hf
            obtain ⟨x50, ex50, hf⟩ := hf
            refine hp_sl dL_law_315 ex50 (?_ : hp_G _ _ _ _ _ _ _ _ _ 316 _ _ _)
            replace hf := ob_ hf
            obtain ⟨o51, eo51, hf⟩ := hf
            replace hf := ob_ hf
            obtain ⟨r52, er52, hf⟩ := hf
            refine clL_30 (as := [.int x49, .int x50]) (st := [.int r48.1]) rfl (kX9_learn l er52) rfl (by decide) (Nat.le_of_ble_eq_true rfl) eo51 dL_law_316 rfl (?_ : hp_G _ _ _ _ _ _ _ _ _ 319 _ _ _)
            refine hp_icmp_eq (tgt := 1257) dL_law_319 rfl (fun c53 => ?_) (fun c53 => (?_ : hp_G _ _ _ _ _ _ _ _ _ 322 _ _ _))
            · replace hf := ot_ c53 hf
              exact hp_sub [0, 1, 2, 3] rfl (tjL_law_1257_18 l hf kb ke kr)
            · replace hf := of_ c53 hf
              refine hp_iconst (v := 0) dL_law_322 ic_0 (?_ : hp_G _ _ _ _ _ _ _ _ _ 323 _ _ _)
              obtain rfl := Option.some.inj hf
              exact hp_zret (kr _ rfl) (fun z => z) rfl (by decide) dL_law_323
          · replace hf := of_ c44 hf
            by_cases c54 : x8 &&& 31 = 4
            · replace hf := ot_ c54 hf
              refine hp_tableIn (tgt := 324) dL_law_33 (by rw [c54]; decide) (by rw [c54]; decide) (by rw [c54]; rfl) (by decide) ?_
              refine hp_aload_n 1 dL_law_324 rfl rfl (?_ : hp_G _ _ _ _ _ _ _ _ _ 325 _ _ _)
              refine hp_aload_nS 0 dL_law_325 rfl rfl (?_ : hp_G _ _ _ _ _ _ _ _ _ 326 _ _ _)
              refine hp_iload_n 3 dL_law_326 rfl rfl (?_ : hp_G _ _ _ _ _ _ _ _ _ 327 _ _ _)
              refine hp_iconst (v := 1) dL_law_327 ic_1 (?_ : hp_G _ _ _ _ _ _ _ _ _ 328 _ _ _)
              refine hp_iadd dL_law_328 (?_ : hp_G _ _ _ _ _ _ _ _ _ 329 _ _ _)
              replace hf := ob_ hf
              obtain ⟨x55, ex55, hf⟩ := hf
              refine hp_sl dL_law_329 ex55 (?_ : hp_G _ _ _ _ _ _ _ _ _ 330 _ _ _)
              refine hp_aload_nS 0 dL_law_330 rfl rfl (?_ : hp_G _ _ _ _ _ _ _ _ _ 331 _ _ _)
              refine hp_iload_n 3 dL_law_331 rfl rfl (?_ : hp_G _ _ _ _ _ _ _ _ _ 332 _ _ _)
              refine hp_iconst (v := 2) dL_law_332 ic_2 (?_ : hp_G _ _ _ _ _ _ _ _ _ 333 _ _ _)
              refine hp_iadd dL_law_333 (?_ : hp_G _ _ _ _ _ _ _ _ _ 334 _ _ _)
              replace hf := ob_ hf
              obtain ⟨x56, ex56, hf⟩ := hf
              refine hp_sl dL_law_334 ex56 (?_ : hp_G _ _ _ _ _ _ _ _ _ 335 _ _ _)
              refine hp_aload_nS 0 dL_law_335 rfl rfl (?_ : hp_G _ _ _ _ _ _ _ _ _ 336 _ _ _)
              refine hp_iload_n 3 dL_law_336 rfl rfl (?_ : hp_G _ _ _ _ _ _ _ _ _ 337 _ _ _)
              refine hp_iconst (v := 3) dL_law_337 ic_3 (?_ : hp_G _ _ _ _ _ _ _ _ _ 338 _ _ _)
              refine hp_iadd dL_law_338 (?_ : hp_G _ _ _ _ _ _ _ _ _ 339 _ _ _)
              replace hf := ob_ hf
              obtain ⟨x57, ex57, hf⟩ := hf
              refine hp_sl dL_law_339 ex57 (?_ : hp_G _ _ _ _ _ _ _ _ _ 340 _ _ _)
              refine hp_aload_nS 0 dL_law_340 rfl rfl (?_ : hp_G _ _ _ _ _ _ _ _ _ 341 _ _ _)
              refine hp_iload_n 3 dL_law_341 rfl rfl (?_ : hp_G _ _ _ _ _ _ _ _ _ 342 _ _ _)
              refine hp_iconst (v := 4) dL_law_342 ic_4 (?_ : hp_G _ _ _ _ _ _ _ _ _ 343 _ _ _)
              refine hp_iadd dL_law_343 (?_ : hp_G _ _ _ _ _ _ _ _ _ 344 _ _ _)
              replace hf := ob_ hf
              obtain ⟨x58, ex58, hf⟩ := hf
              refine hp_sl dL_law_344 ex58 (?_ : hp_G _ _ _ _ _ _ _ _ _ 345 _ _ _)
              replace hf := ob_ hf
              obtain ⟨o59, eo59, hf⟩ := hf
              replace hf := ob_ hf
              obtain ⟨r60, er60, hf⟩ := hf
              refine clL_31 (as := [.int x55, .int x56, .int x57, .int x58]) (st := []) rfl (kX8_game l er60) rfl (by decide) (Nat.le_of_ble_eq_true rfl) eo59 dL_law_345 rfl (?_ : hp_G _ _ _ _ _ _ _ _ _ 348 _ _ _)
              refine hp_aload_n 2 dL_law_348 rfl rfl (?_ : hp_G _ _ _ _ _ _ _ _ _ 349 _ _ _)
              refine hp_aload_nS 0 dL_law_349 rfl rfl (?_ : hp_G _ _ _ _ _ _ _ _ _ 350 _ _ _)
              refine hp_iload_n 3 dL_law_350 rfl rfl (?_ : hp_G _ _ _ _ _ _ _ _ _ 351 _ _ _)
              refine hp_iconst (v := 1) dL_law_351 ic_1 (?_ : hp_G _ _ _ _ _ _ _ _ _ 352 _ _ _)
              refine hp_iadd dL_law_352 (?_ : hp_G _ _ _ _ _ _ _ _ _ 353 _ _ _)
              replace hf := ob_ hf
              obtain ⟨x61, ex61, hf⟩ := hf
              refine hp_sl dL_law_353 ex61 (?_ : hp_G _ _ _ _ _ _ _ _ _ 354 _ _ _)
              refine hp_aload_nS 0 dL_law_354 rfl rfl (?_ : hp_G _ _ _ _ _ _ _ _ _ 355 _ _ _)
              refine hp_iload_n 3 dL_law_355 rfl rfl (?_ : hp_G _ _ _ _ _ _ _ _ _ 356 _ _ _)
              refine hp_iconst (v := 2) dL_law_356 ic_2 (?_ : hp_G _ _ _ _ _ _ _ _ _ 357 _ _ _)
              refine hp_iadd dL_law_357 (?_ : hp_G _ _ _ _ _ _ _ _ _ 358 _ _ _)
              replace hf := ob_ hf
              obtain ⟨x62, ex62, hf⟩ := hf
              refine hp_sl dL_law_358 ex62 (?_ : hp_G _ _ _ _ _ _ _ _ _ 359 _ _ _)
              refine hp_aload_nS 0 dL_law_359 rfl rfl (?_ : hp_G _ _ _ _ _ _ _ _ _ 360 _ _ _)
              refine hp_iload_n 3 dL_law_360 rfl rfl (?_ : hp_G _ _ _ _ _ _ _ _ _ 361 _ _ _)
              refine hp_iconst (v := 3) dL_law_361 ic_3 (?_ : hp_G _ _ _ _ _ _ _ _ _ 362 _ _ _)
              refine hp_iadd dL_law_362 (?_ : hp_G _ _ _ _ _ _ _ _ _ 363 _ _ _)
              replace hf := ob_ hf
              obtain ⟨x63, ex63, hf⟩ := hf
              refine hp_sl dL_law_363 ex63 (?_ : hp_G _ _ _ _ _ _ _ _ _ 364 _ _ _)
              refine hp_aload_nS 0 dL_law_364 rfl rfl (?_ : hp_G _ _ _ _ _ _ _ _ _ 365 _ _ _)
              refine hp_iload_n 3 dL_law_365 rfl rfl (?_ : hp_G _ _ _ _ _ _ _ _ _ 366 _ _ _)
              refine hp_iconst (v := 4) dL_law_366 ic_4 (?_ : hp_G _ _ _ _ _ _ _ _ _ 367 _ _ _)
              refine hp_iadd dL_law_367 (?_ : hp_G _ _ _ _ _ _ _ _ _ 368 _ _ _)
              replace hf := ob_ hf
              obtain ⟨x64, ex64, hf⟩ := hf
              refine hp_sl dL_law_368 ex64 (?_ : hp_G _ _ _ _ _ _ _ _ _ 369 _ _ _)
              replace hf := ob_ hf
              obtain ⟨o65, eo65, hf⟩ := hf
              replace hf := ob_ hf
              obtain ⟨r66, er66, hf⟩ := hf
              refine clL_34 (as := [.int x61, .int x62, .int x63, .int x64]) (st := [.int r60.1]) rfl (kX9_game l er66) rfl (by decide) (Nat.le_of_ble_eq_true rfl) eo65 dL_law_369 rfl (?_ : hp_G _ _ _ _ _ _ _ _ _ 372 _ _ _)
              refine hp_icmp_eq (tgt := 1257) dL_law_372 rfl (fun c67 => ?_) (fun c67 => (?_ : hp_G _ _ _ _ _ _ _ _ _ 375 _ _ _))
              · replace hf := ot_ c67 hf
                exact hp_sub [0, 1, 2, 3] rfl (tjL_law_1257_18 l hf kb ke kr)
              · replace hf := of_ c67 hf
                refine hp_iconst (v := 0) dL_law_375 ic_0 (?_ : hp_G _ _ _ _ _ _ _ _ _ 376 _ _ _)
                obtain rfl := Option.some.inj hf
                exact hp_zret (kr _ rfl) (fun z => z) rfl (by decide) dL_law_376
            · replace hf := of_ c54 hf
              by_cases c68 : x8 &&& 31 = 5
              · replace hf := ot_ c68 hf
                refine hp_tableIn (tgt := 377) dL_law_33 (by rw [c68]; decide) (by rw [c68]; decide) (by rw [c68]; rfl) (by decide) ?_
                refine hp_aload_n 1 dL_law_377 rfl rfl (?_ : hp_G _ _ _ _ _ _ _ _ _ 378 _ _ _)
                refine hp_aload_nS 0 dL_law_378 rfl rfl (?_ : hp_G _ _ _ _ _ _ _ _ _ 379 _ _ _)
                refine hp_iload_n 3 dL_law_379 rfl rfl (?_ : hp_G _ _ _ _ _ _ _ _ _ 380 _ _ _)
                refine hp_iconst (v := 1) dL_law_380 ic_1 (?_ : hp_G _ _ _ _ _ _ _ _ _ 381 _ _ _)
                refine hp_iadd dL_law_381 (?_ : hp_G _ _ _ _ _ _ _ _ _ 382 _ _ _)
                replace hf := ob_ hf
                obtain ⟨x69, ex69, hf⟩ := hf
                refine hp_sl dL_law_382 ex69 (?_ : hp_G _ _ _ _ _ _ _ _ _ 383 _ _ _)
                refine hp_aload_nS 0 dL_law_383 rfl rfl (?_ : hp_G _ _ _ _ _ _ _ _ _ 384 _ _ _)
                refine hp_iload_n 3 dL_law_384 rfl rfl (?_ : hp_G _ _ _ _ _ _ _ _ _ 385 _ _ _)
                refine hp_iconst (v := 2) dL_law_385 ic_2 (?_ : hp_G _ _ _ _ _ _ _ _ _ 386 _ _ _)
                refine hp_iadd dL_law_386 (?_ : hp_G _ _ _ _ _ _ _ _ _ 387 _ _ _)
                replace hf := ob_ hf
                obtain ⟨x70, ex70, hf⟩ := hf
                refine hp_sl dL_law_387 ex70 (?_ : hp_G _ _ _ _ _ _ _ _ _ 388 _ _ _)
                replace hf := ob_ hf
                obtain ⟨o71, eo71, hf⟩ := hf
                replace hf := ob_ hf
                obtain ⟨r72, er72, hf⟩ := hf
                refine clL_35 (as := [.int x69, .int x70]) (st := []) rfl (kX8_shy l er72) rfl (by decide) (Nat.le_of_ble_eq_true rfl) eo71 dL_law_388 rfl (?_ : hp_G _ _ _ _ _ _ _ _ _ 391 _ _ _)
                refine hp_aload_n 2 dL_law_391 rfl rfl (?_ : hp_G _ _ _ _ _ _ _ _ _ 392 _ _ _)
                refine hp_aload_nS 0 dL_law_392 rfl rfl (?_ : hp_G _ _ _ _ _ _ _ _ _ 393 _ _ _)
                refine hp_iload_n 3 dL_law_393 rfl rfl (?_ : hp_G _ _ _ _ _ _ _ _ _ 394 _ _ _)
                refine hp_iconst (v := 1) dL_law_394 ic_1 (?_ : hp_G _ _ _ _ _ _ _ _ _ 395 _ _ _)
                refine hp_iadd dL_law_395 (?_ : hp_G _ _ _ _ _ _ _ _ _ 396 _ _ _)
                replace hf := ob_ hf
                obtain ⟨x73, ex73, hf⟩ := hf
                refine hp_sl dL_law_396 ex73 (?_ : hp_G _ _ _ _ _ _ _ _ _ 397 _ _ _)
                refine hp_aload_nS 0 dL_law_397 rfl rfl (?_ : hp_G _ _ _ _ _ _ _ _ _ 398 _ _ _)
                refine hp_iload_n 3 dL_law_398 rfl rfl (?_ : hp_G _ _ _ _ _ _ _ _ _ 399 _ _ _)
                refine hp_iconst (v := 2) dL_law_399 ic_2 (?_ : hp_G _ _ _ _ _ _ _ _ _ 400 _ _ _)
                refine hp_iadd dL_law_400 (?_ : hp_G _ _ _ _ _ _ _ _ _ 401 _ _ _)
                replace hf := ob_ hf
                obtain ⟨x74, ex74, hf⟩ := hf
                refine hp_sl dL_law_401 ex74 (?_ : hp_G _ _ _ _ _ _ _ _ _ 402 _ _ _)
                replace hf := ob_ hf
                obtain ⟨o75, eo75, hf⟩ := hf
                replace hf := ob_ hf
                obtain ⟨r76, er76, hf⟩ := hf
                refine clL_38 (as := [.int x73, .int x74]) (st := [.int r72.1]) rfl (kX9_shy l er76) rfl (by decide) (Nat.le_of_ble_eq_true rfl) eo75 dL_law_402 rfl (?_ : hp_G _ _ _ _ _ _ _ _ _ 405 _ _ _)
                refine hp_icmp_eq (tgt := 1257) dL_law_405 rfl (fun c77 => ?_) (fun c77 => (?_ : hp_G _ _ _ _ _ _ _ _ _ 408 _ _ _))
                · replace hf := ot_ c77 hf
                  exact hp_sub [0, 1, 2, 3] rfl (tjL_law_1257_18 l hf kb ke kr)
                · replace hf := of_ c77 hf
                  refine hp_iconst (v := 0) dL_law_408 ic_0 (?_ : hp_G _ _ _ _ _ _ _ _ _ 409 _ _ _)
                  obtain rfl := Option.some.inj hf
                  exact hp_zret (kr _ rfl) (fun z => z) rfl (by decide) dL_law_409
              · replace hf := of_ c68 hf
                by_cases c78 : x8 &&& 31 = 6
                · replace hf := ot_ c78 hf
                  refine hp_tableIn (tgt := 410) dL_law_33 (by rw [c78]; decide) (by rw [c78]; decide) (by rw [c78]; rfl) (by decide) ?_
                  refine hp_aload_n 1 dL_law_410 rfl rfl (?_ : hp_G _ _ _ _ _ _ _ _ _ 411 _ _ _)
                  refine hp_aload_nS 0 dL_law_411 rfl rfl (?_ : hp_G _ _ _ _ _ _ _ _ _ 412 _ _ _)
                  refine hp_iload_n 3 dL_law_412 rfl rfl (?_ : hp_G _ _ _ _ _ _ _ _ _ 413 _ _ _)
                  refine hp_iconst (v := 1) dL_law_413 ic_1 (?_ : hp_G _ _ _ _ _ _ _ _ _ 414 _ _ _)
                  refine hp_iadd dL_law_414 (?_ : hp_G _ _ _ _ _ _ _ _ _ 415 _ _ _)
                  replace hf := ob_ hf
                  obtain ⟨x79, ex79, hf⟩ := hf
                  refine hp_sl dL_law_415 ex79 (?_ : hp_G _ _ _ _ _ _ _ _ _ 416 _ _ _)
                  replace hf := ob_ hf
                  obtain ⟨o80, eo80, hf⟩ := hf
                  replace hf := ob_ hf
                  obtain ⟨r81, er81, hf⟩ := hf
                  refine clL_39 (as := [.int x79]) (st := []) rfl (kX8_fetch l er81) rfl (by decide) (Nat.le_of_ble_eq_true rfl) eo80 dL_law_416 rfl (?_ : hp_G _ _ _ _ _ _ _ _ _ 419 _ _ _)
                  refine hp_aload_n 2 dL_law_419 rfl rfl (?_ : hp_G _ _ _ _ _ _ _ _ _ 420 _ _ _)
                  refine hp_aload_nS 0 dL_law_420 rfl rfl (?_ : hp_G _ _ _ _ _ _ _ _ _ 421 _ _ _)
                  refine hp_iload_n 3 dL_law_421 rfl rfl (?_ : hp_G _ _ _ _ _ _ _ _ _ 422 _ _ _)
                  refine hp_iconst (v := 1) dL_law_422 ic_1 (?_ : hp_G _ _ _ _ _ _ _ _ _ 423 _ _ _)
                  refine hp_iadd dL_law_423 (?_ : hp_G _ _ _ _ _ _ _ _ _ 424 _ _ _)
                  replace hf := ob_ hf
                  obtain ⟨x82, ex82, hf⟩ := hf
                  refine hp_sl dL_law_424 ex82 (?_ : hp_G _ _ _ _ _ _ _ _ _ 425 _ _ _)
                  replace hf := ob_ hf
                  obtain ⟨o83, eo83, hf⟩ := hf
                  replace hf := ob_ hf
                  obtain ⟨r84, er84, hf⟩ := hf
                  refine clL_43 (as := [.int x82]) (st := [.int r81.1]) rfl (kX9_fetch l er84) rfl (by decide) (Nat.le_of_ble_eq_true rfl) eo83 dL_law_425 rfl (?_ : hp_G _ _ _ _ _ _ _ _ _ 428 _ _ _)
                  refine hp_icmp_eq (tgt := 1257) dL_law_428 rfl (fun c85 => ?_) (fun c85 => (?_ : hp_G _ _ _ _ _ _ _ _ _ 431 _ _ _))
                  · replace hf := ot_ c85 hf
                    exact hp_sub [0, 1, 2, 3] rfl (tjL_law_1257_18 l hf kb ke kr)
                  · replace hf := of_ c85 hf
                    refine hp_iconst (v := 0) dL_law_431 ic_0 (?_ : hp_G _ _ _ _ _ _ _ _ _ 432 _ _ _)
                    obtain rfl := Option.some.inj hf
                    exact hp_zret (kr _ rfl) (fun z => z) rfl (by decide) dL_law_432
                · replace hf := of_ c78 hf
                  by_cases c86 : x8 &&& 31 = 7
                  · replace hf := ot_ c86 hf
                    refine hp_tableIn (tgt := 433) dL_law_33 (by rw [c86]; decide) (by rw [c86]; decide) (by rw [c86]; rfl) (by decide) ?_
                    refine hp_aload_n 1 dL_law_433 rfl rfl (?_ : hp_G _ _ _ _ _ _ _ _ _ 434 _ _ _)
                    refine hp_aload_nS 0 dL_law_434 rfl rfl (?_ : hp_G _ _ _ _ _ _ _ _ _ 435 _ _ _)
                    refine hp_iload_n 3 dL_law_435 rfl rfl (?_ : hp_G _ _ _ _ _ _ _ _ _ 436 _ _ _)
                    refine hp_iconst (v := 1) dL_law_436 ic_1 (?_ : hp_G _ _ _ _ _ _ _ _ _ 437 _ _ _)
                    refine hp_iadd dL_law_437 (?_ : hp_G _ _ _ _ _ _ _ _ _ 438 _ _ _)
                    replace hf := ob_ hf
                    obtain ⟨x87, ex87, hf⟩ := hf
                    refine hp_sl dL_law_438 ex87 (?_ : hp_G _ _ _ _ _ _ _ _ _ 439 _ _ _)
                    refine hp_aload_nS 0 dL_law_439 rfl rfl (?_ : hp_G _ _ _ _ _ _ _ _ _ 440 _ _ _)
                    refine hp_iload_n 3 dL_law_440 rfl rfl (?_ : hp_G _ _ _ _ _ _ _ _ _ 441 _ _ _)
                    refine hp_iconst (v := 2) dL_law_441 ic_2 (?_ : hp_G _ _ _ _ _ _ _ _ _ 442 _ _ _)
                    refine hp_iadd dL_law_442 (?_ : hp_G _ _ _ _ _ _ _ _ _ 443 _ _ _)
                    replace hf := ob_ hf
                    obtain ⟨x88, ex88, hf⟩ := hf
                    refine hp_sl dL_law_443 ex88 (?_ : hp_G _ _ _ _ _ _ _ _ _ 444 _ _ _)
                    refine hp_aload_nS 0 dL_law_444 rfl rfl (?_ : hp_G _ _ _ _ _ _ _ _ _ 445 _ _ _)
                    refine hp_iload_n 3 dL_law_445 rfl rfl (?_ : hp_G _ _ _ _ _ _ _ _ _ 446 _ _ _)
                    refine hp_iconst (v := 3) dL_law_446 ic_3 (?_ : hp_G _ _ _ _ _ _ _ _ _ 447 _ _ _)
                    refine hp_iadd dL_law_447 (?_ : hp_G _ _ _ _ _ _ _ _ _ 448 _ _ _)
                    replace hf := ob_ hf
                    obtain ⟨x89, ex89, hf⟩ := hf
                    refine hp_sl dL_law_448 ex89 (?_ : hp_G _ _ _ _ _ _ _ _ _ 449 _ _ _)
                    refine hp_aload_nS 0 dL_law_449 rfl rfl (?_ : hp_G _ _ _ _ _ _ _ _ _ 450 _ _ _)
                    refine hp_iload_n 3 dL_law_450 rfl rfl (?_ : hp_G _ _ _ _ _ _ _ _ _ 451 _ _ _)
                    refine hp_iconst (v := 4) dL_law_451 ic_4 (?_ : hp_G _ _ _ _ _ _ _ _ _ 452 _ _ _)
                    refine hp_iadd dL_law_452 (?_ : hp_G _ _ _ _ _ _ _ _ _ 453 _ _ _)
                    replace hf := ob_ hf
                    obtain ⟨x90, ex90, hf⟩ := hf
                    refine hp_sl dL_law_453 ex90 (?_ : hp_G _ _ _ _ _ _ _ _ _ 454 _ _ _)
                    refine hp_aload_nS 0 dL_law_454 rfl rfl (?_ : hp_G _ _ _ _ _ _ _ _ _ 455 _ _ _)
                    refine hp_iload_n 3 dL_law_455 rfl rfl (?_ : hp_G _ _ _ _ _ _ _ _ _ 456 _ _ _)
                    refine hp_iconst (v := 5) dL_law_456 ic_5 (?_ : hp_G _ _ _ _ _ _ _ _ _ 457 _ _ _)
                    refine hp_iadd dL_law_457 (?_ : hp_G _ _ _ _ _ _ _ _ _ 458 _ _ _)
                    replace hf := ob_ hf
                    obtain ⟨x91, ex91, hf⟩ := hf
                    refine hp_sl dL_law_458 ex91 (?_ : hp_G _ _ _ _ _ _ _ _ _ 459 _ _ _)
                    replace hf := ob_ hf
                    obtain ⟨o92, eo92, hf⟩ := hf
                    replace hf := ob_ hf
                    obtain ⟨r93, er93, hf⟩ := hf
                    refine clL_44 (as := [.int x87, .int x88, .int x89, .int x90, .int x91]) (st := []) rfl (kX8_season l er93) rfl (by decide) (Nat.le_of_ble_eq_true rfl) eo92 dL_law_459 rfl (?_ : hp_G _ _ _ _ _ _ _ _ _ 462 _ _ _)
                    refine hp_aload_n 2 dL_law_462 rfl rfl (?_ : hp_G _ _ _ _ _ _ _ _ _ 463 _ _ _)
                    refine hp_aload_nS 0 dL_law_463 rfl rfl (?_ : hp_G _ _ _ _ _ _ _ _ _ 464 _ _ _)
                    refine hp_iload_n 3 dL_law_464 rfl rfl (?_ : hp_G _ _ _ _ _ _ _ _ _ 465 _ _ _)
                    refine hp_iconst (v := 1) dL_law_465 ic_1 (?_ : hp_G _ _ _ _ _ _ _ _ _ 466 _ _ _)
                    refine hp_iadd dL_law_466 (?_ : hp_G _ _ _ _ _ _ _ _ _ 467 _ _ _)
                    replace hf := ob_ hf
                    obtain ⟨x94, ex94, hf⟩ := hf
                    refine hp_sl dL_law_467 ex94 (?_ : hp_G _ _ _ _ _ _ _ _ _ 468 _ _ _)
                    refine hp_aload_nS 0 dL_law_468 rfl rfl (?_ : hp_G _ _ _ _ _ _ _ _ _ 469 _ _ _)
                    refine hp_iload_n 3 dL_law_469 rfl rfl (?_ : hp_G _ _ _ _ _ _ _ _ _ 470 _ _ _)
                    refine hp_iconst (v := 2) dL_law_470 ic_2 (?_ : hp_G _ _ _ _ _ _ _ _ _ 471 _ _ _)
                    refine hp_iadd dL_law_471 (?_ : hp_G _ _ _ _ _ _ _ _ _ 472 _ _ _)
                    replace hf := ob_ hf
                    obtain ⟨x95, ex95, hf⟩ := hf
                    refine hp_sl dL_law_472 ex95 (?_ : hp_G _ _ _ _ _ _ _ _ _ 473 _ _ _)
                    refine hp_aload_nS 0 dL_law_473 rfl rfl (?_ : hp_G _ _ _ _ _ _ _ _ _ 474 _ _ _)
                    refine hp_iload_n 3 dL_law_474 rfl rfl (?_ : hp_G _ _ _ _ _ _ _ _ _ 475 _ _ _)
                    refine hp_iconst (v := 3) dL_law_475 ic_3 (?_ : hp_G _ _ _ _ _ _ _ _ _ 476 _ _ _)
                    refine hp_iadd dL_law_476 (?_ : hp_G _ _ _ _ _ _ _ _ _ 477 _ _ _)
                    replace hf := ob_ hf
                    obtain ⟨x96, ex96, hf⟩ := hf
                    refine hp_sl dL_law_477 ex96 (?_ : hp_G _ _ _ _ _ _ _ _ _ 478 _ _ _)
                    refine hp_aload_nS 0 dL_law_478 rfl rfl (?_ : hp_G _ _ _ _ _ _ _ _ _ 479 _ _ _)
                    refine hp_iload_n 3 dL_law_479 rfl rfl (?_ : hp_G _ _ _ _ _ _ _ _ _ 480 _ _ _)
                    refine hp_iconst (v := 4) dL_law_480 ic_4 (?_ : hp_G _ _ _ _ _ _ _ _ _ 481 _ _ _)
                    refine hp_iadd dL_law_481 (?_ : hp_G _ _ _ _ _ _ _ _ _ 482 _ _ _)
                    replace hf := ob_ hf
                    obtain ⟨x97, ex97, hf⟩ := hf
                    refine hp_sl dL_law_482 ex97 (?_ : hp_G _ _ _ _ _ _ _ _ _ 483 _ _ _)
                    refine hp_aload_nS 0 dL_law_483 rfl rfl (?_ : hp_G _ _ _ _ _ _ _ _ _ 484 _ _ _)
                    refine hp_iload_n 3 dL_law_484 rfl rfl (?_ : hp_G _ _ _ _ _ _ _ _ _ 485 _ _ _)
                    refine hp_iconst (v := 5) dL_law_485 ic_5 (?_ : hp_G _ _ _ _ _ _ _ _ _ 486 _ _ _)
                    refine hp_iadd dL_law_486 (?_ : hp_G _ _ _ _ _ _ _ _ _ 487 _ _ _)
                    replace hf := ob_ hf
                    obtain ⟨x98, ex98, hf⟩ := hf
                    refine hp_sl dL_law_487 ex98 (?_ : hp_G _ _ _ _ _ _ _ _ _ 488 _ _ _)
                    replace hf := ob_ hf
                    obtain ⟨o99, eo99, hf⟩ := hf
                    replace hf := ob_ hf
                    obtain ⟨r100, er100, hf⟩ := hf
                    refine clL_48 (as := [.int x94, .int x95, .int x96, .int x97, .int x98]) (st := [.int r93.1]) rfl (kX9_season l er100) rfl (by decide) (Nat.le_of_ble_eq_true rfl) eo99 dL_law_488 rfl (?_ : hp_G _ _ _ _ _ _ _ _ _ 491 _ _ _)
                    refine hp_icmp_eq (tgt := 1257) dL_law_491 rfl (fun c101 => ?_) (fun c101 => (?_ : hp_G _ _ _ _ _ _ _ _ _ 494 _ _ _))
                    · replace hf := ot_ c101 hf
                      exact hp_sub [0, 1, 2, 3] rfl (tjL_law_1257_18 l hf kb ke kr)
                    · replace hf := of_ c101 hf
                      refine hp_iconst (v := 0) dL_law_494 ic_0 (?_ : hp_G _ _ _ _ _ _ _ _ _ 495 _ _ _)
                      obtain rfl := Option.some.inj hf
                      exact hp_zret (kr _ rfl) (fun z => z) rfl (by decide) dL_law_495
                  · replace hf := of_ c86 hf
                    by_cases c102 : x8 &&& 31 = 8
                    · replace hf := ot_ c102 hf
                      refine hp_tableIn (tgt := 496) dL_law_33 (by rw [c102]; decide) (by rw [c102]; decide) (by rw [c102]; rfl) (by decide) ?_
                      refine hp_aload_n 1 dL_law_496 rfl rfl (?_ : hp_G _ _ _ _ _ _ _ _ _ 497 _ _ _)
                      refine hp_aload_nS 0 dL_law_497 rfl rfl (?_ : hp_G _ _ _ _ _ _ _ _ _ 498 _ _ _)
                      refine hp_iload_n 3 dL_law_498 rfl rfl (?_ : hp_G _ _ _ _ _ _ _ _ _ 499 _ _ _)
                      refine hp_iconst (v := 1) dL_law_499 ic_1 (?_ : hp_G _ _ _ _ _ _ _ _ _ 500 _ _ _)
                      refine hp_iadd dL_law_500 (?_ : hp_G _ _ _ _ _ _ _ _ _ 501 _ _ _)
                      replace hf := ob_ hf
                      obtain ⟨x103, ex103, hf⟩ := hf
                      refine hp_sl dL_law_501 ex103 (?_ : hp_G _ _ _ _ _ _ _ _ _ 502 _ _ _)
                      refine hp_aload_nS 0 dL_law_502 rfl rfl (?_ : hp_G _ _ _ _ _ _ _ _ _ 503 _ _ _)
                      refine hp_iload_n 3 dL_law_503 rfl rfl (?_ : hp_G _ _ _ _ _ _ _ _ _ 504 _ _ _)
                      refine hp_iconst (v := 2) dL_law_504 ic_2 (?_ : hp_G _ _ _ _ _ _ _ _ _ 505 _ _ _)
                      refine hp_iadd dL_law_505 (?_ : hp_G _ _ _ _ _ _ _ _ _ 506 _ _ _)
                      replace hf := ob_ hf
                      obtain ⟨x104, ex104, hf⟩ := hf
                      refine hp_sl dL_law_506 ex104 (?_ : hp_G _ _ _ _ _ _ _ _ _ 507 _ _ _)
                      replace hf := ob_ hf
                      obtain ⟨o105, eo105, hf⟩ := hf
                      replace hf := ob_ hf
                      obtain ⟨r106, er106, hf⟩ := hf
                      refine clL_49 (as := [.int x103, .int x104]) (st := []) rfl (kX8_safe l er106) rfl (by decide) (Nat.le_of_ble_eq_true rfl) eo105 dL_law_507 rfl (?_ : hp_G _ _ _ _ _ _ _ _ _ 510 _ _ _)
                      refine hp_aload_n 2 dL_law_510 rfl rfl (?_ : hp_G _ _ _ _ _ _ _ _ _ 511 _ _ _)
                      refine hp_aload_nS 0 dL_law_511 rfl rfl (?_ : hp_G _ _ _ _ _ _ _ _ _ 512 _ _ _)
                      refine hp_iload_n 3 dL_law_512 rfl rfl (?_ : hp_G _ _ _ _ _ _ _ _ _ 513 _ _ _)
                      refine hp_iconst (v := 1) dL_law_513 ic_1 (?_ : hp_G _ _ _ _ _ _ _ _ _ 514 _ _ _)
                      refine hp_iadd dL_law_514 (?_ : hp_G _ _ _ _ _ _ _ _ _ 515 _ _ _)
                      replace hf := ob_ hf
                      obtain ⟨x107, ex107, hf⟩ := hf
                      refine hp_sl dL_law_515 ex107 (?_ : hp_G _ _ _ _ _ _ _ _ _ 516 _ _ _)
                      refine hp_aload_nS 0 dL_law_516 rfl rfl (?_ : hp_G _ _ _ _ _ _ _ _ _ 517 _ _ _)
                      refine hp_iload_n 3 dL_law_517 rfl rfl (?_ : hp_G _ _ _ _ _ _ _ _ _ 518 _ _ _)
                      refine hp_iconst (v := 2) dL_law_518 ic_2 (?_ : hp_G _ _ _ _ _ _ _ _ _ 519 _ _ _)
                      refine hp_iadd dL_law_519 (?_ : hp_G _ _ _ _ _ _ _ _ _ 520 _ _ _)
                      replace hf := ob_ hf
                      obtain ⟨x108, ex108, hf⟩ := hf
                      refine hp_sl dL_law_520 ex108 (?_ : hp_G _ _ _ _ _ _ _ _ _ 521 _ _ _)
                      replace hf := ob_ hf
                      obtain ⟨o109, eo109, hf⟩ := hf
                      replace hf := ob_ hf
                      obtain ⟨r110, er110, hf⟩ := hf
                      refine clL_52 (as := [.int x107, .int x108]) (st := [.int r106]) rfl (kX9_safe l er110) rfl (by decide) (Nat.le_of_ble_eq_true rfl) eo109 dL_law_521 rfl (?_ : hp_G _ _ _ _ _ _ _ _ _ 524 _ _ _)
                      refine hp_icmp_eq (tgt := 1257) dL_law_524 rfl (fun c111 => ?_) (fun c111 => (?_ : hp_G _ _ _ _ _ _ _ _ _ 527 _ _ _))
                      · replace hf := ot_ c111 hf
                        exact hp_sub [0, 1, 2, 3] rfl (tjL_law_1257_18 l hf kb ke kr)
                      · replace hf := of_ c111 hf
                        refine hp_iconst (v := 0) dL_law_527 ic_0 (?_ : hp_G _ _ _ _ _ _ _ _ _ 528 _ _ _)
                        obtain rfl := Option.some.inj hf
                        exact hp_zret (kr _ rfl) (fun z => z) rfl (by decide) dL_law_528
                    · replace hf := of_ c102 hf
                      by_cases c112 : x8 &&& 31 = 9
                      · replace hf := ot_ c112 hf
                        refine hp_tableIn (tgt := 529) dL_law_33 (by rw [c112]; decide) (by rw [c112]; decide) (by rw [c112]; rfl) (by decide) ?_
                        refine hp_aload_n 1 dL_law_529 rfl rfl (?_ : hp_G _ _ _ _ _ _ _ _ _ 530 _ _ _)
                        refine hp_aload_nS 0 dL_law_530 rfl rfl (?_ : hp_G _ _ _ _ _ _ _ _ _ 531 _ _ _)
                        refine hp_iload_n 3 dL_law_531 rfl rfl (?_ : hp_G _ _ _ _ _ _ _ _ _ 532 _ _ _)
                        refine hp_iconst (v := 1) dL_law_532 ic_1 (?_ : hp_G _ _ _ _ _ _ _ _ _ 533 _ _ _)
                        refine hp_iadd dL_law_533 (?_ : hp_G _ _ _ _ _ _ _ _ _ 534 _ _ _)
                        replace hf := ob_ hf
                        obtain ⟨x113, ex113, hf⟩ := hf
                        refine hp_sl dL_law_534 ex113 (?_ : hp_G _ _ _ _ _ _ _ _ _ 535 _ _ _)
                        replace hf := ob_ hf
                        obtain ⟨o114, eo114, hf⟩ := hf
                        replace hf := ob_ hf
                        obtain ⟨r115, er115, hf⟩ := hf
                        refine clL_53 (as := [.int x113]) (st := []) rfl (kX8_sure l er115) rfl (by decide) (Nat.le_of_ble_eq_true rfl) eo114 dL_law_535 rfl (?_ : hp_G _ _ _ _ _ _ _ _ _ 538 _ _ _)
                        refine hp_aload_n 2 dL_law_538 rfl rfl (?_ : hp_G _ _ _ _ _ _ _ _ _ 539 _ _ _)
                        refine hp_aload_nS 0 dL_law_539 rfl rfl (?_ : hp_G _ _ _ _ _ _ _ _ _ 540 _ _ _)
                        refine hp_iload_n 3 dL_law_540 rfl rfl (?_ : hp_G _ _ _ _ _ _ _ _ _ 541 _ _ _)
                        refine hp_iconst (v := 1) dL_law_541 ic_1 (?_ : hp_G _ _ _ _ _ _ _ _ _ 542 _ _ _)
                        refine hp_iadd dL_law_542 (?_ : hp_G _ _ _ _ _ _ _ _ _ 543 _ _ _)
                        replace hf := ob_ hf
                        obtain ⟨x116, ex116, hf⟩ := hf
                        refine hp_sl dL_law_543 ex116 (?_ : hp_G _ _ _ _ _ _ _ _ _ 544 _ _ _)
                        replace hf := ob_ hf
                        obtain ⟨o117, eo117, hf⟩ := hf
                        replace hf := ob_ hf
                        obtain ⟨r118, er118, hf⟩ := hf
                        refine clL_56 (as := [.int x116]) (st := [.int r115]) rfl (kX9_sure l er118) rfl (by decide) (Nat.le_of_ble_eq_true rfl) eo117 dL_law_544 rfl (?_ : hp_G _ _ _ _ _ _ _ _ _ 547 _ _ _)
                        refine hp_icmp_eq (tgt := 1257) dL_law_547 rfl (fun c119 => ?_) (fun c119 => (?_ : hp_G _ _ _ _ _ _ _ _ _ 550 _ _ _))
                        · replace hf := ot_ c119 hf
                          exact hp_sub [0, 1, 2, 3] rfl (tjL_law_1257_18 l hf kb ke kr)
                        · replace hf := of_ c119 hf
                          refine hp_iconst (v := 0) dL_law_550 ic_0 (?_ : hp_G _ _ _ _ _ _ _ _ _ 551 _ _ _)
                          obtain rfl := Option.some.inj hf
                          exact hp_zret (kr _ rfl) (fun z => z) rfl (by decide) dL_law_551
                      · replace hf := of_ c112 hf
                        by_cases c120 : x8 &&& 31 = 10
                        · replace hf := ot_ c120 hf
                          refine hp_tableIn (tgt := 552) dL_law_33 (by rw [c120]; decide) (by rw [c120]; decide) (by rw [c120]; rfl) (by decide) ?_
                          refine hp_aload_n 1 dL_law_552 rfl rfl (?_ : hp_G _ _ _ _ _ _ _ _ _ 553 _ _ _)
                          refine hp_aload_nS 0 dL_law_553 rfl rfl (?_ : hp_G _ _ _ _ _ _ _ _ _ 554 _ _ _)
                          refine hp_iload_n 3 dL_law_554 rfl rfl (?_ : hp_G _ _ _ _ _ _ _ _ _ 555 _ _ _)
                          refine hp_iconst (v := 1) dL_law_555 ic_1 (?_ : hp_G _ _ _ _ _ _ _ _ _ 556 _ _ _)
                          refine hp_iadd dL_law_556 (?_ : hp_G _ _ _ _ _ _ _ _ _ 557 _ _ _)
                          replace hf := ob_ hf
                          obtain ⟨x121, ex121, hf⟩ := hf
                          refine hp_sl dL_law_557 ex121 (?_ : hp_G _ _ _ _ _ _ _ _ _ 558 _ _ _)
                          refine hp_aload_nS 0 dL_law_558 rfl rfl (?_ : hp_G _ _ _ _ _ _ _ _ _ 559 _ _ _)
                          refine hp_iload_n 3 dL_law_559 rfl rfl (?_ : hp_G _ _ _ _ _ _ _ _ _ 560 _ _ _)
                          refine hp_iconst (v := 2) dL_law_560 ic_2 (?_ : hp_G _ _ _ _ _ _ _ _ _ 561 _ _ _)
                          refine hp_iadd dL_law_561 (?_ : hp_G _ _ _ _ _ _ _ _ _ 562 _ _ _)
                          replace hf := ob_ hf
                          obtain ⟨x122, ex122, hf⟩ := hf
                          refine hp_sl dL_law_562 ex122 (?_ : hp_G _ _ _ _ _ _ _ _ _ 563 _ _ _)
                          replace hf := ob_ hf
                          obtain ⟨o123, eo123, hf⟩ := hf
                          replace hf := ob_ hf
                          obtain ⟨r124, er124, hf⟩ := hf
                          refine clL_57 (as := [.int x121, .int x122]) (st := []) rfl (kX8_common l er124) rfl (by decide) (Nat.le_of_ble_eq_true rfl) eo123 dL_law_563 rfl (?_ : hp_G _ _ _ _ _ _ _ _ _ 566 _ _ _)
                          refine hp_aload_n 2 dL_law_566 rfl rfl (?_ : hp_G _ _ _ _ _ _ _ _ _ 567 _ _ _)
                          refine hp_aload_nS 0 dL_law_567 rfl rfl (?_ : hp_G _ _ _ _ _ _ _ _ _ 568 _ _ _)
                          refine hp_iload_n 3 dL_law_568 rfl rfl (?_ : hp_G _ _ _ _ _ _ _ _ _ 569 _ _ _)
                          refine hp_iconst (v := 1) dL_law_569 ic_1 (?_ : hp_G _ _ _ _ _ _ _ _ _ 570 _ _ _)
                          refine hp_iadd dL_law_570 (?_ : hp_G _ _ _ _ _ _ _ _ _ 571 _ _ _)
                          replace hf := ob_ hf
                          obtain ⟨x125, ex125, hf⟩ := hf
                          refine hp_sl dL_law_571 ex125 (?_ : hp_G _ _ _ _ _ _ _ _ _ 572 _ _ _)
                          refine hp_aload_nS 0 dL_law_572 rfl rfl (?_ : hp_G _ _ _ _ _ _ _ _ _ 573 _ _ _)
                          refine hp_iload_n 3 dL_law_573 rfl rfl (?_ : hp_G _ _ _ _ _ _ _ _ _ 574 _ _ _)
                          refine hp_iconst (v := 2) dL_law_574 ic_2 (?_ : hp_G _ _ _ _ _ _ _ _ _ 575 _ _ _)
                          refine hp_iadd dL_law_575 (?_ : hp_G _ _ _ _ _ _ _ _ _ 576 _ _ _)
                          replace hf := ob_ hf
                          obtain ⟨x126, ex126, hf⟩ := hf
                          refine hp_sl dL_law_576 ex126 (?_ : hp_G _ _ _ _ _ _ _ _ _ 577 _ _ _)
                          replace hf := ob_ hf
                          obtain ⟨o127, eo127, hf⟩ := hf
                          replace hf := ob_ hf
                          obtain ⟨r128, er128, hf⟩ := hf
                          refine clL_60 (as := [.int x125, .int x126]) (st := [.int r124]) rfl (kX9_common l er128) rfl (by decide) (Nat.le_of_ble_eq_true rfl) eo127 dL_law_577 rfl (?_ : hp_G _ _ _ _ _ _ _ _ _ 580 _ _ _)
                          refine hp_icmp_eq (tgt := 1257) dL_law_580 rfl (fun c129 => ?_) (fun c129 => (?_ : hp_G _ _ _ _ _ _ _ _ _ 583 _ _ _))
                          · replace hf := ot_ c129 hf
                            exact hp_sub [0, 1, 2, 3] rfl (tjL_law_1257_18 l hf kb ke kr)
                          · replace hf := of_ c129 hf
                            refine hp_iconst (v := 0) dL_law_583 ic_0 (?_ : hp_G _ _ _ _ _ _ _ _ _ 584 _ _ _)
                            obtain rfl := Option.some.inj hf
                            exact hp_zret (kr _ rfl) (fun z => z) rfl (by decide) dL_law_584
                        · replace hf := of_ c120 hf
                          by_cases c130 : x8 &&& 31 = 11
                          · replace hf := ot_ c130 hf
                            refine hp_tableIn (tgt := 585) dL_law_33 (by rw [c130]; decide) (by rw [c130]; decide) (by rw [c130]; rfl) (by decide) ?_
                            refine hp_aload_n 1 dL_law_585 rfl rfl (?_ : hp_G _ _ _ _ _ _ _ _ _ 586 _ _ _)
                            refine hp_aload_nS 0 dL_law_586 rfl rfl (?_ : hp_G _ _ _ _ _ _ _ _ _ 587 _ _ _)
                            refine hp_iload_n 3 dL_law_587 rfl rfl (?_ : hp_G _ _ _ _ _ _ _ _ _ 588 _ _ _)
                            refine hp_iconst (v := 1) dL_law_588 ic_1 (?_ : hp_G _ _ _ _ _ _ _ _ _ 589 _ _ _)
                            refine hp_iadd dL_law_589 (?_ : hp_G _ _ _ _ _ _ _ _ _ 590 _ _ _)
                            replace hf := ob_ hf
                            obtain ⟨x131, ex131, hf⟩ := hf
                            refine hp_sl dL_law_590 ex131 (?_ : hp_G _ _ _ _ _ _ _ _ _ 591 _ _ _)
                            replace hf := ob_ hf
                            obtain ⟨o132, eo132, hf⟩ := hf
                            replace hf := ob_ hf
                            obtain ⟨r133, er133, hf⟩ := hf
                            refine clL_61 (as := [.int x131]) (st := []) rfl (kX8_pairs l er133) rfl (by decide) (Nat.le_of_ble_eq_true rfl) eo132 dL_law_591 rfl (?_ : hp_G _ _ _ _ _ _ _ _ _ 594 _ _ _)
                            refine hp_aload_n 2 dL_law_594 rfl rfl (?_ : hp_G _ _ _ _ _ _ _ _ _ 595 _ _ _)
                            refine hp_aload_nS 0 dL_law_595 rfl rfl (?_ : hp_G _ _ _ _ _ _ _ _ _ 596 _ _ _)
                            refine hp_iload_n 3 dL_law_596 rfl rfl (?_ : hp_G _ _ _ _ _ _ _ _ _ 597 _ _ _)
                            refine hp_iconst (v := 1) dL_law_597 ic_1 (?_ : hp_G _ _ _ _ _ _ _ _ _ 598 _ _ _)
                            refine hp_iadd dL_law_598 (?_ : hp_G _ _ _ _ _ _ _ _ _ 599 _ _ _)
                            replace hf := ob_ hf
                            obtain ⟨x134, ex134, hf⟩ := hf
                            refine hp_sl dL_law_599 ex134 (?_ : hp_G _ _ _ _ _ _ _ _ _ 600 _ _ _)
                            replace hf := ob_ hf
                            obtain ⟨o135, eo135, hf⟩ := hf
                            replace hf := ob_ hf
                            obtain ⟨r136, er136, hf⟩ := hf
                            refine clL_64 (as := [.int x134]) (st := [.int r133.1]) rfl (kX9_pairs l er136) rfl (by decide) (Nat.le_of_ble_eq_true rfl) eo135 dL_law_600 rfl (?_ : hp_G _ _ _ _ _ _ _ _ _ 603 _ _ _)
                            refine hp_icmp_eq (tgt := 1257) dL_law_603 rfl (fun c137 => ?_) (fun c137 => (?_ : hp_G _ _ _ _ _ _ _ _ _ 606 _ _ _))
                            · replace hf := ot_ c137 hf
                              exact hp_sub [0, 1, 2, 3] rfl (tjL_law_1257_18 l hf kb ke kr)
                            · replace hf := of_ c137 hf
                              refine hp_iconst (v := 0) dL_law_606 ic_0 (?_ : hp_G _ _ _ _ _ _ _ _ _ 607 _ _ _)
                              obtain rfl := Option.some.inj hf
                              exact hp_zret (kr _ rfl) (fun z => z) rfl (by decide) dL_law_607
                          · replace hf := of_ c130 hf
                            by_cases c138 : x8 &&& 31 = 12
                            · replace hf := ot_ c138 hf
                              refine hp_tableIn (tgt := 608) dL_law_33 (by rw [c138]; decide) (by rw [c138]; decide) (by rw [c138]; rfl) (by decide) ?_
                              refine hp_aload_n 1 dL_law_608 rfl rfl (?_ : hp_G _ _ _ _ _ _ _ _ _ 609 _ _ _)
                              refine hp_aload_nS 0 dL_law_609 rfl rfl (?_ : hp_G _ _ _ _ _ _ _ _ _ 610 _ _ _)
                              refine hp_iload_n 3 dL_law_610 rfl rfl (?_ : hp_G _ _ _ _ _ _ _ _ _ 611 _ _ _)
                              refine hp_iconst (v := 1) dL_law_611 ic_1 (?_ : hp_G _ _ _ _ _ _ _ _ _ 612 _ _ _)
                              refine hp_iadd dL_law_612 (?_ : hp_G _ _ _ _ _ _ _ _ _ 613 _ _ _)
                              replace hf := ob_ hf
                              obtain ⟨x139, ex139, hf⟩ := hf
                              refine hp_sl dL_law_613 ex139 (?_ : hp_G _ _ _ _ _ _ _ _ _ 614 _ _ _)
                              refine hp_aload_nS 0 dL_law_614 rfl rfl (?_ : hp_G _ _ _ _ _ _ _ _ _ 615 _ _ _)
                              refine hp_iload_n 3 dL_law_615 rfl rfl (?_ : hp_G _ _ _ _ _ _ _ _ _ 616 _ _ _)
                              refine hp_iconst (v := 2) dL_law_616 ic_2 (?_ : hp_G _ _ _ _ _ _ _ _ _ 617 _ _ _)
                              refine hp_iadd dL_law_617 (?_ : hp_G _ _ _ _ _ _ _ _ _ 618 _ _ _)
                              replace hf := ob_ hf
                              obtain ⟨x140, ex140, hf⟩ := hf
                              refine hp_sl dL_law_618 ex140 (?_ : hp_G _ _ _ _ _ _ _ _ _ 619 _ _ _)
                              refine hp_aload_nS 0 dL_law_619 rfl rfl (?_ : hp_G _ _ _ _ _ _ _ _ _ 620 _ _ _)
                              refine hp_iload_n 3 dL_law_620 rfl rfl (?_ : hp_G _ _ _ _ _ _ _ _ _ 621 _ _ _)
                              refine hp_iconst (v := 3) dL_law_621 ic_3 (?_ : hp_G _ _ _ _ _ _ _ _ _ 622 _ _ _)
                              refine hp_iadd dL_law_622 (?_ : hp_G _ _ _ _ _ _ _ _ _ 623 _ _ _)
                              replace hf := ob_ hf
                              obtain ⟨x141, ex141, hf⟩ := hf
                              refine hp_sl dL_law_623 ex141 (?_ : hp_G _ _ _ _ _ _ _ _ _ 624 _ _ _)
                              refine hp_aload_nS 0 dL_law_624 rfl rfl (?_ : hp_G _ _ _ _ _ _ _ _ _ 625 _ _ _)
                              refine hp_iload_n 3 dL_law_625 rfl rfl (?_ : hp_G _ _ _ _ _ _ _ _ _ 626 _ _ _)
                              refine hp_iconst (v := 4) dL_law_626 ic_4 (?_ : hp_G _ _ _ _ _ _ _ _ _ 627 _ _ _)
                              refine hp_iadd dL_law_627 (?_ : hp_G _ _ _ _ _ _ _ _ _ 628 _ _ _)
                              replace hf := ob_ hf
                              obtain ⟨x142, ex142, hf⟩ := hf
                              refine hp_sl dL_law_628 ex142 (?_ : hp_G _ _ _ _ _ _ _ _ _ 629 _ _ _)
                              refine hp_aload_nS 0 dL_law_629 rfl rfl (?_ : hp_G _ _ _ _ _ _ _ _ _ 630 _ _ _)
                              refine hp_iload_n 3 dL_law_630 rfl rfl (?_ : hp_G _ _ _ _ _ _ _ _ _ 631 _ _ _)
                              refine hp_iconst (v := 5) dL_law_631 ic_5 (?_ : hp_G _ _ _ _ _ _ _ _ _ 632 _ _ _)
                              refine hp_iadd dL_law_632 (?_ : hp_G _ _ _ _ _ _ _ _ _ 633 _ _ _)
                              replace hf := ob_ hf
                              obtain ⟨x143, ex143, hf⟩ := hf
                              refine hp_sl dL_law_633 ex143 (?_ : hp_G _ _ _ _ _ _ _ _ _ 634 _ _ _)
                              replace hf := ob_ hf
                              obtain ⟨o144, eo144, hf⟩ := hf
                              replace hf := ob_ hf
                              obtain ⟨r145, er145, hf⟩ := hf
                              refine clL_65 (as := [.int x139, .int x140, .int x141, .int x142, .int x143]) (st := []) rfl (kX8_orders l er145) rfl (by decide) (Nat.le_of_ble_eq_true rfl) eo144 dL_law_634 rfl (?_ : hp_G _ _ _ _ _ _ _ _ _ 637 _ _ _)
                              refine hp_aload_n 2 dL_law_637 rfl rfl (?_ : hp_G _ _ _ _ _ _ _ _ _ 638 _ _ _)
                              refine hp_aload_nS 0 dL_law_638 rfl rfl (?_ : hp_G _ _ _ _ _ _ _ _ _ 639 _ _ _)
                              refine hp_iload_n 3 dL_law_639 rfl rfl (?_ : hp_G _ _ _ _ _ _ _ _ _ 640 _ _ _)
                              refine hp_iconst (v := 1) dL_law_640 ic_1 (?_ : hp_G _ _ _ _ _ _ _ _ _ 641 _ _ _)
                              refine hp_iadd dL_law_641 (?_ : hp_G _ _ _ _ _ _ _ _ _ 642 _ _ _)
                              replace hf := ob_ hf
                              obtain ⟨x146, ex146, hf⟩ := hf
                              refine hp_sl dL_law_642 ex146 (?_ : hp_G _ _ _ _ _ _ _ _ _ 643 _ _ _)
                              refine hp_aload_nS 0 dL_law_643 rfl rfl (?_ : hp_G _ _ _ _ _ _ _ _ _ 644 _ _ _)
                              refine hp_iload_n 3 dL_law_644 rfl rfl (?_ : hp_G _ _ _ _ _ _ _ _ _ 645 _ _ _)
                              refine hp_iconst (v := 2) dL_law_645 ic_2 (?_ : hp_G _ _ _ _ _ _ _ _ _ 646 _ _ _)
                              refine hp_iadd dL_law_646 (?_ : hp_G _ _ _ _ _ _ _ _ _ 647 _ _ _)
                              replace hf := ob_ hf
                              obtain ⟨x147, ex147, hf⟩ := hf
                              refine hp_sl dL_law_647 ex147 (?_ : hp_G _ _ _ _ _ _ _ _ _ 648 _ _ _)
                              refine hp_aload_nS 0 dL_law_648 rfl rfl (?_ : hp_G _ _ _ _ _ _ _ _ _ 649 _ _ _)
                              refine hp_iload_n 3 dL_law_649 rfl rfl (?_ : hp_G _ _ _ _ _ _ _ _ _ 650 _ _ _)
                              refine hp_iconst (v := 3) dL_law_650 ic_3 (?_ : hp_G _ _ _ _ _ _ _ _ _ 651 _ _ _)
                              refine hp_iadd dL_law_651 (?_ : hp_G _ _ _ _ _ _ _ _ _ 652 _ _ _)
                              replace hf := ob_ hf
                              obtain ⟨x148, ex148, hf⟩ := hf
                              refine hp_sl dL_law_652 ex148 (?_ : hp_G _ _ _ _ _ _ _ _ _ 653 _ _ _)
                              refine hp_aload_nS 0 dL_law_653 rfl rfl (?_ : hp_G _ _ _ _ _ _ _ _ _ 654 _ _ _)
                              refine hp_iload_n 3 dL_law_654 rfl rfl (?_ : hp_G _ _ _ _ _ _ _ _ _ 655 _ _ _)
                              refine hp_iconst (v := 4) dL_law_655 ic_4 (?_ : hp_G _ _ _ _ _ _ _ _ _ 656 _ _ _)
                              refine hp_iadd dL_law_656 (?_ : hp_G _ _ _ _ _ _ _ _ _ 657 _ _ _)
                              replace hf := ob_ hf
                              obtain ⟨x149, ex149, hf⟩ := hf
                              refine hp_sl dL_law_657 ex149 (?_ : hp_G _ _ _ _ _ _ _ _ _ 658 _ _ _)
                              refine hp_aload_nS 0 dL_law_658 rfl rfl (?_ : hp_G _ _ _ _ _ _ _ _ _ 659 _ _ _)
                              refine hp_iload_n 3 dL_law_659 rfl rfl (?_ : hp_G _ _ _ _ _ _ _ _ _ 660 _ _ _)
                              refine hp_iconst (v := 5) dL_law_660 ic_5 (?_ : hp_G _ _ _ _ _ _ _ _ _ 661 _ _ _)
                              refine hp_iadd dL_law_661 (?_ : hp_G _ _ _ _ _ _ _ _ _ 662 _ _ _)
                              replace hf := ob_ hf
                              obtain ⟨x150, ex150, hf⟩ := hf
                              refine hp_sl dL_law_662 ex150 (?_ : hp_G _ _ _ _ _ _ _ _ _ 663 _ _ _)
                              replace hf := ob_ hf
                              obtain ⟨o151, eo151, hf⟩ := hf
                              replace hf := ob_ hf
                              obtain ⟨r152, er152, hf⟩ := hf
                              refine clL_68 (as := [.int x146, .int x147, .int x148, .int x149, .int x150]) (st := [.int r145.1]) rfl (kX9_orders l er152) rfl (by decide) (Nat.le_of_ble_eq_true rfl) eo151 dL_law_663 rfl (?_ : hp_G _ _ _ _ _ _ _ _ _ 666 _ _ _)
                              refine hp_icmp_eq (tgt := 1257) dL_law_666 rfl (fun c153 => ?_) (fun c153 => (?_ : hp_G _ _ _ _ _ _ _ _ _ 669 _ _ _))
                              · replace hf := ot_ c153 hf
                                exact hp_sub [0, 1, 2, 3] rfl (tjL_law_1257_18 l hf kb ke kr)
                              · replace hf := of_ c153 hf
                                refine hp_iconst (v := 0) dL_law_669 ic_0 (?_ : hp_G _ _ _ _ _ _ _ _ _ 670 _ _ _)
                                obtain rfl := Option.some.inj hf
                                exact hp_zret (kr _ rfl) (fun z => z) rfl (by decide) dL_law_670
                            · replace hf := of_ c138 hf
                              by_cases c154 : x8 &&& 31 = 13
                              · replace hf := ot_ c154 hf
                                refine hp_tableIn (tgt := 671) dL_law_33 (by rw [c154]; decide) (by rw [c154]; decide) (by rw [c154]; rfl) (by decide) ?_
                                refine hp_aload_n 1 dL_law_671 rfl rfl (?_ : hp_G _ _ _ _ _ _ _ _ _ 672 _ _ _)
                                refine hp_aload_nS 0 dL_law_672 rfl rfl (?_ : hp_G _ _ _ _ _ _ _ _ _ 673 _ _ _)
                                refine hp_iload_n 3 dL_law_673 rfl rfl (?_ : hp_G _ _ _ _ _ _ _ _ _ 674 _ _ _)
                                refine hp_iconst (v := 1) dL_law_674 ic_1 (?_ : hp_G _ _ _ _ _ _ _ _ _ 675 _ _ _)
                                refine hp_iadd dL_law_675 (?_ : hp_G _ _ _ _ _ _ _ _ _ 676 _ _ _)
                                replace hf := ob_ hf
                                obtain ⟨x155, ex155, hf⟩ := hf
                                refine hp_sl dL_law_676 ex155 (?_ : hp_G _ _ _ _ _ _ _ _ _ 677 _ _ _)
                                refine hp_aload_nS 0 dL_law_677 rfl rfl (?_ : hp_G _ _ _ _ _ _ _ _ _ 678 _ _ _)
                                refine hp_iload_n 3 dL_law_678 rfl rfl (?_ : hp_G _ _ _ _ _ _ _ _ _ 679 _ _ _)
                                refine hp_iconst (v := 2) dL_law_679 ic_2 (?_ : hp_G _ _ _ _ _ _ _ _ _ 680 _ _ _)
                                refine hp_iadd dL_law_680 (?_ : hp_G _ _ _ _ _ _ _ _ _ 681 _ _ _)
                                replace hf := ob_ hf
                                obtain ⟨x156, ex156, hf⟩ := hf
                                refine hp_sl dL_law_681 ex156 (?_ : hp_G _ _ _ _ _ _ _ _ _ 682 _ _ _)
                                refine hp_aload_nS 0 dL_law_682 rfl rfl (?_ : hp_G _ _ _ _ _ _ _ _ _ 683 _ _ _)
                                refine hp_iload_n 3 dL_law_683 rfl rfl (?_ : hp_G _ _ _ _ _ _ _ _ _ 684 _ _ _)
                                refine hp_iconst (v := 3) dL_law_684 ic_3 (?_ : hp_G _ _ _ _ _ _ _ _ _ 685 _ _ _)
                                refine hp_iadd dL_law_685 (?_ : hp_G _ _ _ _ _ _ _ _ _ 686 _ _ _)
                                replace hf := ob_ hf
                                obtain ⟨x157, ex157, hf⟩ := hf
                                refine hp_sl dL_law_686 ex157 (?_ : hp_G _ _ _ _ _ _ _ _ _ 687 _ _ _)
                                refine hp_aload_nS 0 dL_law_687 rfl rfl (?_ : hp_G _ _ _ _ _ _ _ _ _ 688 _ _ _)
                                refine hp_iload_n 3 dL_law_688 rfl rfl (?_ : hp_G _ _ _ _ _ _ _ _ _ 689 _ _ _)
                                refine hp_iconst (v := 4) dL_law_689 ic_4 (?_ : hp_G _ _ _ _ _ _ _ _ _ 690 _ _ _)
                                refine hp_iadd dL_law_690 (?_ : hp_G _ _ _ _ _ _ _ _ _ 691 _ _ _)
                                replace hf := ob_ hf
                                obtain ⟨x158, ex158, hf⟩ := hf
                                refine hp_sl dL_law_691 ex158 (?_ : hp_G _ _ _ _ _ _ _ _ _ 692 _ _ _)
                                replace hf := ob_ hf
                                obtain ⟨o159, eo159, hf⟩ := hf
                                replace hf := ob_ hf
                                obtain ⟨r160, er160, hf⟩ := hf
                                refine clL_69 (as := [.int x155, .int x156, .int x157, .int x158]) (st := []) rfl (kX8_drops l er160) rfl (by decide) (Nat.le_of_ble_eq_true rfl) eo159 dL_law_692 rfl (?_ : hp_G _ _ _ _ _ _ _ _ _ 695 _ _ _)
                                refine hp_aload_n 2 dL_law_695 rfl rfl (?_ : hp_G _ _ _ _ _ _ _ _ _ 696 _ _ _)
                                refine hp_aload_nS 0 dL_law_696 rfl rfl (?_ : hp_G _ _ _ _ _ _ _ _ _ 697 _ _ _)
                                refine hp_iload_n 3 dL_law_697 rfl rfl (?_ : hp_G _ _ _ _ _ _ _ _ _ 698 _ _ _)
                                refine hp_iconst (v := 1) dL_law_698 ic_1 (?_ : hp_G _ _ _ _ _ _ _ _ _ 699 _ _ _)
                                refine hp_iadd dL_law_699 (?_ : hp_G _ _ _ _ _ _ _ _ _ 700 _ _ _)
                                replace hf := ob_ hf
                                obtain ⟨x161, ex161, hf⟩ := hf
                                refine hp_sl dL_law_700 ex161 (?_ : hp_G _ _ _ _ _ _ _ _ _ 701 _ _ _)
                                refine hp_aload_nS 0 dL_law_701 rfl rfl (?_ : hp_G _ _ _ _ _ _ _ _ _ 702 _ _ _)
                                refine hp_iload_n 3 dL_law_702 rfl rfl (?_ : hp_G _ _ _ _ _ _ _ _ _ 703 _ _ _)
                                refine hp_iconst (v := 2) dL_law_703 ic_2 (?_ : hp_G _ _ _ _ _ _ _ _ _ 704 _ _ _)
                                refine hp_iadd dL_law_704 (?_ : hp_G _ _ _ _ _ _ _ _ _ 705 _ _ _)
                                replace hf := ob_ hf
                                obtain ⟨x162, ex162, hf⟩ := hf
                                refine hp_sl dL_law_705 ex162 (?_ : hp_G _ _ _ _ _ _ _ _ _ 706 _ _ _)
                                refine hp_aload_nS 0 dL_law_706 rfl rfl (?_ : hp_G _ _ _ _ _ _ _ _ _ 707 _ _ _)
                                refine hp_iload_n 3 dL_law_707 rfl rfl (?_ : hp_G _ _ _ _ _ _ _ _ _ 708 _ _ _)
                                refine hp_iconst (v := 3) dL_law_708 ic_3 (?_ : hp_G _ _ _ _ _ _ _ _ _ 709 _ _ _)
                                refine hp_iadd dL_law_709 (?_ : hp_G _ _ _ _ _ _ _ _ _ 710 _ _ _)
                                replace hf := ob_ hf
                                obtain ⟨x163, ex163, hf⟩ := hf
                                refine hp_sl dL_law_710 ex163 (?_ : hp_G _ _ _ _ _ _ _ _ _ 711 _ _ _)
                                refine hp_aload_nS 0 dL_law_711 rfl rfl (?_ : hp_G _ _ _ _ _ _ _ _ _ 712 _ _ _)
                                refine hp_iload_n 3 dL_law_712 rfl rfl (?_ : hp_G _ _ _ _ _ _ _ _ _ 713 _ _ _)
                                refine hp_iconst (v := 4) dL_law_713 ic_4 (?_ : hp_G _ _ _ _ _ _ _ _ _ 714 _ _ _)
                                refine hp_iadd dL_law_714 (?_ : hp_G _ _ _ _ _ _ _ _ _ 715 _ _ _)
                                replace hf := ob_ hf
                                obtain ⟨x164, ex164, hf⟩ := hf
                                refine hp_sl dL_law_715 ex164 (?_ : hp_G _ _ _ _ _ _ _ _ _ 716 _ _ _)
                                replace hf := ob_ hf
                                obtain ⟨o165, eo165, hf⟩ := hf
                                replace hf := ob_ hf
                                obtain ⟨r166, er166, hf⟩ := hf
                                refine clL_72 (as := [.int x161, .int x162, .int x163, .int x164]) (st := [.int r160.1]) rfl (kX9_drops l er166) rfl (by decide) (Nat.le_of_ble_eq_true rfl) eo165 dL_law_716 rfl (?_ : hp_G _ _ _ _ _ _ _ _ _ 719 _ _ _)
                                refine hp_icmp_eq (tgt := 1257) dL_law_719 rfl (fun c167 => ?_) (fun c167 => (?_ : hp_G _ _ _ _ _ _ _ _ _ 722 _ _ _))
                                · replace hf := ot_ c167 hf
                                  exact hp_sub [0, 1, 2, 3] rfl (tjL_law_1257_18 l hf kb ke kr)
                                · replace hf := of_ c167 hf
                                  refine hp_iconst (v := 0) dL_law_722 ic_0 (?_ : hp_G _ _ _ _ _ _ _ _ _ 723 _ _ _)
                                  obtain rfl := Option.some.inj hf
                                  exact hp_zret (kr _ rfl) (fun z => z) rfl (by decide) dL_law_723
                              · replace hf := of_ c154 hf
                                by_cases c168 : x8 &&& 31 = 14
                                · replace hf := ot_ c168 hf
                                  refine hp_tableIn (tgt := 724) dL_law_33 (by rw [c168]; decide) (by rw [c168]; decide) (by rw [c168]; rfl) (by decide) ?_
                                  refine hp_aload_n 1 dL_law_724 rfl rfl (?_ : hp_G _ _ _ _ _ _ _ _ _ 725 _ _ _)
                                  refine hp_aload_nS 0 dL_law_725 rfl rfl (?_ : hp_G _ _ _ _ _ _ _ _ _ 726 _ _ _)
                                  refine hp_iload_n 3 dL_law_726 rfl rfl (?_ : hp_G _ _ _ _ _ _ _ _ _ 727 _ _ _)
                                  refine hp_iconst (v := 1) dL_law_727 ic_1 (?_ : hp_G _ _ _ _ _ _ _ _ _ 728 _ _ _)
                                  refine hp_iadd dL_law_728 (?_ : hp_G _ _ _ _ _ _ _ _ _ 729 _ _ _)
                                  replace hf := ob_ hf
                                  obtain ⟨x169, ex169, hf⟩ := hf
                                  refine hp_sl dL_law_729 ex169 (?_ : hp_G _ _ _ _ _ _ _ _ _ 730 _ _ _)
                                  refine hp_aload_nS 0 dL_law_730 rfl rfl (?_ : hp_G _ _ _ _ _ _ _ _ _ 731 _ _ _)
                                  refine hp_iload_n 3 dL_law_731 rfl rfl (?_ : hp_G _ _ _ _ _ _ _ _ _ 732 _ _ _)
                                  refine hp_iconst (v := 2) dL_law_732 ic_2 (?_ : hp_G _ _ _ _ _ _ _ _ _ 733 _ _ _)
                                  refine hp_iadd dL_law_733 (?_ : hp_G _ _ _ _ _ _ _ _ _ 734 _ _ _)
                                  replace hf := ob_ hf
                                  obtain ⟨x170, ex170, hf⟩ := hf
                                  refine hp_sl dL_law_734 ex170 (?_ : hp_G _ _ _ _ _ _ _ _ _ 735 _ _ _)
                                  refine hp_aload_nS 0 dL_law_735 rfl rfl (?_ : hp_G _ _ _ _ _ _ _ _ _ 736 _ _ _)
                                  refine hp_iload_n 3 dL_law_736 rfl rfl (?_ : hp_G _ _ _ _ _ _ _ _ _ 737 _ _ _)
                                  refine hp_iconst (v := 3) dL_law_737 ic_3 (?_ : hp_G _ _ _ _ _ _ _ _ _ 738 _ _ _)
                                  refine hp_iadd dL_law_738 (?_ : hp_G _ _ _ _ _ _ _ _ _ 739 _ _ _)
                                  replace hf := ob_ hf
                                  obtain ⟨x171, ex171, hf⟩ := hf
                                  refine hp_sl dL_law_739 ex171 (?_ : hp_G _ _ _ _ _ _ _ _ _ 740 _ _ _)
                                  refine hp_aload_nS 0 dL_law_740 rfl rfl (?_ : hp_G _ _ _ _ _ _ _ _ _ 741 _ _ _)
                                  refine hp_iload_n 3 dL_law_741 rfl rfl (?_ : hp_G _ _ _ _ _ _ _ _ _ 742 _ _ _)
                                  refine hp_iconst (v := 4) dL_law_742 ic_4 (?_ : hp_G _ _ _ _ _ _ _ _ _ 743 _ _ _)
                                  refine hp_iadd dL_law_743 (?_ : hp_G _ _ _ _ _ _ _ _ _ 744 _ _ _)
                                  replace hf := ob_ hf
                                  obtain ⟨x172, ex172, hf⟩ := hf
                                  refine hp_sl dL_law_744 ex172 (?_ : hp_G _ _ _ _ _ _ _ _ _ 745 _ _ _)
                                  replace hf := ob_ hf
                                  obtain ⟨o173, eo173, hf⟩ := hf
                                  replace hf := ob_ hf
                                  obtain ⟨r174, er174, hf⟩ := hf
                                  refine clL_73 (as := [.int x169, .int x170, .int x171, .int x172]) (st := []) rfl (kX8_reading l er174) rfl (by decide) (Nat.le_of_ble_eq_true rfl) eo173 dL_law_745 rfl (?_ : hp_G _ _ _ _ _ _ _ _ _ 748 _ _ _)
                                  refine hp_aload_n 2 dL_law_748 rfl rfl (?_ : hp_G _ _ _ _ _ _ _ _ _ 749 _ _ _)
                                  refine hp_aload_nS 0 dL_law_749 rfl rfl (?_ : hp_G _ _ _ _ _ _ _ _ _ 750 _ _ _)
                                  refine hp_iload_n 3 dL_law_750 rfl rfl (?_ : hp_G _ _ _ _ _ _ _ _ _ 751 _ _ _)
                                  refine hp_iconst (v := 1) dL_law_751 ic_1 (?_ : hp_G _ _ _ _ _ _ _ _ _ 752 _ _ _)
                                  refine hp_iadd dL_law_752 (?_ : hp_G _ _ _ _ _ _ _ _ _ 753 _ _ _)
                                  replace hf := ob_ hf
                                  obtain ⟨x175, ex175, hf⟩ := hf
                                  refine hp_sl dL_law_753 ex175 (?_ : hp_G _ _ _ _ _ _ _ _ _ 754 _ _ _)
                                  refine hp_aload_nS 0 dL_law_754 rfl rfl (?_ : hp_G _ _ _ _ _ _ _ _ _ 755 _ _ _)
                                  refine hp_iload_n 3 dL_law_755 rfl rfl (?_ : hp_G _ _ _ _ _ _ _ _ _ 756 _ _ _)
                                  refine hp_iconst (v := 2) dL_law_756 ic_2 (?_ : hp_G _ _ _ _ _ _ _ _ _ 757 _ _ _)
                                  refine hp_iadd dL_law_757 (?_ : hp_G _ _ _ _ _ _ _ _ _ 758 _ _ _)
                                  replace hf := ob_ hf
                                  obtain ⟨x176, ex176, hf⟩ := hf
                                  refine hp_sl dL_law_758 ex176 (?_ : hp_G _ _ _ _ _ _ _ _ _ 759 _ _ _)
                                  refine hp_aload_nS 0 dL_law_759 rfl rfl (?_ : hp_G _ _ _ _ _ _ _ _ _ 760 _ _ _)
                                  refine hp_iload_n 3 dL_law_760 rfl rfl (?_ : hp_G _ _ _ _ _ _ _ _ _ 761 _ _ _)
                                  refine hp_iconst (v := 3) dL_law_761 ic_3 (?_ : hp_G _ _ _ _ _ _ _ _ _ 762 _ _ _)
                                  refine hp_iadd dL_law_762 (?_ : hp_G _ _ _ _ _ _ _ _ _ 763 _ _ _)
                                  replace hf := ob_ hf
                                  obtain ⟨x177, ex177, hf⟩ := hf
                                  refine hp_sl dL_law_763 ex177 (?_ : hp_G _ _ _ _ _ _ _ _ _ 764 _ _ _)
                                  refine hp_aload_nS 0 dL_law_764 rfl rfl (?_ : hp_G _ _ _ _ _ _ _ _ _ 765 _ _ _)
                                  refine hp_iload_n 3 dL_law_765 rfl rfl (?_ : hp_G _ _ _ _ _ _ _ _ _ 766 _ _ _)
                                  refine hp_iconst (v := 4) dL_law_766 ic_4 (?_ : hp_G _ _ _ _ _ _ _ _ _ 767 _ _ _)
                                  refine hp_iadd dL_law_767 (?_ : hp_G _ _ _ _ _ _ _ _ _ 768 _ _ _)
                                  replace hf := ob_ hf
                                  obtain ⟨x178, ex178, hf⟩ := hf
                                  refine hp_sl dL_law_768 ex178 (?_ : hp_G _ _ _ _ _ _ _ _ _ 769 _ _ _)
                                  replace hf := ob_ hf
                                  obtain ⟨o179, eo179, hf⟩ := hf
                                  replace hf := ob_ hf
                                  obtain ⟨r180, er180, hf⟩ := hf
                                  refine clL_76 (as := [.int x175, .int x176, .int x177, .int x178]) (st := [.int r174.1]) rfl (kX9_reading l er180) rfl (by decide) (Nat.le_of_ble_eq_true rfl) eo179 dL_law_769 rfl (?_ : hp_G _ _ _ _ _ _ _ _ _ 772 _ _ _)
                                  refine hp_icmp_eq (tgt := 1257) dL_law_772 rfl (fun c181 => ?_) (fun c181 => (?_ : hp_G _ _ _ _ _ _ _ _ _ 775 _ _ _))
                                  · replace hf := ot_ c181 hf
                                    exact hp_sub [0, 1, 2, 3] rfl (tjL_law_1257_18 l hf kb ke kr)
                                  · replace hf := of_ c181 hf
                                    refine hp_iconst (v := 0) dL_law_775 ic_0 (?_ : hp_G _ _ _ _ _ _ _ _ _ 776 _ _ _)
                                    obtain rfl := Option.some.inj hf
                                    exact hp_zret (kr _ rfl) (fun z => z) rfl (by decide) dL_law_776
                                · replace hf := of_ c168 hf
                                  by_cases c182 : x8 &&& 31 = 15
                                  · replace hf := ot_ c182 hf
                                    refine hp_tableIn (tgt := 777) dL_law_33 (by rw [c182]; decide) (by rw [c182]; decide) (by rw [c182]; rfl) (by decide) ?_
                                    refine hp_aload_n 1 dL_law_777 rfl rfl (?_ : hp_G _ _ _ _ _ _ _ _ _ 778 _ _ _)
                                    refine hp_aload_nS 0 dL_law_778 rfl rfl (?_ : hp_G _ _ _ _ _ _ _ _ _ 779 _ _ _)
                                    refine hp_iload_n 3 dL_law_779 rfl rfl (?_ : hp_G _ _ _ _ _ _ _ _ _ 780 _ _ _)
                                    refine hp_iconst (v := 1) dL_law_780 ic_1 (?_ : hp_G _ _ _ _ _ _ _ _ _ 781 _ _ _)
                                    refine hp_iadd dL_law_781 (?_ : hp_G _ _ _ _ _ _ _ _ _ 782 _ _ _)
                                    replace hf := ob_ hf
                                    obtain ⟨x183, ex183, hf⟩ := hf
                                    refine hp_sl dL_law_782 ex183 (?_ : hp_G _ _ _ _ _ _ _ _ _ 783 _ _ _)
                                    replace hf := ob_ hf
                                    obtain ⟨o184, eo184, hf⟩ := hf
                                    replace hf := ob_ hf
                                    obtain ⟨r185, er185, hf⟩ := hf
                                    refine clL_77 (as := [.int x183]) (st := []) rfl (kX8_back l er185) rfl (by decide) (Nat.le_of_ble_eq_true rfl) eo184 dL_law_783 rfl (?_ : hp_G _ _ _ _ _ _ _ _ _ 786 _ _ _)
                                    refine hp_aload_n 2 dL_law_786 rfl rfl (?_ : hp_G _ _ _ _ _ _ _ _ _ 787 _ _ _)
                                    refine hp_aload_nS 0 dL_law_787 rfl rfl (?_ : hp_G _ _ _ _ _ _ _ _ _ 788 _ _ _)
                                    refine hp_iload_n 3 dL_law_788 rfl rfl (?_ : hp_G _ _ _ _ _ _ _ _ _ 789 _ _ _)
                                    refine hp_iconst (v := 1) dL_law_789 ic_1 (?_ : hp_G _ _ _ _ _ _ _ _ _ 790 _ _ _)
                                    refine hp_iadd dL_law_790 (?_ : hp_G _ _ _ _ _ _ _ _ _ 791 _ _ _)
                                    replace hf := ob_ hf
                                    obtain ⟨x186, ex186, hf⟩ := hf
                                    refine hp_sl dL_law_791 ex186 (?_ : hp_G _ _ _ _ _ _ _ _ _ 792 _ _ _)
                                    replace hf := ob_ hf
                                    obtain ⟨o187, eo187, hf⟩ := hf
                                    replace hf := ob_ hf
                                    obtain ⟨r188, er188, hf⟩ := hf
                                    refine clL_80 (as := [.int x186]) (st := [.int r185.1]) rfl (kX9_back l er188) rfl (by decide) (Nat.le_of_ble_eq_true rfl) eo187 dL_law_792 rfl (?_ : hp_G _ _ _ _ _ _ _ _ _ 795 _ _ _)
                                    refine hp_icmp_eq (tgt := 1257) dL_law_795 rfl (fun c189 => ?_) (fun c189 => (?_ : hp_G _ _ _ _ _ _ _ _ _ 798 _ _ _))
                                    · replace hf := ot_ c189 hf
                                      exact hp_sub [0, 1, 2, 3] rfl (tjL_law_1257_18 l hf kb ke kr)
                                    · replace hf := of_ c189 hf
                                      refine hp_iconst (v := 0) dL_law_798 ic_0 (?_ : hp_G _ _ _ _ _ _ _ _ _ 799 _ _ _)
                                      obtain rfl := Option.some.inj hf
                                      exact hp_zret (kr _ rfl) (fun z => z) rfl (by decide) dL_law_799
                                  · replace hf := of_ c182 hf
                                    by_cases c190 : x8 &&& 31 = 16
                                    · replace hf := ot_ c190 hf
                                      refine hp_tableIn (tgt := 800) dL_law_33 (by rw [c190]; decide) (by rw [c190]; decide) (by rw [c190]; rfl) (by decide) ?_
                                      refine hp_aload_n 1 dL_law_800 rfl rfl (?_ : hp_G _ _ _ _ _ _ _ _ _ 801 _ _ _)
                                      refine hp_aload_nS 0 dL_law_801 rfl rfl (?_ : hp_G _ _ _ _ _ _ _ _ _ 802 _ _ _)
                                      refine hp_iload_n 3 dL_law_802 rfl rfl (?_ : hp_G _ _ _ _ _ _ _ _ _ 803 _ _ _)
                                      refine hp_iconst (v := 1) dL_law_803 ic_1 (?_ : hp_G _ _ _ _ _ _ _ _ _ 804 _ _ _)
                                      refine hp_iadd dL_law_804 (?_ : hp_G _ _ _ _ _ _ _ _ _ 805 _ _ _)
                                      replace hf := ob_ hf
                                      obtain ⟨x191, ex191, hf⟩ := hf
                                      refine hp_sl dL_law_805 ex191 (?_ : hp_G _ _ _ _ _ _ _ _ _ 806 _ _ _)
                                      replace hf := ob_ hf
                                      obtain ⟨o192, eo192, hf⟩ := hf
                                      replace hf := ob_ hf
                                      obtain ⟨r193, er193, hf⟩ := hf
                                      refine clL_81 (as := [.int x191]) (st := []) rfl (kX8_strengths l er193) rfl (by decide) (Nat.le_of_ble_eq_true rfl) eo192 dL_law_806 rfl (?_ : hp_G _ _ _ _ _ _ _ _ _ 809 _ _ _)
                                      refine hp_aload_n 2 dL_law_809 rfl rfl (?_ : hp_G _ _ _ _ _ _ _ _ _ 810 _ _ _)
                                      refine hp_aload_nS 0 dL_law_810 rfl rfl (?_ : hp_G _ _ _ _ _ _ _ _ _ 811 _ _ _)
                                      refine hp_iload_n 3 dL_law_811 rfl rfl (?_ : hp_G _ _ _ _ _ _ _ _ _ 812 _ _ _)
                                      refine hp_iconst (v := 1) dL_law_812 ic_1 (?_ : hp_G _ _ _ _ _ _ _ _ _ 813 _ _ _)
                                      refine hp_iadd dL_law_813 (?_ : hp_G _ _ _ _ _ _ _ _ _ 814 _ _ _)
                                      replace hf := ob_ hf
                                      obtain ⟨x194, ex194, hf⟩ := hf
                                      refine hp_sl dL_law_814 ex194 (?_ : hp_G _ _ _ _ _ _ _ _ _ 815 _ _ _)
                                      replace hf := ob_ hf
                                      obtain ⟨o195, eo195, hf⟩ := hf
                                      replace hf := ob_ hf
                                      obtain ⟨r196, er196, hf⟩ := hf
                                      refine clL_84 (as := [.int x194]) (st := [.int r193.1]) rfl (kX9_strengths l er196) rfl (by decide) (Nat.le_of_ble_eq_true rfl) eo195 dL_law_815 rfl (?_ : hp_G _ _ _ _ _ _ _ _ _ 818 _ _ _)
                                      refine hp_icmp_eq (tgt := 1257) dL_law_818 rfl (fun c197 => ?_) (fun c197 => (?_ : hp_G _ _ _ _ _ _ _ _ _ 821 _ _ _))
                                      · replace hf := ot_ c197 hf
                                        exact hp_sub [0, 1, 2, 3] rfl (tjL_law_1257_18 l hf kb ke kr)
                                      · replace hf := of_ c197 hf
                                        refine hp_iconst (v := 0) dL_law_821 ic_0 (?_ : hp_G _ _ _ _ _ _ _ _ _ 822 _ _ _)
                                        obtain rfl := Option.some.inj hf
                                        exact hp_zret (kr _ rfl) (fun z => z) rfl (by decide) dL_law_822
                                    · replace hf := of_ c190 hf
                                      by_cases c198 : x8 &&& 31 = 17
                                      · replace hf := ot_ c198 hf
                                        refine hp_tableIn (tgt := 823) dL_law_33 (by rw [c198]; decide) (by rw [c198]; decide) (by rw [c198]; rfl) (by decide) ?_
                                        refine hp_aload_n 1 dL_law_823 rfl rfl (?_ : hp_G _ _ _ _ _ _ _ _ _ 824 _ _ _)
                                        refine hp_aload_nS 0 dL_law_824 rfl rfl (?_ : hp_G _ _ _ _ _ _ _ _ _ 825 _ _ _)
                                        refine hp_iload_n 3 dL_law_825 rfl rfl (?_ : hp_G _ _ _ _ _ _ _ _ _ 826 _ _ _)
                                        refine hp_iconst (v := 1) dL_law_826 ic_1 (?_ : hp_G _ _ _ _ _ _ _ _ _ 827 _ _ _)
                                        refine hp_iadd dL_law_827 (?_ : hp_G _ _ _ _ _ _ _ _ _ 828 _ _ _)
                                        replace hf := ob_ hf
                                        obtain ⟨x199, ex199, hf⟩ := hf
                                        refine hp_sl dL_law_828 ex199 (?_ : hp_G _ _ _ _ _ _ _ _ _ 829 _ _ _)
                                        replace hf := ob_ hf
                                        obtain ⟨o200, eo200, hf⟩ := hf
                                        replace hf := ob_ hf
                                        obtain ⟨r201, er201, hf⟩ := hf
                                        refine clL_85 (as := [.int x199]) (st := []) rfl (kX8_feints l er201) rfl (by decide) (Nat.le_of_ble_eq_true rfl) eo200 dL_law_829 rfl (?_ : hp_G _ _ _ _ _ _ _ _ _ 832 _ _ _)
                                        refine hp_aload_n 2 dL_law_832 rfl rfl (?_ : hp_G _ _ _ _ _ _ _ _ _ 833 _ _ _)
                                        refine hp_aload_nS 0 dL_law_833 rfl rfl (?_ : hp_G _ _ _ _ _ _ _ _ _ 834 _ _ _)
                                        refine hp_iload_n 3 dL_law_834 rfl rfl (?_ : hp_G _ _ _ _ _ _ _ _ _ 835 _ _ _)
                                        refine hp_iconst (v := 1) dL_law_835 ic_1 (?_ : hp_G _ _ _ _ _ _ _ _ _ 836 _ _ _)
                                        refine hp_iadd dL_law_836 (?_ : hp_G _ _ _ _ _ _ _ _ _ 837 _ _ _)
                                        replace hf := ob_ hf
                                        obtain ⟨x202, ex202, hf⟩ := hf
                                        refine hp_sl dL_law_837 ex202 (?_ : hp_G _ _ _ _ _ _ _ _ _ 838 _ _ _)
                                        replace hf := ob_ hf
                                        obtain ⟨o203, eo203, hf⟩ := hf
                                        replace hf := ob_ hf
                                        obtain ⟨r204, er204, hf⟩ := hf
                                        refine clL_88 (as := [.int x202]) (st := [.int r201.1]) rfl (kX9_feints l er204) rfl (by decide) (Nat.le_of_ble_eq_true rfl) eo203 dL_law_838 rfl (?_ : hp_G _ _ _ _ _ _ _ _ _ 841 _ _ _)
                                        refine hp_icmp_eq (tgt := 1257) dL_law_841 rfl (fun c205 => ?_) (fun c205 => (?_ : hp_G _ _ _ _ _ _ _ _ _ 844 _ _ _))
                                        · replace hf := ot_ c205 hf
                                          exact hp_sub [0, 1, 2, 3] rfl (tjL_law_1257_18 l hf kb ke kr)
                                        · replace hf := of_ c205 hf
                                          refine hp_iconst (v := 0) dL_law_844 ic_0 (?_ : hp_G _ _ _ _ _ _ _ _ _ 845 _ _ _)
                                          obtain rfl := Option.some.inj hf
                                          exact hp_zret (kr _ rfl) (fun z => z) rfl (by decide) dL_law_845
                                      · replace hf := of_ c198 hf
                                        by_cases c206 : x8 &&& 31 = 18
                                        · replace hf := ot_ c206 hf
                                          refine hp_tableIn (tgt := 846) dL_law_33 (by rw [c206]; decide) (by rw [c206]; decide) (by rw [c206]; rfl) (by decide) ?_
                                          refine hp_aload_n 1 dL_law_846 rfl rfl (?_ : hp_G _ _ _ _ _ _ _ _ _ 847 _ _ _)
                                          refine hp_aload_nS 0 dL_law_847 rfl rfl (?_ : hp_G _ _ _ _ _ _ _ _ _ 848 _ _ _)
                                          refine hp_iload_n 3 dL_law_848 rfl rfl (?_ : hp_G _ _ _ _ _ _ _ _ _ 849 _ _ _)
                                          refine hp_iconst (v := 1) dL_law_849 ic_1 (?_ : hp_G _ _ _ _ _ _ _ _ _ 850 _ _ _)
                                          refine hp_iadd dL_law_850 (?_ : hp_G _ _ _ _ _ _ _ _ _ 851 _ _ _)
                                          replace hf := ob_ hf
                                          obtain ⟨x207, ex207, hf⟩ := hf
                                          refine hp_sl dL_law_851 ex207 (?_ : hp_G _ _ _ _ _ _ _ _ _ 852 _ _ _)
                                          replace hf := ob_ hf
                                          obtain ⟨o208, eo208, hf⟩ := hf
                                          replace hf := ob_ hf
                                          obtain ⟨r209, er209, hf⟩ := hf
                                          refine clL_89 (as := [.int x207]) (st := []) rfl (kX8_kinds l er209) rfl (by decide) (Nat.le_of_ble_eq_true rfl) eo208 dL_law_852 rfl (?_ : hp_G _ _ _ _ _ _ _ _ _ 855 _ _ _)
                                          refine hp_aload_n 2 dL_law_855 rfl rfl (?_ : hp_G _ _ _ _ _ _ _ _ _ 856 _ _ _)
                                          refine hp_aload_nS 0 dL_law_856 rfl rfl (?_ : hp_G _ _ _ _ _ _ _ _ _ 857 _ _ _)
                                          refine hp_iload_n 3 dL_law_857 rfl rfl (?_ : hp_G _ _ _ _ _ _ _ _ _ 858 _ _ _)
                                          refine hp_iconst (v := 1) dL_law_858 ic_1 (?_ : hp_G _ _ _ _ _ _ _ _ _ 859 _ _ _)
                                          refine hp_iadd dL_law_859 (?_ : hp_G _ _ _ _ _ _ _ _ _ 860 _ _ _)
                                          replace hf := ob_ hf
                                          obtain ⟨x210, ex210, hf⟩ := hf
                                          refine hp_sl dL_law_860 ex210 (?_ : hp_G _ _ _ _ _ _ _ _ _ 861 _ _ _)
                                          replace hf := ob_ hf
                                          obtain ⟨o211, eo211, hf⟩ := hf
                                          replace hf := ob_ hf
                                          obtain ⟨r212, er212, hf⟩ := hf
                                          refine clL_92 (as := [.int x210]) (st := [.int r209.1]) rfl (kX9_kinds l er212) rfl (by decide) (Nat.le_of_ble_eq_true rfl) eo211 dL_law_861 rfl (?_ : hp_G _ _ _ _ _ _ _ _ _ 864 _ _ _)
                                          refine hp_icmp_eq (tgt := 1257) dL_law_864 rfl (fun c213 => ?_) (fun c213 => (?_ : hp_G _ _ _ _ _ _ _ _ _ 867 _ _ _))
                                          · replace hf := ot_ c213 hf
                                            exact hp_sub [0, 1, 2, 3] rfl (tjL_law_1257_18 l hf kb ke kr)
                                          · replace hf := of_ c213 hf
                                            refine hp_iconst (v := 0) dL_law_867 ic_0 (?_ : hp_G _ _ _ _ _ _ _ _ _ 868 _ _ _)
                                            obtain rfl := Option.some.inj hf
                                            exact hp_zret (kr _ rfl) (fun z => z) rfl (by decide) dL_law_868
                                        · replace hf := of_ c206 hf
                                          by_cases c214 : x8 &&& 31 = 19
                                          · replace hf := ot_ c214 hf
                                            refine hp_tableIn (tgt := 869) dL_law_33 (by rw [c214]; decide) (by rw [c214]; decide) (by rw [c214]; rfl) (by decide) ?_
                                            refine hp_aload_n 1 dL_law_869 rfl rfl (?_ : hp_G _ _ _ _ _ _ _ _ _ 870 _ _ _)
                                            refine hp_aload_nS 0 dL_law_870 rfl rfl (?_ : hp_G _ _ _ _ _ _ _ _ _ 871 _ _ _)
                                            refine hp_iload_n 3 dL_law_871 rfl rfl (?_ : hp_G _ _ _ _ _ _ _ _ _ 872 _ _ _)
                                            refine hp_iconst (v := 1) dL_law_872 ic_1 (?_ : hp_G _ _ _ _ _ _ _ _ _ 873 _ _ _)
                                            refine hp_iadd dL_law_873 (?_ : hp_G _ _ _ _ _ _ _ _ _ 874 _ _ _)
                                            replace hf := ob_ hf
                                            obtain ⟨x215, ex215, hf⟩ := hf
                                            refine hp_sl dL_law_874 ex215 (?_ : hp_G _ _ _ _ _ _ _ _ _ 875 _ _ _)
                                            refine hp_aload_nS 0 dL_law_875 rfl rfl (?_ : hp_G _ _ _ _ _ _ _ _ _ 876 _ _ _)
                                            refine hp_iload_n 3 dL_law_876 rfl rfl (?_ : hp_G _ _ _ _ _ _ _ _ _ 877 _ _ _)
                                            refine hp_iconst (v := 2) dL_law_877 ic_2 (?_ : hp_G _ _ _ _ _ _ _ _ _ 878 _ _ _)
                                            refine hp_iadd dL_law_878 (?_ : hp_G _ _ _ _ _ _ _ _ _ 879 _ _ _)
                                            replace hf := ob_ hf
                                            obtain ⟨x216, ex216, hf⟩ := hf
                                            refine hp_sl dL_law_879 ex216 (?_ : hp_G _ _ _ _ _ _ _ _ _ 880 _ _ _)
                                            refine hp_aload_nS 0 dL_law_880 rfl rfl (?_ : hp_G _ _ _ _ _ _ _ _ _ 881 _ _ _)
                                            refine hp_iload_n 3 dL_law_881 rfl rfl (?_ : hp_G _ _ _ _ _ _ _ _ _ 882 _ _ _)
                                            refine hp_iconst (v := 3) dL_law_882 ic_3 (?_ : hp_G _ _ _ _ _ _ _ _ _ 883 _ _ _)
                                            refine hp_iadd dL_law_883 (?_ : hp_G _ _ _ _ _ _ _ _ _ 884 _ _ _)
                                            replace hf := ob_ hf
                                            obtain ⟨x217, ex217, hf⟩ := hf
                                            refine hp_sl dL_law_884 ex217 (?_ : hp_G _ _ _ _ _ _ _ _ _ 885 _ _ _)
                                            replace hf := ob_ hf
                                            obtain ⟨o218, eo218, hf⟩ := hf
                                            replace hf := ob_ hf
                                            obtain ⟨r219, er219, hf⟩ := hf
                                            refine clL_93 (as := [.int x215, .int x216, .int x217]) (st := []) rfl (kX8_odds l er219) rfl (by decide) (Nat.le_of_ble_eq_true rfl) eo218 dL_law_885 rfl (?_ : hp_G _ _ _ _ _ _ _ _ _ 888 _ _ _)
                                            refine hp_aload_n 2 dL_law_888 rfl rfl (?_ : hp_G _ _ _ _ _ _ _ _ _ 889 _ _ _)
                                            refine hp_aload_nS 0 dL_law_889 rfl rfl (?_ : hp_G _ _ _ _ _ _ _ _ _ 890 _ _ _)
                                            refine hp_iload_n 3 dL_law_890 rfl rfl (?_ : hp_G _ _ _ _ _ _ _ _ _ 891 _ _ _)
                                            refine hp_iconst (v := 1) dL_law_891 ic_1 (?_ : hp_G _ _ _ _ _ _ _ _ _ 892 _ _ _)
                                            refine hp_iadd dL_law_892 (?_ : hp_G _ _ _ _ _ _ _ _ _ 893 _ _ _)
                                            replace hf := ob_ hf
                                            obtain ⟨x220, ex220, hf⟩ := hf
                                            refine hp_sl dL_law_893 ex220 (?_ : hp_G _ _ _ _ _ _ _ _ _ 894 _ _ _)
                                            refine hp_aload_nS 0 dL_law_894 rfl rfl (?_ : hp_G _ _ _ _ _ _ _ _ _ 895 _ _ _)
                                            refine hp_iload_n 3 dL_law_895 rfl rfl (?_ : hp_G _ _ _ _ _ _ _ _ _ 896 _ _ _)
                                            refine hp_iconst (v := 2) dL_law_896 ic_2 (?_ : hp_G _ _ _ _ _ _ _ _ _ 897 _ _ _)
                                            refine hp_iadd dL_law_897 (?_ : hp_G _ _ _ _ _ _ _ _ _ 898 _ _ _)
                                            replace hf := ob_ hf
                                            obtain ⟨x221, ex221, hf⟩ := hf
                                            refine hp_sl dL_law_898 ex221 (?_ : hp_G _ _ _ _ _ _ _ _ _ 899 _ _ _)
                                            refine hp_aload_nS 0 dL_law_899 rfl rfl (?_ : hp_G _ _ _ _ _ _ _ _ _ 900 _ _ _)
                                            refine hp_iload_n 3 dL_law_900 rfl rfl (?_ : hp_G _ _ _ _ _ _ _ _ _ 901 _ _ _)
                                            refine hp_iconst (v := 3) dL_law_901 ic_3 (?_ : hp_G _ _ _ _ _ _ _ _ _ 902 _ _ _)
                                            refine hp_iadd dL_law_902 (?_ : hp_G _ _ _ _ _ _ _ _ _ 903 _ _ _)
                                            replace hf := ob_ hf
                                            obtain ⟨x222, ex222, hf⟩ := hf
                                            refine hp_sl dL_law_903 ex222 (?_ : hp_G _ _ _ _ _ _ _ _ _ 904 _ _ _)
                                            replace hf := ob_ hf
                                            obtain ⟨o223, eo223, hf⟩ := hf
                                            replace hf := ob_ hf
                                            obtain ⟨r224, er224, hf⟩ := hf
                                            refine clL_97 (as := [.int x220, .int x221, .int x222]) (st := [.long r219]) rfl (kX9_odds l er224) rfl (by decide) (Nat.le_of_ble_eq_true rfl) eo223 dL_law_904 rfl (?_ : hp_G _ _ _ _ _ _ _ _ _ 907 _ _ _)
                                            refine hp_lcmp dL_law_907 (?_ : hp_G _ _ _ _ _ _ _ _ _ 908 _ _ _)
                                            refine hp_if_eq (tgt := 1257) dL_law_908 rfl (fun c225 => ?_) (fun c225 => (?_ : hp_G _ _ _ _ _ _ _ _ _ 911 _ _ _))
                                            · replace hf := ot_ c225 hf
                                              exact hp_sub [0, 1, 2, 3] rfl (tjL_law_1257_18 l hf kb ke kr)
                                            · replace hf := of_ c225 hf
                                              refine hp_iconst (v := 0) dL_law_911 ic_0 (?_ : hp_G _ _ _ _ _ _ _ _ _ 912 _ _ _)
                                              obtain rfl := Option.some.inj hf
                                              exact hp_zret (kr _ rfl) (fun z => z) rfl (by decide) dL_law_912
                                          · replace hf := of_ c214 hf
                                            by_cases c226 : x8 &&& 31 = 20
                                            · replace hf := ot_ c226 hf
                                              refine hp_tableIn (tgt := 913) dL_law_33 (by rw [c226]; decide) (by rw [c226]; decide) (by rw [c226]; rfl) (by decide) ?_
                                              refine hp_aload_n 1 dL_law_913 rfl rfl (?_ : hp_G _ _ _ _ _ _ _ _ _ 914 _ _ _)
                                              refine hp_aload_nS 0 dL_law_914 rfl rfl (?_ : hp_G _ _ _ _ _ _ _ _ _ 915 _ _ _)
                                              refine hp_iload_n 3 dL_law_915 rfl rfl (?_ : hp_G _ _ _ _ _ _ _ _ _ 916 _ _ _)
                                              refine hp_iconst (v := 1) dL_law_916 ic_1 (?_ : hp_G _ _ _ _ _ _ _ _ _ 917 _ _ _)
                                              refine hp_iadd dL_law_917 (?_ : hp_G _ _ _ _ _ _ _ _ _ 918 _ _ _)
                                              replace hf := ob_ hf
                                              obtain ⟨x227, ex227, hf⟩ := hf
                                              refine hp_sl dL_law_918 ex227 (?_ : hp_G _ _ _ _ _ _ _ _ _ 919 _ _ _)
                                              refine hp_aload_nS 0 dL_law_919 rfl rfl (?_ : hp_G _ _ _ _ _ _ _ _ _ 920 _ _ _)
                                              refine hp_iload_n 3 dL_law_920 rfl rfl (?_ : hp_G _ _ _ _ _ _ _ _ _ 921 _ _ _)
                                              refine hp_iconst (v := 2) dL_law_921 ic_2 (?_ : hp_G _ _ _ _ _ _ _ _ _ 922 _ _ _)
                                              refine hp_iadd dL_law_922 (?_ : hp_G _ _ _ _ _ _ _ _ _ 923 _ _ _)
                                              replace hf := ob_ hf
                                              obtain ⟨x228, ex228, hf⟩ := hf
                                              refine hp_sl dL_law_923 ex228 (?_ : hp_G _ _ _ _ _ _ _ _ _ 924 _ _ _)
                                              refine hp_aload_nS 0 dL_law_924 rfl rfl (?_ : hp_G _ _ _ _ _ _ _ _ _ 925 _ _ _)
                                              refine hp_iload_n 3 dL_law_925 rfl rfl (?_ : hp_G _ _ _ _ _ _ _ _ _ 926 _ _ _)
                                              refine hp_iconst (v := 3) dL_law_926 ic_3 (?_ : hp_G _ _ _ _ _ _ _ _ _ 927 _ _ _)
                                              refine hp_iadd dL_law_927 (?_ : hp_G _ _ _ _ _ _ _ _ _ 928 _ _ _)
                                              replace hf := ob_ hf
                                              obtain ⟨x229, ex229, hf⟩ := hf
                                              refine hp_sl dL_law_928 ex229 (?_ : hp_G _ _ _ _ _ _ _ _ _ 929 _ _ _)
                                              replace hf := ob_ hf
                                              obtain ⟨o230, eo230, hf⟩ := hf
                                              replace hf := ob_ hf
                                              obtain ⟨r231, er231, hf⟩ := hf
                                              refine clL_98 (as := [.int x227, .int x228, .int x229]) (st := []) rfl (kX8_sheet l er231) rfl (by decide) (Nat.le_of_ble_eq_true rfl) eo230 dL_law_929 rfl (?_ : hp_G _ _ _ _ _ _ _ _ _ 932 _ _ _)
                                              refine hp_aload_n 2 dL_law_932 rfl rfl (?_ : hp_G _ _ _ _ _ _ _ _ _ 933 _ _ _)
                                              refine hp_aload_nS 0 dL_law_933 rfl rfl (?_ : hp_G _ _ _ _ _ _ _ _ _ 934 _ _ _)
                                              refine hp_iload_n 3 dL_law_934 rfl rfl (?_ : hp_G _ _ _ _ _ _ _ _ _ 935 _ _ _)
                                              refine hp_iconst (v := 1) dL_law_935 ic_1 (?_ : hp_G _ _ _ _ _ _ _ _ _ 936 _ _ _)
                                              refine hp_iadd dL_law_936 (?_ : hp_G _ _ _ _ _ _ _ _ _ 937 _ _ _)
                                              replace hf := ob_ hf
                                              obtain ⟨x232, ex232, hf⟩ := hf
                                              refine hp_sl dL_law_937 ex232 (?_ : hp_G _ _ _ _ _ _ _ _ _ 938 _ _ _)
                                              refine hp_aload_nS 0 dL_law_938 rfl rfl (?_ : hp_G _ _ _ _ _ _ _ _ _ 939 _ _ _)
                                              refine hp_iload_n 3 dL_law_939 rfl rfl (?_ : hp_G _ _ _ _ _ _ _ _ _ 940 _ _ _)
                                              refine hp_iconst (v := 2) dL_law_940 ic_2 (?_ : hp_G _ _ _ _ _ _ _ _ _ 941 _ _ _)
                                              refine hp_iadd dL_law_941 (?_ : hp_G _ _ _ _ _ _ _ _ _ 942 _ _ _)
                                              replace hf := ob_ hf
                                              obtain ⟨x233, ex233, hf⟩ := hf
                                              refine hp_sl dL_law_942 ex233 (?_ : hp_G _ _ _ _ _ _ _ _ _ 943 _ _ _)
                                              refine hp_aload_nS 0 dL_law_943 rfl rfl (?_ : hp_G _ _ _ _ _ _ _ _ _ 944 _ _ _)
                                              refine hp_iload_n 3 dL_law_944 rfl rfl (?_ : hp_G _ _ _ _ _ _ _ _ _ 945 _ _ _)
                                              refine hp_iconst (v := 3) dL_law_945 ic_3 (?_ : hp_G _ _ _ _ _ _ _ _ _ 946 _ _ _)
                                              refine hp_iadd dL_law_946 (?_ : hp_G _ _ _ _ _ _ _ _ _ 947 _ _ _)
                                              replace hf := ob_ hf
                                              obtain ⟨x234, ex234, hf⟩ := hf
                                              refine hp_sl dL_law_947 ex234 (?_ : hp_G _ _ _ _ _ _ _ _ _ 948 _ _ _)
                                              replace hf := ob_ hf
                                              obtain ⟨o235, eo235, hf⟩ := hf
                                              replace hf := ob_ hf
                                              obtain ⟨r236, er236, hf⟩ := hf
                                              refine clL_102 (as := [.int x232, .int x233, .int x234]) (st := [.int r231.1]) rfl (kX9_sheet l er236) rfl (by decide) (Nat.le_of_ble_eq_true rfl) eo235 dL_law_948 rfl (?_ : hp_G _ _ _ _ _ _ _ _ _ 951 _ _ _)
                                              refine hp_icmp_eq (tgt := 1257) dL_law_951 rfl (fun c237 => ?_) (fun c237 => (?_ : hp_G _ _ _ _ _ _ _ _ _ 954 _ _ _))
                                              · replace hf := ot_ c237 hf
                                                exact hp_sub [0, 1, 2, 3] rfl (tjL_law_1257_18 l hf kb ke kr)
                                              · replace hf := of_ c237 hf
                                                refine hp_iconst (v := 0) dL_law_954 ic_0 (?_ : hp_G _ _ _ _ _ _ _ _ _ 955 _ _ _)
                                                obtain rfl := Option.some.inj hf
                                                exact hp_zret (kr _ rfl) (fun z => z) rfl (by decide) dL_law_955
                                            · replace hf := of_ c226 hf
                                              by_cases c238 : x8 &&& 31 = 21
                                              · replace hf := ot_ c238 hf
                                                refine hp_tableIn (tgt := 956) dL_law_33 (by rw [c238]; decide) (by rw [c238]; decide) (by rw [c238]; rfl) (by decide) ?_
                                                refine hp_aload_n 1 dL_law_956 rfl rfl (?_ : hp_G _ _ _ _ _ _ _ _ _ 957 _ _ _)
                                                refine hp_aload_nS 0 dL_law_957 rfl rfl (?_ : hp_G _ _ _ _ _ _ _ _ _ 958 _ _ _)
                                                refine hp_iload_n 3 dL_law_958 rfl rfl (?_ : hp_G _ _ _ _ _ _ _ _ _ 959 _ _ _)
                                                refine hp_iconst (v := 1) dL_law_959 ic_1 (?_ : hp_G _ _ _ _ _ _ _ _ _ 960 _ _ _)
                                                refine hp_iadd dL_law_960 (?_ : hp_G _ _ _ _ _ _ _ _ _ 961 _ _ _)
                                                replace hf := ob_ hf
                                                obtain ⟨x239, ex239, hf⟩ := hf
                                                refine hp_sl dL_law_961 ex239 (?_ : hp_G _ _ _ _ _ _ _ _ _ 962 _ _ _)
                                                replace hf := ob_ hf
                                                obtain ⟨o240, eo240, hf⟩ := hf
                                                replace hf := ob_ hf
                                                obtain ⟨r241, er241, hf⟩ := hf
                                                refine clL_103 (as := [.int x239]) (st := []) rfl (kX8_lose l er241) rfl (by decide) (Nat.le_of_ble_eq_true rfl) eo240 dL_law_962 rfl (?_ : hp_G _ _ _ _ _ _ _ _ _ 965 _ _ _)
                                                refine hp_aload_n 2 dL_law_965 rfl rfl (?_ : hp_G _ _ _ _ _ _ _ _ _ 966 _ _ _)
                                                refine hp_aload_nS 0 dL_law_966 rfl rfl (?_ : hp_G _ _ _ _ _ _ _ _ _ 967 _ _ _)
                                                refine hp_iload_n 3 dL_law_967 rfl rfl (?_ : hp_G _ _ _ _ _ _ _ _ _ 968 _ _ _)
                                                refine hp_iconst (v := 1) dL_law_968 ic_1 (?_ : hp_G _ _ _ _ _ _ _ _ _ 969 _ _ _)
                                                refine hp_iadd dL_law_969 (?_ : hp_G _ _ _ _ _ _ _ _ _ 970 _ _ _)
                                                replace hf := ob_ hf
                                                obtain ⟨x242, ex242, hf⟩ := hf
                                                refine hp_sl dL_law_970 ex242 (?_ : hp_G _ _ _ _ _ _ _ _ _ 971 _ _ _)
                                                replace hf := ob_ hf
                                                obtain ⟨o243, eo243, hf⟩ := hf
                                                replace hf := ob_ hf
                                                obtain ⟨r244, er244, hf⟩ := hf
                                                refine clL_106 (as := [.int x242]) (st := [.int r241.1]) rfl (kX9_lose l er244) rfl (by decide) (Nat.le_of_ble_eq_true rfl) eo243 dL_law_971 rfl (?_ : hp_G _ _ _ _ _ _ _ _ _ 974 _ _ _)
                                                refine hp_icmp_eq (tgt := 1257) dL_law_974 rfl (fun c245 => ?_) (fun c245 => (?_ : hp_G _ _ _ _ _ _ _ _ _ 977 _ _ _))
                                                · replace hf := ot_ c245 hf
                                                  exact hp_sub [0, 1, 2, 3] rfl (tjL_law_1257_18 l hf kb ke kr)
                                                · replace hf := of_ c245 hf
                                                  refine hp_iconst (v := 0) dL_law_977 ic_0 (?_ : hp_G _ _ _ _ _ _ _ _ _ 978 _ _ _)
                                                  obtain rfl := Option.some.inj hf
                                                  exact hp_zret (kr _ rfl) (fun z => z) rfl (by decide) dL_law_978
                                              · replace hf := of_ c238 hf
                                                by_cases c246 : x8 &&& 31 = 22
                                                · replace hf := ot_ c246 hf
                                                  refine hp_tableIn (tgt := 979) dL_law_33 (by rw [c246]; decide) (by rw [c246]; decide) (by rw [c246]; rfl) (by decide) ?_
                                                  refine hp_aload_n 1 dL_law_979 rfl rfl (?_ : hp_G _ _ _ _ _ _ _ _ _ 980 _ _ _)
                                                  refine hp_aload_nS 0 dL_law_980 rfl rfl (?_ : hp_G _ _ _ _ _ _ _ _ _ 981 _ _ _)
                                                  refine hp_iload_n 3 dL_law_981 rfl rfl (?_ : hp_G _ _ _ _ _ _ _ _ _ 982 _ _ _)
                                                  refine hp_iconst (v := 1) dL_law_982 ic_1 (?_ : hp_G _ _ _ _ _ _ _ _ _ 983 _ _ _)
                                                  refine hp_iadd dL_law_983 (?_ : hp_G _ _ _ _ _ _ _ _ _ 984 _ _ _)
                                                  replace hf := ob_ hf
                                                  obtain ⟨x247, ex247, hf⟩ := hf
                                                  refine hp_sl dL_law_984 ex247 (?_ : hp_G _ _ _ _ _ _ _ _ _ 985 _ _ _)
                                                  refine hp_aload_nS 0 dL_law_985 rfl rfl (?_ : hp_G _ _ _ _ _ _ _ _ _ 986 _ _ _)
                                                  refine hp_iload_n 3 dL_law_986 rfl rfl (?_ : hp_G _ _ _ _ _ _ _ _ _ 987 _ _ _)
                                                  refine hp_iconst (v := 2) dL_law_987 ic_2 (?_ : hp_G _ _ _ _ _ _ _ _ _ 988 _ _ _)
                                                  refine hp_iadd dL_law_988 (?_ : hp_G _ _ _ _ _ _ _ _ _ 989 _ _ _)
                                                  replace hf := ob_ hf
                                                  obtain ⟨x248, ex248, hf⟩ := hf
                                                  refine hp_sl dL_law_989 ex248 (?_ : hp_G _ _ _ _ _ _ _ _ _ 990 _ _ _)
                                                  refine hp_aload_nS 0 dL_law_990 rfl rfl (?_ : hp_G _ _ _ _ _ _ _ _ _ 991 _ _ _)
                                                  refine hp_iload_n 3 dL_law_991 rfl rfl (?_ : hp_G _ _ _ _ _ _ _ _ _ 992 _ _ _)
                                                  refine hp_iconst (v := 3) dL_law_992 ic_3 (?_ : hp_G _ _ _ _ _ _ _ _ _ 993 _ _ _)
                                                  refine hp_iadd dL_law_993 (?_ : hp_G _ _ _ _ _ _ _ _ _ 994 _ _ _)
                                                  replace hf := ob_ hf
                                                  obtain ⟨x249, ex249, hf⟩ := hf
                                                  refine hp_sl dL_law_994 ex249 (?_ : hp_G _ _ _ _ _ _ _ _ _ 995 _ _ _)
                                                  replace hf := ob_ hf
                                                  obtain ⟨o250, eo250, hf⟩ := hf
                                                  replace hf := ob_ hf
                                                  obtain ⟨r251, er251, hf⟩ := hf
                                                  refine clL_107 (as := [.int x247, .int x248, .int x249]) (st := []) rfl (kX8_put l er251) rfl (by decide) (Nat.le_of_ble_eq_true rfl) eo250 dL_law_995 rfl (?_ : hp_G _ _ _ _ _ _ _ _ _ 998 _ _ _)
                                                  refine hp_aload_n 2 dL_law_998 rfl rfl (?_ : hp_G _ _ _ _ _ _ _ _ _ 999 _ _ _)
                                                  refine hp_aload_nS 0 dL_law_999 rfl rfl (?_ : hp_G _ _ _ _ _ _ _ _ _ 1000 _ _ _)
                                                  refine hp_iload_n 3 dL_law_1000 rfl rfl (?_ : hp_G _ _ _ _ _ _ _ _ _ 1001 _ _ _)
                                                  refine hp_iconst (v := 1) dL_law_1001 ic_1 (?_ : hp_G _ _ _ _ _ _ _ _ _ 1002 _ _ _)
                                                  refine hp_iadd dL_law_1002 (?_ : hp_G _ _ _ _ _ _ _ _ _ 1003 _ _ _)
                                                  replace hf := ob_ hf
                                                  obtain ⟨x252, ex252, hf⟩ := hf
                                                  refine hp_sl dL_law_1003 ex252 (?_ : hp_G _ _ _ _ _ _ _ _ _ 1004 _ _ _)
                                                  refine hp_aload_nS 0 dL_law_1004 rfl rfl (?_ : hp_G _ _ _ _ _ _ _ _ _ 1005 _ _ _)
                                                  refine hp_iload_n 3 dL_law_1005 rfl rfl (?_ : hp_G _ _ _ _ _ _ _ _ _ 1006 _ _ _)
                                                  refine hp_iconst (v := 2) dL_law_1006 ic_2 (?_ : hp_G _ _ _ _ _ _ _ _ _ 1007 _ _ _)
                                                  refine hp_iadd dL_law_1007 (?_ : hp_G _ _ _ _ _ _ _ _ _ 1008 _ _ _)
                                                  replace hf := ob_ hf
                                                  obtain ⟨x253, ex253, hf⟩ := hf
                                                  refine hp_sl dL_law_1008 ex253 (?_ : hp_G _ _ _ _ _ _ _ _ _ 1009 _ _ _)
                                                  refine hp_aload_nS 0 dL_law_1009 rfl rfl (?_ : hp_G _ _ _ _ _ _ _ _ _ 1010 _ _ _)
                                                  refine hp_iload_n 3 dL_law_1010 rfl rfl (?_ : hp_G _ _ _ _ _ _ _ _ _ 1011 _ _ _)
                                                  refine hp_iconst (v := 3) dL_law_1011 ic_3 (?_ : hp_G _ _ _ _ _ _ _ _ _ 1012 _ _ _)
                                                  refine hp_iadd dL_law_1012 (?_ : hp_G _ _ _ _ _ _ _ _ _ 1013 _ _ _)
                                                  replace hf := ob_ hf
                                                  obtain ⟨x254, ex254, hf⟩ := hf
                                                  refine hp_sl dL_law_1013 ex254 (?_ : hp_G _ _ _ _ _ _ _ _ _ 1014 _ _ _)
                                                  replace hf := ob_ hf
                                                  obtain ⟨o255, eo255, hf⟩ := hf
                                                  replace hf := ob_ hf
                                                  obtain ⟨r256, er256, hf⟩ := hf
                                                  refine clL_110 (as := [.int x252, .int x253, .int x254]) (st := [.int r251.1]) rfl (kX9_put l er256) rfl (by decide) (Nat.le_of_ble_eq_true rfl) eo255 dL_law_1014 rfl (?_ : hp_G _ _ _ _ _ _ _ _ _ 1017 _ _ _)
                                                  refine hp_icmp_eq (tgt := 1257) dL_law_1017 rfl (fun c257 => ?_) (fun c257 => (?_ : hp_G _ _ _ _ _ _ _ _ _ 1020 _ _ _))
                                                  · replace hf := ot_ c257 hf
                                                    exact hp_sub [0, 1, 2, 3] rfl (tjL_law_1257_18 l hf kb ke kr)
                                                  · replace hf := of_ c257 hf
                                                    refine hp_iconst (v := 0) dL_law_1020 ic_0 (?_ : hp_G _ _ _ _ _ _ _ _ _ 1021 _ _ _)
                                                    obtain rfl := Option.some.inj hf
                                                    exact hp_zret (kr _ rfl) (fun z => z) rfl (by decide) dL_law_1021
                                                · replace hf := of_ c246 hf
                                                  by_cases c258 : x8 &&& 31 = 23
                                                  · replace hf := ot_ c258 hf
                                                    refine hp_tableIn (tgt := 1022) dL_law_33 (by rw [c258]; decide) (by rw [c258]; decide) (by rw [c258]; rfl) (by decide) ?_
                                                    refine hp_aload_n 1 dL_law_1022 rfl rfl (?_ : hp_G _ _ _ _ _ _ _ _ _ 1023 _ _ _)
                                                    refine hp_aload_nS 0 dL_law_1023 rfl rfl (?_ : hp_G _ _ _ _ _ _ _ _ _ 1024 _ _ _)
                                                    refine hp_iload_n 3 dL_law_1024 rfl rfl (?_ : hp_G _ _ _ _ _ _ _ _ _ 1025 _ _ _)
                                                    refine hp_iconst (v := 1) dL_law_1025 ic_1 (?_ : hp_G _ _ _ _ _ _ _ _ _ 1026 _ _ _)
                                                    refine hp_iadd dL_law_1026 (?_ : hp_G _ _ _ _ _ _ _ _ _ 1027 _ _ _)
                                                    replace hf := ob_ hf
                                                    obtain ⟨x259, ex259, hf⟩ := hf
                                                    refine hp_sl dL_law_1027 ex259 (?_ : hp_G _ _ _ _ _ _ _ _ _ 1028 _ _ _)
                                                    refine hp_aload_nS 0 dL_law_1028 rfl rfl (?_ : hp_G _ _ _ _ _ _ _ _ _ 1029 _ _ _)
                                                    refine hp_iload_n 3 dL_law_1029 rfl rfl (?_ : hp_G _ _ _ _ _ _ _ _ _ 1030 _ _ _)
                                                    refine hp_iconst (v := 2) dL_law_1030 ic_2 (?_ : hp_G _ _ _ _ _ _ _ _ _ 1031 _ _ _)
                                                    refine hp_iadd dL_law_1031 (?_ : hp_G _ _ _ _ _ _ _ _ _ 1032 _ _ _)
                                                    replace hf := ob_ hf
                                                    obtain ⟨x260, ex260, hf⟩ := hf
                                                    refine hp_sl dL_law_1032 ex260 (?_ : hp_G _ _ _ _ _ _ _ _ _ 1033 _ _ _)
                                                    refine hp_aload_nS 0 dL_law_1033 rfl rfl (?_ : hp_G _ _ _ _ _ _ _ _ _ 1034 _ _ _)
                                                    refine hp_iload_n 3 dL_law_1034 rfl rfl (?_ : hp_G _ _ _ _ _ _ _ _ _ 1035 _ _ _)
                                                    refine hp_iconst (v := 3) dL_law_1035 ic_3 (?_ : hp_G _ _ _ _ _ _ _ _ _ 1036 _ _ _)
                                                    refine hp_iadd dL_law_1036 (?_ : hp_G _ _ _ _ _ _ _ _ _ 1037 _ _ _)
                                                    replace hf := ob_ hf
                                                    obtain ⟨x261, ex261, hf⟩ := hf
                                                    refine hp_sl dL_law_1037 ex261 (?_ : hp_G _ _ _ _ _ _ _ _ _ 1038 _ _ _)
                                                    replace hf := ob_ hf
                                                    obtain ⟨o262, eo262, hf⟩ := hf
                                                    replace hf := ob_ hf
                                                    obtain ⟨r263, er263, hf⟩ := hf
                                                    refine clL_111 (as := [.int x259, .int x260, .int x261]) (st := []) rfl (kX8_cell l er263) rfl (by decide) (Nat.le_of_ble_eq_true rfl) eo262 dL_law_1038 rfl (?_ : hp_G _ _ _ _ _ _ _ _ _ 1041 _ _ _)
                                                    refine hp_aload_n 2 dL_law_1041 rfl rfl (?_ : hp_G _ _ _ _ _ _ _ _ _ 1042 _ _ _)
                                                    refine hp_aload_nS 0 dL_law_1042 rfl rfl (?_ : hp_G _ _ _ _ _ _ _ _ _ 1043 _ _ _)
                                                    refine hp_iload_n 3 dL_law_1043 rfl rfl (?_ : hp_G _ _ _ _ _ _ _ _ _ 1044 _ _ _)
                                                    refine hp_iconst (v := 1) dL_law_1044 ic_1 (?_ : hp_G _ _ _ _ _ _ _ _ _ 1045 _ _ _)
                                                    refine hp_iadd dL_law_1045 (?_ : hp_G _ _ _ _ _ _ _ _ _ 1046 _ _ _)
                                                    replace hf := ob_ hf
                                                    obtain ⟨x264, ex264, hf⟩ := hf
                                                    refine hp_sl dL_law_1046 ex264 (?_ : hp_G _ _ _ _ _ _ _ _ _ 1047 _ _ _)
                                                    refine hp_aload_nS 0 dL_law_1047 rfl rfl (?_ : hp_G _ _ _ _ _ _ _ _ _ 1048 _ _ _)
                                                    refine hp_iload_n 3 dL_law_1048 rfl rfl (?_ : hp_G _ _ _ _ _ _ _ _ _ 1049 _ _ _)
                                                    refine hp_iconst (v := 2) dL_law_1049 ic_2 (?_ : hp_G _ _ _ _ _ _ _ _ _ 1050 _ _ _)
                                                    refine hp_iadd dL_law_1050 (?_ : hp_G _ _ _ _ _ _ _ _ _ 1051 _ _ _)
                                                    replace hf := ob_ hf
                                                    obtain ⟨x265, ex265, hf⟩ := hf
                                                    refine hp_sl dL_law_1051 ex265 (?_ : hp_G _ _ _ _ _ _ _ _ _ 1052 _ _ _)
                                                    refine hp_aload_nS 0 dL_law_1052 rfl rfl (?_ : hp_G _ _ _ _ _ _ _ _ _ 1053 _ _ _)
                                                    refine hp_iload_n 3 dL_law_1053 rfl rfl (?_ : hp_G _ _ _ _ _ _ _ _ _ 1054 _ _ _)
                                                    refine hp_iconst (v := 3) dL_law_1054 ic_3 (?_ : hp_G _ _ _ _ _ _ _ _ _ 1055 _ _ _)
                                                    refine hp_iadd dL_law_1055 (?_ : hp_G _ _ _ _ _ _ _ _ _ 1056 _ _ _)
                                                    replace hf := ob_ hf
                                                    obtain ⟨x266, ex266, hf⟩ := hf
                                                    refine hp_sl dL_law_1056 ex266 (?_ : hp_G _ _ _ _ _ _ _ _ _ 1057 _ _ _)
                                                    replace hf := ob_ hf
                                                    obtain ⟨o267, eo267, hf⟩ := hf
                                                    replace hf := ob_ hf
                                                    obtain ⟨r268, er268, hf⟩ := hf
                                                    refine clL_114 (as := [.int x264, .int x265, .int x266]) (st := [.long r263.1]) rfl (kX9_cell l er268) rfl (by decide) (Nat.le_of_ble_eq_true rfl) eo267 dL_law_1057 rfl (?_ : hp_G _ _ _ _ _ _ _ _ _ 1060 _ _ _)
                                                    refine hp_lcmp dL_law_1060 (?_ : hp_G _ _ _ _ _ _ _ _ _ 1061 _ _ _)
                                                    refine hp_if_eq (tgt := 1257) dL_law_1061 rfl (fun c269 => ?_) (fun c269 => (?_ : hp_G _ _ _ _ _ _ _ _ _ 1064 _ _ _))
                                                    · replace hf := ot_ c269 hf
                                                      exact hp_sub [0, 1, 2, 3] rfl (tjL_law_1257_18 l hf kb ke kr)
                                                    · replace hf := of_ c269 hf
                                                      refine hp_iconst (v := 0) dL_law_1064 ic_0 (?_ : hp_G _ _ _ _ _ _ _ _ _ 1065 _ _ _)
                                                      obtain rfl := Option.some.inj hf
                                                      exact hp_zret (kr _ rfl) (fun z => z) rfl (by decide) dL_law_1065
                                                  · replace hf := of_ c258 hf
                                                    by_cases c270 : x8 &&& 31 = 24
                                                    · replace hf := ot_ c270 hf
                                                      refine hp_tableIn (tgt := 1066) dL_law_33 (by rw [c270]; decide) (by rw [c270]; decide) (by rw [c270]; rfl) (by decide) ?_
                                                      refine hp_aload_n 1 dL_law_1066 rfl rfl (?_ : hp_G _ _ _ _ _ _ _ _ _ 1067 _ _ _)
                                                      refine hp_aload_nS 0 dL_law_1067 rfl rfl (?_ : hp_G _ _ _ _ _ _ _ _ _ 1068 _ _ _)
                                                      refine hp_iload_n 3 dL_law_1068 rfl rfl (?_ : hp_G _ _ _ _ _ _ _ _ _ 1069 _ _ _)
                                                      refine hp_iconst (v := 1) dL_law_1069 ic_1 (?_ : hp_G _ _ _ _ _ _ _ _ _ 1070 _ _ _)
                                                      refine hp_iadd dL_law_1070 (?_ : hp_G _ _ _ _ _ _ _ _ _ 1071 _ _ _)
                                                      replace hf := ob_ hf
                                                      obtain ⟨x271, ex271, hf⟩ := hf
                                                      refine hp_sl dL_law_1071 ex271 (?_ : hp_G _ _ _ _ _ _ _ _ _ 1072 _ _ _)
                                                      refine hp_aload_nS 0 dL_law_1072 rfl rfl (?_ : hp_G _ _ _ _ _ _ _ _ _ 1073 _ _ _)
                                                      refine hp_iload_n 3 dL_law_1073 rfl rfl (?_ : hp_G _ _ _ _ _ _ _ _ _ 1074 _ _ _)
                                                      refine hp_iconst (v := 2) dL_law_1074 ic_2 (?_ : hp_G _ _ _ _ _ _ _ _ _ 1075 _ _ _)
                                                      refine hp_iadd dL_law_1075 (?_ : hp_G _ _ _ _ _ _ _ _ _ 1076 _ _ _)
                                                      replace hf := ob_ hf
                                                      obtain ⟨x272, ex272, hf⟩ := hf
                                                      refine hp_sl dL_law_1076 ex272 (?_ : hp_G _ _ _ _ _ _ _ _ _ 1077 _ _ _)
                                                      refine hp_aload_nS 0 dL_law_1077 rfl rfl (?_ : hp_G _ _ _ _ _ _ _ _ _ 1078 _ _ _)
                                                      refine hp_iload_n 3 dL_law_1078 rfl rfl (?_ : hp_G _ _ _ _ _ _ _ _ _ 1079 _ _ _)
                                                      refine hp_iconst (v := 3) dL_law_1079 ic_3 (?_ : hp_G _ _ _ _ _ _ _ _ _ 1080 _ _ _)
                                                      refine hp_iadd dL_law_1080 (?_ : hp_G _ _ _ _ _ _ _ _ _ 1081 _ _ _)
                                                      replace hf := ob_ hf
                                                      obtain ⟨x273, ex273, hf⟩ := hf
                                                      refine hp_sl dL_law_1081 ex273 (?_ : hp_G _ _ _ _ _ _ _ _ _ 1082 _ _ _)
                                                      refine hp_aload_nS 0 dL_law_1082 rfl rfl (?_ : hp_G _ _ _ _ _ _ _ _ _ 1083 _ _ _)
                                                      refine hp_iload_n 3 dL_law_1083 rfl rfl (?_ : hp_G _ _ _ _ _ _ _ _ _ 1084 _ _ _)
                                                      refine hp_iconst (v := 4) dL_law_1084 ic_4 (?_ : hp_G _ _ _ _ _ _ _ _ _ 1085 _ _ _)
                                                      refine hp_iadd dL_law_1085 (?_ : hp_G _ _ _ _ _ _ _ _ _ 1086 _ _ _)
                                                      replace hf := ob_ hf
                                                      obtain ⟨x274, ex274, hf⟩ := hf
                                                      refine hp_sl dL_law_1086 ex274 (?_ : hp_G _ _ _ _ _ _ _ _ _ 1087 _ _ _)
                                                      refine hp_aload_nS 0 dL_law_1087 rfl rfl (?_ : hp_G _ _ _ _ _ _ _ _ _ 1088 _ _ _)
                                                      refine hp_iload_n 3 dL_law_1088 rfl rfl (?_ : hp_G _ _ _ _ _ _ _ _ _ 1089 _ _ _)
                                                      refine hp_iconst (v := 5) dL_law_1089 ic_5 (?_ : hp_G _ _ _ _ _ _ _ _ _ 1090 _ _ _)
                                                      refine hp_iadd dL_law_1090 (?_ : hp_G _ _ _ _ _ _ _ _ _ 1091 _ _ _)
                                                      replace hf := ob_ hf
                                                      obtain ⟨x275, ex275, hf⟩ := hf
                                                      refine hp_sl dL_law_1091 ex275 (?_ : hp_G _ _ _ _ _ _ _ _ _ 1092 _ _ _)
                                                      replace hf := ob_ hf
                                                      obtain ⟨o276, eo276, hf⟩ := hf
                                                      replace hf := ob_ hf
                                                      obtain ⟨r277, er277, hf⟩ := hf
                                                      refine clL_115 (as := [.int x271, .int x272, .int x273, .int x274, .int x275]) (st := []) rfl (kX8_copy l er277) rfl (by decide) (Nat.le_of_ble_eq_true rfl) eo276 dL_law_1092 rfl (?_ : hp_G _ _ _ _ _ _ _ _ _ 1095 _ _ _)
                                                      refine hp_aload_n 2 dL_law_1095 rfl rfl (?_ : hp_G _ _ _ _ _ _ _ _ _ 1096 _ _ _)
                                                      refine hp_aload_nS 0 dL_law_1096 rfl rfl (?_ : hp_G _ _ _ _ _ _ _ _ _ 1097 _ _ _)
                                                      refine hp_iload_n 3 dL_law_1097 rfl rfl (?_ : hp_G _ _ _ _ _ _ _ _ _ 1098 _ _ _)
                                                      refine hp_iconst (v := 1) dL_law_1098 ic_1 (?_ : hp_G _ _ _ _ _ _ _ _ _ 1099 _ _ _)
                                                      refine hp_iadd dL_law_1099 (?_ : hp_G _ _ _ _ _ _ _ _ _ 1100 _ _ _)
                                                      replace hf := ob_ hf
                                                      obtain ⟨x278, ex278, hf⟩ := hf
                                                      refine hp_sl dL_law_1100 ex278 (?_ : hp_G _ _ _ _ _ _ _ _ _ 1101 _ _ _)
                                                      refine hp_aload_nS 0 dL_law_1101 rfl rfl (?_ : hp_G _ _ _ _ _ _ _ _ _ 1102 _ _ _)
                                                      refine hp_iload_n 3 dL_law_1102 rfl rfl (?_ : hp_G _ _ _ _ _ _ _ _ _ 1103 _ _ _)
                                                      refine hp_iconst (v := 2) dL_law_1103 ic_2 (?_ : hp_G _ _ _ _ _ _ _ _ _ 1104 _ _ _)
                                                      refine hp_iadd dL_law_1104 (?_ : hp_G _ _ _ _ _ _ _ _ _ 1105 _ _ _)
                                                      replace hf := ob_ hf
                                                      obtain ⟨x279, ex279, hf⟩ := hf
                                                      refine hp_sl dL_law_1105 ex279 (?_ : hp_G _ _ _ _ _ _ _ _ _ 1106 _ _ _)
                                                      refine hp_aload_nS 0 dL_law_1106 rfl rfl (?_ : hp_G _ _ _ _ _ _ _ _ _ 1107 _ _ _)
                                                      refine hp_iload_n 3 dL_law_1107 rfl rfl (?_ : hp_G _ _ _ _ _ _ _ _ _ 1108 _ _ _)
                                                      refine hp_iconst (v := 3) dL_law_1108 ic_3 (?_ : hp_G _ _ _ _ _ _ _ _ _ 1109 _ _ _)
                                                      refine hp_iadd dL_law_1109 (?_ : hp_G _ _ _ _ _ _ _ _ _ 1110 _ _ _)
                                                      replace hf := ob_ hf
                                                      obtain ⟨x280, ex280, hf⟩ := hf
                                                      refine hp_sl dL_law_1110 ex280 (?_ : hp_G _ _ _ _ _ _ _ _ _ 1111 _ _ _)
                                                      refine hp_aload_nS 0 dL_law_1111 rfl rfl (?_ : hp_G _ _ _ _ _ _ _ _ _ 1112 _ _ _)
                                                      refine hp_iload_n 3 dL_law_1112 rfl rfl (?_ : hp_G _ _ _ _ _ _ _ _ _ 1113 _ _ _)
                                                      refine hp_iconst (v := 4) dL_law_1113 ic_4 (?_ : hp_G _ _ _ _ _ _ _ _ _ 1114 _ _ _)
                                                      refine hp_iadd dL_law_1114 (?_ : hp_G _ _ _ _ _ _ _ _ _ 1115 _ _ _)
                                                      replace hf := ob_ hf
                                                      obtain ⟨x281, ex281, hf⟩ := hf
                                                      refine hp_sl dL_law_1115 ex281 (?_ : hp_G _ _ _ _ _ _ _ _ _ 1116 _ _ _)
                                                      refine hp_aload_nS 0 dL_law_1116 rfl rfl (?_ : hp_G _ _ _ _ _ _ _ _ _ 1117 _ _ _)
                                                      refine hp_iload_n 3 dL_law_1117 rfl rfl (?_ : hp_G _ _ _ _ _ _ _ _ _ 1118 _ _ _)
                                                      refine hp_iconst (v := 5) dL_law_1118 ic_5 (?_ : hp_G _ _ _ _ _ _ _ _ _ 1119 _ _ _)
                                                      refine hp_iadd dL_law_1119 (?_ : hp_G _ _ _ _ _ _ _ _ _ 1120 _ _ _)
                                                      replace hf := ob_ hf
                                                      obtain ⟨x282, ex282, hf⟩ := hf
                                                      refine hp_sl dL_law_1120 ex282 (?_ : hp_G _ _ _ _ _ _ _ _ _ 1121 _ _ _)
                                                      replace hf := ob_ hf
                                                      obtain ⟨o283, eo283, hf⟩ := hf
                                                      replace hf := ob_ hf
                                                      obtain ⟨r284, er284, hf⟩ := hf
                                                      refine clL_118 (as := [.int x278, .int x279, .int x280, .int x281, .int x282]) (st := [.int r277.1]) rfl (kX9_copy l er284) rfl (by decide) (Nat.le_of_ble_eq_true rfl) eo283 dL_law_1121 rfl (?_ : hp_G _ _ _ _ _ _ _ _ _ 1124 _ _ _)
                                                      refine hp_icmp_eq (tgt := 1257) dL_law_1124 rfl (fun c285 => ?_) (fun c285 => (?_ : hp_G _ _ _ _ _ _ _ _ _ 1127 _ _ _))
                                                      · replace hf := ot_ c285 hf
                                                        exact hp_sub [0, 1, 2, 3] rfl (tjL_law_1257_18 l hf kb ke kr)
                                                      · replace hf := of_ c285 hf
                                                        refine hp_iconst (v := 0) dL_law_1127 ic_0 (?_ : hp_G _ _ _ _ _ _ _ _ _ 1128 _ _ _)
                                                        obtain rfl := Option.some.inj hf
                                                        exact hp_zret (kr _ rfl) (fun z => z) rfl (by decide) dL_law_1128
                                                    · replace hf := of_ c270 hf
                                                      by_cases c286 : x8 &&& 31 = 25
                                                      · replace hf := ot_ c286 hf
                                                        refine hp_tableIn (tgt := 1129) dL_law_33 (by rw [c286]; decide) (by rw [c286]; decide) (by rw [c286]; rfl) (by decide) ?_
                                                        refine hp_aload_n 1 dL_law_1129 rfl rfl (?_ : hp_G _ _ _ _ _ _ _ _ _ 1130 _ _ _)
                                                        refine hp_aload_nS 0 dL_law_1130 rfl rfl (?_ : hp_G _ _ _ _ _ _ _ _ _ 1131 _ _ _)
                                                        refine hp_iload_n 3 dL_law_1131 rfl rfl (?_ : hp_G _ _ _ _ _ _ _ _ _ 1132 _ _ _)
                                                        refine hp_iconst (v := 1) dL_law_1132 ic_1 (?_ : hp_G _ _ _ _ _ _ _ _ _ 1133 _ _ _)
                                                        refine hp_iadd dL_law_1133 (?_ : hp_G _ _ _ _ _ _ _ _ _ 1134 _ _ _)
                                                        replace hf := ob_ hf
                                                        obtain ⟨x287, ex287, hf⟩ := hf
                                                        refine hp_sl dL_law_1134 ex287 (?_ : hp_G _ _ _ _ _ _ _ _ _ 1135 _ _ _)
                                                        replace hf := ob_ hf
                                                        obtain ⟨o288, eo288, hf⟩ := hf
                                                        replace hf := ob_ hf
                                                        obtain ⟨r289, er289, hf⟩ := hf
                                                        refine clL_119 (as := [.int x287]) (st := []) rfl (kX8_tell l er289) rfl (by decide) (Nat.le_of_ble_eq_true rfl) eo288 dL_law_1135 rfl (?_ : hp_G _ _ _ _ _ _ _ _ _ 1138 _ _ _)
                                                        refine hp_aload_n 2 dL_law_1138 rfl rfl (?_ : hp_G _ _ _ _ _ _ _ _ _ 1139 _ _ _)
                                                        refine hp_aload_nS 0 dL_law_1139 rfl rfl (?_ : hp_G _ _ _ _ _ _ _ _ _ 1140 _ _ _)
                                                        refine hp_iload_n 3 dL_law_1140 rfl rfl (?_ : hp_G _ _ _ _ _ _ _ _ _ 1141 _ _ _)
                                                        refine hp_iconst (v := 1) dL_law_1141 ic_1 (?_ : hp_G _ _ _ _ _ _ _ _ _ 1142 _ _ _)
                                                        refine hp_iadd dL_law_1142 (?_ : hp_G _ _ _ _ _ _ _ _ _ 1143 _ _ _)
                                                        replace hf := ob_ hf
                                                        obtain ⟨x290, ex290, hf⟩ := hf
                                                        refine hp_sl dL_law_1143 ex290 (?_ : hp_G _ _ _ _ _ _ _ _ _ 1144 _ _ _)
                                                        replace hf := ob_ hf
                                                        obtain ⟨o291, eo291, hf⟩ := hf
                                                        replace hf := ob_ hf
                                                        obtain ⟨r292, er292, hf⟩ := hf
                                                        refine clL_122 (as := [.int x290]) (st := [.int r289.1]) rfl (kX9_tell l er292) rfl (by decide) (Nat.le_of_ble_eq_true rfl) eo291 dL_law_1144 rfl (?_ : hp_G _ _ _ _ _ _ _ _ _ 1147 _ _ _)
                                                        refine hp_icmp_eq (tgt := 1257) dL_law_1147 rfl (fun c293 => ?_) (fun c293 => (?_ : hp_G _ _ _ _ _ _ _ _ _ 1150 _ _ _))
                                                        · replace hf := ot_ c293 hf
                                                          exact hp_sub [0, 1, 2, 3] rfl (tjL_law_1257_18 l hf kb ke kr)
                                                        · replace hf := of_ c293 hf
                                                          refine hp_iconst (v := 0) dL_law_1150 ic_0 (?_ : hp_G _ _ _ _ _ _ _ _ _ 1151 _ _ _)
                                                          obtain rfl := Option.some.inj hf
                                                          exact hp_zret (kr _ rfl) (fun z => z) rfl (by decide) dL_law_1151
                                                      · replace hf := of_ c286 hf
                                                        by_cases c294 : x8 &&& 31 = 26
                                                        · replace hf := ot_ c294 hf
                                                          refine hp_tableIn (tgt := 1152) dL_law_33 (by rw [c294]; decide) (by rw [c294]; decide) (by rw [c294]; rfl) (by decide) ?_
                                                          refine hp_aload_n 1 dL_law_1152 rfl rfl (?_ : hp_G _ _ _ _ _ _ _ _ _ 1153 _ _ _)
                                                          refine hp_aload_nS 0 dL_law_1153 rfl rfl (?_ : hp_G _ _ _ _ _ _ _ _ _ 1154 _ _ _)
                                                          refine hp_iload_n 3 dL_law_1154 rfl rfl (?_ : hp_G _ _ _ _ _ _ _ _ _ 1155 _ _ _)
                                                          refine hp_iconst (v := 1) dL_law_1155 ic_1 (?_ : hp_G _ _ _ _ _ _ _ _ _ 1156 _ _ _)
                                                          refine hp_iadd dL_law_1156 (?_ : hp_G _ _ _ _ _ _ _ _ _ 1157 _ _ _)
                                                          replace hf := ob_ hf
                                                          obtain ⟨x295, ex295, hf⟩ := hf
                                                          refine hp_sl dL_law_1157 ex295 (?_ : hp_G _ _ _ _ _ _ _ _ _ 1158 _ _ _)
                                                          replace hf := ob_ hf
                                                          obtain ⟨o296, eo296, hf⟩ := hf
                                                          replace hf := ob_ hf
                                                          obtain ⟨r297, er297, hf⟩ := hf
                                                          refine clL_123 (as := [.int x295]) (st := []) rfl (kX8_wave l er297) rfl (by decide) (Nat.le_of_ble_eq_true rfl) eo296 dL_law_1158 rfl (?_ : hp_G _ _ _ _ _ _ _ _ _ 1161 _ _ _)
                                                          refine hp_aload_n 2 dL_law_1161 rfl rfl (?_ : hp_G _ _ _ _ _ _ _ _ _ 1162 _ _ _)
                                                          refine hp_aload_nS 0 dL_law_1162 rfl rfl (?_ : hp_G _ _ _ _ _ _ _ _ _ 1163 _ _ _)
                                                          refine hp_iload_n 3 dL_law_1163 rfl rfl (?_ : hp_G _ _ _ _ _ _ _ _ _ 1164 _ _ _)
                                                          refine hp_iconst (v := 1) dL_law_1164 ic_1 (?_ : hp_G _ _ _ _ _ _ _ _ _ 1165 _ _ _)
                                                          refine hp_iadd dL_law_1165 (?_ : hp_G _ _ _ _ _ _ _ _ _ 1166 _ _ _)
                                                          replace hf := ob_ hf
                                                          obtain ⟨x298, ex298, hf⟩ := hf
                                                          refine hp_sl dL_law_1166 ex298 (?_ : hp_G _ _ _ _ _ _ _ _ _ 1167 _ _ _)
                                                          replace hf := ob_ hf
                                                          obtain ⟨o299, eo299, hf⟩ := hf
                                                          replace hf := ob_ hf
                                                          obtain ⟨r300, er300, hf⟩ := hf
                                                          refine clL_126 (as := [.int x298]) (st := [.int r297.1]) rfl (kX9_wave l er300) rfl (by decide) (Nat.le_of_ble_eq_true rfl) eo299 dL_law_1167 rfl (?_ : hp_G _ _ _ _ _ _ _ _ _ 1170 _ _ _)
                                                          refine hp_icmp_eq (tgt := 1257) dL_law_1170 rfl (fun c301 => ?_) (fun c301 => (?_ : hp_G _ _ _ _ _ _ _ _ _ 1173 _ _ _))
                                                          · replace hf := ot_ c301 hf
                                                            exact hp_sub [0, 1, 2, 3] rfl (tjL_law_1257_18 l hf kb ke kr)
                                                          · replace hf := of_ c301 hf
                                                            refine hp_iconst (v := 0) dL_law_1173 ic_0 (?_ : hp_G _ _ _ _ _ _ _ _ _ 1174 _ _ _)
                                                            obtain rfl := Option.some.inj hf
                                                            exact hp_zret (kr _ rfl) (fun z => z) rfl (by decide) dL_law_1174
                                                        · replace hf := of_ c294 hf
                                                          by_cases c302 : x8 &&& 31 = 27
                                                          · replace hf := ot_ c302 hf
                                                            refine hp_tableIn (tgt := 1175) dL_law_33 (by rw [c302]; decide) (by rw [c302]; decide) (by rw [c302]; rfl) (by decide) ?_
                                                            refine hp_aload_n 1 dL_law_1175 rfl rfl (?_ : hp_G _ _ _ _ _ _ _ _ _ 1176 _ _ _)
                                                            refine hp_aload_nS 0 dL_law_1176 rfl rfl (?_ : hp_G _ _ _ _ _ _ _ _ _ 1177 _ _ _)
                                                            refine hp_iload_n 3 dL_law_1177 rfl rfl (?_ : hp_G _ _ _ _ _ _ _ _ _ 1178 _ _ _)
                                                            refine hp_iconst (v := 1) dL_law_1178 ic_1 (?_ : hp_G _ _ _ _ _ _ _ _ _ 1179 _ _ _)
                                                            refine hp_iadd dL_law_1179 (?_ : hp_G _ _ _ _ _ _ _ _ _ 1180 _ _ _)
                                                            replace hf := ob_ hf
                                                            obtain ⟨x303, ex303, hf⟩ := hf
                                                            refine hp_sl dL_law_1180 ex303 (?_ : hp_G _ _ _ _ _ _ _ _ _ 1181 _ _ _)
                                                            refine hp_aload_nS 0 dL_law_1181 rfl rfl (?_ : hp_G _ _ _ _ _ _ _ _ _ 1182 _ _ _)
                                                            refine hp_iload_n 3 dL_law_1182 rfl rfl (?_ : hp_G _ _ _ _ _ _ _ _ _ 1183 _ _ _)
                                                            refine hp_iconst (v := 2) dL_law_1183 ic_2 (?_ : hp_G _ _ _ _ _ _ _ _ _ 1184 _ _ _)
                                                            refine hp_iadd dL_law_1184 (?_ : hp_G _ _ _ _ _ _ _ _ _ 1185 _ _ _)
                                                            replace hf := ob_ hf
                                                            obtain ⟨x304, ex304, hf⟩ := hf
                                                            refine hp_sl dL_law_1185 ex304 (?_ : hp_G _ _ _ _ _ _ _ _ _ 1186 _ _ _)
                                                            replace hf := ob_ hf
                                                            obtain ⟨o305, eo305, hf⟩ := hf
                                                            replace hf := ob_ hf
                                                            obtain ⟨r306, er306, hf⟩ := hf
                                                            refine clL_127 (as := [.int x303, .int x304]) (st := []) rfl (kX8_as l er306) rfl (by decide) (Nat.le_of_ble_eq_true rfl) eo305 dL_law_1186 rfl (?_ : hp_G _ _ _ _ _ _ _ _ _ 1189 _ _ _)
                                                            refine hp_aload_n 2 dL_law_1189 rfl rfl (?_ : hp_G _ _ _ _ _ _ _ _ _ 1190 _ _ _)
                                                            refine hp_aload_nS 0 dL_law_1190 rfl rfl (?_ : hp_G _ _ _ _ _ _ _ _ _ 1191 _ _ _)
                                                            refine hp_iload_n 3 dL_law_1191 rfl rfl (?_ : hp_G _ _ _ _ _ _ _ _ _ 1192 _ _ _)
                                                            refine hp_iconst (v := 1) dL_law_1192 ic_1 (?_ : hp_G _ _ _ _ _ _ _ _ _ 1193 _ _ _)
                                                            refine hp_iadd dL_law_1193 (?_ : hp_G _ _ _ _ _ _ _ _ _ 1194 _ _ _)
                                                            replace hf := ob_ hf
                                                            obtain ⟨x307, ex307, hf⟩ := hf
                                                            refine hp_sl dL_law_1194 ex307 (?_ : hp_G _ _ _ _ _ _ _ _ _ 1195 _ _ _)
                                                            refine hp_aload_nS 0 dL_law_1195 rfl rfl (?_ : hp_G _ _ _ _ _ _ _ _ _ 1196 _ _ _)
                                                            refine hp_iload_n 3 dL_law_1196 rfl rfl (?_ : hp_G _ _ _ _ _ _ _ _ _ 1197 _ _ _)
                                                            refine hp_iconst (v := 2) dL_law_1197 ic_2 (?_ : hp_G _ _ _ _ _ _ _ _ _ 1198 _ _ _)
                                                            refine hp_iadd dL_law_1198 (?_ : hp_G _ _ _ _ _ _ _ _ _ 1199 _ _ _)
                                                            replace hf := ob_ hf
                                                            obtain ⟨x308, ex308, hf⟩ := hf
                                                            refine hp_sl dL_law_1199 ex308 (?_ : hp_G _ _ _ _ _ _ _ _ _ 1200 _ _ _)
                                                            replace hf := ob_ hf
                                                            obtain ⟨o309, eo309, hf⟩ := hf
                                                            replace hf := ob_ hf
                                                            obtain ⟨r310, er310, hf⟩ := hf
                                                            refine clL_130 (as := [.int x307, .int x308]) (st := [.int r306.1]) rfl (kX9_as l er310) rfl (by decide) (Nat.le_of_ble_eq_true rfl) eo309 dL_law_1200 rfl (?_ : hp_G _ _ _ _ _ _ _ _ _ 1203 _ _ _)
                                                            refine hp_icmp_eq (tgt := 1257) dL_law_1203 rfl (fun c311 => ?_) (fun c311 => (?_ : hp_G _ _ _ _ _ _ _ _ _ 1206 _ _ _))
                                                            · replace hf := ot_ c311 hf
                                                              exact hp_sub [0, 1, 2, 3] rfl (tjL_law_1257_18 l hf kb ke kr)
                                                            · replace hf := of_ c311 hf
                                                              refine hp_iconst (v := 0) dL_law_1206 ic_0 (?_ : hp_G _ _ _ _ _ _ _ _ _ 1207 _ _ _)
                                                              obtain rfl := Option.some.inj hf
                                                              exact hp_zret (kr _ rfl) (fun z => z) rfl (by decide) dL_law_1207
                                                          · replace hf := of_ c302 hf
                                                            by_cases c312 : x8 &&& 31 = 28
                                                            · replace hf := ot_ c312 hf
                                                              refine hp_tableIn (tgt := 1208) dL_law_33 (by rw [c312]; decide) (by rw [c312]; decide) (by rw [c312]; rfl) (by decide) ?_
                                                              refine hp_aload_n 1 dL_law_1208 rfl rfl (?_ : hp_G _ _ _ _ _ _ _ _ _ 1209 _ _ _)
                                                              replace hf := ob_ hf
                                                              obtain ⟨o313, eo313, hf⟩ := hf
                                                              replace hf := ob_ hf
                                                              obtain ⟨r314, er314, hf⟩ := hf
                                                              refine clL_131 (as := []) (st := []) rfl (kX8_trace l er314) rfl (by decide) (Nat.le_of_ble_eq_true rfl) eo313 dL_law_1209 rfl (?_ : hp_G _ _ _ _ _ _ _ _ _ 1212 _ _ _)
                                                              refine hp_aload_n 2 dL_law_1212 rfl rfl (?_ : hp_G _ _ _ _ _ _ _ _ _ 1213 _ _ _)
                                                              replace hf := ob_ hf
                                                              obtain ⟨o315, eo315, hf⟩ := hf
                                                              replace hf := ob_ hf
                                                              obtain ⟨r316, er316, hf⟩ := hf
                                                              refine clL_135 (as := []) (st := [.int r314]) rfl (kX9_trace l er316) rfl (by decide) (Nat.le_of_ble_eq_true rfl) eo315 dL_law_1213 rfl (?_ : hp_G _ _ _ _ _ _ _ _ _ 1216 _ _ _)
                                                              refine hp_icmp_eq (tgt := 1257) dL_law_1216 rfl (fun c317 => ?_) (fun c317 => (?_ : hp_G _ _ _ _ _ _ _ _ _ 1219 _ _ _))
                                                              · replace hf := ot_ c317 hf
                                                                exact hp_sub [0, 1, 2, 3] rfl (tjL_law_1257_18 l hf kb ke kr)
                                                              · replace hf := of_ c317 hf
                                                                refine hp_iconst (v := 0) dL_law_1219 ic_0 (?_ : hp_G _ _ _ _ _ _ _ _ _ 1220 _ _ _)
                                                                obtain rfl := Option.some.inj hf
                                                                exact hp_zret (kr _ rfl) (fun z => z) rfl (by decide) dL_law_1220
                                                            · replace hf := of_ c312 hf
                                                              by_cases c318 : x8 &&& 31 = 29
                                                              · replace hf := ot_ c318 hf
                                                                refine hp_tableIn (tgt := 1221) dL_law_33 (by rw [c318]; decide) (by rw [c318]; decide) (by rw [c318]; rfl) (by decide) ?_
                                                                refine hp_aload_n 1 dL_law_1221 rfl rfl (?_ : hp_G _ _ _ _ _ _ _ _ _ 1222 _ _ _)
                                                                replace hf := ob_ hf
                                                                obtain ⟨o319, eo319, hf⟩ := hf
                                                                replace hf := ob_ hf
                                                                obtain ⟨r320, er320, hf⟩ := hf
                                                                refine clL_136 (as := []) (st := []) rfl (kX8_fault l er320) rfl (by decide) (Nat.le_of_ble_eq_true rfl) eo319 dL_law_1222 rfl (?_ : hp_G _ _ _ _ _ _ _ _ _ 1225 _ _ _)
                                                                refine hp_aload_n 2 dL_law_1225 rfl rfl (?_ : hp_G _ _ _ _ _ _ _ _ _ 1226 _ _ _)
                                                                replace hf := ob_ hf
                                                                obtain ⟨o321, eo321, hf⟩ := hf
                                                                replace hf := ob_ hf
                                                                obtain ⟨r322, er322, hf⟩ := hf
                                                                refine clL_139 (as := []) (st := [.int r320]) rfl (kX9_fault l er322) rfl (by decide) (Nat.le_of_ble_eq_true rfl) eo321 dL_law_1226 rfl (?_ : hp_G _ _ _ _ _ _ _ _ _ 1229 _ _ _)
                                                                refine hp_icmp_eq (tgt := 1257) dL_law_1229 rfl (fun c323 => ?_) (fun c323 => (?_ : hp_G _ _ _ _ _ _ _ _ _ 1232 _ _ _))
                                                                · replace hf := ot_ c323 hf
                                                                  exact hp_sub [0, 1, 2, 3] rfl (tjL_law_1257_18 l hf kb ke kr)
                                                                · replace hf := of_ c323 hf
                                                                  refine hp_iconst (v := 0) dL_law_1232 ic_0 (?_ : hp_G _ _ _ _ _ _ _ _ _ 1233 _ _ _)
                                                                  obtain rfl := Option.some.inj hf
                                                                  exact hp_zret (kr _ rfl) (fun z => z) rfl (by decide) dL_law_1233
                                                              · replace hf := of_ c318 hf
                                                                by_cases c324 : x8 &&& 31 = 30
                                                                · replace hf := ot_ c324 hf
                                                                  refine hp_tableIn (tgt := 1234) dL_law_33 (by rw [c324]; decide) (by rw [c324]; decide) (by rw [c324]; rfl) (by decide) ?_
                                                                  refine hp_aload_n 1 dL_law_1234 rfl rfl (?_ : hp_G _ _ _ _ _ _ _ _ _ 1235 _ _ _)
                                                                  refine hp_aload_nS 0 dL_law_1235 rfl rfl (?_ : hp_G _ _ _ _ _ _ _ _ _ 1236 _ _ _)
                                                                  refine hp_iload_n 3 dL_law_1236 rfl rfl (?_ : hp_G _ _ _ _ _ _ _ _ _ 1237 _ _ _)
                                                                  refine hp_iconst (v := 1) dL_law_1237 ic_1 (?_ : hp_G _ _ _ _ _ _ _ _ _ 1238 _ _ _)
                                                                  refine hp_iadd dL_law_1238 (?_ : hp_G _ _ _ _ _ _ _ _ _ 1239 _ _ _)
                                                                  replace hf := ob_ hf
                                                                  obtain ⟨x325, ex325, hf⟩ := hf
                                                                  refine hp_sl dL_law_1239 ex325 (?_ : hp_G _ _ _ _ _ _ _ _ _ 1240 _ _ _)
                                                                  replace hf := ob_ hf
                                                                  obtain ⟨o326, eo326, hf⟩ := hf
                                                                  replace hf := ob_ hf
                                                                  obtain ⟨r327, er327, hf⟩ := hf
                                                                  refine clL_140 (as := [.int x325]) (st := []) rfl (kX8_many l er327) rfl (by decide) (Nat.le_of_ble_eq_true rfl) eo326 dL_law_1240 rfl (?_ : hp_G _ _ _ _ _ _ _ _ _ 1243 _ _ _)
                                                                  refine hp_aload_n 2 dL_law_1243 rfl rfl (?_ : hp_G _ _ _ _ _ _ _ _ _ 1244 _ _ _)
                                                                  refine hp_aload_nS 0 dL_law_1244 rfl rfl (?_ : hp_G _ _ _ _ _ _ _ _ _ 1245 _ _ _)
                                                                  refine hp_iload_n 3 dL_law_1245 rfl rfl (?_ : hp_G _ _ _ _ _ _ _ _ _ 1246 _ _ _)
                                                                  refine hp_iconst (v := 1) dL_law_1246 ic_1 (?_ : hp_G _ _ _ _ _ _ _ _ _ 1247 _ _ _)
                                                                  refine hp_iadd dL_law_1247 (?_ : hp_G _ _ _ _ _ _ _ _ _ 1248 _ _ _)
                                                                  replace hf := ob_ hf
                                                                  obtain ⟨x328, ex328, hf⟩ := hf
                                                                  refine hp_sl dL_law_1248 ex328 (?_ : hp_G _ _ _ _ _ _ _ _ _ 1249 _ _ _)
                                                                  replace hf := ob_ hf
                                                                  obtain ⟨o329, eo329, hf⟩ := hf
                                                                  replace hf := ob_ hf
                                                                  obtain ⟨r330, er330, hf⟩ := hf
                                                                  refine clL_143 (as := [.int x328]) (st := [.int r327]) rfl (kX9_many l er330) rfl (by decide) (Nat.le_of_ble_eq_true rfl) eo329 dL_law_1249 rfl (?_ : hp_G _ _ _ _ _ _ _ _ _ 1252 _ _ _)
                                                                  refine hp_icmp_eq (tgt := 1257) dL_law_1252 rfl (fun c331 => ?_) (fun c331 => (?_ : hp_G _ _ _ _ _ _ _ _ _ 1255 _ _ _))
                                                                  · replace hf := ot_ c331 hf
                                                                    exact hp_sub [0, 1, 2, 3] rfl (tjL_law_1257_18 l hf kb ke kr)
                                                                  · replace hf := of_ c331 hf
                                                                    refine hp_iconst (v := 0) dL_law_1255 ic_0 (?_ : hp_G _ _ _ _ _ _ _ _ _ 1256 _ _ _)
                                                                    obtain rfl := Option.some.inj hf
                                                                    exact hp_zret (kr _ rfl) (fun z => z) rfl (by decide) dL_law_1256
                                                                · replace hf := of_ c324 hf
                                                                  refine hp_tableOut (tgt := 1257) dL_law_33 (by have q0 := hp_nei (z := 0) (by decide) c9; have q1 := hp_nei (z := 1) (by decide) c24; have q2 := hp_nei (z := 2) (by decide) c34; have q3 := hp_nei (z := 3) (by decide) c44; have q4 := hp_nei (z := 4) (by decide) c54; have q5 := hp_nei (z := 5) (by decide) c68; have q6 := hp_nei (z := 6) (by decide) c78; have q7 := hp_nei (z := 7) (by decide) c86; have q8 := hp_nei (z := 8) (by decide) c102; have q9 := hp_nei (z := 9) (by decide) c112; have q10 := hp_nei (z := 10) (by decide) c120; have q11 := hp_nei (z := 11) (by decide) c130; have q12 := hp_nei (z := 12) (by decide) c138; have q13 := hp_nei (z := 13) (by decide) c154; have q14 := hp_nei (z := 14) (by decide) c168; have q15 := hp_nei (z := 15) (by decide) c182; have q16 := hp_nei (z := 16) (by decide) c190; have q17 := hp_nei (z := 17) (by decide) c198; have q18 := hp_nei (z := 18) (by decide) c206; have q19 := hp_nei (z := 19) (by decide) c214; have q20 := hp_nei (z := 20) (by decide) c226; have q21 := hp_nei (z := 21) (by decide) c238; have q22 := hp_nei (z := 22) (by decide) c246; have q23 := hp_nei (z := 23) (by decide) c258; have q24 := hp_nei (z := 24) (by decide) c270; have q25 := hp_nei (z := 25) (by decide) c286; have q26 := hp_nei (z := 26) (by decide) c294; have q27 := hp_nei (z := 27) (by decide) c302; have q28 := hp_nei (z := 28) (by decide) c312; have q29 := hp_nei (z := 29) (by decide) c318; have q30 := hp_nei (z := 30) (by decide) c324; omega) (by decide) ?_
                                                                  exact hp_sub [0, 1, 2, 3] rfl (tjL_law_1257_18 l hf kb ke kr)
set_option maxRecDepth 20000 in
set_option maxHeartbeats 4000000 in
theorem tlL_law_18 {L : Nat} {xs : Nat → Int32} (l : Launch) {v1 : Nat} {v2 : Nat}  (q : Nat) {s : (Int32 × hp_H)} {x : (hp_H ⊕ (Int32 × hp_H))} (hf : it_ (bL_law_18 L xs  v1 v2) q s = some x) {Q : Option Value → hp_H → Prop} (ke : ∀ e, x = .inl e → hp_G l mL_law (some (L, xs)) 14 false Q false 0 0 1263 [] [] e) (kr : ∀ z, x = .inr z → Q (some (.int z.1)) z.2) : hp_G l mL_law (some (L, xs)) 14 false Q false 0 0 18 [(0, .float 0), (1, .ref v1), (2, .ref v2), (3, .int s.1)] [] s.2 := by
  exact it_rule (f := bL_law_18 L xs  v1 v2) (fun s => hp_G l mL_law (some (L, xs)) 14 false Q false 0 0 18 [(0, .float 0), (1, .ref v1), (2, .ref v2), (3, .int s.1)] [] s.2) (fun x => (∀ e, x = .inl e → hp_G l mL_law (some (L, xs)) 14 false Q false 0 0 1263 [] [] e) ∧ (∀ z, x = .inr z → Q (some (.int z.1)) z.2)) (fun s r h1 h2 h3 => tbL_law_18 l h1 (fun t e => h2 t e) (fun e he => (h3 _ he).1 _ rfl) (fun z he => (h3 _ he).2 _ rfl)) q s x hf ⟨ke, kr⟩
noncomputable def fL_law (L : Nat) (xs : Nat → Int32) (h : hp_H)  : Option (Int32 × hp_H) :=
(some (List.length h)).bind fun na2 =>
(some (h ++ [.inl (7, [.null, .null, .null, .null, .null, .null, .int 0, .int 0, .int 0])])).bind fun h1 =>
(fX8_init h1 na2).bind fun r3 =>
(some (List.length r3)).bind fun na5 =>
(some (r3 ++ [.inl (8, [.int 0, .int 0, .null, .null, .null, .int 0, .int 0, .int 0, .null, .null, .null, .int 0, .int 0, .null, .null, .null, .int 0, .int 0, .null, .null, .int 0, .int 0, .null, .null, .int 0, .null, .null, .null, .null])])).bind fun h4 =>
(fX9_init h4 na5).bind fun r6 =>
(it_ (bL_law_18 L xs  na2 na5) fu_ (0, r6)).bind fun x332 =>
match x332 with
| .inl y333 => (some (1, y333))
| .inr z334 => some z334
set_option maxRecDepth 20000 in
set_option maxHeartbeats 4000000 in
theorem tL_law {L : Nat} {xs : Nat → Int32} (l : Launch) {h : hp_H}  {r : (Int32 × hp_H)} (hf : fL_law L xs h  = some r) {Q : Option Value → hp_H → Prop} (kr : Q (some (.int r.1)) r.2) : hp_G l mL_law (some (L, xs)) 14 false Q true 58 857 0 [(0, .float 0)] [] h := by
  unfold fL_law at hf
  replace hf := ob_ hf
  obtain ⟨na2, ena2, hf⟩ := hf
  replace hf := ob_ hf
  obtain ⟨h1, eh1, hf⟩ := hf
  refine nnL_7 (k := 57) (n := 848) rfl dL_law_0 (hp_nh ena2 eh1 ?_)
  refine hp_dup dL_law_3 rfl (?_ : hp_G _ _ _ _ _ _ _ _ _ 4 _ _ _)
  replace hf := ob_ hf
  obtain ⟨r3, er3, hf⟩ := hf
  refine clL_9 (k := 18) (n := 381) (as := []) (st := [.ref na2]) rfl (kX8_init l er3) rfl (by decide) (Nat.le_of_ble_eq_true rfl) dL_law_4 rfl (?_ : hp_G _ _ _ _ _ _ _ _ _ 7 _ _ _)
  refine hp_astore_n (lv' := [(1, .ref na2), (0, .float 0)]) dL_law_7 rfl (Nat.le_of_ble_eq_true rfl) rfl (?_ : hp_G _ _ _ _ _ _ _ _ _ 8 _ _ _)
  replace hf := ob_ hf
  obtain ⟨na5, ena5, hf⟩ := hf
  replace hf := ob_ hf
  obtain ⟨h4, eh4, hf⟩ := hf
  refine nnL_10 (k := 17) (n := 352) rfl dL_law_8 (hp_nh ena5 eh4 ?_)
  refine hp_dup dL_law_11 rfl (?_ : hp_G _ _ _ _ _ _ _ _ _ 12 _ _ _)
  replace hf := ob_ hf
  obtain ⟨r6, er6, hf⟩ := hf
  refine clL_12 (k := 0) (n := 0) (as := []) (st := [.ref na5]) rfl (kX9_init l er6) rfl (by decide) (Nat.le_of_ble_eq_true rfl) dL_law_12 rfl (?_ : hp_G _ _ _ _ _ _ _ _ _ 15 _ _ _)
  refine hp_astore_n (lv' := [(2, .ref na5), (1, .ref na2), (0, .float 0)]) dL_law_15 rfl (Nat.le_of_ble_eq_true rfl) rfl (?_ : hp_G _ _ _ _ _ _ _ _ _ 16 _ _ _)
  refine hp_iconst (v := 0) dL_law_16 ic_0 (?_ : hp_G _ _ _ _ _ _ _ _ _ 17 _ _ _)
  refine hp_istore_n (lv' := [(3, .int 0), (2, .ref na5), (1, .ref na2), (0, .float 0)]) dL_law_17 rfl (Nat.le_of_ble_eq_true rfl) rfl (?_ : hp_G _ _ _ _ _ _ _ _ _ 18 _ _ _)
  refine hp_nz ?_
  replace hf := ob_ hf
  obtain ⟨x332, ex332, hf⟩ := hf
  refine hp_sub [3, 2, 1, 0] rfl ?_
  rcases x332 with y333 | z334
  · (try dsimp only at hf)
    refine tlL_law_18 l fu_ ex332 (fun w hw => ?_) (fun w hw => (by cases hw))
    obtain rfl := Sum.inl.inj hw
    refine hp_iconst (v := 1) dL_law_1263 ic_1 (?_ : hp_G _ _ _ _ _ _ _ _ _ 1264 _ _ _)
    obtain rfl := Option.some.inj hf
    exact hp_zret kr (fun z => z) rfl (by decide) dL_law_1264
  · (try dsimp only at hf)
    refine tlL_law_18 l fu_ ex332 (fun w hw => (by cases hw)) (fun w hw => ?_)
    obtain rfl := Sum.inr.inj hw
    obtain rfl := Option.some.inj hf
    exact kr
