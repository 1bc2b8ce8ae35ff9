noncomputable def fX2_worst (h : hp_H) (a0 : Nat) : Option Int32 :=
(hg_o h a0 2).bind fun o1 =>
(fX2_best h a0).bind fun r2 =>
(gi_ h a0 2 2).bind fun x3 =>
some (mx_ 0 (r2 - x3))
set_option maxRecDepth 20000 in
set_option maxHeartbeats 4000000 in
theorem tX2_worst (l : Launch) {h : hp_H} {a0 : Nat} {r : Int32} (hf : fX2_worst h a0 = some r) {Q : Option Value → hp_H → Prop} (kr : Q (some (.int r)) h) : hp_G l mX2_worst none 1 false Q false 0 0 0 [(0, .ref a0)] [] h := by
  unfold fX2_worst at hf
  refine hp_iconst (v := 0) dX2_worst_0 ic_0 (?_ : hp_G _ _ _ _ _ _ _ _ _ 1 _ _ _)
  refine hp_aload_n 0 dX2_worst_1 rfl rfl (?_ : hp_G _ _ _ _ _ _ _ _ _ 2 _ _ _)
  replace hf := ob_ hf
  obtain ⟨o1, eo1, hf⟩ := hf
  replace hf := ob_ hf
  obtain ⟨r2, er2, hf⟩ := hf
  refine clX2_21 (as := []) (st := [.int 0]) rfl (kX2_best l er2) rfl (by decide) (Nat.le_of_ble_eq_true rfl) eo1 dX2_worst_2 rfl (?_ : hp_G _ _ _ _ _ _ _ _ _ 5 _ _ _)
  refine hp_aload_n 0 dX2_worst_5 rfl rfl (?_ : hp_G _ _ _ _ _ _ _ _ _ 6 _ _ _)
  replace hf := ob_ hf
  obtain ⟨x3, ex3, hf⟩ := hf
  refine fgX2_18 rfl dX2_worst_6 ex3 (?_ : hp_G _ _ _ _ _ _ _ _ _ 9 _ _ _)
  refine hp_isub dX2_worst_9 (?_ : hp_G _ _ _ _ _ _ _ _ _ 10 _ _ _)
  refine mmX2_25 rfl (by decide) (Nat.le_of_ble_eq_true rfl) dX2_worst_10 (?_ : hp_G _ _ _ _ _ _ _ _ _ 13 _ _ _)
  obtain rfl := Option.some.inj hf
  exact hp_iret kr (fun z => z) rfl dX2_worst_13
theorem kX2_worst (l : Launch) {h : hp_H} {a0 : Nat} {r : Int32} (hf : fX2_worst h a0 = some r) : hp_Cn l yX2_worst mX2_worst 1 false 0 0 [.ref a0] h (fun v h2 => some (.int r) = v ∧ h = h2) :=
  hp_of (by decide) rfl (fun z => by cases z) (Nat.le_of_ble_eq_true rfl) (tX2_worst l hf ⟨rfl, rfl⟩)
noncomputable def fX8_ofPerson (h : hp_H) (a0 : Nat) (p1 : Int32) (p2 : Int32) : Option Int32 :=
(gq_ h a0 7 0).bind fun x1 =>
(hg_o h x1 6).bind fun o2 =>
(fX7_has h x1 p1).bind fun r3 =>
if r3 = 0 then
(some (-1))
else
((gq_ h a0 7 0).bind fun x5 =>
(gq_ h x5 6 0).bind fun x6 =>
(ql_ h x6 p1).bind fun x7 =>
if p2 = 0 then
((hg_o h x7 2).bind fun o9 =>
(fX2_trait h x7 p2).bind fun r10 =>
some r10)
else
(if p2 = 1 then
((hg_o h x7 2).bind fun o12 =>
(fX2_trait h x7 p2).bind fun r13 =>
some r13)
else
(if p2 = 2 then
((hg_o h x7 2).bind fun o15 =>
(fX2_trait h x7 p2).bind fun r16 =>
some r16)
else
(if p2 = 3 then
((hg_o h x7 2).bind fun o18 =>
(fX2_best h x7).bind fun r19 =>
some r19)
else
(if p2 = 4 then
((hg_o h x7 2).bind fun o21 =>
(fX2_worst h x7).bind fun r22 =>
some r22)
else
(if p2 = 5 then
((gi_ h x7 2 3).bind fun x24 =>
if x24 = 0 then
(some 0)
else
(some 1))
else
(some (-2))))))))
set_option maxRecDepth 20000 in
set_option maxHeartbeats 4000000 in
theorem tX8_ofPerson (l : Launch) {h : hp_H} {a0 : Nat} {p1 : Int32} {p2 : Int32} {r : Int32} (hf : fX8_ofPerson h a0 p1 p2 = some r) {Q : Option Value → hp_H → Prop} (kr : Q (some (.int r)) h) : hp_G l mX8_ofPerson none 2 false Q false 0 0 0 [(0, .ref a0), (1, .int p1), (2, .int p2)] [] h := by
  unfold fX8_ofPerson at hf
  refine hp_aload_n 0 dX8_ofPerson_0 rfl rfl (?_ : hp_G _ _ _ _ _ _ _ _ _ 1 _ _ _)
  replace hf := ob_ hf
  obtain ⟨x1, ex1, hf⟩ := hf
  refine fgX8_12 rfl dX8_ofPerson_1 ex1 (?_ : hp_G _ _ _ _ _ _ _ _ _ 4 _ _ _)
  refine hp_iload_n 1 dX8_ofPerson_4 rfl rfl (?_ : hp_G _ _ _ _ _ _ _ _ _ 5 _ _ _)
  replace hf := ob_ hf
  obtain ⟨o2, eo2, hf⟩ := hf
  replace hf := ob_ hf
  obtain ⟨r3, er3, hf⟩ := hf
  refine clX8_93 (as := [.int p1]) (st := []) rfl (kX7_has l er3) rfl (by decide) (Nat.le_of_ble_eq_true rfl) eo2 dX8_ofPerson_5 rfl (?_ : hp_G _ _ _ _ _ _ _ _ _ 8 _ _ _)
  refine hp_if_ne (tgt := 13) dX8_ofPerson_8 rfl (fun c4 => ?_) (fun c4 => (?_ : hp_G _ _ _ _ _ _ _ _ _ 11 _ _ _))
  · replace hf := of_ c4 hf
    refine hp_aload_n 0 dX8_ofPerson_13 rfl rfl (?_ : hp_G _ _ _ _ _ _ _ _ _ 14 _ _ _)
    replace hf := ob_ hf
    obtain ⟨x5, ex5, hf⟩ := hf
    refine fgX8_12 rfl dX8_ofPerson_14 ex5 (?_ : hp_G _ _ _ _ _ _ _ _ _ 17 _ _ _)
    replace hf := ob_ hf
    obtain ⟨x6, ex6, hf⟩ := hf
    refine fgX8_96 rfl dX8_ofPerson_17 ex6 (?_ : hp_G _ _ _ _ _ _ _ _ _ 20 _ _ _)
    refine hp_iload_n 1 dX8_ofPerson_20 rfl rfl (?_ : hp_G _ _ _ _ _ _ _ _ _ 21 _ _ _)
    replace hf := ob_ hf
    obtain ⟨x7, ex7, hf⟩ := hf
    refine hp_aaload dX8_ofPerson_21 ex7 (?_ : hp_G _ _ _ _ _ _ _ _ _ 22 _ _ _)
    refine hp_astore_n (lv' := [(3, .ref x7), (0, .ref a0), (1, .int p1), (2, .int p2)]) dX8_ofPerson_22 rfl (Nat.le_of_ble_eq_true rfl) rfl (?_ : hp_G _ _ _ _ _ _ _ _ _ 23 _ _ _)
    refine hp_iload_n 3 dX8_ofPerson_23 rfl rfl (?_ : hp_G _ _ _ _ _ _ _ _ _ 24 _ _ _)
    by_cases c8 : p2 = 0
    · replace hf := ot_ c8 hf
      refine hp_tableIn (tgt := 64) dX8_ofPerson_24 (by rw [c8]; decide) (by rw [c8]; decide) (by rw [c8]; rfl) (by decide) ?_
      refine hp_aload_n 0 dX8_ofPerson_64 rfl rfl (?_ : hp_G _ _ _ _ _ _ _ _ _ 65 _ _ _)
      refine hp_iload_n 3 dX8_ofPerson_65 rfl rfl (?_ : hp_G _ _ _ _ _ _ _ _ _ 66 _ _ _)
      replace hf := ob_ hf
      obtain ⟨o9, eo9, hf⟩ := hf
      replace hf := ob_ hf
      obtain ⟨r10, er10, hf⟩ := hf
      refine clX8_100 (as := [.int p2]) (st := []) rfl (kX2_trait l er10) rfl (by decide) (Nat.le_of_ble_eq_true rfl) eo9 dX8_ofPerson_66 rfl (?_ : hp_G _ _ _ _ _ _ _ _ _ 69 _ _ _)
      obtain rfl := Option.some.inj hf
      exact hp_iret kr (fun z => z) rfl dX8_ofPerson_69
    · replace hf := of_ c8 hf
      by_cases c11 : p2 = 1
      · replace hf := ot_ c11 hf
        refine hp_tableIn (tgt := 64) dX8_ofPerson_24 (by rw [c11]; decide) (by rw [c11]; decide) (by rw [c11]; rfl) (by decide) ?_
        refine hp_aload_n 0 dX8_ofPerson_64 rfl rfl (?_ : hp_G _ _ _ _ _ _ _ _ _ 65 _ _ _)
        refine hp_iload_n 3 dX8_ofPerson_65 rfl rfl (?_ : hp_G _ _ _ _ _ _ _ _ _ 66 _ _ _)
        replace hf := ob_ hf
        obtain ⟨o12, eo12, hf⟩ := hf
        replace hf := ob_ hf
        obtain ⟨r13, er13, hf⟩ := hf
        refine clX8_100 (as := [.int p2]) (st := []) rfl (kX2_trait l er13) rfl (by decide) (Nat.le_of_ble_eq_true rfl) eo12 dX8_ofPerson_66 rfl (?_ : hp_G _ _ _ _ _ _ _ _ _ 69 _ _ _)
        obtain rfl := Option.some.inj hf
        exact hp_iret kr (fun z => z) rfl dX8_ofPerson_69
      · replace hf := of_ c11 hf
        by_cases c14 : p2 = 2
        · replace hf := ot_ c14 hf
          refine hp_tableIn (tgt := 64) dX8_ofPerson_24 (by rw [c14]; decide) (by rw [c14]; decide) (by rw [c14]; rfl) (by decide) ?_
          refine hp_aload_n 0 dX8_ofPerson_64 rfl rfl (?_ : hp_G _ _ _ _ _ _ _ _ _ 65 _ _ _)
          refine hp_iload_n 3 dX8_ofPerson_65 rfl rfl (?_ : hp_G _ _ _ _ _ _ _ _ _ 66 _ _ _)
          replace hf := ob_ hf
          obtain ⟨o15, eo15, hf⟩ := hf
          replace hf := ob_ hf
          obtain ⟨r16, er16, hf⟩ := hf
          refine clX8_100 (as := [.int p2]) (st := []) rfl (kX2_trait l er16) rfl (by decide) (Nat.le_of_ble_eq_true rfl) eo15 dX8_ofPerson_66 rfl (?_ : hp_G _ _ _ _ _ _ _ _ _ 69 _ _ _)
          obtain rfl := Option.some.inj hf
          exact hp_iret kr (fun z => z) rfl dX8_ofPerson_69
        · replace hf := of_ c14 hf
          by_cases c17 : p2 = 3
          · replace hf := ot_ c17 hf
            refine hp_tableIn (tgt := 70) dX8_ofPerson_24 (by rw [c17]; decide) (by rw [c17]; decide) (by rw [c17]; rfl) (by decide) ?_
            refine hp_aload_n 0 dX8_ofPerson_70 rfl rfl (?_ : hp_G _ _ _ _ _ _ _ _ _ 71 _ _ _)
            replace hf := ob_ hf
            obtain ⟨o18, eo18, hf⟩ := hf
            replace hf := ob_ hf
            obtain ⟨r19, er19, hf⟩ := hf
            refine clX8_105 (as := []) (st := []) rfl (kX2_best l er19) rfl (by decide) (Nat.le_of_ble_eq_true rfl) eo18 dX8_ofPerson_71 rfl (?_ : hp_G _ _ _ _ _ _ _ _ _ 74 _ _ _)
            obtain rfl := Option.some.inj hf
            exact hp_iret kr (fun z => z) rfl dX8_ofPerson_74
          · replace hf := of_ c17 hf
            by_cases c20 : p2 = 4
            · replace hf := ot_ c20 hf
              refine hp_tableIn (tgt := 75) dX8_ofPerson_24 (by rw [c20]; decide) (by rw [c20]; decide) (by rw [c20]; rfl) (by decide) ?_
              refine hp_aload_n 0 dX8_ofPerson_75 rfl rfl (?_ : hp_G _ _ _ _ _ _ _ _ _ 76 _ _ _)
              replace hf := ob_ hf
              obtain ⟨o21, eo21, hf⟩ := hf
              replace hf := ob_ hf
              obtain ⟨r22, er22, hf⟩ := hf
              refine clX8_109 (as := []) (st := []) rfl (kX2_worst l er22) rfl (by decide) (Nat.le_of_ble_eq_true rfl) eo21 dX8_ofPerson_76 rfl (?_ : hp_G _ _ _ _ _ _ _ _ _ 79 _ _ _)
              obtain rfl := Option.some.inj hf
              exact hp_iret kr (fun z => z) rfl dX8_ofPerson_79
            · replace hf := of_ c20 hf
              by_cases c23 : p2 = 5
              · replace hf := ot_ c23 hf
                refine hp_tableIn (tgt := 80) dX8_ofPerson_24 (by rw [c23]; decide) (by rw [c23]; decide) (by rw [c23]; rfl) (by decide) ?_
                refine hp_aload_n 0 dX8_ofPerson_80 rfl rfl (?_ : hp_G _ _ _ _ _ _ _ _ _ 81 _ _ _)
                replace hf := ob_ hf
                obtain ⟨x24, ex24, hf⟩ := hf
                refine fgX8_112 rfl dX8_ofPerson_81 ex24 (?_ : hp_G _ _ _ _ _ _ _ _ _ 84 _ _ _)
                refine hp_if_eq (tgt := 91) dX8_ofPerson_84 rfl (fun c25 => ?_) (fun c25 => (?_ : hp_G _ _ _ _ _ _ _ _ _ 87 _ _ _))
                · replace hf := ot_ c25 hf
                  refine hp_iconst (v := 0) dX8_ofPerson_91 ic_0 (?_ : hp_G _ _ _ _ _ _ _ _ _ 92 _ _ _)
                  obtain rfl := Option.some.inj hf
                  exact hp_iret kr (fun z => z) rfl dX8_ofPerson_92
                · replace hf := of_ c25 hf
                  refine hp_iconst (v := 1) dX8_ofPerson_87 ic_1 (?_ : hp_G _ _ _ _ _ _ _ _ _ 88 _ _ _)
                  refine hp_goto (tgt := 92) dX8_ofPerson_88 rfl (?_ : hp_G _ _ _ _ _ _ _ _ _ 92 _ _ _)
                  obtain rfl := Option.some.inj hf
                  exact hp_iret kr (fun z => z) rfl dX8_ofPerson_92
              · replace hf := of_ c23 hf
                refine hp_tableOut (tgt := 93) dX8_ofPerson_24 (by have q0 := hp_nei (z := 0) (by decide) c8; have q1 := hp_nei (z := 1) (by decide) c11; have q2 := hp_nei (z := 2) (by decide) c14; have q3 := hp_nei (z := 3) (by decide) c17; have q4 := hp_nei (z := 4) (by decide) c20; have q5 := hp_nei (z := 5) (by decide) c23; omega) (by decide) ?_
                refine hp_bipush (v := (-2)) dX8_ofPerson_93 bi_m2 (?_ : hp_G _ _ _ _ _ _ _ _ _ 95 _ _ _)
                obtain rfl := Option.some.inj hf
                exact hp_iret kr (fun z => z) rfl dX8_ofPerson_95
  · replace hf := ot_ c4 hf
    refine hp_iconst (v := (-1)) dX8_ofPerson_11 ic_m1 (?_ : hp_G _ _ _ _ _ _ _ _ _ 12 _ _ _)
    obtain rfl := Option.some.inj hf
    exact hp_iret kr (fun z => z) rfl dX8_ofPerson_12
theorem kX8_ofPerson (l : Launch) {h : hp_H} {a0 : Nat} {p1 : Int32} {p2 : Int32} {r : Int32} (hf : fX8_ofPerson h a0 p1 p2 = some r) : hp_Cn l yX8_ofPerson mX8_ofPerson 2 false 0 0 [.ref a0, .int p1, .int p2] h (fun v h2 => some (.int r) = v ∧ h = h2) :=
  hp_of (by decide) rfl (fun z => by cases z) (Nat.le_of_ble_eq_true rfl) (tX8_ofPerson l hf ⟨rfl, rfl⟩)
noncomputable def fX9_isPerson (h : hp_H) (a0 : Nat) (p1 : Int32) : Option Int32 :=
if p1 < 0 then
(some 0)
else
((gi_ h a0 8 5).bind fun x2 =>
if x2 ≤ p1 then
(some 0)
else
(some 1))
set_option maxRecDepth 20000 in
set_option maxHeartbeats 4000000 in
theorem tX9_isPerson (l : Launch) {h : hp_H} {a0 : Nat} {p1 : Int32} {r : Int32} (hf : fX9_isPerson h a0 p1 = some r) {Q : Option Value → hp_H → Prop} (kr : Q (some (.int r)) h) : hp_G l mX9_isPerson none 0 false Q false 0 0 0 [(0, .ref a0), (1, .int p1)] [] h := by
  unfold fX9_isPerson at hf
  refine hp_iload_n 1 dX9_isPerson_0 rfl rfl (?_ : hp_G _ _ _ _ _ _ _ _ _ 1 _ _ _)
  refine hp_if_lt (tgt := 16) dX9_isPerson_1 rfl (fun c1 => ?_) (fun c1 => (?_ : hp_G _ _ _ _ _ _ _ _ _ 4 _ _ _))
  · replace hf := ot_ c1 hf
    refine hp_iconst (v := 0) dX9_isPerson_16 ic_0 (?_ : hp_G _ _ _ _ _ _ _ _ _ 17 _ _ _)
    obtain rfl := Option.some.inj hf
    exact hp_zret kr (fun z => z) rfl (by decide) dX9_isPerson_17
  · replace hf := of_ c1 hf
    refine hp_iload_n 1 dX9_isPerson_4 rfl rfl (?_ : hp_G _ _ _ _ _ _ _ _ _ 5 _ _ _)
    refine hp_aload_n 0 dX9_isPerson_5 rfl rfl (?_ : hp_G _ _ _ _ _ _ _ _ _ 6 _ _ _)
    replace hf := ob_ hf
    obtain ⟨x2, ex2, hf⟩ := hf
    refine fgX9_71 rfl dX9_isPerson_6 ex2 (?_ : hp_G _ _ _ _ _ _ _ _ _ 9 _ _ _)
    refine hp_icmp_ge (tgt := 16) dX9_isPerson_9 rfl (fun c3 => ?_) (fun c3 => (?_ : hp_G _ _ _ _ _ _ _ _ _ 12 _ _ _))
    · replace hf := ot_ c3 hf
      refine hp_iconst (v := 0) dX9_isPerson_16 ic_0 (?_ : hp_G _ _ _ _ _ _ _ _ _ 17 _ _ _)
      obtain rfl := Option.some.inj hf
      exact hp_zret kr (fun z => z) rfl (by decide) dX9_isPerson_17
    · replace hf := of_ c3 hf
      refine hp_iconst (v := 1) dX9_isPerson_12 ic_1 (?_ : hp_G _ _ _ _ _ _ _ _ _ 13 _ _ _)
      refine hp_goto (tgt := 17) dX9_isPerson_13 rfl (?_ : hp_G _ _ _ _ _ _ _ _ _ 17 _ _ _)
      obtain rfl := Option.some.inj hf
      exact hp_zret kr (fun z => z) rfl (by decide) dX9_isPerson_17
theorem kX9_isPerson (l : Launch) {h : hp_H} {a0 : Nat} {p1 : Int32} {r : Int32} (hf : fX9_isPerson h a0 p1 = some r) : hp_Cn l yX9_isPerson mX9_isPerson 0 false 0 0 [.ref a0, .int p1] h (fun v h2 => some (.int r) = v ∧ h = h2) :=
  hp_of (by decide) rfl (fun z => by cases z) (Nat.le_of_ble_eq_true rfl) (tX9_isPerson l hf ⟨rfl, rfl⟩)
noncomputable def fX9_bestOf (h : hp_H) (a0 : Nat) (p1 : Int32) : Option Int32 :=
(gq_ h a0 8 8).bind fun x1 =>
(al_ h x1 p1).bind fun x2 =>
if x2 = 0 then
((gq_ h a0 8 9).bind fun x11 =>
(al_ h x11 p1).bind fun x12 =>
some x12)
else
((gq_ h a0 8 8).bind fun x4 =>
(al_ h x4 p1).bind fun x5 =>
if x5 = 1 then
((gq_ h a0 8 9).bind fun x9 =>
(al_ h x9 p1).bind fun x10 =>
some (x10 + 1))
else
((gq_ h a0 8 9).bind fun x7 =>
(al_ h x7 p1).bind fun x8 =>
some (2 * x8)))
set_option maxRecDepth 20000 in
set_option maxHeartbeats 4000000 in
theorem tX9_bestOf (l : Launch) {h : hp_H} {a0 : Nat} {p1 : Int32} {r : Int32} (hf : fX9_bestOf h a0 p1 = some r) {Q : Option Value → hp_H → Prop} (kr : Q (some (.int r)) h) : hp_G l mX9_bestOf none 0 false Q false 0 0 0 [(0, .ref a0), (1, .int p1)] [] h := by
  unfold fX9_bestOf at hf
  refine hp_aload_n 0 dX9_bestOf_0 rfl rfl (?_ : hp_G _ _ _ _ _ _ _ _ _ 1 _ _ _)
  replace hf := ob_ hf
  obtain ⟨x1, ex1, hf⟩ := hf
  refine fgX9_19 rfl dX9_bestOf_1 ex1 (?_ : hp_G _ _ _ _ _ _ _ _ _ 4 _ _ _)
  refine hp_iload_n 1 dX9_bestOf_4 rfl rfl (?_ : hp_G _ _ _ _ _ _ _ _ _ 5 _ _ _)
  replace hf := ob_ hf
  obtain ⟨x2, ex2, hf⟩ := hf
  refine hp_iaload dX9_bestOf_5 ex2 (?_ : hp_G _ _ _ _ _ _ _ _ _ 6 _ _ _)
  refine hp_if_ne (tgt := 18) dX9_bestOf_6 rfl (fun c3 => ?_) (fun c3 => (?_ : hp_G _ _ _ _ _ _ _ _ _ 9 _ _ _))
  · replace hf := of_ c3 hf
    refine hp_aload_n 0 dX9_bestOf_18 rfl rfl (?_ : hp_G _ _ _ _ _ _ _ _ _ 19 _ _ _)
    replace hf := ob_ hf
    obtain ⟨x4, ex4, hf⟩ := hf
    refine fgX9_19 rfl dX9_bestOf_19 ex4 (?_ : hp_G _ _ _ _ _ _ _ _ _ 22 _ _ _)
    refine hp_iload_n 1 dX9_bestOf_22 rfl rfl (?_ : hp_G _ _ _ _ _ _ _ _ _ 23 _ _ _)
    replace hf := ob_ hf
    obtain ⟨x5, ex5, hf⟩ := hf
    refine hp_iaload dX9_bestOf_23 ex5 (?_ : hp_G _ _ _ _ _ _ _ _ _ 24 _ _ _)
    refine hp_iconst (v := 1) dX9_bestOf_24 ic_1 (?_ : hp_G _ _ _ _ _ _ _ _ _ 25 _ _ _)
    refine hp_icmp_ne (tgt := 39) dX9_bestOf_25 rfl (fun c6 => ?_) (fun c6 => (?_ : hp_G _ _ _ _ _ _ _ _ _ 28 _ _ _))
    · replace hf := of_ c6 hf
      refine hp_iconst (v := 2) dX9_bestOf_39 ic_2 (?_ : hp_G _ _ _ _ _ _ _ _ _ 40 _ _ _)
      refine hp_aload_n 0 dX9_bestOf_40 rfl rfl (?_ : hp_G _ _ _ _ _ _ _ _ _ 41 _ _ _)
      replace hf := ob_ hf
      obtain ⟨x7, ex7, hf⟩ := hf
      refine fgX9_22 rfl dX9_bestOf_41 ex7 (?_ : hp_G _ _ _ _ _ _ _ _ _ 44 _ _ _)
      refine hp_iload_n 1 dX9_bestOf_44 rfl rfl (?_ : hp_G _ _ _ _ _ _ _ _ _ 45 _ _ _)
      replace hf := ob_ hf
      obtain ⟨x8, ex8, hf⟩ := hf
      refine hp_iaload dX9_bestOf_45 ex8 (?_ : hp_G _ _ _ _ _ _ _ _ _ 46 _ _ _)
      refine hp_imul dX9_bestOf_46 (?_ : hp_G _ _ _ _ _ _ _ _ _ 47 _ _ _)
      obtain rfl := Option.some.inj hf
      exact hp_iret kr (fun z => z) rfl dX9_bestOf_47
    · replace hf := ot_ c6 hf
      refine hp_aload_n 0 dX9_bestOf_28 rfl rfl (?_ : hp_G _ _ _ _ _ _ _ _ _ 29 _ _ _)
      replace hf := ob_ hf
      obtain ⟨x9, ex9, hf⟩ := hf
      refine fgX9_22 rfl dX9_bestOf_29 ex9 (?_ : hp_G _ _ _ _ _ _ _ _ _ 32 _ _ _)
      refine hp_iload_n 1 dX9_bestOf_32 rfl rfl (?_ : hp_G _ _ _ _ _ _ _ _ _ 33 _ _ _)
      replace hf := ob_ hf
      obtain ⟨x10, ex10, hf⟩ := hf
      refine hp_iaload dX9_bestOf_33 ex10 (?_ : hp_G _ _ _ _ _ _ _ _ _ 34 _ _ _)
      refine hp_iconst (v := 1) dX9_bestOf_34 ic_1 (?_ : hp_G _ _ _ _ _ _ _ _ _ 35 _ _ _)
      refine hp_iadd dX9_bestOf_35 (?_ : hp_G _ _ _ _ _ _ _ _ _ 36 _ _ _)
      refine hp_goto (tgt := 47) dX9_bestOf_36 rfl (?_ : hp_G _ _ _ _ _ _ _ _ _ 47 _ _ _)
      obtain rfl := Option.some.inj hf
      exact hp_iret kr (fun z => z) rfl dX9_bestOf_47
  · replace hf := ot_ c3 hf
    refine hp_aload_n 0 dX9_bestOf_9 rfl rfl (?_ : hp_G _ _ _ _ _ _ _ _ _ 10 _ _ _)
    replace hf := ob_ hf
    obtain ⟨x11, ex11, hf⟩ := hf
    refine fgX9_22 rfl dX9_bestOf_10 ex11 (?_ : hp_G _ _ _ _ _ _ _ _ _ 13 _ _ _)
    refine hp_iload_n 1 dX9_bestOf_13 rfl rfl (?_ : hp_G _ _ _ _ _ _ _ _ _ 14 _ _ _)
    replace hf := ob_ hf
    obtain ⟨x12, ex12, hf⟩ := hf
    refine hp_iaload dX9_bestOf_14 ex12 (?_ : hp_G _ _ _ _ _ _ _ _ _ 15 _ _ _)
    refine hp_goto (tgt := 47) dX9_bestOf_15 rfl (?_ : hp_G _ _ _ _ _ _ _ _ _ 47 _ _ _)
    obtain rfl := Option.some.inj hf
    exact hp_iret kr (fun z => z) rfl dX9_bestOf_47
theorem kX9_bestOf (l : Launch) {h : hp_H} {a0 : Nat} {p1 : Int32} {r : Int32} (hf : fX9_bestOf h a0 p1 = some r) : hp_Cn l yX9_bestOf mX9_bestOf 0 false 0 0 [.ref a0, .int p1] h (fun v h2 => some (.int r) = v ∧ h = h2) :=
  hp_of (by decide) rfl (fun z => by cases z) (Nat.le_of_ble_eq_true rfl) (tX9_bestOf l hf ⟨rfl, rfl⟩)
noncomputable def fX9_worstOf (h : hp_H) (a0 : Nat) (p1 : Int32) : Option Int32 :=
(hg_o h a0 8).bind fun o1 =>
(fX9_bestOf h a0 p1).bind fun r2 =>
(gq_ h a0 8 10).bind fun x3 =>
(al_ h x3 p1).bind fun x4 =>
(some (r2 - x4)).bind fun x5 =>
if (0 : Int32) ≤ x5 then
(some x5)
else
(some 0)
set_option maxRecDepth 20000 in
set_option maxHeartbeats 4000000 in
theorem tX9_worstOf (l : Launch) {h : hp_H} {a0 : Nat} {p1 : Int32} {r : Int32} (hf : fX9_worstOf h a0 p1 = some r) {Q : Option Value → hp_H → Prop} (kr : Q (some (.int r)) h) : hp_G l mX9_worstOf none 1 false Q false 0 0 0 [(0, .ref a0), (1, .int p1)] [] h := by
  unfold fX9_worstOf at hf
  refine hp_aload_n 0 dX9_worstOf_0 rfl rfl (?_ : hp_G _ _ _ _ _ _ _ _ _ 1 _ _ _)
  refine hp_iload_n 1 dX9_worstOf_1 rfl rfl (?_ : hp_G _ _ _ _ _ _ _ _ _ 2 _ _ _)
  replace hf := ob_ hf
  obtain ⟨o1, eo1, hf⟩ := hf
  replace hf := ob_ hf
  obtain ⟨r2, er2, hf⟩ := hf
  refine clX9_120 (as := [.int p1]) (st := []) rfl (kX9_bestOf l er2) rfl (by decide) (Nat.le_of_ble_eq_true rfl) eo1 dX9_worstOf_2 rfl (?_ : hp_G _ _ _ _ _ _ _ _ _ 5 _ _ _)
  refine hp_aload_n 0 dX9_worstOf_5 rfl rfl (?_ : hp_G _ _ _ _ _ _ _ _ _ 6 _ _ _)
  replace hf := ob_ hf
  obtain ⟨x3, ex3, hf⟩ := hf
  refine fgX9_25 rfl dX9_worstOf_6 ex3 (?_ : hp_G _ _ _ _ _ _ _ _ _ 9 _ _ _)
  refine hp_iload_n 1 dX9_worstOf_9 rfl rfl (?_ : hp_G _ _ _ _ _ _ _ _ _ 10 _ _ _)
  replace hf := ob_ hf
  obtain ⟨x4, ex4, hf⟩ := hf
  refine hp_iaload dX9_worstOf_10 ex4 (?_ : hp_G _ _ _ _ _ _ _ _ _ 11 _ _ _)
  refine hp_isub dX9_worstOf_11 (?_ : hp_G _ _ _ _ _ _ _ _ _ 12 _ _ _)
  replace hf := ob_ hf
  obtain ⟨x5, ex5, hf⟩ := hf
  refine hp_nmi ex5 ?_
  refine hp_istore_n (lv' := [(2, .int x5), (0, .ref a0), (1, .int p1)]) dX9_worstOf_12 rfl (Nat.le_of_ble_eq_true rfl) rfl (?_ : hp_G _ _ _ _ _ _ _ _ _ 13 _ _ _)
  refine hp_iload_n 0 dX9_worstOf_13 rfl rfl (?_ : hp_G _ _ _ _ _ _ _ _ _ 14 _ _ _)
  refine hp_if_ge (tgt := 21) dX9_worstOf_14 rfl (fun c6 => ?_) (fun c6 => (?_ : hp_G _ _ _ _ _ _ _ _ _ 17 _ _ _))
  · replace hf := ot_ c6 hf
    refine hp_iload_n 0 dX9_worstOf_21 rfl rfl (?_ : hp_G _ _ _ _ _ _ _ _ _ 22 _ _ _)
    obtain rfl := Option.some.inj hf
    exact hp_iret kr (fun z => z) rfl dX9_worstOf_22
  · replace hf := of_ c6 hf
    refine hp_iconst (v := 0) dX9_worstOf_17 ic_0 (?_ : hp_G _ _ _ _ _ _ _ _ _ 18 _ _ _)
    refine hp_goto (tgt := 22) dX9_worstOf_18 rfl (?_ : hp_G _ _ _ _ _ _ _ _ _ 22 _ _ _)
    obtain rfl := Option.some.inj hf
    exact hp_iret kr (fun z => z) rfl dX9_worstOf_22
theorem kX9_worstOf (l : Launch) {h : hp_H} {a0 : Nat} {p1 : Int32} {r : Int32} (hf : fX9_worstOf h a0 p1 = some r) : hp_Cn l yX9_worstOf mX9_worstOf 1 false 0 0 [.ref a0, .int p1] h (fun v h2 => some (.int r) = v ∧ h = h2) :=
  hp_of (by decide) rfl (fun z => by cases z) (Nat.le_of_ble_eq_true rfl) (tX9_worstOf l hf ⟨rfl, rfl⟩)
noncomputable def fX9_ofPerson (h : hp_H) (a0 : Nat) (p1 : Int32) (p2 : Int32) : Option Int32 :=
(hg_o h a0 8).bind fun o1 =>
(fX9_isPerson h a0 p1).bind fun r2 =>
if r2 = 0 then
(some (-1))
else
(if p2 = 0 then
((gq_ h a0 8 8).bind fun x5 =>
(al_ h x5 p1).bind fun x6 =>
some x6)
else
(if p2 = 1 then
((gq_ h a0 8 9).bind fun x8 =>
(al_ h x8 p1).bind fun x9 =>
some x9)
else
(if p2 = 2 then
((gq_ h a0 8 10).bind fun x11 =>
(al_ h x11 p1).bind fun x12 =>
some x12)
else
(if p2 = 3 then
((hg_o h a0 8).bind fun o14 =>
(fX9_bestOf h a0 p1).bind fun r15 =>
some r15)
else
(if p2 = 4 then
((hg_o h a0 8).bind fun o17 =>
(fX9_worstOf h a0 p1).bind fun r18 =>
some r18)
else
(if p2 = 5 then
((gi_ h a0 8 6).bind fun x20 =>
some ((x20 >>> (p1 &&& 31)) &&& 1))
else
(some (-2))))))))
set_option maxRecDepth 20000 in
set_option maxHeartbeats 4000000 in
theorem tX9_ofPerson (l : Launch) {h : hp_H} {a0 : Nat} {p1 : Int32} {p2 : Int32} {r : Int32} (hf : fX9_ofPerson h a0 p1 p2 = some r) {Q : Option Value → hp_H → Prop} (kr : Q (some (.int r)) h) : hp_G l mX9_ofPerson none 2 false Q false 0 0 0 [(0, .ref a0), (1, .int p1), (2, .int p2)] [] h := by
  unfold fX9_ofPerson at hf
  refine hp_aload_n 0 dX9_ofPerson_0 rfl rfl (?_ : hp_G _ _ _ _ _ _ _ _ _ 1 _ _ _)
  refine hp_iload_n 1 dX9_ofPerson_1 rfl rfl (?_ : hp_G _ _ _ _ _ _ _ _ _ 2 _ _ _)
  replace hf := ob_ hf
  obtain ⟨o1, eo1, hf⟩ := hf
  replace hf := ob_ hf
  obtain ⟨r2, er2, hf⟩ := hf
  refine clX9_74 (as := [.int p1]) (st := []) rfl (kX9_isPerson l er2) rfl (by decide) (Nat.le_of_ble_eq_true rfl) eo1 dX9_ofPerson_2 rfl (?_ : hp_G _ _ _ _ _ _ _ _ _ 5 _ _ _)
  refine hp_if_ne (tgt := 10) dX9_ofPerson_5 rfl (fun c3 => ?_) (fun c3 => (?_ : hp_G _ _ _ _ _ _ _ _ _ 8 _ _ _))
  · replace hf := of_ c3 hf
    refine hp_iload_n 2 dX9_ofPerson_10 rfl rfl (?_ : hp_G _ _ _ _ _ _ _ _ _ 11 _ _ _)
    by_cases c4 : p2 = 0
    · replace hf := ot_ c4 hf
      refine hp_tableIn (tgt := 48) dX9_ofPerson_11 (by rw [c4]; decide) (by rw [c4]; decide) (by rw [c4]; rfl) (by decide) ?_
      refine hp_aload_n 0 dX9_ofPerson_48 rfl rfl (?_ : hp_G _ _ _ _ _ _ _ _ _ 49 _ _ _)
      replace hf := ob_ hf
      obtain ⟨x5, ex5, hf⟩ := hf
      refine fgX9_19 rfl dX9_ofPerson_49 ex5 (?_ : hp_G _ _ _ _ _ _ _ _ _ 52 _ _ _)
      refine hp_iload_n 1 dX9_ofPerson_52 rfl rfl (?_ : hp_G _ _ _ _ _ _ _ _ _ 53 _ _ _)
      replace hf := ob_ hf
      obtain ⟨x6, ex6, hf⟩ := hf
      refine hp_iaload dX9_ofPerson_53 ex6 (?_ : hp_G _ _ _ _ _ _ _ _ _ 54 _ _ _)
      obtain rfl := Option.some.inj hf
      exact hp_iret kr (fun z => z) rfl dX9_ofPerson_54
    · replace hf := of_ c4 hf
      by_cases c7 : p2 = 1
      · replace hf := ot_ c7 hf
        refine hp_tableIn (tgt := 55) dX9_ofPerson_11 (by rw [c7]; decide) (by rw [c7]; decide) (by rw [c7]; rfl) (by decide) ?_
        refine hp_aload_n 0 dX9_ofPerson_55 rfl rfl (?_ : hp_G _ _ _ _ _ _ _ _ _ 56 _ _ _)
        replace hf := ob_ hf
        obtain ⟨x8, ex8, hf⟩ := hf
        refine fgX9_22 rfl dX9_ofPerson_56 ex8 (?_ : hp_G _ _ _ _ _ _ _ _ _ 59 _ _ _)
        refine hp_iload_n 1 dX9_ofPerson_59 rfl rfl (?_ : hp_G _ _ _ _ _ _ _ _ _ 60 _ _ _)
        replace hf := ob_ hf
        obtain ⟨x9, ex9, hf⟩ := hf
        refine hp_iaload dX9_ofPerson_60 ex9 (?_ : hp_G _ _ _ _ _ _ _ _ _ 61 _ _ _)
        obtain rfl := Option.some.inj hf
        exact hp_iret kr (fun z => z) rfl dX9_ofPerson_61
      · replace hf := of_ c7 hf
        by_cases c10 : p2 = 2
        · replace hf := ot_ c10 hf
          refine hp_tableIn (tgt := 62) dX9_ofPerson_11 (by rw [c10]; decide) (by rw [c10]; decide) (by rw [c10]; rfl) (by decide) ?_
          refine hp_aload_n 0 dX9_ofPerson_62 rfl rfl (?_ : hp_G _ _ _ _ _ _ _ _ _ 63 _ _ _)
          replace hf := ob_ hf
          obtain ⟨x11, ex11, hf⟩ := hf
          refine fgX9_25 rfl dX9_ofPerson_63 ex11 (?_ : hp_G _ _ _ _ _ _ _ _ _ 66 _ _ _)
          refine hp_iload_n 1 dX9_ofPerson_66 rfl rfl (?_ : hp_G _ _ _ _ _ _ _ _ _ 67 _ _ _)
          replace hf := ob_ hf
          obtain ⟨x12, ex12, hf⟩ := hf
          refine hp_iaload dX9_ofPerson_67 ex12 (?_ : hp_G _ _ _ _ _ _ _ _ _ 68 _ _ _)
          obtain rfl := Option.some.inj hf
          exact hp_iret kr (fun z => z) rfl dX9_ofPerson_68
        · replace hf := of_ c10 hf
          by_cases c13 : p2 = 3
          · replace hf := ot_ c13 hf
            refine hp_tableIn (tgt := 69) dX9_ofPerson_11 (by rw [c13]; decide) (by rw [c13]; decide) (by rw [c13]; rfl) (by decide) ?_
            refine hp_aload_n 0 dX9_ofPerson_69 rfl rfl (?_ : hp_G _ _ _ _ _ _ _ _ _ 70 _ _ _)
            refine hp_iload_n 1 dX9_ofPerson_70 rfl rfl (?_ : hp_G _ _ _ _ _ _ _ _ _ 71 _ _ _)
            replace hf := ob_ hf
            obtain ⟨o14, eo14, hf⟩ := hf
            replace hf := ob_ hf
            obtain ⟨r15, er15, hf⟩ := hf
            refine clX9_120 (as := [.int p1]) (st := []) rfl (kX9_bestOf l er15) rfl (by decide) (Nat.le_of_ble_eq_true rfl) eo14 dX9_ofPerson_71 rfl (?_ : hp_G _ _ _ _ _ _ _ _ _ 74 _ _ _)
            obtain rfl := Option.some.inj hf
            exact hp_iret kr (fun z => z) rfl dX9_ofPerson_74
          · replace hf := of_ c13 hf
            by_cases c16 : p2 = 4
            · replace hf := ot_ c16 hf
              refine hp_tableIn (tgt := 75) dX9_ofPerson_11 (by rw [c16]; decide) (by rw [c16]; decide) (by rw [c16]; rfl) (by decide) ?_
              refine hp_aload_n 0 dX9_ofPerson_75 rfl rfl (?_ : hp_G _ _ _ _ _ _ _ _ _ 76 _ _ _)
              refine hp_iload_n 1 dX9_ofPerson_76 rfl rfl (?_ : hp_G _ _ _ _ _ _ _ _ _ 77 _ _ _)
              replace hf := ob_ hf
              obtain ⟨o17, eo17, hf⟩ := hf
              replace hf := ob_ hf
              obtain ⟨r18, er18, hf⟩ := hf
              refine clX9_123 (as := [.int p1]) (st := []) rfl (kX9_worstOf l er18) rfl (by decide) (Nat.le_of_ble_eq_true rfl) eo17 dX9_ofPerson_77 rfl (?_ : hp_G _ _ _ _ _ _ _ _ _ 80 _ _ _)
              obtain rfl := Option.some.inj hf
              exact hp_iret kr (fun z => z) rfl dX9_ofPerson_80
            · replace hf := of_ c16 hf
              by_cases c19 : p2 = 5
              · replace hf := ot_ c19 hf
                refine hp_tableIn (tgt := 81) dX9_ofPerson_11 (by rw [c19]; decide) (by rw [c19]; decide) (by rw [c19]; rfl) (by decide) ?_
                refine hp_aload_n 0 dX9_ofPerson_81 rfl rfl (?_ : hp_G _ _ _ _ _ _ _ _ _ 82 _ _ _)
                replace hf := ob_ hf
                obtain ⟨x20, ex20, hf⟩ := hf
                refine fgX9_101 rfl dX9_ofPerson_82 ex20 (?_ : hp_G _ _ _ _ _ _ _ _ _ 85 _ _ _)
                refine hp_iload_n 1 dX9_ofPerson_85 rfl rfl (?_ : hp_G _ _ _ _ _ _ _ _ _ 86 _ _ _)
                refine hp_ishr dX9_ofPerson_86 (?_ : hp_G _ _ _ _ _ _ _ _ _ 87 _ _ _)
                refine hp_iconst (v := 1) dX9_ofPerson_87 ic_1 (?_ : hp_G _ _ _ _ _ _ _ _ _ 88 _ _ _)
                refine hp_iand dX9_ofPerson_88 (?_ : hp_G _ _ _ _ _ _ _ _ _ 89 _ _ _)
                obtain rfl := Option.some.inj hf
                exact hp_iret kr (fun z => z) rfl dX9_ofPerson_89
              · replace hf := of_ c19 hf
                refine hp_tableOut (tgt := 90) dX9_ofPerson_11 (by have q0 := hp_nei (z := 0) (by decide) c4; have q1 := hp_nei (z := 1) (by decide) c7; have q2 := hp_nei (z := 2) (by decide) c10; have q3 := hp_nei (z := 3) (by decide) c13; have q4 := hp_nei (z := 4) (by decide) c16; have q5 := hp_nei (z := 5) (by decide) c19; omega) (by decide) ?_
                refine hp_bipush (v := (-2)) dX9_ofPerson_90 bi_m2 (?_ : hp_G _ _ _ _ _ _ _ _ _ 92 _ _ _)
                obtain rfl := Option.some.inj hf
                exact hp_iret kr (fun z => z) rfl dX9_ofPerson_92
  · replace hf := ot_ c3 hf
    refine hp_iconst (v := (-1)) dX9_ofPerson_8 ic_m1 (?_ : hp_G _ _ _ _ _ _ _ _ _ 9 _ _ _)
    obtain rfl := Option.some.inj hf
    exact hp_iret kr (fun z => z) rfl dX9_ofPerson_9
theorem kX9_ofPerson (l : Launch) {h : hp_H} {a0 : Nat} {p1 : Int32} {p2 : Int32} {r : Int32} (hf : fX9_ofPerson h a0 p1 p2 = some r) : hp_Cn l yX9_ofPerson mX9_ofPerson 2 false 0 0 [.ref a0, .int p1, .int p2] h (fun v h2 => some (.int r) = v ∧ h = h2) :=
  hp_of (by decide) rfl (fun z => by cases z) (Nat.le_of_ble_eq_true rfl) (tX9_ofPerson l hf ⟨rfl, rfl⟩)
noncomputable def fX2_setTrait (h : hp_H) (a0 : Nat) (p1 : Int32) (p2 : Int32) : Option hp_H :=
if p1 = 0 then
((pi_ h a0 2 0 p2).bind fun h2 =>
some h2)
else
(if p1 = 1 then
((pi_ h a0 2 1 p2).bind fun h4 =>
some h4)
else
((pi_ h a0 2 2 p2).bind fun h5 =>
some h5))
set_option maxRecDepth 20000 in
set_option maxHeartbeats 4000000 in
theorem tX2_setTrait (l : Launch) {h : hp_H} {a0 : Nat} {p1 : Int32} {p2 : Int32} {r : hp_H} (hf : fX2_setTrait h a0 p1 p2 = some r) {Q : Option Value → hp_H → Prop} (kr : Q (none) r) : hp_G l mX2_setTrait none 0 false Q false 0 0 0 [(0, .ref a0), (1, .int p1), (2, .int p2)] [] h := by
  unfold fX2_setTrait at hf
  refine hp_iload_n 1 dX2_setTrait_0 rfl rfl (?_ : hp_G _ _ _ _ _ _ _ _ _ 1 _ _ _)
  by_cases c1 : p1 = 0
  · replace hf := ot_ c1 hf
    refine hp_lookup (tgt := 28) dX2_setTrait_1 rfl (by rw [c1]; decide) ?_
    refine hp_aload_n 0 dX2_setTrait_28 rfl rfl (?_ : hp_G _ _ _ _ _ _ _ _ _ 29 _ _ _)
    refine hp_iload_n 2 dX2_setTrait_29 rfl rfl (?_ : hp_G _ _ _ _ _ _ _ _ _ 30 _ _ _)
    replace hf := ob_ hf
    obtain ⟨h2, eh2, hf⟩ := hf
    refine fpX2_9 rfl dX2_setTrait_30 eh2 (?_ : hp_G _ _ _ _ _ _ _ _ _ 33 _ _ _)
    refine hp_goto (tgt := 49) dX2_setTrait_33 rfl (?_ : hp_G _ _ _ _ _ _ _ _ _ 49 _ _ _)
    obtain rfl := Option.some.inj hf
    exact hp_vret kr (fun z => z) rfl dX2_setTrait_49
  · replace hf := of_ c1 hf
    by_cases c3 : p1 = 1
    · replace hf := ot_ c3 hf
      refine hp_lookup (tgt := 36) dX2_setTrait_1 rfl (by rw [c3]; decide) ?_
      refine hp_aload_n 0 dX2_setTrait_36 rfl rfl (?_ : hp_G _ _ _ _ _ _ _ _ _ 37 _ _ _)
      refine hp_iload_n 2 dX2_setTrait_37 rfl rfl (?_ : hp_G _ _ _ _ _ _ _ _ _ 38 _ _ _)
      replace hf := ob_ hf
      obtain ⟨h4, eh4, hf⟩ := hf
      refine fpX2_15 rfl dX2_setTrait_38 eh4 (?_ : hp_G _ _ _ _ _ _ _ _ _ 41 _ _ _)
      refine hp_goto (tgt := 49) dX2_setTrait_41 rfl (?_ : hp_G _ _ _ _ _ _ _ _ _ 49 _ _ _)
      obtain rfl := Option.some.inj hf
      exact hp_vret kr (fun z => z) rfl dX2_setTrait_49
    · replace hf := of_ c3 hf
      refine hp_lookup (tgt := 44) dX2_setTrait_1 (by decide) (by show (1 : Int) + Op.lookupswitch.offset [(0, 27), (1, 35)] 43 (Int32.toInt p1) = _; rw [Op.lookupswitch.offset_cons, if_neg (hp_nei (by decide) c1), Op.lookupswitch.offset_cons, if_neg (hp_nei (by decide) c3), Op.lookupswitch.offset_nil]; decide) ?_
      refine hp_aload_n 0 dX2_setTrait_44 rfl rfl (?_ : hp_G _ _ _ _ _ _ _ _ _ 45 _ _ _)
      refine hp_iload_n 2 dX2_setTrait_45 rfl rfl (?_ : hp_G _ _ _ _ _ _ _ _ _ 46 _ _ _)
      replace hf := ob_ hf
      obtain ⟨h5, eh5, hf⟩ := hf
      refine fpX2_18 rfl dX2_setTrait_46 eh5 (?_ : hp_G _ _ _ _ _ _ _ _ _ 49 _ _ _)
      obtain rfl := Option.some.inj hf
      exact hp_vret kr (fun z => z) rfl dX2_setTrait_49
theorem kX2_setTrait (l : Launch) {h : hp_H} {a0 : Nat} {p1 : Int32} {p2 : Int32} {r : hp_H} (hf : fX2_setTrait h a0 p1 p2 = some r) : hp_Cn l yX2_setTrait mX2_setTrait 0 false 0 0 [.ref a0, .int p1, .int p2] h (fun v h2 => none = v ∧ r = h2) :=
  hp_of (by decide) rfl (fun z => by cases z) (Nat.le_of_ble_eq_true rfl) (tX2_setTrait l hf ⟨rfl, rfl⟩)
noncomputable def fX8_changed (h : hp_H) (a0 : Nat) (p1 : Int32) (p2 : Int32) (p3 : Int32) : Option (Int32 × hp_H) :=
(gq_ h a0 7 0).bind fun x1 =>
(hg_o h x1 6).bind fun o2 =>
(fX7_has h x1 p1).bind fun r3 =>
if r3 = 0 then
(some ((-1), h))
else
((fX8_isDigit h p3).bind fun r5 =>
if r5 = 0 then
(some ((-2), h))
else
((gq_ h a0 7 0).bind fun x7 =>
(gq_ h x7 6 0).bind fun x8 =>
(ql_ h x8 p1).bind fun x9 =>
(hg_o h x9 2).bind fun o10 =>
(fX2_trait h x9 p2).bind fun r11 =>
(gq_ h a0 7 0).bind fun x12 =>
(gq_ h x12 6 0).bind fun x13 =>
(ql_ h x13 p1).bind fun x14 =>
(hg_o h x14 2).bind fun o15 =>
(fX2_setTrait h x14 p2 p3).bind fun r16 =>
some (r11, r16)))
set_option maxRecDepth 20000 in
set_option maxHeartbeats 4000000 in
theorem tX8_changed (l : Launch) {h : hp_H} {a0 : Nat} {p1 : Int32} {p2 : Int32} {p3 : Int32} {r : (Int32 × hp_H)} (hf : fX8_changed h a0 p1 p2 p3 = some r) {Q : Option Value → hp_H → Prop} (kr : Q (some (.int r.1)) r.2) : hp_G l mX8_changed none 1 false Q false 0 0 0 [(0, .ref a0), (1, .int p1), (2, .int p2), (3, .int p3)] [] h := by
  unfold fX8_changed at hf
  refine hp_aload_n 0 dX8_changed_0 rfl rfl (?_ : hp_G _ _ _ _ _ _ _ _ _ 1 _ _ _)
  replace hf := ob_ hf
  obtain ⟨x1, ex1, hf⟩ := hf
  refine fgX8_12 rfl dX8_changed_1 ex1 (?_ : hp_G _ _ _ _ _ _ _ _ _ 4 _ _ _)
  refine hp_iload_n 1 dX8_changed_4 rfl rfl (?_ : hp_G _ _ _ _ _ _ _ _ _ 5 _ _ _)
  replace hf := ob_ hf
  obtain ⟨o2, eo2, hf⟩ := hf
  replace hf := ob_ hf
  obtain ⟨r3, er3, hf⟩ := hf
  refine clX8_93 (as := [.int p1]) (st := []) rfl (kX7_has l er3) rfl (by decide) (Nat.le_of_ble_eq_true rfl) eo2 dX8_changed_5 rfl (?_ : hp_G _ _ _ _ _ _ _ _ _ 8 _ _ _)
  refine hp_if_ne (tgt := 13) dX8_changed_8 rfl (fun c4 => ?_) (fun c4 => (?_ : hp_G _ _ _ _ _ _ _ _ _ 11 _ _ _))
  · replace hf := of_ c4 hf
    refine hp_iload_n 3 dX8_changed_13 rfl rfl (?_ : hp_G _ _ _ _ _ _ _ _ _ 14 _ _ _)
    replace hf := ob_ hf
    obtain ⟨r5, er5, hf⟩ := hf
    refine clX8_260 (as := [.int p3]) (st := []) rfl (kX8_isDigit l er5) rfl (by decide) (Nat.le_of_ble_eq_true rfl) dX8_changed_14 rfl (?_ : hp_G _ _ _ _ _ _ _ _ _ 17 _ _ _)
    refine hp_if_ne (tgt := 23) dX8_changed_17 rfl (fun c6 => ?_) (fun c6 => (?_ : hp_G _ _ _ _ _ _ _ _ _ 20 _ _ _))
    · replace hf := of_ c6 hf
      refine hp_aload_n 0 dX8_changed_23 rfl rfl (?_ : hp_G _ _ _ _ _ _ _ _ _ 24 _ _ _)
      replace hf := ob_ hf
      obtain ⟨x7, ex7, hf⟩ := hf
      refine fgX8_12 rfl dX8_changed_24 ex7 (?_ : hp_G _ _ _ _ _ _ _ _ _ 27 _ _ _)
      replace hf := ob_ hf
      obtain ⟨x8, ex8, hf⟩ := hf
      refine fgX8_96 rfl dX8_changed_27 ex8 (?_ : hp_G _ _ _ _ _ _ _ _ _ 30 _ _ _)
      refine hp_iload_n 1 dX8_changed_30 rfl rfl (?_ : hp_G _ _ _ _ _ _ _ _ _ 31 _ _ _)
      replace hf := ob_ hf
      obtain ⟨x9, ex9, hf⟩ := hf
      refine hp_aaload dX8_changed_31 ex9 (?_ : hp_G _ _ _ _ _ _ _ _ _ 32 _ _ _)
      refine hp_iload_n 2 dX8_changed_32 rfl rfl (?_ : hp_G _ _ _ _ _ _ _ _ _ 33 _ _ _)
      replace hf := ob_ hf
      obtain ⟨o10, eo10, hf⟩ := hf
      replace hf := ob_ hf
      obtain ⟨r11, er11, hf⟩ := hf
      refine clX8_100 (as := [.int p2]) (st := []) rfl (kX2_trait l er11) rfl (by decide) (Nat.le_of_ble_eq_true rfl) eo10 dX8_changed_33 rfl (?_ : hp_G _ _ _ _ _ _ _ _ _ 36 _ _ _)
      refine hp_istore (lv' := [(4, .int r11), (0, .ref a0), (1, .int p1), (2, .int p2), (3, .int p3)]) dX8_changed_36 (Nat.le_of_ble_eq_true rfl) rfl (?_ : hp_G _ _ _ _ _ _ _ _ _ 38 _ _ _)
      refine hp_aload_n 1 dX8_changed_38 rfl rfl (?_ : hp_G _ _ _ _ _ _ _ _ _ 39 _ _ _)
      replace hf := ob_ hf
      obtain ⟨x12, ex12, hf⟩ := hf
      refine fgX8_12 rfl dX8_changed_39 ex12 (?_ : hp_G _ _ _ _ _ _ _ _ _ 42 _ _ _)
      replace hf := ob_ hf
      obtain ⟨x13, ex13, hf⟩ := hf
      refine fgX8_96 rfl dX8_changed_42 ex13 (?_ : hp_G _ _ _ _ _ _ _ _ _ 45 _ _ _)
      refine hp_iload_n 2 dX8_changed_45 rfl rfl (?_ : hp_G _ _ _ _ _ _ _ _ _ 46 _ _ _)
      replace hf := ob_ hf
      obtain ⟨x14, ex14, hf⟩ := hf
      refine hp_aaload dX8_changed_46 ex14 (?_ : hp_G _ _ _ _ _ _ _ _ _ 47 _ _ _)
      refine hp_iload_n 3 dX8_changed_47 rfl rfl (?_ : hp_G _ _ _ _ _ _ _ _ _ 48 _ _ _)
      refine hp_iload_n 4 dX8_changed_48 rfl rfl (?_ : hp_G _ _ _ _ _ _ _ _ _ 49 _ _ _)
      replace hf := ob_ hf
      obtain ⟨o15, eo15, hf⟩ := hf
      replace hf := ob_ hf
      obtain ⟨r16, er16, hf⟩ := hf
      refine clX8_263 (as := [.int p2, .int p3]) (st := []) rfl (kX2_setTrait l er16) rfl (by decide) (Nat.le_of_ble_eq_true rfl) eo15 dX8_changed_49 rfl (?_ : hp_G _ _ _ _ _ _ _ _ _ 52 _ _ _)
      refine hp_iload 0 dX8_changed_52 rfl (?_ : hp_G _ _ _ _ _ _ _ _ _ 54 _ _ _)
      obtain rfl := Option.some.inj hf
      exact hp_iret kr (fun z => z) rfl dX8_changed_54
    · replace hf := ot_ c6 hf
      refine hp_bipush (v := (-2)) dX8_changed_20 bi_m2 (?_ : hp_G _ _ _ _ _ _ _ _ _ 22 _ _ _)
      obtain rfl := Option.some.inj hf
      exact hp_iret kr (fun z => z) rfl dX8_changed_22
  · replace hf := ot_ c4 hf
    refine hp_iconst (v := (-1)) dX8_changed_11 ic_m1 (?_ : hp_G _ _ _ _ _ _ _ _ _ 12 _ _ _)
    obtain rfl := Option.some.inj hf
    exact hp_iret kr (fun z => z) rfl dX8_changed_12
theorem kX8_changed (l : Launch) {h : hp_H} {a0 : Nat} {p1 : Int32} {p2 : Int32} {p3 : Int32} {r : (Int32 × hp_H)} (hf : fX8_changed h a0 p1 p2 p3 = some r) : hp_Cn l yX8_changed mX8_changed 1 false 0 0 [.ref a0, .int p1, .int p2, .int p3] h (fun v h2 => some (.int r.1) = v ∧ r.2 = h2) :=
  hp_of (by decide) rfl (fun z => by cases z) (Nat.le_of_ble_eq_true rfl) (tX8_changed l hf ⟨rfl, rfl⟩)
noncomputable def fX8_train (h : hp_H) (a0 : Nat) (p1 : Int32) (p2 : Int32) : Option (Int32 × hp_H) :=
(hg_o h a0 7).bind fun o1 =>
(fX8_changed h a0 p1 1 p2).bind fun r2 =>
some (r2.1, r2.2)
set_option maxRecDepth 20000 in
set_option maxHeartbeats 4000000 in
theorem tX8_train (l : Launch) {h : hp_H} {a0 : Nat} {p1 : Int32} {p2 : Int32} {r : (Int32 × hp_H)} (hf : fX8_train h a0 p1 p2 = some r) {Q : Option Value → hp_H → Prop} (kr : Q (some (.int r.1)) r.2) : hp_G l mX8_train none 2 false Q false 0 0 0 [(0, .ref a0), (1, .int p1), (2, .int p2)] [] h := by
  unfold fX8_train at hf
  refine hp_aload_n 0 dX8_train_0 rfl rfl (?_ : hp_G _ _ _ _ _ _ _ _ _ 1 _ _ _)
  refine hp_iload_n 1 dX8_train_1 rfl rfl (?_ : hp_G _ _ _ _ _ _ _ _ _ 2 _ _ _)
  refine hp_iconst (v := 1) dX8_train_2 ic_1 (?_ : hp_G _ _ _ _ _ _ _ _ _ 3 _ _ _)
  refine hp_iload_n 2 dX8_train_3 rfl rfl (?_ : hp_G _ _ _ _ _ _ _ _ _ 4 _ _ _)
  replace hf := ob_ hf
  obtain ⟨o1, eo1, hf⟩ := hf
  replace hf := ob_ hf
  obtain ⟨r2, er2, hf⟩ := hf
  refine clX8_116 (as := [.int p1, .int 1, .int p2]) (st := []) rfl (kX8_changed l er2) rfl (by decide) (Nat.le_of_ble_eq_true rfl) eo1 dX8_train_4 rfl (?_ : hp_G _ _ _ _ _ _ _ _ _ 7 _ _ _)
  obtain rfl := Option.some.inj hf
  exact hp_iret kr (fun z => z) rfl dX8_train_7
theorem kX8_train (l : Launch) {h : hp_H} {a0 : Nat} {p1 : Int32} {p2 : Int32} {r : (Int32 × hp_H)} (hf : fX8_train h a0 p1 p2 = some r) : hp_Cn l yX8_train mX8_train 2 false 0 0 [.ref a0, .int p1, .int p2] h (fun v h2 => some (.int r.1) = v ∧ r.2 = h2) :=
  hp_of (by decide) rfl (fun z => by cases z) (Nat.le_of_ble_eq_true rfl) (tX8_train l hf ⟨rfl, rfl⟩)
noncomputable def fX9_train (h : hp_H) (a0 : Nat) (p1 : Int32) (p2 : Int32) : Option (Int32 × hp_H) :=
(hg_o h a0 8).bind fun o1 =>
(fX9_isPerson h a0 p1).bind fun r2 =>
if r2 = 0 then
(some ((-1), h))
else
((fX9_within h p2 0 9).bind fun r4 =>
if r4 = 0 then
(some ((-2), h))
else
((gq_ h a0 8 9).bind fun x6 =>
(al_ h x6 p1).bind fun x7 =>
(gq_ h a0 8 9).bind fun x8 =>
(ax_ h x8 p1 p2).bind fun h9 =>
some (x7, h9)))
set_option maxRecDepth 20000 in
set_option maxHeartbeats 4000000 in
theorem tX9_train (l : Launch) {h : hp_H} {a0 : Nat} {p1 : Int32} {p2 : Int32} {r : (Int32 × hp_H)} (hf : fX9_train h a0 p1 p2 = some r) {Q : Option Value → hp_H → Prop} (kr : Q (some (.int r.1)) r.2) : hp_G l mX9_train none 1 false Q false 0 0 0 [(0, .ref a0), (1, .int p1), (2, .int p2)] [] h := by
  unfold fX9_train at hf
  refine hp_aload_n 0 dX9_train_0 rfl rfl (?_ : hp_G _ _ _ _ _ _ _ _ _ 1 _ _ _)
  refine hp_iload_n 1 dX9_train_1 rfl rfl (?_ : hp_G _ _ _ _ _ _ _ _ _ 2 _ _ _)
  replace hf := ob_ hf
  obtain ⟨o1, eo1, hf⟩ := hf
  replace hf := ob_ hf
  obtain ⟨r2, er2, hf⟩ := hf
  refine clX9_74 (as := [.int p1]) (st := []) rfl (kX9_isPerson l er2) rfl (by decide) (Nat.le_of_ble_eq_true rfl) eo1 dX9_train_2 rfl (?_ : hp_G _ _ _ _ _ _ _ _ _ 5 _ _ _)
  refine hp_if_ne (tgt := 10) dX9_train_5 rfl (fun c3 => ?_) (fun c3 => (?_ : hp_G _ _ _ _ _ _ _ _ _ 8 _ _ _))
  · replace hf := of_ c3 hf
    refine hp_iload_n 2 dX9_train_10 rfl rfl (?_ : hp_G _ _ _ _ _ _ _ _ _ 11 _ _ _)
    refine hp_iconst (v := 0) dX9_train_11 ic_0 (?_ : hp_G _ _ _ _ _ _ _ _ _ 12 _ _ _)
    refine hp_bipush (v := 9) dX9_train_12 bi_9 (?_ : hp_G _ _ _ _ _ _ _ _ _ 14 _ _ _)
    replace hf := ob_ hf
    obtain ⟨r4, er4, hf⟩ := hf
    refine clX9_67 (as := [.int p2, .int 0, .int 9]) (st := []) rfl (kX9_within l er4) rfl (by decide) (Nat.le_of_ble_eq_true rfl) dX9_train_14 rfl (?_ : hp_G _ _ _ _ _ _ _ _ _ 17 _ _ _)
    refine hp_if_ne (tgt := 23) dX9_train_17 rfl (fun c5 => ?_) (fun c5 => (?_ : hp_G _ _ _ _ _ _ _ _ _ 20 _ _ _))
    · replace hf := of_ c5 hf
      refine hp_aload_n 0 dX9_train_23 rfl rfl (?_ : hp_G _ _ _ _ _ _ _ _ _ 24 _ _ _)
      replace hf := ob_ hf
      obtain ⟨x6, ex6, hf⟩ := hf
      refine fgX9_22 rfl dX9_train_24 ex6 (?_ : hp_G _ _ _ _ _ _ _ _ _ 27 _ _ _)
      refine hp_iload_n 1 dX9_train_27 rfl rfl (?_ : hp_G _ _ _ _ _ _ _ _ _ 28 _ _ _)
      replace hf := ob_ hf
      obtain ⟨x7, ex7, hf⟩ := hf
      refine hp_iaload dX9_train_28 ex7 (?_ : hp_G _ _ _ _ _ _ _ _ _ 29 _ _ _)
      refine hp_istore_n (lv' := [(3, .int x7), (0, .ref a0), (1, .int p1), (2, .int p2)]) dX9_train_29 rfl (Nat.le_of_ble_eq_true rfl) rfl (?_ : hp_G _ _ _ _ _ _ _ _ _ 30 _ _ _)
      refine hp_aload_n 1 dX9_train_30 rfl rfl (?_ : hp_G _ _ _ _ _ _ _ _ _ 31 _ _ _)
      replace hf := ob_ hf
      obtain ⟨x8, ex8, hf⟩ := hf
      refine fgX9_22 rfl dX9_train_31 ex8 (?_ : hp_G _ _ _ _ _ _ _ _ _ 34 _ _ _)
      refine hp_iload_n 2 dX9_train_34 rfl rfl (?_ : hp_G _ _ _ _ _ _ _ _ _ 35 _ _ _)
      refine hp_iload_n 3 dX9_train_35 rfl rfl (?_ : hp_G _ _ _ _ _ _ _ _ _ 36 _ _ _)
      replace hf := ob_ hf
      obtain ⟨h9, eh9, hf⟩ := hf
      refine hp_iastore dX9_train_36 eh9 (?_ : hp_G _ _ _ _ _ _ _ _ _ 37 _ _ _)
      refine hp_iload_n 0 dX9_train_37 rfl rfl (?_ : hp_G _ _ _ _ _ _ _ _ _ 38 _ _ _)
      obtain rfl := Option.some.inj hf
      exact hp_iret kr (fun z => z) rfl dX9_train_38
    · replace hf := ot_ c5 hf
      refine hp_bipush (v := (-2)) dX9_train_20 bi_m2 (?_ : hp_G _ _ _ _ _ _ _ _ _ 22 _ _ _)
      obtain rfl := Option.some.inj hf
      exact hp_iret kr (fun z => z) rfl dX9_train_22
  · replace hf := ot_ c3 hf
    refine hp_iconst (v := (-1)) dX9_train_8 ic_m1 (?_ : hp_G _ _ _ _ _ _ _ _ _ 9 _ _ _)
    obtain rfl := Option.some.inj hf
    exact hp_iret kr (fun z => z) rfl dX9_train_9
theorem kX9_train (l : Launch) {h : hp_H} {a0 : Nat} {p1 : Int32} {p2 : Int32} {r : (Int32 × hp_H)} (hf : fX9_train h a0 p1 p2 = some r) : hp_Cn l yX9_train mX9_train 1 false 0 0 [.ref a0, .int p1, .int p2] h (fun v h2 => some (.int r.1) = v ∧ r.2 = h2) :=
  hp_of (by decide) rfl (fun z => by cases z) (Nat.le_of_ble_eq_true rfl) (tX9_train l hf ⟨rfl, rfl⟩)
noncomputable def fX8_learn (h : hp_H) (a0 : Nat) (p1 : Int32) (p2 : Int32) : Option (Int32 × hp_H) :=
(hg_o h a0 7).bind fun o1 =>
(fX8_changed h a0 p1 2 p2).bind fun r2 =>
some (r2.1, r2.2)
set_option maxRecDepth 20000 in
set_option maxHeartbeats 4000000 in
theorem tX8_learn (l : Launch) {h : hp_H} {a0 : Nat} {p1 : Int32} {p2 : Int32} {r : (Int32 × hp_H)} (hf : fX8_learn h a0 p1 p2 = some r) {Q : Option Value → hp_H → Prop} (kr : Q (some (.int r.1)) r.2) : hp_G l mX8_learn none 2 false Q false 0 0 0 [(0, .ref a0), (1, .int p1), (2, .int p2)] [] h := by
  unfold fX8_learn at hf
  refine hp_aload_n 0 dX8_learn_0 rfl rfl (?_ : hp_G _ _ _ _ _ _ _ _ _ 1 _ _ _)
  refine hp_iload_n 1 dX8_learn_1 rfl rfl (?_ : hp_G _ _ _ _ _ _ _ _ _ 2 _ _ _)
  refine hp_iconst (v := 2) dX8_learn_2 ic_2 (?_ : hp_G _ _ _ _ _ _ _ _ _ 3 _ _ _)
  refine hp_iload_n 2 dX8_learn_3 rfl rfl (?_ : hp_G _ _ _ _ _ _ _ _ _ 4 _ _ _)
  replace hf := ob_ hf
  obtain ⟨o1, eo1, hf⟩ := hf
  replace hf := ob_ hf
  obtain ⟨r2, er2, hf⟩ := hf
  refine clX8_116 (as := [.int p1, .int 2, .int p2]) (st := []) rfl (kX8_changed l er2) rfl (by decide) (Nat.le_of_ble_eq_true rfl) eo1 dX8_learn_4 rfl (?_ : hp_G _ _ _ _ _ _ _ _ _ 7 _ _ _)
  obtain rfl := Option.some.inj hf
  exact hp_iret kr (fun z => z) rfl dX8_learn_7
theorem kX8_learn (l : Launch) {h : hp_H} {a0 : Nat} {p1 : Int32} {p2 : Int32} {r : (Int32 × hp_H)} (hf : fX8_learn h a0 p1 p2 = some r) : hp_Cn l yX8_learn mX8_learn 2 false 0 0 [.ref a0, .int p1, .int p2] h (fun v h2 => some (.int r.1) = v ∧ r.2 = h2) :=
  hp_of (by decide) rfl (fun z => by cases z) (Nat.le_of_ble_eq_true rfl) (tX8_learn l hf ⟨rfl, rfl⟩)
noncomputable def fX9_learn (h : hp_H) (a0 : Nat) (p1 : Int32) (p2 : Int32) : Option (Int32 × hp_H) :=
(hg_o h a0 8).bind fun o1 =>
(fX9_isPerson h a0 p1).bind fun r2 =>
if r2 = 0 then
(some ((-1), h))
else
((fX9_within h p2 0 9).bind fun r4 =>
if r4 = 0 then
(some ((-2), h))
else
((gq_ h a0 8 10).bind fun x6 =>
(al_ h x6 p1).bind fun x7 =>
(gq_ h a0 8 10).bind fun x8 =>
(ax_ h x8 p1 p2).bind fun h9 =>
some (x7, h9)))
set_option maxRecDepth 20000 in
set_option maxHeartbeats 4000000 in
theorem tX9_learn (l : Launch) {h : hp_H} {a0 : Nat} {p1 : Int32} {p2 : Int32} {r : (Int32 × hp_H)} (hf : fX9_learn h a0 p1 p2 = some r) {Q : Option Value → hp_H → Prop} (kr : Q (some (.int r.1)) r.2) : hp_G l mX9_learn none 1 false Q false 0 0 0 [(0, .ref a0), (1, .int p1), (2, .int p2)] [] h := by
  unfold fX9_learn at hf
  refine hp_aload_n 0 dX9_learn_0 rfl rfl (?_ : hp_G _ _ _ _ _ _ _ _ _ 1 _ _ _)
  refine hp_iload_n 1 dX9_learn_1 rfl rfl (?_ : hp_G _ _ _ _ _ _ _ _ _ 2 _ _ _)
  replace hf := ob_ hf
  obtain ⟨o1, eo1, hf⟩ := hf
  replace hf := ob_ hf
  obtain ⟨r2, er2, hf⟩ := hf
  refine clX9_74 (as := [.int p1]) (st := []) rfl (kX9_isPerson l er2) rfl (by decide) (Nat.le_of_ble_eq_true rfl) eo1 dX9_learn_2 rfl (?_ : hp_G _ _ _ _ _ _ _ _ _ 5 _ _ _)
  refine hp_if_ne (tgt := 10) dX9_learn_5 rfl (fun c3 => ?_) (fun c3 => (?_ : hp_G _ _ _ _ _ _ _ _ _ 8 _ _ _))
  · replace hf := of_ c3 hf
    refine hp_iload_n 2 dX9_learn_10 rfl rfl (?_ : hp_G _ _ _ _ _ _ _ _ _ 11 _ _ _)
    refine hp_iconst (v := 0) dX9_learn_11 ic_0 (?_ : hp_G _ _ _ _ _ _ _ _ _ 12 _ _ _)
    refine hp_bipush (v := 9) dX9_learn_12 bi_9 (?_ : hp_G _ _ _ _ _ _ _ _ _ 14 _ _ _)
    replace hf := ob_ hf
    obtain ⟨r4, er4, hf⟩ := hf
    refine clX9_67 (as := [.int p2, .int 0, .int 9]) (st := []) rfl (kX9_within l er4) rfl (by decide) (Nat.le_of_ble_eq_true rfl) dX9_learn_14 rfl (?_ : hp_G _ _ _ _ _ _ _ _ _ 17 _ _ _)
    refine hp_if_ne (tgt := 23) dX9_learn_17 rfl (fun c5 => ?_) (fun c5 => (?_ : hp_G _ _ _ _ _ _ _ _ _ 20 _ _ _))
    · replace hf := of_ c5 hf
      refine hp_aload_n 0 dX9_learn_23 rfl rfl (?_ : hp_G _ _ _ _ _ _ _ _ _ 24 _ _ _)
      replace hf := ob_ hf
      obtain ⟨x6, ex6, hf⟩ := hf
      refine fgX9_25 rfl dX9_learn_24 ex6 (?_ : hp_G _ _ _ _ _ _ _ _ _ 27 _ _ _)
      refine hp_iload_n 1 dX9_learn_27 rfl rfl (?_ : hp_G _ _ _ _ _ _ _ _ _ 28 _ _ _)
      replace hf := ob_ hf
      obtain ⟨x7, ex7, hf⟩ := hf
      refine hp_iaload dX9_learn_28 ex7 (?_ : hp_G _ _ _ _ _ _ _ _ _ 29 _ _ _)
      refine hp_istore_n (lv' := [(3, .int x7), (0, .ref a0), (1, .int p1), (2, .int p2)]) dX9_learn_29 rfl (Nat.le_of_ble_eq_true rfl) rfl (?_ : hp_G _ _ _ _ _ _ _ _ _ 30 _ _ _)
      refine hp_aload_n 1 dX9_learn_30 rfl rfl (?_ : hp_G _ _ _ _ _ _ _ _ _ 31 _ _ _)
      replace hf := ob_ hf
      obtain ⟨x8, ex8, hf⟩ := hf
      refine fgX9_25 rfl dX9_learn_31 ex8 (?_ : hp_G _ _ _ _ _ _ _ _ _ 34 _ _ _)
      refine hp_iload_n 2 dX9_learn_34 rfl rfl (?_ : hp_G _ _ _ _ _ _ _ _ _ 35 _ _ _)
      refine hp_iload_n 3 dX9_learn_35 rfl rfl (?_ : hp_G _ _ _ _ _ _ _ _ _ 36 _ _ _)
      replace hf := ob_ hf
      obtain ⟨h9, eh9, hf⟩ := hf
      refine hp_iastore dX9_learn_36 eh9 (?_ : hp_G _ _ _ _ _ _ _ _ _ 37 _ _ _)
      refine hp_iload_n 0 dX9_learn_37 rfl rfl (?_ : hp_G _ _ _ _ _ _ _ _ _ 38 _ _ _)
      obtain rfl := Option.some.inj hf
      exact hp_iret kr (fun z => z) rfl dX9_learn_38
    · replace hf := ot_ c5 hf
      refine hp_bipush (v := (-2)) dX9_learn_20 bi_m2 (?_ : hp_G _ _ _ _ _ _ _ _ _ 22 _ _ _)
      obtain rfl := Option.some.inj hf
      exact hp_iret kr (fun z => z) rfl dX9_learn_22
  · replace hf := ot_ c3 hf
    refine hp_iconst (v := (-1)) dX9_learn_8 ic_m1 (?_ : hp_G _ _ _ _ _ _ _ _ _ 9 _ _ _)
    obtain rfl := Option.some.inj hf
    exact hp_iret kr (fun z => z) rfl dX9_learn_9
theorem kX9_learn (l : Launch) {h : hp_H} {a0 : Nat} {p1 : Int32} {p2 : Int32} {r : (Int32 × hp_H)} (hf : fX9_learn h a0 p1 p2 = some r) : hp_Cn l yX9_learn mX9_learn 1 false 0 0 [.ref a0, .int p1, .int p2] h (fun v h2 => some (.int r.1) = v ∧ r.2 = h2) :=
  hp_of (by decide) rfl (fun z => by cases z) (Nat.le_of_ble_eq_true rfl) (tX9_learn l hf ⟨rfl, rfl⟩)
noncomputable def fX7_hasTwo (h : hp_H) (a0 : Nat) (p1 : Int32) (p2 : Int32) : Option Int32 :=
(hg_o h a0 6).bind fun o1 =>
(fX7_has h a0 p1).bind fun r2 =>
if r2 = 0 then
(some 0)
else
((hg_o h a0 6).bind fun o4 =>
(fX7_has h a0 p2).bind fun r5 =>
if r5 = 0 then
(some 0)
else
(if p1 = p2 then
(some 0)
else
(some 1)))
set_option maxRecDepth 20000 in
set_option maxHeartbeats 4000000 in
theorem tX7_hasTwo (l : Launch) {h : hp_H} {a0 : Nat} {p1 : Int32} {p2 : Int32} {r : Int32} (hf : fX7_hasTwo h a0 p1 p2 = some r) {Q : Option Value → hp_H → Prop} (kr : Q (some (.int r)) h) : hp_G l mX7_hasTwo none 1 false Q false 0 0 0 [(0, .ref a0), (1, .int p1), (2, .int p2)] [] h := by
  unfold fX7_hasTwo at hf
  refine hp_aload_n 0 dX7_hasTwo_0 rfl rfl (?_ : hp_G _ _ _ _ _ _ _ _ _ 1 _ _ _)
  refine hp_iload_n 1 dX7_hasTwo_1 rfl rfl (?_ : hp_G _ _ _ _ _ _ _ _ _ 2 _ _ _)
  replace hf := ob_ hf
  obtain ⟨o1, eo1, hf⟩ := hf
  replace hf := ob_ hf
  obtain ⟨r2, er2, hf⟩ := hf
  refine clX7_22 (as := [.int p1]) (st := []) rfl (kX7_has l er2) rfl (by decide) (Nat.le_of_ble_eq_true rfl) eo1 dX7_hasTwo_2 rfl (?_ : hp_G _ _ _ _ _ _ _ _ _ 5 _ _ _)
  refine hp_if_eq (tgt := 25) dX7_hasTwo_5 rfl (fun c3 => ?_) (fun c3 => (?_ : hp_G _ _ _ _ _ _ _ _ _ 8 _ _ _))
  · replace hf := ot_ c3 hf
    refine hp_iconst (v := 0) dX7_hasTwo_25 ic_0 (?_ : hp_G _ _ _ _ _ _ _ _ _ 26 _ _ _)
    obtain rfl := Option.some.inj hf
    exact hp_zret kr (fun z => z) rfl (by decide) dX7_hasTwo_26
  · replace hf := of_ c3 hf
    refine hp_aload_n 0 dX7_hasTwo_8 rfl rfl (?_ : hp_G _ _ _ _ _ _ _ _ _ 9 _ _ _)
    refine hp_iload_n 2 dX7_hasTwo_9 rfl rfl (?_ : hp_G _ _ _ _ _ _ _ _ _ 10 _ _ _)
    replace hf := ob_ hf
    obtain ⟨o4, eo4, hf⟩ := hf
    replace hf := ob_ hf
    obtain ⟨r5, er5, hf⟩ := hf
    refine clX7_22 (as := [.int p2]) (st := []) rfl (kX7_has l er5) rfl (by decide) (Nat.le_of_ble_eq_true rfl) eo4 dX7_hasTwo_10 rfl (?_ : hp_G _ _ _ _ _ _ _ _ _ 13 _ _ _)
    refine hp_if_eq (tgt := 25) dX7_hasTwo_13 rfl (fun c6 => ?_) (fun c6 => (?_ : hp_G _ _ _ _ _ _ _ _ _ 16 _ _ _))
    · replace hf := ot_ c6 hf
      refine hp_iconst (v := 0) dX7_hasTwo_25 ic_0 (?_ : hp_G _ _ _ _ _ _ _ _ _ 26 _ _ _)
      obtain rfl := Option.some.inj hf
      exact hp_zret kr (fun z => z) rfl (by decide) dX7_hasTwo_26
    · replace hf := of_ c6 hf
      refine hp_iload_n 1 dX7_hasTwo_16 rfl rfl (?_ : hp_G _ _ _ _ _ _ _ _ _ 17 _ _ _)
      refine hp_iload_n 2 dX7_hasTwo_17 rfl rfl (?_ : hp_G _ _ _ _ _ _ _ _ _ 18 _ _ _)
      refine hp_icmp_eq (tgt := 25) dX7_hasTwo_18 rfl (fun c7 => ?_) (fun c7 => (?_ : hp_G _ _ _ _ _ _ _ _ _ 21 _ _ _))
      · replace hf := ot_ c7 hf
        refine hp_iconst (v := 0) dX7_hasTwo_25 ic_0 (?_ : hp_G _ _ _ _ _ _ _ _ _ 26 _ _ _)
        obtain rfl := Option.some.inj hf
        exact hp_zret kr (fun z => z) rfl (by decide) dX7_hasTwo_26
      · replace hf := of_ c7 hf
        refine hp_iconst (v := 1) dX7_hasTwo_21 ic_1 (?_ : hp_G _ _ _ _ _ _ _ _ _ 22 _ _ _)
        refine hp_goto (tgt := 26) dX7_hasTwo_22 rfl (?_ : hp_G _ _ _ _ _ _ _ _ _ 26 _ _ _)
        obtain rfl := Option.some.inj hf
        exact hp_zret kr (fun z => z) rfl (by decide) dX7_hasTwo_26
theorem kX7_hasTwo (l : Launch) {h : hp_H} {a0 : Nat} {p1 : Int32} {p2 : Int32} {r : Int32} (hf : fX7_hasTwo h a0 p1 p2 = some r) : hp_Cn l yX7_hasTwo mX7_hasTwo 1 false 0 0 [.ref a0, .int p1, .int p2] h (fun v h2 => some (.int r) = v ∧ h = h2) :=
  hp_of (by decide) rfl (fun z => by cases z) (Nat.le_of_ble_eq_true rfl) (tX7_hasTwo l hf ⟨rfl, rfl⟩)
noncomputable def fX2_canPlay (h : hp_H) (a0 : Nat) (p1 : Int32) : Option Int32 :=
(hg_o h a0 2).bind fun o1 =>
(fX2_worst h a0).bind fun r2 =>
if p1 < r2 then
(some 0)
else
((hg_o h a0 2).bind fun o4 =>
(fX2_best h a0).bind fun r5 =>
if r5 < p1 then
(some 0)
else
(some 1))
set_option maxRecDepth 20000 in
set_option maxHeartbeats 4000000 in
theorem tX2_canPlay (l : Launch) {h : hp_H} {a0 : Nat} {p1 : Int32} {r : Int32} (hf : fX2_canPlay h a0 p1 = some r) {Q : Option Value → hp_H → Prop} (kr : Q (some (.int r)) h) : hp_G l mX2_canPlay none 2 false Q false 0 0 0 [(0, .ref a0), (1, .int p1)] [] h := by
  unfold fX2_canPlay at hf
  refine hp_iload_n 1 dX2_canPlay_0 rfl rfl (?_ : hp_G _ _ _ _ _ _ _ _ _ 1 _ _ _)
  refine hp_aload_n 0 dX2_canPlay_1 rfl rfl (?_ : hp_G _ _ _ _ _ _ _ _ _ 2 _ _ _)
  replace hf := ob_ hf
  obtain ⟨o1, eo1, hf⟩ := hf
  replace hf := ob_ hf
  obtain ⟨r2, er2, hf⟩ := hf
  refine clX2_31 (as := []) (st := [.int p1]) rfl (kX2_worst l er2) rfl (by decide) (Nat.le_of_ble_eq_true rfl) eo1 dX2_canPlay_2 rfl (?_ : hp_G _ _ _ _ _ _ _ _ _ 5 _ _ _)
  refine hp_icmp_lt (tgt := 20) dX2_canPlay_5 rfl (fun c3 => ?_) (fun c3 => (?_ : hp_G _ _ _ _ _ _ _ _ _ 8 _ _ _))
  · replace hf := ot_ c3 hf
    refine hp_iconst (v := 0) dX2_canPlay_20 ic_0 (?_ : hp_G _ _ _ _ _ _ _ _ _ 21 _ _ _)
    obtain rfl := Option.some.inj hf
    exact hp_zret kr (fun z => z) rfl (by decide) dX2_canPlay_21
  · replace hf := of_ c3 hf
    refine hp_iload_n 1 dX2_canPlay_8 rfl rfl (?_ : hp_G _ _ _ _ _ _ _ _ _ 9 _ _ _)
    refine hp_aload_n 0 dX2_canPlay_9 rfl rfl (?_ : hp_G _ _ _ _ _ _ _ _ _ 10 _ _ _)
    replace hf := ob_ hf
    obtain ⟨o4, eo4, hf⟩ := hf
    replace hf := ob_ hf
    obtain ⟨r5, er5, hf⟩ := hf
    refine clX2_21 (as := []) (st := [.int p1]) rfl (kX2_best l er5) rfl (by decide) (Nat.le_of_ble_eq_true rfl) eo4 dX2_canPlay_10 rfl (?_ : hp_G _ _ _ _ _ _ _ _ _ 13 _ _ _)
    refine hp_icmp_gt (tgt := 20) dX2_canPlay_13 rfl (fun c6 => ?_) (fun c6 => (?_ : hp_G _ _ _ _ _ _ _ _ _ 16 _ _ _))
    · replace hf := ot_ c6 hf
      refine hp_iconst (v := 0) dX2_canPlay_20 ic_0 (?_ : hp_G _ _ _ _ _ _ _ _ _ 21 _ _ _)
      obtain rfl := Option.some.inj hf
      exact hp_zret kr (fun z => z) rfl (by decide) dX2_canPlay_21
    · replace hf := of_ c6 hf
      refine hp_iconst (v := 1) dX2_canPlay_16 ic_1 (?_ : hp_G _ _ _ _ _ _ _ _ _ 17 _ _ _)
      refine hp_goto (tgt := 21) dX2_canPlay_17 rfl (?_ : hp_G _ _ _ _ _ _ _ _ _ 21 _ _ _)
      obtain rfl := Option.some.inj hf
      exact hp_zret kr (fun z => z) rfl (by decide) dX2_canPlay_21
theorem kX2_canPlay (l : Launch) {h : hp_H} {a0 : Nat} {p1 : Int32} {r : Int32} (hf : fX2_canPlay h a0 p1 = some r) : hp_Cn l yX2_canPlay mX2_canPlay 2 false 0 0 [.ref a0, .int p1] h (fun v h2 => some (.int r) = v ∧ h = h2) :=
  hp_of (by decide) rfl (fun z => by cases z) (Nat.le_of_ble_eq_true rfl) (tX2_canPlay l hf ⟨rfl, rfl⟩)
noncomputable def fX7_bothHere (h : hp_H) (a0 : Nat) (p1 : Int32) (p2 : Int32) : Option Int32 :=
(gq_ h a0 6 0).bind fun x1 =>
(ql_ h x1 p1).bind fun x2 =>
(gi_ h x2 2 3).bind fun x3 =>
if x3 = 0 then
((gq_ h a0 6 0).bind fun x5 =>
(ql_ h x5 p2).bind fun x6 =>
(gi_ h x6 2 3).bind fun x7 =>
if x7 = 0 then
(some 1)
else
(some 0))
else
(some 0)
set_option maxRecDepth 20000 in
set_option maxHeartbeats 4000000 in
theorem tX7_bothHere (l : Launch) {h : hp_H} {a0 : Nat} {p1 : Int32} {p2 : Int32} {r : Int32} (hf : fX7_bothHere h a0 p1 p2 = some r) {Q : Option Value → hp_H → Prop} (kr : Q (some (.int r)) h) : hp_G l mX7_bothHere none 0 false Q false 0 0 0 [(0, .ref a0), (1, .int p1), (2, .int p2)] [] h := by
  unfold fX7_bothHere at hf
  refine hp_aload_n 0 dX7_bothHere_0 rfl rfl (?_ : hp_G _ _ _ _ _ _ _ _ _ 1 _ _ _)
  replace hf := ob_ hf
  obtain ⟨x1, ex1, hf⟩ := hf
  refine fgX7_11 rfl dX7_bothHere_1 ex1 (?_ : hp_G _ _ _ _ _ _ _ _ _ 4 _ _ _)
  refine hp_iload_n 1 dX7_bothHere_4 rfl rfl (?_ : hp_G _ _ _ _ _ _ _ _ _ 5 _ _ _)
  replace hf := ob_ hf
  obtain ⟨x2, ex2, hf⟩ := hf
  refine hp_aaload dX7_bothHere_5 ex2 (?_ : hp_G _ _ _ _ _ _ _ _ _ 6 _ _ _)
  replace hf := ob_ hf
  obtain ⟨x3, ex3, hf⟩ := hf
  refine fgX7_26 rfl dX7_bothHere_6 ex3 (?_ : hp_G _ _ _ _ _ _ _ _ _ 9 _ _ _)
  refine hp_if_ne (tgt := 28) dX7_bothHere_9 rfl (fun c4 => ?_) (fun c4 => (?_ : hp_G _ _ _ _ _ _ _ _ _ 12 _ _ _))
  · replace hf := of_ c4 hf
    refine hp_iconst (v := 0) dX7_bothHere_28 ic_0 (?_ : hp_G _ _ _ _ _ _ _ _ _ 29 _ _ _)
    obtain rfl := Option.some.inj hf
    exact hp_zret kr (fun z => z) rfl (by decide) dX7_bothHere_29
  · replace hf := ot_ c4 hf
    refine hp_aload_n 0 dX7_bothHere_12 rfl rfl (?_ : hp_G _ _ _ _ _ _ _ _ _ 13 _ _ _)
    replace hf := ob_ hf
    obtain ⟨x5, ex5, hf⟩ := hf
    refine fgX7_11 rfl dX7_bothHere_13 ex5 (?_ : hp_G _ _ _ _ _ _ _ _ _ 16 _ _ _)
    refine hp_iload_n 2 dX7_bothHere_16 rfl rfl (?_ : hp_G _ _ _ _ _ _ _ _ _ 17 _ _ _)
    replace hf := ob_ hf
    obtain ⟨x6, ex6, hf⟩ := hf
    refine hp_aaload dX7_bothHere_17 ex6 (?_ : hp_G _ _ _ _ _ _ _ _ _ 18 _ _ _)
    replace hf := ob_ hf
    obtain ⟨x7, ex7, hf⟩ := hf
    refine fgX7_26 rfl dX7_bothHere_18 ex7 (?_ : hp_G _ _ _ _ _ _ _ _ _ 21 _ _ _)
    refine hp_if_ne (tgt := 28) dX7_bothHere_21 rfl (fun c8 => ?_) (fun c8 => (?_ : hp_G _ _ _ _ _ _ _ _ _ 24 _ _ _))
    · replace hf := of_ c8 hf
      refine hp_iconst (v := 0) dX7_bothHere_28 ic_0 (?_ : hp_G _ _ _ _ _ _ _ _ _ 29 _ _ _)
      obtain rfl := Option.some.inj hf
      exact hp_zret kr (fun z => z) rfl (by decide) dX7_bothHere_29
    · replace hf := ot_ c8 hf
      refine hp_iconst (v := 1) dX7_bothHere_24 ic_1 (?_ : hp_G _ _ _ _ _ _ _ _ _ 25 _ _ _)
      refine hp_goto (tgt := 29) dX7_bothHere_25 rfl (?_ : hp_G _ _ _ _ _ _ _ _ _ 29 _ _ _)
      obtain rfl := Option.some.inj hf
      exact hp_zret kr (fun z => z) rfl (by decide) dX7_bothHere_29
theorem kX7_bothHere (l : Launch) {h : hp_H} {a0 : Nat} {p1 : Int32} {p2 : Int32} {r : Int32} (hf : fX7_bothHere h a0 p1 p2 = some r) : hp_Cn l yX7_bothHere mX7_bothHere 0 false 0 0 [.ref a0, .int p1, .int p2] h (fun v h2 => some (.int r) = v ∧ h = h2) :=
  hp_of (by decide) rfl (fun z => by cases z) (Nat.le_of_ble_eq_true rfl) (tX7_bothHere l hf ⟨rfl, rfl⟩)
noncomputable def jX7_winnerLeaves_20 (g : hp_H)  (u0 : Nat) (k0 : Int32) : Option (Int32 × hp_H) :=
(gq_ g u0 6 0).bind fun x3 =>
(ql_ g x3 k0).bind fun x4 =>
(pz_ g x4 2 3 1).bind fun h5 =>
some (k0, h5)
set_option maxRecDepth 20000 in
set_option maxHeartbeats 4000000 in
theorem tjX7_winnerLeaves_20 (l : Launch) {g : hp_H}  {u0 : Nat} {k0 : Int32} {r : (Int32 × hp_H)} (hf : jX7_winnerLeaves_20 g u0 k0 = some r) {Q : Option Value → hp_H → Prop} (kr : Q (some (.int r.1)) r.2) : hp_G l mX7_winnerLeaves none 0 false Q false 0 0 20 [(0, .ref u0)] [.int k0] g := by
  unfold jX7_winnerLeaves_20 at hf
  refine hp_istore (lv' := [(5, .int k0), (0, .ref u0)]) dX7_winnerLeaves_20 (Nat.le_of_ble_eq_true rfl) rfl (?_ : hp_G _ _ _ _ _ _ _ _ _ 22 _ _ _)
  refine hp_aload_n 1 dX7_winnerLeaves_22 rfl rfl (?_ : hp_G _ _ _ _ _ _ _ _ _ 23 _ _ _)
  replace hf := ob_ hf
  obtain ⟨x3, ex3, hf⟩ := hf
  refine fgX7_11 rfl dX7_winnerLeaves_23 ex3 (?_ : hp_G _ _ _ _ _ _ _ _ _ 26 _ _ _)
  refine hp_iload 0 dX7_winnerLeaves_26 rfl (?_ : hp_G _ _ _ _ _ _ _ _ _ 28 _ _ _)
  replace hf := ob_ hf
  obtain ⟨x4, ex4, hf⟩ := hf
  refine hp_aaload dX7_winnerLeaves_28 ex4 (?_ : hp_G _ _ _ _ _ _ _ _ _ 29 _ _ _)
  refine hp_iconst (v := 1) dX7_winnerLeaves_29 ic_1 (?_ : hp_G _ _ _ _ _ _ _ _ _ 30 _ _ _)
  replace hf := ob_ hf
  obtain ⟨h5, eh5, hf⟩ := hf
  refine fpX7_26 rfl dX7_winnerLeaves_30 eh5 (?_ : hp_G _ _ _ _ _ _ _ _ _ 33 _ _ _)
  refine hp_iload 0 dX7_winnerLeaves_33 rfl (?_ : hp_G _ _ _ _ _ _ _ _ _ 35 _ _ _)
  obtain rfl := Option.some.inj hf
  exact hp_iret kr (fun z => z) rfl dX7_winnerLeaves_35
noncomputable def fX7_winnerLeaves (h : hp_H) (a0 : Nat) (p1 : Int32) (p2 : Int32) (p3 : Int32) (p4 : Int32) : Option (Int32 × hp_H) :=
if p3 = p4 then
(some ((-9), h))
else
(if p3 ≤ p4 then
(jX7_winnerLeaves_20 h a0 p2)
else
(jX7_winnerLeaves_20 h a0 p1))
set_option maxRecDepth 20000 in
set_option maxHeartbeats 4000000 in
theorem tX7_winnerLeaves (l : Launch) {h : hp_H} {a0 : Nat} {p1 : Int32} {p2 : Int32} {p3 : Int32} {p4 : Int32} {r : (Int32 × hp_H)} (hf : fX7_winnerLeaves h a0 p1 p2 p3 p4 = some r) {Q : Option Value → hp_H → Prop} (kr : Q (some (.int r.1)) r.2) : hp_G l mX7_winnerLeaves none 0 false Q false 0 0 0 [(0, .ref a0), (1, .int p1), (2, .int p2), (3, .int p3), (4, .int p4)] [] h := by
  unfold fX7_winnerLeaves at hf
  refine hp_iload_n 3 dX7_winnerLeaves_0 rfl rfl (?_ : hp_G _ _ _ _ _ _ _ _ _ 1 _ _ _)
  refine hp_iload 4 dX7_winnerLeaves_1 rfl (?_ : hp_G _ _ _ _ _ _ _ _ _ 3 _ _ _)
  refine hp_icmp_ne (tgt := 9) dX7_winnerLeaves_3 rfl (fun c1 => ?_) (fun c1 => (?_ : hp_G _ _ _ _ _ _ _ _ _ 6 _ _ _))
  · replace hf := of_ c1 hf
    refine hp_iload_n 3 dX7_winnerLeaves_9 rfl rfl (?_ : hp_G _ _ _ _ _ _ _ _ _ 10 _ _ _)
    refine hp_iload 4 dX7_winnerLeaves_10 rfl (?_ : hp_G _ _ _ _ _ _ _ _ _ 12 _ _ _)
    refine hp_icmp_le (tgt := 19) dX7_winnerLeaves_12 rfl (fun c2 => ?_) (fun c2 => (?_ : hp_G _ _ _ _ _ _ _ _ _ 15 _ _ _))
    · replace hf := ot_ c2 hf
      refine hp_iload_n 2 dX7_winnerLeaves_19 rfl rfl (?_ : hp_G _ _ _ _ _ _ _ _ _ 20 _ _ _)
      exact hp_sub [0] rfl (tjX7_winnerLeaves_20 l hf kr)
    · replace hf := of_ c2 hf
      refine hp_iload_n 1 dX7_winnerLeaves_15 rfl rfl (?_ : hp_G _ _ _ _ _ _ _ _ _ 16 _ _ _)
      refine hp_goto (tgt := 20) dX7_winnerLeaves_16 rfl (?_ : hp_G _ _ _ _ _ _ _ _ _ 20 _ _ _)
      exact hp_sub [0] rfl (tjX7_winnerLeaves_20 l hf kr)
  · replace hf := ot_ c1 hf
    refine hp_bipush (v := (-9)) dX7_winnerLeaves_6 bi_m9 (?_ : hp_G _ _ _ _ _ _ _ _ _ 8 _ _ _)
    obtain rfl := Option.some.inj hf
    exact hp_iret kr (fun z => z) rfl dX7_winnerLeaves_8
theorem kX7_winnerLeaves (l : Launch) {h : hp_H} {a0 : Nat} {p1 : Int32} {p2 : Int32} {p3 : Int32} {p4 : Int32} {r : (Int32 × hp_H)} (hf : fX7_winnerLeaves h a0 p1 p2 p3 p4 = some r) : hp_Cn l yX7_winnerLeaves mX7_winnerLeaves 0 false 0 0 [.ref a0, .int p1, .int p2, .int p3, .int p4] h (fun v h2 => some (.int r.1) = v ∧ r.2 = h2) :=
  hp_of (by decide) rfl (fun z => by cases z) (Nat.le_of_ble_eq_true rfl) (tX7_winnerLeaves l hf ⟨rfl, rfl⟩)
