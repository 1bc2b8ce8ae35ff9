noncomputable def fX4_answer (h : hp_H) (a0 : Nat) (p1 : Int32) : Option Int32 :=
if p1 = 1 then
((gi_ h a0 4 4).bind fun x33 =>
some x33)
else
((gi_ h a0 4 4).bind fun x2 =>
if x2 = (-9) then
(if p1 = 0 then
((gq_ h a0 4 0).bind fun x5 =>
(gi_ h x5 6 1).bind fun x6 =>
(gq_ h a0 4 0).bind fun x7 =>
(hg_o h x7 6).bind fun o8 =>
(fX7_goneSet h x7).bind fun r9 =>
(fJ6_bitCount_0f7a4 h r9).bind fun r10 =>
some (x6 - r10))
else
(if p1 = 1 then
((gq_ h a0 4 0).bind fun x12 =>
(hg_o h x12 6).bind fun o13 =>
(fX7_has h x12 (p1 - 10)).bind fun r14 =>
if r14 = 0 then
(some (-9))
else
((gq_ h a0 4 1).bind fun x16 =>
(al_ h x16 (p1 - 10)).bind fun x17 =>
some x17))
else
(if p1 = 2 then
((gq_ h a0 4 0).bind fun x19 =>
(hg_o h x19 6).bind fun o20 =>
(fX7_goneSet h x19).bind fun r21 =>
some r21)
else
(if p1 = 3 then
((gi_ h a0 4 2).bind fun x23 =>
some x23)
else
(if p1 = 4 then
((gi_ h a0 4 3).bind fun x25 =>
some x25)
else
((gq_ h a0 4 0).bind fun x26 =>
(hg_o h x26 6).bind fun o27 =>
(fX7_has h x26 (p1 - 10)).bind fun r28 =>
if r28 = 0 then
(some (-9))
else
((gq_ h a0 4 1).bind fun x30 =>
(al_ h x30 (p1 - 10)).bind fun x31 =>
some x31)))))))
else
((gi_ h a0 4 4).bind fun x32 =>
some ((-100) - x32)))
set_option maxRecDepth 20000 in
set_option maxHeartbeats 4000000 in
theorem tX4_answer (l : Launch) {h : hp_H} {a0 : Nat} {p1 : Int32} {r : Int32} (hf : fX4_answer h a0 p1 = some r) {Q : Option Value → hp_H → Prop} (kr : Q (some (.int r)) h) : hp_G l mX4_answer none 1 false Q false 0 0 0 [(0, .ref a0), (1, .int p1)] [] h := by
  unfold fX4_answer at hf
  refine hp_iload_n 1 dX4_answer_0 rfl rfl (?_ : hp_G _ _ _ _ _ _ _ _ _ 1 _ _ _)
  refine hp_iconst (v := 1) dX4_answer_1 ic_1 (?_ : hp_G _ _ _ _ _ _ _ _ _ 2 _ _ _)
  refine hp_icmp_ne (tgt := 10) dX4_answer_2 rfl (fun c1 => ?_) (fun c1 => (?_ : hp_G _ _ _ _ _ _ _ _ _ 5 _ _ _))
  · replace hf := of_ c1 hf
    refine hp_aload_n 0 dX4_answer_10 rfl rfl (?_ : hp_G _ _ _ _ _ _ _ _ _ 11 _ _ _)
    replace hf := ob_ hf
    obtain ⟨x2, ex2, hf⟩ := hf
    refine fgX4_39 rfl dX4_answer_11 ex2 (?_ : hp_G _ _ _ _ _ _ _ _ _ 14 _ _ _)
    refine hp_bipush (v := (-9)) dX4_answer_14 bi_m9 (?_ : hp_G _ _ _ _ _ _ _ _ _ 16 _ _ _)
    refine hp_icmp_eq (tgt := 27) dX4_answer_16 rfl (fun c3 => ?_) (fun c3 => (?_ : hp_G _ _ _ _ _ _ _ _ _ 19 _ _ _))
    · replace hf := ot_ c3 hf
      refine hp_iload_n 1 dX4_answer_27 rfl rfl (?_ : hp_G _ _ _ _ _ _ _ _ _ 28 _ _ _)
      by_cases c4 : p1 = 0
      · replace hf := ot_ c4 hf
        refine hp_tableIn (tgt := 64) dX4_answer_28 (by rw [c4]; decide) (by rw [c4]; decide) (by rw [c4]; rfl) (by decide) ?_
        refine hp_aload_n 0 dX4_answer_64 rfl rfl (?_ : hp_G _ _ _ _ _ _ _ _ _ 65 _ _ _)
        replace hf := ob_ hf
        obtain ⟨x5, ex5, hf⟩ := hf
        refine fgX4_12 rfl dX4_answer_65 ex5 (?_ : hp_G _ _ _ _ _ _ _ _ _ 68 _ _ _)
        replace hf := ob_ hf
        obtain ⟨x6, ex6, hf⟩ := hf
        refine fgX4_90 rfl dX4_answer_68 ex6 (?_ : hp_G _ _ _ _ _ _ _ _ _ 71 _ _ _)
        refine hp_aload_n 0 dX4_answer_71 rfl rfl (?_ : hp_G _ _ _ _ _ _ _ _ _ 72 _ _ _)
        replace hf := ob_ hf
        obtain ⟨x7, ex7, hf⟩ := hf
        refine fgX4_12 rfl dX4_answer_72 ex7 (?_ : hp_G _ _ _ _ _ _ _ _ _ 75 _ _ _)
        replace hf := ob_ hf
        obtain ⟨o8, eo8, hf⟩ := hf
        replace hf := ob_ hf
        obtain ⟨r9, er9, hf⟩ := hf
        refine clX4_93 (as := []) (st := [.int x6]) rfl (kX7_goneSet l er9) rfl (by decide) (Nat.le_of_ble_eq_true rfl) eo8 dX4_answer_75 rfl (?_ : hp_G _ _ _ _ _ _ _ _ _ 78 _ _ _)
        replace hf := ob_ hf
        obtain ⟨r10, er10, hf⟩ := hf
        refine clX4_96 (as := [.int r9]) (st := [.int x6]) rfl (kJ6_bitCount_0f7a4 l er10) rfl (by decide) (Nat.le_of_ble_eq_true rfl) dX4_answer_78 rfl (?_ : hp_G _ _ _ _ _ _ _ _ _ 81 _ _ _)
        refine hp_isub dX4_answer_81 (?_ : hp_G _ _ _ _ _ _ _ _ _ 82 _ _ _)
        obtain rfl := Option.some.inj hf
        exact hp_iret kr (fun z => z) rfl dX4_answer_82
      · replace hf := of_ c4 hf
        by_cases c11 : p1 = 1
        · replace hf := ot_ c11 hf
          refine hp_tableIn (tgt := 101) dX4_answer_28 (by rw [c11]; decide) (by rw [c11]; decide) (by rw [c11]; rfl) (by decide) ?_
          refine hp_aload_n 0 dX4_answer_101 rfl rfl (?_ : hp_G _ _ _ _ _ _ _ _ _ 102 _ _ _)
          replace hf := ob_ hf
          obtain ⟨x12, ex12, hf⟩ := hf
          refine fgX4_12 rfl dX4_answer_102 ex12 (?_ : hp_G _ _ _ _ _ _ _ _ _ 105 _ _ _)
          refine hp_iload_n 1 dX4_answer_105 rfl rfl (?_ : hp_G _ _ _ _ _ _ _ _ _ 106 _ _ _)
          refine hp_bipush (v := 10) dX4_answer_106 bi_10 (?_ : hp_G _ _ _ _ _ _ _ _ _ 108 _ _ _)
          refine hp_isub dX4_answer_108 (?_ : hp_G _ _ _ _ _ _ _ _ _ 109 _ _ _)
          replace hf := ob_ hf
          obtain ⟨o13, eo13, hf⟩ := hf
          replace hf := ob_ hf
          obtain ⟨r14, er14, hf⟩ := hf
          refine clX4_52 (as := [.int (p1 - 10)]) (st := []) rfl (kX7_has l er14) rfl (by decide) (Nat.le_of_ble_eq_true rfl) eo13 dX4_answer_109 rfl (?_ : hp_G _ _ _ _ _ _ _ _ _ 112 _ _ _)
          refine hp_if_eq (tgt := 127) dX4_answer_112 rfl (fun c15 => ?_) (fun c15 => (?_ : hp_G _ _ _ _ _ _ _ _ _ 115 _ _ _))
          · replace hf := ot_ c15 hf
            refine hp_bipush (v := (-9)) dX4_answer_127 bi_m9 (?_ : hp_G _ _ _ _ _ _ _ _ _ 129 _ _ _)
            obtain rfl := Option.some.inj hf
            exact hp_iret kr (fun z => z) rfl dX4_answer_129
          · replace hf := of_ c15 hf
            refine hp_aload_n 0 dX4_answer_115 rfl rfl (?_ : hp_G _ _ _ _ _ _ _ _ _ 116 _ _ _)
            replace hf := ob_ hf
            obtain ⟨x16, ex16, hf⟩ := hf
            refine fgX4_18 rfl dX4_answer_116 ex16 (?_ : hp_G _ _ _ _ _ _ _ _ _ 119 _ _ _)
            refine hp_iload_n 1 dX4_answer_119 rfl rfl (?_ : hp_G _ _ _ _ _ _ _ _ _ 120 _ _ _)
            refine hp_bipush (v := 10) dX4_answer_120 bi_10 (?_ : hp_G _ _ _ _ _ _ _ _ _ 122 _ _ _)
            refine hp_isub dX4_answer_122 (?_ : hp_G _ _ _ _ _ _ _ _ _ 123 _ _ _)
            replace hf := ob_ hf
            obtain ⟨x17, ex17, hf⟩ := hf
            refine hp_iaload dX4_answer_123 ex17 (?_ : hp_G _ _ _ _ _ _ _ _ _ 124 _ _ _)
            refine hp_goto (tgt := 129) dX4_answer_124 rfl (?_ : hp_G _ _ _ _ _ _ _ _ _ 129 _ _ _)
            obtain rfl := Option.some.inj hf
            exact hp_iret kr (fun z => z) rfl dX4_answer_129
        · replace hf := of_ c11 hf
          by_cases c18 : p1 = 2
          · replace hf := ot_ c18 hf
            refine hp_tableIn (tgt := 83) dX4_answer_28 (by rw [c18]; decide) (by rw [c18]; decide) (by rw [c18]; rfl) (by decide) ?_
            refine hp_aload_n 0 dX4_answer_83 rfl rfl (?_ : hp_G _ _ _ _ _ _ _ _ _ 84 _ _ _)
            replace hf := ob_ hf
            obtain ⟨x19, ex19, hf⟩ := hf
            refine fgX4_12 rfl dX4_answer_84 ex19 (?_ : hp_G _ _ _ _ _ _ _ _ _ 87 _ _ _)
            replace hf := ob_ hf
            obtain ⟨o20, eo20, hf⟩ := hf
            replace hf := ob_ hf
            obtain ⟨r21, er21, hf⟩ := hf
            refine clX4_93 (as := []) (st := []) rfl (kX7_goneSet l er21) rfl (by decide) (Nat.le_of_ble_eq_true rfl) eo20 dX4_answer_87 rfl (?_ : hp_G _ _ _ _ _ _ _ _ _ 90 _ _ _)
            obtain rfl := Option.some.inj hf
            exact hp_iret kr (fun z => z) rfl dX4_answer_90
          · replace hf := of_ c18 hf
            by_cases c22 : p1 = 3
            · replace hf := ot_ c22 hf
              refine hp_tableIn (tgt := 91) dX4_answer_28 (by rw [c22]; decide) (by rw [c22]; decide) (by rw [c22]; rfl) (by decide) ?_
              refine hp_aload_n 0 dX4_answer_91 rfl rfl (?_ : hp_G _ _ _ _ _ _ _ _ _ 92 _ _ _)
              replace hf := ob_ hf
              obtain ⟨x23, ex23, hf⟩ := hf
              refine fgX4_32 rfl dX4_answer_92 ex23 (?_ : hp_G _ _ _ _ _ _ _ _ _ 95 _ _ _)
              obtain rfl := Option.some.inj hf
              exact hp_iret kr (fun z => z) rfl dX4_answer_95
            · replace hf := of_ c22 hf
              by_cases c24 : p1 = 4
              · replace hf := ot_ c24 hf
                refine hp_tableIn (tgt := 96) dX4_answer_28 (by rw [c24]; decide) (by rw [c24]; decide) (by rw [c24]; rfl) (by decide) ?_
                refine hp_aload_n 0 dX4_answer_96 rfl rfl (?_ : hp_G _ _ _ _ _ _ _ _ _ 97 _ _ _)
                replace hf := ob_ hf
                obtain ⟨x25, ex25, hf⟩ := hf
                refine fgX4_36 rfl dX4_answer_97 ex25 (?_ : hp_G _ _ _ _ _ _ _ _ _ 100 _ _ _)
                obtain rfl := Option.some.inj hf
                exact hp_iret kr (fun z => z) rfl dX4_answer_100
              · replace hf := of_ c24 hf
                refine hp_tableOut (tgt := 101) dX4_answer_28 (by have q0 := hp_nei (z := 0) (by decide) c4; have q1 := hp_nei (z := 1) (by decide) c11; have q2 := hp_nei (z := 2) (by decide) c18; have q3 := hp_nei (z := 3) (by decide) c22; have q4 := hp_nei (z := 4) (by decide) c24; omega) (by decide) ?_
                refine hp_aload_n 0 dX4_answer_101 rfl rfl (?_ : hp_G _ _ _ _ _ _ _ _ _ 102 _ _ _)
                replace hf := ob_ hf
                obtain ⟨x26, ex26, hf⟩ := hf
                refine fgX4_12 rfl dX4_answer_102 ex26 (?_ : hp_G _ _ _ _ _ _ _ _ _ 105 _ _ _)
                refine hp_iload_n 1 dX4_answer_105 rfl rfl (?_ : hp_G _ _ _ _ _ _ _ _ _ 106 _ _ _)
                refine hp_bipush (v := 10) dX4_answer_106 bi_10 (?_ : hp_G _ _ _ _ _ _ _ _ _ 108 _ _ _)
                refine hp_isub dX4_answer_108 (?_ : hp_G _ _ _ _ _ _ _ _ _ 109 _ _ _)
                replace hf := ob_ hf
                obtain ⟨o27, eo27, hf⟩ := hf
                replace hf := ob_ hf
                obtain ⟨r28, er28, hf⟩ := hf
                refine clX4_52 (as := [.int (p1 - 10)]) (st := []) rfl (kX7_has l er28) rfl (by decide) (Nat.le_of_ble_eq_true rfl) eo27 dX4_answer_109 rfl (?_ : hp_G _ _ _ _ _ _ _ _ _ 112 _ _ _)
                refine hp_if_eq (tgt := 127) dX4_answer_112 rfl (fun c29 => ?_) (fun c29 => (?_ : hp_G _ _ _ _ _ _ _ _ _ 115 _ _ _))
                · replace hf := ot_ c29 hf
                  refine hp_bipush (v := (-9)) dX4_answer_127 bi_m9 (?_ : hp_G _ _ _ _ _ _ _ _ _ 129 _ _ _)
                  obtain rfl := Option.some.inj hf
                  exact hp_iret kr (fun z => z) rfl dX4_answer_129
                · replace hf := of_ c29 hf
                  refine hp_aload_n 0 dX4_answer_115 rfl rfl (?_ : hp_G _ _ _ _ _ _ _ _ _ 116 _ _ _)
                  replace hf := ob_ hf
                  obtain ⟨x30, ex30, hf⟩ := hf
                  refine fgX4_18 rfl dX4_answer_116 ex30 (?_ : hp_G _ _ _ _ _ _ _ _ _ 119 _ _ _)
                  refine hp_iload_n 1 dX4_answer_119 rfl rfl (?_ : hp_G _ _ _ _ _ _ _ _ _ 120 _ _ _)
                  refine hp_bipush (v := 10) dX4_answer_120 bi_10 (?_ : hp_G _ _ _ _ _ _ _ _ _ 122 _ _ _)
                  refine hp_isub dX4_answer_122 (?_ : hp_G _ _ _ _ _ _ _ _ _ 123 _ _ _)
                  replace hf := ob_ hf
                  obtain ⟨x31, ex31, hf⟩ := hf
                  refine hp_iaload dX4_answer_123 ex31 (?_ : hp_G _ _ _ _ _ _ _ _ _ 124 _ _ _)
                  refine hp_goto (tgt := 129) dX4_answer_124 rfl (?_ : hp_G _ _ _ _ _ _ _ _ _ 129 _ _ _)
                  obtain rfl := Option.some.inj hf
                  exact hp_iret kr (fun z => z) rfl dX4_answer_129
    · replace hf := of_ c3 hf
      refine hp_bipush (v := (-100)) dX4_answer_19 bi_m100 (?_ : hp_G _ _ _ _ _ _ _ _ _ 21 _ _ _)
      refine hp_aload_n 0 dX4_answer_21 rfl rfl (?_ : hp_G _ _ _ _ _ _ _ _ _ 22 _ _ _)
      replace hf := ob_ hf
      obtain ⟨x32, ex32, hf⟩ := hf
      refine fgX4_39 rfl dX4_answer_22 ex32 (?_ : hp_G _ _ _ _ _ _ _ _ _ 25 _ _ _)
      refine hp_isub dX4_answer_25 (?_ : hp_G _ _ _ _ _ _ _ _ _ 26 _ _ _)
      obtain rfl := Option.some.inj hf
      exact hp_iret kr (fun z => z) rfl dX4_answer_26
  · replace hf := ot_ c1 hf
    refine hp_aload_n 0 dX4_answer_5 rfl rfl (?_ : hp_G _ _ _ _ _ _ _ _ _ 6 _ _ _)
    replace hf := ob_ hf
    obtain ⟨x33, ex33, hf⟩ := hf
    refine fgX4_39 rfl dX4_answer_6 ex33 (?_ : hp_G _ _ _ _ _ _ _ _ _ 9 _ _ _)
    obtain rfl := Option.some.inj hf
    exact hp_iret kr (fun z => z) rfl dX4_answer_9
theorem kX4_answer (l : Launch) {h : hp_H} {a0 : Nat} {p1 : Int32} {r : Int32} (hf : fX4_answer h a0 p1 = some r) : hp_Cn l yX4_answer mX4_answer 1 false 0 0 [.ref a0, .int p1] h (fun v h2 => some (.int r) = v ∧ h = h2) :=
  hp_of (by decide) rfl (fun z => by cases z) (Nat.le_of_ble_eq_true rfl) (tX4_answer l hf ⟨rfl, rfl⟩)
noncomputable def jX8_season_55 (g : hp_H)  (u0 : Nat) (u1 : Int32) (u3 : Int32) (u4 : Int32) (u5 : Int32) (k0 : Int32) (k1 : Int32) (k2 : Int32) (k3 : Int32) (k4 : Int32) (k5 : Nat) : Option (Int32 × hp_H) :=
(hg_o g k5 7).bind fun o4 =>
(fX8_refusalOfRow g k5 k4 k3 k2 k1 k0).bind fun r5 =>
if r5.1 = 0 then
((gq_ r5.2 u0 7 1).bind fun x7 =>
(ql_ r5.2 x7 u1).bind fun x8 =>
(hg_o r5.2 u0 7).bind fun o9 =>
(fX8_refusalOfActs r5.2 u0 x8 u3 u4).bind fun r10 =>
if r10 = 0 then
((gq_ r5.2 u0 7 3).bind fun x12 =>
(gq_ r5.2 u0 7 0).bind fun x13 =>
(hg_o r5.2 x12 4).bind fun o14 =>
(fX4_run r5.2 x12 x13 x8 u3 u4).bind fun r15 =>
(gq_ r15 u0 7 3).bind fun x16 =>
(hg_o r15 x16 4).bind fun o17 =>
(fX4_answer r15 x16 u5).bind fun r18 =>
some (r18, r15))
else
(some (r10, r5.2)))
else
(some (r5.1, r5.2))
set_option maxRecDepth 20000 in
set_option maxHeartbeats 4000000 in
theorem tjX8_season_55 (l : Launch) {g : hp_H}  {u0 : Nat} {u1 : Int32} {u3 : Int32} {u4 : Int32} {u5 : Int32} {k0 : Int32} {k1 : Int32} {k2 : Int32} {k3 : Int32} {k4 : Int32} {k5 : Nat} {r : (Int32 × hp_H)} (hf : jX8_season_55 g u0 u1 u3 u4 u5 k0 k1 k2 k3 k4 k5 = some r) {Q : Option Value → hp_H → Prop} (kr : Q (some (.int r.1)) r.2) : hp_G l mX8_season none 5 false Q false 0 0 55 [(0, .ref u0), (1, .int u1), (3, .int u3), (4, .int u4), (5, .int u5)] [.int k0, .int k1, .int k2, .int k3, .int k4, .ref k5] g := by
  unfold jX8_season_55 at hf
  replace hf := ob_ hf
  obtain ⟨o4, eo4, hf⟩ := hf
  replace hf := ob_ hf
  obtain ⟨r5, er5, hf⟩ := hf
  refine clX8_144 (as := [.int k4, .int k3, .int k2, .int k1, .int k0]) (st := []) rfl (kX8_refusalOfRow l er5) rfl (by decide) (Nat.le_of_ble_eq_true rfl) eo4 dX8_season_55 rfl (?_ : hp_G _ _ _ _ _ _ _ _ _ 58 _ _ _)
  refine hp_istore (lv' := [(7, .int r5.1), (0, .ref u0), (1, .int u1), (3, .int u3), (4, .int u4), (5, .int u5)]) dX8_season_58 (Nat.le_of_ble_eq_true rfl) rfl (?_ : hp_G _ _ _ _ _ _ _ _ _ 60 _ _ _)
  refine hp_iload 0 dX8_season_60 rfl (?_ : hp_G _ _ _ _ _ _ _ _ _ 62 _ _ _)
  refine hp_if_eq (tgt := 68) dX8_season_62 rfl (fun c6 => ?_) (fun c6 => (?_ : hp_G _ _ _ _ _ _ _ _ _ 65 _ _ _))
  · replace hf := ot_ c6 hf
    refine hp_aload_n 1 dX8_season_68 rfl rfl (?_ : hp_G _ _ _ _ _ _ _ _ _ 69 _ _ _)
    replace hf := ob_ hf
    obtain ⟨x7, ex7, hf⟩ := hf
    refine fgX8_20 rfl dX8_season_69 ex7 (?_ : hp_G _ _ _ _ _ _ _ _ _ 72 _ _ _)
    refine hp_iload_n 2 dX8_season_72 rfl rfl (?_ : hp_G _ _ _ _ _ _ _ _ _ 73 _ _ _)
    replace hf := ob_ hf
    obtain ⟨x8, ex8, hf⟩ := hf
    refine hp_aaload dX8_season_73 ex8 (?_ : hp_G _ _ _ _ _ _ _ _ _ 74 _ _ _)
    refine hp_astore (lv' := [(8, .ref x8), (7, .int r5.1), (0, .ref u0), (1, .int u1), (3, .int u3), (4, .int u4), (5, .int u5)]) dX8_season_74 (Nat.le_of_ble_eq_true rfl) rfl (?_ : hp_G _ _ _ _ _ _ _ _ _ 76 _ _ _)
    refine hp_aload_n 2 dX8_season_76 rfl rfl (?_ : hp_G _ _ _ _ _ _ _ _ _ 77 _ _ _)
    refine hp_aload 0 dX8_season_77 rfl (?_ : hp_G _ _ _ _ _ _ _ _ _ 79 _ _ _)
    refine hp_iload_n 4 dX8_season_79 rfl rfl (?_ : hp_G _ _ _ _ _ _ _ _ _ 80 _ _ _)
    refine hp_iload 5 dX8_season_80 rfl (?_ : hp_G _ _ _ _ _ _ _ _ _ 82 _ _ _)
    replace hf := ob_ hf
    obtain ⟨o9, eo9, hf⟩ := hf
    replace hf := ob_ hf
    obtain ⟨r10, er10, hf⟩ := hf
    refine clX8_148 (as := [.ref x8, .int u3, .int u4]) (st := []) rfl (kX8_refusalOfActs l er10) rfl (by decide) (Nat.le_of_ble_eq_true rfl) eo9 dX8_season_82 rfl (?_ : hp_G _ _ _ _ _ _ _ _ _ 85 _ _ _)
    refine hp_istore (lv' := [(7, .int r10), (8, .ref x8), (0, .ref u0), (1, .int u1), (3, .int u3), (4, .int u4), (5, .int u5)]) dX8_season_85 (Nat.le_of_ble_eq_true rfl) rfl (?_ : hp_G _ _ _ _ _ _ _ _ _ 87 _ _ _)
    refine hp_iload 0 dX8_season_87 rfl (?_ : hp_G _ _ _ _ _ _ _ _ _ 89 _ _ _)
    refine hp_if_eq (tgt := 95) dX8_season_89 rfl (fun c11 => ?_) (fun c11 => (?_ : hp_G _ _ _ _ _ _ _ _ _ 92 _ _ _))
    · replace hf := ot_ c11 hf
      refine hp_aload_n 2 dX8_season_95 rfl rfl (?_ : hp_G _ _ _ _ _ _ _ _ _ 96 _ _ _)
      replace hf := ob_ hf
      obtain ⟨x12, ex12, hf⟩ := hf
      refine fgX8_34 rfl dX8_season_96 ex12 (?_ : hp_G _ _ _ _ _ _ _ _ _ 99 _ _ _)
      refine hp_aload_n 2 dX8_season_99 rfl rfl (?_ : hp_G _ _ _ _ _ _ _ _ _ 100 _ _ _)
      replace hf := ob_ hf
      obtain ⟨x13, ex13, hf⟩ := hf
      refine fgX8_12 rfl dX8_season_100 ex13 (?_ : hp_G _ _ _ _ _ _ _ _ _ 103 _ _ _)
      refine hp_aload 1 dX8_season_103 rfl (?_ : hp_G _ _ _ _ _ _ _ _ _ 105 _ _ _)
      refine hp_iload_n 4 dX8_season_105 rfl rfl (?_ : hp_G _ _ _ _ _ _ _ _ _ 106 _ _ _)
      refine hp_iload 5 dX8_season_106 rfl (?_ : hp_G _ _ _ _ _ _ _ _ _ 108 _ _ _)
      replace hf := ob_ hf
      obtain ⟨o14, eo14, hf⟩ := hf
      replace hf := ob_ hf
      obtain ⟨r15, er15, hf⟩ := hf
      refine clX8_151 (as := [.ref x13, .ref x8, .int u3, .int u4]) (st := []) rfl (kX4_run l er15) rfl (by decide) (Nat.le_of_ble_eq_true rfl) eo14 dX8_season_108 rfl (?_ : hp_G _ _ _ _ _ _ _ _ _ 111 _ _ _)
      refine hp_aload_n 2 dX8_season_111 rfl rfl (?_ : hp_G _ _ _ _ _ _ _ _ _ 112 _ _ _)
      replace hf := ob_ hf
      obtain ⟨x16, ex16, hf⟩ := hf
      refine fgX8_34 rfl dX8_season_112 ex16 (?_ : hp_G _ _ _ _ _ _ _ _ _ 115 _ _ _)
      refine hp_iload 6 dX8_season_115 rfl (?_ : hp_G _ _ _ _ _ _ _ _ _ 117 _ _ _)
      replace hf := ob_ hf
      obtain ⟨o17, eo17, hf⟩ := hf
      replace hf := ob_ hf
      obtain ⟨r18, er18, hf⟩ := hf
      refine clX8_155 (as := [.int u5]) (st := []) rfl (kX4_answer l er18) rfl (by decide) (Nat.le_of_ble_eq_true rfl) eo17 dX8_season_117 rfl (?_ : hp_G _ _ _ _ _ _ _ _ _ 120 _ _ _)
      obtain rfl := Option.some.inj hf
      exact hp_iret kr (fun z => z) rfl dX8_season_120
    · replace hf := of_ c11 hf
      refine hp_iload 0 dX8_season_92 rfl (?_ : hp_G _ _ _ _ _ _ _ _ _ 94 _ _ _)
      obtain rfl := Option.some.inj hf
      exact hp_iret kr (fun z => z) rfl dX8_season_94
  · replace hf := of_ c6 hf
    refine hp_iload 0 dX8_season_65 rfl (?_ : hp_G _ _ _ _ _ _ _ _ _ 67 _ _ _)
    obtain rfl := Option.some.inj hf
    exact hp_iret kr (fun z => z) rfl dX8_season_67
noncomputable def jX8_season_54 (g : hp_H)  (u0 : Nat) (u1 : Int32) (u3 : Int32) (u4 : Int32) (u5 : Int32) (k0 : Int32) (k1 : Int32) (k2 : Int32) (k3 : Int32) (k4 : Nat) : Option (Int32 × hp_H) :=
jX8_season_55 g u0 u1 u3 u4 u5 0 k0 k1 k2 k3 k4
set_option maxRecDepth 20000 in
set_option maxHeartbeats 4000000 in
theorem tjX8_season_54 (l : Launch) {g : hp_H}  {u0 : Nat} {u1 : Int32} {u3 : Int32} {u4 : Int32} {u5 : Int32} {k0 : Int32} {k1 : Int32} {k2 : Int32} {k3 : Int32} {k4 : Nat} {r : (Int32 × hp_H)} (hf : jX8_season_54 g u0 u1 u3 u4 u5 k0 k1 k2 k3 k4 = some r) {Q : Option Value → hp_H → Prop} (kr : Q (some (.int r.1)) r.2) : hp_G l mX8_season none 5 false Q false 0 0 54 [(0, .ref u0), (1, .int u1), (3, .int u3), (4, .int u4), (5, .int u5)] [.int k0, .int k1, .int k2, .int k3, .ref k4] g := by
  unfold jX8_season_54 at hf
  refine hp_iconst (v := 0) dX8_season_54 ic_0 (?_ : hp_G _ _ _ _ _ _ _ _ _ 55 _ _ _)
  exact hp_sub [0, 1, 2, 3, 4] rfl (tjX8_season_55 l hf kr)
noncomputable def jX8_season_30 (g : hp_H)  (u0 : Nat) (u1 : Int32) (u2 : Int32) (u3 : Int32) (u4 : Int32) (u5 : Int32) (k0 : Int32) : Option (Int32 × hp_H) :=
if k0 = 0 then
(jX8_season_54 g u0 u1 u3 u4 u5 u4 u3 u2 u1 u0)
else
(if (20 : Int32) < u4 then
(jX8_season_54 g u0 u1 u3 u4 u5 u4 u3 u2 u1 u0)
else
(jX8_season_55 g u0 u1 u3 u4 u5 1 u4 u3 u2 u1 u0))
set_option maxRecDepth 20000 in
set_option maxHeartbeats 4000000 in
theorem tjX8_season_30 (l : Launch) {g : hp_H}  {u0 : Nat} {u1 : Int32} {u2 : Int32} {u3 : Int32} {u4 : Int32} {u5 : Int32} {k0 : Int32} {r : (Int32 × hp_H)} (hf : jX8_season_30 g u0 u1 u2 u3 u4 u5 k0 = some r) {Q : Option Value → hp_H → Prop} (kr : Q (some (.int r.1)) r.2) : hp_G l mX8_season none 5 false Q false 0 0 30 [(0, .ref u0), (1, .int u1), (2, .int u2), (3, .int u3), (4, .int u4), (5, .int u5)] [.int k0] g := by
  unfold jX8_season_30 at hf
  refine hp_istore (lv' := [(6, .int k0), (0, .ref u0), (1, .int u1), (2, .int u2), (3, .int u3), (4, .int u4), (5, .int u5)]) dX8_season_30 (Nat.le_of_ble_eq_true rfl) rfl (?_ : hp_G _ _ _ _ _ _ _ _ _ 32 _ _ _)
  refine hp_aload_n 1 dX8_season_32 rfl rfl (?_ : hp_G _ _ _ _ _ _ _ _ _ 33 _ _ _)
  refine hp_iload_n 2 dX8_season_33 rfl rfl (?_ : hp_G _ _ _ _ _ _ _ _ _ 34 _ _ _)
  refine hp_iload_n 3 dX8_season_34 rfl rfl (?_ : hp_G _ _ _ _ _ _ _ _ _ 35 _ _ _)
  refine hp_iload_n 4 dX8_season_35 rfl rfl (?_ : hp_G _ _ _ _ _ _ _ _ _ 36 _ _ _)
  refine hp_iload 5 dX8_season_36 rfl (?_ : hp_G _ _ _ _ _ _ _ _ _ 38 _ _ _)
  refine hp_iload 0 dX8_season_38 rfl (?_ : hp_G _ _ _ _ _ _ _ _ _ 40 _ _ _)
  refine hp_if_eq (tgt := 54) dX8_season_40 rfl (fun c3 => ?_) (fun c3 => (?_ : hp_G _ _ _ _ _ _ _ _ _ 43 _ _ _))
  · replace hf := ot_ c3 hf
    exact hp_sub [1, 2, 4, 5, 6] rfl (tjX8_season_54 l hf kr)
  · replace hf := of_ c3 hf
    refine hp_iload 5 dX8_season_43 rfl (?_ : hp_G _ _ _ _ _ _ _ _ _ 45 _ _ _)
    refine hp_bipush (v := 20) dX8_season_45 bi_20 (?_ : hp_G _ _ _ _ _ _ _ _ _ 47 _ _ _)
    refine hp_icmp_gt (tgt := 54) dX8_season_47 rfl (fun c19 => ?_) (fun c19 => (?_ : hp_G _ _ _ _ _ _ _ _ _ 50 _ _ _))
    · replace hf := ot_ c19 hf
      exact hp_sub [1, 2, 4, 5, 6] rfl (tjX8_season_54 l hf kr)
    · replace hf := of_ c19 hf
      refine hp_iconst (v := 1) dX8_season_50 ic_1 (?_ : hp_G _ _ _ _ _ _ _ _ _ 51 _ _ _)
      refine hp_goto (tgt := 55) dX8_season_51 rfl (?_ : hp_G _ _ _ _ _ _ _ _ _ 55 _ _ _)
      exact hp_sub [1, 2, 4, 5, 6] rfl (tjX8_season_55 l hf kr)
noncomputable def jX8_season_29 (g : hp_H)  (u0 : Nat) (u1 : Int32) (u2 : Int32) (u3 : Int32) (u4 : Int32) (u5 : Int32)  : Option (Int32 × hp_H) :=
jX8_season_30 g u0 u1 u2 u3 u4 u5 0
set_option maxRecDepth 20000 in
set_option maxHeartbeats 4000000 in
theorem tjX8_season_29 (l : Launch) {g : hp_H}  {u0 : Nat} {u1 : Int32} {u2 : Int32} {u3 : Int32} {u4 : Int32} {u5 : Int32}  {r : (Int32 × hp_H)} (hf : jX8_season_29 g u0 u1 u2 u3 u4 u5 = some r) {Q : Option Value → hp_H → Prop} (kr : Q (some (.int r.1)) r.2) : hp_G l mX8_season none 5 false Q false 0 0 29 [(0, .ref u0), (1, .int u1), (2, .int u2), (3, .int u3), (4, .int u4), (5, .int u5)] [] g := by
  unfold jX8_season_29 at hf
  refine hp_iconst (v := 0) dX8_season_29 ic_0 (?_ : hp_G _ _ _ _ _ _ _ _ _ 30 _ _ _)
  exact hp_sub [0, 1, 2, 3, 4, 5] rfl (tjX8_season_30 l hf kr)
noncomputable def jX8_season_25 (g : hp_H)  (u0 : Nat) (u1 : Int32) (u2 : Int32) (u3 : Int32) (u4 : Int32) (u5 : Int32)  : Option (Int32 × hp_H) :=
jX8_season_30 g u0 u1 u2 u3 u4 u5 1
set_option maxRecDepth 20000 in
set_option maxHeartbeats 4000000 in
theorem tjX8_season_25 (l : Launch) {g : hp_H}  {u0 : Nat} {u1 : Int32} {u2 : Int32} {u3 : Int32} {u4 : Int32} {u5 : Int32}  {r : (Int32 × hp_H)} (hf : jX8_season_25 g u0 u1 u2 u3 u4 u5 = some r) {Q : Option Value → hp_H → Prop} (kr : Q (some (.int r.1)) r.2) : hp_G l mX8_season none 5 false Q false 0 0 25 [(0, .ref u0), (1, .int u1), (2, .int u2), (3, .int u3), (4, .int u4), (5, .int u5)] [] g := by
  unfold jX8_season_25 at hf
  refine hp_iconst (v := 1) dX8_season_25 ic_1 (?_ : hp_G _ _ _ _ _ _ _ _ _ 26 _ _ _)
  refine hp_goto (tgt := 30) dX8_season_26 rfl (?_ : hp_G _ _ _ _ _ _ _ _ _ 30 _ _ _)
  exact hp_sub [0, 1, 2, 3, 4, 5] rfl (tjX8_season_30 l hf kr)
noncomputable def jX8_season_11 (g : hp_H)  (u0 : Nat) (u1 : Int32) (u2 : Int32) (u3 : Int32) (u4 : Int32) (u5 : Int32)  : Option (Int32 × hp_H) :=
if u5 < 10 then
(jX8_season_29 g u0 u1 u2 u3 u4 u5)
else
(if (15 : Int32) < u5 then
(jX8_season_29 g u0 u1 u2 u3 u4 u5)
else
(jX8_season_25 g u0 u1 u2 u3 u4 u5))
set_option maxRecDepth 20000 in
set_option maxHeartbeats 4000000 in
theorem tjX8_season_11 (l : Launch) {g : hp_H}  {u0 : Nat} {u1 : Int32} {u2 : Int32} {u3 : Int32} {u4 : Int32} {u5 : Int32}  {r : (Int32 × hp_H)} (hf : jX8_season_11 g u0 u1 u2 u3 u4 u5 = some r) {Q : Option Value → hp_H → Prop} (kr : Q (some (.int r.1)) r.2) : hp_G l mX8_season none 5 false Q false 0 0 11 [(0, .ref u0), (1, .int u1), (2, .int u2), (3, .int u3), (4, .int u4), (5, .int u5)] [] g := by
  unfold jX8_season_11 at hf
  refine hp_iload 5 dX8_season_11 rfl (?_ : hp_G _ _ _ _ _ _ _ _ _ 13 _ _ _)
  refine hp_bipush (v := 10) dX8_season_13 bi_10 (?_ : hp_G _ _ _ _ _ _ _ _ _ 15 _ _ _)
  refine hp_icmp_lt (tgt := 29) dX8_season_15 rfl (fun c2 => ?_) (fun c2 => (?_ : hp_G _ _ _ _ _ _ _ _ _ 18 _ _ _))
  · replace hf := ot_ c2 hf
    exact hp_sub [0, 1, 2, 3, 4, 5] rfl (tjX8_season_29 l hf kr)
  · replace hf := of_ c2 hf
    refine hp_iload 5 dX8_season_18 rfl (?_ : hp_G _ _ _ _ _ _ _ _ _ 20 _ _ _)
    refine hp_bipush (v := 15) dX8_season_20 bi_15 (?_ : hp_G _ _ _ _ _ _ _ _ _ 22 _ _ _)
    refine hp_icmp_gt (tgt := 29) dX8_season_22 rfl (fun c20 => ?_) (fun c20 => (?_ : hp_G _ _ _ _ _ _ _ _ _ 25 _ _ _))
    · replace hf := ot_ c20 hf
      exact hp_sub [0, 1, 2, 3, 4, 5] rfl (tjX8_season_29 l hf kr)
    · replace hf := of_ c20 hf
      exact hp_sub [0, 1, 2, 3, 4, 5] rfl (tjX8_season_25 l hf kr)
noncomputable def fX8_season (h : hp_H) (a0 : Nat) (p1 : Int32) (p2 : Int32) (p3 : Int32) (p4 : Int32) (p5 : Int32) : Option (Int32 × hp_H) :=
if p5 < 0 then
(jX8_season_11 h a0 p1 p2 p3 p4 p5)
else
(if p5 ≤ 4 then
(jX8_season_25 h a0 p1 p2 p3 p4 p5)
else
(jX8_season_11 h a0 p1 p2 p3 p4 p5))
set_option maxRecDepth 20000 in
set_option maxHeartbeats 4000000 in
theorem tX8_season (l : Launch) {h : hp_H} {a0 : Nat} {p1 : Int32} {p2 : Int32} {p3 : Int32} {p4 : Int32} {p5 : Int32} {r : (Int32 × hp_H)} (hf : fX8_season h a0 p1 p2 p3 p4 p5 = some r) {Q : Option Value → hp_H → Prop} (kr : Q (some (.int r.1)) r.2) : hp_G l mX8_season none 5 false Q false 0 0 0 [(0, .ref a0), (1, .int p1), (2, .int p2), (3, .int p3), (4, .int p4), (5, .int p5)] [] h := by
  unfold fX8_season at hf
  refine hp_iload 5 dX8_season_0 rfl (?_ : hp_G _ _ _ _ _ _ _ _ _ 2 _ _ _)
  refine hp_if_lt (tgt := 11) dX8_season_2 rfl (fun c1 => ?_) (fun c1 => (?_ : hp_G _ _ _ _ _ _ _ _ _ 5 _ _ _))
  · replace hf := ot_ c1 hf
    exact hp_sub [0, 1, 2, 3, 4, 5] rfl (tjX8_season_11 l hf kr)
  · replace hf := of_ c1 hf
    refine hp_iload 5 dX8_season_5 rfl (?_ : hp_G _ _ _ _ _ _ _ _ _ 7 _ _ _)
    refine hp_iconst (v := 4) dX8_season_7 ic_4 (?_ : hp_G _ _ _ _ _ _ _ _ _ 8 _ _ _)
    refine hp_icmp_le (tgt := 25) dX8_season_8 rfl (fun c21 => ?_) (fun c21 => (?_ : hp_G _ _ _ _ _ _ _ _ _ 11 _ _ _))
    · replace hf := ot_ c21 hf
      exact hp_sub [0, 1, 2, 3, 4, 5] rfl (tjX8_season_25 l hf kr)
    · replace hf := of_ c21 hf
      exact hp_sub [0, 1, 2, 3, 4, 5] rfl (tjX8_season_11 l hf kr)
theorem kX8_season (l : Launch) {h : hp_H} {a0 : Nat} {p1 : Int32} {p2 : Int32} {p3 : Int32} {p4 : Int32} {p5 : Int32} {r : (Int32 × hp_H)} (hf : fX8_season h a0 p1 p2 p3 p4 p5 = some r) : hp_Cn l yX8_season mX8_season 5 false 0 0 [.ref a0, .int p1, .int p2, .int p3, .int p4, .int p5] h (fun v h2 => some (.int r.1) = v ∧ r.2 = h2) :=
  hp_of (by decide) rfl (fun z => by cases z) (Nat.le_of_ble_eq_true rfl) (tX8_season l hf ⟨rfl, rfl⟩)
noncomputable def jX9_refusesPair_29 (h : hp_H)  (u0 : Nat) (u1 : Int32)  : Option Int32 :=
(hg_o h u0 8).bind fun o3 =>
(fX9_isPerson h u0 u1).bind fun r4 =>
if r4 = 0 then
(some (-1))
else
(some 0)
set_option maxRecDepth 20000 in
set_option maxHeartbeats 4000000 in
theorem tjX9_refusesPair_29 (l : Launch) {h : hp_H}  {u0 : Nat} {u1 : Int32}  {r : Int32} (hf : jX9_refusesPair_29 h u0 u1 = some r) {Q : Option Value → hp_H → Prop} (kr : Q (some (.int r)) h) : hp_G l mX9_refusesPair none 1 false Q false 0 0 29 [(0, .ref u0), (1, .int u1)] [] h := by
  unfold jX9_refusesPair_29 at hf
  refine hp_aload_n 0 dX9_refusesPair_29 rfl rfl (?_ : hp_G _ _ _ _ _ _ _ _ _ 30 _ _ _)
  refine hp_iload_n 1 dX9_refusesPair_30 rfl rfl (?_ : hp_G _ _ _ _ _ _ _ _ _ 31 _ _ _)
  replace hf := ob_ hf
  obtain ⟨o3, eo3, hf⟩ := hf
  replace hf := ob_ hf
  obtain ⟨r4, er4, hf⟩ := hf
  refine clX9_74 (as := [.int u1]) (st := []) rfl (kX9_isPerson l er4) rfl (by decide) (Nat.le_of_ble_eq_true rfl) eo3 dX9_refusesPair_31 rfl (?_ : hp_G _ _ _ _ _ _ _ _ _ 34 _ _ _)
  refine hp_if_eq (tgt := 41) dX9_refusesPair_34 rfl (fun c5 => ?_) (fun c5 => (?_ : hp_G _ _ _ _ _ _ _ _ _ 37 _ _ _))
  · replace hf := ot_ c5 hf
    refine hp_iconst (v := (-1)) dX9_refusesPair_41 ic_m1 (?_ : hp_G _ _ _ _ _ _ _ _ _ 42 _ _ _)
    obtain rfl := Option.some.inj hf
    exact hp_iret kr (fun z => z) rfl dX9_refusesPair_42
  · replace hf := of_ c5 hf
    refine hp_iconst (v := 0) dX9_refusesPair_37 ic_0 (?_ : hp_G _ _ _ _ _ _ _ _ _ 38 _ _ _)
    refine hp_goto (tgt := 42) dX9_refusesPair_38 rfl (?_ : hp_G _ _ _ _ _ _ _ _ _ 42 _ _ _)
    obtain rfl := Option.some.inj hf
    exact hp_iret kr (fun z => z) rfl dX9_refusesPair_42
noncomputable def fX9_refusesPair (h : hp_H) (a0 : Nat) (p1 : Int32) (p2 : Int32) : Option Int32 :=
(fX9_within h p2 0 5).bind fun r1 =>
if r1 = 0 then
(if p2 = 10 then
(jX9_refusesPair_29 h a0 p1)
else
((fX9_within h p2 20 29).bind fun r7 =>
if r7 = 0 then
(some (-2))
else
(jX9_refusesPair_29 h a0 p1)))
else
(jX9_refusesPair_29 h a0 p1)
set_option maxRecDepth 20000 in
set_option maxHeartbeats 4000000 in
theorem tX9_refusesPair (l : Launch) {h : hp_H} {a0 : Nat} {p1 : Int32} {p2 : Int32} {r : Int32} (hf : fX9_refusesPair h a0 p1 p2 = some r) {Q : Option Value → hp_H → Prop} (kr : Q (some (.int r)) h) : hp_G l mX9_refusesPair none 1 false Q false 0 0 0 [(0, .ref a0), (1, .int p1), (2, .int p2)] [] h := by
  unfold fX9_refusesPair at hf
  refine hp_iload_n 2 dX9_refusesPair_0 rfl rfl (?_ : hp_G _ _ _ _ _ _ _ _ _ 1 _ _ _)
  refine hp_iconst (v := 0) dX9_refusesPair_1 ic_0 (?_ : hp_G _ _ _ _ _ _ _ _ _ 2 _ _ _)
  refine hp_iconst (v := 5) dX9_refusesPair_2 ic_5 (?_ : hp_G _ _ _ _ _ _ _ _ _ 3 _ _ _)
  replace hf := ob_ hf
  obtain ⟨r1, er1, hf⟩ := hf
  refine clX9_67 (as := [.int p2, .int 0, .int 5]) (st := []) rfl (kX9_within l er1) rfl (by decide) (Nat.le_of_ble_eq_true rfl) dX9_refusesPair_3 rfl (?_ : hp_G _ _ _ _ _ _ _ _ _ 6 _ _ _)
  refine hp_if_ne (tgt := 29) dX9_refusesPair_6 rfl (fun c2 => ?_) (fun c2 => (?_ : hp_G _ _ _ _ _ _ _ _ _ 9 _ _ _))
  · replace hf := of_ c2 hf
    exact hp_sub [0, 1] rfl (tjX9_refusesPair_29 l hf kr)
  · replace hf := ot_ c2 hf
    refine hp_iload_n 2 dX9_refusesPair_9 rfl rfl (?_ : hp_G _ _ _ _ _ _ _ _ _ 10 _ _ _)
    refine hp_bipush (v := 10) dX9_refusesPair_10 bi_10 (?_ : hp_G _ _ _ _ _ _ _ _ _ 12 _ _ _)
    refine hp_icmp_eq (tgt := 29) dX9_refusesPair_12 rfl (fun c6 => ?_) (fun c6 => (?_ : hp_G _ _ _ _ _ _ _ _ _ 15 _ _ _))
    · replace hf := ot_ c6 hf
      exact hp_sub [0, 1] rfl (tjX9_refusesPair_29 l hf kr)
    · replace hf := of_ c6 hf
      refine hp_iload_n 2 dX9_refusesPair_15 rfl rfl (?_ : hp_G _ _ _ _ _ _ _ _ _ 16 _ _ _)
      refine hp_bipush (v := 20) dX9_refusesPair_16 bi_20 (?_ : hp_G _ _ _ _ _ _ _ _ _ 18 _ _ _)
      refine hp_bipush (v := 29) dX9_refusesPair_18 bi_29 (?_ : hp_G _ _ _ _ _ _ _ _ _ 20 _ _ _)
      replace hf := ob_ hf
      obtain ⟨r7, er7, hf⟩ := hf
      refine clX9_67 (as := [.int p2, .int 20, .int 29]) (st := []) rfl (kX9_within l er7) rfl (by decide) (Nat.le_of_ble_eq_true rfl) dX9_refusesPair_20 rfl (?_ : hp_G _ _ _ _ _ _ _ _ _ 23 _ _ _)
      refine hp_if_ne (tgt := 29) dX9_refusesPair_23 rfl (fun c8 => ?_) (fun c8 => (?_ : hp_G _ _ _ _ _ _ _ _ _ 26 _ _ _))
      · replace hf := of_ c8 hf
        exact hp_sub [0, 1] rfl (tjX9_refusesPair_29 l hf kr)
      · replace hf := ot_ c8 hf
        refine hp_bipush (v := (-2)) dX9_refusesPair_26 bi_m2 (?_ : hp_G _ _ _ _ _ _ _ _ _ 28 _ _ _)
        obtain rfl := Option.some.inj hf
        exact hp_iret kr (fun z => z) rfl dX9_refusesPair_28
theorem kX9_refusesPair (l : Launch) {h : hp_H} {a0 : Nat} {p1 : Int32} {p2 : Int32} {r : Int32} (hf : fX9_refusesPair h a0 p1 p2 = some r) : hp_Cn l yX9_refusesPair mX9_refusesPair 1 false 0 0 [.ref a0, .int p1, .int p2] h (fun v h2 => some (.int r) = v ∧ h = h2) :=
  hp_of (by decide) rfl (fun z => by cases z) (Nat.le_of_ble_eq_true rfl) (tX9_refusesPair l hf ⟨rfl, rfl⟩)
noncomputable def jX9_does_122 (g : hp_H)  (u0 : Nat) (u3 : Int32) (k0 : Int32) (k1 : Int32) (k2 : Nat) : Option (Int32 × hp_H) :=
(pi_ g k2 8 16 (k1 + k0)).bind fun h23 =>
if u3 = (-9) then
((gi_ h23 u0 8 17).bind fun x26 =>
(pi_ h23 u0 8 17 x26).bind fun h27 =>
some (1, h27))
else
((pi_ h23 u0 8 17 u3).bind fun h25 =>
some (1, h25))
set_option maxRecDepth 20000 in
set_option maxHeartbeats 4000000 in
theorem tjX9_does_122 (l : Launch) {g : hp_H}  {u0 : Nat} {u3 : Int32} {k0 : Int32} {k1 : Int32} {k2 : Nat} {r : (Int32 × hp_H)} (hf : jX9_does_122 g u0 u3 k0 k1 k2 = some r) {Q : Option Value → hp_H → Prop} (kr : Q (some (.int r.1)) r.2) : hp_G l mX9_does none 2 false Q false 0 0 122 [(0, .ref u0), (3, .int u3)] [.int k0, .int k1, .ref k2] g := by
  unfold jX9_does_122 at hf
  refine hp_iadd dX9_does_122 (?_ : hp_G _ _ _ _ _ _ _ _ _ 123 _ _ _)
  replace hf := ob_ hf
  obtain ⟨h23, eh23, hf⟩ := hf
  refine fpX9_141 rfl dX9_does_123 eh23 (?_ : hp_G _ _ _ _ _ _ _ _ _ 126 _ _ _)
  refine hp_aload_n 0 dX9_does_126 rfl rfl (?_ : hp_G _ _ _ _ _ _ _ _ _ 127 _ _ _)
  refine hp_iload_n 1 dX9_does_127 rfl rfl (?_ : hp_G _ _ _ _ _ _ _ _ _ 128 _ _ _)
  refine hp_bipush (v := (-9)) dX9_does_128 bi_m9 (?_ : hp_G _ _ _ _ _ _ _ _ _ 130 _ _ _)
  refine hp_icmp_ne (tgt := 140) dX9_does_130 rfl (fun c24 => ?_) (fun c24 => (?_ : hp_G _ _ _ _ _ _ _ _ _ 133 _ _ _))
  · replace hf := of_ c24 hf
    refine hp_iload_n 1 dX9_does_140 rfl rfl (?_ : hp_G _ _ _ _ _ _ _ _ _ 141 _ _ _)
    replace hf := ob_ hf
    obtain ⟨h25, eh25, hf⟩ := hf
    refine fpX9_144 rfl dX9_does_141 eh25 (?_ : hp_G _ _ _ _ _ _ _ _ _ 144 _ _ _)
    refine hp_iconst (v := 1) dX9_does_144 ic_1 (?_ : hp_G _ _ _ _ _ _ _ _ _ 145 _ _ _)
    obtain rfl := Option.some.inj hf
    exact hp_zret kr (fun z => z) rfl (by decide) dX9_does_145
  · replace hf := ot_ c24 hf
    refine hp_aload_n 0 dX9_does_133 rfl rfl (?_ : hp_G _ _ _ _ _ _ _ _ _ 134 _ _ _)
    replace hf := ob_ hf
    obtain ⟨x26, ex26, hf⟩ := hf
    refine fgX9_144 rfl dX9_does_134 ex26 (?_ : hp_G _ _ _ _ _ _ _ _ _ 137 _ _ _)
    refine hp_goto (tgt := 141) dX9_does_137 rfl (?_ : hp_G _ _ _ _ _ _ _ _ _ 141 _ _ _)
    replace hf := ob_ hf
    obtain ⟨h27, eh27, hf⟩ := hf
    refine fpX9_144 rfl dX9_does_141 eh27 (?_ : hp_G _ _ _ _ _ _ _ _ _ 144 _ _ _)
    refine hp_iconst (v := 1) dX9_does_144 ic_1 (?_ : hp_G _ _ _ _ _ _ _ _ _ 145 _ _ _)
    obtain rfl := Option.some.inj hf
    exact hp_zret kr (fun z => z) rfl (by decide) dX9_does_145
noncomputable def fX9_does (h : hp_H) (a0 : Nat) (p1 : Int32) (p2 : Int32) : Option (Int32 × hp_H) :=
if p2 < 20 then
(if p2 = 10 then
((gi_ h a0 8 6).bind fun x28 =>
(fX9_isOf h x28 p1).bind fun r29 =>
(gi_ h a0 8 6).bind fun x30 =>
(pi_ h a0 8 6 (x30 &&& (((1 : Int32) <<< (p1 &&& 31)) ^^^ (-1)))).bind fun h31 =>
(bz_ r29).bind fun z32 =>
some (z32, h31))
else
((hg_o h a0 8).bind fun o3 =>
(fX9_areTwo h a0 p1 p2).bind fun r4 =>
if r4 = 0 then
(some (0, h))
else
((hg_o h a0 8).bind fun o6 =>
(fX9_isAway h a0 p1 p2).bind fun r7 =>
if r7 = 0 then
((gq_ h a0 8 15).bind fun x9 =>
(al_ h x9 p1).bind fun x10 =>
(ax_ h x9 p1 (x10 + 1)).bind fun h11 =>
(gq_ h11 a0 8 15).bind fun x12 =>
(al_ h11 x12 p2).bind fun x13 =>
(ax_ h11 x12 p2 (x13 + 1)).bind fun h14 =>
(hg_o h14 a0 8).bind fun o15 =>
(fX9_worstOf h14 a0 p1).bind fun r16 =>
(hg_o h14 a0 8).bind fun o17 =>
(fX9_worstOf h14 a0 p2).bind fun r18 =>
(hg_o h14 a0 8).bind fun o19 =>
(fX9_play h14 a0 p1 p2 r16 r18).bind fun r20 =>
(gi_ r20.2 a0 8 16).bind fun x21 =>
if r20.1 = (-9) then
(jX9_does_122 r20.2 a0 r20.1 1 x21 a0)
else
(jX9_does_122 r20.2 a0 r20.1 0 x21 a0))
else
(some (0, h)))))
else
((gq_ h a0 8 10).bind fun x33 =>
(ax_ h x33 p1 (p2 - 20)).bind fun h34 =>
some (1, h34))
set_option maxRecDepth 20000 in
set_option maxHeartbeats 4000000 in
theorem tX9_does (l : Launch) {h : hp_H} {a0 : Nat} {p1 : Int32} {p2 : Int32} {r : (Int32 × hp_H)} (hf : fX9_does h a0 p1 p2 = some r) {Q : Option Value → hp_H → Prop} (kr : Q (some (.int r.1)) r.2) : hp_G l mX9_does none 2 false Q false 0 0 0 [(0, .ref a0), (1, .int p1), (2, .int p2)] [] h := by
  unfold fX9_does at hf
  refine hp_iload_n 2 dX9_does_0 rfl rfl (?_ : hp_G _ _ _ _ _ _ _ _ _ 1 _ _ _)
  refine hp_bipush (v := 20) dX9_does_1 bi_20 (?_ : hp_G _ _ _ _ _ _ _ _ _ 3 _ _ _)
  refine hp_icmp_lt (tgt := 18) dX9_does_3 rfl (fun c1 => ?_) (fun c1 => (?_ : hp_G _ _ _ _ _ _ _ _ _ 6 _ _ _))
  · replace hf := ot_ c1 hf
    refine hp_iload_n 2 dX9_does_18 rfl rfl (?_ : hp_G _ _ _ _ _ _ _ _ _ 19 _ _ _)
    refine hp_bipush (v := 10) dX9_does_19 bi_10 (?_ : hp_G _ _ _ _ _ _ _ _ _ 21 _ _ _)
    refine hp_icmp_ne (tgt := 49) dX9_does_21 rfl (fun c2 => ?_) (fun c2 => (?_ : hp_G _ _ _ _ _ _ _ _ _ 24 _ _ _))
    · replace hf := of_ c2 hf
      refine hp_aload_n 0 dX9_does_49 rfl rfl (?_ : hp_G _ _ _ _ _ _ _ _ _ 50 _ _ _)
      refine hp_iload_n 1 dX9_does_50 rfl rfl (?_ : hp_G _ _ _ _ _ _ _ _ _ 51 _ _ _)
      refine hp_iload_n 2 dX9_does_51 rfl rfl (?_ : hp_G _ _ _ _ _ _ _ _ _ 52 _ _ _)
      replace hf := ob_ hf
      obtain ⟨o3, eo3, hf⟩ := hf
      replace hf := ob_ hf
      obtain ⟨r4, er4, hf⟩ := hf
      refine clX9_129 (as := [.int p1, .int p2]) (st := []) rfl (kX9_areTwo l er4) rfl (by decide) (Nat.le_of_ble_eq_true rfl) eo3 dX9_does_52 rfl (?_ : hp_G _ _ _ _ _ _ _ _ _ 55 _ _ _)
      refine hp_if_eq (tgt := 67) dX9_does_55 rfl (fun c5 => ?_) (fun c5 => (?_ : hp_G _ _ _ _ _ _ _ _ _ 58 _ _ _))
      · replace hf := ot_ c5 hf
        refine hp_iconst (v := 0) dX9_does_67 ic_0 (?_ : hp_G _ _ _ _ _ _ _ _ _ 68 _ _ _)
        obtain rfl := Option.some.inj hf
        exact hp_zret kr (fun z => z) rfl (by decide) dX9_does_68
      · replace hf := of_ c5 hf
        refine hp_aload_n 0 dX9_does_58 rfl rfl (?_ : hp_G _ _ _ _ _ _ _ _ _ 59 _ _ _)
        refine hp_iload_n 1 dX9_does_59 rfl rfl (?_ : hp_G _ _ _ _ _ _ _ _ _ 60 _ _ _)
        refine hp_iload_n 2 dX9_does_60 rfl rfl (?_ : hp_G _ _ _ _ _ _ _ _ _ 61 _ _ _)
        replace hf := ob_ hf
        obtain ⟨o6, eo6, hf⟩ := hf
        replace hf := ob_ hf
        obtain ⟨r7, er7, hf⟩ := hf
        refine clX9_132 (as := [.int p1, .int p2]) (st := []) rfl (kX9_isAway l er7) rfl (by decide) (Nat.le_of_ble_eq_true rfl) eo6 dX9_does_61 rfl (?_ : hp_G _ _ _ _ _ _ _ _ _ 64 _ _ _)
        refine hp_if_eq (tgt := 69) dX9_does_64 rfl (fun c8 => ?_) (fun c8 => (?_ : hp_G _ _ _ _ _ _ _ _ _ 67 _ _ _))
        · replace hf := ot_ c8 hf
          refine hp_aload_n 0 dX9_does_69 rfl rfl (?_ : hp_G _ _ _ _ _ _ _ _ _ 70 _ _ _)
          replace hf := ob_ hf
          obtain ⟨x9, ex9, hf⟩ := hf
          refine fgX9_34 rfl dX9_does_70 ex9 (?_ : hp_G _ _ _ _ _ _ _ _ _ 73 _ _ _)
          refine hp_iload_n 1 dX9_does_73 rfl rfl (?_ : hp_G _ _ _ _ _ _ _ _ _ 74 _ _ _)
          refine hp_dup2 dX9_does_74 rfl rfl (?_ : hp_G _ _ _ _ _ _ _ _ _ 75 _ _ _)
          replace hf := ob_ hf
          obtain ⟨x10, ex10, hf⟩ := hf
          refine hp_iaload dX9_does_75 ex10 (?_ : hp_G _ _ _ _ _ _ _ _ _ 76 _ _ _)
          refine hp_iconst (v := 1) dX9_does_76 ic_1 (?_ : hp_G _ _ _ _ _ _ _ _ _ 77 _ _ _)
          refine hp_iadd dX9_does_77 (?_ : hp_G _ _ _ _ _ _ _ _ _ 78 _ _ _)
          replace hf := ob_ hf
          obtain ⟨h11, eh11, hf⟩ := hf
          refine hp_iastore dX9_does_78 eh11 (?_ : hp_G _ _ _ _ _ _ _ _ _ 79 _ _ _)
          refine hp_aload_n 0 dX9_does_79 rfl rfl (?_ : hp_G _ _ _ _ _ _ _ _ _ 80 _ _ _)
          replace hf := ob_ hf
          obtain ⟨x12, ex12, hf⟩ := hf
          refine fgX9_34 rfl dX9_does_80 ex12 (?_ : hp_G _ _ _ _ _ _ _ _ _ 83 _ _ _)
          refine hp_iload_n 2 dX9_does_83 rfl rfl (?_ : hp_G _ _ _ _ _ _ _ _ _ 84 _ _ _)
          refine hp_dup2 dX9_does_84 rfl rfl (?_ : hp_G _ _ _ _ _ _ _ _ _ 85 _ _ _)
          replace hf := ob_ hf
          obtain ⟨x13, ex13, hf⟩ := hf
          refine hp_iaload dX9_does_85 ex13 (?_ : hp_G _ _ _ _ _ _ _ _ _ 86 _ _ _)
          refine hp_iconst (v := 1) dX9_does_86 ic_1 (?_ : hp_G _ _ _ _ _ _ _ _ _ 87 _ _ _)
          refine hp_iadd dX9_does_87 (?_ : hp_G _ _ _ _ _ _ _ _ _ 88 _ _ _)
          replace hf := ob_ hf
          obtain ⟨h14, eh14, hf⟩ := hf
          refine hp_iastore dX9_does_88 eh14 (?_ : hp_G _ _ _ _ _ _ _ _ _ 89 _ _ _)
          refine hp_aload_n 0 dX9_does_89 rfl rfl (?_ : hp_G _ _ _ _ _ _ _ _ _ 90 _ _ _)
          refine hp_iload_n 1 dX9_does_90 rfl rfl (?_ : hp_G _ _ _ _ _ _ _ _ _ 91 _ _ _)
          refine hp_iload_n 2 dX9_does_91 rfl rfl (?_ : hp_G _ _ _ _ _ _ _ _ _ 92 _ _ _)
          refine hp_aload_n 0 dX9_does_92 rfl rfl (?_ : hp_G _ _ _ _ _ _ _ _ _ 93 _ _ _)
          refine hp_iload_n 1 dX9_does_93 rfl rfl (?_ : hp_G _ _ _ _ _ _ _ _ _ 94 _ _ _)
          replace hf := ob_ hf
          obtain ⟨o15, eo15, hf⟩ := hf
          replace hf := ob_ hf
          obtain ⟨r16, er16, hf⟩ := hf
          refine clX9_123 (as := [.int p1]) (st := [.int p2, .int p1, .ref a0]) rfl (kX9_worstOf l er16) rfl (by decide) (Nat.le_of_ble_eq_true rfl) eo15 dX9_does_94 rfl (?_ : hp_G _ _ _ _ _ _ _ _ _ 97 _ _ _)
          refine hp_aload_n 0 dX9_does_97 rfl rfl (?_ : hp_G _ _ _ _ _ _ _ _ _ 98 _ _ _)
          refine hp_iload_n 2 dX9_does_98 rfl rfl (?_ : hp_G _ _ _ _ _ _ _ _ _ 99 _ _ _)
          replace hf := ob_ hf
          obtain ⟨o17, eo17, hf⟩ := hf
          replace hf := ob_ hf
          obtain ⟨r18, er18, hf⟩ := hf
          refine clX9_123 (as := [.int p2]) (st := [.int r16, .int p2, .int p1, .ref a0]) rfl (kX9_worstOf l er18) rfl (by decide) (Nat.le_of_ble_eq_true rfl) eo17 dX9_does_99 rfl (?_ : hp_G _ _ _ _ _ _ _ _ _ 102 _ _ _)
          replace hf := ob_ hf
          obtain ⟨o19, eo19, hf⟩ := hf
          replace hf := ob_ hf
          obtain ⟨r20, er20, hf⟩ := hf
          refine clX9_135 (as := [.int p1, .int p2, .int r16, .int r18]) (st := []) rfl (kX9_play l er20) rfl (by decide) (Nat.le_of_ble_eq_true rfl) eo19 dX9_does_102 rfl (?_ : hp_G _ _ _ _ _ _ _ _ _ 105 _ _ _)
          refine hp_istore_n (lv' := [(3, .int r20.1), (0, .ref a0), (1, .int p1), (2, .int p2)]) dX9_does_105 rfl (Nat.le_of_ble_eq_true rfl) rfl (?_ : hp_G _ _ _ _ _ _ _ _ _ 106 _ _ _)
          refine hp_aload_n 1 dX9_does_106 rfl rfl (?_ : hp_G _ _ _ _ _ _ _ _ _ 107 _ _ _)
          refine hp_dup dX9_does_107 rfl (?_ : hp_G _ _ _ _ _ _ _ _ _ 108 _ _ _)
          replace hf := ob_ hf
          obtain ⟨x21, ex21, hf⟩ := hf
          refine fgX9_141 rfl dX9_does_108 ex21 (?_ : hp_G _ _ _ _ _ _ _ _ _ 111 _ _ _)
          refine hp_iload_n 0 dX9_does_111 rfl rfl (?_ : hp_G _ _ _ _ _ _ _ _ _ 112 _ _ _)
          refine hp_bipush (v := (-9)) dX9_does_112 bi_m9 (?_ : hp_G _ _ _ _ _ _ _ _ _ 114 _ _ _)
          refine hp_icmp_ne (tgt := 121) dX9_does_114 rfl (fun c22 => ?_) (fun c22 => (?_ : hp_G _ _ _ _ _ _ _ _ _ 117 _ _ _))
          · replace hf := of_ c22 hf
            refine hp_iconst (v := 0) dX9_does_121 ic_0 (?_ : hp_G _ _ _ _ _ _ _ _ _ 122 _ _ _)
            exact hp_sub [1, 0] rfl (tjX9_does_122 l hf kr)
          · replace hf := ot_ c22 hf
            refine hp_iconst (v := 1) dX9_does_117 ic_1 (?_ : hp_G _ _ _ _ _ _ _ _ _ 118 _ _ _)
            refine hp_goto (tgt := 122) dX9_does_118 rfl (?_ : hp_G _ _ _ _ _ _ _ _ _ 122 _ _ _)
            exact hp_sub [1, 0] rfl (tjX9_does_122 l hf kr)
        · replace hf := of_ c8 hf
          refine hp_iconst (v := 0) dX9_does_67 ic_0 (?_ : hp_G _ _ _ _ _ _ _ _ _ 68 _ _ _)
          obtain rfl := Option.some.inj hf
          exact hp_zret kr (fun z => z) rfl (by decide) dX9_does_68
    · replace hf := ot_ c2 hf
      refine hp_aload_n 0 dX9_does_24 rfl rfl (?_ : hp_G _ _ _ _ _ _ _ _ _ 25 _ _ _)
      replace hf := ob_ hf
      obtain ⟨x28, ex28, hf⟩ := hf
      refine fgX9_101 rfl dX9_does_25 ex28 (?_ : hp_G _ _ _ _ _ _ _ _ _ 28 _ _ _)
      refine hp_iload_n 1 dX9_does_28 rfl rfl (?_ : hp_G _ _ _ _ _ _ _ _ _ 29 _ _ _)
      replace hf := ob_ hf
      obtain ⟨r29, er29, hf⟩ := hf
      refine clX9_126 (as := [.int x28, .int p1]) (st := []) rfl (kX9_isOf l er29) rfl (by decide) (Nat.le_of_ble_eq_true rfl) dX9_does_29 rfl (?_ : hp_G _ _ _ _ _ _ _ _ _ 32 _ _ _)
      refine hp_istore_n (lv' := [(3, .int r29), (0, .ref a0), (1, .int p1), (2, .int p2)]) dX9_does_32 rfl (Nat.le_of_ble_eq_true rfl) rfl (?_ : hp_G _ _ _ _ _ _ _ _ _ 33 _ _ _)
      refine hp_aload_n 1 dX9_does_33 rfl rfl (?_ : hp_G _ _ _ _ _ _ _ _ _ 34 _ _ _)
      refine hp_dup dX9_does_34 rfl (?_ : hp_G _ _ _ _ _ _ _ _ _ 35 _ _ _)
      replace hf := ob_ hf
      obtain ⟨x30, ex30, hf⟩ := hf
      refine fgX9_101 rfl dX9_does_35 ex30 (?_ : hp_G _ _ _ _ _ _ _ _ _ 38 _ _ _)
      refine hp_iconst (v := 1) dX9_does_38 ic_1 (?_ : hp_G _ _ _ _ _ _ _ _ _ 39 _ _ _)
      refine hp_iload_n 2 dX9_does_39 rfl rfl (?_ : hp_G _ _ _ _ _ _ _ _ _ 40 _ _ _)
      refine hp_ishl dX9_does_40 (?_ : hp_G _ _ _ _ _ _ _ _ _ 41 _ _ _)
      refine hp_iconst (v := (-1)) dX9_does_41 ic_m1 (?_ : hp_G _ _ _ _ _ _ _ _ _ 42 _ _ _)
      refine hp_ixor dX9_does_42 (?_ : hp_G _ _ _ _ _ _ _ _ _ 43 _ _ _)
      refine hp_iand dX9_does_43 (?_ : hp_G _ _ _ _ _ _ _ _ _ 44 _ _ _)
      replace hf := ob_ hf
      obtain ⟨h31, eh31, hf⟩ := hf
      refine fpX9_101 rfl dX9_does_44 eh31 (?_ : hp_G _ _ _ _ _ _ _ _ _ 47 _ _ _)
      refine hp_iload_n 0 dX9_does_47 rfl rfl (?_ : hp_G _ _ _ _ _ _ _ _ _ 48 _ _ _)
      replace hf := ob_ hf
      obtain ⟨z32, ez32, hf⟩ := hf
      obtain ⟨rfl, bz32⟩ := bz_inv ez32
      obtain rfl := Option.some.inj hf
      exact hp_zret kr (fun z => z) rfl bz32 dX9_does_48
  · replace hf := of_ c1 hf
    refine hp_aload_n 0 dX9_does_6 rfl rfl (?_ : hp_G _ _ _ _ _ _ _ _ _ 7 _ _ _)
    replace hf := ob_ hf
    obtain ⟨x33, ex33, hf⟩ := hf
    refine fgX9_25 rfl dX9_does_7 ex33 (?_ : hp_G _ _ _ _ _ _ _ _ _ 10 _ _ _)
    refine hp_iload_n 1 dX9_does_10 rfl rfl (?_ : hp_G _ _ _ _ _ _ _ _ _ 11 _ _ _)
    refine hp_iload_n 2 dX9_does_11 rfl rfl (?_ : hp_G _ _ _ _ _ _ _ _ _ 12 _ _ _)
    refine hp_bipush (v := 20) dX9_does_12 bi_20 (?_ : hp_G _ _ _ _ _ _ _ _ _ 14 _ _ _)
    refine hp_isub dX9_does_14 (?_ : hp_G _ _ _ _ _ _ _ _ _ 15 _ _ _)
    replace hf := ob_ hf
    obtain ⟨h34, eh34, hf⟩ := hf
    refine hp_iastore dX9_does_15 eh34 (?_ : hp_G _ _ _ _ _ _ _ _ _ 16 _ _ _)
    refine hp_iconst (v := 1) dX9_does_16 ic_1 (?_ : hp_G _ _ _ _ _ _ _ _ _ 17 _ _ _)
    obtain rfl := Option.some.inj hf
    exact hp_zret kr (fun z => z) rfl (by decide) dX9_does_17
theorem kX9_does (l : Launch) {h : hp_H} {a0 : Nat} {p1 : Int32} {p2 : Int32} {r : (Int32 × hp_H)} (hf : fX9_does h a0 p1 p2 = some r) : hp_Cn l yX9_does mX9_does 2 false 0 0 [.ref a0, .int p1, .int p2] h (fun v h2 => some (.int r.1) = v ∧ r.2 = h2) :=
  hp_of (by decide) rfl (fun z => by cases z) (Nat.le_of_ble_eq_true rfl) (tX9_does l hf ⟨rfl, rfl⟩)
noncomputable def bX9_goSeason_13 (v0 : Nat) (v1 : Int32) (v2 : Int32) (s : (Int32 × hp_H)) : Option ((Int32 × hp_H) ⊕ hp_H) :=
if (6 : Int32) ≤ s.1 then
(some (.inr s.2))
else
((gq_ s.2 v0 8 15).bind fun x4 =>
(ax_ s.2 x4 s.1 0).bind fun h5 =>
(some (s.1 + 1)).bind fun x6 =>
some (.inl (x6, h5)))
set_option maxRecDepth 20000 in
set_option maxHeartbeats 4000000 in
theorem tbX9_goSeason_13 (l : Launch) {v0 : Nat} {v1 : Int32} {v2 : Int32}  {s : (Int32 × hp_H)} {r : ((Int32 × hp_H) ⊕ hp_H)} (hf : bX9_goSeason_13  v0 v1 v2 s = some r) {Q : Option Value → hp_H → Prop} (kb : ∀ t, r = .inl t → hp_G l mX9_goSeason none 3 false Q false 0 0 13 [(0, .ref v0), (1, .int v1), (2, .int v2), (3, .int t.1)] [] t.2) (ke : ∀ x, r = .inr x → hp_G l mX9_goSeason none 3 false Q false 0 0 32 [(0, .ref v0), (1, .int v1), (2, .int v2)] [] x) : hp_G l mX9_goSeason none 3 false Q false 0 0 13 [(0, .ref v0), (1, .int v1), (2, .int v2), (3, .int s.1)] [] s.2 := by
  unfold bX9_goSeason_13 at hf
  refine hp_iload_n 3 dX9_goSeason_13 rfl rfl (?_ : hp_G _ _ _ _ _ _ _ _ _ 14 _ _ _)
  refine hp_bipush (v := 6) dX9_goSeason_14 bi_6 (?_ : hp_G _ _ _ _ _ _ _ _ _ 16 _ _ _)
  refine hp_icmp_ge (tgt := 32) dX9_goSeason_16 rfl (fun c3 => ?_) (fun c3 => (?_ : hp_G _ _ _ _ _ _ _ _ _ 19 _ _ _))
  · replace hf := ot_ c3 hf
    obtain rfl := Option.some.inj hf
    exact hp_sub [0, 1, 2] rfl (ke _ rfl)
  · replace hf := of_ c3 hf
    refine hp_aload_n 0 dX9_goSeason_19 rfl rfl (?_ : hp_G _ _ _ _ _ _ _ _ _ 20 _ _ _)
    replace hf := ob_ hf
    obtain ⟨x4, ex4, hf⟩ := hf
    refine fgX9_34 rfl dX9_goSeason_20 ex4 (?_ : hp_G _ _ _ _ _ _ _ _ _ 23 _ _ _)
    refine hp_iload_n 3 dX9_goSeason_23 rfl rfl (?_ : hp_G _ _ _ _ _ _ _ _ _ 24 _ _ _)
    refine hp_iconst (v := 0) dX9_goSeason_24 ic_0 (?_ : hp_G _ _ _ _ _ _ _ _ _ 25 _ _ _)
    replace hf := ob_ hf
    obtain ⟨h5, eh5, hf⟩ := hf
    refine hp_iastore dX9_goSeason_25 eh5 (?_ : hp_G _ _ _ _ _ _ _ _ _ 26 _ _ _)
    replace hf := ob_ hf
    obtain ⟨x6, ex6, hf⟩ := hf
    refine hp_iinc (v := x6) (lv' := [(3, .int x6), (0, .ref v0), (1, .int v1), (2, .int v2)]) 3 dX9_goSeason_26 rfl (hp_inc ic_1 ex6) (Nat.le_of_ble_eq_true rfl) rfl (?_ : hp_G _ _ _ _ _ _ _ _ _ 29 _ _ _)
    refine hp_goto (tgt := 13) dX9_goSeason_29 rfl (?_ : hp_G _ _ _ _ _ _ _ _ _ 13 _ _ _)
    obtain rfl := Option.some.inj hf
    exact hp_sub [1, 2, 3, 0] rfl (kb _ rfl)
set_option maxRecDepth 20000 in
set_option maxHeartbeats 4000000 in
theorem tlX9_goSeason_13 (l : Launch) {v0 : Nat} {v1 : Int32} {v2 : Int32}  (q : Nat) {s : (Int32 × hp_H)} {x : hp_H} (hf : it_ (bX9_goSeason_13  v0 v1 v2) q s = some x) {Q : Option Value → hp_H → Prop} (ke : ∀ e, x = e → hp_G l mX9_goSeason none 3 false Q false 0 0 32 [(0, .ref v0), (1, .int v1), (2, .int v2)] [] e) : hp_G l mX9_goSeason none 3 false Q false 0 0 13 [(0, .ref v0), (1, .int v1), (2, .int v2), (3, .int s.1)] [] s.2 := by
  exact it_rule (f := bX9_goSeason_13  v0 v1 v2) (fun s => hp_G l mX9_goSeason none 3 false Q false 0 0 13 [(0, .ref v0), (1, .int v1), (2, .int v2), (3, .int s.1)] [] s.2) (fun x => (∀ e, x = e → hp_G l mX9_goSeason none 3 false Q false 0 0 32 [(0, .ref v0), (1, .int v1), (2, .int v2)] [] e)) (fun s r h1 h2 h3 => tbX9_goSeason_13 l h1 (fun t e => h2 t e) (fun e he => h3 _ he _ rfl)) q s x hf ke
noncomputable def bX9_goSeason_34 (v0 : Nat) (v1 : Int32) (v2 : Int32) (s : (Int32 × hp_H)) : Option ((Int32 × hp_H) ⊕ (hp_H ⊕ (Int32 × hp_H))) :=
if v2 ≤ s.1 then
(some (.inr (.inl s.2)))
else
((gq_ s.2 v0 8 4).bind fun x9 =>
(al_ s.2 x9 (v1 + (2 * s.1))).bind fun x10 =>
(gq_ s.2 v0 8 4).bind fun x11 =>
(al_ s.2 x11 ((v1 + (2 * s.1)) + 1)).bind fun x12 =>
(hg_o s.2 v0 8).bind fun o13 =>
(fX9_does s.2 v0 x10 x12).bind fun r14 =>
if r14.1 = 0 then
(some (.inr (.inr (s.1, r14.2))))
else
((some (s.1 + 1)).bind fun x16 =>
some (.inl (x16, r14.2))))
set_option maxRecDepth 20000 in
set_option maxHeartbeats 4000000 in
theorem tbX9_goSeason_34 (l : Launch) {v0 : Nat} {v1 : Int32} {v2 : Int32}  {s : (Int32 × hp_H)} {r : ((Int32 × hp_H) ⊕ (hp_H ⊕ (Int32 × hp_H)))} (hf : bX9_goSeason_34  v0 v1 v2 s = some r) {Q : Option Value → hp_H → Prop} (kb : ∀ t, r = .inl t → hp_G l mX9_goSeason none 3 false Q false 0 0 34 [(0, .ref v0), (1, .int v1), (2, .int v2), (3, .int t.1)] [] t.2) (ke : ∀ x, r = .inr (.inl x) → hp_G l mX9_goSeason none 3 false Q false 0 0 76 [] [] x) (kr : ∀ z, r = .inr (.inr z) → Q (some (.int z.1)) z.2) : hp_G l mX9_goSeason none 3 false Q false 0 0 34 [(0, .ref v0), (1, .int v1), (2, .int v2), (3, .int s.1)] [] s.2 := by
  unfold bX9_goSeason_34 at hf
  refine hp_iload_n 3 dX9_goSeason_34 rfl rfl (?_ : hp_G _ _ _ _ _ _ _ _ _ 35 _ _ _)
  refine hp_iload_n 2 dX9_goSeason_35 rfl rfl (?_ : hp_G _ _ _ _ _ _ _ _ _ 36 _ _ _)
  refine hp_icmp_ge (tgt := 76) dX9_goSeason_36 rfl (fun c8 => ?_) (fun c8 => (?_ : hp_G _ _ _ _ _ _ _ _ _ 39 _ _ _))
  · replace hf := ot_ c8 hf
    obtain rfl := Option.some.inj hf
    exact hp_sub [] rfl (ke _ rfl)
  · replace hf := of_ c8 hf
    refine hp_aload_n 0 dX9_goSeason_39 rfl rfl (?_ : hp_G _ _ _ _ _ _ _ _ _ 40 _ _ _)
    refine hp_aload_n 0 dX9_goSeason_40 rfl rfl (?_ : hp_G _ _ _ _ _ _ _ _ _ 41 _ _ _)
    replace hf := ob_ hf
    obtain ⟨x9, ex9, hf⟩ := hf
    refine fgX9_16 rfl dX9_goSeason_41 ex9 (?_ : hp_G _ _ _ _ _ _ _ _ _ 44 _ _ _)
    refine hp_iload_n 1 dX9_goSeason_44 rfl rfl (?_ : hp_G _ _ _ _ _ _ _ _ _ 45 _ _ _)
    refine hp_iconst (v := 2) dX9_goSeason_45 ic_2 (?_ : hp_G _ _ _ _ _ _ _ _ _ 46 _ _ _)
    refine hp_iload_n 3 dX9_goSeason_46 rfl rfl (?_ : hp_G _ _ _ _ _ _ _ _ _ 47 _ _ _)
    refine hp_imul dX9_goSeason_47 (?_ : hp_G _ _ _ _ _ _ _ _ _ 48 _ _ _)
    refine hp_iadd dX9_goSeason_48 (?_ : hp_G _ _ _ _ _ _ _ _ _ 49 _ _ _)
    replace hf := ob_ hf
    obtain ⟨x10, ex10, hf⟩ := hf
    refine hp_iaload dX9_goSeason_49 ex10 (?_ : hp_G _ _ _ _ _ _ _ _ _ 50 _ _ _)
    refine hp_aload_n 0 dX9_goSeason_50 rfl rfl (?_ : hp_G _ _ _ _ _ _ _ _ _ 51 _ _ _)
    replace hf := ob_ hf
    obtain ⟨x11, ex11, hf⟩ := hf
    refine fgX9_16 rfl dX9_goSeason_51 ex11 (?_ : hp_G _ _ _ _ _ _ _ _ _ 54 _ _ _)
    refine hp_iload_n 1 dX9_goSeason_54 rfl rfl (?_ : hp_G _ _ _ _ _ _ _ _ _ 55 _ _ _)
    refine hp_iconst (v := 2) dX9_goSeason_55 ic_2 (?_ : hp_G _ _ _ _ _ _ _ _ _ 56 _ _ _)
    refine hp_iload_n 3 dX9_goSeason_56 rfl rfl (?_ : hp_G _ _ _ _ _ _ _ _ _ 57 _ _ _)
    refine hp_imul dX9_goSeason_57 (?_ : hp_G _ _ _ _ _ _ _ _ _ 58 _ _ _)
    refine hp_iadd dX9_goSeason_58 (?_ : hp_G _ _ _ _ _ _ _ _ _ 59 _ _ _)
    refine hp_iconst (v := 1) dX9_goSeason_59 ic_1 (?_ : hp_G _ _ _ _ _ _ _ _ _ 60 _ _ _)
    refine hp_iadd dX9_goSeason_60 (?_ : hp_G _ _ _ _ _ _ _ _ _ 61 _ _ _)
    replace hf := ob_ hf
    obtain ⟨x12, ex12, hf⟩ := hf
    refine hp_iaload dX9_goSeason_61 ex12 (?_ : hp_G _ _ _ _ _ _ _ _ _ 62 _ _ _)
    replace hf := ob_ hf
    obtain ⟨o13, eo13, hf⟩ := hf
    replace hf := ob_ hf
    obtain ⟨r14, er14, hf⟩ := hf
    refine clX9_147 (as := [.int x10, .int x12]) (st := []) rfl (kX9_does l er14) rfl (by decide) (Nat.le_of_ble_eq_true rfl) eo13 dX9_goSeason_62 rfl (?_ : hp_G _ _ _ _ _ _ _ _ _ 65 _ _ _)
    refine hp_if_ne (tgt := 70) dX9_goSeason_65 rfl (fun c15 => ?_) (fun c15 => (?_ : hp_G _ _ _ _ _ _ _ _ _ 68 _ _ _))
    · replace hf := of_ c15 hf
      replace hf := ob_ hf
      obtain ⟨x16, ex16, hf⟩ := hf
      refine hp_iinc (v := x16) (lv' := [(3, .int x16), (0, .ref v0), (1, .int v1), (2, .int v2)]) 3 dX9_goSeason_70 rfl (hp_inc ic_1 ex16) (Nat.le_of_ble_eq_true rfl) rfl (?_ : hp_G _ _ _ _ _ _ _ _ _ 73 _ _ _)
      refine hp_goto (tgt := 34) dX9_goSeason_73 rfl (?_ : hp_G _ _ _ _ _ _ _ _ _ 34 _ _ _)
      obtain rfl := Option.some.inj hf
      exact hp_sub [1, 2, 3, 0] rfl (kb _ rfl)
    · replace hf := ot_ c15 hf
      refine hp_iload_n 3 dX9_goSeason_68 rfl rfl (?_ : hp_G _ _ _ _ _ _ _ _ _ 69 _ _ _)
      obtain rfl := Option.some.inj hf
      exact hp_iret (kr _ rfl) (fun z => z) rfl dX9_goSeason_69
set_option maxRecDepth 20000 in
set_option maxHeartbeats 4000000 in
theorem tlX9_goSeason_34 (l : Launch) {v0 : Nat} {v1 : Int32} {v2 : Int32}  (q : Nat) {s : (Int32 × hp_H)} {x : (hp_H ⊕ (Int32 × hp_H))} (hf : it_ (bX9_goSeason_34  v0 v1 v2) q s = some x) {Q : Option Value → hp_H → Prop} (ke : ∀ e, x = .inl e → hp_G l mX9_goSeason none 3 false Q false 0 0 76 [] [] e) (kr : ∀ z, x = .inr z → Q (some (.int z.1)) z.2) : hp_G l mX9_goSeason none 3 false Q false 0 0 34 [(0, .ref v0), (1, .int v1), (2, .int v2), (3, .int s.1)] [] s.2 := by
  exact it_rule (f := bX9_goSeason_34  v0 v1 v2) (fun s => hp_G l mX9_goSeason none 3 false Q false 0 0 34 [(0, .ref v0), (1, .int v1), (2, .int v2), (3, .int s.1)] [] s.2) (fun x => (∀ e, x = .inl e → hp_G l mX9_goSeason none 3 false Q false 0 0 76 [] [] e) ∧ (∀ z, x = .inr z → Q (some (.int z.1)) z.2)) (fun s r h1 h2 h3 => tbX9_goSeason_34 l h1 (fun t e => h2 t e) (fun e he => (h3 _ he).1 _ rfl) (fun z he => (h3 _ he).2 _ rfl)) q s x hf ⟨ke, kr⟩
noncomputable def fX9_goSeason (h : hp_H) (a0 : Nat) (p1 : Int32) (p2 : Int32) : Option (Int32 × hp_H) :=
(pi_ h a0 8 16 0).bind fun h1 =>
(pi_ h1 a0 8 17 (-9)).bind fun h2 =>
(it_ (bX9_goSeason_13  a0 p1 p2) fu_ (0, h2)).bind fun x7 =>
(it_ (bX9_goSeason_34  a0 p1 p2) fu_ (0, x7)).bind fun x17 =>
match x17 with
| .inl y18 => (some ((-9), y18))
| .inr z19 => some z19
set_option maxRecDepth 20000 in
set_option maxHeartbeats 4000000 in
theorem tX9_goSeason (l : Launch) {h : hp_H} {a0 : Nat} {p1 : Int32} {p2 : Int32} {r : (Int32 × hp_H)} (hf : fX9_goSeason h a0 p1 p2 = some r) {Q : Option Value → hp_H → Prop} (kr : Q (some (.int r.1)) r.2) : hp_G l mX9_goSeason none 3 false Q false 0 0 0 [(0, .ref a0), (1, .int p1), (2, .int p2)] [] h := by
  unfold fX9_goSeason at hf
  refine hp_aload_n 0 dX9_goSeason_0 rfl rfl (?_ : hp_G _ _ _ _ _ _ _ _ _ 1 _ _ _)
  refine hp_iconst (v := 0) dX9_goSeason_1 ic_0 (?_ : hp_G _ _ _ _ _ _ _ _ _ 2 _ _ _)
  replace hf := ob_ hf
  obtain ⟨h1, eh1, hf⟩ := hf
  refine fpX9_141 rfl dX9_goSeason_2 eh1 (?_ : hp_G _ _ _ _ _ _ _ _ _ 5 _ _ _)
  refine hp_aload_n 0 dX9_goSeason_5 rfl rfl (?_ : hp_G _ _ _ _ _ _ _ _ _ 6 _ _ _)
  refine hp_bipush (v := (-9)) dX9_goSeason_6 bi_m9 (?_ : hp_G _ _ _ _ _ _ _ _ _ 8 _ _ _)
  replace hf := ob_ hf
  obtain ⟨h2, eh2, hf⟩ := hf
  refine fpX9_144 rfl dX9_goSeason_8 eh2 (?_ : hp_G _ _ _ _ _ _ _ _ _ 11 _ _ _)
  refine hp_iconst (v := 0) dX9_goSeason_11 ic_0 (?_ : hp_G _ _ _ _ _ _ _ _ _ 12 _ _ _)
  refine hp_istore_n (lv' := [(3, .int 0), (0, .ref a0), (1, .int p1), (2, .int p2)]) dX9_goSeason_12 rfl (Nat.le_of_ble_eq_true rfl) rfl (?_ : hp_G _ _ _ _ _ _ _ _ _ 13 _ _ _)
  replace hf := ob_ hf
  obtain ⟨x7, ex7, hf⟩ := hf
  refine hp_sub [1, 2, 3, 0] rfl ?_
  refine tlX9_goSeason_13 l fu_ ex7 (fun y hy => ?_)
  obtain rfl := hy
  refine hp_iconst (v := 0) dX9_goSeason_32 ic_0 (?_ : hp_G _ _ _ _ _ _ _ _ _ 33 _ _ _)
  refine hp_istore_n (lv' := [(3, .int 0), (0, .ref a0), (1, .int p1), (2, .int p2)]) dX9_goSeason_33 rfl (Nat.le_of_ble_eq_true rfl) rfl (?_ : hp_G _ _ _ _ _ _ _ _ _ 34 _ _ _)
  replace hf := ob_ hf
  obtain ⟨x17, ex17, hf⟩ := hf
  refine hp_sub [1, 2, 3, 0] rfl ?_
  rcases x17 with y18 | z19
  · (try dsimp only at hf)
    refine tlX9_goSeason_34 l fu_ ex17 (fun w hw => ?_) (fun w hw => (by cases hw))
    obtain rfl := Sum.inl.inj hw
    refine hp_bipush (v := (-9)) dX9_goSeason_76 bi_m9 (?_ : hp_G _ _ _ _ _ _ _ _ _ 78 _ _ _)
    obtain rfl := Option.some.inj hf
    exact hp_iret kr (fun z => z) rfl dX9_goSeason_78
  · (try dsimp only at hf)
    refine tlX9_goSeason_34 l fu_ ex17 (fun w hw => (by cases hw)) (fun w hw => ?_)
    obtain rfl := Sum.inr.inj hw
    obtain rfl := Option.some.inj hf
    exact kr
theorem kX9_goSeason (l : Launch) {h : hp_H} {a0 : Nat} {p1 : Int32} {p2 : Int32} {r : (Int32 × hp_H)} (hf : fX9_goSeason h a0 p1 p2 = some r) : hp_Cn l yX9_goSeason mX9_goSeason 3 false 0 0 [.ref a0, .int p1, .int p2] h (fun v h2 => some (.int r.1) = v ∧ r.2 = h2) :=
  hp_of (by decide) rfl (fun z => by cases z) (Nat.le_of_ble_eq_true rfl) (tX9_goSeason l hf ⟨rfl, rfl⟩)
noncomputable def fX9_tellSeason (h : hp_H) (a0 : Nat) (p1 : Int32) : Option Int32 :=
if p1 < 10 then
(if p1 = 0 then
((gi_ h a0 8 5).bind fun x3 =>
(gi_ h a0 8 6).bind fun x4 =>
(fX9_size h x4).bind fun r5 =>
some (x3 - r5))
else
(if p1 = 1 then
((gi_ h a0 8 17).bind fun x7 =>
some x7)
else
(if p1 = 2 then
((gi_ h a0 8 6).bind fun x9 =>
some x9)
else
(if p1 = 3 then
((gi_ h a0 8 16).bind fun x11 =>
some x11)
else
((gi_ h a0 8 17).bind fun x12 =>
some x12)))))
else
((hg_o h a0 8).bind fun o13 =>
(fX9_isPerson h a0 (p1 - 10)).bind fun r14 =>
if r14 = 0 then
(some (-9))
else
((gq_ h a0 8 15).bind fun x16 =>
(al_ h x16 (p1 - 10)).bind fun x17 =>
some x17))
set_option maxRecDepth 20000 in
set_option maxHeartbeats 4000000 in
theorem tX9_tellSeason (l : Launch) {h : hp_H} {a0 : Nat} {p1 : Int32} {r : Int32} (hf : fX9_tellSeason h a0 p1 = some r) {Q : Option Value → hp_H → Prop} (kr : Q (some (.int r)) h) : hp_G l mX9_tellSeason none 1 false Q false 0 0 0 [(0, .ref a0), (1, .int p1)] [] h := by
  unfold fX9_tellSeason at hf
  refine hp_iload_n 1 dX9_tellSeason_0 rfl rfl (?_ : hp_G _ _ _ _ _ _ _ _ _ 1 _ _ _)
  refine hp_bipush (v := 10) dX9_tellSeason_1 bi_10 (?_ : hp_G _ _ _ _ _ _ _ _ _ 3 _ _ _)
  refine hp_icmp_lt (tgt := 32) dX9_tellSeason_3 rfl (fun c1 => ?_) (fun c1 => (?_ : hp_G _ _ _ _ _ _ _ _ _ 6 _ _ _))
  · replace hf := ot_ c1 hf
    refine hp_iload_n 1 dX9_tellSeason_32 rfl rfl (?_ : hp_G _ _ _ _ _ _ _ _ _ 33 _ _ _)
    by_cases c2 : p1 = 0
    · replace hf := ot_ c2 hf
      refine hp_tableIn (tgt := 64) dX9_tellSeason_33 (by rw [c2]; decide) (by rw [c2]; decide) (by rw [c2]; rfl) (by decide) ?_
      refine hp_aload_n 0 dX9_tellSeason_64 rfl rfl (?_ : hp_G _ _ _ _ _ _ _ _ _ 65 _ _ _)
      replace hf := ob_ hf
      obtain ⟨x3, ex3, hf⟩ := hf
      refine fgX9_71 rfl dX9_tellSeason_65 ex3 (?_ : hp_G _ _ _ _ _ _ _ _ _ 68 _ _ _)
      refine hp_aload_n 0 dX9_tellSeason_68 rfl rfl (?_ : hp_G _ _ _ _ _ _ _ _ _ 69 _ _ _)
      replace hf := ob_ hf
      obtain ⟨x4, ex4, hf⟩ := hf
      refine fgX9_101 rfl dX9_tellSeason_69 ex4 (?_ : hp_G _ _ _ _ _ _ _ _ _ 72 _ _ _)
      replace hf := ob_ hf
      obtain ⟨r5, er5, hf⟩ := hf
      refine clX9_138 (as := [.int x4]) (st := [.int x3]) rfl (kX9_size l er5) rfl (by decide) (Nat.le_of_ble_eq_true rfl) dX9_tellSeason_72 rfl (?_ : hp_G _ _ _ _ _ _ _ _ _ 75 _ _ _)
      refine hp_isub dX9_tellSeason_75 (?_ : hp_G _ _ _ _ _ _ _ _ _ 76 _ _ _)
      obtain rfl := Option.some.inj hf
      exact hp_iret kr (fun z => z) rfl dX9_tellSeason_76
    · replace hf := of_ c2 hf
      by_cases c6 : p1 = 1
      · replace hf := ot_ c6 hf
        refine hp_tableIn (tgt := 87) dX9_tellSeason_33 (by rw [c6]; decide) (by rw [c6]; decide) (by rw [c6]; rfl) (by decide) ?_
        refine hp_aload_n 0 dX9_tellSeason_87 rfl rfl (?_ : hp_G _ _ _ _ _ _ _ _ _ 88 _ _ _)
        replace hf := ob_ hf
        obtain ⟨x7, ex7, hf⟩ := hf
        refine fgX9_144 rfl dX9_tellSeason_88 ex7 (?_ : hp_G _ _ _ _ _ _ _ _ _ 91 _ _ _)
        obtain rfl := Option.some.inj hf
        exact hp_iret kr (fun z => z) rfl dX9_tellSeason_91
      · replace hf := of_ c6 hf
        by_cases c8 : p1 = 2
        · replace hf := ot_ c8 hf
          refine hp_tableIn (tgt := 77) dX9_tellSeason_33 (by rw [c8]; decide) (by rw [c8]; decide) (by rw [c8]; rfl) (by decide) ?_
          refine hp_aload_n 0 dX9_tellSeason_77 rfl rfl (?_ : hp_G _ _ _ _ _ _ _ _ _ 78 _ _ _)
          replace hf := ob_ hf
          obtain ⟨x9, ex9, hf⟩ := hf
          refine fgX9_101 rfl dX9_tellSeason_78 ex9 (?_ : hp_G _ _ _ _ _ _ _ _ _ 81 _ _ _)
          obtain rfl := Option.some.inj hf
          exact hp_iret kr (fun z => z) rfl dX9_tellSeason_81
        · replace hf := of_ c8 hf
          by_cases c10 : p1 = 3
          · replace hf := ot_ c10 hf
            refine hp_tableIn (tgt := 82) dX9_tellSeason_33 (by rw [c10]; decide) (by rw [c10]; decide) (by rw [c10]; rfl) (by decide) ?_
            refine hp_aload_n 0 dX9_tellSeason_82 rfl rfl (?_ : hp_G _ _ _ _ _ _ _ _ _ 83 _ _ _)
            replace hf := ob_ hf
            obtain ⟨x11, ex11, hf⟩ := hf
            refine fgX9_141 rfl dX9_tellSeason_83 ex11 (?_ : hp_G _ _ _ _ _ _ _ _ _ 86 _ _ _)
            obtain rfl := Option.some.inj hf
            exact hp_iret kr (fun z => z) rfl dX9_tellSeason_86
          · replace hf := of_ c10 hf
            refine hp_tableOut (tgt := 87) dX9_tellSeason_33 (by have q0 := hp_nei (z := 0) (by decide) c2; have q1 := hp_nei (z := 1) (by decide) c6; have q2 := hp_nei (z := 2) (by decide) c8; have q3 := hp_nei (z := 3) (by decide) c10; omega) (by decide) ?_
            refine hp_aload_n 0 dX9_tellSeason_87 rfl rfl (?_ : hp_G _ _ _ _ _ _ _ _ _ 88 _ _ _)
            replace hf := ob_ hf
            obtain ⟨x12, ex12, hf⟩ := hf
            refine fgX9_144 rfl dX9_tellSeason_88 ex12 (?_ : hp_G _ _ _ _ _ _ _ _ _ 91 _ _ _)
            obtain rfl := Option.some.inj hf
            exact hp_iret kr (fun z => z) rfl dX9_tellSeason_91
  · replace hf := of_ c1 hf
    refine hp_aload_n 0 dX9_tellSeason_6 rfl rfl (?_ : hp_G _ _ _ _ _ _ _ _ _ 7 _ _ _)
    refine hp_iload_n 1 dX9_tellSeason_7 rfl rfl (?_ : hp_G _ _ _ _ _ _ _ _ _ 8 _ _ _)
    refine hp_bipush (v := 10) dX9_tellSeason_8 bi_10 (?_ : hp_G _ _ _ _ _ _ _ _ _ 10 _ _ _)
    refine hp_isub dX9_tellSeason_10 (?_ : hp_G _ _ _ _ _ _ _ _ _ 11 _ _ _)
    replace hf := ob_ hf
    obtain ⟨o13, eo13, hf⟩ := hf
    replace hf := ob_ hf
    obtain ⟨r14, er14, hf⟩ := hf
    refine clX9_74 (as := [.int (p1 - 10)]) (st := []) rfl (kX9_isPerson l er14) rfl (by decide) (Nat.le_of_ble_eq_true rfl) eo13 dX9_tellSeason_11 rfl (?_ : hp_G _ _ _ _ _ _ _ _ _ 14 _ _ _)
    refine hp_if_eq (tgt := 29) dX9_tellSeason_14 rfl (fun c15 => ?_) (fun c15 => (?_ : hp_G _ _ _ _ _ _ _ _ _ 17 _ _ _))
    · replace hf := ot_ c15 hf
      refine hp_bipush (v := (-9)) dX9_tellSeason_29 bi_m9 (?_ : hp_G _ _ _ _ _ _ _ _ _ 31 _ _ _)
      obtain rfl := Option.some.inj hf
      exact hp_iret kr (fun z => z) rfl dX9_tellSeason_31
    · replace hf := of_ c15 hf
      refine hp_aload_n 0 dX9_tellSeason_17 rfl rfl (?_ : hp_G _ _ _ _ _ _ _ _ _ 18 _ _ _)
      replace hf := ob_ hf
      obtain ⟨x16, ex16, hf⟩ := hf
      refine fgX9_34 rfl dX9_tellSeason_18 ex16 (?_ : hp_G _ _ _ _ _ _ _ _ _ 21 _ _ _)
      refine hp_iload_n 1 dX9_tellSeason_21 rfl rfl (?_ : hp_G _ _ _ _ _ _ _ _ _ 22 _ _ _)
      refine hp_bipush (v := 10) dX9_tellSeason_22 bi_10 (?_ : hp_G _ _ _ _ _ _ _ _ _ 24 _ _ _)
      refine hp_isub dX9_tellSeason_24 (?_ : hp_G _ _ _ _ _ _ _ _ _ 25 _ _ _)
      replace hf := ob_ hf
      obtain ⟨x17, ex17, hf⟩ := hf
      refine hp_iaload dX9_tellSeason_25 ex17 (?_ : hp_G _ _ _ _ _ _ _ _ _ 26 _ _ _)
      refine hp_goto (tgt := 31) dX9_tellSeason_26 rfl (?_ : hp_G _ _ _ _ _ _ _ _ _ 31 _ _ _)
      obtain rfl := Option.some.inj hf
      exact hp_iret kr (fun z => z) rfl dX9_tellSeason_31
theorem kX9_tellSeason (l : Launch) {h : hp_H} {a0 : Nat} {p1 : Int32} {r : Int32} (hf : fX9_tellSeason h a0 p1 = some r) : hp_Cn l yX9_tellSeason mX9_tellSeason 1 false 0 0 [.ref a0, .int p1] h (fun v h2 => some (.int r) = v ∧ h = h2) :=
  hp_of (by decide) rfl (fun z => by cases z) (Nat.le_of_ble_eq_true rfl) (tX9_tellSeason l hf ⟨rfl, rfl⟩)
