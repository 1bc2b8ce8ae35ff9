noncomputable def fX9_pairs (h : hp_H) (a0 : Nat) (p1 : Int32) : Option (Int32 × hp_H) :=
(fX9_within h p1 (-1) 5).bind fun r1 =>
if r1 = 0 then
(some ((-2), h))
else
((gi_ h a0 8 5).bind fun x3 =>
if x3 = 0 then
(some ((-3), h))
else
((hg_o h a0 8).bind fun o5 =>
(fX9_findPairs h a0).bind fun r6 =>
if p1 = (-1) then
((gi_ r6 a0 8 21).bind fun x16 =>
some (x16, r6))
else
((hg_o r6 a0 8).bind fun o8 =>
(fX9_isPerson r6 a0 p1).bind fun r9 =>
if r9 = 0 then
(some ((-9), r6))
else
((gq_ r6 a0 8 19).bind fun x11 =>
(al_ r6 x11 p1).bind fun x12 =>
if x12 = 9 then
(some ((-9), r6))
else
((gq_ r6 a0 8 19).bind fun x14 =>
(al_ r6 x14 p1).bind fun x15 =>
some (x15, r6))))))
set_option maxRecDepth 20000 in
set_option maxHeartbeats 4000000 in
theorem tX9_pairs (l : Launch) {h : hp_H} {a0 : Nat} {p1 : Int32} {r : (Int32 × hp_H)} (hf : fX9_pairs h a0 p1 = some r) {Q : Option Value → hp_H → Prop} (kr : Q (some (.int r.1)) r.2) : hp_G l mX9_pairs none 5 false Q false 0 0 0 [(0, .ref a0), (1, .int p1)] [] h := by
  unfold fX9_pairs at hf
  refine hp_iload_n 1 dX9_pairs_0 rfl rfl (?_ : hp_G _ _ _ _ _ _ _ _ _ 1 _ _ _)
  refine hp_iconst (v := (-1)) dX9_pairs_1 ic_m1 (?_ : hp_G _ _ _ _ _ _ _ _ _ 2 _ _ _)
  refine hp_iconst (v := 5) dX9_pairs_2 ic_5 (?_ : hp_G _ _ _ _ _ _ _ _ _ 3 _ _ _)
  replace hf := ob_ hf
  obtain ⟨r1, er1, hf⟩ := hf
  refine clX9_67 (as := [.int p1, .int ((-1)), .int 5]) (st := []) rfl (kX9_within l er1) rfl (by decide) (Nat.le_of_ble_eq_true rfl) dX9_pairs_3 rfl (?_ : hp_G _ _ _ _ _ _ _ _ _ 6 _ _ _)
  refine hp_if_ne (tgt := 12) dX9_pairs_6 rfl (fun c2 => ?_) (fun c2 => (?_ : hp_G _ _ _ _ _ _ _ _ _ 9 _ _ _))
  · replace hf := of_ c2 hf
    refine hp_aload_n 0 dX9_pairs_12 rfl rfl (?_ : hp_G _ _ _ _ _ _ _ _ _ 13 _ _ _)
    replace hf := ob_ hf
    obtain ⟨x3, ex3, hf⟩ := hf
    refine fgX9_71 rfl dX9_pairs_13 ex3 (?_ : hp_G _ _ _ _ _ _ _ _ _ 16 _ _ _)
    refine hp_if_ne (tgt := 22) dX9_pairs_16 rfl (fun c4 => ?_) (fun c4 => (?_ : hp_G _ _ _ _ _ _ _ _ _ 19 _ _ _))
    · replace hf := of_ c4 hf
      refine hp_aload_n 0 dX9_pairs_22 rfl rfl (?_ : hp_G _ _ _ _ _ _ _ _ _ 23 _ _ _)
      replace hf := ob_ hf
      obtain ⟨o5, eo5, hf⟩ := hf
      replace hf := ob_ hf
      obtain ⟨r6, er6, hf⟩ := hf
      refine clX9_183 (as := []) (st := []) rfl (kX9_findPairs l er6) rfl (by decide) (Nat.le_of_ble_eq_true rfl) eo5 dX9_pairs_23 rfl (?_ : hp_G _ _ _ _ _ _ _ _ _ 26 _ _ _)
      refine hp_iload_n 1 dX9_pairs_26 rfl rfl (?_ : hp_G _ _ _ _ _ _ _ _ _ 27 _ _ _)
      refine hp_iconst (v := (-1)) dX9_pairs_27 ic_m1 (?_ : hp_G _ _ _ _ _ _ _ _ _ 28 _ _ _)
      refine hp_icmp_ne (tgt := 36) dX9_pairs_28 rfl (fun c7 => ?_) (fun c7 => (?_ : hp_G _ _ _ _ _ _ _ _ _ 31 _ _ _))
      · replace hf := of_ c7 hf
        refine hp_aload_n 0 dX9_pairs_36 rfl rfl (?_ : hp_G _ _ _ _ _ _ _ _ _ 37 _ _ _)
        refine hp_iload_n 1 dX9_pairs_37 rfl rfl (?_ : hp_G _ _ _ _ _ _ _ _ _ 38 _ _ _)
        replace hf := ob_ hf
        obtain ⟨o8, eo8, hf⟩ := hf
        replace hf := ob_ hf
        obtain ⟨r9, er9, hf⟩ := hf
        refine clX9_74 (as := [.int p1]) (st := []) rfl (kX9_isPerson l er9) rfl (by decide) (Nat.le_of_ble_eq_true rfl) eo8 dX9_pairs_38 rfl (?_ : hp_G _ _ _ _ _ _ _ _ _ 41 _ _ _)
        refine hp_if_eq (tgt := 64) dX9_pairs_41 rfl (fun c10 => ?_) (fun c10 => (?_ : hp_G _ _ _ _ _ _ _ _ _ 44 _ _ _))
        · replace hf := ot_ c10 hf
          refine hp_bipush (v := (-9)) dX9_pairs_64 bi_m9 (?_ : hp_G _ _ _ _ _ _ _ _ _ 66 _ _ _)
          obtain rfl := Option.some.inj hf
          exact hp_iret kr (fun z => z) rfl dX9_pairs_66
        · replace hf := of_ c10 hf
          refine hp_aload_n 0 dX9_pairs_44 rfl rfl (?_ : hp_G _ _ _ _ _ _ _ _ _ 45 _ _ _)
          replace hf := ob_ hf
          obtain ⟨x11, ex11, hf⟩ := hf
          refine fgX9_40 rfl dX9_pairs_45 ex11 (?_ : hp_G _ _ _ _ _ _ _ _ _ 48 _ _ _)
          refine hp_iload_n 1 dX9_pairs_48 rfl rfl (?_ : hp_G _ _ _ _ _ _ _ _ _ 49 _ _ _)
          replace hf := ob_ hf
          obtain ⟨x12, ex12, hf⟩ := hf
          refine hp_iaload dX9_pairs_49 ex12 (?_ : hp_G _ _ _ _ _ _ _ _ _ 50 _ _ _)
          refine hp_bipush (v := 9) dX9_pairs_50 bi_9 (?_ : hp_G _ _ _ _ _ _ _ _ _ 52 _ _ _)
          refine hp_icmp_eq (tgt := 64) dX9_pairs_52 rfl (fun c13 => ?_) (fun c13 => (?_ : hp_G _ _ _ _ _ _ _ _ _ 55 _ _ _))
          · replace hf := ot_ c13 hf
            refine hp_bipush (v := (-9)) dX9_pairs_64 bi_m9 (?_ : hp_G _ _ _ _ _ _ _ _ _ 66 _ _ _)
            obtain rfl := Option.some.inj hf
            exact hp_iret kr (fun z => z) rfl dX9_pairs_66
          · replace hf := of_ c13 hf
            refine hp_aload_n 0 dX9_pairs_55 rfl rfl (?_ : hp_G _ _ _ _ _ _ _ _ _ 56 _ _ _)
            replace hf := ob_ hf
            obtain ⟨x14, ex14, hf⟩ := hf
            refine fgX9_40 rfl dX9_pairs_56 ex14 (?_ : hp_G _ _ _ _ _ _ _ _ _ 59 _ _ _)
            refine hp_iload_n 1 dX9_pairs_59 rfl rfl (?_ : hp_G _ _ _ _ _ _ _ _ _ 60 _ _ _)
            replace hf := ob_ hf
            obtain ⟨x15, ex15, hf⟩ := hf
            refine hp_iaload dX9_pairs_60 ex15 (?_ : hp_G _ _ _ _ _ _ _ _ _ 61 _ _ _)
            refine hp_goto (tgt := 66) dX9_pairs_61 rfl (?_ : hp_G _ _ _ _ _ _ _ _ _ 66 _ _ _)
            obtain rfl := Option.some.inj hf
            exact hp_iret kr (fun z => z) rfl dX9_pairs_66
      · replace hf := ot_ c7 hf
        refine hp_aload_n 0 dX9_pairs_31 rfl rfl (?_ : hp_G _ _ _ _ _ _ _ _ _ 32 _ _ _)
        replace hf := ob_ hf
        obtain ⟨x16, ex16, hf⟩ := hf
        refine fgX9_163 rfl dX9_pairs_32 ex16 (?_ : hp_G _ _ _ _ _ _ _ _ _ 35 _ _ _)
        obtain rfl := Option.some.inj hf
        exact hp_iret kr (fun z => z) rfl dX9_pairs_35
    · replace hf := ot_ c4 hf
      refine hp_bipush (v := (-3)) dX9_pairs_19 bi_m3 (?_ : hp_G _ _ _ _ _ _ _ _ _ 21 _ _ _)
      obtain rfl := Option.some.inj hf
      exact hp_iret kr (fun z => z) rfl dX9_pairs_21
  · replace hf := ot_ c2 hf
    refine hp_bipush (v := (-2)) dX9_pairs_9 bi_m2 (?_ : hp_G _ _ _ _ _ _ _ _ _ 11 _ _ _)
    obtain rfl := Option.some.inj hf
    exact hp_iret kr (fun z => z) rfl dX9_pairs_11
theorem kX9_pairs (l : Launch) {h : hp_H} {a0 : Nat} {p1 : Int32} {r : (Int32 × hp_H)} (hf : fX9_pairs h a0 p1 = some r) : hp_Cn l yX9_pairs mX9_pairs 5 false 0 0 [.ref a0, .int p1] h (fun v h2 => some (.int r.1) = v ∧ r.2 = h2) :=
  hp_of (by decide) rfl (fun z => by cases z) (Nat.le_of_ble_eq_true rfl) (tX9_pairs l hf ⟨rfl, rfl⟩)
noncomputable def bX8_refusalOfTwos_47 (h : hp_H) (v0 : Nat) (v3 : Int32) (v4 : Int32) (v7 : Nat) (s : Int32) : Option (Int32 ⊕ (Unit ⊕ (Int32 × hp_H))) :=
if v4 ≤ s then
(some (.inr (.inl ())))
else
((gq_ h v0 7 0).bind fun x8 =>
(hg_o h v7 5).bind fun o9 =>
(fX5_read h v7 (v3 + (2 * s))).bind fun r10 =>
(hg_o h v7 5).bind fun o11 =>
(fX5_read h v7 ((v3 + (2 * s)) + 1)).bind fun r12 =>
(hg_o h x8 6).bind fun o13 =>
(fX7_hasTwo h x8 r10 r12).bind fun r14 =>
if r14 = 0 then
(some (.inr (.inr ((-1), h))))
else
((some (s + 1)).bind fun x16 =>
some (.inl x16)))
set_option maxRecDepth 20000 in
set_option maxHeartbeats 4000000 in
theorem tbX8_refusalOfTwos_47 (l : Launch) {h : hp_H} {v0 : Nat} {v3 : Int32} {v4 : Int32} {v7 : Nat}  {s : Int32} {r : (Int32 ⊕ (Unit ⊕ (Int32 × hp_H)))} (hf : bX8_refusalOfTwos_47 h  v0 v3 v4 v7 s = some r) {Q : Option Value → hp_H → Prop} (kb : ∀ t, r = .inl t → hp_G l mX8_refusalOfTwos none 3 false Q false 0 0 47 [(0, .ref v0), (3, .int v3), (4, .int v4), (7, .ref v7), (8, .int t)] [] h) (ke : ∀ x, r = .inr (.inl x) → hp_G l mX8_refusalOfTwos none 3 false Q false 0 0 96 [] [] h) (kr : ∀ z, r = .inr (.inr z) → Q (some (.int z.1)) z.2) : hp_G l mX8_refusalOfTwos none 3 false Q false 0 0 47 [(0, .ref v0), (3, .int v3), (4, .int v4), (7, .ref v7), (8, .int s)] [] h := by
  unfold bX8_refusalOfTwos_47 at hf
  refine hp_iload 4 dX8_refusalOfTwos_47 rfl (?_ : hp_G _ _ _ _ _ _ _ _ _ 49 _ _ _)
  refine hp_iload 2 dX8_refusalOfTwos_49 rfl (?_ : hp_G _ _ _ _ _ _ _ _ _ 51 _ _ _)
  refine hp_icmp_ge (tgt := 96) dX8_refusalOfTwos_51 rfl (fun c7 => ?_) (fun c7 => (?_ : hp_G _ _ _ _ _ _ _ _ _ 54 _ _ _))
  · replace hf := ot_ c7 hf
    obtain rfl := Option.some.inj hf
    exact hp_sub [] rfl (ke _ rfl)
  · replace hf := of_ c7 hf
    refine hp_aload_n 0 dX8_refusalOfTwos_54 rfl rfl (?_ : hp_G _ _ _ _ _ _ _ _ _ 55 _ _ _)
    replace hf := ob_ hf
    obtain ⟨x8, ex8, hf⟩ := hf
    refine fgX8_12 rfl dX8_refusalOfTwos_55 ex8 (?_ : hp_G _ _ _ _ _ _ _ _ _ 58 _ _ _)
    refine hp_aload 3 dX8_refusalOfTwos_58 rfl (?_ : hp_G _ _ _ _ _ _ _ _ _ 60 _ _ _)
    refine hp_iload_n 1 dX8_refusalOfTwos_60 rfl rfl (?_ : hp_G _ _ _ _ _ _ _ _ _ 61 _ _ _)
    refine hp_iconst (v := 2) dX8_refusalOfTwos_61 ic_2 (?_ : hp_G _ _ _ _ _ _ _ _ _ 62 _ _ _)
    refine hp_iload 4 dX8_refusalOfTwos_62 rfl (?_ : hp_G _ _ _ _ _ _ _ _ _ 64 _ _ _)
    refine hp_imul dX8_refusalOfTwos_64 (?_ : hp_G _ _ _ _ _ _ _ _ _ 65 _ _ _)
    refine hp_iadd dX8_refusalOfTwos_65 (?_ : hp_G _ _ _ _ _ _ _ _ _ 66 _ _ _)
    replace hf := ob_ hf
    obtain ⟨o9, eo9, hf⟩ := hf
    replace hf := ob_ hf
    obtain ⟨r10, er10, hf⟩ := hf
    refine clX8_219 (as := [.int (v3 + (2 * s))]) (st := [.ref x8]) rfl (kX5_read l er10) rfl (by decide) (Nat.le_of_ble_eq_true rfl) eo9 dX8_refusalOfTwos_66 rfl (?_ : hp_G _ _ _ _ _ _ _ _ _ 69 _ _ _)
    refine hp_aload 3 dX8_refusalOfTwos_69 rfl (?_ : hp_G _ _ _ _ _ _ _ _ _ 71 _ _ _)
    refine hp_iload_n 1 dX8_refusalOfTwos_71 rfl rfl (?_ : hp_G _ _ _ _ _ _ _ _ _ 72 _ _ _)
    refine hp_iconst (v := 2) dX8_refusalOfTwos_72 ic_2 (?_ : hp_G _ _ _ _ _ _ _ _ _ 73 _ _ _)
    refine hp_iload 4 dX8_refusalOfTwos_73 rfl (?_ : hp_G _ _ _ _ _ _ _ _ _ 75 _ _ _)
    refine hp_imul dX8_refusalOfTwos_75 (?_ : hp_G _ _ _ _ _ _ _ _ _ 76 _ _ _)
    refine hp_iadd dX8_refusalOfTwos_76 (?_ : hp_G _ _ _ _ _ _ _ _ _ 77 _ _ _)
    refine hp_iconst (v := 1) dX8_refusalOfTwos_77 ic_1 (?_ : hp_G _ _ _ _ _ _ _ _ _ 78 _ _ _)
    refine hp_iadd dX8_refusalOfTwos_78 (?_ : hp_G _ _ _ _ _ _ _ _ _ 79 _ _ _)
    replace hf := ob_ hf
    obtain ⟨o11, eo11, hf⟩ := hf
    replace hf := ob_ hf
    obtain ⟨r12, er12, hf⟩ := hf
    refine clX8_219 (as := [.int ((v3 + (2 * s)) + 1)]) (st := [.int r10, .ref x8]) rfl (kX5_read l er12) rfl (by decide) (Nat.le_of_ble_eq_true rfl) eo11 dX8_refusalOfTwos_79 rfl (?_ : hp_G _ _ _ _ _ _ _ _ _ 82 _ _ _)
    replace hf := ob_ hf
    obtain ⟨o13, eo13, hf⟩ := hf
    replace hf := ob_ hf
    obtain ⟨r14, er14, hf⟩ := hf
    refine clX8_119 (as := [.int r10, .int r12]) (st := []) rfl (kX7_hasTwo l er14) rfl (by decide) (Nat.le_of_ble_eq_true rfl) eo13 dX8_refusalOfTwos_82 rfl (?_ : hp_G _ _ _ _ _ _ _ _ _ 85 _ _ _)
    refine hp_if_ne (tgt := 90) dX8_refusalOfTwos_85 rfl (fun c15 => ?_) (fun c15 => (?_ : hp_G _ _ _ _ _ _ _ _ _ 88 _ _ _))
    · replace hf := of_ c15 hf
      replace hf := ob_ hf
      obtain ⟨x16, ex16, hf⟩ := hf
      refine hp_iinc (v := x16) (lv' := [(8, .int x16), (0, .ref v0), (3, .int v3), (4, .int v4), (7, .ref v7)]) 4 dX8_refusalOfTwos_90 rfl (hp_inc ic_1 ex16) (Nat.le_of_ble_eq_true rfl) rfl (?_ : hp_G _ _ _ _ _ _ _ _ _ 93 _ _ _)
      refine hp_goto (tgt := 47) dX8_refusalOfTwos_93 rfl (?_ : hp_G _ _ _ _ _ _ _ _ _ 47 _ _ _)
      obtain rfl := Option.some.inj hf
      exact hp_sub [1, 2, 3, 4, 0] rfl (kb _ rfl)
    · replace hf := ot_ c15 hf
      refine hp_iconst (v := (-1)) dX8_refusalOfTwos_88 ic_m1 (?_ : hp_G _ _ _ _ _ _ _ _ _ 89 _ _ _)
      obtain rfl := Option.some.inj hf
      exact hp_iret (kr _ rfl) (fun z => z) rfl dX8_refusalOfTwos_89
set_option maxRecDepth 20000 in
set_option maxHeartbeats 4000000 in
theorem tlX8_refusalOfTwos_47 (l : Launch) {h : hp_H} {v0 : Nat} {v3 : Int32} {v4 : Int32} {v7 : Nat}  (q : Nat) {s : Int32} {x : (Unit ⊕ (Int32 × hp_H))} (hf : it_ (bX8_refusalOfTwos_47 h  v0 v3 v4 v7) q s = some x) {Q : Option Value → hp_H → Prop} (ke : ∀ e, x = .inl e → hp_G l mX8_refusalOfTwos none 3 false Q false 0 0 96 [] [] h) (kr : ∀ z, x = .inr z → Q (some (.int z.1)) z.2) : hp_G l mX8_refusalOfTwos none 3 false Q false 0 0 47 [(0, .ref v0), (3, .int v3), (4, .int v4), (7, .ref v7), (8, .int s)] [] h := by
  exact it_rule (f := bX8_refusalOfTwos_47 h  v0 v3 v4 v7) (fun s => hp_G l mX8_refusalOfTwos none 3 false Q false 0 0 47 [(0, .ref v0), (3, .int v3), (4, .int v4), (7, .ref v7), (8, .int s)] [] h) (fun x => (∀ e, x = .inl e → hp_G l mX8_refusalOfTwos none 3 false Q false 0 0 96 [] [] h) ∧ (∀ z, x = .inr z → Q (some (.int z.1)) z.2)) (fun s r h1 h2 h3 => tbX8_refusalOfTwos_47 l h1 (fun t e => h2 t e) (fun e he => (h3 _ he).1 _ rfl) (fun z he => (h3 _ he).2 _ rfl)) q s x hf ⟨ke, kr⟩
noncomputable def jX8_refusalOfTwos_23 (g : hp_H)  (u0 : Nat) (u1 : Int32) (u3 : Int32) (u4 : Int32) (k0 : Int32) (k1 : Int32) (k2 : Int32) (k3 : Int32) (k4 : Int32) (k5 : Nat) : Option (Int32 × hp_H) :=
(hg_o g k5 7).bind fun o2 =>
(fX8_refusalOfRow g k5 k4 k3 k2 k1 k0).bind fun r3 =>
if r3.1 = 0 then
((gq_ r3.2 u0 7 1).bind fun x5 =>
(ql_ r3.2 x5 u1).bind fun x6 =>
(it_ (bX8_refusalOfTwos_47 r3.2 u0 u3 u4 x6) fu_ 0).bind fun x17 =>
match x17 with
| .inl y18 => (some (0, r3.2))
| .inr z19 => some z19)
else
(some (r3.1, r3.2))
set_option maxRecDepth 20000 in
set_option maxHeartbeats 4000000 in
theorem tjX8_refusalOfTwos_23 (l : Launch) {g : hp_H}  {u0 : Nat} {u1 : Int32} {u3 : Int32} {u4 : Int32} {k0 : Int32} {k1 : Int32} {k2 : Int32} {k3 : Int32} {k4 : Int32} {k5 : Nat} {r : (Int32 × hp_H)} (hf : jX8_refusalOfTwos_23 g u0 u1 u3 u4 k0 k1 k2 k3 k4 k5 = some r) {Q : Option Value → hp_H → Prop} (kr : Q (some (.int r.1)) r.2) : hp_G l mX8_refusalOfTwos none 3 false Q false 0 0 23 [(0, .ref u0), (1, .int u1), (3, .int u3), (4, .int u4)] [.int k0, .int k1, .int k2, .int k3, .int k4, .ref k5] g := by
  unfold jX8_refusalOfTwos_23 at hf
  replace hf := ob_ hf
  obtain ⟨o2, eo2, hf⟩ := hf
  replace hf := ob_ hf
  obtain ⟨r3, er3, hf⟩ := hf
  refine clX8_144 (as := [.int k4, .int k3, .int k2, .int k1, .int k0]) (st := []) rfl (kX8_refusalOfRow l er3) rfl (by decide) (Nat.le_of_ble_eq_true rfl) eo2 dX8_refusalOfTwos_23 rfl (?_ : hp_G _ _ _ _ _ _ _ _ _ 26 _ _ _)
  refine hp_istore (lv' := [(6, .int r3.1), (0, .ref u0), (1, .int u1), (3, .int u3), (4, .int u4)]) dX8_refusalOfTwos_26 (Nat.le_of_ble_eq_true rfl) rfl (?_ : hp_G _ _ _ _ _ _ _ _ _ 28 _ _ _)
  refine hp_iload 0 dX8_refusalOfTwos_28 rfl (?_ : hp_G _ _ _ _ _ _ _ _ _ 30 _ _ _)
  refine hp_if_eq (tgt := 36) dX8_refusalOfTwos_30 rfl (fun c4 => ?_) (fun c4 => (?_ : hp_G _ _ _ _ _ _ _ _ _ 33 _ _ _))
  · replace hf := ot_ c4 hf
    refine hp_aload_n 1 dX8_refusalOfTwos_36 rfl rfl (?_ : hp_G _ _ _ _ _ _ _ _ _ 37 _ _ _)
    replace hf := ob_ hf
    obtain ⟨x5, ex5, hf⟩ := hf
    refine fgX8_20 rfl dX8_refusalOfTwos_37 ex5 (?_ : hp_G _ _ _ _ _ _ _ _ _ 40 _ _ _)
    refine hp_iload_n 2 dX8_refusalOfTwos_40 rfl rfl (?_ : hp_G _ _ _ _ _ _ _ _ _ 41 _ _ _)
    replace hf := ob_ hf
    obtain ⟨x6, ex6, hf⟩ := hf
    refine hp_aaload dX8_refusalOfTwos_41 ex6 (?_ : hp_G _ _ _ _ _ _ _ _ _ 42 _ _ _)
    refine hp_astore (lv' := [(7, .ref x6), (6, .int r3.1), (0, .ref u0), (1, .int u1), (3, .int u3), (4, .int u4)]) dX8_refusalOfTwos_42 (Nat.le_of_ble_eq_true rfl) rfl (?_ : hp_G _ _ _ _ _ _ _ _ _ 44 _ _ _)
    refine hp_iconst (v := 0) dX8_refusalOfTwos_44 ic_0 (?_ : hp_G _ _ _ _ _ _ _ _ _ 45 _ _ _)
    refine hp_istore (lv' := [(8, .int 0), (7, .ref x6), (6, .int r3.1), (0, .ref u0), (1, .int u1), (3, .int u3), (4, .int u4)]) dX8_refusalOfTwos_45 (Nat.le_of_ble_eq_true rfl) rfl (?_ : hp_G _ _ _ _ _ _ _ _ _ 47 _ _ _)
    replace hf := ob_ hf
    obtain ⟨x17, ex17, hf⟩ := hf
    refine hp_sub [3, 5, 6, 1, 0] rfl ?_
    rcases x17 with y18 | z19
    · (try dsimp only at hf)
      refine tlX8_refusalOfTwos_47 l fu_ ex17 (fun w hw => ?_) (fun w hw => (by cases hw))
      obtain rfl := Sum.inl.inj hw
      refine hp_iconst (v := 0) dX8_refusalOfTwos_96 ic_0 (?_ : hp_G _ _ _ _ _ _ _ _ _ 97 _ _ _)
      obtain rfl := Option.some.inj hf
      exact hp_iret kr (fun z => z) rfl dX8_refusalOfTwos_97
    · (try dsimp only at hf)
      refine tlX8_refusalOfTwos_47 l fu_ ex17 (fun w hw => (by cases hw)) (fun w hw => ?_)
      obtain rfl := Sum.inr.inj hw
      obtain rfl := Option.some.inj hf
      exact kr
  · replace hf := of_ c4 hf
    refine hp_iload 0 dX8_refusalOfTwos_33 rfl (?_ : hp_G _ _ _ _ _ _ _ _ _ 35 _ _ _)
    obtain rfl := Option.some.inj hf
    exact hp_iret kr (fun z => z) rfl dX8_refusalOfTwos_35
noncomputable def jX8_refusalOfTwos_22 (g : hp_H)  (u0 : Nat) (u1 : Int32) (u3 : Int32) (u4 : Int32) (k0 : Int32) (k1 : Int32) (k2 : Int32) (k3 : Int32) (k4 : Nat) : Option (Int32 × hp_H) :=
jX8_refusalOfTwos_23 g u0 u1 u3 u4 0 k0 k1 k2 k3 k4
set_option maxRecDepth 20000 in
set_option maxHeartbeats 4000000 in
theorem tjX8_refusalOfTwos_22 (l : Launch) {g : hp_H}  {u0 : Nat} {u1 : Int32} {u3 : Int32} {u4 : Int32} {k0 : Int32} {k1 : Int32} {k2 : Int32} {k3 : Int32} {k4 : Nat} {r : (Int32 × hp_H)} (hf : jX8_refusalOfTwos_22 g u0 u1 u3 u4 k0 k1 k2 k3 k4 = some r) {Q : Option Value → hp_H → Prop} (kr : Q (some (.int r.1)) r.2) : hp_G l mX8_refusalOfTwos none 3 false Q false 0 0 22 [(0, .ref u0), (1, .int u1), (3, .int u3), (4, .int u4)] [.int k0, .int k1, .int k2, .int k3, .ref k4] g := by
  unfold jX8_refusalOfTwos_22 at hf
  refine hp_iconst (v := 0) dX8_refusalOfTwos_22 ic_0 (?_ : hp_G _ _ _ _ _ _ _ _ _ 23 _ _ _)
  exact hp_sub [0, 1, 2, 3] rfl (tjX8_refusalOfTwos_23 l hf kr)
noncomputable def fX8_refusalOfTwos (h : hp_H) (a0 : Nat) (p1 : Int32) (p2 : Int32) (p3 : Int32) (p4 : Int32) (p5 : Int32) : Option (Int32 × hp_H) :=
if p5 = 0 then
(jX8_refusalOfTwos_22 h a0 p1 p3 p4 p4 p3 p2 p1 a0)
else
(if (10 : Int32) < p4 then
(jX8_refusalOfTwos_22 h a0 p1 p3 p4 p4 p3 p2 p1 a0)
else
(jX8_refusalOfTwos_23 h a0 p1 p3 p4 1 p4 p3 p2 p1 a0))
set_option maxRecDepth 20000 in
set_option maxHeartbeats 4000000 in
theorem tX8_refusalOfTwos (l : Launch) {h : hp_H} {a0 : Nat} {p1 : Int32} {p2 : Int32} {p3 : Int32} {p4 : Int32} {p5 : Int32} {r : (Int32 × hp_H)} (hf : fX8_refusalOfTwos h a0 p1 p2 p3 p4 p5 = some r) {Q : Option Value → hp_H → Prop} (kr : Q (some (.int r.1)) r.2) : hp_G l mX8_refusalOfTwos none 3 false Q false 0 0 0 [(0, .ref a0), (1, .int p1), (2, .int p2), (3, .int p3), (4, .int p4), (5, .int p5)] [] h := by
  unfold fX8_refusalOfTwos at hf
  refine hp_aload_n 0 dX8_refusalOfTwos_0 rfl rfl (?_ : hp_G _ _ _ _ _ _ _ _ _ 1 _ _ _)
  refine hp_iload_n 1 dX8_refusalOfTwos_1 rfl rfl (?_ : hp_G _ _ _ _ _ _ _ _ _ 2 _ _ _)
  refine hp_iload_n 2 dX8_refusalOfTwos_2 rfl rfl (?_ : hp_G _ _ _ _ _ _ _ _ _ 3 _ _ _)
  refine hp_iload_n 3 dX8_refusalOfTwos_3 rfl rfl (?_ : hp_G _ _ _ _ _ _ _ _ _ 4 _ _ _)
  refine hp_iload 4 dX8_refusalOfTwos_4 rfl (?_ : hp_G _ _ _ _ _ _ _ _ _ 6 _ _ _)
  refine hp_iload 5 dX8_refusalOfTwos_6 rfl (?_ : hp_G _ _ _ _ _ _ _ _ _ 8 _ _ _)
  refine hp_if_eq (tgt := 22) dX8_refusalOfTwos_8 rfl (fun c1 => ?_) (fun c1 => (?_ : hp_G _ _ _ _ _ _ _ _ _ 11 _ _ _))
  · replace hf := ot_ c1 hf
    exact hp_sub [0, 1, 3, 4] rfl (tjX8_refusalOfTwos_22 l hf kr)
  · replace hf := of_ c1 hf
    refine hp_iload 4 dX8_refusalOfTwos_11 rfl (?_ : hp_G _ _ _ _ _ _ _ _ _ 13 _ _ _)
    refine hp_bipush (v := 10) dX8_refusalOfTwos_13 bi_10 (?_ : hp_G _ _ _ _ _ _ _ _ _ 15 _ _ _)
    refine hp_icmp_gt (tgt := 22) dX8_refusalOfTwos_15 rfl (fun c20 => ?_) (fun c20 => (?_ : hp_G _ _ _ _ _ _ _ _ _ 18 _ _ _))
    · replace hf := ot_ c20 hf
      exact hp_sub [0, 1, 3, 4] rfl (tjX8_refusalOfTwos_22 l hf kr)
    · replace hf := of_ c20 hf
      refine hp_iconst (v := 1) dX8_refusalOfTwos_18 ic_1 (?_ : hp_G _ _ _ _ _ _ _ _ _ 19 _ _ _)
      refine hp_goto (tgt := 23) dX8_refusalOfTwos_19 rfl (?_ : hp_G _ _ _ _ _ _ _ _ _ 23 _ _ _)
      exact hp_sub [0, 1, 3, 4] rfl (tjX8_refusalOfTwos_23 l hf kr)
theorem kX8_refusalOfTwos (l : Launch) {h : hp_H} {a0 : Nat} {p1 : Int32} {p2 : Int32} {p3 : Int32} {p4 : Int32} {p5 : Int32} {r : (Int32 × hp_H)} (hf : fX8_refusalOfTwos h a0 p1 p2 p3 p4 p5 = some r) : hp_Cn l yX8_refusalOfTwos mX8_refusalOfTwos 3 false 0 0 [.ref a0, .int p1, .int p2, .int p3, .int p4, .int p5] h (fun v h2 => some (.int r.1) = v ∧ r.2 = h2) :=
  hp_of (by decide) rfl (fun z => by cases z) (Nat.le_of_ble_eq_true rfl) (tX8_refusalOfTwos l hf ⟨rfl, rfl⟩)
noncomputable def jX3_take_92_21 (g : hp_H) (v0 : Nat) (v2 : Nat) (v3 : Int32) (v4 : Int32) (v5 : Int32) (u6 : Int32)  : Option ((Int32 × hp_H) ⊕ hp_H) :=
(some (u6 + 1)).bind fun x10 =>
some (.inl (x10, g))
set_option maxRecDepth 20000 in
set_option maxHeartbeats 4000000 in
theorem tjX3_take_92_21 (l : Launch) {g : hp_H} {v0 : Nat} {v2 : Nat} {v3 : Int32} {v4 : Int32} {v5 : Int32} {u6 : Int32}  {r : ((Int32 × hp_H) ⊕ hp_H)} (hf : jX3_take_92_21 g v0 v2 v3 v4 v5 u6 = some r) {Q : Option Value → hp_H → Prop} (kb : ∀ t, r = .inl t → hp_G l mX3_take none 2 false Q false 0 0 21 [(0, .ref v0), (2, .ref v2), (3, .int v3), (4, .int v4), (5, .int v5), (6, .int t.1)] [] t.2) (ke : ∀ x, r = .inr x → hp_G l mX3_take none 2 false Q false 0 0 98 [] [] x) : hp_G l mX3_take none 2 false Q false 0 0 92 [(0, .ref v0), (2, .ref v2), (3, .int v3), (4, .int v4), (5, .int v5), (6, .int u6)] [] g := by
  unfold jX3_take_92_21 at hf
  replace hf := ob_ hf
  obtain ⟨x10, ex10, hf⟩ := hf
  refine hp_iinc (v := x10) (lv' := [(6, .int x10), (0, .ref v0), (2, .ref v2), (3, .int v3), (4, .int v4), (5, .int v5)]) 5 dX3_take_92 rfl (hp_inc ic_1 ex10) (Nat.le_of_ble_eq_true rfl) rfl (?_ : hp_G _ _ _ _ _ _ _ _ _ 95 _ _ _)
  refine hp_goto (tgt := 21) dX3_take_95 rfl (?_ : hp_G _ _ _ _ _ _ _ _ _ 21 _ _ _)
  obtain rfl := Option.some.inj hf
  exact hp_sub [1, 2, 3, 4, 5, 0] rfl (kb _ rfl)
noncomputable def bX3_take_21 (v0 : Nat) (v2 : Nat) (v3 : Int32) (v4 : Int32) (v5 : Int32) (s : (Int32 × hp_H)) : Option ((Int32 × hp_H) ⊕ hp_H) :=
if v4 ≤ s.1 then
(some (.inr s.2))
else
((hg_o s.2 v2 5).bind fun o5 =>
(fX5_read s.2 v2 (v3 + (2 * s.1))).bind fun r6 =>
(hg_o s.2 v2 5).bind fun o7 =>
(fX5_read s.2 v2 ((v3 + (2 * s.1)) + 1)).bind fun r8 =>
if (v5 >>> (s.1 &&& 31)) &&& 1 = 0 then
(if r8 < 0 then
(jX3_take_92_21 s.2 v0 v2 v3 v4 v5 s.1)
else
((gi_ s.2 v0 3 3).bind fun x12 =>
if x12 ≤ r8 then
(jX3_take_92_21 s.2 v0 v2 v3 v4 v5 s.1)
else
((gq_ s.2 v0 3 0).bind fun x14 =>
(al_ s.2 x14 r8).bind fun x15 =>
(ax_ s.2 x14 r8 (x15 ||| ((1 : Int32) <<< (r6 &&& 31)))).bind fun h16 =>
jX3_take_92_21 h16 v0 v2 v3 v4 v5 s.1)))
else
(jX3_take_92_21 s.2 v0 v2 v3 v4 v5 s.1))
set_option maxRecDepth 20000 in
set_option maxHeartbeats 4000000 in
theorem tbX3_take_21 (l : Launch) {v0 : Nat} {v2 : Nat} {v3 : Int32} {v4 : Int32} {v5 : Int32}  {s : (Int32 × hp_H)} {r : ((Int32 × hp_H) ⊕ hp_H)} (hf : bX3_take_21  v0 v2 v3 v4 v5 s = some r) {Q : Option Value → hp_H → Prop} (kb : ∀ t, r = .inl t → hp_G l mX3_take none 2 false Q false 0 0 21 [(0, .ref v0), (2, .ref v2), (3, .int v3), (4, .int v4), (5, .int v5), (6, .int t.1)] [] t.2) (ke : ∀ x, r = .inr x → hp_G l mX3_take none 2 false Q false 0 0 98 [] [] x) : hp_G l mX3_take none 2 false Q false 0 0 21 [(0, .ref v0), (2, .ref v2), (3, .int v3), (4, .int v4), (5, .int v5), (6, .int s.1)] [] s.2 := by
  unfold bX3_take_21 at hf
  refine hp_iload 5 dX3_take_21 rfl (?_ : hp_G _ _ _ _ _ _ _ _ _ 23 _ _ _)
  refine hp_iload 3 dX3_take_23 rfl (?_ : hp_G _ _ _ _ _ _ _ _ _ 25 _ _ _)
  refine hp_icmp_ge (tgt := 98) dX3_take_25 rfl (fun c4 => ?_) (fun c4 => (?_ : hp_G _ _ _ _ _ _ _ _ _ 28 _ _ _))
  · replace hf := ot_ c4 hf
    obtain rfl := Option.some.inj hf
    exact hp_sub [] rfl (ke _ rfl)
  · replace hf := of_ c4 hf
    refine hp_aload_n 1 dX3_take_28 rfl rfl (?_ : hp_G _ _ _ _ _ _ _ _ _ 29 _ _ _)
    refine hp_iload_n 2 dX3_take_29 rfl rfl (?_ : hp_G _ _ _ _ _ _ _ _ _ 30 _ _ _)
    refine hp_iconst (v := 2) dX3_take_30 ic_2 (?_ : hp_G _ _ _ _ _ _ _ _ _ 31 _ _ _)
    refine hp_iload 5 dX3_take_31 rfl (?_ : hp_G _ _ _ _ _ _ _ _ _ 33 _ _ _)
    refine hp_imul dX3_take_33 (?_ : hp_G _ _ _ _ _ _ _ _ _ 34 _ _ _)
    refine hp_iadd dX3_take_34 (?_ : hp_G _ _ _ _ _ _ _ _ _ 35 _ _ _)
    replace hf := ob_ hf
    obtain ⟨o5, eo5, hf⟩ := hf
    replace hf := ob_ hf
    obtain ⟨r6, er6, hf⟩ := hf
    refine clX3_37 (as := [.int (v3 + (2 * s.1))]) (st := []) rfl (kX5_read l er6) rfl (by decide) (Nat.le_of_ble_eq_true rfl) eo5 dX3_take_35 rfl (?_ : hp_G _ _ _ _ _ _ _ _ _ 38 _ _ _)
    refine hp_istore (lv' := [(7, .int r6), (0, .ref v0), (2, .ref v2), (3, .int v3), (4, .int v4), (5, .int v5), (6, .int s.1)]) dX3_take_38 (Nat.le_of_ble_eq_true rfl) rfl (?_ : hp_G _ _ _ _ _ _ _ _ _ 40 _ _ _)
    refine hp_aload_n 2 dX3_take_40 rfl rfl (?_ : hp_G _ _ _ _ _ _ _ _ _ 41 _ _ _)
    refine hp_iload_n 3 dX3_take_41 rfl rfl (?_ : hp_G _ _ _ _ _ _ _ _ _ 42 _ _ _)
    refine hp_iconst (v := 2) dX3_take_42 ic_2 (?_ : hp_G _ _ _ _ _ _ _ _ _ 43 _ _ _)
    refine hp_iload 6 dX3_take_43 rfl (?_ : hp_G _ _ _ _ _ _ _ _ _ 45 _ _ _)
    refine hp_imul dX3_take_45 (?_ : hp_G _ _ _ _ _ _ _ _ _ 46 _ _ _)
    refine hp_iadd dX3_take_46 (?_ : hp_G _ _ _ _ _ _ _ _ _ 47 _ _ _)
    refine hp_iconst (v := 1) dX3_take_47 ic_1 (?_ : hp_G _ _ _ _ _ _ _ _ _ 48 _ _ _)
    refine hp_iadd dX3_take_48 (?_ : hp_G _ _ _ _ _ _ _ _ _ 49 _ _ _)
    replace hf := ob_ hf
    obtain ⟨o7, eo7, hf⟩ := hf
    replace hf := ob_ hf
    obtain ⟨r8, er8, hf⟩ := hf
    refine clX3_37 (as := [.int ((v3 + (2 * s.1)) + 1)]) (st := []) rfl (kX5_read l er8) rfl (by decide) (Nat.le_of_ble_eq_true rfl) eo7 dX3_take_49 rfl (?_ : hp_G _ _ _ _ _ _ _ _ _ 52 _ _ _)
    refine hp_istore (lv' := [(8, .int r8), (7, .int r6), (0, .ref v0), (2, .ref v2), (3, .int v3), (4, .int v4), (5, .int v5), (6, .int s.1)]) dX3_take_52 (Nat.le_of_ble_eq_true rfl) rfl (?_ : hp_G _ _ _ _ _ _ _ _ _ 54 _ _ _)
    refine hp_iload 6 dX3_take_54 rfl (?_ : hp_G _ _ _ _ _ _ _ _ _ 56 _ _ _)
    refine hp_iload 7 dX3_take_56 rfl (?_ : hp_G _ _ _ _ _ _ _ _ _ 58 _ _ _)
    refine hp_ishr dX3_take_58 (?_ : hp_G _ _ _ _ _ _ _ _ _ 59 _ _ _)
    refine hp_iconst (v := 1) dX3_take_59 ic_1 (?_ : hp_G _ _ _ _ _ _ _ _ _ 60 _ _ _)
    refine hp_iand dX3_take_60 (?_ : hp_G _ _ _ _ _ _ _ _ _ 61 _ _ _)
    refine hp_if_ne (tgt := 92) dX3_take_61 rfl (fun c9 => ?_) (fun c9 => (?_ : hp_G _ _ _ _ _ _ _ _ _ 64 _ _ _))
    · replace hf := of_ c9 hf
      exact hp_sub [2, 3, 4, 5, 6, 7] rfl (tjX3_take_92_21 l hf kb ke)
    · replace hf := ot_ c9 hf
      refine hp_iload 0 dX3_take_64 rfl (?_ : hp_G _ _ _ _ _ _ _ _ _ 66 _ _ _)
      refine hp_if_lt (tgt := 92) dX3_take_66 rfl (fun c11 => ?_) (fun c11 => (?_ : hp_G _ _ _ _ _ _ _ _ _ 69 _ _ _))
      · replace hf := ot_ c11 hf
        exact hp_sub [2, 3, 4, 5, 6, 7] rfl (tjX3_take_92_21 l hf kb ke)
      · replace hf := of_ c11 hf
        refine hp_iload 0 dX3_take_69 rfl (?_ : hp_G _ _ _ _ _ _ _ _ _ 71 _ _ _)
        refine hp_aload_n 2 dX3_take_71 rfl rfl (?_ : hp_G _ _ _ _ _ _ _ _ _ 72 _ _ _)
        replace hf := ob_ hf
        obtain ⟨x12, ex12, hf⟩ := hf
        refine fgX3_27 rfl dX3_take_72 ex12 (?_ : hp_G _ _ _ _ _ _ _ _ _ 75 _ _ _)
        refine hp_icmp_ge (tgt := 92) dX3_take_75 rfl (fun c13 => ?_) (fun c13 => (?_ : hp_G _ _ _ _ _ _ _ _ _ 78 _ _ _))
        · replace hf := ot_ c13 hf
          exact hp_sub [2, 3, 4, 5, 6, 7] rfl (tjX3_take_92_21 l hf kb ke)
        · replace hf := of_ c13 hf
          refine hp_aload_n 2 dX3_take_78 rfl rfl (?_ : hp_G _ _ _ _ _ _ _ _ _ 79 _ _ _)
          replace hf := ob_ hf
          obtain ⟨x14, ex14, hf⟩ := hf
          refine fgX3_9 rfl dX3_take_79 ex14 (?_ : hp_G _ _ _ _ _ _ _ _ _ 82 _ _ _)
          refine hp_iload 0 dX3_take_82 rfl (?_ : hp_G _ _ _ _ _ _ _ _ _ 84 _ _ _)
          refine hp_dup2 dX3_take_84 rfl rfl (?_ : hp_G _ _ _ _ _ _ _ _ _ 85 _ _ _)
          replace hf := ob_ hf
          obtain ⟨x15, ex15, hf⟩ := hf
          refine hp_iaload dX3_take_85 ex15 (?_ : hp_G _ _ _ _ _ _ _ _ _ 86 _ _ _)
          refine hp_iconst (v := 1) dX3_take_86 ic_1 (?_ : hp_G _ _ _ _ _ _ _ _ _ 87 _ _ _)
          refine hp_iload 1 dX3_take_87 rfl (?_ : hp_G _ _ _ _ _ _ _ _ _ 89 _ _ _)
          refine hp_ishl dX3_take_89 (?_ : hp_G _ _ _ _ _ _ _ _ _ 90 _ _ _)
          refine hp_ior dX3_take_90 (?_ : hp_G _ _ _ _ _ _ _ _ _ 91 _ _ _)
          replace hf := ob_ hf
          obtain ⟨h16, eh16, hf⟩ := hf
          refine hp_iastore dX3_take_91 eh16 (?_ : hp_G _ _ _ _ _ _ _ _ _ 92 _ _ _)
          exact hp_sub [2, 3, 4, 5, 6, 7] rfl (tjX3_take_92_21 l hf kb ke)
set_option maxRecDepth 20000 in
set_option maxHeartbeats 4000000 in
theorem tlX3_take_21 (l : Launch) {v0 : Nat} {v2 : Nat} {v3 : Int32} {v4 : Int32} {v5 : Int32}  (q : Nat) {s : (Int32 × hp_H)} {x : hp_H} (hf : it_ (bX3_take_21  v0 v2 v3 v4 v5) q s = some x) {Q : Option Value → hp_H → Prop} (ke : ∀ e, x = e → hp_G l mX3_take none 2 false Q false 0 0 98 [] [] e) : hp_G l mX3_take none 2 false Q false 0 0 21 [(0, .ref v0), (2, .ref v2), (3, .int v3), (4, .int v4), (5, .int v5), (6, .int s.1)] [] s.2 := by
  exact it_rule (f := bX3_take_21  v0 v2 v3 v4 v5) (fun s => hp_G l mX3_take none 2 false Q false 0 0 21 [(0, .ref v0), (2, .ref v2), (3, .int v3), (4, .int v4), (5, .int v5), (6, .int s.1)] [] s.2) (fun x => (∀ e, x = e → hp_G l mX3_take none 2 false Q false 0 0 98 [] [] e)) (fun s r h1 h2 h3 => tbX3_take_21 l h1 (fun t e => h2 t e) (fun e he => h3 _ he _ rfl)) q s x hf ke
noncomputable def fX3_take (h : hp_H) (a0 : Nat) (p1 : Int32) (a2 : Nat) (p3 : Int32) (p4 : Int32) (p5 : Int32) : Option hp_H :=
(pi_ h a0 3 3 (mn_ p1 6)).bind fun h1 =>
(gq_ h1 a0 3 0).bind fun x2 =>
(fJ7_fill_53178 h1 x2 0).bind fun r3 =>
(it_ (bX3_take_21  a0 a2 p3 p4 p5) fu_ (0, r3)).bind fun x17 =>
some x17
set_option maxRecDepth 20000 in
set_option maxHeartbeats 4000000 in
theorem tX3_take (l : Launch) {h : hp_H} {a0 : Nat} {p1 : Int32} {a2 : Nat} {p3 : Int32} {p4 : Int32} {p5 : Int32} {r : hp_H} (hf : fX3_take h a0 p1 a2 p3 p4 p5 = some r) {Q : Option Value → hp_H → Prop} (kr : Q (none) r) : hp_G l mX3_take none 2 false Q false 0 0 0 [(0, .ref a0), (1, .int p1), (2, .ref a2), (3, .int p3), (4, .int p4), (5, .int p5)] [] h := by
  unfold fX3_take at hf
  refine hp_aload_n 0 dX3_take_0 rfl rfl (?_ : hp_G _ _ _ _ _ _ _ _ _ 1 _ _ _)
  refine hp_iload_n 1 dX3_take_1 rfl rfl (?_ : hp_G _ _ _ _ _ _ _ _ _ 2 _ _ _)
  refine hp_bipush (v := 6) dX3_take_2 bi_6 (?_ : hp_G _ _ _ _ _ _ _ _ _ 4 _ _ _)
  refine mmX3_21 rfl (by decide) (Nat.le_of_ble_eq_true rfl) dX3_take_4 (?_ : hp_G _ _ _ _ _ _ _ _ _ 7 _ _ _)
  replace hf := ob_ hf
  obtain ⟨h1, eh1, hf⟩ := hf
  refine fpX3_27 rfl dX3_take_7 eh1 (?_ : hp_G _ _ _ _ _ _ _ _ _ 10 _ _ _)
  refine hp_aload_n 0 dX3_take_10 rfl rfl (?_ : hp_G _ _ _ _ _ _ _ _ _ 11 _ _ _)
  replace hf := ob_ hf
  obtain ⟨x2, ex2, hf⟩ := hf
  refine fgX3_9 rfl dX3_take_11 ex2 (?_ : hp_G _ _ _ _ _ _ _ _ _ 14 _ _ _)
  refine hp_iconst (v := 0) dX3_take_14 ic_0 (?_ : hp_G _ _ _ _ _ _ _ _ _ 15 _ _ _)
  replace hf := ob_ hf
  obtain ⟨r3, er3, hf⟩ := hf
  refine clX3_31 (as := [.ref x2, .int 0]) (st := []) rfl (kJ7_fill_53178 l er3) rfl (by decide) (Nat.le_of_ble_eq_true rfl) dX3_take_15 rfl (?_ : hp_G _ _ _ _ _ _ _ _ _ 18 _ _ _)
  refine hp_iconst (v := 0) dX3_take_18 ic_0 (?_ : hp_G _ _ _ _ _ _ _ _ _ 19 _ _ _)
  refine hp_istore (lv' := [(6, .int 0), (0, .ref a0), (1, .int p1), (2, .ref a2), (3, .int p3), (4, .int p4), (5, .int p5)]) dX3_take_19 (Nat.le_of_ble_eq_true rfl) rfl (?_ : hp_G _ _ _ _ _ _ _ _ _ 21 _ _ _)
  replace hf := ob_ hf
  obtain ⟨x17, ex17, hf⟩ := hf
  refine hp_sub [1, 3, 4, 5, 6, 0] rfl ?_
  refine tlX3_take_21 l fu_ ex17 (fun y hy => ?_)
  obtain rfl := hy
  obtain rfl := Option.some.inj hf
  exact hp_vret kr (fun z => z) rfl dX3_take_98
theorem kX3_take (l : Launch) {h : hp_H} {a0 : Nat} {p1 : Int32} {a2 : Nat} {p3 : Int32} {p4 : Int32} {p5 : Int32} {r : hp_H} (hf : fX3_take h a0 p1 a2 p3 p4 p5 = some r) : hp_Cn l yX3_take mX3_take 2 false 0 0 [.ref a0, .int p1, .ref a2, .int p3, .int p4, .int p5] h (fun v h2 => none = v ∧ r = h2) :=
  hp_of (by decide) rfl (fun z => by cases z) (Nat.le_of_ble_eq_true rfl) (tX3_take l hf ⟨rfl, rfl⟩)
noncomputable def fX3_mayFollow (h : hp_H) (a0 : Nat) (p1 : Int32) (p2 : Int32) : Option Int32 :=
if (p2 >>> (p1 &&& 31)) &&& 1 = 0 then
((gq_ h a0 3 0).bind fun x2 =>
(al_ h x2 p1).bind fun x3 =>
if x3 &&& (p2 ^^^ (-1)) = 0 then
(some 1)
else
(some 0))
else
(some 0)
set_option maxRecDepth 20000 in
set_option maxHeartbeats 4000000 in
theorem tX3_mayFollow (l : Launch) {h : hp_H} {a0 : Nat} {p1 : Int32} {p2 : Int32} {r : Int32} (hf : fX3_mayFollow h a0 p1 p2 = some r) {Q : Option Value → hp_H → Prop} (kr : Q (some (.int r)) h) : hp_G l mX3_mayFollow none 0 false Q false 0 0 0 [(0, .ref a0), (1, .int p1), (2, .int p2)] [] h := by
  unfold fX3_mayFollow at hf
  refine hp_iload_n 2 dX3_mayFollow_0 rfl rfl (?_ : hp_G _ _ _ _ _ _ _ _ _ 1 _ _ _)
  refine hp_iload_n 1 dX3_mayFollow_1 rfl rfl (?_ : hp_G _ _ _ _ _ _ _ _ _ 2 _ _ _)
  refine hp_ishr dX3_mayFollow_2 (?_ : hp_G _ _ _ _ _ _ _ _ _ 3 _ _ _)
  refine hp_iconst (v := 1) dX3_mayFollow_3 ic_1 (?_ : hp_G _ _ _ _ _ _ _ _ _ 4 _ _ _)
  refine hp_iand dX3_mayFollow_4 (?_ : hp_G _ _ _ _ _ _ _ _ _ 5 _ _ _)
  refine hp_if_ne (tgt := 25) dX3_mayFollow_5 rfl (fun c1 => ?_) (fun c1 => (?_ : hp_G _ _ _ _ _ _ _ _ _ 8 _ _ _))
  · replace hf := of_ c1 hf
    refine hp_iconst (v := 0) dX3_mayFollow_25 ic_0 (?_ : hp_G _ _ _ _ _ _ _ _ _ 26 _ _ _)
    obtain rfl := Option.some.inj hf
    exact hp_zret kr (fun z => z) rfl (by decide) dX3_mayFollow_26
  · replace hf := ot_ c1 hf
    refine hp_aload_n 0 dX3_mayFollow_8 rfl rfl (?_ : hp_G _ _ _ _ _ _ _ _ _ 9 _ _ _)
    replace hf := ob_ hf
    obtain ⟨x2, ex2, hf⟩ := hf
    refine fgX3_9 rfl dX3_mayFollow_9 ex2 (?_ : hp_G _ _ _ _ _ _ _ _ _ 12 _ _ _)
    refine hp_iload_n 1 dX3_mayFollow_12 rfl rfl (?_ : hp_G _ _ _ _ _ _ _ _ _ 13 _ _ _)
    replace hf := ob_ hf
    obtain ⟨x3, ex3, hf⟩ := hf
    refine hp_iaload dX3_mayFollow_13 ex3 (?_ : hp_G _ _ _ _ _ _ _ _ _ 14 _ _ _)
    refine hp_iload_n 2 dX3_mayFollow_14 rfl rfl (?_ : hp_G _ _ _ _ _ _ _ _ _ 15 _ _ _)
    refine hp_iconst (v := (-1)) dX3_mayFollow_15 ic_m1 (?_ : hp_G _ _ _ _ _ _ _ _ _ 16 _ _ _)
    refine hp_ixor dX3_mayFollow_16 (?_ : hp_G _ _ _ _ _ _ _ _ _ 17 _ _ _)
    refine hp_iand dX3_mayFollow_17 (?_ : hp_G _ _ _ _ _ _ _ _ _ 18 _ _ _)
    refine hp_if_ne (tgt := 25) dX3_mayFollow_18 rfl (fun c4 => ?_) (fun c4 => (?_ : hp_G _ _ _ _ _ _ _ _ _ 21 _ _ _))
    · replace hf := of_ c4 hf
      refine hp_iconst (v := 0) dX3_mayFollow_25 ic_0 (?_ : hp_G _ _ _ _ _ _ _ _ _ 26 _ _ _)
      obtain rfl := Option.some.inj hf
      exact hp_zret kr (fun z => z) rfl (by decide) dX3_mayFollow_26
    · replace hf := ot_ c4 hf
      refine hp_iconst (v := 1) dX3_mayFollow_21 ic_1 (?_ : hp_G _ _ _ _ _ _ _ _ _ 22 _ _ _)
      refine hp_goto (tgt := 26) dX3_mayFollow_22 rfl (?_ : hp_G _ _ _ _ _ _ _ _ _ 26 _ _ _)
      obtain rfl := Option.some.inj hf
      exact hp_zret kr (fun z => z) rfl (by decide) dX3_mayFollow_26
theorem kX3_mayFollow (l : Launch) {h : hp_H} {a0 : Nat} {p1 : Int32} {p2 : Int32} {r : Int32} (hf : fX3_mayFollow h a0 p1 p2 = some r) : hp_Cn l yX3_mayFollow mX3_mayFollow 0 false 0 0 [.ref a0, .int p1, .int p2] h (fun v h2 => some (.int r) = v ∧ h = h2) :=
  hp_of (by decide) rfl (fun z => by cases z) (Nat.le_of_ble_eq_true rfl) (tX3_mayFollow l hf ⟨rfl, rfl⟩)
noncomputable def jX3_howMany_69_33 (g : hp_H) (v0 : Nat) (v1 : Int32) (v2 : Int32) (u3 : Int32)  : Option ((Int32 × hp_H) ⊕ hp_H) :=
(some (u3 + 1)).bind fun x13 =>
some (.inl (x13, g))
set_option maxRecDepth 20000 in
set_option maxHeartbeats 4000000 in
theorem tjX3_howMany_69_33 (l : Launch) {g : hp_H} {v0 : Nat} {v1 : Int32} {v2 : Int32} {u3 : Int32}  {r : ((Int32 × hp_H) ⊕ hp_H)} (hf : jX3_howMany_69_33 g v0 v1 v2 u3 = some r) {Q : Option Value → hp_H → Prop} (kb : ∀ t, r = .inl t → hp_G l mX3_howMany none 1 false Q false 0 0 33 [(0, .ref v0), (1, .int v1), (2, .int v2), (3, .int t.1)] [] t.2) (ke : ∀ x, r = .inr x → hp_G l mX3_howMany none 1 false Q false 0 0 75 [(0, .ref v0), (1, .int v1), (2, .int v2)] [] x) : hp_G l mX3_howMany none 1 false Q false 0 0 69 [(0, .ref v0), (1, .int v1), (2, .int v2), (3, .int u3)] [] g := by
  unfold jX3_howMany_69_33 at hf
  replace hf := ob_ hf
  obtain ⟨x13, ex13, hf⟩ := hf
  refine hp_iinc (v := x13) (lv' := [(3, .int x13), (0, .ref v0), (1, .int v1), (2, .int v2)]) 3 dX3_howMany_69 rfl (hp_inc ic_1 ex13) (Nat.le_of_ble_eq_true rfl) rfl (?_ : hp_G _ _ _ _ _ _ _ _ _ 72 _ _ _)
  refine hp_goto (tgt := 33) dX3_howMany_72 rfl (?_ : hp_G _ _ _ _ _ _ _ _ _ 33 _ _ _)
  obtain rfl := Option.some.inj hf
  exact hp_sub [1, 2, 3, 0] rfl (kb _ rfl)
noncomputable def bX3_howMany_33 (v0 : Nat) (v1 : Int32) (v2 : Int32) (s : (Int32 × hp_H)) : Option ((Int32 × hp_H) ⊕ hp_H) :=
(gi_ s.2 v0 3 3).bind fun x8 =>
if x8 ≤ s.1 then
(some (.inr s.2))
else
((hg_o s.2 v0 3).bind fun o10 =>
(fX3_mayFollow s.2 v0 s.1 v2).bind fun r11 =>
if r11 = 0 then
(jX3_howMany_69_33 s.2 v0 v1 v2 s.1)
else
((gq_ s.2 v0 3 1).bind fun x14 =>
(al_ s.2 x14 (v2 ||| ((1 : Int32) <<< (s.1 &&& 31)))).bind fun x15 =>
(gq_ s.2 v0 3 1).bind fun x16 =>
(al_ s.2 x16 v2).bind fun x17 =>
(ax_ s.2 x14 (v2 ||| ((1 : Int32) <<< (s.1 &&& 31))) (x15 + x17)).bind fun h18 =>
jX3_howMany_69_33 h18 v0 v1 v2 s.1))
set_option maxRecDepth 20000 in
set_option maxHeartbeats 4000000 in
theorem tbX3_howMany_33 (l : Launch) {v0 : Nat} {v1 : Int32} {v2 : Int32}  {s : (Int32 × hp_H)} {r : ((Int32 × hp_H) ⊕ hp_H)} (hf : bX3_howMany_33  v0 v1 v2 s = some r) {Q : Option Value → hp_H → Prop} (kb : ∀ t, r = .inl t → hp_G l mX3_howMany none 1 false Q false 0 0 33 [(0, .ref v0), (1, .int v1), (2, .int v2), (3, .int t.1)] [] t.2) (ke : ∀ x, r = .inr x → hp_G l mX3_howMany none 1 false Q false 0 0 75 [(0, .ref v0), (1, .int v1), (2, .int v2)] [] x) : hp_G l mX3_howMany none 1 false Q false 0 0 33 [(0, .ref v0), (1, .int v1), (2, .int v2), (3, .int s.1)] [] s.2 := by
  unfold bX3_howMany_33 at hf
  refine hp_iload_n 3 dX3_howMany_33 rfl rfl (?_ : hp_G _ _ _ _ _ _ _ _ _ 34 _ _ _)
  refine hp_aload_n 0 dX3_howMany_34 rfl rfl (?_ : hp_G _ _ _ _ _ _ _ _ _ 35 _ _ _)
  replace hf := ob_ hf
  obtain ⟨x8, ex8, hf⟩ := hf
  refine fgX3_27 rfl dX3_howMany_35 ex8 (?_ : hp_G _ _ _ _ _ _ _ _ _ 38 _ _ _)
  refine hp_icmp_ge (tgt := 75) dX3_howMany_38 rfl (fun c9 => ?_) (fun c9 => (?_ : hp_G _ _ _ _ _ _ _ _ _ 41 _ _ _))
  · replace hf := ot_ c9 hf
    obtain rfl := Option.some.inj hf
    exact hp_sub [0, 1, 2] rfl (ke _ rfl)
  · replace hf := of_ c9 hf
    refine hp_aload_n 0 dX3_howMany_41 rfl rfl (?_ : hp_G _ _ _ _ _ _ _ _ _ 42 _ _ _)
    refine hp_iload_n 3 dX3_howMany_42 rfl rfl (?_ : hp_G _ _ _ _ _ _ _ _ _ 43 _ _ _)
    refine hp_iload_n 2 dX3_howMany_43 rfl rfl (?_ : hp_G _ _ _ _ _ _ _ _ _ 44 _ _ _)
    replace hf := ob_ hf
    obtain ⟨o10, eo10, hf⟩ := hf
    replace hf := ob_ hf
    obtain ⟨r11, er11, hf⟩ := hf
    refine clX3_43 (as := [.int s.1, .int v2]) (st := []) rfl (kX3_mayFollow l er11) rfl (by decide) (Nat.le_of_ble_eq_true rfl) eo10 dX3_howMany_44 rfl (?_ : hp_G _ _ _ _ _ _ _ _ _ 47 _ _ _)
    refine hp_if_eq (tgt := 69) dX3_howMany_47 rfl (fun c12 => ?_) (fun c12 => (?_ : hp_G _ _ _ _ _ _ _ _ _ 50 _ _ _))
    · replace hf := ot_ c12 hf
      exact hp_sub [0, 1, 2, 3] rfl (tjX3_howMany_69_33 l hf kb ke)
    · replace hf := of_ c12 hf
      refine hp_aload_n 0 dX3_howMany_50 rfl rfl (?_ : hp_G _ _ _ _ _ _ _ _ _ 51 _ _ _)
      replace hf := ob_ hf
      obtain ⟨x14, ex14, hf⟩ := hf
      refine fgX3_15 rfl dX3_howMany_51 ex14 (?_ : hp_G _ _ _ _ _ _ _ _ _ 54 _ _ _)
      refine hp_iload_n 2 dX3_howMany_54 rfl rfl (?_ : hp_G _ _ _ _ _ _ _ _ _ 55 _ _ _)
      refine hp_iconst (v := 1) dX3_howMany_55 ic_1 (?_ : hp_G _ _ _ _ _ _ _ _ _ 56 _ _ _)
      refine hp_iload_n 3 dX3_howMany_56 rfl rfl (?_ : hp_G _ _ _ _ _ _ _ _ _ 57 _ _ _)
      refine hp_ishl dX3_howMany_57 (?_ : hp_G _ _ _ _ _ _ _ _ _ 58 _ _ _)
      refine hp_ior dX3_howMany_58 (?_ : hp_G _ _ _ _ _ _ _ _ _ 59 _ _ _)
      refine hp_dup2 dX3_howMany_59 rfl rfl (?_ : hp_G _ _ _ _ _ _ _ _ _ 60 _ _ _)
      replace hf := ob_ hf
      obtain ⟨x15, ex15, hf⟩ := hf
      refine hp_iaload dX3_howMany_60 ex15 (?_ : hp_G _ _ _ _ _ _ _ _ _ 61 _ _ _)
      refine hp_aload_n 0 dX3_howMany_61 rfl rfl (?_ : hp_G _ _ _ _ _ _ _ _ _ 62 _ _ _)
      replace hf := ob_ hf
      obtain ⟨x16, ex16, hf⟩ := hf
      refine fgX3_15 rfl dX3_howMany_62 ex16 (?_ : hp_G _ _ _ _ _ _ _ _ _ 65 _ _ _)
      refine hp_iload_n 2 dX3_howMany_65 rfl rfl (?_ : hp_G _ _ _ _ _ _ _ _ _ 66 _ _ _)
      replace hf := ob_ hf
      obtain ⟨x17, ex17, hf⟩ := hf
      refine hp_iaload dX3_howMany_66 ex17 (?_ : hp_G _ _ _ _ _ _ _ _ _ 67 _ _ _)
      refine hp_iadd dX3_howMany_67 (?_ : hp_G _ _ _ _ _ _ _ _ _ 68 _ _ _)
      replace hf := ob_ hf
      obtain ⟨h18, eh18, hf⟩ := hf
      refine hp_iastore dX3_howMany_68 eh18 (?_ : hp_G _ _ _ _ _ _ _ _ _ 69 _ _ _)
      exact hp_sub [0, 1, 2, 3] rfl (tjX3_howMany_69_33 l hf kb ke)
set_option maxRecDepth 20000 in
set_option maxHeartbeats 4000000 in
theorem tlX3_howMany_33 (l : Launch) {v0 : Nat} {v1 : Int32} {v2 : Int32}  (q : Nat) {s : (Int32 × hp_H)} {x : hp_H} (hf : it_ (bX3_howMany_33  v0 v1 v2) q s = some x) {Q : Option Value → hp_H → Prop} (ke : ∀ e, x = e → hp_G l mX3_howMany none 1 false Q false 0 0 75 [(0, .ref v0), (1, .int v1), (2, .int v2)] [] e) : hp_G l mX3_howMany none 1 false Q false 0 0 33 [(0, .ref v0), (1, .int v1), (2, .int v2), (3, .int s.1)] [] s.2 := by
  exact it_rule (f := bX3_howMany_33  v0 v1 v2) (fun s => hp_G l mX3_howMany none 1 false Q false 0 0 33 [(0, .ref v0), (1, .int v1), (2, .int v2), (3, .int s.1)] [] s.2) (fun x => (∀ e, x = e → hp_G l mX3_howMany none 1 false Q false 0 0 75 [(0, .ref v0), (1, .int v1), (2, .int v2)] [] e)) (fun s r h1 h2 h3 => tbX3_howMany_33 l h1 (fun t e => h2 t e) (fun e he => h3 _ he _ rfl)) q s x hf ke
noncomputable def bX3_howMany_26 (v0 : Nat) (v1 : Int32) (s : (Int32 × hp_H)) : Option ((Int32 × hp_H) ⊕ hp_H) :=
if v1 ≤ s.1 then
(some (.inr s.2))
else
((it_ (bX3_howMany_33  v0 v1 s.1) fu_ (0, s.2)).bind fun x19 =>
(some (s.1 + 1)).bind fun x20 =>
some (.inl (x20, x19)))
set_option maxRecDepth 20000 in
set_option maxHeartbeats 4000000 in
theorem tbX3_howMany_26 (l : Launch) {v0 : Nat} {v1 : Int32}  {s : (Int32 × hp_H)} {r : ((Int32 × hp_H) ⊕ hp_H)} (hf : bX3_howMany_26  v0 v1 s = some r) {Q : Option Value → hp_H → Prop} (kb : ∀ t, r = .inl t → hp_G l mX3_howMany none 1 false Q false 0 0 26 [(0, .ref v0), (1, .int v1), (2, .int t.1)] [] t.2) (ke : ∀ x, r = .inr x → hp_G l mX3_howMany none 1 false Q false 0 0 81 [(0, .ref v0), (1, .int v1)] [] x) : hp_G l mX3_howMany none 1 false Q false 0 0 26 [(0, .ref v0), (1, .int v1), (2, .int s.1)] [] s.2 := by
  unfold bX3_howMany_26 at hf
  refine hp_iload_n 2 dX3_howMany_26 rfl rfl (?_ : hp_G _ _ _ _ _ _ _ _ _ 27 _ _ _)
  refine hp_iload_n 1 dX3_howMany_27 rfl rfl (?_ : hp_G _ _ _ _ _ _ _ _ _ 28 _ _ _)
  refine hp_icmp_ge (tgt := 81) dX3_howMany_28 rfl (fun c7 => ?_) (fun c7 => (?_ : hp_G _ _ _ _ _ _ _ _ _ 31 _ _ _))
  · replace hf := ot_ c7 hf
    obtain rfl := Option.some.inj hf
    exact hp_sub [0, 1] rfl (ke _ rfl)
  · replace hf := of_ c7 hf
    refine hp_iconst (v := 0) dX3_howMany_31 ic_0 (?_ : hp_G _ _ _ _ _ _ _ _ _ 32 _ _ _)
    refine hp_istore_n (lv' := [(3, .int 0), (0, .ref v0), (1, .int v1), (2, .int s.1)]) dX3_howMany_32 rfl (Nat.le_of_ble_eq_true rfl) rfl (?_ : hp_G _ _ _ _ _ _ _ _ _ 33 _ _ _)
    replace hf := ob_ hf
    obtain ⟨x19, ex19, hf⟩ := hf
    refine hp_sub [1, 2, 3, 0] rfl ?_
    refine tlX3_howMany_33 l fu_ ex19 (fun y hy => ?_)
    obtain rfl := hy
    replace hf := ob_ hf
    obtain ⟨x20, ex20, hf⟩ := hf
    refine hp_iinc (v := x20) (lv' := [(2, .int x20), (0, .ref v0), (1, .int v1)]) 2 dX3_howMany_75 rfl (hp_inc ic_1 ex20) (Nat.le_of_ble_eq_true rfl) rfl (?_ : hp_G _ _ _ _ _ _ _ _ _ 78 _ _ _)
    refine hp_goto (tgt := 26) dX3_howMany_78 rfl (?_ : hp_G _ _ _ _ _ _ _ _ _ 26 _ _ _)
    obtain rfl := Option.some.inj hf
    exact hp_sub [1, 2, 0] rfl (kb _ rfl)
set_option maxRecDepth 20000 in
set_option maxHeartbeats 4000000 in
theorem tlX3_howMany_26 (l : Launch) {v0 : Nat} {v1 : Int32}  (q : Nat) {s : (Int32 × hp_H)} {x : hp_H} (hf : it_ (bX3_howMany_26  v0 v1) q s = some x) {Q : Option Value → hp_H → Prop} (ke : ∀ e, x = e → hp_G l mX3_howMany none 1 false Q false 0 0 81 [(0, .ref v0), (1, .int v1)] [] e) : hp_G l mX3_howMany none 1 false Q false 0 0 26 [(0, .ref v0), (1, .int v1), (2, .int s.1)] [] s.2 := by
  exact it_rule (f := bX3_howMany_26  v0 v1) (fun s => hp_G l mX3_howMany none 1 false Q false 0 0 26 [(0, .ref v0), (1, .int v1), (2, .int s.1)] [] s.2) (fun x => (∀ e, x = e → hp_G l mX3_howMany none 1 false Q false 0 0 81 [(0, .ref v0), (1, .int v1)] [] e)) (fun s r h1 h2 h3 => tbX3_howMany_26 l h1 (fun t e => h2 t e) (fun e he => h3 _ he _ rfl)) q s x hf ke
noncomputable def fX3_howMany (h : hp_H) (a0 : Nat) : Option (Int32 × hp_H) :=
(gi_ h a0 3 3).bind fun x1 =>
(some (((1 : Int32) <<< (x1 &&& 31)) - 1)).bind fun x2 =>
(gq_ h a0 3 1).bind fun x3 =>
(fJ7_fill_53178 h x3 0).bind fun r4 =>
(gq_ r4 a0 3 1).bind fun x5 =>
(ax_ r4 x5 0 1).bind fun h6 =>
(it_ (bX3_howMany_26  a0 x2) fu_ (0, h6)).bind fun x21 =>
(gq_ x21 a0 3 1).bind fun x22 =>
(al_ x21 x22 x2).bind fun x23 =>
some (x23, x21)
set_option maxRecDepth 20000 in
set_option maxHeartbeats 4000000 in
theorem tX3_howMany (l : Launch) {h : hp_H} {a0 : Nat} {r : (Int32 × hp_H)} (hf : fX3_howMany h a0 = some r) {Q : Option Value → hp_H → Prop} (kr : Q (some (.int r.1)) r.2) : hp_G l mX3_howMany none 1 false Q false 0 0 0 [(0, .ref a0)] [] h := by
  unfold fX3_howMany at hf
  refine hp_iconst (v := 1) dX3_howMany_0 ic_1 (?_ : hp_G _ _ _ _ _ _ _ _ _ 1 _ _ _)
  refine hp_aload_n 0 dX3_howMany_1 rfl rfl (?_ : hp_G _ _ _ _ _ _ _ _ _ 2 _ _ _)
  replace hf := ob_ hf
  obtain ⟨x1, ex1, hf⟩ := hf
  refine fgX3_27 rfl dX3_howMany_2 ex1 (?_ : hp_G _ _ _ _ _ _ _ _ _ 5 _ _ _)
  refine hp_ishl dX3_howMany_5 (?_ : hp_G _ _ _ _ _ _ _ _ _ 6 _ _ _)
  refine hp_iconst (v := 1) dX3_howMany_6 ic_1 (?_ : hp_G _ _ _ _ _ _ _ _ _ 7 _ _ _)
  refine hp_isub dX3_howMany_7 (?_ : hp_G _ _ _ _ _ _ _ _ _ 8 _ _ _)
  replace hf := ob_ hf
  obtain ⟨x2, ex2, hf⟩ := hf
  refine hp_nmi ex2 ?_
  refine hp_istore_n (lv' := [(1, .int x2), (0, .ref a0)]) dX3_howMany_8 rfl (Nat.le_of_ble_eq_true rfl) rfl (?_ : hp_G _ _ _ _ _ _ _ _ _ 9 _ _ _)
  refine hp_aload_n 1 dX3_howMany_9 rfl rfl (?_ : hp_G _ _ _ _ _ _ _ _ _ 10 _ _ _)
  replace hf := ob_ hf
  obtain ⟨x3, ex3, hf⟩ := hf
  refine fgX3_15 rfl dX3_howMany_10 ex3 (?_ : hp_G _ _ _ _ _ _ _ _ _ 13 _ _ _)
  refine hp_iconst (v := 0) dX3_howMany_13 ic_0 (?_ : hp_G _ _ _ _ _ _ _ _ _ 14 _ _ _)
  replace hf := ob_ hf
  obtain ⟨r4, er4, hf⟩ := hf
  refine clX3_31 (as := [.ref x3, .int 0]) (st := []) rfl (kJ7_fill_53178 l er4) rfl (by decide) (Nat.le_of_ble_eq_true rfl) dX3_howMany_14 rfl (?_ : hp_G _ _ _ _ _ _ _ _ _ 17 _ _ _)
  refine hp_aload_n 1 dX3_howMany_17 rfl rfl (?_ : hp_G _ _ _ _ _ _ _ _ _ 18 _ _ _)
  replace hf := ob_ hf
  obtain ⟨x5, ex5, hf⟩ := hf
  refine fgX3_15 rfl dX3_howMany_18 ex5 (?_ : hp_G _ _ _ _ _ _ _ _ _ 21 _ _ _)
  refine hp_iconst (v := 0) dX3_howMany_21 ic_0 (?_ : hp_G _ _ _ _ _ _ _ _ _ 22 _ _ _)
  refine hp_iconst (v := 1) dX3_howMany_22 ic_1 (?_ : hp_G _ _ _ _ _ _ _ _ _ 23 _ _ _)
  replace hf := ob_ hf
  obtain ⟨h6, eh6, hf⟩ := hf
  refine hp_iastore dX3_howMany_23 eh6 (?_ : hp_G _ _ _ _ _ _ _ _ _ 24 _ _ _)
  refine hp_iconst (v := 0) dX3_howMany_24 ic_0 (?_ : hp_G _ _ _ _ _ _ _ _ _ 25 _ _ _)
  refine hp_istore_n (lv' := [(2, .int 0), (1, .int x2), (0, .ref a0)]) dX3_howMany_25 rfl (Nat.le_of_ble_eq_true rfl) rfl (?_ : hp_G _ _ _ _ _ _ _ _ _ 26 _ _ _)
  replace hf := ob_ hf
  obtain ⟨x21, ex21, hf⟩ := hf
  refine hp_sub [2, 1, 0] rfl ?_
  refine tlX3_howMany_26 l fu_ ex21 (fun y hy => ?_)
  obtain rfl := hy
  refine hp_aload_n 0 dX3_howMany_81 rfl rfl (?_ : hp_G _ _ _ _ _ _ _ _ _ 82 _ _ _)
  replace hf := ob_ hf
  obtain ⟨x22, ex22, hf⟩ := hf
  refine fgX3_15 rfl dX3_howMany_82 ex22 (?_ : hp_G _ _ _ _ _ _ _ _ _ 85 _ _ _)
  refine hp_iload_n 1 dX3_howMany_85 rfl rfl (?_ : hp_G _ _ _ _ _ _ _ _ _ 86 _ _ _)
  replace hf := ob_ hf
  obtain ⟨x23, ex23, hf⟩ := hf
  refine hp_iaload dX3_howMany_86 ex23 (?_ : hp_G _ _ _ _ _ _ _ _ _ 87 _ _ _)
  obtain rfl := Option.some.inj hf
  exact hp_iret kr (fun z => z) rfl dX3_howMany_87
theorem kX3_howMany (l : Launch) {h : hp_H} {a0 : Nat} {r : (Int32 × hp_H)} (hf : fX3_howMany h a0 = some r) : hp_Cn l yX3_howMany mX3_howMany 1 false 0 0 [.ref a0] h (fun v h2 => some (.int r.1) = v ∧ r.2 = h2) :=
  hp_of (by decide) rfl (fun z => by cases z) (Nat.le_of_ble_eq_true rfl) (tX3_howMany l hf ⟨rfl, rfl⟩)
noncomputable def bX3_lineUp_14 (h : hp_H) (v0 : Nat) (v1 : Int32) (v2 : Int32) (s : Int32) : Option (Int32 ⊕ Int32) :=
(gi_ h v0 3 3).bind fun x3 =>
if x3 ≤ s then
(some (.inr s))
else
((hg_o h v0 3).bind fun o5 =>
(fX3_mayFollow h v0 s v1).bind fun r6 =>
if r6 = 0 then
((some (s + 1)).bind fun x8 =>
some (.inl x8))
else
(some (.inr s)))
set_option maxRecDepth 20000 in
set_option maxHeartbeats 4000000 in
theorem tbX3_lineUp_14 (l : Launch) {h : hp_H} {v0 : Nat} {v1 : Int32} {v2 : Int32}  {s : Int32} {r : (Int32 ⊕ Int32)} (hf : bX3_lineUp_14 h  v0 v1 v2 s = some r) {Q : Option Value → hp_H → Prop} (kb : ∀ t, r = .inl t → hp_G l mX3_lineUp none 1 false Q false 0 0 14 [(0, .ref v0), (1, .int v1), (2, .int v2), (3, .int t)] [] h) (ke : ∀ x, r = .inr x → hp_G l mX3_lineUp none 1 false Q false 0 0 37 [(0, .ref v0), (1, .int v1), (2, .int v2), (3, .int x)] [] h) : hp_G l mX3_lineUp none 1 false Q false 0 0 14 [(0, .ref v0), (1, .int v1), (2, .int v2), (3, .int s)] [] h := by
  unfold bX3_lineUp_14 at hf
  refine hp_iload_n 3 dX3_lineUp_14 rfl rfl (?_ : hp_G _ _ _ _ _ _ _ _ _ 15 _ _ _)
  refine hp_aload_n 0 dX3_lineUp_15 rfl rfl (?_ : hp_G _ _ _ _ _ _ _ _ _ 16 _ _ _)
  replace hf := ob_ hf
  obtain ⟨x3, ex3, hf⟩ := hf
  refine fgX3_27 rfl dX3_lineUp_16 ex3 (?_ : hp_G _ _ _ _ _ _ _ _ _ 19 _ _ _)
  refine hp_icmp_ge (tgt := 37) dX3_lineUp_19 rfl (fun c4 => ?_) (fun c4 => (?_ : hp_G _ _ _ _ _ _ _ _ _ 22 _ _ _))
  · replace hf := ot_ c4 hf
    obtain rfl := Option.some.inj hf
    exact hp_sub [0, 1, 2, 3] rfl (ke _ rfl)
  · replace hf := of_ c4 hf
    refine hp_aload_n 0 dX3_lineUp_22 rfl rfl (?_ : hp_G _ _ _ _ _ _ _ _ _ 23 _ _ _)
    refine hp_iload_n 3 dX3_lineUp_23 rfl rfl (?_ : hp_G _ _ _ _ _ _ _ _ _ 24 _ _ _)
    refine hp_iload_n 1 dX3_lineUp_24 rfl rfl (?_ : hp_G _ _ _ _ _ _ _ _ _ 25 _ _ _)
    replace hf := ob_ hf
    obtain ⟨o5, eo5, hf⟩ := hf
    replace hf := ob_ hf
    obtain ⟨r6, er6, hf⟩ := hf
    refine clX3_43 (as := [.int s, .int v1]) (st := []) rfl (kX3_mayFollow l er6) rfl (by decide) (Nat.le_of_ble_eq_true rfl) eo5 dX3_lineUp_25 rfl (?_ : hp_G _ _ _ _ _ _ _ _ _ 28 _ _ _)
    refine hp_if_ne (tgt := 37) dX3_lineUp_28 rfl (fun c7 => ?_) (fun c7 => (?_ : hp_G _ _ _ _ _ _ _ _ _ 31 _ _ _))
    · replace hf := of_ c7 hf
      obtain rfl := Option.some.inj hf
      exact hp_sub [0, 1, 2, 3] rfl (ke _ rfl)
    · replace hf := ot_ c7 hf
      replace hf := ob_ hf
      obtain ⟨x8, ex8, hf⟩ := hf
      refine hp_iinc (v := x8) (lv' := [(3, .int x8), (0, .ref v0), (1, .int v1), (2, .int v2)]) 3 dX3_lineUp_31 rfl (hp_inc ic_1 ex8) (Nat.le_of_ble_eq_true rfl) rfl (?_ : hp_G _ _ _ _ _ _ _ _ _ 34 _ _ _)
      refine hp_goto (tgt := 14) dX3_lineUp_34 rfl (?_ : hp_G _ _ _ _ _ _ _ _ _ 14 _ _ _)
      obtain rfl := Option.some.inj hf
      exact hp_sub [1, 2, 3, 0] rfl (kb _ rfl)
set_option maxRecDepth 20000 in
set_option maxHeartbeats 4000000 in
theorem tlX3_lineUp_14 (l : Launch) {h : hp_H} {v0 : Nat} {v1 : Int32} {v2 : Int32}  (q : Nat) {s : Int32} {x : Int32} (hf : it_ (bX3_lineUp_14 h  v0 v1 v2) q s = some x) {Q : Option Value → hp_H → Prop} (ke : ∀ e, x = e → hp_G l mX3_lineUp none 1 false Q false 0 0 37 [(0, .ref v0), (1, .int v1), (2, .int v2), (3, .int e)] [] h) : hp_G l mX3_lineUp none 1 false Q false 0 0 14 [(0, .ref v0), (1, .int v1), (2, .int v2), (3, .int s)] [] h := by
  exact it_rule (f := bX3_lineUp_14 h  v0 v1 v2) (fun s => hp_G l mX3_lineUp none 1 false Q false 0 0 14 [(0, .ref v0), (1, .int v1), (2, .int v2), (3, .int s)] [] h) (fun x => (∀ e, x = e → hp_G l mX3_lineUp none 1 false Q false 0 0 37 [(0, .ref v0), (1, .int v1), (2, .int v2), (3, .int e)] [] h)) (fun s r h1 h2 h3 => tbX3_lineUp_14 l h1 (fun t e => h2 t e) (fun e he => h3 _ he _ rfl)) q s x hf ke
noncomputable def bX3_lineUp_4 (v0 : Nat) (s : (Int32 × Int32 × hp_H)) : Option ((Int32 × Int32 × hp_H) ⊕ (hp_H ⊕ (Int32 × hp_H))) :=
(gi_ s.2.2 v0 3 3).bind fun x1 =>
if x1 ≤ s.2.1 then
(some (.inr (.inl s.2.2)))
else
((it_ (bX3_lineUp_14 s.2.2 v0 s.1 s.2.1) fu_ 0).bind fun x9 =>
(gi_ s.2.2 v0 3 3).bind fun x10 =>
if x9 = x10 then
(some (.inr (.inr (0, s.2.2))))
else
((gq_ s.2.2 v0 3 2).bind fun x12 =>
(ax_ s.2.2 x12 s.2.1 x9).bind fun h13 =>
(some (s.1 ||| ((1 : Int32) <<< (x9 &&& 31)))).bind fun x14 =>
(some (s.2.1 + 1)).bind fun x15 =>
some (.inl (x14, x15, h13))))
set_option maxRecDepth 20000 in
set_option maxHeartbeats 4000000 in
theorem tbX3_lineUp_4 (l : Launch) {v0 : Nat}  {s : (Int32 × Int32 × hp_H)} {r : ((Int32 × Int32 × hp_H) ⊕ (hp_H ⊕ (Int32 × hp_H)))} (hf : bX3_lineUp_4  v0 s = some r) {Q : Option Value → hp_H → Prop} (kb : ∀ t, r = .inl t → hp_G l mX3_lineUp none 1 false Q false 0 0 4 [(0, .ref v0), (1, .int t.1), (2, .int t.2.1)] [] t.2.2) (ke : ∀ x, r = .inr (.inl x) → hp_G l mX3_lineUp none 1 false Q false 0 0 66 [] [] x) (kr : ∀ z, r = .inr (.inr z) → Q (some (.int z.1)) z.2) : hp_G l mX3_lineUp none 1 false Q false 0 0 4 [(0, .ref v0), (1, .int s.1), (2, .int s.2.1)] [] s.2.2 := by
  unfold bX3_lineUp_4 at hf
  refine hp_iload_n 2 dX3_lineUp_4 rfl rfl (?_ : hp_G _ _ _ _ _ _ _ _ _ 5 _ _ _)
  refine hp_aload_n 0 dX3_lineUp_5 rfl rfl (?_ : hp_G _ _ _ _ _ _ _ _ _ 6 _ _ _)
  replace hf := ob_ hf
  obtain ⟨x1, ex1, hf⟩ := hf
  refine fgX3_27 rfl dX3_lineUp_6 ex1 (?_ : hp_G _ _ _ _ _ _ _ _ _ 9 _ _ _)
  refine hp_icmp_ge (tgt := 66) dX3_lineUp_9 rfl (fun c2 => ?_) (fun c2 => (?_ : hp_G _ _ _ _ _ _ _ _ _ 12 _ _ _))
  · replace hf := ot_ c2 hf
    obtain rfl := Option.some.inj hf
    exact hp_sub [] rfl (ke _ rfl)
  · replace hf := of_ c2 hf
    refine hp_iconst (v := 0) dX3_lineUp_12 ic_0 (?_ : hp_G _ _ _ _ _ _ _ _ _ 13 _ _ _)
    refine hp_istore_n (lv' := [(3, .int 0), (0, .ref v0), (1, .int s.1), (2, .int s.2.1)]) dX3_lineUp_13 rfl (Nat.le_of_ble_eq_true rfl) rfl (?_ : hp_G _ _ _ _ _ _ _ _ _ 14 _ _ _)
    replace hf := ob_ hf
    obtain ⟨x9, ex9, hf⟩ := hf
    refine hp_sub [1, 2, 3, 0] rfl ?_
    refine tlX3_lineUp_14 l fu_ ex9 (fun y hy => ?_)
    obtain rfl := hy
    refine hp_iload_n 3 dX3_lineUp_37 rfl rfl (?_ : hp_G _ _ _ _ _ _ _ _ _ 38 _ _ _)
    refine hp_aload_n 0 dX3_lineUp_38 rfl rfl (?_ : hp_G _ _ _ _ _ _ _ _ _ 39 _ _ _)
    replace hf := ob_ hf
    obtain ⟨x10, ex10, hf⟩ := hf
    refine fgX3_27 rfl dX3_lineUp_39 ex10 (?_ : hp_G _ _ _ _ _ _ _ _ _ 42 _ _ _)
    refine hp_icmp_ne (tgt := 47) dX3_lineUp_42 rfl (fun c11 => ?_) (fun c11 => (?_ : hp_G _ _ _ _ _ _ _ _ _ 45 _ _ _))
    · replace hf := of_ c11 hf
      refine hp_aload_n 0 dX3_lineUp_47 rfl rfl (?_ : hp_G _ _ _ _ _ _ _ _ _ 48 _ _ _)
      replace hf := ob_ hf
      obtain ⟨x12, ex12, hf⟩ := hf
      refine fgX3_18 rfl dX3_lineUp_48 ex12 (?_ : hp_G _ _ _ _ _ _ _ _ _ 51 _ _ _)
      refine hp_iload_n 2 dX3_lineUp_51 rfl rfl (?_ : hp_G _ _ _ _ _ _ _ _ _ 52 _ _ _)
      refine hp_iload_n 3 dX3_lineUp_52 rfl rfl (?_ : hp_G _ _ _ _ _ _ _ _ _ 53 _ _ _)
      replace hf := ob_ hf
      obtain ⟨h13, eh13, hf⟩ := hf
      refine hp_iastore dX3_lineUp_53 eh13 (?_ : hp_G _ _ _ _ _ _ _ _ _ 54 _ _ _)
      refine hp_iload_n 1 dX3_lineUp_54 rfl rfl (?_ : hp_G _ _ _ _ _ _ _ _ _ 55 _ _ _)
      refine hp_iconst (v := 1) dX3_lineUp_55 ic_1 (?_ : hp_G _ _ _ _ _ _ _ _ _ 56 _ _ _)
      refine hp_iload_n 3 dX3_lineUp_56 rfl rfl (?_ : hp_G _ _ _ _ _ _ _ _ _ 57 _ _ _)
      refine hp_ishl dX3_lineUp_57 (?_ : hp_G _ _ _ _ _ _ _ _ _ 58 _ _ _)
      refine hp_ior dX3_lineUp_58 (?_ : hp_G _ _ _ _ _ _ _ _ _ 59 _ _ _)
      replace hf := ob_ hf
      obtain ⟨x14, ex14, hf⟩ := hf
      refine hp_nmi ex14 ?_
      refine hp_istore_n (lv' := [(1, .int x14), (0, .ref v0), (2, .int s.2.1), (3, .int x9)]) dX3_lineUp_59 rfl (Nat.le_of_ble_eq_true rfl) rfl (?_ : hp_G _ _ _ _ _ _ _ _ _ 60 _ _ _)
      replace hf := ob_ hf
      obtain ⟨x15, ex15, hf⟩ := hf
      refine hp_iinc (v := x15) (lv' := [(2, .int x15), (1, .int x14), (0, .ref v0), (3, .int x9)]) 2 dX3_lineUp_60 rfl (hp_inc ic_1 ex15) (Nat.le_of_ble_eq_true rfl) rfl (?_ : hp_G _ _ _ _ _ _ _ _ _ 63 _ _ _)
      refine hp_goto (tgt := 4) dX3_lineUp_63 rfl (?_ : hp_G _ _ _ _ _ _ _ _ _ 4 _ _ _)
      obtain rfl := Option.some.inj hf
      exact hp_sub [2, 1, 0] rfl (kb _ rfl)
    · replace hf := ot_ c11 hf
      refine hp_iconst (v := 0) dX3_lineUp_45 ic_0 (?_ : hp_G _ _ _ _ _ _ _ _ _ 46 _ _ _)
      obtain rfl := Option.some.inj hf
      exact hp_zret (kr _ rfl) (fun z => z) rfl (by decide) dX3_lineUp_46
set_option maxRecDepth 20000 in
set_option maxHeartbeats 4000000 in
theorem tlX3_lineUp_4 (l : Launch) {v0 : Nat}  (q : Nat) {s : (Int32 × Int32 × hp_H)} {x : (hp_H ⊕ (Int32 × hp_H))} (hf : it_ (bX3_lineUp_4  v0) q s = some x) {Q : Option Value → hp_H → Prop} (ke : ∀ e, x = .inl e → hp_G l mX3_lineUp none 1 false Q false 0 0 66 [] [] e) (kr : ∀ z, x = .inr z → Q (some (.int z.1)) z.2) : hp_G l mX3_lineUp none 1 false Q false 0 0 4 [(0, .ref v0), (1, .int s.1), (2, .int s.2.1)] [] s.2.2 := by
  exact it_rule (f := bX3_lineUp_4  v0) (fun s => hp_G l mX3_lineUp none 1 false Q false 0 0 4 [(0, .ref v0), (1, .int s.1), (2, .int s.2.1)] [] s.2.2) (fun x => (∀ e, x = .inl e → hp_G l mX3_lineUp none 1 false Q false 0 0 66 [] [] e) ∧ (∀ z, x = .inr z → Q (some (.int z.1)) z.2)) (fun s r h1 h2 h3 => tbX3_lineUp_4 l h1 (fun t e => h2 t e) (fun e he => (h3 _ he).1 _ rfl) (fun z he => (h3 _ he).2 _ rfl)) q s x hf ⟨ke, kr⟩
noncomputable def fX3_lineUp (h : hp_H) (a0 : Nat) : Option (Int32 × hp_H) :=
(it_ (bX3_lineUp_4  a0) fu_ (0, 0, h)).bind fun x16 =>
match x16 with
| .inl y17 => (some (1, y17))
| .inr z18 => some z18
set_option maxRecDepth 20000 in
set_option maxHeartbeats 4000000 in
theorem tX3_lineUp (l : Launch) {h : hp_H} {a0 : Nat} {r : (Int32 × hp_H)} (hf : fX3_lineUp h a0 = some r) {Q : Option Value → hp_H → Prop} (kr : Q (some (.int r.1)) r.2) : hp_G l mX3_lineUp none 1 false Q false 0 0 0 [(0, .ref a0)] [] h := by
  unfold fX3_lineUp at hf
  refine hp_iconst (v := 0) dX3_lineUp_0 ic_0 (?_ : hp_G _ _ _ _ _ _ _ _ _ 1 _ _ _)
  refine hp_istore_n (lv' := [(1, .int 0), (0, .ref a0)]) dX3_lineUp_1 rfl (Nat.le_of_ble_eq_true rfl) rfl (?_ : hp_G _ _ _ _ _ _ _ _ _ 2 _ _ _)
  refine hp_iconst (v := 0) dX3_lineUp_2 ic_0 (?_ : hp_G _ _ _ _ _ _ _ _ _ 3 _ _ _)
  refine hp_istore_n (lv' := [(2, .int 0), (1, .int 0), (0, .ref a0)]) dX3_lineUp_3 rfl (Nat.le_of_ble_eq_true rfl) rfl (?_ : hp_G _ _ _ _ _ _ _ _ _ 4 _ _ _)
  replace hf := ob_ hf
  obtain ⟨x16, ex16, hf⟩ := hf
  refine hp_sub [2, 1, 0] rfl ?_
  rcases x16 with y17 | z18
  · (try dsimp only at hf)
    refine tlX3_lineUp_4 l fu_ ex16 (fun w hw => ?_) (fun w hw => (by cases hw))
    obtain rfl := Sum.inl.inj hw
    refine hp_iconst (v := 1) dX3_lineUp_66 ic_1 (?_ : hp_G _ _ _ _ _ _ _ _ _ 67 _ _ _)
    obtain rfl := Option.some.inj hf
    exact hp_zret kr (fun z => z) rfl (by decide) dX3_lineUp_67
  · (try dsimp only at hf)
    refine tlX3_lineUp_4 l fu_ ex16 (fun w hw => (by cases hw)) (fun w hw => ?_)
    obtain rfl := Sum.inr.inj hw
    obtain rfl := Option.some.inj hf
    exact kr
theorem kX3_lineUp (l : Launch) {h : hp_H} {a0 : Nat} {r : (Int32 × hp_H)} (hf : fX3_lineUp h a0 = some r) : hp_Cn l yX3_lineUp mX3_lineUp 1 false 0 0 [.ref a0] h (fun v h2 => some (.int r.1) = v ∧ r.2 = h2) :=
  hp_of (by decide) rfl (fun z => by cases z) (Nat.le_of_ble_eq_true rfl) (tX3_lineUp l hf ⟨rfl, rfl⟩)
noncomputable def fX3_placeOfFirst (h : hp_H) (a0 : Nat) (p1 : Int32) : Option (Int32 × hp_H) :=
if p1 < 0 then
(some ((-9), h))
else
((gi_ h a0 3 3).bind fun x2 =>
if x2 ≤ p1 then
(some ((-9), h))
else
((hg_o h a0 3).bind fun o4 =>
(fX3_lineUp h a0).bind fun r5 =>
if r5.1 = 0 then
(some ((-9), r5.2))
else
((gq_ r5.2 a0 3 2).bind fun x7 =>
(al_ r5.2 x7 p1).bind fun x8 =>
some (x8, r5.2))))
set_option maxRecDepth 20000 in
set_option maxHeartbeats 4000000 in
theorem tX3_placeOfFirst (l : Launch) {h : hp_H} {a0 : Nat} {p1 : Int32} {r : (Int32 × hp_H)} (hf : fX3_placeOfFirst h a0 p1 = some r) {Q : Option Value → hp_H → Prop} (kr : Q (some (.int r.1)) r.2) : hp_G l mX3_placeOfFirst none 2 false Q false 0 0 0 [(0, .ref a0), (1, .int p1)] [] h := by
  unfold fX3_placeOfFirst at hf
  refine hp_iload_n 1 dX3_placeOfFirst_0 rfl rfl (?_ : hp_G _ _ _ _ _ _ _ _ _ 1 _ _ _)
  refine hp_if_lt (tgt := 28) dX3_placeOfFirst_1 rfl (fun c1 => ?_) (fun c1 => (?_ : hp_G _ _ _ _ _ _ _ _ _ 4 _ _ _))
  · replace hf := ot_ c1 hf
    refine hp_bipush (v := (-9)) dX3_placeOfFirst_28 bi_m9 (?_ : hp_G _ _ _ _ _ _ _ _ _ 30 _ _ _)
    obtain rfl := Option.some.inj hf
    exact hp_iret kr (fun z => z) rfl dX3_placeOfFirst_30
  · replace hf := of_ c1 hf
    refine hp_iload_n 1 dX3_placeOfFirst_4 rfl rfl (?_ : hp_G _ _ _ _ _ _ _ _ _ 5 _ _ _)
    refine hp_aload_n 0 dX3_placeOfFirst_5 rfl rfl (?_ : hp_G _ _ _ _ _ _ _ _ _ 6 _ _ _)
    replace hf := ob_ hf
    obtain ⟨x2, ex2, hf⟩ := hf
    refine fgX3_27 rfl dX3_placeOfFirst_6 ex2 (?_ : hp_G _ _ _ _ _ _ _ _ _ 9 _ _ _)
    refine hp_icmp_ge (tgt := 28) dX3_placeOfFirst_9 rfl (fun c3 => ?_) (fun c3 => (?_ : hp_G _ _ _ _ _ _ _ _ _ 12 _ _ _))
    · replace hf := ot_ c3 hf
      refine hp_bipush (v := (-9)) dX3_placeOfFirst_28 bi_m9 (?_ : hp_G _ _ _ _ _ _ _ _ _ 30 _ _ _)
      obtain rfl := Option.some.inj hf
      exact hp_iret kr (fun z => z) rfl dX3_placeOfFirst_30
    · replace hf := of_ c3 hf
      refine hp_aload_n 0 dX3_placeOfFirst_12 rfl rfl (?_ : hp_G _ _ _ _ _ _ _ _ _ 13 _ _ _)
      replace hf := ob_ hf
      obtain ⟨o4, eo4, hf⟩ := hf
      replace hf := ob_ hf
      obtain ⟨r5, er5, hf⟩ := hf
      refine clX3_47 (as := []) (st := []) rfl (kX3_lineUp l er5) rfl (by decide) (Nat.le_of_ble_eq_true rfl) eo4 dX3_placeOfFirst_13 rfl (?_ : hp_G _ _ _ _ _ _ _ _ _ 16 _ _ _)
      refine hp_if_eq (tgt := 28) dX3_placeOfFirst_16 rfl (fun c6 => ?_) (fun c6 => (?_ : hp_G _ _ _ _ _ _ _ _ _ 19 _ _ _))
      · replace hf := ot_ c6 hf
        refine hp_bipush (v := (-9)) dX3_placeOfFirst_28 bi_m9 (?_ : hp_G _ _ _ _ _ _ _ _ _ 30 _ _ _)
        obtain rfl := Option.some.inj hf
        exact hp_iret kr (fun z => z) rfl dX3_placeOfFirst_30
      · replace hf := of_ c6 hf
        refine hp_aload_n 0 dX3_placeOfFirst_19 rfl rfl (?_ : hp_G _ _ _ _ _ _ _ _ _ 20 _ _ _)
        replace hf := ob_ hf
        obtain ⟨x7, ex7, hf⟩ := hf
        refine fgX3_18 rfl dX3_placeOfFirst_20 ex7 (?_ : hp_G _ _ _ _ _ _ _ _ _ 23 _ _ _)
        refine hp_iload_n 1 dX3_placeOfFirst_23 rfl rfl (?_ : hp_G _ _ _ _ _ _ _ _ _ 24 _ _ _)
        replace hf := ob_ hf
        obtain ⟨x8, ex8, hf⟩ := hf
        refine hp_iaload dX3_placeOfFirst_24 ex8 (?_ : hp_G _ _ _ _ _ _ _ _ _ 25 _ _ _)
        refine hp_goto (tgt := 30) dX3_placeOfFirst_25 rfl (?_ : hp_G _ _ _ _ _ _ _ _ _ 30 _ _ _)
        obtain rfl := Option.some.inj hf
        exact hp_iret kr (fun z => z) rfl dX3_placeOfFirst_30
theorem kX3_placeOfFirst (l : Launch) {h : hp_H} {a0 : Nat} {p1 : Int32} {r : (Int32 × hp_H)} (hf : fX3_placeOfFirst h a0 p1 = some r) : hp_Cn l yX3_placeOfFirst mX3_placeOfFirst 2 false 0 0 [.ref a0, .int p1] h (fun v h2 => some (.int r.1) = v ∧ r.2 = h2) :=
  hp_of (by decide) rfl (fun z => by cases z) (Nat.le_of_ble_eq_true rfl) (tX3_placeOfFirst l hf ⟨rfl, rfl⟩)
