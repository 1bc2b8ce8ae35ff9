noncomputable def jX3_fewestLeftOut_53_13 (g : hp_H) (v0 : Nat) (v1 : Int32) (v2 : Nat) (v3 : Int32) (v4 : Int32) (v5 : Int32) (u6 : Int32)  : Option ((Int32 × hp_H) ⊕ (hp_H ⊕ (Int32 × hp_H))) :=
(some (u6 + 1)).bind fun x5 =>
some (.inl (x5, g))
set_option maxRecDepth 20000 in
set_option maxHeartbeats 4000000 in
theorem tjX3_fewestLeftOut_53_13 (l : Launch) {g : hp_H} {v0 : Nat} {v1 : Int32} {v2 : Nat} {v3 : Int32} {v4 : Int32} {v5 : Int32} {u6 : Int32}  {r : ((Int32 × hp_H) ⊕ (hp_H ⊕ (Int32 × hp_H)))} (hf : jX3_fewestLeftOut_53_13 g v0 v1 v2 v3 v4 v5 u6 = some r) {Q : Option Value → hp_H → Prop} (kb : ∀ t, r = .inl t → hp_G l mX3_fewestLeftOut none 3 false Q false 0 0 13 [(0, .ref v0), (1, .int v1), (2, .ref v2), (3, .int v3), (4, .int v4), (5, .int v5), (6, .int t.1)] [] t.2) (ke : ∀ x, r = .inr (.inl x) → hp_G l mX3_fewestLeftOut none 3 false Q false 0 0 59 [(0, .ref v0), (1, .int v1), (2, .ref v2), (3, .int v3), (4, .int v4), (5, .int v5)] [] x) (kr : ∀ z, r = .inr (.inr z) → Q (some (.int z.1)) z.2) : hp_G l mX3_fewestLeftOut none 3 false Q false 0 0 53 [(0, .ref v0), (1, .int v1), (2, .ref v2), (3, .int v3), (4, .int v4), (5, .int v5), (6, .int u6)] [] g := by
  unfold jX3_fewestLeftOut_53_13 at hf
  replace hf := ob_ hf
  obtain ⟨x5, ex5, hf⟩ := hf
  refine hp_iinc (v := x5) (lv' := [(6, .int x5), (0, .ref v0), (1, .int v1), (2, .ref v2), (3, .int v3), (4, .int v4), (5, .int v5)]) 6 dX3_fewestLeftOut_53 rfl (hp_inc ic_1 ex5) (Nat.le_of_ble_eq_true rfl) rfl (?_ : hp_G _ _ _ _ _ _ _ _ _ 56 _ _ _)
  refine hp_goto (tgt := 13) dX3_fewestLeftOut_56 rfl (?_ : hp_G _ _ _ _ _ _ _ _ _ 13 _ _ _)
  obtain rfl := Option.some.inj hf
  exact hp_sub [1, 2, 3, 4, 5, 6, 0] rfl (kb _ rfl)
noncomputable def bX3_fewestLeftOut_13 (v0 : Nat) (v1 : Int32) (v2 : Nat) (v3 : Int32) (v4 : Int32) (v5 : Int32) (s : (Int32 × hp_H)) : Option ((Int32 × hp_H) ⊕ (hp_H ⊕ (Int32 × hp_H))) :=
if (1 : Int32) <<< (v4 &&& 31) ≤ s.1 then
(some (.inr (.inl s.2)))
else
((fJ6_bitCount_0f7a4 s.2 s.1).bind fun r3 =>
if r3 = v5 then
((hg_o s.2 v0 3).bind fun o6 =>
(fX3_take s.2 v0 v1 v2 v3 v4 s.1).bind fun r7 =>
(hg_o r7 v0 3).bind fun o8 =>
(fX3_lineUp r7 v0).bind fun r9 =>
if r9.1 = 0 then
(jX3_fewestLeftOut_53_13 r9.2 v0 v1 v2 v3 v4 v5 s.1)
else
(some (.inr (.inr (s.1, r9.2)))))
else
(jX3_fewestLeftOut_53_13 s.2 v0 v1 v2 v3 v4 v5 s.1))
set_option maxRecDepth 20000 in
set_option maxHeartbeats 4000000 in
theorem tbX3_fewestLeftOut_13 (l : Launch) {v0 : Nat} {v1 : Int32} {v2 : Nat} {v3 : Int32} {v4 : Int32} {v5 : Int32}  {s : (Int32 × hp_H)} {r : ((Int32 × hp_H) ⊕ (hp_H ⊕ (Int32 × hp_H)))} (hf : bX3_fewestLeftOut_13  v0 v1 v2 v3 v4 v5 s = some r) {Q : Option Value → hp_H → Prop} (kb : ∀ t, r = .inl t → hp_G l mX3_fewestLeftOut none 3 false Q false 0 0 13 [(0, .ref v0), (1, .int v1), (2, .ref v2), (3, .int v3), (4, .int v4), (5, .int v5), (6, .int t.1)] [] t.2) (ke : ∀ x, r = .inr (.inl x) → hp_G l mX3_fewestLeftOut none 3 false Q false 0 0 59 [(0, .ref v0), (1, .int v1), (2, .ref v2), (3, .int v3), (4, .int v4), (5, .int v5)] [] x) (kr : ∀ z, r = .inr (.inr z) → Q (some (.int z.1)) z.2) : hp_G l mX3_fewestLeftOut none 3 false Q false 0 0 13 [(0, .ref v0), (1, .int v1), (2, .ref v2), (3, .int v3), (4, .int v4), (5, .int v5), (6, .int s.1)] [] s.2 := by
  unfold bX3_fewestLeftOut_13 at hf
  refine hp_iload 6 dX3_fewestLeftOut_13 rfl (?_ : hp_G _ _ _ _ _ _ _ _ _ 15 _ _ _)
  refine hp_iconst (v := 1) dX3_fewestLeftOut_15 ic_1 (?_ : hp_G _ _ _ _ _ _ _ _ _ 16 _ _ _)
  refine hp_iload 4 dX3_fewestLeftOut_16 rfl (?_ : hp_G _ _ _ _ _ _ _ _ _ 18 _ _ _)
  refine hp_ishl dX3_fewestLeftOut_18 (?_ : hp_G _ _ _ _ _ _ _ _ _ 19 _ _ _)
  refine hp_icmp_ge (tgt := 59) dX3_fewestLeftOut_19 rfl (fun c2 => ?_) (fun c2 => (?_ : hp_G _ _ _ _ _ _ _ _ _ 22 _ _ _))
  · replace hf := ot_ c2 hf
    obtain rfl := Option.some.inj hf
    exact hp_sub [0, 1, 2, 3, 4, 5] rfl (ke _ rfl)
  · replace hf := of_ c2 hf
    refine hp_iload 6 dX3_fewestLeftOut_22 rfl (?_ : hp_G _ _ _ _ _ _ _ _ _ 24 _ _ _)
    replace hf := ob_ hf
    obtain ⟨r3, er3, hf⟩ := hf
    refine clX3_51 (as := [.int s.1]) (st := []) rfl (kJ6_bitCount_0f7a4 l er3) rfl (by decide) (Nat.le_of_ble_eq_true rfl) dX3_fewestLeftOut_24 rfl (?_ : hp_G _ _ _ _ _ _ _ _ _ 27 _ _ _)
    refine hp_iload 5 dX3_fewestLeftOut_27 rfl (?_ : hp_G _ _ _ _ _ _ _ _ _ 29 _ _ _)
    refine hp_icmp_ne (tgt := 53) dX3_fewestLeftOut_29 rfl (fun c4 => ?_) (fun c4 => (?_ : hp_G _ _ _ _ _ _ _ _ _ 32 _ _ _))
    · replace hf := of_ c4 hf
      exact hp_sub [0, 1, 2, 3, 4, 5, 6] rfl (tjX3_fewestLeftOut_53_13 l hf kb ke kr)
    · replace hf := ot_ c4 hf
      refine hp_aload_n 0 dX3_fewestLeftOut_32 rfl rfl (?_ : hp_G _ _ _ _ _ _ _ _ _ 33 _ _ _)
      refine hp_iload_n 1 dX3_fewestLeftOut_33 rfl rfl (?_ : hp_G _ _ _ _ _ _ _ _ _ 34 _ _ _)
      refine hp_aload_n 2 dX3_fewestLeftOut_34 rfl rfl (?_ : hp_G _ _ _ _ _ _ _ _ _ 35 _ _ _)
      refine hp_iload_n 3 dX3_fewestLeftOut_35 rfl rfl (?_ : hp_G _ _ _ _ _ _ _ _ _ 36 _ _ _)
      refine hp_iload 4 dX3_fewestLeftOut_36 rfl (?_ : hp_G _ _ _ _ _ _ _ _ _ 38 _ _ _)
      refine hp_iload 6 dX3_fewestLeftOut_38 rfl (?_ : hp_G _ _ _ _ _ _ _ _ _ 40 _ _ _)
      replace hf := ob_ hf
      obtain ⟨o6, eo6, hf⟩ := hf
      replace hf := ob_ hf
      obtain ⟨r7, er7, hf⟩ := hf
      refine clX3_56 (as := [.int v1, .ref v2, .int v3, .int v4, .int s.1]) (st := []) rfl (kX3_take l er7) rfl (by decide) (Nat.le_of_ble_eq_true rfl) eo6 dX3_fewestLeftOut_40 rfl (?_ : hp_G _ _ _ _ _ _ _ _ _ 43 _ _ _)
      refine hp_aload_n 0 dX3_fewestLeftOut_43 rfl rfl (?_ : hp_G _ _ _ _ _ _ _ _ _ 44 _ _ _)
      replace hf := ob_ hf
      obtain ⟨o8, eo8, hf⟩ := hf
      replace hf := ob_ hf
      obtain ⟨r9, er9, hf⟩ := hf
      refine clX3_47 (as := []) (st := []) rfl (kX3_lineUp l er9) rfl (by decide) (Nat.le_of_ble_eq_true rfl) eo8 dX3_fewestLeftOut_44 rfl (?_ : hp_G _ _ _ _ _ _ _ _ _ 47 _ _ _)
      refine hp_if_eq (tgt := 53) dX3_fewestLeftOut_47 rfl (fun c10 => ?_) (fun c10 => (?_ : hp_G _ _ _ _ _ _ _ _ _ 50 _ _ _))
      · replace hf := ot_ c10 hf
        exact hp_sub [0, 1, 2, 3, 4, 5, 6] rfl (tjX3_fewestLeftOut_53_13 l hf kb ke kr)
      · replace hf := of_ c10 hf
        refine hp_iload 6 dX3_fewestLeftOut_50 rfl (?_ : hp_G _ _ _ _ _ _ _ _ _ 52 _ _ _)
        obtain rfl := Option.some.inj hf
        exact hp_iret (kr _ rfl) (fun z => z) rfl dX3_fewestLeftOut_52
set_option maxRecDepth 20000 in
set_option maxHeartbeats 4000000 in
theorem tlX3_fewestLeftOut_13 (l : Launch) {v0 : Nat} {v1 : Int32} {v2 : Nat} {v3 : Int32} {v4 : Int32} {v5 : Int32}  (q : Nat) {s : (Int32 × hp_H)} {x : (hp_H ⊕ (Int32 × hp_H))} (hf : it_ (bX3_fewestLeftOut_13  v0 v1 v2 v3 v4 v5) q s = some x) {Q : Option Value → hp_H → Prop} (ke : ∀ e, x = .inl e → hp_G l mX3_fewestLeftOut none 3 false Q false 0 0 59 [(0, .ref v0), (1, .int v1), (2, .ref v2), (3, .int v3), (4, .int v4), (5, .int v5)] [] e) (kr : ∀ z, x = .inr z → Q (some (.int z.1)) z.2) : hp_G l mX3_fewestLeftOut none 3 false Q false 0 0 13 [(0, .ref v0), (1, .int v1), (2, .ref v2), (3, .int v3), (4, .int v4), (5, .int v5), (6, .int s.1)] [] s.2 := by
  exact it_rule (f := bX3_fewestLeftOut_13  v0 v1 v2 v3 v4 v5) (fun s => hp_G l mX3_fewestLeftOut none 3 false Q false 0 0 13 [(0, .ref v0), (1, .int v1), (2, .ref v2), (3, .int v3), (4, .int v4), (5, .int v5), (6, .int s.1)] [] s.2) (fun x => (∀ e, x = .inl e → hp_G l mX3_fewestLeftOut none 3 false Q false 0 0 59 [(0, .ref v0), (1, .int v1), (2, .ref v2), (3, .int v3), (4, .int v4), (5, .int v5)] [] e) ∧ (∀ z, x = .inr z → Q (some (.int z.1)) z.2)) (fun s r h1 h2 h3 => tbX3_fewestLeftOut_13 l h1 (fun t e => h2 t e) (fun e he => (h3 _ he).1 _ rfl) (fun z he => (h3 _ he).2 _ rfl)) q s x hf ⟨ke, kr⟩
noncomputable def bX3_fewestLeftOut_3 (v0 : Nat) (v1 : Int32) (v2 : Nat) (v3 : Int32) (v4 : Int32) (s : (Int32 × hp_H)) : Option ((Int32 × hp_H) ⊕ (hp_H ⊕ (Int32 × hp_H))) :=
if v4 < s.1 then
(some (.inr (.inl s.2)))
else
((it_ (bX3_fewestLeftOut_13  v0 v1 v2 v3 v4 s.1) fu_ (0, s.2)).bind fun x11 =>
match x11 with
| .inl y12 => ((some (s.1 + 1)).bind fun x14 =>
some (.inl (x14, y12)))
| .inr z13 => some (.inr (.inr z13)))
set_option maxRecDepth 20000 in
set_option maxHeartbeats 4000000 in
theorem tbX3_fewestLeftOut_3 (l : Launch) {v0 : Nat} {v1 : Int32} {v2 : Nat} {v3 : Int32} {v4 : Int32}  {s : (Int32 × hp_H)} {r : ((Int32 × hp_H) ⊕ (hp_H ⊕ (Int32 × hp_H)))} (hf : bX3_fewestLeftOut_3  v0 v1 v2 v3 v4 s = some r) {Q : Option Value → hp_H → Prop} (kb : ∀ t, r = .inl t → hp_G l mX3_fewestLeftOut none 3 false Q false 0 0 3 [(0, .ref v0), (1, .int v1), (2, .ref v2), (3, .int v3), (4, .int v4), (5, .int t.1)] [] t.2) (ke : ∀ x, r = .inr (.inl x) → hp_G l mX3_fewestLeftOut none 3 false Q false 0 0 65 [] [] x) (kr : ∀ z, r = .inr (.inr z) → Q (some (.int z.1)) z.2) : hp_G l mX3_fewestLeftOut none 3 false Q false 0 0 3 [(0, .ref v0), (1, .int v1), (2, .ref v2), (3, .int v3), (4, .int v4), (5, .int s.1)] [] s.2 := by
  unfold bX3_fewestLeftOut_3 at hf
  refine hp_iload 5 dX3_fewestLeftOut_3 rfl (?_ : hp_G _ _ _ _ _ _ _ _ _ 5 _ _ _)
  refine hp_iload 4 dX3_fewestLeftOut_5 rfl (?_ : hp_G _ _ _ _ _ _ _ _ _ 7 _ _ _)
  refine hp_icmp_gt (tgt := 65) dX3_fewestLeftOut_7 rfl (fun c1 => ?_) (fun c1 => (?_ : hp_G _ _ _ _ _ _ _ _ _ 10 _ _ _))
  · replace hf := ot_ c1 hf
    obtain rfl := Option.some.inj hf
    exact hp_sub [] rfl (ke _ rfl)
  · replace hf := of_ c1 hf
    refine hp_iconst (v := 0) dX3_fewestLeftOut_10 ic_0 (?_ : hp_G _ _ _ _ _ _ _ _ _ 11 _ _ _)
    refine hp_istore (lv' := [(6, .int 0), (0, .ref v0), (1, .int v1), (2, .ref v2), (3, .int v3), (4, .int v4), (5, .int s.1)]) dX3_fewestLeftOut_11 (Nat.le_of_ble_eq_true rfl) rfl (?_ : hp_G _ _ _ _ _ _ _ _ _ 13 _ _ _)
    replace hf := ob_ hf
    obtain ⟨x11, ex11, hf⟩ := hf
    refine hp_sub [1, 2, 3, 4, 5, 6, 0] rfl ?_
    rcases x11 with y12 | z13
    · (try dsimp only at hf)
      refine tlX3_fewestLeftOut_13 l fu_ ex11 (fun w hw => ?_) (fun w hw => (by cases hw))
      obtain rfl := Sum.inl.inj hw
      replace hf := ob_ hf
      obtain ⟨x14, ex14, hf⟩ := hf
      refine hp_iinc (v := x14) (lv' := [(5, .int x14), (0, .ref v0), (1, .int v1), (2, .ref v2), (3, .int v3), (4, .int v4)]) 5 dX3_fewestLeftOut_59 rfl (hp_inc ic_1 ex14) (Nat.le_of_ble_eq_true rfl) rfl (?_ : hp_G _ _ _ _ _ _ _ _ _ 62 _ _ _)
      refine hp_goto (tgt := 3) dX3_fewestLeftOut_62 rfl (?_ : hp_G _ _ _ _ _ _ _ _ _ 3 _ _ _)
      obtain rfl := Option.some.inj hf
      exact hp_sub [1, 2, 3, 4, 5, 0] rfl (kb _ rfl)
    · (try dsimp only at hf)
      refine tlX3_fewestLeftOut_13 l fu_ ex11 (fun w hw => (by cases hw)) (fun w hw => ?_)
      obtain rfl := Sum.inr.inj hw
      obtain rfl := Option.some.inj hf
      exact kr _ rfl
set_option maxRecDepth 20000 in
set_option maxHeartbeats 4000000 in
theorem tlX3_fewestLeftOut_3 (l : Launch) {v0 : Nat} {v1 : Int32} {v2 : Nat} {v3 : Int32} {v4 : Int32}  (q : Nat) {s : (Int32 × hp_H)} {x : (hp_H ⊕ (Int32 × hp_H))} (hf : it_ (bX3_fewestLeftOut_3  v0 v1 v2 v3 v4) q s = some x) {Q : Option Value → hp_H → Prop} (ke : ∀ e, x = .inl e → hp_G l mX3_fewestLeftOut none 3 false Q false 0 0 65 [] [] e) (kr : ∀ z, x = .inr z → Q (some (.int z.1)) z.2) : hp_G l mX3_fewestLeftOut none 3 false Q false 0 0 3 [(0, .ref v0), (1, .int v1), (2, .ref v2), (3, .int v3), (4, .int v4), (5, .int s.1)] [] s.2 := by
  exact it_rule (f := bX3_fewestLeftOut_3  v0 v1 v2 v3 v4) (fun s => hp_G l mX3_fewestLeftOut none 3 false Q false 0 0 3 [(0, .ref v0), (1, .int v1), (2, .ref v2), (3, .int v3), (4, .int v4), (5, .int s.1)] [] s.2) (fun x => (∀ e, x = .inl e → hp_G l mX3_fewestLeftOut none 3 false Q false 0 0 65 [] [] e) ∧ (∀ z, x = .inr z → Q (some (.int z.1)) z.2)) (fun s r h1 h2 h3 => tbX3_fewestLeftOut_3 l h1 (fun t e => h2 t e) (fun e he => (h3 _ he).1 _ rfl) (fun z he => (h3 _ he).2 _ rfl)) q s x hf ⟨ke, kr⟩
noncomputable def fX3_fewestLeftOut (h : hp_H) (a0 : Nat) (p1 : Int32) (a2 : Nat) (p3 : Int32) (p4 : Int32) : Option (Int32 × hp_H) :=
(it_ (bX3_fewestLeftOut_3  a0 p1 a2 p3 p4) fu_ (0, h)).bind fun x15 =>
match x15 with
| .inl y16 => (some (0, y16))
| .inr z17 => some z17
set_option maxRecDepth 20000 in
set_option maxHeartbeats 4000000 in
theorem tX3_fewestLeftOut (l : Launch) {h : hp_H} {a0 : Nat} {p1 : Int32} {a2 : Nat} {p3 : Int32} {p4 : Int32} {r : (Int32 × hp_H)} (hf : fX3_fewestLeftOut h a0 p1 a2 p3 p4 = some r) {Q : Option Value → hp_H → Prop} (kr : Q (some (.int r.1)) r.2) : hp_G l mX3_fewestLeftOut none 3 false Q false 0 0 0 [(0, .ref a0), (1, .int p1), (2, .ref a2), (3, .int p3), (4, .int p4)] [] h := by
  unfold fX3_fewestLeftOut at hf
  refine hp_iconst (v := 0) dX3_fewestLeftOut_0 ic_0 (?_ : hp_G _ _ _ _ _ _ _ _ _ 1 _ _ _)
  refine hp_istore (lv' := [(5, .int 0), (0, .ref a0), (1, .int p1), (2, .ref a2), (3, .int p3), (4, .int p4)]) dX3_fewestLeftOut_1 (Nat.le_of_ble_eq_true rfl) rfl (?_ : hp_G _ _ _ _ _ _ _ _ _ 3 _ _ _)
  replace hf := ob_ hf
  obtain ⟨x15, ex15, hf⟩ := hf
  refine hp_sub [1, 2, 3, 4, 5, 0] rfl ?_
  rcases x15 with y16 | z17
  · (try dsimp only at hf)
    refine tlX3_fewestLeftOut_3 l fu_ ex15 (fun w hw => ?_) (fun w hw => (by cases hw))
    obtain rfl := Sum.inl.inj hw
    refine hp_iconst (v := 0) dX3_fewestLeftOut_65 ic_0 (?_ : hp_G _ _ _ _ _ _ _ _ _ 66 _ _ _)
    obtain rfl := Option.some.inj hf
    exact hp_iret kr (fun z => z) rfl dX3_fewestLeftOut_66
  · (try dsimp only at hf)
    refine tlX3_fewestLeftOut_3 l fu_ ex15 (fun w hw => (by cases hw)) (fun w hw => ?_)
    obtain rfl := Sum.inr.inj hw
    obtain rfl := Option.some.inj hf
    exact kr
theorem kX3_fewestLeftOut (l : Launch) {h : hp_H} {a0 : Nat} {p1 : Int32} {a2 : Nat} {p3 : Int32} {p4 : Int32} {r : (Int32 × hp_H)} (hf : fX3_fewestLeftOut h a0 p1 a2 p3 p4 = some r) : hp_Cn l yX3_fewestLeftOut mX3_fewestLeftOut 3 false 0 0 [.ref a0, .int p1, .ref a2, .int p3, .int p4] h (fun v h2 => some (.int r.1) = v ∧ r.2 = h2) :=
  hp_of (by decide) rfl (fun z => by cases z) (Nat.le_of_ble_eq_true rfl) (tX3_fewestLeftOut l hf ⟨rfl, rfl⟩)
noncomputable def fX8_drops (h : hp_H) (a0 : Nat) (p1 : Int32) (p2 : Int32) (p3 : Int32) (p4 : Int32) : Option (Int32 × hp_H) :=
(hg_o h a0 7).bind fun o1 =>
(fX8_refusalOfTwos h a0 p1 p2 p3 p4 1).bind fun r2 =>
if r2.1 = 0 then
((gq_ r2.2 a0 7 5).bind fun x4 =>
(gq_ r2.2 a0 7 0).bind fun x5 =>
(gi_ r2.2 x5 6 1).bind fun x6 =>
(gq_ r2.2 a0 7 1).bind fun x7 =>
(ql_ r2.2 x7 p1).bind fun x8 =>
(hg_o r2.2 x4 3).bind fun o9 =>
(fX3_fewestLeftOut r2.2 x4 x6 x8 p3 p4).bind fun r10 =>
some (r10.1, r10.2))
else
(some (r2.1, r2.2))
set_option maxRecDepth 20000 in
set_option maxHeartbeats 4000000 in
theorem tX8_drops (l : Launch) {h : hp_H} {a0 : Nat} {p1 : Int32} {p2 : Int32} {p3 : Int32} {p4 : Int32} {r : (Int32 × hp_H)} (hf : fX8_drops h a0 p1 p2 p3 p4 = some r) {Q : Option Value → hp_H → Prop} (kr : Q (some (.int r.1)) r.2) : hp_G l mX8_drops none 4 false Q false 0 0 0 [(0, .ref a0), (1, .int p1), (2, .int p2), (3, .int p3), (4, .int p4)] [] h := by
  unfold fX8_drops at hf
  refine hp_aload_n 0 dX8_drops_0 rfl rfl (?_ : hp_G _ _ _ _ _ _ _ _ _ 1 _ _ _)
  refine hp_iload_n 1 dX8_drops_1 rfl rfl (?_ : hp_G _ _ _ _ _ _ _ _ _ 2 _ _ _)
  refine hp_iload_n 2 dX8_drops_2 rfl rfl (?_ : hp_G _ _ _ _ _ _ _ _ _ 3 _ _ _)
  refine hp_iload_n 3 dX8_drops_3 rfl rfl (?_ : hp_G _ _ _ _ _ _ _ _ _ 4 _ _ _)
  refine hp_iload 4 dX8_drops_4 rfl (?_ : hp_G _ _ _ _ _ _ _ _ _ 6 _ _ _)
  refine hp_iconst (v := 1) dX8_drops_6 ic_1 (?_ : hp_G _ _ _ _ _ _ _ _ _ 7 _ _ _)
  replace hf := ob_ hf
  obtain ⟨o1, eo1, hf⟩ := hf
  replace hf := ob_ hf
  obtain ⟨r2, er2, hf⟩ := hf
  refine clX8_177 (as := [.int p1, .int p2, .int p3, .int p4, .int 1]) (st := []) rfl (kX8_refusalOfTwos l er2) rfl (by decide) (Nat.le_of_ble_eq_true rfl) eo1 dX8_drops_7 rfl (?_ : hp_G _ _ _ _ _ _ _ _ _ 10 _ _ _)
  refine hp_istore (lv' := [(5, .int r2.1), (0, .ref a0), (1, .int p1), (2, .int p2), (3, .int p3), (4, .int p4)]) dX8_drops_10 (Nat.le_of_ble_eq_true rfl) rfl (?_ : hp_G _ _ _ _ _ _ _ _ _ 12 _ _ _)
  refine hp_iload 0 dX8_drops_12 rfl (?_ : hp_G _ _ _ _ _ _ _ _ _ 14 _ _ _)
  refine hp_if_eq (tgt := 22) dX8_drops_14 rfl (fun c3 => ?_) (fun c3 => (?_ : hp_G _ _ _ _ _ _ _ _ _ 17 _ _ _))
  · replace hf := ot_ c3 hf
    refine hp_aload_n 1 dX8_drops_22 rfl rfl (?_ : hp_G _ _ _ _ _ _ _ _ _ 23 _ _ _)
    replace hf := ob_ hf
    obtain ⟨x4, ex4, hf⟩ := hf
    refine fgX8_48 rfl dX8_drops_23 ex4 (?_ : hp_G _ _ _ _ _ _ _ _ _ 26 _ _ _)
    refine hp_aload_n 1 dX8_drops_26 rfl rfl (?_ : hp_G _ _ _ _ _ _ _ _ _ 27 _ _ _)
    replace hf := ob_ hf
    obtain ⟨x5, ex5, hf⟩ := hf
    refine fgX8_12 rfl dX8_drops_27 ex5 (?_ : hp_G _ _ _ _ _ _ _ _ _ 30 _ _ _)
    replace hf := ob_ hf
    obtain ⟨x6, ex6, hf⟩ := hf
    refine fgX8_92 rfl dX8_drops_30 ex6 (?_ : hp_G _ _ _ _ _ _ _ _ _ 33 _ _ _)
    refine hp_aload_n 1 dX8_drops_33 rfl rfl (?_ : hp_G _ _ _ _ _ _ _ _ _ 34 _ _ _)
    replace hf := ob_ hf
    obtain ⟨x7, ex7, hf⟩ := hf
    refine fgX8_20 rfl dX8_drops_34 ex7 (?_ : hp_G _ _ _ _ _ _ _ _ _ 37 _ _ _)
    refine hp_iload_n 2 dX8_drops_37 rfl rfl (?_ : hp_G _ _ _ _ _ _ _ _ _ 38 _ _ _)
    replace hf := ob_ hf
    obtain ⟨x8, ex8, hf⟩ := hf
    refine hp_aaload dX8_drops_38 ex8 (?_ : hp_G _ _ _ _ _ _ _ _ _ 39 _ _ _)
    refine hp_iload_n 4 dX8_drops_39 rfl rfl (?_ : hp_G _ _ _ _ _ _ _ _ _ 40 _ _ _)
    refine hp_iload 5 dX8_drops_40 rfl (?_ : hp_G _ _ _ _ _ _ _ _ _ 42 _ _ _)
    replace hf := ob_ hf
    obtain ⟨o9, eo9, hf⟩ := hf
    replace hf := ob_ hf
    obtain ⟨r10, er10, hf⟩ := hf
    refine clX8_190 (as := [.int x6, .ref x8, .int p3, .int p4]) (st := []) rfl (kX3_fewestLeftOut l er10) rfl (by decide) (Nat.le_of_ble_eq_true rfl) eo9 dX8_drops_42 rfl (?_ : hp_G _ _ _ _ _ _ _ _ _ 45 _ _ _)
    obtain rfl := Option.some.inj hf
    exact hp_iret kr (fun z => z) rfl dX8_drops_45
  · replace hf := of_ c3 hf
    refine hp_iload 0 dX8_drops_17 rfl (?_ : hp_G _ _ _ _ _ _ _ _ _ 19 _ _ _)
    refine hp_goto (tgt := 45) dX8_drops_19 rfl (?_ : hp_G _ _ _ _ _ _ _ _ _ 45 _ _ _)
    obtain rfl := Option.some.inj hf
    exact hp_iret kr (fun z => z) rfl dX8_drops_45
theorem kX8_drops (l : Launch) {h : hp_H} {a0 : Nat} {p1 : Int32} {p2 : Int32} {p3 : Int32} {p4 : Int32} {r : (Int32 × hp_H)} (hf : fX8_drops h a0 p1 p2 p3 p4 = some r) : hp_Cn l yX8_drops mX8_drops 4 false 0 0 [.ref a0, .int p1, .int p2, .int p3, .int p4] h (fun v h2 => some (.int r.1) = v ∧ r.2 = h2) :=
  hp_of (by decide) rfl (fun z => by cases z) (Nat.le_of_ble_eq_true rfl) (tX8_drops l hf ⟨rfl, rfl⟩)
noncomputable def jX9_isOrder_95_28 (h : hp_H) (v0 : Nat) (v1 : Int32) (v2 : Int32) (v3 : Int32) (v4 : Int32) (v5 : Int32) (u7 : Int32) (k0 : Int32) (k1 : Int32) : Option ((Int32 × Int32) ⊕ Int32) :=
(some (k1 ||| k0)).bind fun x9 =>
(some (u7 + 1)).bind fun x10 =>
some (.inl (x9, x10))
set_option maxRecDepth 20000 in
set_option maxHeartbeats 4000000 in
theorem tjX9_isOrder_95_28 (l : Launch) {h : hp_H} {v0 : Nat} {v1 : Int32} {v2 : Int32} {v3 : Int32} {v4 : Int32} {v5 : Int32} {u7 : Int32} {k0 : Int32} {k1 : Int32} {r : ((Int32 × Int32) ⊕ Int32)} (hf : jX9_isOrder_95_28 h v0 v1 v2 v3 v4 v5 u7 k0 k1 = some r) {Q : Option Value → hp_H → Prop} (kb : ∀ t, r = .inl t → hp_G l mX9_isOrder none 1 false Q false 0 0 28 [(0, .ref v0), (1, .int v1), (2, .int v2), (3, .int v3), (4, .int v4), (5, .int v5), (6, .int t.1), (7, .int t.2)] [] h) (ke : ∀ x, r = .inr x → hp_G l mX9_isOrder none 1 false Q false 0 0 104 [(0, .ref v0), (1, .int v1), (2, .int v2), (3, .int v3), (4, .int v4), (5, .int v5), (6, .int x)] [] h) : hp_G l mX9_isOrder none 1 false Q false 0 0 95 [(0, .ref v0), (1, .int v1), (2, .int v2), (3, .int v3), (4, .int v4), (5, .int v5), (7, .int u7)] [.int k0, .int k1] h := by
  unfold jX9_isOrder_95_28 at hf
  refine hp_ior dX9_isOrder_95 (?_ : hp_G _ _ _ _ _ _ _ _ _ 96 _ _ _)
  replace hf := ob_ hf
  obtain ⟨x9, ex9, hf⟩ := hf
  refine hp_nmi ex9 ?_
  refine hp_istore (lv' := [(6, .int x9), (0, .ref v0), (1, .int v1), (2, .int v2), (3, .int v3), (4, .int v4), (5, .int v5), (7, .int u7)]) dX9_isOrder_96 (Nat.le_of_ble_eq_true rfl) rfl (?_ : hp_G _ _ _ _ _ _ _ _ _ 98 _ _ _)
  replace hf := ob_ hf
  obtain ⟨x10, ex10, hf⟩ := hf
  refine hp_iinc (v := x10) (lv' := [(7, .int x10), (6, .int x9), (0, .ref v0), (1, .int v1), (2, .int v2), (3, .int v3), (4, .int v4), (5, .int v5)]) 7 dX9_isOrder_98 rfl (hp_inc ic_1 ex10) (Nat.le_of_ble_eq_true rfl) rfl (?_ : hp_G _ _ _ _ _ _ _ _ _ 101 _ _ _)
  refine hp_goto (tgt := 28) dX9_isOrder_101 rfl (?_ : hp_G _ _ _ _ _ _ _ _ _ 28 _ _ _)
  obtain rfl := Option.some.inj hf
  exact hp_sub [2, 3, 4, 5, 6, 7, 1, 0] rfl (kb _ rfl)
noncomputable def jX9_isOrder_67_28 (h : hp_H) (v0 : Nat) (v1 : Int32) (v2 : Int32) (v3 : Int32) (v4 : Int32) (v5 : Int32) (u6 : Int32) (u7 : Int32) (k0 : Int32) : Option ((Int32 × Int32) ⊕ Int32) :=
if k0 = 0 then
(jX9_isOrder_95_28 h v0 v1 v2 v3 v4 v5 u7 0 u6)
else
((gq_ h v0 8 4).bind fun x11 =>
(al_ h x11 ((v1 + (2 * u7)) + 1)).bind fun x12 =>
jX9_isOrder_95_28 h v0 v1 v2 v3 v4 v5 u7 ((1 : Int32) <<< (x12 &&& 31)) u6)
set_option maxRecDepth 20000 in
set_option maxHeartbeats 4000000 in
theorem tjX9_isOrder_67_28 (l : Launch) {h : hp_H} {v0 : Nat} {v1 : Int32} {v2 : Int32} {v3 : Int32} {v4 : Int32} {v5 : Int32} {u6 : Int32} {u7 : Int32} {k0 : Int32} {r : ((Int32 × Int32) ⊕ Int32)} (hf : jX9_isOrder_67_28 h v0 v1 v2 v3 v4 v5 u6 u7 k0 = some r) {Q : Option Value → hp_H → Prop} (kb : ∀ t, r = .inl t → hp_G l mX9_isOrder none 1 false Q false 0 0 28 [(0, .ref v0), (1, .int v1), (2, .int v2), (3, .int v3), (4, .int v4), (5, .int v5), (6, .int t.1), (7, .int t.2)] [] h) (ke : ∀ x, r = .inr x → hp_G l mX9_isOrder none 1 false Q false 0 0 104 [(0, .ref v0), (1, .int v1), (2, .int v2), (3, .int v3), (4, .int v4), (5, .int v5), (6, .int x)] [] h) : hp_G l mX9_isOrder none 1 false Q false 0 0 67 [(0, .ref v0), (1, .int v1), (2, .int v2), (3, .int v3), (4, .int v4), (5, .int v5), (6, .int u6), (7, .int u7)] [.int k0] h := by
  unfold jX9_isOrder_67_28 at hf
  refine hp_istore (lv' := [(8, .int k0), (0, .ref v0), (1, .int v1), (2, .int v2), (3, .int v3), (4, .int v4), (5, .int v5), (6, .int u6), (7, .int u7)]) dX9_isOrder_67 (Nat.le_of_ble_eq_true rfl) rfl (?_ : hp_G _ _ _ _ _ _ _ _ _ 69 _ _ _)
  refine hp_iload 7 dX9_isOrder_69 rfl (?_ : hp_G _ _ _ _ _ _ _ _ _ 71 _ _ _)
  refine hp_iload 0 dX9_isOrder_71 rfl (?_ : hp_G _ _ _ _ _ _ _ _ _ 73 _ _ _)
  refine hp_if_eq (tgt := 94) dX9_isOrder_73 rfl (fun c8 => ?_) (fun c8 => (?_ : hp_G _ _ _ _ _ _ _ _ _ 76 _ _ _))
  · replace hf := ot_ c8 hf
    refine hp_iconst (v := 0) dX9_isOrder_94 ic_0 (?_ : hp_G _ _ _ _ _ _ _ _ _ 95 _ _ _)
    exact hp_sub [1, 2, 3, 4, 5, 6, 8] rfl (tjX9_isOrder_95_28 l hf kb ke)
  · replace hf := of_ c8 hf
    refine hp_iconst (v := 1) dX9_isOrder_76 ic_1 (?_ : hp_G _ _ _ _ _ _ _ _ _ 77 _ _ _)
    refine hp_aload_n 1 dX9_isOrder_77 rfl rfl (?_ : hp_G _ _ _ _ _ _ _ _ _ 78 _ _ _)
    replace hf := ob_ hf
    obtain ⟨x11, ex11, hf⟩ := hf
    refine fgX9_16 rfl dX9_isOrder_78 ex11 (?_ : hp_G _ _ _ _ _ _ _ _ _ 81 _ _ _)
    refine hp_iload_n 2 dX9_isOrder_81 rfl rfl (?_ : hp_G _ _ _ _ _ _ _ _ _ 82 _ _ _)
    refine hp_iconst (v := 2) dX9_isOrder_82 ic_2 (?_ : hp_G _ _ _ _ _ _ _ _ _ 83 _ _ _)
    refine hp_iload 8 dX9_isOrder_83 rfl (?_ : hp_G _ _ _ _ _ _ _ _ _ 85 _ _ _)
    refine hp_imul dX9_isOrder_85 (?_ : hp_G _ _ _ _ _ _ _ _ _ 86 _ _ _)
    refine hp_iadd dX9_isOrder_86 (?_ : hp_G _ _ _ _ _ _ _ _ _ 87 _ _ _)
    refine hp_iconst (v := 1) dX9_isOrder_87 ic_1 (?_ : hp_G _ _ _ _ _ _ _ _ _ 88 _ _ _)
    refine hp_iadd dX9_isOrder_88 (?_ : hp_G _ _ _ _ _ _ _ _ _ 89 _ _ _)
    replace hf := ob_ hf
    obtain ⟨x12, ex12, hf⟩ := hf
    refine hp_iaload dX9_isOrder_89 ex12 (?_ : hp_G _ _ _ _ _ _ _ _ _ 90 _ _ _)
    refine hp_ishl dX9_isOrder_90 (?_ : hp_G _ _ _ _ _ _ _ _ _ 91 _ _ _)
    refine hp_goto (tgt := 95) dX9_isOrder_91 rfl (?_ : hp_G _ _ _ _ _ _ _ _ _ 95 _ _ _)
    exact hp_sub [1, 2, 3, 4, 5, 6, 8] rfl (tjX9_isOrder_95_28 l hf kb ke)
noncomputable def jX9_isOrder_66_28 (h : hp_H) (v0 : Nat) (v1 : Int32) (v2 : Int32) (v3 : Int32) (v4 : Int32) (v5 : Int32) (u6 : Int32) (u7 : Int32)  : Option ((Int32 × Int32) ⊕ Int32) :=
jX9_isOrder_67_28 h v0 v1 v2 v3 v4 v5 u6 u7 0
set_option maxRecDepth 20000 in
set_option maxHeartbeats 4000000 in
theorem tjX9_isOrder_66_28 (l : Launch) {h : hp_H} {v0 : Nat} {v1 : Int32} {v2 : Int32} {v3 : Int32} {v4 : Int32} {v5 : Int32} {u6 : Int32} {u7 : Int32}  {r : ((Int32 × Int32) ⊕ Int32)} (hf : jX9_isOrder_66_28 h v0 v1 v2 v3 v4 v5 u6 u7 = some r) {Q : Option Value → hp_H → Prop} (kb : ∀ t, r = .inl t → hp_G l mX9_isOrder none 1 false Q false 0 0 28 [(0, .ref v0), (1, .int v1), (2, .int v2), (3, .int v3), (4, .int v4), (5, .int v5), (6, .int t.1), (7, .int t.2)] [] h) (ke : ∀ x, r = .inr x → hp_G l mX9_isOrder none 1 false Q false 0 0 104 [(0, .ref v0), (1, .int v1), (2, .int v2), (3, .int v3), (4, .int v4), (5, .int v5), (6, .int x)] [] h) : hp_G l mX9_isOrder none 1 false Q false 0 0 66 [(0, .ref v0), (1, .int v1), (2, .int v2), (3, .int v3), (4, .int v4), (5, .int v5), (6, .int u6), (7, .int u7)] [] h := by
  unfold jX9_isOrder_66_28 at hf
  refine hp_iconst (v := 0) dX9_isOrder_66 ic_0 (?_ : hp_G _ _ _ _ _ _ _ _ _ 67 _ _ _)
  exact hp_sub [0, 1, 2, 3, 4, 5, 6, 7] rfl (tjX9_isOrder_67_28 l hf kb ke)
noncomputable def bX9_isOrder_28 (h : hp_H) (v0 : Nat) (v1 : Int32) (v2 : Int32) (v3 : Int32) (v4 : Int32) (v5 : Int32) (s : (Int32 × Int32)) : Option ((Int32 × Int32) ⊕ Int32) :=
if v2 ≤ s.2 then
(some (.inr s.1))
else
((fX9_isOf h v3 s.2).bind fun r6 =>
if r6 = 0 then
((gq_ h v0 8 4).bind fun x13 =>
(al_ h x13 (v1 + (2 * s.2))).bind fun x14 =>
(fX9_isOf h v4 x14).bind fun r15 =>
if r15 = 0 then
(jX9_isOrder_66_28 h v0 v1 v2 v3 v4 v5 s.1 s.2)
else
(jX9_isOrder_67_28 h v0 v1 v2 v3 v4 v5 s.1 s.2 1))
else
(jX9_isOrder_66_28 h v0 v1 v2 v3 v4 v5 s.1 s.2))
set_option maxRecDepth 20000 in
set_option maxHeartbeats 4000000 in
theorem tbX9_isOrder_28 (l : Launch) {h : hp_H} {v0 : Nat} {v1 : Int32} {v2 : Int32} {v3 : Int32} {v4 : Int32} {v5 : Int32}  {s : (Int32 × Int32)} {r : ((Int32 × Int32) ⊕ Int32)} (hf : bX9_isOrder_28 h  v0 v1 v2 v3 v4 v5 s = some r) {Q : Option Value → hp_H → Prop} (kb : ∀ t, r = .inl t → hp_G l mX9_isOrder none 1 false Q false 0 0 28 [(0, .ref v0), (1, .int v1), (2, .int v2), (3, .int v3), (4, .int v4), (5, .int v5), (6, .int t.1), (7, .int t.2)] [] h) (ke : ∀ x, r = .inr x → hp_G l mX9_isOrder none 1 false Q false 0 0 104 [(0, .ref v0), (1, .int v1), (2, .int v2), (3, .int v3), (4, .int v4), (5, .int v5), (6, .int x)] [] h) : hp_G l mX9_isOrder none 1 false Q false 0 0 28 [(0, .ref v0), (1, .int v1), (2, .int v2), (3, .int v3), (4, .int v4), (5, .int v5), (6, .int s.1), (7, .int s.2)] [] h := by
  unfold bX9_isOrder_28 at hf
  refine hp_iload 7 dX9_isOrder_28 rfl (?_ : hp_G _ _ _ _ _ _ _ _ _ 30 _ _ _)
  refine hp_iload_n 2 dX9_isOrder_30 rfl rfl (?_ : hp_G _ _ _ _ _ _ _ _ _ 31 _ _ _)
  refine hp_icmp_ge (tgt := 104) dX9_isOrder_31 rfl (fun c5 => ?_) (fun c5 => (?_ : hp_G _ _ _ _ _ _ _ _ _ 34 _ _ _))
  · replace hf := ot_ c5 hf
    obtain rfl := Option.some.inj hf
    exact hp_sub [0, 1, 2, 3, 4, 5, 6] rfl (ke _ rfl)
  · replace hf := of_ c5 hf
    refine hp_iload_n 3 dX9_isOrder_34 rfl rfl (?_ : hp_G _ _ _ _ _ _ _ _ _ 35 _ _ _)
    refine hp_iload 7 dX9_isOrder_35 rfl (?_ : hp_G _ _ _ _ _ _ _ _ _ 37 _ _ _)
    replace hf := ob_ hf
    obtain ⟨r6, er6, hf⟩ := hf
    refine clX9_126 (as := [.int v3, .int s.2]) (st := []) rfl (kX9_isOf l er6) rfl (by decide) (Nat.le_of_ble_eq_true rfl) dX9_isOrder_37 rfl (?_ : hp_G _ _ _ _ _ _ _ _ _ 40 _ _ _)
    refine hp_if_ne (tgt := 66) dX9_isOrder_40 rfl (fun c7 => ?_) (fun c7 => (?_ : hp_G _ _ _ _ _ _ _ _ _ 43 _ _ _))
    · replace hf := of_ c7 hf
      exact hp_sub [0, 1, 2, 3, 4, 5, 6, 7] rfl (tjX9_isOrder_66_28 l hf kb ke)
    · replace hf := ot_ c7 hf
      refine hp_iload 4 dX9_isOrder_43 rfl (?_ : hp_G _ _ _ _ _ _ _ _ _ 45 _ _ _)
      refine hp_aload_n 0 dX9_isOrder_45 rfl rfl (?_ : hp_G _ _ _ _ _ _ _ _ _ 46 _ _ _)
      replace hf := ob_ hf
      obtain ⟨x13, ex13, hf⟩ := hf
      refine fgX9_16 rfl dX9_isOrder_46 ex13 (?_ : hp_G _ _ _ _ _ _ _ _ _ 49 _ _ _)
      refine hp_iload_n 1 dX9_isOrder_49 rfl rfl (?_ : hp_G _ _ _ _ _ _ _ _ _ 50 _ _ _)
      refine hp_iconst (v := 2) dX9_isOrder_50 ic_2 (?_ : hp_G _ _ _ _ _ _ _ _ _ 51 _ _ _)
      refine hp_iload 7 dX9_isOrder_51 rfl (?_ : hp_G _ _ _ _ _ _ _ _ _ 53 _ _ _)
      refine hp_imul dX9_isOrder_53 (?_ : hp_G _ _ _ _ _ _ _ _ _ 54 _ _ _)
      refine hp_iadd dX9_isOrder_54 (?_ : hp_G _ _ _ _ _ _ _ _ _ 55 _ _ _)
      replace hf := ob_ hf
      obtain ⟨x14, ex14, hf⟩ := hf
      refine hp_iaload dX9_isOrder_55 ex14 (?_ : hp_G _ _ _ _ _ _ _ _ _ 56 _ _ _)
      replace hf := ob_ hf
      obtain ⟨r15, er15, hf⟩ := hf
      refine clX9_126 (as := [.int v4, .int x14]) (st := []) rfl (kX9_isOf l er15) rfl (by decide) (Nat.le_of_ble_eq_true rfl) dX9_isOrder_56 rfl (?_ : hp_G _ _ _ _ _ _ _ _ _ 59 _ _ _)
      refine hp_if_eq (tgt := 66) dX9_isOrder_59 rfl (fun c16 => ?_) (fun c16 => (?_ : hp_G _ _ _ _ _ _ _ _ _ 62 _ _ _))
      · replace hf := ot_ c16 hf
        exact hp_sub [0, 1, 2, 3, 4, 5, 6, 7] rfl (tjX9_isOrder_66_28 l hf kb ke)
      · replace hf := of_ c16 hf
        refine hp_iconst (v := 1) dX9_isOrder_62 ic_1 (?_ : hp_G _ _ _ _ _ _ _ _ _ 63 _ _ _)
        refine hp_goto (tgt := 67) dX9_isOrder_63 rfl (?_ : hp_G _ _ _ _ _ _ _ _ _ 67 _ _ _)
        exact hp_sub [0, 1, 2, 3, 4, 5, 6, 7] rfl (tjX9_isOrder_67_28 l hf kb ke)
set_option maxRecDepth 20000 in
set_option maxHeartbeats 4000000 in
theorem tlX9_isOrder_28 (l : Launch) {h : hp_H} {v0 : Nat} {v1 : Int32} {v2 : Int32} {v3 : Int32} {v4 : Int32} {v5 : Int32}  (q : Nat) {s : (Int32 × Int32)} {x : Int32} (hf : it_ (bX9_isOrder_28 h  v0 v1 v2 v3 v4 v5) q s = some x) {Q : Option Value → hp_H → Prop} (ke : ∀ e, x = e → hp_G l mX9_isOrder none 1 false Q false 0 0 104 [(0, .ref v0), (1, .int v1), (2, .int v2), (3, .int v3), (4, .int v4), (5, .int v5), (6, .int e)] [] h) : hp_G l mX9_isOrder none 1 false Q false 0 0 28 [(0, .ref v0), (1, .int v1), (2, .int v2), (3, .int v3), (4, .int v4), (5, .int v5), (6, .int s.1), (7, .int s.2)] [] h := by
  exact it_rule (f := bX9_isOrder_28 h  v0 v1 v2 v3 v4 v5) (fun s => hp_G l mX9_isOrder none 1 false Q false 0 0 28 [(0, .ref v0), (1, .int v1), (2, .int v2), (3, .int v3), (4, .int v4), (5, .int v5), (6, .int s.1), (7, .int s.2)] [] h) (fun x => (∀ e, x = e → hp_G l mX9_isOrder none 1 false Q false 0 0 104 [(0, .ref v0), (1, .int v1), (2, .int v2), (3, .int v3), (4, .int v4), (5, .int v5), (6, .int e)] [] h)) (fun s r h1 h2 h3 => tbX9_isOrder_28 l h1 (fun t e => h2 t e) (fun e he => h3 _ he _ rfl)) q s x hf ke
noncomputable def bX9_isOrder_13 (h : hp_H) (v0 : Nat) (v1 : Int32) (v2 : Int32) (v3 : Int32) (s : (Int32 × Int32)) : Option ((Int32 × Int32) ⊕ Int32) :=
(gi_ h v0 8 5).bind fun x3 =>
if x3 ≤ s.2 then
(some (.inr s.1))
else
((it_ (bX9_isOrder_28 h v0 v1 v2 v3 s.1 s.2) fu_ (0, 0)).bind fun x17 =>
(some (s.1 &&& x17)).bind fun x18 =>
(some (s.2 + 1)).bind fun x19 =>
some (.inl (x18, x19)))
set_option maxRecDepth 20000 in
set_option maxHeartbeats 4000000 in
theorem tbX9_isOrder_13 (l : Launch) {h : hp_H} {v0 : Nat} {v1 : Int32} {v2 : Int32} {v3 : Int32}  {s : (Int32 × Int32)} {r : ((Int32 × Int32) ⊕ Int32)} (hf : bX9_isOrder_13 h  v0 v1 v2 v3 s = some r) {Q : Option Value → hp_H → Prop} (kb : ∀ t, r = .inl t → hp_G l mX9_isOrder none 1 false Q false 0 0 13 [(0, .ref v0), (1, .int v1), (2, .int v2), (3, .int v3), (4, .int t.1), (5, .int t.2)] [] h) (ke : ∀ x, r = .inr x → hp_G l mX9_isOrder none 1 false Q false 0 0 117 [(4, .int x)] [] h) : hp_G l mX9_isOrder none 1 false Q false 0 0 13 [(0, .ref v0), (1, .int v1), (2, .int v2), (3, .int v3), (4, .int s.1), (5, .int s.2)] [] h := by
  unfold bX9_isOrder_13 at hf
  refine hp_iload 5 dX9_isOrder_13 rfl (?_ : hp_G _ _ _ _ _ _ _ _ _ 15 _ _ _)
  refine hp_aload_n 0 dX9_isOrder_15 rfl rfl (?_ : hp_G _ _ _ _ _ _ _ _ _ 16 _ _ _)
  replace hf := ob_ hf
  obtain ⟨x3, ex3, hf⟩ := hf
  refine fgX9_71 rfl dX9_isOrder_16 ex3 (?_ : hp_G _ _ _ _ _ _ _ _ _ 19 _ _ _)
  refine hp_icmp_ge (tgt := 117) dX9_isOrder_19 rfl (fun c4 => ?_) (fun c4 => (?_ : hp_G _ _ _ _ _ _ _ _ _ 22 _ _ _))
  · replace hf := ot_ c4 hf
    obtain rfl := Option.some.inj hf
    exact hp_sub [4] rfl (ke _ rfl)
  · replace hf := of_ c4 hf
    refine hp_iconst (v := 0) dX9_isOrder_22 ic_0 (?_ : hp_G _ _ _ _ _ _ _ _ _ 23 _ _ _)
    refine hp_istore (lv' := [(6, .int 0), (0, .ref v0), (1, .int v1), (2, .int v2), (3, .int v3), (4, .int s.1), (5, .int s.2)]) dX9_isOrder_23 (Nat.le_of_ble_eq_true rfl) rfl (?_ : hp_G _ _ _ _ _ _ _ _ _ 25 _ _ _)
    refine hp_iconst (v := 0) dX9_isOrder_25 ic_0 (?_ : hp_G _ _ _ _ _ _ _ _ _ 26 _ _ _)
    refine hp_istore (lv' := [(7, .int 0), (6, .int 0), (0, .ref v0), (1, .int v1), (2, .int v2), (3, .int v3), (4, .int s.1), (5, .int s.2)]) dX9_isOrder_26 (Nat.le_of_ble_eq_true rfl) rfl (?_ : hp_G _ _ _ _ _ _ _ _ _ 28 _ _ _)
    replace hf := ob_ hf
    obtain ⟨x17, ex17, hf⟩ := hf
    refine hp_sub [2, 3, 4, 5, 6, 7, 1, 0] rfl ?_
    refine tlX9_isOrder_28 l fu_ ex17 (fun y hy => ?_)
    obtain rfl := hy
    refine hp_iload 4 dX9_isOrder_104 rfl (?_ : hp_G _ _ _ _ _ _ _ _ _ 106 _ _ _)
    refine hp_iload 6 dX9_isOrder_106 rfl (?_ : hp_G _ _ _ _ _ _ _ _ _ 108 _ _ _)
    refine hp_iand dX9_isOrder_108 (?_ : hp_G _ _ _ _ _ _ _ _ _ 109 _ _ _)
    replace hf := ob_ hf
    obtain ⟨x18, ex18, hf⟩ := hf
    refine hp_nmi ex18 ?_
    refine hp_istore (lv' := [(4, .int x18), (0, .ref v0), (1, .int v1), (2, .int v2), (3, .int v3), (5, .int s.2), (6, .int x17)]) dX9_isOrder_109 (Nat.le_of_ble_eq_true rfl) rfl (?_ : hp_G _ _ _ _ _ _ _ _ _ 111 _ _ _)
    replace hf := ob_ hf
    obtain ⟨x19, ex19, hf⟩ := hf
    refine hp_iinc (v := x19) (lv' := [(5, .int x19), (4, .int x18), (0, .ref v0), (1, .int v1), (2, .int v2), (3, .int v3), (6, .int x17)]) 5 dX9_isOrder_111 rfl (hp_inc ic_1 ex19) (Nat.le_of_ble_eq_true rfl) rfl (?_ : hp_G _ _ _ _ _ _ _ _ _ 114 _ _ _)
    refine hp_goto (tgt := 13) dX9_isOrder_114 rfl (?_ : hp_G _ _ _ _ _ _ _ _ _ 13 _ _ _)
    obtain rfl := Option.some.inj hf
    exact hp_sub [2, 3, 4, 5, 1, 0] rfl (kb _ rfl)
set_option maxRecDepth 20000 in
set_option maxHeartbeats 4000000 in
theorem tlX9_isOrder_13 (l : Launch) {h : hp_H} {v0 : Nat} {v1 : Int32} {v2 : Int32} {v3 : Int32}  (q : Nat) {s : (Int32 × Int32)} {x : Int32} (hf : it_ (bX9_isOrder_13 h  v0 v1 v2 v3) q s = some x) {Q : Option Value → hp_H → Prop} (ke : ∀ e, x = e → hp_G l mX9_isOrder none 1 false Q false 0 0 117 [(4, .int e)] [] h) : hp_G l mX9_isOrder none 1 false Q false 0 0 13 [(0, .ref v0), (1, .int v1), (2, .int v2), (3, .int v3), (4, .int s.1), (5, .int s.2)] [] h := by
  exact it_rule (f := bX9_isOrder_13 h  v0 v1 v2 v3) (fun s => hp_G l mX9_isOrder none 1 false Q false 0 0 13 [(0, .ref v0), (1, .int v1), (2, .int v2), (3, .int v3), (4, .int s.1), (5, .int s.2)] [] h) (fun x => (∀ e, x = e → hp_G l mX9_isOrder none 1 false Q false 0 0 117 [(4, .int e)] [] h)) (fun s r h1 h2 h3 => tbX9_isOrder_13 l h1 (fun t e => h2 t e) (fun e he => h3 _ he _ rfl)) q s x hf ke
noncomputable def fX9_isOrder (h : hp_H) (a0 : Nat) (p1 : Int32) (p2 : Int32) (p3 : Int32) : Option Int32 :=
(gi_ h a0 8 5).bind fun x1 =>
(some (((1 : Int32) <<< (x1 &&& 31)) - 1)).bind fun x2 =>
(it_ (bX9_isOrder_13 h a0 p1 p2 p3) fu_ (x2, 0)).bind fun x20 =>
if x20 = 0 then
(some 1)
else
(some 0)
set_option maxRecDepth 20000 in
set_option maxHeartbeats 4000000 in
theorem tX9_isOrder (l : Launch) {h : hp_H} {a0 : Nat} {p1 : Int32} {p2 : Int32} {p3 : Int32} {r : Int32} (hf : fX9_isOrder h a0 p1 p2 p3 = some r) {Q : Option Value → hp_H → Prop} (kr : Q (some (.int r)) h) : hp_G l mX9_isOrder none 1 false Q false 0 0 0 [(0, .ref a0), (1, .int p1), (2, .int p2), (3, .int p3)] [] h := by
  unfold fX9_isOrder at hf
  refine hp_iconst (v := 1) dX9_isOrder_0 ic_1 (?_ : hp_G _ _ _ _ _ _ _ _ _ 1 _ _ _)
  refine hp_aload_n 0 dX9_isOrder_1 rfl rfl (?_ : hp_G _ _ _ _ _ _ _ _ _ 2 _ _ _)
  replace hf := ob_ hf
  obtain ⟨x1, ex1, hf⟩ := hf
  refine fgX9_71 rfl dX9_isOrder_2 ex1 (?_ : hp_G _ _ _ _ _ _ _ _ _ 5 _ _ _)
  refine hp_ishl dX9_isOrder_5 (?_ : hp_G _ _ _ _ _ _ _ _ _ 6 _ _ _)
  refine hp_iconst (v := 1) dX9_isOrder_6 ic_1 (?_ : hp_G _ _ _ _ _ _ _ _ _ 7 _ _ _)
  refine hp_isub dX9_isOrder_7 (?_ : hp_G _ _ _ _ _ _ _ _ _ 8 _ _ _)
  replace hf := ob_ hf
  obtain ⟨x2, ex2, hf⟩ := hf
  refine hp_nmi ex2 ?_
  refine hp_istore (lv' := [(4, .int x2), (0, .ref a0), (1, .int p1), (2, .int p2), (3, .int p3)]) dX9_isOrder_8 (Nat.le_of_ble_eq_true rfl) rfl (?_ : hp_G _ _ _ _ _ _ _ _ _ 10 _ _ _)
  refine hp_iconst (v := 0) dX9_isOrder_10 ic_0 (?_ : hp_G _ _ _ _ _ _ _ _ _ 11 _ _ _)
  refine hp_istore (lv' := [(5, .int 0), (4, .int x2), (0, .ref a0), (1, .int p1), (2, .int p2), (3, .int p3)]) dX9_isOrder_11 (Nat.le_of_ble_eq_true rfl) rfl (?_ : hp_G _ _ _ _ _ _ _ _ _ 13 _ _ _)
  replace hf := ob_ hf
  obtain ⟨x20, ex20, hf⟩ := hf
  refine hp_sub [2, 3, 4, 5, 1, 0] rfl ?_
  refine tlX9_isOrder_13 l fu_ ex20 (fun y hy => ?_)
  obtain rfl := hy
  refine hp_iload 0 dX9_isOrder_117 rfl (?_ : hp_G _ _ _ _ _ _ _ _ _ 119 _ _ _)
  refine hp_if_ne (tgt := 126) dX9_isOrder_119 rfl (fun c21 => ?_) (fun c21 => (?_ : hp_G _ _ _ _ _ _ _ _ _ 122 _ _ _))
  · replace hf := of_ c21 hf
    refine hp_iconst (v := 0) dX9_isOrder_126 ic_0 (?_ : hp_G _ _ _ _ _ _ _ _ _ 127 _ _ _)
    obtain rfl := Option.some.inj hf
    exact hp_zret kr (fun z => z) rfl (by decide) dX9_isOrder_127
  · replace hf := ot_ c21 hf
    refine hp_iconst (v := 1) dX9_isOrder_122 ic_1 (?_ : hp_G _ _ _ _ _ _ _ _ _ 123 _ _ _)
    refine hp_goto (tgt := 127) dX9_isOrder_123 rfl (?_ : hp_G _ _ _ _ _ _ _ _ _ 127 _ _ _)
    obtain rfl := Option.some.inj hf
    exact hp_zret kr (fun z => z) rfl (by decide) dX9_isOrder_127
theorem kX9_isOrder (l : Launch) {h : hp_H} {a0 : Nat} {p1 : Int32} {p2 : Int32} {p3 : Int32} {r : Int32} (hf : fX9_isOrder h a0 p1 p2 p3 = some r) : hp_Cn l yX9_isOrder mX9_isOrder 1 false 0 0 [.ref a0, .int p1, .int p2, .int p3] h (fun v h2 => some (.int r) = v ∧ h = h2) :=
  hp_of (by decide) rfl (fun z => by cases z) (Nat.le_of_ble_eq_true rfl) (tX9_isOrder l hf ⟨rfl, rfl⟩)
noncomputable def jX9_drops_156_98 (h : hp_H) (v0 : Nat) (v4 : Int32) (v6 : Int32) (u7 : Int32) (u8 : Int32)  : Option ((Int32 × Int32) ⊕ Int32) :=
(some (u8 + 1)).bind fun x20 =>
some (.inl (u7, x20))
set_option maxRecDepth 20000 in
set_option maxHeartbeats 4000000 in
theorem tjX9_drops_156_98 (l : Launch) {h : hp_H} {v0 : Nat} {v4 : Int32} {v6 : Int32} {u7 : Int32} {u8 : Int32}  {r : ((Int32 × Int32) ⊕ Int32)} (hf : jX9_drops_156_98 h v0 v4 v6 u7 u8 = some r) {Q : Option Value → hp_H → Prop} (kb : ∀ t, r = .inl t → hp_G l mX9_drops none 3 false Q false 0 0 98 [(0, .ref v0), (4, .int v4), (6, .int v6), (7, .int t.1), (8, .int t.2)] [] h) (ke : ∀ x, r = .inr x → hp_G l mX9_drops none 3 false Q false 0 0 162 [(7, .int x)] [] h) : hp_G l mX9_drops none 3 false Q false 0 0 156 [(0, .ref v0), (4, .int v4), (6, .int v6), (7, .int u7), (8, .int u8)] [] h := by
  unfold jX9_drops_156_98 at hf
  replace hf := ob_ hf
  obtain ⟨x20, ex20, hf⟩ := hf
  refine hp_iinc (v := x20) (lv' := [(8, .int x20), (0, .ref v0), (4, .int v4), (6, .int v6), (7, .int u7)]) 4 dX9_drops_156 rfl (hp_inc ic_1 ex20) (Nat.le_of_ble_eq_true rfl) rfl (?_ : hp_G _ _ _ _ _ _ _ _ _ 159 _ _ _)
  refine hp_goto (tgt := 98) dX9_drops_159 rfl (?_ : hp_G _ _ _ _ _ _ _ _ _ 98 _ _ _)
  obtain rfl := Option.some.inj hf
  exact hp_sub [1, 2, 3, 4, 0] rfl (kb _ rfl)
noncomputable def jX9_drops_132_98 (h : hp_H) (v0 : Nat) (v4 : Int32) (v6 : Int32) (u7 : Int32) (u8 : Int32) (k0 : Int32) : Option ((Int32 × Int32) ⊕ Int32) :=
if k0 = 0 then
(jX9_drops_156_98 h v0 v4 v6 u7 u8)
else
((hg_o h v0 8).bind fun o21 =>
(fX9_isOrder h v0 v6 v4 u8).bind fun r22 =>
if r22 = 0 then
(jX9_drops_156_98 h v0 v4 v6 u7 u8)
else
(jX9_drops_156_98 h v0 v4 v6 u8 u8))
set_option maxRecDepth 20000 in
set_option maxHeartbeats 4000000 in
theorem tjX9_drops_132_98 (l : Launch) {h : hp_H} {v0 : Nat} {v4 : Int32} {v6 : Int32} {u7 : Int32} {u8 : Int32} {k0 : Int32} {r : ((Int32 × Int32) ⊕ Int32)} (hf : jX9_drops_132_98 h v0 v4 v6 u7 u8 k0 = some r) {Q : Option Value → hp_H → Prop} (kb : ∀ t, r = .inl t → hp_G l mX9_drops none 3 false Q false 0 0 98 [(0, .ref v0), (4, .int v4), (6, .int v6), (7, .int t.1), (8, .int t.2)] [] h) (ke : ∀ x, r = .inr x → hp_G l mX9_drops none 3 false Q false 0 0 162 [(7, .int x)] [] h) : hp_G l mX9_drops none 3 false Q false 0 0 132 [(0, .ref v0), (4, .int v4), (6, .int v6), (7, .int u7), (8, .int u8)] [.int k0] h := by
  unfold jX9_drops_132_98 at hf
  refine hp_istore (lv' := [(9, .int k0), (0, .ref v0), (4, .int v4), (6, .int v6), (7, .int u7), (8, .int u8)]) dX9_drops_132 (Nat.le_of_ble_eq_true rfl) rfl (?_ : hp_G _ _ _ _ _ _ _ _ _ 134 _ _ _)
  refine hp_iload 0 dX9_drops_134 rfl (?_ : hp_G _ _ _ _ _ _ _ _ _ 136 _ _ _)
  refine hp_if_eq (tgt := 156) dX9_drops_136 rfl (fun c19 => ?_) (fun c19 => (?_ : hp_G _ _ _ _ _ _ _ _ _ 139 _ _ _))
  · replace hf := ot_ c19 hf
    exact hp_sub [1, 2, 3, 4, 5] rfl (tjX9_drops_156_98 l hf kb ke)
  · replace hf := of_ c19 hf
    refine hp_aload_n 1 dX9_drops_139 rfl rfl (?_ : hp_G _ _ _ _ _ _ _ _ _ 140 _ _ _)
    refine hp_iload 3 dX9_drops_140 rfl (?_ : hp_G _ _ _ _ _ _ _ _ _ 142 _ _ _)
    refine hp_iload 2 dX9_drops_142 rfl (?_ : hp_G _ _ _ _ _ _ _ _ _ 144 _ _ _)
    refine hp_iload 5 dX9_drops_144 rfl (?_ : hp_G _ _ _ _ _ _ _ _ _ 146 _ _ _)
    replace hf := ob_ hf
    obtain ⟨o21, eo21, hf⟩ := hf
    replace hf := ob_ hf
    obtain ⟨r22, er22, hf⟩ := hf
    refine clX9_198 (as := [.int v6, .int v4, .int u8]) (st := []) rfl (kX9_isOrder l er22) rfl (by decide) (Nat.le_of_ble_eq_true rfl) eo21 dX9_drops_146 rfl (?_ : hp_G _ _ _ _ _ _ _ _ _ 149 _ _ _)
    refine hp_if_eq (tgt := 156) dX9_drops_149 rfl (fun c23 => ?_) (fun c23 => (?_ : hp_G _ _ _ _ _ _ _ _ _ 152 _ _ _))
    · replace hf := ot_ c23 hf
      exact hp_sub [1, 2, 3, 4, 5] rfl (tjX9_drops_156_98 l hf kb ke)
    · replace hf := of_ c23 hf
      refine hp_iload 5 dX9_drops_152 rfl (?_ : hp_G _ _ _ _ _ _ _ _ _ 154 _ _ _)
      refine hp_istore (lv' := [(7, .int u8), (9, .int k0), (0, .ref v0), (4, .int v4), (6, .int v6), (8, .int u8)]) dX9_drops_154 (Nat.le_of_ble_eq_true rfl) rfl (?_ : hp_G _ _ _ _ _ _ _ _ _ 156 _ _ _)
      exact hp_sub [2, 3, 4, 0, 5] rfl (tjX9_drops_156_98 l hf kb ke)
noncomputable def jX9_drops_127_98 (h : hp_H) (v0 : Nat) (v4 : Int32) (v6 : Int32) (u7 : Int32) (u8 : Int32)  : Option ((Int32 × Int32) ⊕ Int32) :=
jX9_drops_132_98 h v0 v4 v6 u7 u8 1
set_option maxRecDepth 20000 in
set_option maxHeartbeats 4000000 in
theorem tjX9_drops_127_98 (l : Launch) {h : hp_H} {v0 : Nat} {v4 : Int32} {v6 : Int32} {u7 : Int32} {u8 : Int32}  {r : ((Int32 × Int32) ⊕ Int32)} (hf : jX9_drops_127_98 h v0 v4 v6 u7 u8 = some r) {Q : Option Value → hp_H → Prop} (kb : ∀ t, r = .inl t → hp_G l mX9_drops none 3 false Q false 0 0 98 [(0, .ref v0), (4, .int v4), (6, .int v6), (7, .int t.1), (8, .int t.2)] [] h) (ke : ∀ x, r = .inr x → hp_G l mX9_drops none 3 false Q false 0 0 162 [(7, .int x)] [] h) : hp_G l mX9_drops none 3 false Q false 0 0 127 [(0, .ref v0), (4, .int v4), (6, .int v6), (7, .int u7), (8, .int u8)] [] h := by
  unfold jX9_drops_127_98 at hf
  refine hp_iconst (v := 1) dX9_drops_127 ic_1 (?_ : hp_G _ _ _ _ _ _ _ _ _ 128 _ _ _)
  refine hp_goto (tgt := 132) dX9_drops_128 rfl (?_ : hp_G _ _ _ _ _ _ _ _ _ 132 _ _ _)
  exact hp_sub [0, 1, 2, 3, 4] rfl (tjX9_drops_132_98 l hf kb ke)
noncomputable def bX9_drops_98 (h : hp_H) (v0 : Nat) (v4 : Int32) (v6 : Int32) (s : (Int32 × Int32)) : Option ((Int32 × Int32) ⊕ Int32) :=
if (1 : Int32) <<< (v4 &&& 31) ≤ s.2 then
(some (.inr s.1))
else
(if s.1 = (-9) then
(jX9_drops_127_98 h v0 v4 v6 s.1 s.2)
else
((fX9_size h s.2).bind fun r24 =>
(fX9_size h s.1).bind fun r25 =>
if r25 ≤ r24 then
(jX9_drops_132_98 h v0 v4 v6 s.1 s.2 0)
else
(jX9_drops_127_98 h v0 v4 v6 s.1 s.2)))
set_option maxRecDepth 20000 in
set_option maxHeartbeats 4000000 in
theorem tbX9_drops_98 (l : Launch) {h : hp_H} {v0 : Nat} {v4 : Int32} {v6 : Int32}  {s : (Int32 × Int32)} {r : ((Int32 × Int32) ⊕ Int32)} (hf : bX9_drops_98 h  v0 v4 v6 s = some r) {Q : Option Value → hp_H → Prop} (kb : ∀ t, r = .inl t → hp_G l mX9_drops none 3 false Q false 0 0 98 [(0, .ref v0), (4, .int v4), (6, .int v6), (7, .int t.1), (8, .int t.2)] [] h) (ke : ∀ x, r = .inr x → hp_G l mX9_drops none 3 false Q false 0 0 162 [(7, .int x)] [] h) : hp_G l mX9_drops none 3 false Q false 0 0 98 [(0, .ref v0), (4, .int v4), (6, .int v6), (7, .int s.1), (8, .int s.2)] [] h := by
  unfold bX9_drops_98 at hf
  refine hp_iload 4 dX9_drops_98 rfl (?_ : hp_G _ _ _ _ _ _ _ _ _ 100 _ _ _)
  refine hp_iconst (v := 1) dX9_drops_100 ic_1 (?_ : hp_G _ _ _ _ _ _ _ _ _ 101 _ _ _)
  refine hp_iload 1 dX9_drops_101 rfl (?_ : hp_G _ _ _ _ _ _ _ _ _ 103 _ _ _)
  refine hp_ishl dX9_drops_103 (?_ : hp_G _ _ _ _ _ _ _ _ _ 104 _ _ _)
  refine hp_icmp_ge (tgt := 162) dX9_drops_104 rfl (fun c17 => ?_) (fun c17 => (?_ : hp_G _ _ _ _ _ _ _ _ _ 107 _ _ _))
  · replace hf := ot_ c17 hf
    obtain rfl := Option.some.inj hf
    exact hp_sub [3] rfl (ke _ rfl)
  · replace hf := of_ c17 hf
    refine hp_iload 3 dX9_drops_107 rfl (?_ : hp_G _ _ _ _ _ _ _ _ _ 109 _ _ _)
    refine hp_bipush (v := (-9)) dX9_drops_109 bi_m9 (?_ : hp_G _ _ _ _ _ _ _ _ _ 111 _ _ _)
    refine hp_icmp_eq (tgt := 127) dX9_drops_111 rfl (fun c18 => ?_) (fun c18 => (?_ : hp_G _ _ _ _ _ _ _ _ _ 114 _ _ _))
    · replace hf := ot_ c18 hf
      exact hp_sub [0, 1, 2, 3, 4] rfl (tjX9_drops_127_98 l hf kb ke)
    · replace hf := of_ c18 hf
      refine hp_iload 4 dX9_drops_114 rfl (?_ : hp_G _ _ _ _ _ _ _ _ _ 116 _ _ _)
      replace hf := ob_ hf
      obtain ⟨r24, er24, hf⟩ := hf
      refine clX9_138 (as := [.int s.2]) (st := []) rfl (kX9_size l er24) rfl (by decide) (Nat.le_of_ble_eq_true rfl) dX9_drops_116 rfl (?_ : hp_G _ _ _ _ _ _ _ _ _ 119 _ _ _)
      refine hp_iload 3 dX9_drops_119 rfl (?_ : hp_G _ _ _ _ _ _ _ _ _ 121 _ _ _)
      replace hf := ob_ hf
      obtain ⟨r25, er25, hf⟩ := hf
      refine clX9_138 (as := [.int s.1]) (st := [.int r24]) rfl (kX9_size l er25) rfl (by decide) (Nat.le_of_ble_eq_true rfl) dX9_drops_121 rfl (?_ : hp_G _ _ _ _ _ _ _ _ _ 124 _ _ _)
      refine hp_icmp_ge (tgt := 131) dX9_drops_124 rfl (fun c26 => ?_) (fun c26 => (?_ : hp_G _ _ _ _ _ _ _ _ _ 127 _ _ _))
      · replace hf := ot_ c26 hf
        refine hp_iconst (v := 0) dX9_drops_131 ic_0 (?_ : hp_G _ _ _ _ _ _ _ _ _ 132 _ _ _)
        exact hp_sub [0, 1, 2, 3, 4] rfl (tjX9_drops_132_98 l hf kb ke)
      · replace hf := of_ c26 hf
        exact hp_sub [0, 1, 2, 3, 4] rfl (tjX9_drops_127_98 l hf kb ke)
set_option maxRecDepth 20000 in
set_option maxHeartbeats 4000000 in
theorem tlX9_drops_98 (l : Launch) {h : hp_H} {v0 : Nat} {v4 : Int32} {v6 : Int32}  (q : Nat) {s : (Int32 × Int32)} {x : Int32} (hf : it_ (bX9_drops_98 h  v0 v4 v6) q s = some x) {Q : Option Value → hp_H → Prop} (ke : ∀ e, x = e → hp_G l mX9_drops none 3 false Q false 0 0 162 [(7, .int e)] [] h) : hp_G l mX9_drops none 3 false Q false 0 0 98 [(0, .ref v0), (4, .int v4), (6, .int v6), (7, .int s.1), (8, .int s.2)] [] h := by
  exact it_rule (f := bX9_drops_98 h  v0 v4 v6) (fun s => hp_G l mX9_drops none 3 false Q false 0 0 98 [(0, .ref v0), (4, .int v4), (6, .int v6), (7, .int s.1), (8, .int s.2)] [] h) (fun x => (∀ e, x = e → hp_G l mX9_drops none 3 false Q false 0 0 162 [(7, .int e)] [] h)) (fun s r h1 h2 h3 => tbX9_drops_98 l h1 (fun t e => h2 t e) (fun e he => h3 _ he _ rfl)) q s x hf ke
noncomputable def fX9_drops (h : hp_H) (a0 : Nat) (p1 : Int32) (p2 : Int32) (p3 : Int32) (p4 : Int32) : Option (Int32 × hp_H) :=
(pi_ h a0 8 0 0).bind fun h1 =>
(fX9_isSheet h1 p1).bind fun r2 =>
if r2 = 0 then
(some ((-1), h1))
else
((fX9_isSort h1 p2).bind fun r4 =>
if r4 = 0 then
(some ((-2), h1))
else
((fX9_within h1 p4 0 10).bind fun r6 =>
if r6 = 0 then
(some ((-2), h1))
else
((hg_o h1 a0 8).bind fun o8 =>
(fX9_against h1 a0 p1 p2 p3 (2 * p4)).bind fun r9 =>
if r9 = 0 then
((gi_ h1 a0 8 5).bind fun x11 =>
if x11 = 0 then
(some ((-3), h1))
else
((some ((60 * p1) + p3)).bind fun x13 =>
(hg_o h1 a0 8).bind fun o14 =>
(fX9_refusesTwos h1 a0 x13 p4).bind fun r15 =>
if r15 = 0 then
((it_ (bX9_drops_98 h1 a0 p4 x13) fu_ ((-9), 0)).bind fun x27 =>
some (x27, h1))
else
(some ((-1), h1))))
else
((hg_o h1 a0 8).bind fun o28 =>
(fX9_fails h1 a0 r9).bind fun r29 =>
some (r29.1, r29.2)))))
set_option maxRecDepth 20000 in
set_option maxHeartbeats 4000000 in
theorem tX9_drops (l : Launch) {h : hp_H} {a0 : Nat} {p1 : Int32} {p2 : Int32} {p3 : Int32} {p4 : Int32} {r : (Int32 × hp_H)} (hf : fX9_drops h a0 p1 p2 p3 p4 = some r) {Q : Option Value → hp_H → Prop} (kr : Q (some (.int r.1)) r.2) : hp_G l mX9_drops none 3 false Q false 0 0 0 [(0, .ref a0), (1, .int p1), (2, .int p2), (3, .int p3), (4, .int p4)] [] h := by
  unfold fX9_drops at hf
  refine hp_aload_n 0 dX9_drops_0 rfl rfl (?_ : hp_G _ _ _ _ _ _ _ _ _ 1 _ _ _)
  refine hp_iconst (v := 0) dX9_drops_1 ic_0 (?_ : hp_G _ _ _ _ _ _ _ _ _ 2 _ _ _)
  replace hf := ob_ hf
  obtain ⟨h1, eh1, hf⟩ := hf
  refine fpX9_61 rfl dX9_drops_2 eh1 (?_ : hp_G _ _ _ _ _ _ _ _ _ 5 _ _ _)
  refine hp_iload_n 1 dX9_drops_5 rfl rfl (?_ : hp_G _ _ _ _ _ _ _ _ _ 6 _ _ _)
  replace hf := ob_ hf
  obtain ⟨r2, er2, hf⟩ := hf
  refine clX9_81 (as := [.int p1]) (st := []) rfl (kX9_isSheet l er2) rfl (by decide) (Nat.le_of_ble_eq_true rfl) dX9_drops_6 rfl (?_ : hp_G _ _ _ _ _ _ _ _ _ 9 _ _ _)
  refine hp_if_ne (tgt := 14) dX9_drops_9 rfl (fun c3 => ?_) (fun c3 => (?_ : hp_G _ _ _ _ _ _ _ _ _ 12 _ _ _))
  · replace hf := of_ c3 hf
    refine hp_iload_n 2 dX9_drops_14 rfl rfl (?_ : hp_G _ _ _ _ _ _ _ _ _ 15 _ _ _)
    replace hf := ob_ hf
    obtain ⟨r4, er4, hf⟩ := hf
    refine clX9_84 (as := [.int p2]) (st := []) rfl (kX9_isSort l er4) rfl (by decide) (Nat.le_of_ble_eq_true rfl) dX9_drops_15 rfl (?_ : hp_G _ _ _ _ _ _ _ _ _ 18 _ _ _)
    refine hp_if_eq (tgt := 32) dX9_drops_18 rfl (fun c5 => ?_) (fun c5 => (?_ : hp_G _ _ _ _ _ _ _ _ _ 21 _ _ _))
    · replace hf := ot_ c5 hf
      refine hp_bipush (v := (-2)) dX9_drops_32 bi_m2 (?_ : hp_G _ _ _ _ _ _ _ _ _ 34 _ _ _)
      obtain rfl := Option.some.inj hf
      exact hp_iret kr (fun z => z) rfl dX9_drops_34
    · replace hf := of_ c5 hf
      refine hp_iload 4 dX9_drops_21 rfl (?_ : hp_G _ _ _ _ _ _ _ _ _ 23 _ _ _)
      refine hp_iconst (v := 0) dX9_drops_23 ic_0 (?_ : hp_G _ _ _ _ _ _ _ _ _ 24 _ _ _)
      refine hp_bipush (v := 10) dX9_drops_24 bi_10 (?_ : hp_G _ _ _ _ _ _ _ _ _ 26 _ _ _)
      replace hf := ob_ hf
      obtain ⟨r6, er6, hf⟩ := hf
      refine clX9_67 (as := [.int p4, .int 0, .int 10]) (st := []) rfl (kX9_within l er6) rfl (by decide) (Nat.le_of_ble_eq_true rfl) dX9_drops_26 rfl (?_ : hp_G _ _ _ _ _ _ _ _ _ 29 _ _ _)
      refine hp_if_ne (tgt := 35) dX9_drops_29 rfl (fun c7 => ?_) (fun c7 => (?_ : hp_G _ _ _ _ _ _ _ _ _ 32 _ _ _))
      · replace hf := of_ c7 hf
        refine hp_aload_n 0 dX9_drops_35 rfl rfl (?_ : hp_G _ _ _ _ _ _ _ _ _ 36 _ _ _)
        refine hp_iload_n 1 dX9_drops_36 rfl rfl (?_ : hp_G _ _ _ _ _ _ _ _ _ 37 _ _ _)
        refine hp_iload_n 2 dX9_drops_37 rfl rfl (?_ : hp_G _ _ _ _ _ _ _ _ _ 38 _ _ _)
        refine hp_iload_n 3 dX9_drops_38 rfl rfl (?_ : hp_G _ _ _ _ _ _ _ _ _ 39 _ _ _)
        refine hp_iconst (v := 2) dX9_drops_39 ic_2 (?_ : hp_G _ _ _ _ _ _ _ _ _ 40 _ _ _)
        refine hp_iload 4 dX9_drops_40 rfl (?_ : hp_G _ _ _ _ _ _ _ _ _ 42 _ _ _)
        refine hp_imul dX9_drops_42 (?_ : hp_G _ _ _ _ _ _ _ _ _ 43 _ _ _)
        replace hf := ob_ hf
        obtain ⟨o8, eo8, hf⟩ := hf
        replace hf := ob_ hf
        obtain ⟨r9, er9, hf⟩ := hf
        refine clX9_87 (as := [.int p1, .int p2, .int p3, .int (2 * p4)]) (st := []) rfl (kX9_against l er9) rfl (by decide) (Nat.le_of_ble_eq_true rfl) eo8 dX9_drops_43 rfl (?_ : hp_G _ _ _ _ _ _ _ _ _ 46 _ _ _)
        refine hp_istore (lv' := [(5, .int r9), (0, .ref a0), (1, .int p1), (2, .int p2), (3, .int p3), (4, .int p4)]) dX9_drops_46 (Nat.le_of_ble_eq_true rfl) rfl (?_ : hp_G _ _ _ _ _ _ _ _ _ 48 _ _ _)
        refine hp_iload 0 dX9_drops_48 rfl (?_ : hp_G _ _ _ _ _ _ _ _ _ 50 _ _ _)
        refine hp_if_eq (tgt := 60) dX9_drops_50 rfl (fun c10 => ?_) (fun c10 => (?_ : hp_G _ _ _ _ _ _ _ _ _ 53 _ _ _))
        · replace hf := ot_ c10 hf
          refine hp_aload_n 1 dX9_drops_60 rfl rfl (?_ : hp_G _ _ _ _ _ _ _ _ _ 61 _ _ _)
          replace hf := ob_ hf
          obtain ⟨x11, ex11, hf⟩ := hf
          refine fgX9_71 rfl dX9_drops_61 ex11 (?_ : hp_G _ _ _ _ _ _ _ _ _ 64 _ _ _)
          refine hp_if_ne (tgt := 70) dX9_drops_64 rfl (fun c12 => ?_) (fun c12 => (?_ : hp_G _ _ _ _ _ _ _ _ _ 67 _ _ _))
          · replace hf := of_ c12 hf
            refine hp_bipush (v := 60) dX9_drops_70 bi_60 (?_ : hp_G _ _ _ _ _ _ _ _ _ 72 _ _ _)
            refine hp_iload_n 2 dX9_drops_72 rfl rfl (?_ : hp_G _ _ _ _ _ _ _ _ _ 73 _ _ _)
            refine hp_imul dX9_drops_73 (?_ : hp_G _ _ _ _ _ _ _ _ _ 74 _ _ _)
            refine hp_iload_n 4 dX9_drops_74 rfl rfl (?_ : hp_G _ _ _ _ _ _ _ _ _ 75 _ _ _)
            refine hp_iadd dX9_drops_75 (?_ : hp_G _ _ _ _ _ _ _ _ _ 76 _ _ _)
            replace hf := ob_ hf
            obtain ⟨x13, ex13, hf⟩ := hf
            refine hp_nmi ex13 ?_
            refine hp_istore (lv' := [(6, .int x13), (5, .int r9), (0, .ref a0), (1, .int p1), (2, .int p2), (3, .int p3), (4, .int p4)]) dX9_drops_76 (Nat.le_of_ble_eq_true rfl) rfl (?_ : hp_G _ _ _ _ _ _ _ _ _ 78 _ _ _)
            refine hp_aload_n 2 dX9_drops_78 rfl rfl (?_ : hp_G _ _ _ _ _ _ _ _ _ 79 _ _ _)
            refine hp_iload 0 dX9_drops_79 rfl (?_ : hp_G _ _ _ _ _ _ _ _ _ 81 _ _ _)
            refine hp_iload 6 dX9_drops_81 rfl (?_ : hp_G _ _ _ _ _ _ _ _ _ 83 _ _ _)
            replace hf := ob_ hf
            obtain ⟨o14, eo14, hf⟩ := hf
            replace hf := ob_ hf
            obtain ⟨r15, er15, hf⟩ := hf
            refine clX9_189 (as := [.int x13, .int p4]) (st := []) rfl (kX9_refusesTwos l er15) rfl (by decide) (Nat.le_of_ble_eq_true rfl) eo14 dX9_drops_83 rfl (?_ : hp_G _ _ _ _ _ _ _ _ _ 86 _ _ _)
            refine hp_if_eq (tgt := 91) dX9_drops_86 rfl (fun c16 => ?_) (fun c16 => (?_ : hp_G _ _ _ _ _ _ _ _ _ 89 _ _ _))
            · replace hf := ot_ c16 hf
              refine hp_bipush (v := (-9)) dX9_drops_91 bi_m9 (?_ : hp_G _ _ _ _ _ _ _ _ _ 93 _ _ _)
              refine hp_istore (lv' := [(7, .int ((-9))), (6, .int x13), (5, .int r9), (0, .ref a0), (1, .int p1), (2, .int p2), (3, .int p3), (4, .int p4)]) dX9_drops_93 (Nat.le_of_ble_eq_true rfl) rfl (?_ : hp_G _ _ _ _ _ _ _ _ _ 95 _ _ _)
              refine hp_iconst (v := 0) dX9_drops_95 ic_0 (?_ : hp_G _ _ _ _ _ _ _ _ _ 96 _ _ _)
              refine hp_istore (lv' := [(8, .int 0), (7, .int ((-9))), (6, .int x13), (5, .int r9), (0, .ref a0), (1, .int p1), (2, .int p2), (3, .int p3), (4, .int p4)]) dX9_drops_96 (Nat.le_of_ble_eq_true rfl) rfl (?_ : hp_G _ _ _ _ _ _ _ _ _ 98 _ _ _)
              replace hf := ob_ hf
              obtain ⟨x27, ex27, hf⟩ := hf
              refine hp_sub [4, 8, 2, 1, 0] rfl ?_
              refine tlX9_drops_98 l fu_ ex27 (fun y hy => ?_)
              obtain rfl := hy
              refine hp_iload 0 dX9_drops_162 rfl (?_ : hp_G _ _ _ _ _ _ _ _ _ 164 _ _ _)
              obtain rfl := Option.some.inj hf
              exact hp_iret kr (fun z => z) rfl dX9_drops_164
            · replace hf := of_ c16 hf
              refine hp_iconst (v := (-1)) dX9_drops_89 ic_m1 (?_ : hp_G _ _ _ _ _ _ _ _ _ 90 _ _ _)
              obtain rfl := Option.some.inj hf
              exact hp_iret kr (fun z => z) rfl dX9_drops_90
          · replace hf := ot_ c12 hf
            refine hp_bipush (v := (-3)) dX9_drops_67 bi_m3 (?_ : hp_G _ _ _ _ _ _ _ _ _ 69 _ _ _)
            obtain rfl := Option.some.inj hf
            exact hp_iret kr (fun z => z) rfl dX9_drops_69
        · replace hf := of_ c10 hf
          refine hp_aload_n 1 dX9_drops_53 rfl rfl (?_ : hp_G _ _ _ _ _ _ _ _ _ 54 _ _ _)
          refine hp_iload 0 dX9_drops_54 rfl (?_ : hp_G _ _ _ _ _ _ _ _ _ 56 _ _ _)
          replace hf := ob_ hf
          obtain ⟨o28, eo28, hf⟩ := hf
          replace hf := ob_ hf
          obtain ⟨r29, er29, hf⟩ := hf
          refine clX9_91 (as := [.int r9]) (st := []) rfl (kX9_fails l er29) rfl (by decide) (Nat.le_of_ble_eq_true rfl) eo28 dX9_drops_56 rfl (?_ : hp_G _ _ _ _ _ _ _ _ _ 59 _ _ _)
          obtain rfl := Option.some.inj hf
          exact hp_iret kr (fun z => z) rfl dX9_drops_59
      · replace hf := ot_ c7 hf
        refine hp_bipush (v := (-2)) dX9_drops_32 bi_m2 (?_ : hp_G _ _ _ _ _ _ _ _ _ 34 _ _ _)
        obtain rfl := Option.some.inj hf
        exact hp_iret kr (fun z => z) rfl dX9_drops_34
  · replace hf := ot_ c3 hf
    refine hp_iconst (v := (-1)) dX9_drops_12 ic_m1 (?_ : hp_G _ _ _ _ _ _ _ _ _ 13 _ _ _)
    obtain rfl := Option.some.inj hf
    exact hp_iret kr (fun z => z) rfl dX9_drops_13
theorem kX9_drops (l : Launch) {h : hp_H} {a0 : Nat} {p1 : Int32} {p2 : Int32} {p3 : Int32} {p4 : Int32} {r : (Int32 × hp_H)} (hf : fX9_drops h a0 p1 p2 p3 p4 = some r) : hp_Cn l yX9_drops mX9_drops 3 false 0 0 [.ref a0, .int p1, .int p2, .int p3, .int p4] h (fun v h2 => some (.int r.1) = v ∧ r.2 = h2) :=
  hp_of (by decide) rfl (fun z => by cases z) (Nat.le_of_ble_eq_true rfl) (tX9_drops l hf ⟨rfl, rfl⟩)
noncomputable def fX0_note (h : hp_H) (a0 : Nat) (p1 : Int32) (p2 : Int32) (p3 : Int32) (p4 : Int32) : Option (Int32 × hp_H) :=
(gi_ h a0 0 4).bind fun x1 =>
if x1 < 8 then
((gq_ h a0 0 0).bind fun x3 =>
(gi_ h a0 0 4).bind fun x4 =>
(ax_ h x3 x4 p1).bind fun h5 =>
(gq_ h5 a0 0 1).bind fun x6 =>
(gi_ h5 a0 0 4).bind fun x7 =>
(ax_ h5 x6 x7 p2).bind fun h8 =>
(gq_ h8 a0 0 2).bind fun x9 =>
(gi_ h8 a0 0 4).bind fun x10 =>
(ax_ h8 x9 x10 p3).bind fun h11 =>
(gq_ h11 a0 0 3).bind fun x12 =>
(gi_ h11 a0 0 4).bind fun x13 =>
(ax_ h11 x12 x13 p4).bind fun h14 =>
(gi_ h14 a0 0 4).bind fun x15 =>
(pi_ h14 a0 0 4 (x15 + 1)).bind fun h16 =>
some (x15, h16))
else
(some ((-4), h))
set_option maxRecDepth 20000 in
set_option maxHeartbeats 4000000 in
theorem tX0_note (l : Launch) {h : hp_H} {a0 : Nat} {p1 : Int32} {p2 : Int32} {p3 : Int32} {p4 : Int32} {r : (Int32 × hp_H)} (hf : fX0_note h a0 p1 p2 p3 p4 = some r) {Q : Option Value → hp_H → Prop} (kr : Q (some (.int r.1)) r.2) : hp_G l mX0_note none 0 false Q false 0 0 0 [(0, .ref a0), (1, .int p1), (2, .int p2), (3, .int p3), (4, .int p4)] [] h := by
  unfold fX0_note at hf
  refine hp_aload_n 0 dX0_note_0 rfl rfl (?_ : hp_G _ _ _ _ _ _ _ _ _ 1 _ _ _)
  replace hf := ob_ hf
  obtain ⟨x1, ex1, hf⟩ := hf
  refine fgX0_24 rfl dX0_note_1 ex1 (?_ : hp_G _ _ _ _ _ _ _ _ _ 4 _ _ _)
  refine hp_bipush (v := 8) dX0_note_4 bi_8 (?_ : hp_G _ _ _ _ _ _ _ _ _ 6 _ _ _)
  refine hp_icmp_lt (tgt := 12) dX0_note_6 rfl (fun c2 => ?_) (fun c2 => (?_ : hp_G _ _ _ _ _ _ _ _ _ 9 _ _ _))
  · replace hf := ot_ c2 hf
    refine hp_aload_n 0 dX0_note_12 rfl rfl (?_ : hp_G _ _ _ _ _ _ _ _ _ 13 _ _ _)
    replace hf := ob_ hf
    obtain ⟨x3, ex3, hf⟩ := hf
    refine fgX0_9 rfl dX0_note_13 ex3 (?_ : hp_G _ _ _ _ _ _ _ _ _ 16 _ _ _)
    refine hp_aload_n 0 dX0_note_16 rfl rfl (?_ : hp_G _ _ _ _ _ _ _ _ _ 17 _ _ _)
    replace hf := ob_ hf
    obtain ⟨x4, ex4, hf⟩ := hf
    refine fgX0_24 rfl dX0_note_17 ex4 (?_ : hp_G _ _ _ _ _ _ _ _ _ 20 _ _ _)
    refine hp_iload_n 1 dX0_note_20 rfl rfl (?_ : hp_G _ _ _ _ _ _ _ _ _ 21 _ _ _)
    replace hf := ob_ hf
    obtain ⟨h5, eh5, hf⟩ := hf
    refine hp_iastore dX0_note_21 eh5 (?_ : hp_G _ _ _ _ _ _ _ _ _ 22 _ _ _)
    refine hp_aload_n 0 dX0_note_22 rfl rfl (?_ : hp_G _ _ _ _ _ _ _ _ _ 23 _ _ _)
    replace hf := ob_ hf
    obtain ⟨x6, ex6, hf⟩ := hf
    refine fgX0_15 rfl dX0_note_23 ex6 (?_ : hp_G _ _ _ _ _ _ _ _ _ 26 _ _ _)
    refine hp_aload_n 0 dX0_note_26 rfl rfl (?_ : hp_G _ _ _ _ _ _ _ _ _ 27 _ _ _)
    replace hf := ob_ hf
    obtain ⟨x7, ex7, hf⟩ := hf
    refine fgX0_24 rfl dX0_note_27 ex7 (?_ : hp_G _ _ _ _ _ _ _ _ _ 30 _ _ _)
    refine hp_iload_n 2 dX0_note_30 rfl rfl (?_ : hp_G _ _ _ _ _ _ _ _ _ 31 _ _ _)
    replace hf := ob_ hf
    obtain ⟨h8, eh8, hf⟩ := hf
    refine hp_iastore dX0_note_31 eh8 (?_ : hp_G _ _ _ _ _ _ _ _ _ 32 _ _ _)
    refine hp_aload_n 0 dX0_note_32 rfl rfl (?_ : hp_G _ _ _ _ _ _ _ _ _ 33 _ _ _)
    replace hf := ob_ hf
    obtain ⟨x9, ex9, hf⟩ := hf
    refine fgX0_18 rfl dX0_note_33 ex9 (?_ : hp_G _ _ _ _ _ _ _ _ _ 36 _ _ _)
    refine hp_aload_n 0 dX0_note_36 rfl rfl (?_ : hp_G _ _ _ _ _ _ _ _ _ 37 _ _ _)
    replace hf := ob_ hf
    obtain ⟨x10, ex10, hf⟩ := hf
    refine fgX0_24 rfl dX0_note_37 ex10 (?_ : hp_G _ _ _ _ _ _ _ _ _ 40 _ _ _)
    refine hp_iload_n 3 dX0_note_40 rfl rfl (?_ : hp_G _ _ _ _ _ _ _ _ _ 41 _ _ _)
    replace hf := ob_ hf
    obtain ⟨h11, eh11, hf⟩ := hf
    refine hp_iastore dX0_note_41 eh11 (?_ : hp_G _ _ _ _ _ _ _ _ _ 42 _ _ _)
    refine hp_aload_n 0 dX0_note_42 rfl rfl (?_ : hp_G _ _ _ _ _ _ _ _ _ 43 _ _ _)
    replace hf := ob_ hf
    obtain ⟨x12, ex12, hf⟩ := hf
    refine fgX0_21 rfl dX0_note_43 ex12 (?_ : hp_G _ _ _ _ _ _ _ _ _ 46 _ _ _)
    refine hp_aload_n 0 dX0_note_46 rfl rfl (?_ : hp_G _ _ _ _ _ _ _ _ _ 47 _ _ _)
    replace hf := ob_ hf
    obtain ⟨x13, ex13, hf⟩ := hf
    refine fgX0_24 rfl dX0_note_47 ex13 (?_ : hp_G _ _ _ _ _ _ _ _ _ 50 _ _ _)
    refine hp_iload 4 dX0_note_50 rfl (?_ : hp_G _ _ _ _ _ _ _ _ _ 52 _ _ _)
    replace hf := ob_ hf
    obtain ⟨h14, eh14, hf⟩ := hf
    refine hp_iastore dX0_note_52 eh14 (?_ : hp_G _ _ _ _ _ _ _ _ _ 53 _ _ _)
    refine hp_aload_n 0 dX0_note_53 rfl rfl (?_ : hp_G _ _ _ _ _ _ _ _ _ 54 _ _ _)
    refine hp_dup dX0_note_54 rfl (?_ : hp_G _ _ _ _ _ _ _ _ _ 55 _ _ _)
    replace hf := ob_ hf
    obtain ⟨x15, ex15, hf⟩ := hf
    refine fgX0_24 rfl dX0_note_55 ex15 (?_ : hp_G _ _ _ _ _ _ _ _ _ 58 _ _ _)
    refine hp_dup_x1 dX0_note_58 rfl rfl (?_ : hp_G _ _ _ _ _ _ _ _ _ 59 _ _ _)
    refine hp_iconst (v := 1) dX0_note_59 ic_1 (?_ : hp_G _ _ _ _ _ _ _ _ _ 60 _ _ _)
    refine hp_iadd dX0_note_60 (?_ : hp_G _ _ _ _ _ _ _ _ _ 61 _ _ _)
    replace hf := ob_ hf
    obtain ⟨h16, eh16, hf⟩ := hf
    refine fpX0_24 rfl dX0_note_61 eh16 (?_ : hp_G _ _ _ _ _ _ _ _ _ 64 _ _ _)
    obtain rfl := Option.some.inj hf
    exact hp_iret kr (fun z => z) rfl dX0_note_64
  · replace hf := of_ c2 hf
    refine hp_bipush (v := (-4)) dX0_note_9 bi_m4 (?_ : hp_G _ _ _ _ _ _ _ _ _ 11 _ _ _)
    obtain rfl := Option.some.inj hf
    exact hp_iret kr (fun z => z) rfl dX0_note_11
theorem kX0_note (l : Launch) {h : hp_H} {a0 : Nat} {p1 : Int32} {p2 : Int32} {p3 : Int32} {p4 : Int32} {r : (Int32 × hp_H)} (hf : fX0_note h a0 p1 p2 p3 p4 = some r) : hp_Cn l yX0_note mX0_note 0 false 0 0 [.ref a0, .int p1, .int p2, .int p3, .int p4] h (fun v h2 => some (.int r.1) = v ∧ r.2 = h2) :=
  hp_of (by decide) rfl (fun z => by cases z) (Nat.le_of_ble_eq_true rfl) (tX0_note l hf ⟨rfl, rfl⟩)
