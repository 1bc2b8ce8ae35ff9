noncomputable def jX9_strengths_53_22 (g : hp_H) (v0 : Nat) (v1 : Int32) (v2 : Int32) (u4 : Int32) (k0 : Int32) (k1 : Int32) : Option ((Int32 × Int32 × hp_H) ⊕ (Int32 × hp_H)) :=
(some (k1 ||| k0)).bind fun x12 =>
(some (u4 + 1)).bind fun x13 =>
some (.inl (x12, x13, g))
set_option maxRecDepth 20000 in
set_option maxHeartbeats 4000000 in
theorem tjX9_strengths_53_22 (l : Launch) {g : hp_H} {v0 : Nat} {v1 : Int32} {v2 : Int32} {u4 : Int32} {k0 : Int32} {k1 : Int32} {r : ((Int32 × Int32 × hp_H) ⊕ (Int32 × hp_H))} (hf : jX9_strengths_53_22 g v0 v1 v2 u4 k0 k1 = some r) {Q : Option Value → hp_H → Prop} (kb : ∀ t, r = .inl t → hp_G l mX9_strengths none 3 false Q false 0 0 22 [(0, .ref v0), (1, .int v1), (2, .int v2), (3, .int t.1), (4, .int t.2.1)] [] t.2.2) (ke : ∀ x, r = .inr x → hp_G l mX9_strengths none 3 false Q false 0 0 61 [(0, .ref v0), (1, .int v1), (2, .int v2), (3, .int x.1)] [] x.2) : hp_G l mX9_strengths none 3 false Q false 0 0 53 [(0, .ref v0), (1, .int v1), (2, .int v2), (4, .int u4)] [.int k0, .int k1] g := by
  unfold jX9_strengths_53_22 at hf
  refine hp_ior dX9_strengths_53 (?_ : hp_G _ _ _ _ _ _ _ _ _ 54 _ _ _)
  replace hf := ob_ hf
  obtain ⟨x12, ex12, hf⟩ := hf
  refine hp_nmi ex12 ?_
  refine hp_istore_n (lv' := [(3, .int x12), (0, .ref v0), (1, .int v1), (2, .int v2), (4, .int u4)]) dX9_strengths_54 rfl (Nat.le_of_ble_eq_true rfl) rfl (?_ : hp_G _ _ _ _ _ _ _ _ _ 55 _ _ _)
  replace hf := ob_ hf
  obtain ⟨x13, ex13, hf⟩ := hf
  refine hp_iinc (v := x13) (lv' := [(4, .int x13), (3, .int x12), (0, .ref v0), (1, .int v1), (2, .int v2)]) 4 dX9_strengths_55 rfl (hp_inc ic_1 ex13) (Nat.le_of_ble_eq_true rfl) rfl (?_ : hp_G _ _ _ _ _ _ _ _ _ 58 _ _ _)
  refine hp_goto (tgt := 22) dX9_strengths_58 rfl (?_ : hp_G _ _ _ _ _ _ _ _ _ 22 _ _ _)
  obtain rfl := Option.some.inj hf
  exact hp_sub [2, 3, 4, 1, 0] rfl (kb _ rfl)
noncomputable def bX9_strengths_22 (v0 : Nat) (v1 : Int32) (v2 : Int32) (s : (Int32 × Int32 × hp_H)) : Option ((Int32 × Int32 × hp_H) ⊕ (Int32 × hp_H)) :=
if (9 : Int32) < s.2.1 then
(some (.inr (s.1, s.2.2)))
else
((gq_ s.2.2 v0 8 9).bind fun x7 =>
(ax_ s.2.2 x7 v1 s.2.1).bind fun h8 =>
(hg_o h8 v0 8).bind fun o9 =>
(fX9_areSo h8 v0).bind fun r10 =>
if r10 = 0 then
(jX9_strengths_53_22 h8 v0 v1 v2 s.2.1 0 s.1)
else
(jX9_strengths_53_22 h8 v0 v1 v2 s.2.1 ((1 : Int32) <<< (s.2.1 &&& 31)) s.1))
set_option maxRecDepth 20000 in
set_option maxHeartbeats 4000000 in
theorem tbX9_strengths_22 (l : Launch) {v0 : Nat} {v1 : Int32} {v2 : Int32}  {s : (Int32 × Int32 × hp_H)} {r : ((Int32 × Int32 × hp_H) ⊕ (Int32 × hp_H))} (hf : bX9_strengths_22  v0 v1 v2 s = some r) {Q : Option Value → hp_H → Prop} (kb : ∀ t, r = .inl t → hp_G l mX9_strengths none 3 false Q false 0 0 22 [(0, .ref v0), (1, .int v1), (2, .int v2), (3, .int t.1), (4, .int t.2.1)] [] t.2.2) (ke : ∀ x, r = .inr x → hp_G l mX9_strengths none 3 false Q false 0 0 61 [(0, .ref v0), (1, .int v1), (2, .int v2), (3, .int x.1)] [] x.2) : hp_G l mX9_strengths none 3 false Q false 0 0 22 [(0, .ref v0), (1, .int v1), (2, .int v2), (3, .int s.1), (4, .int s.2.1)] [] s.2.2 := by
  unfold bX9_strengths_22 at hf
  refine hp_iload 4 dX9_strengths_22 rfl (?_ : hp_G _ _ _ _ _ _ _ _ _ 24 _ _ _)
  refine hp_bipush (v := 9) dX9_strengths_24 bi_9 (?_ : hp_G _ _ _ _ _ _ _ _ _ 26 _ _ _)
  refine hp_icmp_gt (tgt := 61) dX9_strengths_26 rfl (fun c6 => ?_) (fun c6 => (?_ : hp_G _ _ _ _ _ _ _ _ _ 29 _ _ _))
  · replace hf := ot_ c6 hf
    obtain rfl := Option.some.inj hf
    exact hp_sub [0, 1, 2, 3] rfl (ke _ rfl)
  · replace hf := of_ c6 hf
    refine hp_aload_n 0 dX9_strengths_29 rfl rfl (?_ : hp_G _ _ _ _ _ _ _ _ _ 30 _ _ _)
    replace hf := ob_ hf
    obtain ⟨x7, ex7, hf⟩ := hf
    refine fgX9_22 rfl dX9_strengths_30 ex7 (?_ : hp_G _ _ _ _ _ _ _ _ _ 33 _ _ _)
    refine hp_iload_n 1 dX9_strengths_33 rfl rfl (?_ : hp_G _ _ _ _ _ _ _ _ _ 34 _ _ _)
    refine hp_iload 4 dX9_strengths_34 rfl (?_ : hp_G _ _ _ _ _ _ _ _ _ 36 _ _ _)
    replace hf := ob_ hf
    obtain ⟨h8, eh8, hf⟩ := hf
    refine hp_iastore dX9_strengths_36 eh8 (?_ : hp_G _ _ _ _ _ _ _ _ _ 37 _ _ _)
    refine hp_iload_n 3 dX9_strengths_37 rfl rfl (?_ : hp_G _ _ _ _ _ _ _ _ _ 38 _ _ _)
    refine hp_aload_n 0 dX9_strengths_38 rfl rfl (?_ : hp_G _ _ _ _ _ _ _ _ _ 39 _ _ _)
    replace hf := ob_ hf
    obtain ⟨o9, eo9, hf⟩ := hf
    replace hf := ob_ hf
    obtain ⟨r10, er10, hf⟩ := hf
    refine clX9_201 (as := []) (st := [.int s.1]) rfl (kX9_areSo l er10) rfl (by decide) (Nat.le_of_ble_eq_true rfl) eo9 dX9_strengths_39 rfl (?_ : hp_G _ _ _ _ _ _ _ _ _ 42 _ _ _)
    refine hp_if_eq (tgt := 52) dX9_strengths_42 rfl (fun c11 => ?_) (fun c11 => (?_ : hp_G _ _ _ _ _ _ _ _ _ 45 _ _ _))
    · replace hf := ot_ c11 hf
      refine hp_iconst (v := 0) dX9_strengths_52 ic_0 (?_ : hp_G _ _ _ _ _ _ _ _ _ 53 _ _ _)
      exact hp_sub [0, 1, 2, 4] rfl (tjX9_strengths_53_22 l hf kb ke)
    · replace hf := of_ c11 hf
      refine hp_iconst (v := 1) dX9_strengths_45 ic_1 (?_ : hp_G _ _ _ _ _ _ _ _ _ 46 _ _ _)
      refine hp_iload 4 dX9_strengths_46 rfl (?_ : hp_G _ _ _ _ _ _ _ _ _ 48 _ _ _)
      refine hp_ishl dX9_strengths_48 (?_ : hp_G _ _ _ _ _ _ _ _ _ 49 _ _ _)
      refine hp_goto (tgt := 53) dX9_strengths_49 rfl (?_ : hp_G _ _ _ _ _ _ _ _ _ 53 _ _ _)
      exact hp_sub [0, 1, 2, 4] rfl (tjX9_strengths_53_22 l hf kb ke)
set_option maxRecDepth 20000 in
set_option maxHeartbeats 4000000 in
theorem tlX9_strengths_22 (l : Launch) {v0 : Nat} {v1 : Int32} {v2 : Int32}  (q : Nat) {s : (Int32 × Int32 × hp_H)} {x : (Int32 × hp_H)} (hf : it_ (bX9_strengths_22  v0 v1 v2) q s = some x) {Q : Option Value → hp_H → Prop} (ke : ∀ e, x = e → hp_G l mX9_strengths none 3 false Q false 0 0 61 [(0, .ref v0), (1, .int v1), (2, .int v2), (3, .int e.1)] [] e.2) : hp_G l mX9_strengths none 3 false Q false 0 0 22 [(0, .ref v0), (1, .int v1), (2, .int v2), (3, .int s.1), (4, .int s.2.1)] [] s.2.2 := by
  exact it_rule (f := bX9_strengths_22  v0 v1 v2) (fun s => hp_G l mX9_strengths none 3 false Q false 0 0 22 [(0, .ref v0), (1, .int v1), (2, .int v2), (3, .int s.1), (4, .int s.2.1)] [] s.2.2) (fun x => (∀ e, x = e → hp_G l mX9_strengths none 3 false Q false 0 0 61 [(0, .ref v0), (1, .int v1), (2, .int v2), (3, .int e.1)] [] e.2)) (fun s r h1 h2 h3 => tbX9_strengths_22 l h1 (fun t e => h2 t e) (fun e he => h3 _ he _ rfl)) q s x hf ke
noncomputable def fX9_strengths (h : hp_H) (a0 : Nat) (p1 : Int32) : Option (Int32 × hp_H) :=
(hg_o h a0 8).bind fun o1 =>
(fX9_isPerson h a0 p1).bind fun r2 =>
if r2 = 0 then
(some ((-1), h))
else
((gq_ h a0 8 9).bind fun x4 =>
(al_ h x4 p1).bind fun x5 =>
(it_ (bX9_strengths_22  a0 p1 x5) fu_ (0, 0, h)).bind fun x14 =>
(gq_ x14.2 a0 8 9).bind fun x15 =>
(ax_ x14.2 x15 p1 x5).bind fun h16 =>
some (x14.1, h16))
set_option maxRecDepth 20000 in
set_option maxHeartbeats 4000000 in
theorem tX9_strengths (l : Launch) {h : hp_H} {a0 : Nat} {p1 : Int32} {r : (Int32 × hp_H)} (hf : fX9_strengths h a0 p1 = some r) {Q : Option Value → hp_H → Prop} (kr : Q (some (.int r.1)) r.2) : hp_G l mX9_strengths none 3 false Q false 0 0 0 [(0, .ref a0), (1, .int p1)] [] h := by
  unfold fX9_strengths at hf
  refine hp_aload_n 0 dX9_strengths_0 rfl rfl (?_ : hp_G _ _ _ _ _ _ _ _ _ 1 _ _ _)
  refine hp_iload_n 1 dX9_strengths_1 rfl rfl (?_ : hp_G _ _ _ _ _ _ _ _ _ 2 _ _ _)
  replace hf := ob_ hf
  obtain ⟨o1, eo1, hf⟩ := hf
  replace hf := ob_ hf
  obtain ⟨r2, er2, hf⟩ := hf
  refine clX9_74 (as := [.int p1]) (st := []) rfl (kX9_isPerson l er2) rfl (by decide) (Nat.le_of_ble_eq_true rfl) eo1 dX9_strengths_2 rfl (?_ : hp_G _ _ _ _ _ _ _ _ _ 5 _ _ _)
  refine hp_if_ne (tgt := 10) dX9_strengths_5 rfl (fun c3 => ?_) (fun c3 => (?_ : hp_G _ _ _ _ _ _ _ _ _ 8 _ _ _))
  · replace hf := of_ c3 hf
    refine hp_aload_n 0 dX9_strengths_10 rfl rfl (?_ : hp_G _ _ _ _ _ _ _ _ _ 11 _ _ _)
    replace hf := ob_ hf
    obtain ⟨x4, ex4, hf⟩ := hf
    refine fgX9_22 rfl dX9_strengths_11 ex4 (?_ : hp_G _ _ _ _ _ _ _ _ _ 14 _ _ _)
    refine hp_iload_n 1 dX9_strengths_14 rfl rfl (?_ : hp_G _ _ _ _ _ _ _ _ _ 15 _ _ _)
    replace hf := ob_ hf
    obtain ⟨x5, ex5, hf⟩ := hf
    refine hp_iaload dX9_strengths_15 ex5 (?_ : hp_G _ _ _ _ _ _ _ _ _ 16 _ _ _)
    refine hp_istore_n (lv' := [(2, .int x5), (0, .ref a0), (1, .int p1)]) dX9_strengths_16 rfl (Nat.le_of_ble_eq_true rfl) rfl (?_ : hp_G _ _ _ _ _ _ _ _ _ 17 _ _ _)
    refine hp_iconst (v := 0) dX9_strengths_17 ic_0 (?_ : hp_G _ _ _ _ _ _ _ _ _ 18 _ _ _)
    refine hp_istore_n (lv' := [(3, .int 0), (2, .int x5), (0, .ref a0), (1, .int p1)]) dX9_strengths_18 rfl (Nat.le_of_ble_eq_true rfl) rfl (?_ : hp_G _ _ _ _ _ _ _ _ _ 19 _ _ _)
    refine hp_iconst (v := 0) dX9_strengths_19 ic_0 (?_ : hp_G _ _ _ _ _ _ _ _ _ 20 _ _ _)
    refine hp_istore (lv' := [(4, .int 0), (3, .int 0), (2, .int x5), (0, .ref a0), (1, .int p1)]) dX9_strengths_20 (Nat.le_of_ble_eq_true rfl) rfl (?_ : hp_G _ _ _ _ _ _ _ _ _ 22 _ _ _)
    replace hf := ob_ hf
    obtain ⟨x14, ex14, hf⟩ := hf
    refine hp_sub [3, 4, 2, 1, 0] rfl ?_
    refine tlX9_strengths_22 l fu_ ex14 (fun y hy => ?_)
    obtain rfl := hy
    refine hp_aload_n 0 dX9_strengths_61 rfl rfl (?_ : hp_G _ _ _ _ _ _ _ _ _ 62 _ _ _)
    replace hf := ob_ hf
    obtain ⟨x15, ex15, hf⟩ := hf
    refine fgX9_22 rfl dX9_strengths_62 ex15 (?_ : hp_G _ _ _ _ _ _ _ _ _ 65 _ _ _)
    refine hp_iload_n 1 dX9_strengths_65 rfl rfl (?_ : hp_G _ _ _ _ _ _ _ _ _ 66 _ _ _)
    refine hp_iload_n 2 dX9_strengths_66 rfl rfl (?_ : hp_G _ _ _ _ _ _ _ _ _ 67 _ _ _)
    replace hf := ob_ hf
    obtain ⟨h16, eh16, hf⟩ := hf
    refine hp_iastore dX9_strengths_67 eh16 (?_ : hp_G _ _ _ _ _ _ _ _ _ 68 _ _ _)
    refine hp_iload_n 3 dX9_strengths_68 rfl rfl (?_ : hp_G _ _ _ _ _ _ _ _ _ 69 _ _ _)
    obtain rfl := Option.some.inj hf
    exact hp_iret kr (fun z => z) rfl dX9_strengths_69
  · replace hf := ot_ c3 hf
    refine hp_iconst (v := (-1)) dX9_strengths_8 ic_m1 (?_ : hp_G _ _ _ _ _ _ _ _ _ 9 _ _ _)
    obtain rfl := Option.some.inj hf
    exact hp_iret kr (fun z => z) rfl dX9_strengths_9
theorem kX9_strengths (l : Launch) {h : hp_H} {a0 : Nat} {p1 : Int32} {r : (Int32 × hp_H)} (hf : fX9_strengths h a0 p1 = some r) : hp_Cn l yX9_strengths mX9_strengths 3 false 0 0 [.ref a0, .int p1] h (fun v h2 => some (.int r.1) = v ∧ r.2 = h2) :=
  hp_of (by decide) rfl (fun z => by cases z) (Nat.le_of_ble_eq_true rfl) (tX9_strengths l hf ⟨rfl, rfl⟩)
noncomputable def fX8_feints (h : hp_H) (a0 : Nat) (p1 : Int32) : Option (Int32 × hp_H) :=
(hg_o h a0 7).bind fun o1 =>
(fX8_agreeing h a0 p1 2 10).bind fun r2 =>
some (r2.1, r2.2)
set_option maxRecDepth 20000 in
set_option maxHeartbeats 4000000 in
theorem tX8_feints (l : Launch) {h : hp_H} {a0 : Nat} {p1 : Int32} {r : (Int32 × hp_H)} (hf : fX8_feints h a0 p1 = some r) {Q : Option Value → hp_H → Prop} (kr : Q (some (.int r.1)) r.2) : hp_G l mX8_feints none 5 false Q false 0 0 0 [(0, .ref a0), (1, .int p1)] [] h := by
  unfold fX8_feints at hf
  refine hp_aload_n 0 dX8_feints_0 rfl rfl (?_ : hp_G _ _ _ _ _ _ _ _ _ 1 _ _ _)
  refine hp_iload_n 1 dX8_feints_1 rfl rfl (?_ : hp_G _ _ _ _ _ _ _ _ _ 2 _ _ _)
  refine hp_iconst (v := 2) dX8_feints_2 ic_2 (?_ : hp_G _ _ _ _ _ _ _ _ _ 3 _ _ _)
  refine hp_bipush (v := 10) dX8_feints_3 bi_10 (?_ : hp_G _ _ _ _ _ _ _ _ _ 5 _ _ _)
  replace hf := ob_ hf
  obtain ⟨o1, eo1, hf⟩ := hf
  replace hf := ob_ hf
  obtain ⟨r2, er2, hf⟩ := hf
  refine clX8_197 (as := [.int p1, .int 2, .int 10]) (st := []) rfl (kX8_agreeing l er2) rfl (by decide) (Nat.le_of_ble_eq_true rfl) eo1 dX8_feints_5 rfl (?_ : hp_G _ _ _ _ _ _ _ _ _ 8 _ _ _)
  obtain rfl := Option.some.inj hf
  exact hp_iret kr (fun z => z) rfl dX8_feints_8
theorem kX8_feints (l : Launch) {h : hp_H} {a0 : Nat} {p1 : Int32} {r : (Int32 × hp_H)} (hf : fX8_feints h a0 p1 = some r) : hp_Cn l yX8_feints mX8_feints 5 false 0 0 [.ref a0, .int p1] h (fun v h2 => some (.int r.1) = v ∧ r.2 = h2) :=
  hp_of (by decide) rfl (fun z => by cases z) (Nat.le_of_ble_eq_true rfl) (tX8_feints l hf ⟨rfl, rfl⟩)
noncomputable def jX9_feints_53_22 (g : hp_H) (v0 : Nat) (v1 : Int32) (v2 : Int32) (u4 : Int32) (k0 : Int32) (k1 : Int32) : Option ((Int32 × Int32 × hp_H) ⊕ (Int32 × hp_H)) :=
(some (k1 ||| k0)).bind fun x12 =>
(some (u4 + 1)).bind fun x13 =>
some (.inl (x12, x13, g))
set_option maxRecDepth 20000 in
set_option maxHeartbeats 4000000 in
theorem tjX9_feints_53_22 (l : Launch) {g : hp_H} {v0 : Nat} {v1 : Int32} {v2 : Int32} {u4 : Int32} {k0 : Int32} {k1 : Int32} {r : ((Int32 × Int32 × hp_H) ⊕ (Int32 × hp_H))} (hf : jX9_feints_53_22 g v0 v1 v2 u4 k0 k1 = some r) {Q : Option Value → hp_H → Prop} (kb : ∀ t, r = .inl t → hp_G l mX9_feints none 3 false Q false 0 0 22 [(0, .ref v0), (1, .int v1), (2, .int v2), (3, .int t.1), (4, .int t.2.1)] [] t.2.2) (ke : ∀ x, r = .inr x → hp_G l mX9_feints none 3 false Q false 0 0 61 [(0, .ref v0), (1, .int v1), (2, .int v2), (3, .int x.1)] [] x.2) : hp_G l mX9_feints none 3 false Q false 0 0 53 [(0, .ref v0), (1, .int v1), (2, .int v2), (4, .int u4)] [.int k0, .int k1] g := by
  unfold jX9_feints_53_22 at hf
  refine hp_ior dX9_feints_53 (?_ : hp_G _ _ _ _ _ _ _ _ _ 54 _ _ _)
  replace hf := ob_ hf
  obtain ⟨x12, ex12, hf⟩ := hf
  refine hp_nmi ex12 ?_
  refine hp_istore_n (lv' := [(3, .int x12), (0, .ref v0), (1, .int v1), (2, .int v2), (4, .int u4)]) dX9_feints_54 rfl (Nat.le_of_ble_eq_true rfl) rfl (?_ : hp_G _ _ _ _ _ _ _ _ _ 55 _ _ _)
  replace hf := ob_ hf
  obtain ⟨x13, ex13, hf⟩ := hf
  refine hp_iinc (v := x13) (lv' := [(4, .int x13), (3, .int x12), (0, .ref v0), (1, .int v1), (2, .int v2)]) 4 dX9_feints_55 rfl (hp_inc ic_1 ex13) (Nat.le_of_ble_eq_true rfl) rfl (?_ : hp_G _ _ _ _ _ _ _ _ _ 58 _ _ _)
  refine hp_goto (tgt := 22) dX9_feints_58 rfl (?_ : hp_G _ _ _ _ _ _ _ _ _ 22 _ _ _)
  obtain rfl := Option.some.inj hf
  exact hp_sub [2, 3, 4, 1, 0] rfl (kb _ rfl)
noncomputable def bX9_feints_22 (v0 : Nat) (v1 : Int32) (v2 : Int32) (s : (Int32 × Int32 × hp_H)) : Option ((Int32 × Int32 × hp_H) ⊕ (Int32 × hp_H)) :=
if (9 : Int32) < s.2.1 then
(some (.inr (s.1, s.2.2)))
else
((gq_ s.2.2 v0 8 10).bind fun x7 =>
(ax_ s.2.2 x7 v1 s.2.1).bind fun h8 =>
(hg_o h8 v0 8).bind fun o9 =>
(fX9_areSo h8 v0).bind fun r10 =>
if r10 = 0 then
(jX9_feints_53_22 h8 v0 v1 v2 s.2.1 0 s.1)
else
(jX9_feints_53_22 h8 v0 v1 v2 s.2.1 ((1 : Int32) <<< (s.2.1 &&& 31)) s.1))
set_option maxRecDepth 20000 in
set_option maxHeartbeats 4000000 in
theorem tbX9_feints_22 (l : Launch) {v0 : Nat} {v1 : Int32} {v2 : Int32}  {s : (Int32 × Int32 × hp_H)} {r : ((Int32 × Int32 × hp_H) ⊕ (Int32 × hp_H))} (hf : bX9_feints_22  v0 v1 v2 s = some r) {Q : Option Value → hp_H → Prop} (kb : ∀ t, r = .inl t → hp_G l mX9_feints none 3 false Q false 0 0 22 [(0, .ref v0), (1, .int v1), (2, .int v2), (3, .int t.1), (4, .int t.2.1)] [] t.2.2) (ke : ∀ x, r = .inr x → hp_G l mX9_feints none 3 false Q false 0 0 61 [(0, .ref v0), (1, .int v1), (2, .int v2), (3, .int x.1)] [] x.2) : hp_G l mX9_feints none 3 false Q false 0 0 22 [(0, .ref v0), (1, .int v1), (2, .int v2), (3, .int s.1), (4, .int s.2.1)] [] s.2.2 := by
  unfold bX9_feints_22 at hf
  refine hp_iload 4 dX9_feints_22 rfl (?_ : hp_G _ _ _ _ _ _ _ _ _ 24 _ _ _)
  refine hp_bipush (v := 9) dX9_feints_24 bi_9 (?_ : hp_G _ _ _ _ _ _ _ _ _ 26 _ _ _)
  refine hp_icmp_gt (tgt := 61) dX9_feints_26 rfl (fun c6 => ?_) (fun c6 => (?_ : hp_G _ _ _ _ _ _ _ _ _ 29 _ _ _))
  · replace hf := ot_ c6 hf
    obtain rfl := Option.some.inj hf
    exact hp_sub [0, 1, 2, 3] rfl (ke _ rfl)
  · replace hf := of_ c6 hf
    refine hp_aload_n 0 dX9_feints_29 rfl rfl (?_ : hp_G _ _ _ _ _ _ _ _ _ 30 _ _ _)
    replace hf := ob_ hf
    obtain ⟨x7, ex7, hf⟩ := hf
    refine fgX9_25 rfl dX9_feints_30 ex7 (?_ : hp_G _ _ _ _ _ _ _ _ _ 33 _ _ _)
    refine hp_iload_n 1 dX9_feints_33 rfl rfl (?_ : hp_G _ _ _ _ _ _ _ _ _ 34 _ _ _)
    refine hp_iload 4 dX9_feints_34 rfl (?_ : hp_G _ _ _ _ _ _ _ _ _ 36 _ _ _)
    replace hf := ob_ hf
    obtain ⟨h8, eh8, hf⟩ := hf
    refine hp_iastore dX9_feints_36 eh8 (?_ : hp_G _ _ _ _ _ _ _ _ _ 37 _ _ _)
    refine hp_iload_n 3 dX9_feints_37 rfl rfl (?_ : hp_G _ _ _ _ _ _ _ _ _ 38 _ _ _)
    refine hp_aload_n 0 dX9_feints_38 rfl rfl (?_ : hp_G _ _ _ _ _ _ _ _ _ 39 _ _ _)
    replace hf := ob_ hf
    obtain ⟨o9, eo9, hf⟩ := hf
    replace hf := ob_ hf
    obtain ⟨r10, er10, hf⟩ := hf
    refine clX9_201 (as := []) (st := [.int s.1]) rfl (kX9_areSo l er10) rfl (by decide) (Nat.le_of_ble_eq_true rfl) eo9 dX9_feints_39 rfl (?_ : hp_G _ _ _ _ _ _ _ _ _ 42 _ _ _)
    refine hp_if_eq (tgt := 52) dX9_feints_42 rfl (fun c11 => ?_) (fun c11 => (?_ : hp_G _ _ _ _ _ _ _ _ _ 45 _ _ _))
    · replace hf := ot_ c11 hf
      refine hp_iconst (v := 0) dX9_feints_52 ic_0 (?_ : hp_G _ _ _ _ _ _ _ _ _ 53 _ _ _)
      exact hp_sub [0, 1, 2, 4] rfl (tjX9_feints_53_22 l hf kb ke)
    · replace hf := of_ c11 hf
      refine hp_iconst (v := 1) dX9_feints_45 ic_1 (?_ : hp_G _ _ _ _ _ _ _ _ _ 46 _ _ _)
      refine hp_iload 4 dX9_feints_46 rfl (?_ : hp_G _ _ _ _ _ _ _ _ _ 48 _ _ _)
      refine hp_ishl dX9_feints_48 (?_ : hp_G _ _ _ _ _ _ _ _ _ 49 _ _ _)
      refine hp_goto (tgt := 53) dX9_feints_49 rfl (?_ : hp_G _ _ _ _ _ _ _ _ _ 53 _ _ _)
      exact hp_sub [0, 1, 2, 4] rfl (tjX9_feints_53_22 l hf kb ke)
set_option maxRecDepth 20000 in
set_option maxHeartbeats 4000000 in
theorem tlX9_feints_22 (l : Launch) {v0 : Nat} {v1 : Int32} {v2 : Int32}  (q : Nat) {s : (Int32 × Int32 × hp_H)} {x : (Int32 × hp_H)} (hf : it_ (bX9_feints_22  v0 v1 v2) q s = some x) {Q : Option Value → hp_H → Prop} (ke : ∀ e, x = e → hp_G l mX9_feints none 3 false Q false 0 0 61 [(0, .ref v0), (1, .int v1), (2, .int v2), (3, .int e.1)] [] e.2) : hp_G l mX9_feints none 3 false Q false 0 0 22 [(0, .ref v0), (1, .int v1), (2, .int v2), (3, .int s.1), (4, .int s.2.1)] [] s.2.2 := by
  exact it_rule (f := bX9_feints_22  v0 v1 v2) (fun s => hp_G l mX9_feints none 3 false Q false 0 0 22 [(0, .ref v0), (1, .int v1), (2, .int v2), (3, .int s.1), (4, .int s.2.1)] [] s.2.2) (fun x => (∀ e, x = e → hp_G l mX9_feints none 3 false Q false 0 0 61 [(0, .ref v0), (1, .int v1), (2, .int v2), (3, .int e.1)] [] e.2)) (fun s r h1 h2 h3 => tbX9_feints_22 l h1 (fun t e => h2 t e) (fun e he => h3 _ he _ rfl)) q s x hf ke
noncomputable def fX9_feints (h : hp_H) (a0 : Nat) (p1 : Int32) : Option (Int32 × hp_H) :=
(hg_o h a0 8).bind fun o1 =>
(fX9_isPerson h a0 p1).bind fun r2 =>
if r2 = 0 then
(some ((-1), h))
else
((gq_ h a0 8 10).bind fun x4 =>
(al_ h x4 p1).bind fun x5 =>
(it_ (bX9_feints_22  a0 p1 x5) fu_ (0, 0, h)).bind fun x14 =>
(gq_ x14.2 a0 8 10).bind fun x15 =>
(ax_ x14.2 x15 p1 x5).bind fun h16 =>
some (x14.1, h16))
set_option maxRecDepth 20000 in
set_option maxHeartbeats 4000000 in
theorem tX9_feints (l : Launch) {h : hp_H} {a0 : Nat} {p1 : Int32} {r : (Int32 × hp_H)} (hf : fX9_feints h a0 p1 = some r) {Q : Option Value → hp_H → Prop} (kr : Q (some (.int r.1)) r.2) : hp_G l mX9_feints none 3 false Q false 0 0 0 [(0, .ref a0), (1, .int p1)] [] h := by
  unfold fX9_feints at hf
  refine hp_aload_n 0 dX9_feints_0 rfl rfl (?_ : hp_G _ _ _ _ _ _ _ _ _ 1 _ _ _)
  refine hp_iload_n 1 dX9_feints_1 rfl rfl (?_ : hp_G _ _ _ _ _ _ _ _ _ 2 _ _ _)
  replace hf := ob_ hf
  obtain ⟨o1, eo1, hf⟩ := hf
  replace hf := ob_ hf
  obtain ⟨r2, er2, hf⟩ := hf
  refine clX9_74 (as := [.int p1]) (st := []) rfl (kX9_isPerson l er2) rfl (by decide) (Nat.le_of_ble_eq_true rfl) eo1 dX9_feints_2 rfl (?_ : hp_G _ _ _ _ _ _ _ _ _ 5 _ _ _)
  refine hp_if_ne (tgt := 10) dX9_feints_5 rfl (fun c3 => ?_) (fun c3 => (?_ : hp_G _ _ _ _ _ _ _ _ _ 8 _ _ _))
  · replace hf := of_ c3 hf
    refine hp_aload_n 0 dX9_feints_10 rfl rfl (?_ : hp_G _ _ _ _ _ _ _ _ _ 11 _ _ _)
    replace hf := ob_ hf
    obtain ⟨x4, ex4, hf⟩ := hf
    refine fgX9_25 rfl dX9_feints_11 ex4 (?_ : hp_G _ _ _ _ _ _ _ _ _ 14 _ _ _)
    refine hp_iload_n 1 dX9_feints_14 rfl rfl (?_ : hp_G _ _ _ _ _ _ _ _ _ 15 _ _ _)
    replace hf := ob_ hf
    obtain ⟨x5, ex5, hf⟩ := hf
    refine hp_iaload dX9_feints_15 ex5 (?_ : hp_G _ _ _ _ _ _ _ _ _ 16 _ _ _)
    refine hp_istore_n (lv' := [(2, .int x5), (0, .ref a0), (1, .int p1)]) dX9_feints_16 rfl (Nat.le_of_ble_eq_true rfl) rfl (?_ : hp_G _ _ _ _ _ _ _ _ _ 17 _ _ _)
    refine hp_iconst (v := 0) dX9_feints_17 ic_0 (?_ : hp_G _ _ _ _ _ _ _ _ _ 18 _ _ _)
    refine hp_istore_n (lv' := [(3, .int 0), (2, .int x5), (0, .ref a0), (1, .int p1)]) dX9_feints_18 rfl (Nat.le_of_ble_eq_true rfl) rfl (?_ : hp_G _ _ _ _ _ _ _ _ _ 19 _ _ _)
    refine hp_iconst (v := 0) dX9_feints_19 ic_0 (?_ : hp_G _ _ _ _ _ _ _ _ _ 20 _ _ _)
    refine hp_istore (lv' := [(4, .int 0), (3, .int 0), (2, .int x5), (0, .ref a0), (1, .int p1)]) dX9_feints_20 (Nat.le_of_ble_eq_true rfl) rfl (?_ : hp_G _ _ _ _ _ _ _ _ _ 22 _ _ _)
    replace hf := ob_ hf
    obtain ⟨x14, ex14, hf⟩ := hf
    refine hp_sub [3, 4, 2, 1, 0] rfl ?_
    refine tlX9_feints_22 l fu_ ex14 (fun y hy => ?_)
    obtain rfl := hy
    refine hp_aload_n 0 dX9_feints_61 rfl rfl (?_ : hp_G _ _ _ _ _ _ _ _ _ 62 _ _ _)
    replace hf := ob_ hf
    obtain ⟨x15, ex15, hf⟩ := hf
    refine fgX9_25 rfl dX9_feints_62 ex15 (?_ : hp_G _ _ _ _ _ _ _ _ _ 65 _ _ _)
    refine hp_iload_n 1 dX9_feints_65 rfl rfl (?_ : hp_G _ _ _ _ _ _ _ _ _ 66 _ _ _)
    refine hp_iload_n 2 dX9_feints_66 rfl rfl (?_ : hp_G _ _ _ _ _ _ _ _ _ 67 _ _ _)
    replace hf := ob_ hf
    obtain ⟨h16, eh16, hf⟩ := hf
    refine hp_iastore dX9_feints_67 eh16 (?_ : hp_G _ _ _ _ _ _ _ _ _ 68 _ _ _)
    refine hp_iload_n 3 dX9_feints_68 rfl rfl (?_ : hp_G _ _ _ _ _ _ _ _ _ 69 _ _ _)
    obtain rfl := Option.some.inj hf
    exact hp_iret kr (fun z => z) rfl dX9_feints_69
  · replace hf := ot_ c3 hf
    refine hp_iconst (v := (-1)) dX9_feints_8 ic_m1 (?_ : hp_G _ _ _ _ _ _ _ _ _ 9 _ _ _)
    obtain rfl := Option.some.inj hf
    exact hp_iret kr (fun z => z) rfl dX9_feints_9
theorem kX9_feints (l : Launch) {h : hp_H} {a0 : Nat} {p1 : Int32} {r : (Int32 × hp_H)} (hf : fX9_feints h a0 p1 = some r) : hp_Cn l yX9_feints mX9_feints 3 false 0 0 [.ref a0, .int p1] h (fun v h2 => some (.int r.1) = v ∧ r.2 = h2) :=
  hp_of (by decide) rfl (fun z => by cases z) (Nat.le_of_ble_eq_true rfl) (tX9_feints l hf ⟨rfl, rfl⟩)
noncomputable def fX8_kinds (h : hp_H) (a0 : Nat) (p1 : Int32) : Option (Int32 × hp_H) :=
(hg_o h a0 7).bind fun o1 =>
(fX8_agreeing h a0 p1 0 3).bind fun r2 =>
some (r2.1, r2.2)
set_option maxRecDepth 20000 in
set_option maxHeartbeats 4000000 in
theorem tX8_kinds (l : Launch) {h : hp_H} {a0 : Nat} {p1 : Int32} {r : (Int32 × hp_H)} (hf : fX8_kinds h a0 p1 = some r) {Q : Option Value → hp_H → Prop} (kr : Q (some (.int r.1)) r.2) : hp_G l mX8_kinds none 5 false Q false 0 0 0 [(0, .ref a0), (1, .int p1)] [] h := by
  unfold fX8_kinds at hf
  refine hp_aload_n 0 dX8_kinds_0 rfl rfl (?_ : hp_G _ _ _ _ _ _ _ _ _ 1 _ _ _)
  refine hp_iload_n 1 dX8_kinds_1 rfl rfl (?_ : hp_G _ _ _ _ _ _ _ _ _ 2 _ _ _)
  refine hp_iconst (v := 0) dX8_kinds_2 ic_0 (?_ : hp_G _ _ _ _ _ _ _ _ _ 3 _ _ _)
  refine hp_iconst (v := 3) dX8_kinds_3 ic_3 (?_ : hp_G _ _ _ _ _ _ _ _ _ 4 _ _ _)
  replace hf := ob_ hf
  obtain ⟨o1, eo1, hf⟩ := hf
  replace hf := ob_ hf
  obtain ⟨r2, er2, hf⟩ := hf
  refine clX8_197 (as := [.int p1, .int 0, .int 3]) (st := []) rfl (kX8_agreeing l er2) rfl (by decide) (Nat.le_of_ble_eq_true rfl) eo1 dX8_kinds_4 rfl (?_ : hp_G _ _ _ _ _ _ _ _ _ 7 _ _ _)
  obtain rfl := Option.some.inj hf
  exact hp_iret kr (fun z => z) rfl dX8_kinds_7
theorem kX8_kinds (l : Launch) {h : hp_H} {a0 : Nat} {p1 : Int32} {r : (Int32 × hp_H)} (hf : fX8_kinds h a0 p1 = some r) : hp_Cn l yX8_kinds mX8_kinds 5 false 0 0 [.ref a0, .int p1] h (fun v h2 => some (.int r.1) = v ∧ r.2 = h2) :=
  hp_of (by decide) rfl (fun z => by cases z) (Nat.le_of_ble_eq_true rfl) (tX8_kinds l hf ⟨rfl, rfl⟩)
noncomputable def jX9_kinds_52_22 (g : hp_H) (v0 : Nat) (v1 : Int32) (v2 : Int32) (u4 : Int32) (k0 : Int32) (k1 : Int32) : Option ((Int32 × Int32 × hp_H) ⊕ (Int32 × hp_H)) :=
(some (k1 ||| k0)).bind fun x12 =>
(some (u4 + 1)).bind fun x13 =>
some (.inl (x12, x13, g))
set_option maxRecDepth 20000 in
set_option maxHeartbeats 4000000 in
theorem tjX9_kinds_52_22 (l : Launch) {g : hp_H} {v0 : Nat} {v1 : Int32} {v2 : Int32} {u4 : Int32} {k0 : Int32} {k1 : Int32} {r : ((Int32 × Int32 × hp_H) ⊕ (Int32 × hp_H))} (hf : jX9_kinds_52_22 g v0 v1 v2 u4 k0 k1 = some r) {Q : Option Value → hp_H → Prop} (kb : ∀ t, r = .inl t → hp_G l mX9_kinds none 3 false Q false 0 0 22 [(0, .ref v0), (1, .int v1), (2, .int v2), (3, .int t.1), (4, .int t.2.1)] [] t.2.2) (ke : ∀ x, r = .inr x → hp_G l mX9_kinds none 3 false Q false 0 0 60 [(0, .ref v0), (1, .int v1), (2, .int v2), (3, .int x.1)] [] x.2) : hp_G l mX9_kinds none 3 false Q false 0 0 52 [(0, .ref v0), (1, .int v1), (2, .int v2), (4, .int u4)] [.int k0, .int k1] g := by
  unfold jX9_kinds_52_22 at hf
  refine hp_ior dX9_kinds_52 (?_ : hp_G _ _ _ _ _ _ _ _ _ 53 _ _ _)
  replace hf := ob_ hf
  obtain ⟨x12, ex12, hf⟩ := hf
  refine hp_nmi ex12 ?_
  refine hp_istore_n (lv' := [(3, .int x12), (0, .ref v0), (1, .int v1), (2, .int v2), (4, .int u4)]) dX9_kinds_53 rfl (Nat.le_of_ble_eq_true rfl) rfl (?_ : hp_G _ _ _ _ _ _ _ _ _ 54 _ _ _)
  replace hf := ob_ hf
  obtain ⟨x13, ex13, hf⟩ := hf
  refine hp_iinc (v := x13) (lv' := [(4, .int x13), (3, .int x12), (0, .ref v0), (1, .int v1), (2, .int v2)]) 4 dX9_kinds_54 rfl (hp_inc ic_1 ex13) (Nat.le_of_ble_eq_true rfl) rfl (?_ : hp_G _ _ _ _ _ _ _ _ _ 57 _ _ _)
  refine hp_goto (tgt := 22) dX9_kinds_57 rfl (?_ : hp_G _ _ _ _ _ _ _ _ _ 22 _ _ _)
  obtain rfl := Option.some.inj hf
  exact hp_sub [2, 3, 4, 1, 0] rfl (kb _ rfl)
noncomputable def bX9_kinds_22 (v0 : Nat) (v1 : Int32) (v2 : Int32) (s : (Int32 × Int32 × hp_H)) : Option ((Int32 × Int32 × hp_H) ⊕ (Int32 × hp_H)) :=
if (3 : Int32) ≤ s.2.1 then
(some (.inr (s.1, s.2.2)))
else
((gq_ s.2.2 v0 8 8).bind fun x7 =>
(ax_ s.2.2 x7 v1 s.2.1).bind fun h8 =>
(hg_o h8 v0 8).bind fun o9 =>
(fX9_areSo h8 v0).bind fun r10 =>
if r10 = 0 then
(jX9_kinds_52_22 h8 v0 v1 v2 s.2.1 0 s.1)
else
(jX9_kinds_52_22 h8 v0 v1 v2 s.2.1 ((1 : Int32) <<< (s.2.1 &&& 31)) s.1))
set_option maxRecDepth 20000 in
set_option maxHeartbeats 4000000 in
theorem tbX9_kinds_22 (l : Launch) {v0 : Nat} {v1 : Int32} {v2 : Int32}  {s : (Int32 × Int32 × hp_H)} {r : ((Int32 × Int32 × hp_H) ⊕ (Int32 × hp_H))} (hf : bX9_kinds_22  v0 v1 v2 s = some r) {Q : Option Value → hp_H → Prop} (kb : ∀ t, r = .inl t → hp_G l mX9_kinds none 3 false Q false 0 0 22 [(0, .ref v0), (1, .int v1), (2, .int v2), (3, .int t.1), (4, .int t.2.1)] [] t.2.2) (ke : ∀ x, r = .inr x → hp_G l mX9_kinds none 3 false Q false 0 0 60 [(0, .ref v0), (1, .int v1), (2, .int v2), (3, .int x.1)] [] x.2) : hp_G l mX9_kinds none 3 false Q false 0 0 22 [(0, .ref v0), (1, .int v1), (2, .int v2), (3, .int s.1), (4, .int s.2.1)] [] s.2.2 := by
  unfold bX9_kinds_22 at hf
  refine hp_iload 4 dX9_kinds_22 rfl (?_ : hp_G _ _ _ _ _ _ _ _ _ 24 _ _ _)
  refine hp_iconst (v := 3) dX9_kinds_24 ic_3 (?_ : hp_G _ _ _ _ _ _ _ _ _ 25 _ _ _)
  refine hp_icmp_ge (tgt := 60) dX9_kinds_25 rfl (fun c6 => ?_) (fun c6 => (?_ : hp_G _ _ _ _ _ _ _ _ _ 28 _ _ _))
  · replace hf := ot_ c6 hf
    obtain rfl := Option.some.inj hf
    exact hp_sub [0, 1, 2, 3] rfl (ke _ rfl)
  · replace hf := of_ c6 hf
    refine hp_aload_n 0 dX9_kinds_28 rfl rfl (?_ : hp_G _ _ _ _ _ _ _ _ _ 29 _ _ _)
    replace hf := ob_ hf
    obtain ⟨x7, ex7, hf⟩ := hf
    refine fgX9_19 rfl dX9_kinds_29 ex7 (?_ : hp_G _ _ _ _ _ _ _ _ _ 32 _ _ _)
    refine hp_iload_n 1 dX9_kinds_32 rfl rfl (?_ : hp_G _ _ _ _ _ _ _ _ _ 33 _ _ _)
    refine hp_iload 4 dX9_kinds_33 rfl (?_ : hp_G _ _ _ _ _ _ _ _ _ 35 _ _ _)
    replace hf := ob_ hf
    obtain ⟨h8, eh8, hf⟩ := hf
    refine hp_iastore dX9_kinds_35 eh8 (?_ : hp_G _ _ _ _ _ _ _ _ _ 36 _ _ _)
    refine hp_iload_n 3 dX9_kinds_36 rfl rfl (?_ : hp_G _ _ _ _ _ _ _ _ _ 37 _ _ _)
    refine hp_aload_n 0 dX9_kinds_37 rfl rfl (?_ : hp_G _ _ _ _ _ _ _ _ _ 38 _ _ _)
    replace hf := ob_ hf
    obtain ⟨o9, eo9, hf⟩ := hf
    replace hf := ob_ hf
    obtain ⟨r10, er10, hf⟩ := hf
    refine clX9_201 (as := []) (st := [.int s.1]) rfl (kX9_areSo l er10) rfl (by decide) (Nat.le_of_ble_eq_true rfl) eo9 dX9_kinds_38 rfl (?_ : hp_G _ _ _ _ _ _ _ _ _ 41 _ _ _)
    refine hp_if_eq (tgt := 51) dX9_kinds_41 rfl (fun c11 => ?_) (fun c11 => (?_ : hp_G _ _ _ _ _ _ _ _ _ 44 _ _ _))
    · replace hf := ot_ c11 hf
      refine hp_iconst (v := 0) dX9_kinds_51 ic_0 (?_ : hp_G _ _ _ _ _ _ _ _ _ 52 _ _ _)
      exact hp_sub [0, 1, 2, 4] rfl (tjX9_kinds_52_22 l hf kb ke)
    · replace hf := of_ c11 hf
      refine hp_iconst (v := 1) dX9_kinds_44 ic_1 (?_ : hp_G _ _ _ _ _ _ _ _ _ 45 _ _ _)
      refine hp_iload 4 dX9_kinds_45 rfl (?_ : hp_G _ _ _ _ _ _ _ _ _ 47 _ _ _)
      refine hp_ishl dX9_kinds_47 (?_ : hp_G _ _ _ _ _ _ _ _ _ 48 _ _ _)
      refine hp_goto (tgt := 52) dX9_kinds_48 rfl (?_ : hp_G _ _ _ _ _ _ _ _ _ 52 _ _ _)
      exact hp_sub [0, 1, 2, 4] rfl (tjX9_kinds_52_22 l hf kb ke)
set_option maxRecDepth 20000 in
set_option maxHeartbeats 4000000 in
theorem tlX9_kinds_22 (l : Launch) {v0 : Nat} {v1 : Int32} {v2 : Int32}  (q : Nat) {s : (Int32 × Int32 × hp_H)} {x : (Int32 × hp_H)} (hf : it_ (bX9_kinds_22  v0 v1 v2) q s = some x) {Q : Option Value → hp_H → Prop} (ke : ∀ e, x = e → hp_G l mX9_kinds none 3 false Q false 0 0 60 [(0, .ref v0), (1, .int v1), (2, .int v2), (3, .int e.1)] [] e.2) : hp_G l mX9_kinds none 3 false Q false 0 0 22 [(0, .ref v0), (1, .int v1), (2, .int v2), (3, .int s.1), (4, .int s.2.1)] [] s.2.2 := by
  exact it_rule (f := bX9_kinds_22  v0 v1 v2) (fun s => hp_G l mX9_kinds none 3 false Q false 0 0 22 [(0, .ref v0), (1, .int v1), (2, .int v2), (3, .int s.1), (4, .int s.2.1)] [] s.2.2) (fun x => (∀ e, x = e → hp_G l mX9_kinds none 3 false Q false 0 0 60 [(0, .ref v0), (1, .int v1), (2, .int v2), (3, .int e.1)] [] e.2)) (fun s r h1 h2 h3 => tbX9_kinds_22 l h1 (fun t e => h2 t e) (fun e he => h3 _ he _ rfl)) q s x hf ke
noncomputable def fX9_kinds (h : hp_H) (a0 : Nat) (p1 : Int32) : Option (Int32 × hp_H) :=
(hg_o h a0 8).bind fun o1 =>
(fX9_isPerson h a0 p1).bind fun r2 =>
if r2 = 0 then
(some ((-1), h))
else
((gq_ h a0 8 8).bind fun x4 =>
(al_ h x4 p1).bind fun x5 =>
(it_ (bX9_kinds_22  a0 p1 x5) fu_ (0, 0, h)).bind fun x14 =>
(gq_ x14.2 a0 8 8).bind fun x15 =>
(ax_ x14.2 x15 p1 x5).bind fun h16 =>
some (x14.1, h16))
set_option maxRecDepth 20000 in
set_option maxHeartbeats 4000000 in
theorem tX9_kinds (l : Launch) {h : hp_H} {a0 : Nat} {p1 : Int32} {r : (Int32 × hp_H)} (hf : fX9_kinds h a0 p1 = some r) {Q : Option Value → hp_H → Prop} (kr : Q (some (.int r.1)) r.2) : hp_G l mX9_kinds none 3 false Q false 0 0 0 [(0, .ref a0), (1, .int p1)] [] h := by
  unfold fX9_kinds at hf
  refine hp_aload_n 0 dX9_kinds_0 rfl rfl (?_ : hp_G _ _ _ _ _ _ _ _ _ 1 _ _ _)
  refine hp_iload_n 1 dX9_kinds_1 rfl rfl (?_ : hp_G _ _ _ _ _ _ _ _ _ 2 _ _ _)
  replace hf := ob_ hf
  obtain ⟨o1, eo1, hf⟩ := hf
  replace hf := ob_ hf
  obtain ⟨r2, er2, hf⟩ := hf
  refine clX9_74 (as := [.int p1]) (st := []) rfl (kX9_isPerson l er2) rfl (by decide) (Nat.le_of_ble_eq_true rfl) eo1 dX9_kinds_2 rfl (?_ : hp_G _ _ _ _ _ _ _ _ _ 5 _ _ _)
  refine hp_if_ne (tgt := 10) dX9_kinds_5 rfl (fun c3 => ?_) (fun c3 => (?_ : hp_G _ _ _ _ _ _ _ _ _ 8 _ _ _))
  · replace hf := of_ c3 hf
    refine hp_aload_n 0 dX9_kinds_10 rfl rfl (?_ : hp_G _ _ _ _ _ _ _ _ _ 11 _ _ _)
    replace hf := ob_ hf
    obtain ⟨x4, ex4, hf⟩ := hf
    refine fgX9_19 rfl dX9_kinds_11 ex4 (?_ : hp_G _ _ _ _ _ _ _ _ _ 14 _ _ _)
    refine hp_iload_n 1 dX9_kinds_14 rfl rfl (?_ : hp_G _ _ _ _ _ _ _ _ _ 15 _ _ _)
    replace hf := ob_ hf
    obtain ⟨x5, ex5, hf⟩ := hf
    refine hp_iaload dX9_kinds_15 ex5 (?_ : hp_G _ _ _ _ _ _ _ _ _ 16 _ _ _)
    refine hp_istore_n (lv' := [(2, .int x5), (0, .ref a0), (1, .int p1)]) dX9_kinds_16 rfl (Nat.le_of_ble_eq_true rfl) rfl (?_ : hp_G _ _ _ _ _ _ _ _ _ 17 _ _ _)
    refine hp_iconst (v := 0) dX9_kinds_17 ic_0 (?_ : hp_G _ _ _ _ _ _ _ _ _ 18 _ _ _)
    refine hp_istore_n (lv' := [(3, .int 0), (2, .int x5), (0, .ref a0), (1, .int p1)]) dX9_kinds_18 rfl (Nat.le_of_ble_eq_true rfl) rfl (?_ : hp_G _ _ _ _ _ _ _ _ _ 19 _ _ _)
    refine hp_iconst (v := 0) dX9_kinds_19 ic_0 (?_ : hp_G _ _ _ _ _ _ _ _ _ 20 _ _ _)
    refine hp_istore (lv' := [(4, .int 0), (3, .int 0), (2, .int x5), (0, .ref a0), (1, .int p1)]) dX9_kinds_20 (Nat.le_of_ble_eq_true rfl) rfl (?_ : hp_G _ _ _ _ _ _ _ _ _ 22 _ _ _)
    replace hf := ob_ hf
    obtain ⟨x14, ex14, hf⟩ := hf
    refine hp_sub [3, 4, 2, 1, 0] rfl ?_
    refine tlX9_kinds_22 l fu_ ex14 (fun y hy => ?_)
    obtain rfl := hy
    refine hp_aload_n 0 dX9_kinds_60 rfl rfl (?_ : hp_G _ _ _ _ _ _ _ _ _ 61 _ _ _)
    replace hf := ob_ hf
    obtain ⟨x15, ex15, hf⟩ := hf
    refine fgX9_19 rfl dX9_kinds_61 ex15 (?_ : hp_G _ _ _ _ _ _ _ _ _ 64 _ _ _)
    refine hp_iload_n 1 dX9_kinds_64 rfl rfl (?_ : hp_G _ _ _ _ _ _ _ _ _ 65 _ _ _)
    refine hp_iload_n 2 dX9_kinds_65 rfl rfl (?_ : hp_G _ _ _ _ _ _ _ _ _ 66 _ _ _)
    replace hf := ob_ hf
    obtain ⟨h16, eh16, hf⟩ := hf
    refine hp_iastore dX9_kinds_66 eh16 (?_ : hp_G _ _ _ _ _ _ _ _ _ 67 _ _ _)
    refine hp_iload_n 3 dX9_kinds_67 rfl rfl (?_ : hp_G _ _ _ _ _ _ _ _ _ 68 _ _ _)
    obtain rfl := Option.some.inj hf
    exact hp_iret kr (fun z => z) rfl dX9_kinds_68
  · replace hf := ot_ c3 hf
    refine hp_iconst (v := (-1)) dX9_kinds_8 ic_m1 (?_ : hp_G _ _ _ _ _ _ _ _ _ 9 _ _ _)
    obtain rfl := Option.some.inj hf
    exact hp_iret kr (fun z => z) rfl dX9_kinds_9
theorem kX9_kinds (l : Launch) {h : hp_H} {a0 : Nat} {p1 : Int32} {r : (Int32 × hp_H)} (hf : fX9_kinds h a0 p1 = some r) : hp_Cn l yX9_kinds mX9_kinds 3 false 0 0 [.ref a0, .int p1] h (fun v h2 => some (.int r.1) = v ∧ r.2 = h2) :=
  hp_of (by decide) rfl (fun z => by cases z) (Nat.le_of_ble_eq_true rfl) (tX9_kinds l hf ⟨rfl, rfl⟩)
noncomputable def bX8_waysToWin_19 (h : hp_H) (v0 : Nat) (v2 : Int32) (v3 : Int32) (s : (Int32 × Int32)) : Option ((Int32 × Int32) ⊕ Int32) :=
(hg_o h v0 2).bind fun o7 =>
(fX2_best h v0).bind fun r8 =>
if r8 < s.2 then
(some (.inr s.1))
else
((some (s.1 + (mx_ 0 (((mn_ (s.2 - 1) v3) - v2) + 1)))).bind fun x10 =>
(some (s.2 + 1)).bind fun x11 =>
some (.inl (x10, x11)))
set_option maxRecDepth 20000 in
set_option maxHeartbeats 4000000 in
theorem tbX8_waysToWin_19 (l : Launch) {h : hp_H} {v0 : Nat} {v2 : Int32} {v3 : Int32}  {s : (Int32 × Int32)} {r : ((Int32 × Int32) ⊕ Int32)} (hf : bX8_waysToWin_19 h  v0 v2 v3 s = some r) {Q : Option Value → hp_H → Prop} (kb : ∀ t, r = .inl t → hp_G l mX8_waysToWin none 2 false Q false 0 0 19 [(0, .ref v0), (2, .int v2), (3, .int v3), (4, .int t.1), (5, .int t.2)] [] h) (ke : ∀ x, r = .inr x → hp_G l mX8_waysToWin none 2 false Q false 0 0 55 [(4, .int x)] [] h) : hp_G l mX8_waysToWin none 2 false Q false 0 0 19 [(0, .ref v0), (2, .int v2), (3, .int v3), (4, .int s.1), (5, .int s.2)] [] h := by
  unfold bX8_waysToWin_19 at hf
  refine hp_iload 4 dX8_waysToWin_19 rfl (?_ : hp_G _ _ _ _ _ _ _ _ _ 21 _ _ _)
  refine hp_aload_n 0 dX8_waysToWin_21 rfl rfl (?_ : hp_G _ _ _ _ _ _ _ _ _ 22 _ _ _)
  replace hf := ob_ hf
  obtain ⟨o7, eo7, hf⟩ := hf
  replace hf := ob_ hf
  obtain ⟨r8, er8, hf⟩ := hf
  refine clX8_105 (as := []) (st := [.int s.2]) rfl (kX2_best l er8) rfl (by decide) (Nat.le_of_ble_eq_true rfl) eo7 dX8_waysToWin_22 rfl (?_ : hp_G _ _ _ _ _ _ _ _ _ 25 _ _ _)
  refine hp_icmp_gt (tgt := 55) dX8_waysToWin_25 rfl (fun c9 => ?_) (fun c9 => (?_ : hp_G _ _ _ _ _ _ _ _ _ 28 _ _ _))
  · replace hf := ot_ c9 hf
    obtain rfl := Option.some.inj hf
    exact hp_sub [3] rfl (ke _ rfl)
  · replace hf := of_ c9 hf
    refine hp_iload 3 dX8_waysToWin_28 rfl (?_ : hp_G _ _ _ _ _ _ _ _ _ 30 _ _ _)
    refine hp_iconst (v := 0) dX8_waysToWin_30 ic_0 (?_ : hp_G _ _ _ _ _ _ _ _ _ 31 _ _ _)
    refine hp_iload 4 dX8_waysToWin_31 rfl (?_ : hp_G _ _ _ _ _ _ _ _ _ 33 _ _ _)
    refine hp_iconst (v := 1) dX8_waysToWin_33 ic_1 (?_ : hp_G _ _ _ _ _ _ _ _ _ 34 _ _ _)
    refine hp_isub dX8_waysToWin_34 (?_ : hp_G _ _ _ _ _ _ _ _ _ 35 _ _ _)
    refine hp_iload_n 2 dX8_waysToWin_35 rfl rfl (?_ : hp_G _ _ _ _ _ _ _ _ _ 36 _ _ _)
    refine mmX8_158 rfl (by decide) (Nat.le_of_ble_eq_true rfl) dX8_waysToWin_36 (?_ : hp_G _ _ _ _ _ _ _ _ _ 39 _ _ _)
    refine hp_iload_n 1 dX8_waysToWin_39 rfl rfl (?_ : hp_G _ _ _ _ _ _ _ _ _ 40 _ _ _)
    refine hp_isub dX8_waysToWin_40 (?_ : hp_G _ _ _ _ _ _ _ _ _ 41 _ _ _)
    refine hp_iconst (v := 1) dX8_waysToWin_41 ic_1 (?_ : hp_G _ _ _ _ _ _ _ _ _ 42 _ _ _)
    refine hp_iadd dX8_waysToWin_42 (?_ : hp_G _ _ _ _ _ _ _ _ _ 43 _ _ _)
    refine mmX8_164 rfl (by decide) (Nat.le_of_ble_eq_true rfl) dX8_waysToWin_43 (?_ : hp_G _ _ _ _ _ _ _ _ _ 46 _ _ _)
    refine hp_iadd dX8_waysToWin_46 (?_ : hp_G _ _ _ _ _ _ _ _ _ 47 _ _ _)
    replace hf := ob_ hf
    obtain ⟨x10, ex10, hf⟩ := hf
    refine hp_nmi ex10 ?_
    refine hp_istore (lv' := [(4, .int x10), (0, .ref v0), (2, .int v2), (3, .int v3), (5, .int s.2)]) dX8_waysToWin_47 (Nat.le_of_ble_eq_true rfl) rfl (?_ : hp_G _ _ _ _ _ _ _ _ _ 49 _ _ _)
    replace hf := ob_ hf
    obtain ⟨x11, ex11, hf⟩ := hf
    refine hp_iinc (v := x11) (lv' := [(5, .int x11), (4, .int x10), (0, .ref v0), (2, .int v2), (3, .int v3)]) 4 dX8_waysToWin_49 rfl (hp_inc ic_1 ex11) (Nat.le_of_ble_eq_true rfl) rfl (?_ : hp_G _ _ _ _ _ _ _ _ _ 52 _ _ _)
    refine hp_goto (tgt := 19) dX8_waysToWin_52 rfl (?_ : hp_G _ _ _ _ _ _ _ _ _ 19 _ _ _)
    obtain rfl := Option.some.inj hf
    exact hp_sub [2, 3, 4, 1, 0] rfl (kb _ rfl)
set_option maxRecDepth 20000 in
set_option maxHeartbeats 4000000 in
theorem tlX8_waysToWin_19 (l : Launch) {h : hp_H} {v0 : Nat} {v2 : Int32} {v3 : Int32}  (q : Nat) {s : (Int32 × Int32)} {x : Int32} (hf : it_ (bX8_waysToWin_19 h  v0 v2 v3) q s = some x) {Q : Option Value → hp_H → Prop} (ke : ∀ e, x = e → hp_G l mX8_waysToWin none 2 false Q false 0 0 55 [(4, .int e)] [] h) : hp_G l mX8_waysToWin none 2 false Q false 0 0 19 [(0, .ref v0), (2, .int v2), (3, .int v3), (4, .int s.1), (5, .int s.2)] [] h := by
  exact it_rule (f := bX8_waysToWin_19 h  v0 v2 v3) (fun s => hp_G l mX8_waysToWin none 2 false Q false 0 0 19 [(0, .ref v0), (2, .int v2), (3, .int v3), (4, .int s.1), (5, .int s.2)] [] h) (fun x => (∀ e, x = e → hp_G l mX8_waysToWin none 2 false Q false 0 0 55 [(4, .int e)] [] h)) (fun s r h1 h2 h3 => tbX8_waysToWin_19 l h1 (fun t e => h2 t e) (fun e he => h3 _ he _ rfl)) q s x hf ke
noncomputable def fX8_waysToWin (h : hp_H) (a0 : Nat) (a1 : Nat) : Option Int32 :=
(hg_o h a1 2).bind fun o1 =>
(fX2_worst h a1).bind fun r2 =>
(hg_o h a1 2).bind fun o3 =>
(fX2_best h a1).bind fun r4 =>
(hg_o h a0 2).bind fun o5 =>
(fX2_worst h a0).bind fun r6 =>
(it_ (bX8_waysToWin_19 h a0 r2 r4) fu_ (0, r6)).bind fun x12 =>
some x12
set_option maxRecDepth 20000 in
set_option maxHeartbeats 4000000 in
theorem tX8_waysToWin (l : Launch) {h : hp_H} {a0 : Nat} {a1 : Nat} {r : Int32} (hf : fX8_waysToWin h a0 a1 = some r) {Q : Option Value → hp_H → Prop} (kr : Q (some (.int r)) h) : hp_G l mX8_waysToWin none 2 false Q false 0 0 0 [(0, .ref a0), (1, .ref a1)] [] h := by
  unfold fX8_waysToWin at hf
  refine hp_aload_n 1 dX8_waysToWin_0 rfl rfl (?_ : hp_G _ _ _ _ _ _ _ _ _ 1 _ _ _)
  replace hf := ob_ hf
  obtain ⟨o1, eo1, hf⟩ := hf
  replace hf := ob_ hf
  obtain ⟨r2, er2, hf⟩ := hf
  refine clX8_109 (as := []) (st := []) rfl (kX2_worst l er2) rfl (by decide) (Nat.le_of_ble_eq_true rfl) eo1 dX8_waysToWin_1 rfl (?_ : hp_G _ _ _ _ _ _ _ _ _ 4 _ _ _)
  refine hp_istore_n (lv' := [(2, .int r2), (0, .ref a0), (1, .ref a1)]) dX8_waysToWin_4 rfl (Nat.le_of_ble_eq_true rfl) rfl (?_ : hp_G _ _ _ _ _ _ _ _ _ 5 _ _ _)
  refine hp_aload_n 2 dX8_waysToWin_5 rfl rfl (?_ : hp_G _ _ _ _ _ _ _ _ _ 6 _ _ _)
  replace hf := ob_ hf
  obtain ⟨o3, eo3, hf⟩ := hf
  replace hf := ob_ hf
  obtain ⟨r4, er4, hf⟩ := hf
  refine clX8_105 (as := []) (st := []) rfl (kX2_best l er4) rfl (by decide) (Nat.le_of_ble_eq_true rfl) eo3 dX8_waysToWin_6 rfl (?_ : hp_G _ _ _ _ _ _ _ _ _ 9 _ _ _)
  refine hp_istore_n (lv' := [(3, .int r4), (2, .int r2), (0, .ref a0), (1, .ref a1)]) dX8_waysToWin_9 rfl (Nat.le_of_ble_eq_true rfl) rfl (?_ : hp_G _ _ _ _ _ _ _ _ _ 10 _ _ _)
  refine hp_iconst (v := 0) dX8_waysToWin_10 ic_0 (?_ : hp_G _ _ _ _ _ _ _ _ _ 11 _ _ _)
  refine hp_istore (lv' := [(4, .int 0), (3, .int r4), (2, .int r2), (0, .ref a0), (1, .ref a1)]) dX8_waysToWin_11 (Nat.le_of_ble_eq_true rfl) rfl (?_ : hp_G _ _ _ _ _ _ _ _ _ 13 _ _ _)
  refine hp_aload_n 3 dX8_waysToWin_13 rfl rfl (?_ : hp_G _ _ _ _ _ _ _ _ _ 14 _ _ _)
  replace hf := ob_ hf
  obtain ⟨o5, eo5, hf⟩ := hf
  replace hf := ob_ hf
  obtain ⟨r6, er6, hf⟩ := hf
  refine clX8_109 (as := []) (st := []) rfl (kX2_worst l er6) rfl (by decide) (Nat.le_of_ble_eq_true rfl) eo5 dX8_waysToWin_14 rfl (?_ : hp_G _ _ _ _ _ _ _ _ _ 17 _ _ _)
  refine hp_istore (lv' := [(5, .int r6), (4, .int 0), (3, .int r4), (2, .int r2), (0, .ref a0), (1, .ref a1)]) dX8_waysToWin_17 (Nat.le_of_ble_eq_true rfl) rfl (?_ : hp_G _ _ _ _ _ _ _ _ _ 19 _ _ _)
  replace hf := ob_ hf
  obtain ⟨x12, ex12, hf⟩ := hf
  refine hp_sub [4, 3, 2, 1, 0] rfl ?_
  refine tlX8_waysToWin_19 l fu_ ex12 (fun y hy => ?_)
  obtain rfl := hy
  refine hp_iload 0 dX8_waysToWin_55 rfl (?_ : hp_G _ _ _ _ _ _ _ _ _ 57 _ _ _)
  obtain rfl := Option.some.inj hf
  exact hp_iret kr (fun z => z) rfl dX8_waysToWin_57
theorem kX8_waysToWin (l : Launch) {h : hp_H} {a0 : Nat} {a1 : Nat} {r : Int32} (hf : fX8_waysToWin h a0 a1 = some r) : hp_Cn l yX8_waysToWin mX8_waysToWin 2 false 0 0 [.ref a0, .ref a1] h (fun v h2 => some (.int r) = v ∧ h = h2) :=
  hp_of (by decide) rfl (fun z => by cases z) (Nat.le_of_ble_eq_true rfl) (tX8_waysToWin l hf ⟨rfl, rfl⟩)
noncomputable def jX8_odds_131_102 (h : hp_H) (v6 : Int32) (v7 : Int32) (v8 : Int32) (u9 : Int32)  : Option (Int32 ⊕ (Int32 ⊕ Int64)) :=
(some (u9 + (-1))).bind fun x27 =>
some (.inl x27)
set_option maxRecDepth 20000 in
set_option maxHeartbeats 4000000 in
theorem tjX8_odds_131_102 (l : Launch) {h : hp_H} {v6 : Int32} {v7 : Int32} {v8 : Int32} {u9 : Int32}  {r : (Int32 ⊕ (Int32 ⊕ Int64))} (hf : jX8_odds_131_102 h v6 v7 v8 u9 = some r) {Q : Option Value → hp_H → Prop} (kb : ∀ t, r = .inl t → hp_G l mX8_odds none 3 false Q false 0 0 102 [(6, .int v6), (7, .int v7), (8, .int v8), (9, .int t)] [] h) (ke : ∀ x, r = .inr (.inl x) → hp_G l mX8_odds none 3 false Q false 0 0 124 [(8, .int v8), (9, .int x)] [] h) (kr : ∀ z, r = .inr (.inr z) → Q (some (.long z)) h) : hp_G l mX8_odds none 3 false Q false 0 0 131 [(6, .int v6), (7, .int v7), (8, .int v8), (9, .int u9)] [] h := by
  unfold jX8_odds_131_102 at hf
  replace hf := ob_ hf
  obtain ⟨x27, ex27, hf⟩ := hf
  refine hp_iinc (v := x27) (lv' := [(9, .int x27), (6, .int v6), (7, .int v7), (8, .int v8)]) 3 dX8_odds_131 rfl (hp_inc ic_m1 ex27) (Nat.le_of_ble_eq_true rfl) rfl (?_ : hp_G _ _ _ _ _ _ _ _ _ 134 _ _ _)
  refine hp_goto (tgt := 102) dX8_odds_134 rfl (?_ : hp_G _ _ _ _ _ _ _ _ _ 102 _ _ _)
  obtain rfl := Option.some.inj hf
  exact hp_sub [1, 2, 3, 0] rfl (kb _ rfl)
noncomputable def bX8_odds_102 (h : hp_H) (v6 : Int32) (v7 : Int32) (v8 : Int32) (s : Int32) : Option (Int32 ⊕ (Int32 ⊕ Int64)) :=
if s ≤ 1 then
(some (.inr (.inr (Int32.toInt64 v8))))
else
((rm_ v6 s).bind fun x25 =>
if x25 = 0 then
((rm_ v7 s).bind fun x28 =>
if x28 = 0 then
(some (.inr (.inl s)))
else
(jX8_odds_131_102 h v6 v7 v8 s))
else
(jX8_odds_131_102 h v6 v7 v8 s))
set_option maxRecDepth 20000 in
set_option maxHeartbeats 4000000 in
theorem tbX8_odds_102 (l : Launch) {h : hp_H} {v6 : Int32} {v7 : Int32} {v8 : Int32}  {s : Int32} {r : (Int32 ⊕ (Int32 ⊕ Int64))} (hf : bX8_odds_102 h  v6 v7 v8 s = some r) {Q : Option Value → hp_H → Prop} (kb : ∀ t, r = .inl t → hp_G l mX8_odds none 3 false Q false 0 0 102 [(6, .int v6), (7, .int v7), (8, .int v8), (9, .int t)] [] h) (ke : ∀ x, r = .inr (.inl x) → hp_G l mX8_odds none 3 false Q false 0 0 124 [(8, .int v8), (9, .int x)] [] h) (kr : ∀ z, r = .inr (.inr z) → Q (some (.long z)) h) : hp_G l mX8_odds none 3 false Q false 0 0 102 [(6, .int v6), (7, .int v7), (8, .int v8), (9, .int s)] [] h := by
  unfold bX8_odds_102 at hf
  refine hp_iload 3 dX8_odds_102 rfl (?_ : hp_G _ _ _ _ _ _ _ _ _ 104 _ _ _)
  refine hp_iconst (v := 1) dX8_odds_104 ic_1 (?_ : hp_G _ _ _ _ _ _ _ _ _ 105 _ _ _)
  refine hp_icmp_le (tgt := 137) dX8_odds_105 rfl (fun c24 => ?_) (fun c24 => (?_ : hp_G _ _ _ _ _ _ _ _ _ 108 _ _ _))
  · replace hf := ot_ c24 hf
    refine hp_iload 2 dX8_odds_137 rfl (?_ : hp_G _ _ _ _ _ _ _ _ _ 139 _ _ _)
    refine hp_i2l dX8_odds_139 (?_ : hp_G _ _ _ _ _ _ _ _ _ 140 _ _ _)
    obtain rfl := Option.some.inj hf
    exact hp_lret (kr _ rfl) (fun z => z) rfl dX8_odds_140
  · replace hf := of_ c24 hf
    refine hp_iload 0 dX8_odds_108 rfl (?_ : hp_G _ _ _ _ _ _ _ _ _ 110 _ _ _)
    refine hp_iload 3 dX8_odds_110 rfl (?_ : hp_G _ _ _ _ _ _ _ _ _ 112 _ _ _)
    replace hf := ob_ hf
    obtain ⟨x25, ex25, hf⟩ := hf
    refine hp_irem dX8_odds_112 ex25 (?_ : hp_G _ _ _ _ _ _ _ _ _ 113 _ _ _)
    refine hp_if_ne (tgt := 131) dX8_odds_113 rfl (fun c26 => ?_) (fun c26 => (?_ : hp_G _ _ _ _ _ _ _ _ _ 116 _ _ _))
    · replace hf := of_ c26 hf
      exact hp_sub [0, 1, 2, 3] rfl (tjX8_odds_131_102 l hf kb ke kr)
    · replace hf := ot_ c26 hf
      refine hp_iload 1 dX8_odds_116 rfl (?_ : hp_G _ _ _ _ _ _ _ _ _ 118 _ _ _)
      refine hp_iload 3 dX8_odds_118 rfl (?_ : hp_G _ _ _ _ _ _ _ _ _ 120 _ _ _)
      replace hf := ob_ hf
      obtain ⟨x28, ex28, hf⟩ := hf
      refine hp_irem dX8_odds_120 ex28 (?_ : hp_G _ _ _ _ _ _ _ _ _ 121 _ _ _)
      refine hp_if_ne (tgt := 131) dX8_odds_121 rfl (fun c29 => ?_) (fun c29 => (?_ : hp_G _ _ _ _ _ _ _ _ _ 124 _ _ _))
      · replace hf := of_ c29 hf
        exact hp_sub [0, 1, 2, 3] rfl (tjX8_odds_131_102 l hf kb ke kr)
      · replace hf := ot_ c29 hf
        obtain rfl := Option.some.inj hf
        exact hp_sub [2, 3] rfl (ke _ rfl)
set_option maxRecDepth 20000 in
set_option maxHeartbeats 4000000 in
theorem tlX8_odds_102 (l : Launch) {h : hp_H} {v6 : Int32} {v7 : Int32} {v8 : Int32}  (q : Nat) {s : Int32} {x : (Int32 ⊕ Int64)} (hf : it_ (bX8_odds_102 h  v6 v7 v8) q s = some x) {Q : Option Value → hp_H → Prop} (ke : ∀ e, x = .inl e → hp_G l mX8_odds none 3 false Q false 0 0 124 [(8, .int v8), (9, .int e)] [] h) (kr : ∀ z, x = .inr z → Q (some (.long z)) h) : hp_G l mX8_odds none 3 false Q false 0 0 102 [(6, .int v6), (7, .int v7), (8, .int v8), (9, .int s)] [] h := by
  exact it_rule (f := bX8_odds_102 h  v6 v7 v8) (fun s => hp_G l mX8_odds none 3 false Q false 0 0 102 [(6, .int v6), (7, .int v7), (8, .int v8), (9, .int s)] [] h) (fun x => (∀ e, x = .inl e → hp_G l mX8_odds none 3 false Q false 0 0 124 [(8, .int v8), (9, .int e)] [] h) ∧ (∀ z, x = .inr z → Q (some (.long z)) h)) (fun s r h1 h2 h3 => tbX8_odds_102 l h1 (fun t e => h2 t e) (fun e he => (h3 _ he).1 _ rfl) (fun z he => (h3 _ he).2 _ rfl)) q s x hf ⟨ke, kr⟩
noncomputable def jX8_odds_96 (h : hp_H)  (u6 : Int32) (u7 : Int32) (k0 : Int32) : Option Int64 :=
(it_ (bX8_odds_102 h u6 u7 k0) fu_ u7).bind fun x30 =>
match x30 with
| .inl y31 => ((dv_ k0 y31).bind fun x33 =>
some (Int32.toInt64 x33))
| .inr z32 => some z32
set_option maxRecDepth 20000 in
set_option maxHeartbeats 4000000 in
theorem tjX8_odds_96 (l : Launch) {h : hp_H}  {u6 : Int32} {u7 : Int32} {k0 : Int32} {r : Int64} (hf : jX8_odds_96 h u6 u7 k0 = some r) {Q : Option Value → hp_H → Prop} (kr : Q (some (.long r)) h) : hp_G l mX8_odds none 3 false Q false 0 0 96 [(6, .int u6), (7, .int u7)] [.int k0] h := by
  unfold jX8_odds_96 at hf
  refine hp_istore (lv' := [(8, .int k0), (6, .int u6), (7, .int u7)]) dX8_odds_96 (Nat.le_of_ble_eq_true rfl) rfl (?_ : hp_G _ _ _ _ _ _ _ _ _ 98 _ _ _)
  refine hp_iload 2 dX8_odds_98 rfl (?_ : hp_G _ _ _ _ _ _ _ _ _ 100 _ _ _)
  refine hp_istore (lv' := [(9, .int u7), (8, .int k0), (6, .int u6), (7, .int u7)]) dX8_odds_100 (Nat.le_of_ble_eq_true rfl) rfl (?_ : hp_G _ _ _ _ _ _ _ _ _ 102 _ _ _)
  replace hf := ob_ hf
  obtain ⟨x30, ex30, hf⟩ := hf
  refine hp_sub [2, 3, 1, 0] rfl ?_
  rcases x30 with y31 | z32
  · (try dsimp only at hf)
    refine tlX8_odds_102 l fu_ ex30 (fun w hw => ?_) (fun w hw => (by cases hw))
    obtain rfl := Sum.inl.inj hw
    refine hp_iload 0 dX8_odds_124 rfl (?_ : hp_G _ _ _ _ _ _ _ _ _ 126 _ _ _)
    refine hp_iload 1 dX8_odds_126 rfl (?_ : hp_G _ _ _ _ _ _ _ _ _ 128 _ _ _)
    replace hf := ob_ hf
    obtain ⟨x33, ex33, hf⟩ := hf
    refine hp_idiv dX8_odds_128 ex33 (?_ : hp_G _ _ _ _ _ _ _ _ _ 129 _ _ _)
    refine hp_i2l dX8_odds_129 (?_ : hp_G _ _ _ _ _ _ _ _ _ 130 _ _ _)
    obtain rfl := Option.some.inj hf
    exact hp_lret kr (fun z => z) rfl dX8_odds_130
  · (try dsimp only at hf)
    refine tlX8_odds_102 l fu_ ex30 (fun w hw => (by cases hw)) (fun w hw => ?_)
    obtain rfl := Sum.inr.inj hw
    obtain rfl := Option.some.inj hf
    exact kr
noncomputable def fX8_odds (h : hp_H) (a0 : Nat) (p1 : Int32) (p2 : Int32) (p3 : Int32) : Option Int64 :=
(gq_ h a0 7 0).bind fun x1 =>
(hg_o h x1 6).bind fun o2 =>
(fX7_hasTwo h x1 p1 p2).bind fun r3 =>
if r3 = 0 then
(some (-9223372036854775808))
else
(if p3 < 0 then
(some (-9223372036854775808))
else
(if p3 ≤ 1 then
((gq_ h a0 7 0).bind fun x7 =>
(gq_ h x7 6 0).bind fun x8 =>
(ql_ h x8 p1).bind fun x9 =>
(gq_ h a0 7 0).bind fun x10 =>
(gq_ h x10 6 0).bind fun x11 =>
(ql_ h x11 p2).bind fun x12 =>
(fX8_waysToWin h x9 x12).bind fun r13 =>
(hg_o h x9 2).bind fun o14 =>
(fX2_best h x9).bind fun r15 =>
(hg_o h x9 2).bind fun o16 =>
(fX2_worst h x9).bind fun r17 =>
(hg_o h x12 2).bind fun o18 =>
(fX2_best h x12).bind fun r19 =>
(hg_o h x12 2).bind fun o20 =>
(fX2_worst h x12).bind fun r21 =>
(some (((r15 - r17) + 1) * ((r19 - r21) + 1))).bind fun x22 =>
if p3 = 0 then
(jX8_odds_96 h r13 x22 r13)
else
(jX8_odds_96 h r13 x22 x22))
else
(some (-9223372036854775808))))
set_option maxRecDepth 20000 in
set_option maxHeartbeats 4000000 in
theorem tX8_odds (l : Launch) {h : hp_H} {a0 : Nat} {p1 : Int32} {p2 : Int32} {p3 : Int32} {r : Int64} (hf : fX8_odds h a0 p1 p2 p3 = some r) {Q : Option Value → hp_H → Prop} (kr : Q (some (.long r)) h) : hp_G l mX8_odds none 3 false Q false 0 0 0 [(0, .ref a0), (1, .int p1), (2, .int p2), (3, .int p3)] [] h := by
  unfold fX8_odds at hf
  refine hp_aload_n 0 dX8_odds_0 rfl rfl (?_ : hp_G _ _ _ _ _ _ _ _ _ 1 _ _ _)
  replace hf := ob_ hf
  obtain ⟨x1, ex1, hf⟩ := hf
  refine fgX8_12 rfl dX8_odds_1 ex1 (?_ : hp_G _ _ _ _ _ _ _ _ _ 4 _ _ _)
  refine hp_iload_n 1 dX8_odds_4 rfl rfl (?_ : hp_G _ _ _ _ _ _ _ _ _ 5 _ _ _)
  refine hp_iload_n 2 dX8_odds_5 rfl rfl (?_ : hp_G _ _ _ _ _ _ _ _ _ 6 _ _ _)
  replace hf := ob_ hf
  obtain ⟨o2, eo2, hf⟩ := hf
  replace hf := ob_ hf
  obtain ⟨r3, er3, hf⟩ := hf
  refine clX8_119 (as := [.int p1, .int p2]) (st := []) rfl (kX7_hasTwo l er3) rfl (by decide) (Nat.le_of_ble_eq_true rfl) eo2 dX8_odds_6 rfl (?_ : hp_G _ _ _ _ _ _ _ _ _ 9 _ _ _)
  refine hp_if_eq (tgt := 21) dX8_odds_9 rfl (fun c4 => ?_) (fun c4 => (?_ : hp_G _ _ _ _ _ _ _ _ _ 12 _ _ _))
  · replace hf := ot_ c4 hf
    refine hp_ldc2 (v := (-9223372036854775808)) wd_590 dX8_odds_21 (?_ : hp_G _ _ _ _ _ _ _ _ _ 24 _ _ _)
    obtain rfl := Option.some.inj hf
    exact hp_lret kr (fun z => z) rfl dX8_odds_24
  · replace hf := of_ c4 hf
    refine hp_iload_n 3 dX8_odds_12 rfl rfl (?_ : hp_G _ _ _ _ _ _ _ _ _ 13 _ _ _)
    refine hp_if_lt (tgt := 21) dX8_odds_13 rfl (fun c5 => ?_) (fun c5 => (?_ : hp_G _ _ _ _ _ _ _ _ _ 16 _ _ _))
    · replace hf := ot_ c5 hf
      refine hp_ldc2 (v := (-9223372036854775808)) wd_590 dX8_odds_21 (?_ : hp_G _ _ _ _ _ _ _ _ _ 24 _ _ _)
      obtain rfl := Option.some.inj hf
      exact hp_lret kr (fun z => z) rfl dX8_odds_24
    · replace hf := of_ c5 hf
      refine hp_iload_n 3 dX8_odds_16 rfl rfl (?_ : hp_G _ _ _ _ _ _ _ _ _ 17 _ _ _)
      refine hp_iconst (v := 1) dX8_odds_17 ic_1 (?_ : hp_G _ _ _ _ _ _ _ _ _ 18 _ _ _)
      refine hp_icmp_le (tgt := 25) dX8_odds_18 rfl (fun c6 => ?_) (fun c6 => (?_ : hp_G _ _ _ _ _ _ _ _ _ 21 _ _ _))
      · replace hf := ot_ c6 hf
        refine hp_aload_n 0 dX8_odds_25 rfl rfl (?_ : hp_G _ _ _ _ _ _ _ _ _ 26 _ _ _)
        replace hf := ob_ hf
        obtain ⟨x7, ex7, hf⟩ := hf
        refine fgX8_12 rfl dX8_odds_26 ex7 (?_ : hp_G _ _ _ _ _ _ _ _ _ 29 _ _ _)
        replace hf := ob_ hf
        obtain ⟨x8, ex8, hf⟩ := hf
        refine fgX8_96 rfl dX8_odds_29 ex8 (?_ : hp_G _ _ _ _ _ _ _ _ _ 32 _ _ _)
        refine hp_iload_n 1 dX8_odds_32 rfl rfl (?_ : hp_G _ _ _ _ _ _ _ _ _ 33 _ _ _)
        replace hf := ob_ hf
        obtain ⟨x9, ex9, hf⟩ := hf
        refine hp_aaload dX8_odds_33 ex9 (?_ : hp_G _ _ _ _ _ _ _ _ _ 34 _ _ _)
        refine hp_astore (lv' := [(4, .ref x9), (0, .ref a0), (1, .int p1), (2, .int p2), (3, .int p3)]) dX8_odds_34 (Nat.le_of_ble_eq_true rfl) rfl (?_ : hp_G _ _ _ _ _ _ _ _ _ 36 _ _ _)
        refine hp_aload_n 1 dX8_odds_36 rfl rfl (?_ : hp_G _ _ _ _ _ _ _ _ _ 37 _ _ _)
        replace hf := ob_ hf
        obtain ⟨x10, ex10, hf⟩ := hf
        refine fgX8_12 rfl dX8_odds_37 ex10 (?_ : hp_G _ _ _ _ _ _ _ _ _ 40 _ _ _)
        replace hf := ob_ hf
        obtain ⟨x11, ex11, hf⟩ := hf
        refine fgX8_96 rfl dX8_odds_40 ex11 (?_ : hp_G _ _ _ _ _ _ _ _ _ 43 _ _ _)
        refine hp_iload_n 3 dX8_odds_43 rfl rfl (?_ : hp_G _ _ _ _ _ _ _ _ _ 44 _ _ _)
        replace hf := ob_ hf
        obtain ⟨x12, ex12, hf⟩ := hf
        refine hp_aaload dX8_odds_44 ex12 (?_ : hp_G _ _ _ _ _ _ _ _ _ 45 _ _ _)
        refine hp_astore (lv' := [(5, .ref x12), (4, .ref x9), (0, .ref a0), (1, .int p1), (2, .int p2), (3, .int p3)]) dX8_odds_45 (Nat.le_of_ble_eq_true rfl) rfl (?_ : hp_G _ _ _ _ _ _ _ _ _ 47 _ _ _)
        refine hp_aload 1 dX8_odds_47 rfl (?_ : hp_G _ _ _ _ _ _ _ _ _ 49 _ _ _)
        refine hp_aload 0 dX8_odds_49 rfl (?_ : hp_G _ _ _ _ _ _ _ _ _ 51 _ _ _)
        replace hf := ob_ hf
        obtain ⟨r13, er13, hf⟩ := hf
        refine clX8_202 (as := [.ref x9, .ref x12]) (st := []) rfl (kX8_waysToWin l er13) rfl (by decide) (Nat.le_of_ble_eq_true rfl) dX8_odds_51 rfl (?_ : hp_G _ _ _ _ _ _ _ _ _ 54 _ _ _)
        refine hp_istore (lv' := [(6, .int r13), (5, .ref x12), (4, .ref x9), (0, .ref a0), (1, .int p1), (2, .int p2), (3, .int p3)]) dX8_odds_54 (Nat.le_of_ble_eq_true rfl) rfl (?_ : hp_G _ _ _ _ _ _ _ _ _ 56 _ _ _)
        refine hp_aload 2 dX8_odds_56 rfl (?_ : hp_G _ _ _ _ _ _ _ _ _ 58 _ _ _)
        replace hf := ob_ hf
        obtain ⟨o14, eo14, hf⟩ := hf
        replace hf := ob_ hf
        obtain ⟨r15, er15, hf⟩ := hf
        refine clX8_105 (as := []) (st := []) rfl (kX2_best l er15) rfl (by decide) (Nat.le_of_ble_eq_true rfl) eo14 dX8_odds_58 rfl (?_ : hp_G _ _ _ _ _ _ _ _ _ 61 _ _ _)
        refine hp_aload 2 dX8_odds_61 rfl (?_ : hp_G _ _ _ _ _ _ _ _ _ 63 _ _ _)
        replace hf := ob_ hf
        obtain ⟨o16, eo16, hf⟩ := hf
        replace hf := ob_ hf
        obtain ⟨r17, er17, hf⟩ := hf
        refine clX8_109 (as := []) (st := [.int r15]) rfl (kX2_worst l er17) rfl (by decide) (Nat.le_of_ble_eq_true rfl) eo16 dX8_odds_63 rfl (?_ : hp_G _ _ _ _ _ _ _ _ _ 66 _ _ _)
        refine hp_isub dX8_odds_66 (?_ : hp_G _ _ _ _ _ _ _ _ _ 67 _ _ _)
        refine hp_iconst (v := 1) dX8_odds_67 ic_1 (?_ : hp_G _ _ _ _ _ _ _ _ _ 68 _ _ _)
        refine hp_iadd dX8_odds_68 (?_ : hp_G _ _ _ _ _ _ _ _ _ 69 _ _ _)
        refine hp_aload 1 dX8_odds_69 rfl (?_ : hp_G _ _ _ _ _ _ _ _ _ 71 _ _ _)
        replace hf := ob_ hf
        obtain ⟨o18, eo18, hf⟩ := hf
        replace hf := ob_ hf
        obtain ⟨r19, er19, hf⟩ := hf
        refine clX8_105 (as := []) (st := [.int ((r15 - r17) + 1)]) rfl (kX2_best l er19) rfl (by decide) (Nat.le_of_ble_eq_true rfl) eo18 dX8_odds_71 rfl (?_ : hp_G _ _ _ _ _ _ _ _ _ 74 _ _ _)
        refine hp_aload 1 dX8_odds_74 rfl (?_ : hp_G _ _ _ _ _ _ _ _ _ 76 _ _ _)
        replace hf := ob_ hf
        obtain ⟨o20, eo20, hf⟩ := hf
        replace hf := ob_ hf
        obtain ⟨r21, er21, hf⟩ := hf
        refine clX8_109 (as := []) (st := [.int r19, .int ((r15 - r17) + 1)]) rfl (kX2_worst l er21) rfl (by decide) (Nat.le_of_ble_eq_true rfl) eo20 dX8_odds_76 rfl (?_ : hp_G _ _ _ _ _ _ _ _ _ 79 _ _ _)
        refine hp_isub dX8_odds_79 (?_ : hp_G _ _ _ _ _ _ _ _ _ 80 _ _ _)
        refine hp_iconst (v := 1) dX8_odds_80 ic_1 (?_ : hp_G _ _ _ _ _ _ _ _ _ 81 _ _ _)
        refine hp_iadd dX8_odds_81 (?_ : hp_G _ _ _ _ _ _ _ _ _ 82 _ _ _)
        refine hp_imul dX8_odds_82 (?_ : hp_G _ _ _ _ _ _ _ _ _ 83 _ _ _)
        replace hf := ob_ hf
        obtain ⟨x22, ex22, hf⟩ := hf
        refine hp_nmi ex22 ?_
        refine hp_istore (lv' := [(7, .int x22), (6, .int r13), (5, .ref x12), (4, .ref x9), (0, .ref a0), (1, .int p1), (2, .int p2), (3, .int p3)]) dX8_odds_83 (Nat.le_of_ble_eq_true rfl) rfl (?_ : hp_G _ _ _ _ _ _ _ _ _ 85 _ _ _)
        refine hp_iload_n 7 dX8_odds_85 rfl rfl (?_ : hp_G _ _ _ _ _ _ _ _ _ 86 _ _ _)
        refine hp_if_ne (tgt := 94) dX8_odds_86 rfl (fun c23 => ?_) (fun c23 => (?_ : hp_G _ _ _ _ _ _ _ _ _ 89 _ _ _))
        · replace hf := of_ c23 hf
          refine hp_iload 0 dX8_odds_94 rfl (?_ : hp_G _ _ _ _ _ _ _ _ _ 96 _ _ _)
          exact hp_sub [1, 0] rfl (tjX8_odds_96 l hf kr)
        · replace hf := ot_ c23 hf
          refine hp_iload 1 dX8_odds_89 rfl (?_ : hp_G _ _ _ _ _ _ _ _ _ 91 _ _ _)
          refine hp_goto (tgt := 96) dX8_odds_91 rfl (?_ : hp_G _ _ _ _ _ _ _ _ _ 96 _ _ _)
          exact hp_sub [1, 0] rfl (tjX8_odds_96 l hf kr)
      · replace hf := of_ c6 hf
        refine hp_ldc2 (v := (-9223372036854775808)) wd_590 dX8_odds_21 (?_ : hp_G _ _ _ _ _ _ _ _ _ 24 _ _ _)
        obtain rfl := Option.some.inj hf
        exact hp_lret kr (fun z => z) rfl dX8_odds_24
theorem kX8_odds (l : Launch) {h : hp_H} {a0 : Nat} {p1 : Int32} {p2 : Int32} {p3 : Int32} {r : Int64} (hf : fX8_odds h a0 p1 p2 p3 = some r) : hp_Cn l yX8_odds mX8_odds 3 false 0 0 [.ref a0, .int p1, .int p2, .int p3] h (fun v h2 => some (.long r) = v ∧ h = h2) :=
  hp_of (by decide) rfl (fun z => by cases z) (Nat.le_of_ble_eq_true rfl) (tX8_odds l hf ⟨rfl, rfl⟩)
noncomputable def bX9_inLeastTerms_6 (h : hp_H) (v0 : Int64) (v2 : Int64) (v4 : Int32) (s : (Int64 × Int64)) : Option ((Int64 × Int64) ⊕ Int64) :=
if lg_cmp s.2 0 = 0 then
(some (.inr s.1))
else
((rml_ s.1 s.2).bind fun x2 =>
some (.inl (s.2, x2)))
set_option maxRecDepth 20000 in
set_option maxHeartbeats 4000000 in
theorem tbX9_inLeastTerms_6 (l : Launch) {h : hp_H} {v0 : Int64} {v2 : Int64} {v4 : Int32}  {s : (Int64 × Int64)} {r : ((Int64 × Int64) ⊕ Int64)} (hf : bX9_inLeastTerms_6 h  v0 v2 v4 s = some r) {Q : Option Value → hp_H → Prop} (kb : ∀ t, r = .inl t → hp_G l mX9_inLeastTerms none 0 false Q false 0 0 6 [(0, .long v0), (2, .long v2), (4, .int v4), (5, .long t.1), (7, .long t.2)] [] h) (ke : ∀ x, r = .inr x → hp_G l mX9_inLeastTerms none 0 false Q false 0 0 31 [(0, .long v0), (2, .long v2), (4, .int v4), (5, .long x)] [] h) : hp_G l mX9_inLeastTerms none 0 false Q false 0 0 6 [(0, .long v0), (2, .long v2), (4, .int v4), (5, .long s.1), (7, .long s.2)] [] h := by
  unfold bX9_inLeastTerms_6 at hf
  refine hp_lload 4 dX9_inLeastTerms_6 rfl (?_ : hp_G _ _ _ _ _ _ _ _ _ 8 _ _ _)
  refine hp_lconst (v := 0) dX9_inLeastTerms_8 (by decide) (?_ : hp_G _ _ _ _ _ _ _ _ _ 9 _ _ _)
  refine hp_lcmp dX9_inLeastTerms_9 (?_ : hp_G _ _ _ _ _ _ _ _ _ 10 _ _ _)
  refine hp_if_eq (tgt := 31) dX9_inLeastTerms_10 rfl (fun c1 => ?_) (fun c1 => (?_ : hp_G _ _ _ _ _ _ _ _ _ 13 _ _ _))
  · replace hf := ot_ c1 hf
    obtain rfl := Option.some.inj hf
    exact hp_sub [0, 1, 2, 3] rfl (ke _ rfl)
  · replace hf := of_ c1 hf
    refine hp_lload 3 dX9_inLeastTerms_13 rfl (?_ : hp_G _ _ _ _ _ _ _ _ _ 15 _ _ _)
    refine hp_lload 4 dX9_inLeastTerms_15 rfl (?_ : hp_G _ _ _ _ _ _ _ _ _ 17 _ _ _)
    replace hf := ob_ hf
    obtain ⟨x2, ex2, hf⟩ := hf
    refine hp_lrem dX9_inLeastTerms_17 ex2 (?_ : hp_G _ _ _ _ _ _ _ _ _ 18 _ _ _)
    refine hp_lstore (lv' := [(9, .long x2), (0, .long v0), (2, .long v2), (4, .int v4), (5, .long s.1), (7, .long s.2)]) dX9_inLeastTerms_18 (Nat.le_of_ble_eq_true rfl) rfl (?_ : hp_G _ _ _ _ _ _ _ _ _ 20 _ _ _)
    refine hp_lload 5 dX9_inLeastTerms_20 rfl (?_ : hp_G _ _ _ _ _ _ _ _ _ 22 _ _ _)
    refine hp_lstore (lv' := [(5, .long s.2), (9, .long x2), (0, .long v0), (2, .long v2), (4, .int v4), (7, .long s.2)]) dX9_inLeastTerms_22 (Nat.le_of_ble_eq_true rfl) rfl (?_ : hp_G _ _ _ _ _ _ _ _ _ 24 _ _ _)
    refine hp_lload 1 dX9_inLeastTerms_24 rfl (?_ : hp_G _ _ _ _ _ _ _ _ _ 26 _ _ _)
    refine hp_lstore (lv' := [(7, .long x2), (5, .long s.2), (9, .long x2), (0, .long v0), (2, .long v2), (4, .int v4)]) dX9_inLeastTerms_26 (Nat.le_of_ble_eq_true rfl) rfl (?_ : hp_G _ _ _ _ _ _ _ _ _ 28 _ _ _)
    refine hp_goto (tgt := 6) dX9_inLeastTerms_28 rfl (?_ : hp_G _ _ _ _ _ _ _ _ _ 6 _ _ _)
    obtain rfl := Option.some.inj hf
    exact hp_sub [3, 4, 5, 1, 0] rfl (kb _ rfl)
set_option maxRecDepth 20000 in
set_option maxHeartbeats 4000000 in
theorem tlX9_inLeastTerms_6 (l : Launch) {h : hp_H} {v0 : Int64} {v2 : Int64} {v4 : Int32}  (q : Nat) {s : (Int64 × Int64)} {x : Int64} (hf : it_ (bX9_inLeastTerms_6 h  v0 v2 v4) q s = some x) {Q : Option Value → hp_H → Prop} (ke : ∀ e, x = e → hp_G l mX9_inLeastTerms none 0 false Q false 0 0 31 [(0, .long v0), (2, .long v2), (4, .int v4), (5, .long e)] [] h) : hp_G l mX9_inLeastTerms none 0 false Q false 0 0 6 [(0, .long v0), (2, .long v2), (4, .int v4), (5, .long s.1), (7, .long s.2)] [] h := by
  exact it_rule (f := bX9_inLeastTerms_6 h  v0 v2 v4) (fun s => hp_G l mX9_inLeastTerms none 0 false Q false 0 0 6 [(0, .long v0), (2, .long v2), (4, .int v4), (5, .long s.1), (7, .long s.2)] [] h) (fun x => (∀ e, x = e → hp_G l mX9_inLeastTerms none 0 false Q false 0 0 31 [(0, .long v0), (2, .long v2), (4, .int v4), (5, .long e)] [] h)) (fun s r h1 h2 h3 => tbX9_inLeastTerms_6 l h1 (fun t e => h2 t e) (fun e he => h3 _ he _ rfl)) q s x hf ke
noncomputable def fX9_inLeastTerms (h : hp_H) (p0 : Int64) (p1 : Int64) (p2 : Int32) : Option Int64 :=
(it_ (bX9_inLeastTerms_6 h p0 p1 p2) fu_ (p0, p1)).bind fun x3 =>
if p2 = 0 then
((dvl_ p0 x3).bind fun x6 =>
some x6)
else
((dvl_ p1 x3).bind fun x5 =>
some x5)
set_option maxRecDepth 20000 in
set_option maxHeartbeats 4000000 in
theorem tX9_inLeastTerms (l : Launch) {h : hp_H} {p0 : Int64} {p1 : Int64} {p2 : Int32} {r : Int64} (hf : fX9_inLeastTerms h p0 p1 p2 = some r) {Q : Option Value → hp_H → Prop} (kr : Q (some (.long r)) h) : hp_G l mX9_inLeastTerms none 0 false Q false 0 0 0 [(0, .long p0), (2, .long p1), (4, .int p2)] [] h := by
  unfold fX9_inLeastTerms at hf
  refine hp_lload_n 0 dX9_inLeastTerms_0 rfl rfl (?_ : hp_G _ _ _ _ _ _ _ _ _ 1 _ _ _)
  refine hp_lstore (lv' := [(5, .long p0), (0, .long p0), (2, .long p1), (4, .int p2)]) dX9_inLeastTerms_1 (Nat.le_of_ble_eq_true rfl) rfl (?_ : hp_G _ _ _ _ _ _ _ _ _ 3 _ _ _)
  refine hp_lload_n 2 dX9_inLeastTerms_3 rfl rfl (?_ : hp_G _ _ _ _ _ _ _ _ _ 4 _ _ _)
  refine hp_lstore (lv' := [(7, .long p1), (5, .long p0), (0, .long p0), (2, .long p1), (4, .int p2)]) dX9_inLeastTerms_4 (Nat.le_of_ble_eq_true rfl) rfl (?_ : hp_G _ _ _ _ _ _ _ _ _ 6 _ _ _)
  replace hf := ob_ hf
  obtain ⟨x3, ex3, hf⟩ := hf
  refine hp_sub [2, 3, 4, 1, 0] rfl ?_
  refine tlX9_inLeastTerms_6 l fu_ ex3 (fun y hy => ?_)
  obtain rfl := hy
  refine hp_iload 2 dX9_inLeastTerms_31 rfl (?_ : hp_G _ _ _ _ _ _ _ _ _ 33 _ _ _)
  refine hp_if_ne (tgt := 43) dX9_inLeastTerms_33 rfl (fun c4 => ?_) (fun c4 => (?_ : hp_G _ _ _ _ _ _ _ _ _ 36 _ _ _))
  · replace hf := of_ c4 hf
    refine hp_lload_n 1 dX9_inLeastTerms_43 rfl rfl (?_ : hp_G _ _ _ _ _ _ _ _ _ 44 _ _ _)
    refine hp_lload 3 dX9_inLeastTerms_44 rfl (?_ : hp_G _ _ _ _ _ _ _ _ _ 46 _ _ _)
    replace hf := ob_ hf
    obtain ⟨x5, ex5, hf⟩ := hf
    refine hp_ldiv dX9_inLeastTerms_46 ex5 (?_ : hp_G _ _ _ _ _ _ _ _ _ 47 _ _ _)
    obtain rfl := Option.some.inj hf
    exact hp_lret kr (fun z => z) rfl dX9_inLeastTerms_47
  · replace hf := ot_ c4 hf
    refine hp_lload_n 0 dX9_inLeastTerms_36 rfl rfl (?_ : hp_G _ _ _ _ _ _ _ _ _ 37 _ _ _)
    refine hp_lload 3 dX9_inLeastTerms_37 rfl (?_ : hp_G _ _ _ _ _ _ _ _ _ 39 _ _ _)
    replace hf := ob_ hf
    obtain ⟨x6, ex6, hf⟩ := hf
    refine hp_ldiv dX9_inLeastTerms_39 ex6 (?_ : hp_G _ _ _ _ _ _ _ _ _ 40 _ _ _)
    refine hp_goto (tgt := 47) dX9_inLeastTerms_40 rfl (?_ : hp_G _ _ _ _ _ _ _ _ _ 47 _ _ _)
    obtain rfl := Option.some.inj hf
    exact hp_lret kr (fun z => z) rfl dX9_inLeastTerms_47
theorem kX9_inLeastTerms (l : Launch) {h : hp_H} {p0 : Int64} {p1 : Int64} {p2 : Int32} {r : Int64} (hf : fX9_inLeastTerms h p0 p1 p2 = some r) : hp_Cn l yX9_inLeastTerms mX9_inLeastTerms 0 false 0 0 [.long p0, .long p1, .int p2] h (fun v h2 => some (.long r) = v ∧ h = h2) :=
  hp_of (by decide) rfl (fun z => by cases z) (Nat.le_of_ble_eq_true rfl) (tX9_inLeastTerms l hf ⟨rfl, rfl⟩)
