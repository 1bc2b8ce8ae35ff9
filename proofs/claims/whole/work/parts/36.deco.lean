noncomputable def jX9_odds_79_52 (h : hp_H) (v0 : Nat) (v1 : Int32) (v2 : Int32) (v3 : Int32) (v6 : Int32) (u4 : Int32) (u7 : Int32) (k0 : Int32) (k1 : Int32) : Option ((Int32 × Int32 × Int32) ⊕ (Int32 × Int32)) :=
(some (k1 + k0)).bind fun x18 =>
(some (u7 + 1)).bind fun x19 =>
some (.inl (u4, x18, x19))
set_option maxRecDepth 20000 in
set_option maxHeartbeats 4000000 in
theorem tjX9_odds_79_52 (l : Launch) {h : hp_H} {v0 : Nat} {v1 : Int32} {v2 : Int32} {v3 : Int32} {v6 : Int32} {u4 : Int32} {u7 : Int32} {k0 : Int32} {k1 : Int32} {r : ((Int32 × Int32 × Int32) ⊕ (Int32 × Int32))} (hf : jX9_odds_79_52 h v0 v1 v2 v3 v6 u4 u7 k0 k1 = some r) {Q : Option Value → hp_H → Prop} (kb : ∀ t, r = .inl t → hp_G l mX9_odds none 2 false Q false 0 0 52 [(0, .ref v0), (1, .int v1), (2, .int v2), (3, .int v3), (4, .int t.1), (5, .int t.2.1), (6, .int v6), (7, .int t.2.2)] [] h) (ke : ∀ x, r = .inr x → hp_G l mX9_odds none 2 false Q false 0 0 88 [(0, .ref v0), (1, .int v1), (2, .int v2), (3, .int v3), (4, .int x.1), (5, .int x.2), (6, .int v6)] [] h) : hp_G l mX9_odds none 2 false Q false 0 0 79 [(0, .ref v0), (1, .int v1), (2, .int v2), (3, .int v3), (4, .int u4), (6, .int v6), (7, .int u7)] [.int k0, .int k1] h := by
  unfold jX9_odds_79_52 at hf
  refine hp_iadd dX9_odds_79 (?_ : hp_G _ _ _ _ _ _ _ _ _ 80 _ _ _)
  replace hf := ob_ hf
  obtain ⟨x18, ex18, hf⟩ := hf
  refine hp_nmi ex18 ?_
  refine hp_istore (lv' := [(5, .int x18), (0, .ref v0), (1, .int v1), (2, .int v2), (3, .int v3), (4, .int u4), (6, .int v6), (7, .int u7)]) dX9_odds_80 (Nat.le_of_ble_eq_true rfl) rfl (?_ : hp_G _ _ _ _ _ _ _ _ _ 82 _ _ _)
  replace hf := ob_ hf
  obtain ⟨x19, ex19, hf⟩ := hf
  refine hp_iinc (v := x19) (lv' := [(7, .int x19), (5, .int x18), (0, .ref v0), (1, .int v1), (2, .int v2), (3, .int v3), (4, .int u4), (6, .int v6)]) 7 dX9_odds_82 rfl (hp_inc ic_1 ex19) (Nat.le_of_ble_eq_true rfl) rfl (?_ : hp_G _ _ _ _ _ _ _ _ _ 85 _ _ _)
  refine hp_goto (tgt := 52) dX9_odds_85 rfl (?_ : hp_G _ _ _ _ _ _ _ _ _ 52 _ _ _)
  obtain rfl := Option.some.inj hf
  exact hp_sub [2, 3, 4, 5, 6, 1, 7, 0] rfl (kb _ rfl)
noncomputable def bX9_odds_52 (h : hp_H) (v0 : Nat) (v1 : Int32) (v2 : Int32) (v3 : Int32) (v6 : Int32) (s : (Int32 × Int32 × Int32)) : Option ((Int32 × Int32 × Int32) ⊕ (Int32 × Int32)) :=
(hg_o h v0 8).bind fun o13 =>
(fX9_bestOf h v0 v2).bind fun r14 =>
if r14 < s.2.2 then
(some (.inr (s.1, s.2.1)))
else
((some (s.1 + 1)).bind fun x16 =>
if v6 ≤ s.2.2 then
(jX9_odds_79_52 h v0 v1 v2 v3 v6 x16 s.2.2 0 s.2.1)
else
(jX9_odds_79_52 h v0 v1 v2 v3 v6 x16 s.2.2 1 s.2.1))
set_option maxRecDepth 20000 in
set_option maxHeartbeats 4000000 in
theorem tbX9_odds_52 (l : Launch) {h : hp_H} {v0 : Nat} {v1 : Int32} {v2 : Int32} {v3 : Int32} {v6 : Int32}  {s : (Int32 × Int32 × Int32)} {r : ((Int32 × Int32 × Int32) ⊕ (Int32 × Int32))} (hf : bX9_odds_52 h  v0 v1 v2 v3 v6 s = some r) {Q : Option Value → hp_H → Prop} (kb : ∀ t, r = .inl t → hp_G l mX9_odds none 2 false Q false 0 0 52 [(0, .ref v0), (1, .int v1), (2, .int v2), (3, .int v3), (4, .int t.1), (5, .int t.2.1), (6, .int v6), (7, .int t.2.2)] [] h) (ke : ∀ x, r = .inr x → hp_G l mX9_odds none 2 false Q false 0 0 88 [(0, .ref v0), (1, .int v1), (2, .int v2), (3, .int v3), (4, .int x.1), (5, .int x.2), (6, .int v6)] [] h) : hp_G l mX9_odds none 2 false Q false 0 0 52 [(0, .ref v0), (1, .int v1), (2, .int v2), (3, .int v3), (4, .int s.1), (5, .int s.2.1), (6, .int v6), (7, .int s.2.2)] [] h := by
  unfold bX9_odds_52 at hf
  refine hp_iload 7 dX9_odds_52 rfl (?_ : hp_G _ _ _ _ _ _ _ _ _ 54 _ _ _)
  refine hp_aload_n 0 dX9_odds_54 rfl rfl (?_ : hp_G _ _ _ _ _ _ _ _ _ 55 _ _ _)
  refine hp_iload_n 2 dX9_odds_55 rfl rfl (?_ : hp_G _ _ _ _ _ _ _ _ _ 56 _ _ _)
  replace hf := ob_ hf
  obtain ⟨o13, eo13, hf⟩ := hf
  replace hf := ob_ hf
  obtain ⟨r14, er14, hf⟩ := hf
  refine clX9_120 (as := [.int v2]) (st := [.int s.2.2]) rfl (kX9_bestOf l er14) rfl (by decide) (Nat.le_of_ble_eq_true rfl) eo13 dX9_odds_56 rfl (?_ : hp_G _ _ _ _ _ _ _ _ _ 59 _ _ _)
  refine hp_icmp_gt (tgt := 88) dX9_odds_59 rfl (fun c15 => ?_) (fun c15 => (?_ : hp_G _ _ _ _ _ _ _ _ _ 62 _ _ _))
  · replace hf := ot_ c15 hf
    obtain rfl := Option.some.inj hf
    exact hp_sub [0, 1, 2, 3, 4, 5, 6] rfl (ke _ rfl)
  · replace hf := of_ c15 hf
    replace hf := ob_ hf
    obtain ⟨x16, ex16, hf⟩ := hf
    refine hp_iinc (v := x16) (lv' := [(4, .int x16), (0, .ref v0), (1, .int v1), (2, .int v2), (3, .int v3), (5, .int s.2.1), (6, .int v6), (7, .int s.2.2)]) 4 dX9_odds_62 rfl (hp_inc ic_1 ex16) (Nat.le_of_ble_eq_true rfl) rfl (?_ : hp_G _ _ _ _ _ _ _ _ _ 65 _ _ _)
    refine hp_iload 5 dX9_odds_65 rfl (?_ : hp_G _ _ _ _ _ _ _ _ _ 67 _ _ _)
    refine hp_iload 6 dX9_odds_67 rfl (?_ : hp_G _ _ _ _ _ _ _ _ _ 69 _ _ _)
    refine hp_iload 7 dX9_odds_69 rfl (?_ : hp_G _ _ _ _ _ _ _ _ _ 71 _ _ _)
    refine hp_icmp_le (tgt := 78) dX9_odds_71 rfl (fun c17 => ?_) (fun c17 => (?_ : hp_G _ _ _ _ _ _ _ _ _ 74 _ _ _))
    · replace hf := ot_ c17 hf
      refine hp_iconst (v := 0) dX9_odds_78 ic_0 (?_ : hp_G _ _ _ _ _ _ _ _ _ 79 _ _ _)
      exact hp_sub [1, 2, 3, 4, 0, 6, 7] rfl (tjX9_odds_79_52 l hf kb ke)
    · replace hf := of_ c17 hf
      refine hp_iconst (v := 1) dX9_odds_74 ic_1 (?_ : hp_G _ _ _ _ _ _ _ _ _ 75 _ _ _)
      refine hp_goto (tgt := 79) dX9_odds_75 rfl (?_ : hp_G _ _ _ _ _ _ _ _ _ 79 _ _ _)
      exact hp_sub [1, 2, 3, 4, 0, 6, 7] rfl (tjX9_odds_79_52 l hf kb ke)
set_option maxRecDepth 20000 in
set_option maxHeartbeats 4000000 in
theorem tlX9_odds_52 (l : Launch) {h : hp_H} {v0 : Nat} {v1 : Int32} {v2 : Int32} {v3 : Int32} {v6 : Int32}  (q : Nat) {s : (Int32 × Int32 × Int32)} {x : (Int32 × Int32)} (hf : it_ (bX9_odds_52 h  v0 v1 v2 v3 v6) q s = some x) {Q : Option Value → hp_H → Prop} (ke : ∀ e, x = e → hp_G l mX9_odds none 2 false Q false 0 0 88 [(0, .ref v0), (1, .int v1), (2, .int v2), (3, .int v3), (4, .int e.1), (5, .int e.2), (6, .int v6)] [] h) : hp_G l mX9_odds none 2 false Q false 0 0 52 [(0, .ref v0), (1, .int v1), (2, .int v2), (3, .int v3), (4, .int s.1), (5, .int s.2.1), (6, .int v6), (7, .int s.2.2)] [] h := by
  exact it_rule (f := bX9_odds_52 h  v0 v1 v2 v3 v6) (fun s => hp_G l mX9_odds none 2 false Q false 0 0 52 [(0, .ref v0), (1, .int v1), (2, .int v2), (3, .int v3), (4, .int s.1), (5, .int s.2.1), (6, .int v6), (7, .int s.2.2)] [] h) (fun x => (∀ e, x = e → hp_G l mX9_odds none 2 false Q false 0 0 88 [(0, .ref v0), (1, .int v1), (2, .int v2), (3, .int v3), (4, .int e.1), (5, .int e.2), (6, .int v6)] [] h)) (fun s r h1 h2 h3 => tbX9_odds_52 l h1 (fun t e => h2 t e) (fun e he => h3 _ he _ rfl)) q s x hf ke
noncomputable def bX9_odds_35 (h : hp_H) (v0 : Nat) (v1 : Int32) (v2 : Int32) (v3 : Int32) (s : (Int32 × Int32 × Int32)) : Option ((Int32 × Int32 × Int32) ⊕ (Int32 × Int32)) :=
(hg_o h v0 8).bind fun o8 =>
(fX9_bestOf h v0 v1).bind fun r9 =>
if r9 < s.2.2 then
(some (.inr (s.1, s.2.1)))
else
((hg_o h v0 8).bind fun o11 =>
(fX9_worstOf h v0 v2).bind fun r12 =>
(it_ (bX9_odds_52 h v0 v1 v2 v3 s.2.2) fu_ (s.1, s.2.1, r12)).bind fun x20 =>
(some (s.2.2 + 1)).bind fun x21 =>
some (.inl (x20.1, x20.2, x21)))
set_option maxRecDepth 20000 in
set_option maxHeartbeats 4000000 in
theorem tbX9_odds_35 (l : Launch) {h : hp_H} {v0 : Nat} {v1 : Int32} {v2 : Int32} {v3 : Int32}  {s : (Int32 × Int32 × Int32)} {r : ((Int32 × Int32 × Int32) ⊕ (Int32 × Int32))} (hf : bX9_odds_35 h  v0 v1 v2 v3 s = some r) {Q : Option Value → hp_H → Prop} (kb : ∀ t, r = .inl t → hp_G l mX9_odds none 2 false Q false 0 0 35 [(0, .ref v0), (1, .int v1), (2, .int v2), (3, .int v3), (4, .int t.1), (5, .int t.2.1), (6, .int t.2.2)] [] h) (ke : ∀ x, r = .inr x → hp_G l mX9_odds none 2 false Q false 0 0 94 [(3, .int v3), (4, .int x.1), (5, .int x.2)] [] h) : hp_G l mX9_odds none 2 false Q false 0 0 35 [(0, .ref v0), (1, .int v1), (2, .int v2), (3, .int v3), (4, .int s.1), (5, .int s.2.1), (6, .int s.2.2)] [] h := by
  unfold bX9_odds_35 at hf
  refine hp_iload 6 dX9_odds_35 rfl (?_ : hp_G _ _ _ _ _ _ _ _ _ 37 _ _ _)
  refine hp_aload_n 0 dX9_odds_37 rfl rfl (?_ : hp_G _ _ _ _ _ _ _ _ _ 38 _ _ _)
  refine hp_iload_n 1 dX9_odds_38 rfl rfl (?_ : hp_G _ _ _ _ _ _ _ _ _ 39 _ _ _)
  replace hf := ob_ hf
  obtain ⟨o8, eo8, hf⟩ := hf
  replace hf := ob_ hf
  obtain ⟨r9, er9, hf⟩ := hf
  refine clX9_120 (as := [.int v1]) (st := [.int s.2.2]) rfl (kX9_bestOf l er9) rfl (by decide) (Nat.le_of_ble_eq_true rfl) eo8 dX9_odds_39 rfl (?_ : hp_G _ _ _ _ _ _ _ _ _ 42 _ _ _)
  refine hp_icmp_gt (tgt := 94) dX9_odds_42 rfl (fun c10 => ?_) (fun c10 => (?_ : hp_G _ _ _ _ _ _ _ _ _ 45 _ _ _))
  · replace hf := ot_ c10 hf
    obtain rfl := Option.some.inj hf
    exact hp_sub [3, 4, 5] rfl (ke _ rfl)
  · replace hf := of_ c10 hf
    refine hp_aload_n 0 dX9_odds_45 rfl rfl (?_ : hp_G _ _ _ _ _ _ _ _ _ 46 _ _ _)
    refine hp_iload_n 2 dX9_odds_46 rfl rfl (?_ : hp_G _ _ _ _ _ _ _ _ _ 47 _ _ _)
    replace hf := ob_ hf
    obtain ⟨o11, eo11, hf⟩ := hf
    replace hf := ob_ hf
    obtain ⟨r12, er12, hf⟩ := hf
    refine clX9_123 (as := [.int v2]) (st := []) rfl (kX9_worstOf l er12) rfl (by decide) (Nat.le_of_ble_eq_true rfl) eo11 dX9_odds_47 rfl (?_ : hp_G _ _ _ _ _ _ _ _ _ 50 _ _ _)
    refine hp_istore (lv' := [(7, .int r12), (0, .ref v0), (1, .int v1), (2, .int v2), (3, .int v3), (4, .int s.1), (5, .int s.2.1), (6, .int s.2.2)]) dX9_odds_50 (Nat.le_of_ble_eq_true rfl) rfl (?_ : hp_G _ _ _ _ _ _ _ _ _ 52 _ _ _)
    replace hf := ob_ hf
    obtain ⟨x20, ex20, hf⟩ := hf
    refine hp_sub [1, 2, 3, 4, 5, 6, 7, 0] rfl ?_
    refine tlX9_odds_52 l fu_ ex20 (fun y hy => ?_)
    obtain rfl := hy
    replace hf := ob_ hf
    obtain ⟨x21, ex21, hf⟩ := hf
    refine hp_iinc (v := x21) (lv' := [(6, .int x21), (0, .ref v0), (1, .int v1), (2, .int v2), (3, .int v3), (4, .int x20.1), (5, .int x20.2)]) 6 dX9_odds_88 rfl (hp_inc ic_1 ex21) (Nat.le_of_ble_eq_true rfl) rfl (?_ : hp_G _ _ _ _ _ _ _ _ _ 91 _ _ _)
    refine hp_goto (tgt := 35) dX9_odds_91 rfl (?_ : hp_G _ _ _ _ _ _ _ _ _ 35 _ _ _)
    obtain rfl := Option.some.inj hf
    exact hp_sub [1, 2, 3, 4, 5, 6, 0] rfl (kb _ rfl)
set_option maxRecDepth 20000 in
set_option maxHeartbeats 4000000 in
theorem tlX9_odds_35 (l : Launch) {h : hp_H} {v0 : Nat} {v1 : Int32} {v2 : Int32} {v3 : Int32}  (q : Nat) {s : (Int32 × Int32 × Int32)} {x : (Int32 × Int32)} (hf : it_ (bX9_odds_35 h  v0 v1 v2 v3) q s = some x) {Q : Option Value → hp_H → Prop} (ke : ∀ e, x = e → hp_G l mX9_odds none 2 false Q false 0 0 94 [(3, .int v3), (4, .int e.1), (5, .int e.2)] [] h) : hp_G l mX9_odds none 2 false Q false 0 0 35 [(0, .ref v0), (1, .int v1), (2, .int v2), (3, .int v3), (4, .int s.1), (5, .int s.2.1), (6, .int s.2.2)] [] h := by
  exact it_rule (f := bX9_odds_35 h  v0 v1 v2 v3) (fun s => hp_G l mX9_odds none 2 false Q false 0 0 35 [(0, .ref v0), (1, .int v1), (2, .int v2), (3, .int v3), (4, .int s.1), (5, .int s.2.1), (6, .int s.2.2)] [] h) (fun x => (∀ e, x = e → hp_G l mX9_odds none 2 false Q false 0 0 94 [(3, .int v3), (4, .int e.1), (5, .int e.2)] [] h)) (fun s r h1 h2 h3 => tbX9_odds_35 l h1 (fun t e => h2 t e) (fun e he => h3 _ he _ rfl)) q s x hf ke
noncomputable def fX9_odds (h : hp_H) (a0 : Nat) (p1 : Int32) (p2 : Int32) (p3 : Int32) : Option Int64 :=
(hg_o h a0 8).bind fun o1 =>
(fX9_areTwo h a0 p1 p2).bind fun r2 =>
if r2 = 0 then
(some (-9223372036854775808))
else
((fX9_within h p3 0 1).bind fun r4 =>
if r4 = 0 then
(some (-9223372036854775808))
else
((hg_o h a0 8).bind fun o6 =>
(fX9_worstOf h a0 p1).bind fun r7 =>
(it_ (bX9_odds_35 h a0 p1 p2 p3) fu_ (0, 0, r7)).bind fun x22 =>
(fX9_inLeastTerms h (Int32.toInt64 x22.2) (Int32.toInt64 x22.1) p3).bind fun r23 =>
some r23))
set_option maxRecDepth 20000 in
set_option maxHeartbeats 4000000 in
theorem tX9_odds (l : Launch) {h : hp_H} {a0 : Nat} {p1 : Int32} {p2 : Int32} {p3 : Int32} {r : Int64} (hf : fX9_odds h a0 p1 p2 p3 = some r) {Q : Option Value → hp_H → Prop} (kr : Q (some (.long r)) h) : hp_G l mX9_odds none 2 false Q false 0 0 0 [(0, .ref a0), (1, .int p1), (2, .int p2), (3, .int p3)] [] h := by
  unfold fX9_odds at hf
  refine hp_aload_n 0 dX9_odds_0 rfl rfl (?_ : hp_G _ _ _ _ _ _ _ _ _ 1 _ _ _)
  refine hp_iload_n 1 dX9_odds_1 rfl rfl (?_ : hp_G _ _ _ _ _ _ _ _ _ 2 _ _ _)
  refine hp_iload_n 2 dX9_odds_2 rfl rfl (?_ : hp_G _ _ _ _ _ _ _ _ _ 3 _ _ _)
  replace hf := ob_ hf
  obtain ⟨o1, eo1, hf⟩ := hf
  replace hf := ob_ hf
  obtain ⟨r2, er2, hf⟩ := hf
  refine clX9_129 (as := [.int p1, .int p2]) (st := []) rfl (kX9_areTwo l er2) rfl (by decide) (Nat.le_of_ble_eq_true rfl) eo1 dX9_odds_3 rfl (?_ : hp_G _ _ _ _ _ _ _ _ _ 6 _ _ _)
  refine hp_if_eq (tgt := 18) dX9_odds_6 rfl (fun c3 => ?_) (fun c3 => (?_ : hp_G _ _ _ _ _ _ _ _ _ 9 _ _ _))
  · replace hf := ot_ c3 hf
    refine hp_ldc2 (v := (-9223372036854775808)) wd_965 dX9_odds_18 (?_ : hp_G _ _ _ _ _ _ _ _ _ 21 _ _ _)
    obtain rfl := Option.some.inj hf
    exact hp_lret kr (fun z => z) rfl dX9_odds_21
  · replace hf := of_ c3 hf
    refine hp_iload_n 3 dX9_odds_9 rfl rfl (?_ : hp_G _ _ _ _ _ _ _ _ _ 10 _ _ _)
    refine hp_iconst (v := 0) dX9_odds_10 ic_0 (?_ : hp_G _ _ _ _ _ _ _ _ _ 11 _ _ _)
    refine hp_iconst (v := 1) dX9_odds_11 ic_1 (?_ : hp_G _ _ _ _ _ _ _ _ _ 12 _ _ _)
    replace hf := ob_ hf
    obtain ⟨r4, er4, hf⟩ := hf
    refine clX9_67 (as := [.int p3, .int 0, .int 1]) (st := []) rfl (kX9_within l er4) rfl (by decide) (Nat.le_of_ble_eq_true rfl) dX9_odds_12 rfl (?_ : hp_G _ _ _ _ _ _ _ _ _ 15 _ _ _)
    refine hp_if_ne (tgt := 22) dX9_odds_15 rfl (fun c5 => ?_) (fun c5 => (?_ : hp_G _ _ _ _ _ _ _ _ _ 18 _ _ _))
    · replace hf := of_ c5 hf
      refine hp_iconst (v := 0) dX9_odds_22 ic_0 (?_ : hp_G _ _ _ _ _ _ _ _ _ 23 _ _ _)
      refine hp_istore (lv' := [(4, .int 0), (0, .ref a0), (1, .int p1), (2, .int p2), (3, .int p3)]) dX9_odds_23 (Nat.le_of_ble_eq_true rfl) rfl (?_ : hp_G _ _ _ _ _ _ _ _ _ 25 _ _ _)
      refine hp_iconst (v := 0) dX9_odds_25 ic_0 (?_ : hp_G _ _ _ _ _ _ _ _ _ 26 _ _ _)
      refine hp_istore (lv' := [(5, .int 0), (4, .int 0), (0, .ref a0), (1, .int p1), (2, .int p2), (3, .int p3)]) dX9_odds_26 (Nat.le_of_ble_eq_true rfl) rfl (?_ : hp_G _ _ _ _ _ _ _ _ _ 28 _ _ _)
      refine hp_aload_n 2 dX9_odds_28 rfl rfl (?_ : hp_G _ _ _ _ _ _ _ _ _ 29 _ _ _)
      refine hp_iload_n 3 dX9_odds_29 rfl rfl (?_ : hp_G _ _ _ _ _ _ _ _ _ 30 _ _ _)
      replace hf := ob_ hf
      obtain ⟨o6, eo6, hf⟩ := hf
      replace hf := ob_ hf
      obtain ⟨r7, er7, hf⟩ := hf
      refine clX9_123 (as := [.int p1]) (st := []) rfl (kX9_worstOf l er7) rfl (by decide) (Nat.le_of_ble_eq_true rfl) eo6 dX9_odds_30 rfl (?_ : hp_G _ _ _ _ _ _ _ _ _ 33 _ _ _)
      refine hp_istore (lv' := [(6, .int r7), (5, .int 0), (4, .int 0), (0, .ref a0), (1, .int p1), (2, .int p2), (3, .int p3)]) dX9_odds_33 (Nat.le_of_ble_eq_true rfl) rfl (?_ : hp_G _ _ _ _ _ _ _ _ _ 35 _ _ _)
      replace hf := ob_ hf
      obtain ⟨x22, ex22, hf⟩ := hf
      refine hp_sub [3, 4, 5, 6, 2, 1, 0] rfl ?_
      refine tlX9_odds_35 l fu_ ex22 (fun y hy => ?_)
      obtain rfl := hy
      refine hp_iload 2 dX9_odds_94 rfl (?_ : hp_G _ _ _ _ _ _ _ _ _ 96 _ _ _)
      refine hp_i2l dX9_odds_96 (?_ : hp_G _ _ _ _ _ _ _ _ _ 97 _ _ _)
      refine hp_iload 1 dX9_odds_97 rfl (?_ : hp_G _ _ _ _ _ _ _ _ _ 99 _ _ _)
      refine hp_i2l dX9_odds_99 (?_ : hp_G _ _ _ _ _ _ _ _ _ 100 _ _ _)
      refine hp_iload_n 0 dX9_odds_100 rfl rfl (?_ : hp_G _ _ _ _ _ _ _ _ _ 101 _ _ _)
      replace hf := ob_ hf
      obtain ⟨r23, er23, hf⟩ := hf
      refine clX9_205 (as := [.long (Int32.toInt64 x22.2), .long (Int32.toInt64 x22.1), .int p3]) (st := []) rfl (kX9_inLeastTerms l er23) rfl (by decide) (Nat.le_of_ble_eq_true rfl) dX9_odds_101 rfl (?_ : hp_G _ _ _ _ _ _ _ _ _ 104 _ _ _)
      obtain rfl := Option.some.inj hf
      exact hp_lret kr (fun z => z) rfl dX9_odds_104
    · replace hf := ot_ c5 hf
      refine hp_ldc2 (v := (-9223372036854775808)) wd_965 dX9_odds_18 (?_ : hp_G _ _ _ _ _ _ _ _ _ 21 _ _ _)
      obtain rfl := Option.some.inj hf
      exact hp_lret kr (fun z => z) rfl dX9_odds_21
theorem kX9_odds (l : Launch) {h : hp_H} {a0 : Nat} {p1 : Int32} {p2 : Int32} {p3 : Int32} {r : Int64} (hf : fX9_odds h a0 p1 p2 p3 = some r) : hp_Cn l yX9_odds mX9_odds 2 false 0 0 [.ref a0, .int p1, .int p2, .int p3] h (fun v h2 => some (.long r) = v ∧ h = h2) :=
  hp_of (by decide) rfl (fun z => by cases z) (Nat.le_of_ble_eq_true rfl) (tX9_odds l hf ⟨rfl, rfl⟩)
noncomputable def fX5_renew (h : hp_H) (a0 : Nat) (p1 : Int32) (p2 : Int32) : Option hp_H :=
(gq_ h a0 5 0).bind fun x1 =>
(fJ7_fill_53178 h x1 0).bind fun r2 =>
(pz_ r2 a0 5 1 1).bind fun h3 =>
(pi_ h3 a0 5 2 p1).bind fun h4 =>
(pi_ h4 a0 5 3 p2).bind fun h5 =>
some h5
set_option maxRecDepth 20000 in
set_option maxHeartbeats 4000000 in
theorem tX5_renew (l : Launch) {h : hp_H} {a0 : Nat} {p1 : Int32} {p2 : Int32} {r : hp_H} (hf : fX5_renew h a0 p1 p2 = some r) {Q : Option Value → hp_H → Prop} (kr : Q (none) r) : hp_G l mX5_renew none 1 false Q false 0 0 0 [(0, .ref a0), (1, .int p1), (2, .int p2)] [] h := by
  unfold fX5_renew at hf
  refine hp_aload_n 0 dX5_renew_0 rfl rfl (?_ : hp_G _ _ _ _ _ _ _ _ _ 1 _ _ _)
  replace hf := ob_ hf
  obtain ⟨x1, ex1, hf⟩ := hf
  refine fgX5_9 rfl dX5_renew_1 ex1 (?_ : hp_G _ _ _ _ _ _ _ _ _ 4 _ _ _)
  refine hp_iconst (v := 0) dX5_renew_4 ic_0 (?_ : hp_G _ _ _ _ _ _ _ _ _ 5 _ _ _)
  replace hf := ob_ hf
  obtain ⟨r2, er2, hf⟩ := hf
  refine clX5_15 (as := [.ref x1, .int 0]) (st := []) rfl (kJ7_fill_53178 l er2) rfl (by decide) (Nat.le_of_ble_eq_true rfl) dX5_renew_5 rfl (?_ : hp_G _ _ _ _ _ _ _ _ _ 8 _ _ _)
  refine hp_aload_n 0 dX5_renew_8 rfl rfl (?_ : hp_G _ _ _ _ _ _ _ _ _ 9 _ _ _)
  refine hp_iconst (v := 1) dX5_renew_9 ic_1 (?_ : hp_G _ _ _ _ _ _ _ _ _ 10 _ _ _)
  replace hf := ob_ hf
  obtain ⟨h3, eh3, hf⟩ := hf
  refine fpX5_21 rfl dX5_renew_10 eh3 (?_ : hp_G _ _ _ _ _ _ _ _ _ 13 _ _ _)
  refine hp_aload_n 0 dX5_renew_13 rfl rfl (?_ : hp_G _ _ _ _ _ _ _ _ _ 14 _ _ _)
  refine hp_iload_n 1 dX5_renew_14 rfl rfl (?_ : hp_G _ _ _ _ _ _ _ _ _ 15 _ _ _)
  replace hf := ob_ hf
  obtain ⟨h4, eh4, hf⟩ := hf
  refine fpX5_25 rfl dX5_renew_15 eh4 (?_ : hp_G _ _ _ _ _ _ _ _ _ 18 _ _ _)
  refine hp_aload_n 0 dX5_renew_18 rfl rfl (?_ : hp_G _ _ _ _ _ _ _ _ _ 19 _ _ _)
  refine hp_iload_n 2 dX5_renew_19 rfl rfl (?_ : hp_G _ _ _ _ _ _ _ _ _ 20 _ _ _)
  replace hf := ob_ hf
  obtain ⟨h5, eh5, hf⟩ := hf
  refine fpX5_29 rfl dX5_renew_20 eh5 (?_ : hp_G _ _ _ _ _ _ _ _ _ 23 _ _ _)
  obtain rfl := Option.some.inj hf
  exact hp_vret kr (fun z => z) rfl dX5_renew_23
theorem kX5_renew (l : Launch) {h : hp_H} {a0 : Nat} {p1 : Int32} {p2 : Int32} {r : hp_H} (hf : fX5_renew h a0 p1 p2 = some r) : hp_Cn l yX5_renew mX5_renew 1 false 0 0 [.ref a0, .int p1, .int p2] h (fun v h2 => none = v ∧ r = h2) :=
  hp_of (by decide) rfl (fun z => by cases z) (Nat.le_of_ble_eq_true rfl) (tX5_renew l hf ⟨rfl, rfl⟩)
noncomputable def fX8_sheet (h : hp_H) (a0 : Nat) (p1 : Int32) (p2 : Int32) (p3 : Int32) : Option (Int32 × hp_H) :=
(pi_ h a0 7 8 0).bind fun h1 =>
(fX8_isSheet h1 p1).bind fun r2 =>
if r2 = 0 then
(some ((-1), h1))
else
((fX8_isLane h1 p2).bind fun r4 =>
if r4 = 0 then
(some ((-2), h1))
else
(if p3 ≤ 60 then
(if (0 : Int32) ≤ p3 then
((gq_ h1 a0 7 1).bind fun x8 =>
(ql_ h1 x8 p1).bind fun x9 =>
(hg_o h1 x9 5).bind fun o10 =>
(fX5_renew h1 x9 p2 p3).bind fun r11 =>
some (1, r11))
else
((hg_o h1 a0 7).bind fun o12 =>
(fX8_faulted h1 a0 4).bind fun r13 =>
some (r13.1, r13.2)))
else
(some ((-2), h1))))
set_option maxRecDepth 20000 in
set_option maxHeartbeats 4000000 in
theorem tX8_sheet (l : Launch) {h : hp_H} {a0 : Nat} {p1 : Int32} {p2 : Int32} {p3 : Int32} {r : (Int32 × hp_H)} (hf : fX8_sheet h a0 p1 p2 p3 = some r) {Q : Option Value → hp_H → Prop} (kr : Q (some (.int r.1)) r.2) : hp_G l mX8_sheet none 2 false Q false 0 0 0 [(0, .ref a0), (1, .int p1), (2, .int p2), (3, .int p3)] [] h := by
  unfold fX8_sheet at hf
  refine hp_aload_n 0 dX8_sheet_0 rfl rfl (?_ : hp_G _ _ _ _ _ _ _ _ _ 1 _ _ _)
  refine hp_iconst (v := 0) dX8_sheet_1 ic_0 (?_ : hp_G _ _ _ _ _ _ _ _ _ 2 _ _ _)
  replace hf := ob_ hf
  obtain ⟨h1, eh1, hf⟩ := hf
  refine fpX8_53 rfl dX8_sheet_2 eh1 (?_ : hp_G _ _ _ _ _ _ _ _ _ 5 _ _ _)
  refine hp_iload_n 1 dX8_sheet_5 rfl rfl (?_ : hp_G _ _ _ _ _ _ _ _ _ 6 _ _ _)
  replace hf := ob_ hf
  obtain ⟨r2, er2, hf⟩ := hf
  refine clX8_57 (as := [.int p1]) (st := []) rfl (kX8_isSheet l er2) rfl (by decide) (Nat.le_of_ble_eq_true rfl) dX8_sheet_6 rfl (?_ : hp_G _ _ _ _ _ _ _ _ _ 9 _ _ _)
  refine hp_if_ne (tgt := 14) dX8_sheet_9 rfl (fun c3 => ?_) (fun c3 => (?_ : hp_G _ _ _ _ _ _ _ _ _ 12 _ _ _))
  · replace hf := of_ c3 hf
    refine hp_iload_n 2 dX8_sheet_14 rfl rfl (?_ : hp_G _ _ _ _ _ _ _ _ _ 15 _ _ _)
    replace hf := ob_ hf
    obtain ⟨r4, er4, hf⟩ := hf
    refine clX8_61 (as := [.int p2]) (st := []) rfl (kX8_isLane l er4) rfl (by decide) (Nat.le_of_ble_eq_true rfl) dX8_sheet_15 rfl (?_ : hp_G _ _ _ _ _ _ _ _ _ 18 _ _ _)
    refine hp_if_eq (tgt := 27) dX8_sheet_18 rfl (fun c5 => ?_) (fun c5 => (?_ : hp_G _ _ _ _ _ _ _ _ _ 21 _ _ _))
    · replace hf := ot_ c5 hf
      refine hp_bipush (v := (-2)) dX8_sheet_27 bi_m2 (?_ : hp_G _ _ _ _ _ _ _ _ _ 29 _ _ _)
      obtain rfl := Option.some.inj hf
      exact hp_iret kr (fun z => z) rfl dX8_sheet_29
    · replace hf := of_ c5 hf
      refine hp_iload_n 3 dX8_sheet_21 rfl rfl (?_ : hp_G _ _ _ _ _ _ _ _ _ 22 _ _ _)
      refine hp_bipush (v := 60) dX8_sheet_22 bi_60 (?_ : hp_G _ _ _ _ _ _ _ _ _ 24 _ _ _)
      refine hp_icmp_le (tgt := 30) dX8_sheet_24 rfl (fun c6 => ?_) (fun c6 => (?_ : hp_G _ _ _ _ _ _ _ _ _ 27 _ _ _))
      · replace hf := ot_ c6 hf
        refine hp_iload_n 3 dX8_sheet_30 rfl rfl (?_ : hp_G _ _ _ _ _ _ _ _ _ 31 _ _ _)
        refine hp_if_ge (tgt := 40) dX8_sheet_31 rfl (fun c7 => ?_) (fun c7 => (?_ : hp_G _ _ _ _ _ _ _ _ _ 34 _ _ _))
        · replace hf := ot_ c7 hf
          refine hp_aload_n 0 dX8_sheet_40 rfl rfl (?_ : hp_G _ _ _ _ _ _ _ _ _ 41 _ _ _)
          replace hf := ob_ hf
          obtain ⟨x8, ex8, hf⟩ := hf
          refine fgX8_20 rfl dX8_sheet_41 ex8 (?_ : hp_G _ _ _ _ _ _ _ _ _ 44 _ _ _)
          refine hp_iload_n 1 dX8_sheet_44 rfl rfl (?_ : hp_G _ _ _ _ _ _ _ _ _ 45 _ _ _)
          replace hf := ob_ hf
          obtain ⟨x9, ex9, hf⟩ := hf
          refine hp_aaload dX8_sheet_45 ex9 (?_ : hp_G _ _ _ _ _ _ _ _ _ 46 _ _ _)
          refine hp_iload_n 2 dX8_sheet_46 rfl rfl (?_ : hp_G _ _ _ _ _ _ _ _ _ 47 _ _ _)
          refine hp_iload_n 3 dX8_sheet_47 rfl rfl (?_ : hp_G _ _ _ _ _ _ _ _ _ 48 _ _ _)
          replace hf := ob_ hf
          obtain ⟨o10, eo10, hf⟩ := hf
          replace hf := ob_ hf
          obtain ⟨r11, er11, hf⟩ := hf
          refine clX8_206 (as := [.int p2, .int p3]) (st := []) rfl (kX5_renew l er11) rfl (by decide) (Nat.le_of_ble_eq_true rfl) eo10 dX8_sheet_48 rfl (?_ : hp_G _ _ _ _ _ _ _ _ _ 51 _ _ _)
          refine hp_iconst (v := 1) dX8_sheet_51 ic_1 (?_ : hp_G _ _ _ _ _ _ _ _ _ 52 _ _ _)
          obtain rfl := Option.some.inj hf
          exact hp_iret kr (fun z => z) rfl dX8_sheet_52
        · replace hf := of_ c7 hf
          refine hp_aload_n 0 dX8_sheet_34 rfl rfl (?_ : hp_G _ _ _ _ _ _ _ _ _ 35 _ _ _)
          refine hp_iconst (v := 4) dX8_sheet_35 ic_4 (?_ : hp_G _ _ _ _ _ _ _ _ _ 36 _ _ _)
          replace hf := ob_ hf
          obtain ⟨o12, eo12, hf⟩ := hf
          replace hf := ob_ hf
          obtain ⟨r13, er13, hf⟩ := hf
          refine clX8_68 (as := [.int 4]) (st := []) rfl (kX8_faulted l er13) rfl (by decide) (Nat.le_of_ble_eq_true rfl) eo12 dX8_sheet_36 rfl (?_ : hp_G _ _ _ _ _ _ _ _ _ 39 _ _ _)
          obtain rfl := Option.some.inj hf
          exact hp_iret kr (fun z => z) rfl dX8_sheet_39
      · replace hf := of_ c6 hf
        refine hp_bipush (v := (-2)) dX8_sheet_27 bi_m2 (?_ : hp_G _ _ _ _ _ _ _ _ _ 29 _ _ _)
        obtain rfl := Option.some.inj hf
        exact hp_iret kr (fun z => z) rfl dX8_sheet_29
  · replace hf := ot_ c3 hf
    refine hp_iconst (v := (-1)) dX8_sheet_12 ic_m1 (?_ : hp_G _ _ _ _ _ _ _ _ _ 13 _ _ _)
    obtain rfl := Option.some.inj hf
    exact hp_iret kr (fun z => z) rfl dX8_sheet_13
theorem kX8_sheet (l : Launch) {h : hp_H} {a0 : Nat} {p1 : Int32} {p2 : Int32} {p3 : Int32} {r : (Int32 × hp_H)} (hf : fX8_sheet h a0 p1 p2 p3 = some r) : hp_Cn l yX8_sheet mX8_sheet 2 false 0 0 [.ref a0, .int p1, .int p2, .int p3] h (fun v h2 => some (.int r.1) = v ∧ r.2 = h2) :=
  hp_of (by decide) rfl (fun z => by cases z) (Nat.le_of_ble_eq_true rfl) (tX8_sheet l hf ⟨rfl, rfl⟩)
noncomputable def bX9_sheet_57 (v0 : Nat) (v1 : Int32) (s : (Int32 × hp_H)) : Option ((Int32 × hp_H) ⊕ hp_H) :=
if (60 : Int32) ≤ s.1 then
(some (.inr s.2))
else
((gq_ s.2 v0 8 4).bind fun x13 =>
(ax_ s.2 x13 ((60 * v1) + s.1) 0).bind fun h14 =>
(some (s.1 + 1)).bind fun x15 =>
some (.inl (x15, h14)))
set_option maxRecDepth 20000 in
set_option maxHeartbeats 4000000 in
theorem tbX9_sheet_57 (l : Launch) {v0 : Nat} {v1 : Int32}  {s : (Int32 × hp_H)} {r : ((Int32 × hp_H) ⊕ hp_H)} (hf : bX9_sheet_57  v0 v1 s = some r) {Q : Option Value → hp_H → Prop} (kb : ∀ t, r = .inl t → hp_G l mX9_sheet none 2 false Q false 0 0 57 [(0, .ref v0), (1, .int v1), (4, .int t.1)] [] t.2) (ke : ∀ x, r = .inr x → hp_G l mX9_sheet none 2 false Q false 0 0 83 [] [] x) : hp_G l mX9_sheet none 2 false Q false 0 0 57 [(0, .ref v0), (1, .int v1), (4, .int s.1)] [] s.2 := by
  unfold bX9_sheet_57 at hf
  refine hp_iload 2 dX9_sheet_57 rfl (?_ : hp_G _ _ _ _ _ _ _ _ _ 59 _ _ _)
  refine hp_bipush (v := 60) dX9_sheet_59 bi_60 (?_ : hp_G _ _ _ _ _ _ _ _ _ 61 _ _ _)
  refine hp_icmp_ge (tgt := 83) dX9_sheet_61 rfl (fun c12 => ?_) (fun c12 => (?_ : hp_G _ _ _ _ _ _ _ _ _ 64 _ _ _))
  · replace hf := ot_ c12 hf
    obtain rfl := Option.some.inj hf
    exact hp_sub [] rfl (ke _ rfl)
  · replace hf := of_ c12 hf
    refine hp_aload_n 0 dX9_sheet_64 rfl rfl (?_ : hp_G _ _ _ _ _ _ _ _ _ 65 _ _ _)
    replace hf := ob_ hf
    obtain ⟨x13, ex13, hf⟩ := hf
    refine fgX9_16 rfl dX9_sheet_65 ex13 (?_ : hp_G _ _ _ _ _ _ _ _ _ 68 _ _ _)
    refine hp_bipush (v := 60) dX9_sheet_68 bi_60 (?_ : hp_G _ _ _ _ _ _ _ _ _ 70 _ _ _)
    refine hp_iload_n 1 dX9_sheet_70 rfl rfl (?_ : hp_G _ _ _ _ _ _ _ _ _ 71 _ _ _)
    refine hp_imul dX9_sheet_71 (?_ : hp_G _ _ _ _ _ _ _ _ _ 72 _ _ _)
    refine hp_iload 2 dX9_sheet_72 rfl (?_ : hp_G _ _ _ _ _ _ _ _ _ 74 _ _ _)
    refine hp_iadd dX9_sheet_74 (?_ : hp_G _ _ _ _ _ _ _ _ _ 75 _ _ _)
    refine hp_iconst (v := 0) dX9_sheet_75 ic_0 (?_ : hp_G _ _ _ _ _ _ _ _ _ 76 _ _ _)
    replace hf := ob_ hf
    obtain ⟨h14, eh14, hf⟩ := hf
    refine hp_iastore dX9_sheet_76 eh14 (?_ : hp_G _ _ _ _ _ _ _ _ _ 77 _ _ _)
    replace hf := ob_ hf
    obtain ⟨x15, ex15, hf⟩ := hf
    refine hp_iinc (v := x15) (lv' := [(4, .int x15), (0, .ref v0), (1, .int v1)]) 2 dX9_sheet_77 rfl (hp_inc ic_1 ex15) (Nat.le_of_ble_eq_true rfl) rfl (?_ : hp_G _ _ _ _ _ _ _ _ _ 80 _ _ _)
    refine hp_goto (tgt := 57) dX9_sheet_80 rfl (?_ : hp_G _ _ _ _ _ _ _ _ _ 57 _ _ _)
    obtain rfl := Option.some.inj hf
    exact hp_sub [1, 2, 0] rfl (kb _ rfl)
set_option maxRecDepth 20000 in
set_option maxHeartbeats 4000000 in
theorem tlX9_sheet_57 (l : Launch) {v0 : Nat} {v1 : Int32}  (q : Nat) {s : (Int32 × hp_H)} {x : hp_H} (hf : it_ (bX9_sheet_57  v0 v1) q s = some x) {Q : Option Value → hp_H → Prop} (ke : ∀ e, x = e → hp_G l mX9_sheet none 2 false Q false 0 0 83 [] [] e) : hp_G l mX9_sheet none 2 false Q false 0 0 57 [(0, .ref v0), (1, .int v1), (4, .int s.1)] [] s.2 := by
  exact it_rule (f := bX9_sheet_57  v0 v1) (fun s => hp_G l mX9_sheet none 2 false Q false 0 0 57 [(0, .ref v0), (1, .int v1), (4, .int s.1)] [] s.2) (fun x => (∀ e, x = e → hp_G l mX9_sheet none 2 false Q false 0 0 83 [] [] e)) (fun s r h1 h2 h3 => tbX9_sheet_57 l h1 (fun t e => h2 t e) (fun e he => h3 _ he _ rfl)) q s x hf ke
noncomputable def fX9_sheet (h : hp_H) (a0 : Nat) (p1 : Int32) (p2 : Int32) (p3 : Int32) : Option (Int32 × hp_H) :=
(pi_ h a0 8 0 0).bind fun h1 =>
(fX9_isSheet h1 p1).bind fun r2 =>
if r2 = 0 then
(some ((-1), h1))
else
((fX9_isSort h1 p2).bind fun r4 =>
if r4 = 0 then
(some ((-2), h1))
else
(if p3 ≤ 60 then
(if (0 : Int32) ≤ p3 then
((gq_ h1 a0 8 2).bind fun x8 =>
(ax_ h1 x8 p1 p2).bind fun h9 =>
(gq_ h9 a0 8 3).bind fun x10 =>
(ax_ h9 x10 p1 p3).bind fun h11 =>
(it_ (bX9_sheet_57  a0 p1) fu_ (0, h11)).bind fun x16 =>
some (1, x16))
else
((hg_o h1 a0 8).bind fun o17 =>
(fX9_fails h1 a0 4).bind fun r18 =>
some (r18.1, r18.2)))
else
(some ((-2), h1))))
set_option maxRecDepth 20000 in
set_option maxHeartbeats 4000000 in
theorem tX9_sheet (l : Launch) {h : hp_H} {a0 : Nat} {p1 : Int32} {p2 : Int32} {p3 : Int32} {r : (Int32 × hp_H)} (hf : fX9_sheet h a0 p1 p2 p3 = some r) {Q : Option Value → hp_H → Prop} (kr : Q (some (.int r.1)) r.2) : hp_G l mX9_sheet none 2 false Q false 0 0 0 [(0, .ref a0), (1, .int p1), (2, .int p2), (3, .int p3)] [] h := by
  unfold fX9_sheet at hf
  refine hp_aload_n 0 dX9_sheet_0 rfl rfl (?_ : hp_G _ _ _ _ _ _ _ _ _ 1 _ _ _)
  refine hp_iconst (v := 0) dX9_sheet_1 ic_0 (?_ : hp_G _ _ _ _ _ _ _ _ _ 2 _ _ _)
  replace hf := ob_ hf
  obtain ⟨h1, eh1, hf⟩ := hf
  refine fpX9_61 rfl dX9_sheet_2 eh1 (?_ : hp_G _ _ _ _ _ _ _ _ _ 5 _ _ _)
  refine hp_iload_n 1 dX9_sheet_5 rfl rfl (?_ : hp_G _ _ _ _ _ _ _ _ _ 6 _ _ _)
  replace hf := ob_ hf
  obtain ⟨r2, er2, hf⟩ := hf
  refine clX9_81 (as := [.int p1]) (st := []) rfl (kX9_isSheet l er2) rfl (by decide) (Nat.le_of_ble_eq_true rfl) dX9_sheet_6 rfl (?_ : hp_G _ _ _ _ _ _ _ _ _ 9 _ _ _)
  refine hp_if_ne (tgt := 14) dX9_sheet_9 rfl (fun c3 => ?_) (fun c3 => (?_ : hp_G _ _ _ _ _ _ _ _ _ 12 _ _ _))
  · replace hf := of_ c3 hf
    refine hp_iload_n 2 dX9_sheet_14 rfl rfl (?_ : hp_G _ _ _ _ _ _ _ _ _ 15 _ _ _)
    replace hf := ob_ hf
    obtain ⟨r4, er4, hf⟩ := hf
    refine clX9_84 (as := [.int p2]) (st := []) rfl (kX9_isSort l er4) rfl (by decide) (Nat.le_of_ble_eq_true rfl) dX9_sheet_15 rfl (?_ : hp_G _ _ _ _ _ _ _ _ _ 18 _ _ _)
    refine hp_if_eq (tgt := 27) dX9_sheet_18 rfl (fun c5 => ?_) (fun c5 => (?_ : hp_G _ _ _ _ _ _ _ _ _ 21 _ _ _))
    · replace hf := ot_ c5 hf
      refine hp_bipush (v := (-2)) dX9_sheet_27 bi_m2 (?_ : hp_G _ _ _ _ _ _ _ _ _ 29 _ _ _)
      obtain rfl := Option.some.inj hf
      exact hp_iret kr (fun z => z) rfl dX9_sheet_29
    · replace hf := of_ c5 hf
      refine hp_iload_n 3 dX9_sheet_21 rfl rfl (?_ : hp_G _ _ _ _ _ _ _ _ _ 22 _ _ _)
      refine hp_bipush (v := 60) dX9_sheet_22 bi_60 (?_ : hp_G _ _ _ _ _ _ _ _ _ 24 _ _ _)
      refine hp_icmp_le (tgt := 30) dX9_sheet_24 rfl (fun c6 => ?_) (fun c6 => (?_ : hp_G _ _ _ _ _ _ _ _ _ 27 _ _ _))
      · replace hf := ot_ c6 hf
        refine hp_iload_n 3 dX9_sheet_30 rfl rfl (?_ : hp_G _ _ _ _ _ _ _ _ _ 31 _ _ _)
        refine hp_if_ge (tgt := 40) dX9_sheet_31 rfl (fun c7 => ?_) (fun c7 => (?_ : hp_G _ _ _ _ _ _ _ _ _ 34 _ _ _))
        · replace hf := ot_ c7 hf
          refine hp_aload_n 0 dX9_sheet_40 rfl rfl (?_ : hp_G _ _ _ _ _ _ _ _ _ 41 _ _ _)
          replace hf := ob_ hf
          obtain ⟨x8, ex8, hf⟩ := hf
          refine fgX9_9 rfl dX9_sheet_41 ex8 (?_ : hp_G _ _ _ _ _ _ _ _ _ 44 _ _ _)
          refine hp_iload_n 1 dX9_sheet_44 rfl rfl (?_ : hp_G _ _ _ _ _ _ _ _ _ 45 _ _ _)
          refine hp_iload_n 2 dX9_sheet_45 rfl rfl (?_ : hp_G _ _ _ _ _ _ _ _ _ 46 _ _ _)
          replace hf := ob_ hf
          obtain ⟨h9, eh9, hf⟩ := hf
          refine hp_iastore dX9_sheet_46 eh9 (?_ : hp_G _ _ _ _ _ _ _ _ _ 47 _ _ _)
          refine hp_aload_n 0 dX9_sheet_47 rfl rfl (?_ : hp_G _ _ _ _ _ _ _ _ _ 48 _ _ _)
          replace hf := ob_ hf
          obtain ⟨x10, ex10, hf⟩ := hf
          refine fgX9_13 rfl dX9_sheet_48 ex10 (?_ : hp_G _ _ _ _ _ _ _ _ _ 51 _ _ _)
          refine hp_iload_n 1 dX9_sheet_51 rfl rfl (?_ : hp_G _ _ _ _ _ _ _ _ _ 52 _ _ _)
          refine hp_iload_n 3 dX9_sheet_52 rfl rfl (?_ : hp_G _ _ _ _ _ _ _ _ _ 53 _ _ _)
          replace hf := ob_ hf
          obtain ⟨h11, eh11, hf⟩ := hf
          refine hp_iastore dX9_sheet_53 eh11 (?_ : hp_G _ _ _ _ _ _ _ _ _ 54 _ _ _)
          refine hp_iconst (v := 0) dX9_sheet_54 ic_0 (?_ : hp_G _ _ _ _ _ _ _ _ _ 55 _ _ _)
          refine hp_istore (lv' := [(4, .int 0), (0, .ref a0), (1, .int p1), (2, .int p2), (3, .int p3)]) dX9_sheet_55 (Nat.le_of_ble_eq_true rfl) rfl (?_ : hp_G _ _ _ _ _ _ _ _ _ 57 _ _ _)
          replace hf := ob_ hf
          obtain ⟨x16, ex16, hf⟩ := hf
          refine hp_sub [1, 2, 0] rfl ?_
          refine tlX9_sheet_57 l fu_ ex16 (fun y hy => ?_)
          obtain rfl := hy
          refine hp_iconst (v := 1) dX9_sheet_83 ic_1 (?_ : hp_G _ _ _ _ _ _ _ _ _ 84 _ _ _)
          obtain rfl := Option.some.inj hf
          exact hp_iret kr (fun z => z) rfl dX9_sheet_84
        · replace hf := of_ c7 hf
          refine hp_aload_n 0 dX9_sheet_34 rfl rfl (?_ : hp_G _ _ _ _ _ _ _ _ _ 35 _ _ _)
          refine hp_iconst (v := 4) dX9_sheet_35 ic_4 (?_ : hp_G _ _ _ _ _ _ _ _ _ 36 _ _ _)
          replace hf := ob_ hf
          obtain ⟨o17, eo17, hf⟩ := hf
          replace hf := ob_ hf
          obtain ⟨r18, er18, hf⟩ := hf
          refine clX9_91 (as := [.int 4]) (st := []) rfl (kX9_fails l er18) rfl (by decide) (Nat.le_of_ble_eq_true rfl) eo17 dX9_sheet_36 rfl (?_ : hp_G _ _ _ _ _ _ _ _ _ 39 _ _ _)
          obtain rfl := Option.some.inj hf
          exact hp_iret kr (fun z => z) rfl dX9_sheet_39
      · replace hf := of_ c6 hf
        refine hp_bipush (v := (-2)) dX9_sheet_27 bi_m2 (?_ : hp_G _ _ _ _ _ _ _ _ _ 29 _ _ _)
        obtain rfl := Option.some.inj hf
        exact hp_iret kr (fun z => z) rfl dX9_sheet_29
  · replace hf := ot_ c3 hf
    refine hp_iconst (v := (-1)) dX9_sheet_12 ic_m1 (?_ : hp_G _ _ _ _ _ _ _ _ _ 13 _ _ _)
    obtain rfl := Option.some.inj hf
    exact hp_iret kr (fun z => z) rfl dX9_sheet_13
theorem kX9_sheet (l : Launch) {h : hp_H} {a0 : Nat} {p1 : Int32} {p2 : Int32} {p3 : Int32} {r : (Int32 × hp_H)} (hf : fX9_sheet h a0 p1 p2 p3 = some r) : hp_Cn l yX9_sheet mX9_sheet 2 false 0 0 [.ref a0, .int p1, .int p2, .int p3] h (fun v h2 => some (.int r.1) = v ∧ r.2 = h2) :=
  hp_of (by decide) rfl (fun z => by cases z) (Nat.le_of_ble_eq_true rfl) (tX9_sheet l hf ⟨rfl, rfl⟩)
noncomputable def jX8_lose_26 (g : hp_H)  (u0 : Nat) (u1 : Int32) (k0 : Int32) : Option (Int32 × hp_H) :=
(gq_ g u0 7 1).bind fun x7 =>
(ql_ g x7 u1).bind fun x8 =>
(pz_ g x8 5 1 0).bind fun h9 =>
some (k0, h9)
set_option maxRecDepth 20000 in
set_option maxHeartbeats 4000000 in
theorem tjX8_lose_26 (l : Launch) {g : hp_H}  {u0 : Nat} {u1 : Int32} {k0 : Int32} {r : (Int32 × hp_H)} (hf : jX8_lose_26 g u0 u1 k0 = some r) {Q : Option Value → hp_H → Prop} (kr : Q (some (.int r.1)) r.2) : hp_G l mX8_lose none 1 false Q false 0 0 26 [(0, .ref u0), (1, .int u1)] [.int k0] g := by
  unfold jX8_lose_26 at hf
  refine hp_istore_n (lv' := [(2, .int k0), (0, .ref u0), (1, .int u1)]) dX8_lose_26 rfl (Nat.le_of_ble_eq_true rfl) rfl (?_ : hp_G _ _ _ _ _ _ _ _ _ 27 _ _ _)
  refine hp_aload_n 1 dX8_lose_27 rfl rfl (?_ : hp_G _ _ _ _ _ _ _ _ _ 28 _ _ _)
  replace hf := ob_ hf
  obtain ⟨x7, ex7, hf⟩ := hf
  refine fgX8_20 rfl dX8_lose_28 ex7 (?_ : hp_G _ _ _ _ _ _ _ _ _ 31 _ _ _)
  refine hp_iload_n 2 dX8_lose_31 rfl rfl (?_ : hp_G _ _ _ _ _ _ _ _ _ 32 _ _ _)
  replace hf := ob_ hf
  obtain ⟨x8, ex8, hf⟩ := hf
  refine hp_aaload dX8_lose_32 ex8 (?_ : hp_G _ _ _ _ _ _ _ _ _ 33 _ _ _)
  refine hp_iconst (v := 0) dX8_lose_33 ic_0 (?_ : hp_G _ _ _ _ _ _ _ _ _ 34 _ _ _)
  replace hf := ob_ hf
  obtain ⟨h9, eh9, hf⟩ := hf
  refine fpX8_210 rfl dX8_lose_34 eh9 (?_ : hp_G _ _ _ _ _ _ _ _ _ 37 _ _ _)
  refine hp_iload_n 0 dX8_lose_37 rfl rfl (?_ : hp_G _ _ _ _ _ _ _ _ _ 38 _ _ _)
  obtain rfl := Option.some.inj hf
  exact hp_iret kr (fun z => z) rfl dX8_lose_38
noncomputable def fX8_lose (h : hp_H) (a0 : Nat) (p1 : Int32) : Option (Int32 × hp_H) :=
(fX8_isSheet h p1).bind fun r1 =>
if r1 = 0 then
(some ((-1), h))
else
((gq_ h a0 7 1).bind fun x3 =>
(ql_ h x3 p1).bind fun x4 =>
(gi_ h x4 5 1).bind fun x5 =>
if x5 = 0 then
(jX8_lose_26 h a0 p1 0)
else
(jX8_lose_26 h a0 p1 1))
set_option maxRecDepth 20000 in
set_option maxHeartbeats 4000000 in
theorem tX8_lose (l : Launch) {h : hp_H} {a0 : Nat} {p1 : Int32} {r : (Int32 × hp_H)} (hf : fX8_lose h a0 p1 = some r) {Q : Option Value → hp_H → Prop} (kr : Q (some (.int r.1)) r.2) : hp_G l mX8_lose none 1 false Q false 0 0 0 [(0, .ref a0), (1, .int p1)] [] h := by
  unfold fX8_lose at hf
  refine hp_iload_n 1 dX8_lose_0 rfl rfl (?_ : hp_G _ _ _ _ _ _ _ _ _ 1 _ _ _)
  replace hf := ob_ hf
  obtain ⟨r1, er1, hf⟩ := hf
  refine clX8_57 (as := [.int p1]) (st := []) rfl (kX8_isSheet l er1) rfl (by decide) (Nat.le_of_ble_eq_true rfl) dX8_lose_1 rfl (?_ : hp_G _ _ _ _ _ _ _ _ _ 4 _ _ _)
  refine hp_if_ne (tgt := 9) dX8_lose_4 rfl (fun c2 => ?_) (fun c2 => (?_ : hp_G _ _ _ _ _ _ _ _ _ 7 _ _ _))
  · replace hf := of_ c2 hf
    refine hp_aload_n 0 dX8_lose_9 rfl rfl (?_ : hp_G _ _ _ _ _ _ _ _ _ 10 _ _ _)
    replace hf := ob_ hf
    obtain ⟨x3, ex3, hf⟩ := hf
    refine fgX8_20 rfl dX8_lose_10 ex3 (?_ : hp_G _ _ _ _ _ _ _ _ _ 13 _ _ _)
    refine hp_iload_n 1 dX8_lose_13 rfl rfl (?_ : hp_G _ _ _ _ _ _ _ _ _ 14 _ _ _)
    replace hf := ob_ hf
    obtain ⟨x4, ex4, hf⟩ := hf
    refine hp_aaload dX8_lose_14 ex4 (?_ : hp_G _ _ _ _ _ _ _ _ _ 15 _ _ _)
    replace hf := ob_ hf
    obtain ⟨x5, ex5, hf⟩ := hf
    refine fgX8_210 rfl dX8_lose_15 ex5 (?_ : hp_G _ _ _ _ _ _ _ _ _ 18 _ _ _)
    refine hp_if_eq (tgt := 25) dX8_lose_18 rfl (fun c6 => ?_) (fun c6 => (?_ : hp_G _ _ _ _ _ _ _ _ _ 21 _ _ _))
    · replace hf := ot_ c6 hf
      refine hp_iconst (v := 0) dX8_lose_25 ic_0 (?_ : hp_G _ _ _ _ _ _ _ _ _ 26 _ _ _)
      exact hp_sub [0, 1] rfl (tjX8_lose_26 l hf kr)
    · replace hf := of_ c6 hf
      refine hp_iconst (v := 1) dX8_lose_21 ic_1 (?_ : hp_G _ _ _ _ _ _ _ _ _ 22 _ _ _)
      refine hp_goto (tgt := 26) dX8_lose_22 rfl (?_ : hp_G _ _ _ _ _ _ _ _ _ 26 _ _ _)
      exact hp_sub [0, 1] rfl (tjX8_lose_26 l hf kr)
  · replace hf := ot_ c2 hf
    refine hp_iconst (v := (-1)) dX8_lose_7 ic_m1 (?_ : hp_G _ _ _ _ _ _ _ _ _ 8 _ _ _)
    obtain rfl := Option.some.inj hf
    exact hp_iret kr (fun z => z) rfl dX8_lose_8
theorem kX8_lose (l : Launch) {h : hp_H} {a0 : Nat} {p1 : Int32} {r : (Int32 × hp_H)} (hf : fX8_lose h a0 p1 = some r) : hp_Cn l yX8_lose mX8_lose 1 false 0 0 [.ref a0, .int p1] h (fun v h2 => some (.int r.1) = v ∧ r.2 = h2) :=
  hp_of (by decide) rfl (fun z => by cases z) (Nat.le_of_ble_eq_true rfl) (tX8_lose l hf ⟨rfl, rfl⟩)
noncomputable def jX9_lose_25 (g : hp_H)  (u0 : Nat) (u1 : Int32) (k0 : Int32) : Option (Int32 × hp_H) :=
(gq_ g u0 8 2).bind fun x6 =>
(ax_ g x6 u1 (-9)).bind fun h7 =>
some (k0, h7)
set_option maxRecDepth 20000 in
set_option maxHeartbeats 4000000 in
theorem tjX9_lose_25 (l : Launch) {g : hp_H}  {u0 : Nat} {u1 : Int32} {k0 : Int32} {r : (Int32 × hp_H)} (hf : jX9_lose_25 g u0 u1 k0 = some r) {Q : Option Value → hp_H → Prop} (kr : Q (some (.int r.1)) r.2) : hp_G l mX9_lose none 2 false Q false 0 0 25 [(0, .ref u0), (1, .int u1)] [.int k0] g := by
  unfold jX9_lose_25 at hf
  refine hp_istore_n (lv' := [(2, .int k0), (0, .ref u0), (1, .int u1)]) dX9_lose_25 rfl (Nat.le_of_ble_eq_true rfl) rfl (?_ : hp_G _ _ _ _ _ _ _ _ _ 26 _ _ _)
  refine hp_aload_n 1 dX9_lose_26 rfl rfl (?_ : hp_G _ _ _ _ _ _ _ _ _ 27 _ _ _)
  replace hf := ob_ hf
  obtain ⟨x6, ex6, hf⟩ := hf
  refine fgX9_9 rfl dX9_lose_27 ex6 (?_ : hp_G _ _ _ _ _ _ _ _ _ 30 _ _ _)
  refine hp_iload_n 2 dX9_lose_30 rfl rfl (?_ : hp_G _ _ _ _ _ _ _ _ _ 31 _ _ _)
  refine hp_bipush (v := (-9)) dX9_lose_31 bi_m9 (?_ : hp_G _ _ _ _ _ _ _ _ _ 33 _ _ _)
  replace hf := ob_ hf
  obtain ⟨h7, eh7, hf⟩ := hf
  refine hp_iastore dX9_lose_33 eh7 (?_ : hp_G _ _ _ _ _ _ _ _ _ 34 _ _ _)
  refine hp_iload_n 0 dX9_lose_34 rfl rfl (?_ : hp_G _ _ _ _ _ _ _ _ _ 35 _ _ _)
  obtain rfl := Option.some.inj hf
  exact hp_iret kr (fun z => z) rfl dX9_lose_35
noncomputable def fX9_lose (h : hp_H) (a0 : Nat) (p1 : Int32) : Option (Int32 × hp_H) :=
(fX9_isSheet h p1).bind fun r1 =>
if r1 = 0 then
(some ((-1), h))
else
((gq_ h a0 8 2).bind fun x3 =>
(al_ h x3 p1).bind fun x4 =>
if x4 = (-9) then
(jX9_lose_25 h a0 p1 0)
else
(jX9_lose_25 h a0 p1 1))
set_option maxRecDepth 20000 in
set_option maxHeartbeats 4000000 in
theorem tX9_lose (l : Launch) {h : hp_H} {a0 : Nat} {p1 : Int32} {r : (Int32 × hp_H)} (hf : fX9_lose h a0 p1 = some r) {Q : Option Value → hp_H → Prop} (kr : Q (some (.int r.1)) r.2) : hp_G l mX9_lose none 2 false Q false 0 0 0 [(0, .ref a0), (1, .int p1)] [] h := by
  unfold fX9_lose at hf
  refine hp_iload_n 1 dX9_lose_0 rfl rfl (?_ : hp_G _ _ _ _ _ _ _ _ _ 1 _ _ _)
  replace hf := ob_ hf
  obtain ⟨r1, er1, hf⟩ := hf
  refine clX9_81 (as := [.int p1]) (st := []) rfl (kX9_isSheet l er1) rfl (by decide) (Nat.le_of_ble_eq_true rfl) dX9_lose_1 rfl (?_ : hp_G _ _ _ _ _ _ _ _ _ 4 _ _ _)
  refine hp_if_ne (tgt := 9) dX9_lose_4 rfl (fun c2 => ?_) (fun c2 => (?_ : hp_G _ _ _ _ _ _ _ _ _ 7 _ _ _))
  · replace hf := of_ c2 hf
    refine hp_aload_n 0 dX9_lose_9 rfl rfl (?_ : hp_G _ _ _ _ _ _ _ _ _ 10 _ _ _)
    replace hf := ob_ hf
    obtain ⟨x3, ex3, hf⟩ := hf
    refine fgX9_9 rfl dX9_lose_10 ex3 (?_ : hp_G _ _ _ _ _ _ _ _ _ 13 _ _ _)
    refine hp_iload_n 1 dX9_lose_13 rfl rfl (?_ : hp_G _ _ _ _ _ _ _ _ _ 14 _ _ _)
    replace hf := ob_ hf
    obtain ⟨x4, ex4, hf⟩ := hf
    refine hp_iaload dX9_lose_14 ex4 (?_ : hp_G _ _ _ _ _ _ _ _ _ 15 _ _ _)
    refine hp_bipush (v := (-9)) dX9_lose_15 bi_m9 (?_ : hp_G _ _ _ _ _ _ _ _ _ 17 _ _ _)
    refine hp_icmp_ne (tgt := 24) dX9_lose_17 rfl (fun c5 => ?_) (fun c5 => (?_ : hp_G _ _ _ _ _ _ _ _ _ 20 _ _ _))
    · replace hf := of_ c5 hf
      refine hp_iconst (v := 1) dX9_lose_24 ic_1 (?_ : hp_G _ _ _ _ _ _ _ _ _ 25 _ _ _)
      exact hp_sub [0, 1] rfl (tjX9_lose_25 l hf kr)
    · replace hf := ot_ c5 hf
      refine hp_iconst (v := 0) dX9_lose_20 ic_0 (?_ : hp_G _ _ _ _ _ _ _ _ _ 21 _ _ _)
      refine hp_goto (tgt := 25) dX9_lose_21 rfl (?_ : hp_G _ _ _ _ _ _ _ _ _ 25 _ _ _)
      exact hp_sub [0, 1] rfl (tjX9_lose_25 l hf kr)
  · replace hf := ot_ c2 hf
    refine hp_iconst (v := (-1)) dX9_lose_7 ic_m1 (?_ : hp_G _ _ _ _ _ _ _ _ _ 8 _ _ _)
    obtain rfl := Option.some.inj hf
    exact hp_iret kr (fun z => z) rfl dX9_lose_8
theorem kX9_lose (l : Launch) {h : hp_H} {a0 : Nat} {p1 : Int32} {r : (Int32 × hp_H)} (hf : fX9_lose h a0 p1 = some r) : hp_Cn l yX9_lose mX9_lose 2 false 0 0 [.ref a0, .int p1] h (fun v h2 => some (.int r.1) = v ∧ r.2 = h2) :=
  hp_of (by decide) rfl (fun z => by cases z) (Nat.le_of_ble_eq_true rfl) (tX9_lose l hf ⟨rfl, rfl⟩)
noncomputable def fX5_write (h : hp_H) (a0 : Nat) (p1 : Int32) (p2 : Int32) : Option hp_H :=
(hg_o h a0 5).bind fun o1 =>
(fX5_reaches h a0 p1 1).bind fun r2 =>
if r2 = 0 then
(some h)
else
((gi_ h a0 5 2).bind fun x4 =>
if x4 = 0 then
((gq_ h a0 5 0).bind fun x6 =>
(ax_ h x6 p1 (Int8.toInt32 (Int32.toInt8 p2))).bind fun h7 =>
some h7)
else
(if x4 = 1 then
((gq_ h a0 5 0).bind fun x9 =>
(ax_ h x9 p1 (Int16.toInt32 (Int32.toInt16 p2))).bind fun h10 =>
some h10)
else
((gq_ h a0 5 0).bind fun x11 =>
(ax_ h x11 p1 p2).bind fun h12 =>
some h12)))
set_option maxRecDepth 20000 in
set_option maxHeartbeats 4000000 in
theorem tX5_write (l : Launch) {h : hp_H} {a0 : Nat} {p1 : Int32} {p2 : Int32} {r : hp_H} (hf : fX5_write h a0 p1 p2 = some r) {Q : Option Value → hp_H → Prop} (kr : Q (none) r) : hp_G l mX5_write none 1 false Q false 0 0 0 [(0, .ref a0), (1, .int p1), (2, .int p2)] [] h := by
  unfold fX5_write at hf
  refine hp_aload_n 0 dX5_write_0 rfl rfl (?_ : hp_G _ _ _ _ _ _ _ _ _ 1 _ _ _)
  refine hp_iload_n 1 dX5_write_1 rfl rfl (?_ : hp_G _ _ _ _ _ _ _ _ _ 2 _ _ _)
  refine hp_iconst (v := 1) dX5_write_2 ic_1 (?_ : hp_G _ _ _ _ _ _ _ _ _ 3 _ _ _)
  replace hf := ob_ hf
  obtain ⟨o1, eo1, hf⟩ := hf
  replace hf := ob_ hf
  obtain ⟨r2, er2, hf⟩ := hf
  refine clX5_32 (as := [.int p1, .int 1]) (st := []) rfl (kX5_reaches l er2) rfl (by decide) (Nat.le_of_ble_eq_true rfl) eo1 dX5_write_3 rfl (?_ : hp_G _ _ _ _ _ _ _ _ _ 6 _ _ _)
  refine hp_if_ne (tgt := 10) dX5_write_6 rfl (fun c3 => ?_) (fun c3 => (?_ : hp_G _ _ _ _ _ _ _ _ _ 9 _ _ _))
  · replace hf := of_ c3 hf
    refine hp_aload_n 0 dX5_write_10 rfl rfl (?_ : hp_G _ _ _ _ _ _ _ _ _ 11 _ _ _)
    replace hf := ob_ hf
    obtain ⟨x4, ex4, hf⟩ := hf
    refine fgX5_25 rfl dX5_write_11 ex4 (?_ : hp_G _ _ _ _ _ _ _ _ _ 14 _ _ _)
    by_cases c5 : x4 = 0
    · replace hf := ot_ c5 hf
      refine hp_lookup (tgt := 40) dX5_write_14 rfl (by rw [c5]; decide) ?_
      refine hp_aload_n 0 dX5_write_40 rfl rfl (?_ : hp_G _ _ _ _ _ _ _ _ _ 41 _ _ _)
      replace hf := ob_ hf
      obtain ⟨x6, ex6, hf⟩ := hf
      refine fgX5_9 rfl dX5_write_41 ex6 (?_ : hp_G _ _ _ _ _ _ _ _ _ 44 _ _ _)
      refine hp_iload_n 1 dX5_write_44 rfl rfl (?_ : hp_G _ _ _ _ _ _ _ _ _ 45 _ _ _)
      refine hp_iload_n 2 dX5_write_45 rfl rfl (?_ : hp_G _ _ _ _ _ _ _ _ _ 46 _ _ _)
      refine hp_i2b dX5_write_46 (?_ : hp_G _ _ _ _ _ _ _ _ _ 47 _ _ _)
      replace hf := ob_ hf
      obtain ⟨h7, eh7, hf⟩ := hf
      refine hp_iastore dX5_write_47 eh7 (?_ : hp_G _ _ _ _ _ _ _ _ _ 48 _ _ _)
      refine hp_goto (tgt := 69) dX5_write_48 rfl (?_ : hp_G _ _ _ _ _ _ _ _ _ 69 _ _ _)
      obtain rfl := Option.some.inj hf
      exact hp_vret kr (fun z => z) rfl dX5_write_69
    · replace hf := of_ c5 hf
      by_cases c8 : x4 = 1
      · replace hf := ot_ c8 hf
        refine hp_lookup (tgt := 51) dX5_write_14 rfl (by rw [c8]; decide) ?_
        refine hp_aload_n 0 dX5_write_51 rfl rfl (?_ : hp_G _ _ _ _ _ _ _ _ _ 52 _ _ _)
        replace hf := ob_ hf
        obtain ⟨x9, ex9, hf⟩ := hf
        refine fgX5_9 rfl dX5_write_52 ex9 (?_ : hp_G _ _ _ _ _ _ _ _ _ 55 _ _ _)
        refine hp_iload_n 1 dX5_write_55 rfl rfl (?_ : hp_G _ _ _ _ _ _ _ _ _ 56 _ _ _)
        refine hp_iload_n 2 dX5_write_56 rfl rfl (?_ : hp_G _ _ _ _ _ _ _ _ _ 57 _ _ _)
        refine hp_i2s dX5_write_57 (?_ : hp_G _ _ _ _ _ _ _ _ _ 58 _ _ _)
        replace hf := ob_ hf
        obtain ⟨h10, eh10, hf⟩ := hf
        refine hp_iastore dX5_write_58 eh10 (?_ : hp_G _ _ _ _ _ _ _ _ _ 59 _ _ _)
        refine hp_goto (tgt := 69) dX5_write_59 rfl (?_ : hp_G _ _ _ _ _ _ _ _ _ 69 _ _ _)
        obtain rfl := Option.some.inj hf
        exact hp_vret kr (fun z => z) rfl dX5_write_69
      · replace hf := of_ c8 hf
        refine hp_lookup (tgt := 62) dX5_write_14 (by decide) (by show (14 : Int) + Op.lookupswitch.offset [(0, 26), (1, 37)] 48 (Int32.toInt x4) = _; rw [Op.lookupswitch.offset_cons, if_neg (hp_nei (by decide) c5), Op.lookupswitch.offset_cons, if_neg (hp_nei (by decide) c8), Op.lookupswitch.offset_nil]; decide) ?_
        refine hp_aload_n 0 dX5_write_62 rfl rfl (?_ : hp_G _ _ _ _ _ _ _ _ _ 63 _ _ _)
        replace hf := ob_ hf
        obtain ⟨x11, ex11, hf⟩ := hf
        refine fgX5_9 rfl dX5_write_63 ex11 (?_ : hp_G _ _ _ _ _ _ _ _ _ 66 _ _ _)
        refine hp_iload_n 1 dX5_write_66 rfl rfl (?_ : hp_G _ _ _ _ _ _ _ _ _ 67 _ _ _)
        refine hp_iload_n 2 dX5_write_67 rfl rfl (?_ : hp_G _ _ _ _ _ _ _ _ _ 68 _ _ _)
        replace hf := ob_ hf
        obtain ⟨h12, eh12, hf⟩ := hf
        refine hp_iastore dX5_write_68 eh12 (?_ : hp_G _ _ _ _ _ _ _ _ _ 69 _ _ _)
        obtain rfl := Option.some.inj hf
        exact hp_vret kr (fun z => z) rfl dX5_write_69
  · replace hf := ot_ c3 hf
    obtain rfl := Option.some.inj hf
    exact hp_vret kr (fun z => z) rfl dX5_write_9
theorem kX5_write (l : Launch) {h : hp_H} {a0 : Nat} {p1 : Int32} {p2 : Int32} {r : hp_H} (hf : fX5_write h a0 p1 p2 = some r) : hp_Cn l yX5_write mX5_write 1 false 0 0 [.ref a0, .int p1, .int p2] h (fun v h2 => none = v ∧ r = h2) :=
  hp_of (by decide) rfl (fun z => by cases z) (Nat.le_of_ble_eq_true rfl) (tX5_write l hf ⟨rfl, rfl⟩)
noncomputable def fX8_put (h : hp_H) (a0 : Nat) (p1 : Int32) (p2 : Int32) (p3 : Int32) : Option (Int32 × hp_H) :=
(pi_ h a0 7 8 0).bind fun h1 =>
(fX8_isSheet h1 p1).bind fun r2 =>
if r2 = 0 then
(some ((-1), h1))
else
((gq_ h1 a0 7 1).bind fun x4 =>
(ql_ h1 x4 p1).bind fun x5 =>
(gq_ h1 a0 7 1).bind fun x6 =>
(ql_ h1 x6 p1).bind fun x7 =>
(gi_ h1 x7 5 2).bind fun x8 =>
(hg_o h1 x5 5).bind fun o9 =>
(fX5_faultOfRow h1 x5 x8 p2 1).bind fun r10 =>
if r10 = 0 then
((gq_ h1 a0 7 1).bind fun x12 =>
(ql_ h1 x12 p1).bind fun x13 =>
(hg_o h1 x13 5).bind fun o14 =>
(fX5_write h1 x13 p2 p3).bind fun r15 =>
some (1, r15))
else
((hg_o h1 a0 7).bind fun o16 =>
(fX8_faulted h1 a0 r10).bind fun r17 =>
some (r17.1, r17.2)))
set_option maxRecDepth 20000 in
set_option maxHeartbeats 4000000 in
theorem tX8_put (l : Launch) {h : hp_H} {a0 : Nat} {p1 : Int32} {p2 : Int32} {p3 : Int32} {r : (Int32 × hp_H)} (hf : fX8_put h a0 p1 p2 p3 = some r) {Q : Option Value → hp_H → Prop} (kr : Q (some (.int r.1)) r.2) : hp_G l mX8_put none 2 false Q false 0 0 0 [(0, .ref a0), (1, .int p1), (2, .int p2), (3, .int p3)] [] h := by
  unfold fX8_put at hf
  refine hp_aload_n 0 dX8_put_0 rfl rfl (?_ : hp_G _ _ _ _ _ _ _ _ _ 1 _ _ _)
  refine hp_iconst (v := 0) dX8_put_1 ic_0 (?_ : hp_G _ _ _ _ _ _ _ _ _ 2 _ _ _)
  replace hf := ob_ hf
  obtain ⟨h1, eh1, hf⟩ := hf
  refine fpX8_53 rfl dX8_put_2 eh1 (?_ : hp_G _ _ _ _ _ _ _ _ _ 5 _ _ _)
  refine hp_iload_n 1 dX8_put_5 rfl rfl (?_ : hp_G _ _ _ _ _ _ _ _ _ 6 _ _ _)
  replace hf := ob_ hf
  obtain ⟨r2, er2, hf⟩ := hf
  refine clX8_57 (as := [.int p1]) (st := []) rfl (kX8_isSheet l er2) rfl (by decide) (Nat.le_of_ble_eq_true rfl) dX8_put_6 rfl (?_ : hp_G _ _ _ _ _ _ _ _ _ 9 _ _ _)
  refine hp_if_ne (tgt := 14) dX8_put_9 rfl (fun c3 => ?_) (fun c3 => (?_ : hp_G _ _ _ _ _ _ _ _ _ 12 _ _ _))
  · replace hf := of_ c3 hf
    refine hp_aload_n 0 dX8_put_14 rfl rfl (?_ : hp_G _ _ _ _ _ _ _ _ _ 15 _ _ _)
    replace hf := ob_ hf
    obtain ⟨x4, ex4, hf⟩ := hf
    refine fgX8_20 rfl dX8_put_15 ex4 (?_ : hp_G _ _ _ _ _ _ _ _ _ 18 _ _ _)
    refine hp_iload_n 1 dX8_put_18 rfl rfl (?_ : hp_G _ _ _ _ _ _ _ _ _ 19 _ _ _)
    replace hf := ob_ hf
    obtain ⟨x5, ex5, hf⟩ := hf
    refine hp_aaload dX8_put_19 ex5 (?_ : hp_G _ _ _ _ _ _ _ _ _ 20 _ _ _)
    refine hp_aload_n 0 dX8_put_20 rfl rfl (?_ : hp_G _ _ _ _ _ _ _ _ _ 21 _ _ _)
    replace hf := ob_ hf
    obtain ⟨x6, ex6, hf⟩ := hf
    refine fgX8_20 rfl dX8_put_21 ex6 (?_ : hp_G _ _ _ _ _ _ _ _ _ 24 _ _ _)
    refine hp_iload_n 1 dX8_put_24 rfl rfl (?_ : hp_G _ _ _ _ _ _ _ _ _ 25 _ _ _)
    replace hf := ob_ hf
    obtain ⟨x7, ex7, hf⟩ := hf
    refine hp_aaload dX8_put_25 ex7 (?_ : hp_G _ _ _ _ _ _ _ _ _ 26 _ _ _)
    replace hf := ob_ hf
    obtain ⟨x8, ex8, hf⟩ := hf
    refine fgX8_213 rfl dX8_put_26 ex8 (?_ : hp_G _ _ _ _ _ _ _ _ _ 29 _ _ _)
    refine hp_iload_n 2 dX8_put_29 rfl rfl (?_ : hp_G _ _ _ _ _ _ _ _ _ 30 _ _ _)
    refine hp_iconst (v := 1) dX8_put_30 ic_1 (?_ : hp_G _ _ _ _ _ _ _ _ _ 31 _ _ _)
    replace hf := ob_ hf
    obtain ⟨o9, eo9, hf⟩ := hf
    replace hf := ob_ hf
    obtain ⟨r10, er10, hf⟩ := hf
    refine clX8_64 (as := [.int x8, .int p2, .int 1]) (st := []) rfl (kX5_faultOfRow l er10) rfl (by decide) (Nat.le_of_ble_eq_true rfl) eo9 dX8_put_31 rfl (?_ : hp_G _ _ _ _ _ _ _ _ _ 34 _ _ _)
    refine hp_istore (lv' := [(4, .int r10), (0, .ref a0), (1, .int p1), (2, .int p2), (3, .int p3)]) dX8_put_34 (Nat.le_of_ble_eq_true rfl) rfl (?_ : hp_G _ _ _ _ _ _ _ _ _ 36 _ _ _)
    refine hp_iload 0 dX8_put_36 rfl (?_ : hp_G _ _ _ _ _ _ _ _ _ 38 _ _ _)
    refine hp_if_eq (tgt := 48) dX8_put_38 rfl (fun c11 => ?_) (fun c11 => (?_ : hp_G _ _ _ _ _ _ _ _ _ 41 _ _ _))
    · replace hf := ot_ c11 hf
      refine hp_aload_n 1 dX8_put_48 rfl rfl (?_ : hp_G _ _ _ _ _ _ _ _ _ 49 _ _ _)
      replace hf := ob_ hf
      obtain ⟨x12, ex12, hf⟩ := hf
      refine fgX8_20 rfl dX8_put_49 ex12 (?_ : hp_G _ _ _ _ _ _ _ _ _ 52 _ _ _)
      refine hp_iload_n 2 dX8_put_52 rfl rfl (?_ : hp_G _ _ _ _ _ _ _ _ _ 53 _ _ _)
      replace hf := ob_ hf
      obtain ⟨x13, ex13, hf⟩ := hf
      refine hp_aaload dX8_put_53 ex13 (?_ : hp_G _ _ _ _ _ _ _ _ _ 54 _ _ _)
      refine hp_iload_n 3 dX8_put_54 rfl rfl (?_ : hp_G _ _ _ _ _ _ _ _ _ 55 _ _ _)
      refine hp_iload_n 4 dX8_put_55 rfl rfl (?_ : hp_G _ _ _ _ _ _ _ _ _ 56 _ _ _)
      replace hf := ob_ hf
      obtain ⟨o14, eo14, hf⟩ := hf
      replace hf := ob_ hf
      obtain ⟨r15, er15, hf⟩ := hf
      refine clX8_216 (as := [.int p2, .int p3]) (st := []) rfl (kX5_write l er15) rfl (by decide) (Nat.le_of_ble_eq_true rfl) eo14 dX8_put_56 rfl (?_ : hp_G _ _ _ _ _ _ _ _ _ 59 _ _ _)
      refine hp_iconst (v := 1) dX8_put_59 ic_1 (?_ : hp_G _ _ _ _ _ _ _ _ _ 60 _ _ _)
      obtain rfl := Option.some.inj hf
      exact hp_iret kr (fun z => z) rfl dX8_put_60
    · replace hf := of_ c11 hf
      refine hp_aload_n 1 dX8_put_41 rfl rfl (?_ : hp_G _ _ _ _ _ _ _ _ _ 42 _ _ _)
      refine hp_iload 0 dX8_put_42 rfl (?_ : hp_G _ _ _ _ _ _ _ _ _ 44 _ _ _)
      replace hf := ob_ hf
      obtain ⟨o16, eo16, hf⟩ := hf
      replace hf := ob_ hf
      obtain ⟨r17, er17, hf⟩ := hf
      refine clX8_68 (as := [.int r10]) (st := []) rfl (kX8_faulted l er17) rfl (by decide) (Nat.le_of_ble_eq_true rfl) eo16 dX8_put_44 rfl (?_ : hp_G _ _ _ _ _ _ _ _ _ 47 _ _ _)
      obtain rfl := Option.some.inj hf
      exact hp_iret kr (fun z => z) rfl dX8_put_47
  · replace hf := ot_ c3 hf
    refine hp_iconst (v := (-1)) dX8_put_12 ic_m1 (?_ : hp_G _ _ _ _ _ _ _ _ _ 13 _ _ _)
    obtain rfl := Option.some.inj hf
    exact hp_iret kr (fun z => z) rfl dX8_put_13
theorem kX8_put (l : Launch) {h : hp_H} {a0 : Nat} {p1 : Int32} {p2 : Int32} {p3 : Int32} {r : (Int32 × hp_H)} (hf : fX8_put h a0 p1 p2 p3 = some r) : hp_Cn l yX8_put mX8_put 2 false 0 0 [.ref a0, .int p1, .int p2, .int p3] h (fun v h2 => some (.int r.1) = v ∧ r.2 = h2) :=
  hp_of (by decide) rfl (fun z => by cases z) (Nat.le_of_ble_eq_true rfl) (tX8_put l hf ⟨rfl, rfl⟩)
noncomputable def fX9_put (h : hp_H) (a0 : Nat) (p1 : Int32) (p2 : Int32) (p3 : Int32) : Option (Int32 × hp_H) :=
(pi_ h a0 8 0 0).bind fun h1 =>
(fX9_isSheet h1 p1).bind fun r2 =>
if r2 = 0 then
(some ((-1), h1))
else
((gq_ h1 a0 8 2).bind fun x4 =>
(al_ h1 x4 p1).bind fun x5 =>
if x5 = (-9) then
((hg_o h1 a0 8).bind fun o23 =>
(fX9_fails h1 a0 1).bind fun r24 =>
some (r24.1, r24.2))
else
((gq_ h1 a0 8 3).bind fun x7 =>
(al_ h1 x7 p1).bind fun x8 =>
(fX9_within h1 p2 0 (x8 - 1)).bind fun r9 =>
if r9 = 0 then
((hg_o h1 a0 8).bind fun o21 =>
(fX9_fails h1 a0 3).bind fun r22 =>
some (r22.1, r22.2))
else
((gq_ h1 a0 8 4).bind fun x11 =>
(gq_ h1 a0 8 2).bind fun x12 =>
(al_ h1 x12 p1).bind fun x13 =>
if x13 = 0 then
((ax_ h1 x11 ((60 * p1) + p2) (Int8.toInt32 (Int32.toInt8 p3))).bind fun h20 =>
some (1, h20))
else
((gq_ h1 a0 8 2).bind fun x15 =>
(al_ h1 x15 p1).bind fun x16 =>
if x16 = 1 then
((ax_ h1 x11 ((60 * p1) + p2) (Int16.toInt32 (Int32.toInt16 p3))).bind fun h19 =>
some (1, h19))
else
((ax_ h1 x11 ((60 * p1) + p2) p3).bind fun h18 =>
some (1, h18))))))
set_option maxRecDepth 20000 in
set_option maxHeartbeats 4000000 in
theorem tX9_put (l : Launch) {h : hp_H} {a0 : Nat} {p1 : Int32} {p2 : Int32} {p3 : Int32} {r : (Int32 × hp_H)} (hf : fX9_put h a0 p1 p2 p3 = some r) {Q : Option Value → hp_H → Prop} (kr : Q (some (.int r.1)) r.2) : hp_G l mX9_put none 2 false Q false 0 0 0 [(0, .ref a0), (1, .int p1), (2, .int p2), (3, .int p3)] [] h := by
  unfold fX9_put at hf
  refine hp_aload_n 0 dX9_put_0 rfl rfl (?_ : hp_G _ _ _ _ _ _ _ _ _ 1 _ _ _)
  refine hp_iconst (v := 0) dX9_put_1 ic_0 (?_ : hp_G _ _ _ _ _ _ _ _ _ 2 _ _ _)
  replace hf := ob_ hf
  obtain ⟨h1, eh1, hf⟩ := hf
  refine fpX9_61 rfl dX9_put_2 eh1 (?_ : hp_G _ _ _ _ _ _ _ _ _ 5 _ _ _)
  refine hp_iload_n 1 dX9_put_5 rfl rfl (?_ : hp_G _ _ _ _ _ _ _ _ _ 6 _ _ _)
  replace hf := ob_ hf
  obtain ⟨r2, er2, hf⟩ := hf
  refine clX9_81 (as := [.int p1]) (st := []) rfl (kX9_isSheet l er2) rfl (by decide) (Nat.le_of_ble_eq_true rfl) dX9_put_6 rfl (?_ : hp_G _ _ _ _ _ _ _ _ _ 9 _ _ _)
  refine hp_if_ne (tgt := 14) dX9_put_9 rfl (fun c3 => ?_) (fun c3 => (?_ : hp_G _ _ _ _ _ _ _ _ _ 12 _ _ _))
  · replace hf := of_ c3 hf
    refine hp_aload_n 0 dX9_put_14 rfl rfl (?_ : hp_G _ _ _ _ _ _ _ _ _ 15 _ _ _)
    replace hf := ob_ hf
    obtain ⟨x4, ex4, hf⟩ := hf
    refine fgX9_9 rfl dX9_put_15 ex4 (?_ : hp_G _ _ _ _ _ _ _ _ _ 18 _ _ _)
    refine hp_iload_n 1 dX9_put_18 rfl rfl (?_ : hp_G _ _ _ _ _ _ _ _ _ 19 _ _ _)
    replace hf := ob_ hf
    obtain ⟨x5, ex5, hf⟩ := hf
    refine hp_iaload dX9_put_19 ex5 (?_ : hp_G _ _ _ _ _ _ _ _ _ 20 _ _ _)
    refine hp_bipush (v := (-9)) dX9_put_20 bi_m9 (?_ : hp_G _ _ _ _ _ _ _ _ _ 22 _ _ _)
    refine hp_icmp_ne (tgt := 31) dX9_put_22 rfl (fun c6 => ?_) (fun c6 => (?_ : hp_G _ _ _ _ _ _ _ _ _ 25 _ _ _))
    · replace hf := of_ c6 hf
      refine hp_iload_n 2 dX9_put_31 rfl rfl (?_ : hp_G _ _ _ _ _ _ _ _ _ 32 _ _ _)
      refine hp_iconst (v := 0) dX9_put_32 ic_0 (?_ : hp_G _ _ _ _ _ _ _ _ _ 33 _ _ _)
      refine hp_aload_n 0 dX9_put_33 rfl rfl (?_ : hp_G _ _ _ _ _ _ _ _ _ 34 _ _ _)
      replace hf := ob_ hf
      obtain ⟨x7, ex7, hf⟩ := hf
      refine fgX9_13 rfl dX9_put_34 ex7 (?_ : hp_G _ _ _ _ _ _ _ _ _ 37 _ _ _)
      refine hp_iload_n 1 dX9_put_37 rfl rfl (?_ : hp_G _ _ _ _ _ _ _ _ _ 38 _ _ _)
      replace hf := ob_ hf
      obtain ⟨x8, ex8, hf⟩ := hf
      refine hp_iaload dX9_put_38 ex8 (?_ : hp_G _ _ _ _ _ _ _ _ _ 39 _ _ _)
      refine hp_iconst (v := 1) dX9_put_39 ic_1 (?_ : hp_G _ _ _ _ _ _ _ _ _ 40 _ _ _)
      refine hp_isub dX9_put_40 (?_ : hp_G _ _ _ _ _ _ _ _ _ 41 _ _ _)
      replace hf := ob_ hf
      obtain ⟨r9, er9, hf⟩ := hf
      refine clX9_67 (as := [.int p2, .int 0, .int (x8 - 1)]) (st := []) rfl (kX9_within l er9) rfl (by decide) (Nat.le_of_ble_eq_true rfl) dX9_put_41 rfl (?_ : hp_G _ _ _ _ _ _ _ _ _ 44 _ _ _)
      refine hp_if_ne (tgt := 53) dX9_put_44 rfl (fun c10 => ?_) (fun c10 => (?_ : hp_G _ _ _ _ _ _ _ _ _ 47 _ _ _))
      · replace hf := of_ c10 hf
        refine hp_aload_n 0 dX9_put_53 rfl rfl (?_ : hp_G _ _ _ _ _ _ _ _ _ 54 _ _ _)
        replace hf := ob_ hf
        obtain ⟨x11, ex11, hf⟩ := hf
        refine fgX9_16 rfl dX9_put_54 ex11 (?_ : hp_G _ _ _ _ _ _ _ _ _ 57 _ _ _)
        refine hp_bipush (v := 60) dX9_put_57 bi_60 (?_ : hp_G _ _ _ _ _ _ _ _ _ 59 _ _ _)
        refine hp_iload_n 1 dX9_put_59 rfl rfl (?_ : hp_G _ _ _ _ _ _ _ _ _ 60 _ _ _)
        refine hp_imul dX9_put_60 (?_ : hp_G _ _ _ _ _ _ _ _ _ 61 _ _ _)
        refine hp_iload_n 2 dX9_put_61 rfl rfl (?_ : hp_G _ _ _ _ _ _ _ _ _ 62 _ _ _)
        refine hp_iadd dX9_put_62 (?_ : hp_G _ _ _ _ _ _ _ _ _ 63 _ _ _)
        refine hp_aload_n 0 dX9_put_63 rfl rfl (?_ : hp_G _ _ _ _ _ _ _ _ _ 64 _ _ _)
        replace hf := ob_ hf
        obtain ⟨x12, ex12, hf⟩ := hf
        refine fgX9_9 rfl dX9_put_64 ex12 (?_ : hp_G _ _ _ _ _ _ _ _ _ 67 _ _ _)
        refine hp_iload_n 1 dX9_put_67 rfl rfl (?_ : hp_G _ _ _ _ _ _ _ _ _ 68 _ _ _)
        replace hf := ob_ hf
        obtain ⟨x13, ex13, hf⟩ := hf
        refine hp_iaload dX9_put_68 ex13 (?_ : hp_G _ _ _ _ _ _ _ _ _ 69 _ _ _)
        refine hp_if_ne (tgt := 77) dX9_put_69 rfl (fun c14 => ?_) (fun c14 => (?_ : hp_G _ _ _ _ _ _ _ _ _ 72 _ _ _))
        · replace hf := of_ c14 hf
          refine hp_aload_n 0 dX9_put_77 rfl rfl (?_ : hp_G _ _ _ _ _ _ _ _ _ 78 _ _ _)
          replace hf := ob_ hf
          obtain ⟨x15, ex15, hf⟩ := hf
          refine fgX9_9 rfl dX9_put_78 ex15 (?_ : hp_G _ _ _ _ _ _ _ _ _ 81 _ _ _)
          refine hp_iload_n 1 dX9_put_81 rfl rfl (?_ : hp_G _ _ _ _ _ _ _ _ _ 82 _ _ _)
          replace hf := ob_ hf
          obtain ⟨x16, ex16, hf⟩ := hf
          refine hp_iaload dX9_put_82 ex16 (?_ : hp_G _ _ _ _ _ _ _ _ _ 83 _ _ _)
          refine hp_iconst (v := 1) dX9_put_83 ic_1 (?_ : hp_G _ _ _ _ _ _ _ _ _ 84 _ _ _)
          refine hp_icmp_ne (tgt := 92) dX9_put_84 rfl (fun c17 => ?_) (fun c17 => (?_ : hp_G _ _ _ _ _ _ _ _ _ 87 _ _ _))
          · replace hf := of_ c17 hf
            refine hp_iload_n 3 dX9_put_92 rfl rfl (?_ : hp_G _ _ _ _ _ _ _ _ _ 93 _ _ _)
            replace hf := ob_ hf
            obtain ⟨h18, eh18, hf⟩ := hf
            refine hp_iastore dX9_put_93 eh18 (?_ : hp_G _ _ _ _ _ _ _ _ _ 94 _ _ _)
            refine hp_iconst (v := 1) dX9_put_94 ic_1 (?_ : hp_G _ _ _ _ _ _ _ _ _ 95 _ _ _)
            obtain rfl := Option.some.inj hf
            exact hp_iret kr (fun z => z) rfl dX9_put_95
          · replace hf := ot_ c17 hf
            refine hp_iload_n 3 dX9_put_87 rfl rfl (?_ : hp_G _ _ _ _ _ _ _ _ _ 88 _ _ _)
            refine hp_i2s dX9_put_88 (?_ : hp_G _ _ _ _ _ _ _ _ _ 89 _ _ _)
            refine hp_goto (tgt := 93) dX9_put_89 rfl (?_ : hp_G _ _ _ _ _ _ _ _ _ 93 _ _ _)
            replace hf := ob_ hf
            obtain ⟨h19, eh19, hf⟩ := hf
            refine hp_iastore dX9_put_93 eh19 (?_ : hp_G _ _ _ _ _ _ _ _ _ 94 _ _ _)
            refine hp_iconst (v := 1) dX9_put_94 ic_1 (?_ : hp_G _ _ _ _ _ _ _ _ _ 95 _ _ _)
            obtain rfl := Option.some.inj hf
            exact hp_iret kr (fun z => z) rfl dX9_put_95
        · replace hf := ot_ c14 hf
          refine hp_iload_n 3 dX9_put_72 rfl rfl (?_ : hp_G _ _ _ _ _ _ _ _ _ 73 _ _ _)
          refine hp_i2b dX9_put_73 (?_ : hp_G _ _ _ _ _ _ _ _ _ 74 _ _ _)
          refine hp_goto (tgt := 93) dX9_put_74 rfl (?_ : hp_G _ _ _ _ _ _ _ _ _ 93 _ _ _)
          replace hf := ob_ hf
          obtain ⟨h20, eh20, hf⟩ := hf
          refine hp_iastore dX9_put_93 eh20 (?_ : hp_G _ _ _ _ _ _ _ _ _ 94 _ _ _)
          refine hp_iconst (v := 1) dX9_put_94 ic_1 (?_ : hp_G _ _ _ _ _ _ _ _ _ 95 _ _ _)
          obtain rfl := Option.some.inj hf
          exact hp_iret kr (fun z => z) rfl dX9_put_95
      · replace hf := ot_ c10 hf
        refine hp_aload_n 0 dX9_put_47 rfl rfl (?_ : hp_G _ _ _ _ _ _ _ _ _ 48 _ _ _)
        refine hp_iconst (v := 3) dX9_put_48 ic_3 (?_ : hp_G _ _ _ _ _ _ _ _ _ 49 _ _ _)
        replace hf := ob_ hf
        obtain ⟨o21, eo21, hf⟩ := hf
        replace hf := ob_ hf
        obtain ⟨r22, er22, hf⟩ := hf
        refine clX9_91 (as := [.int 3]) (st := []) rfl (kX9_fails l er22) rfl (by decide) (Nat.le_of_ble_eq_true rfl) eo21 dX9_put_49 rfl (?_ : hp_G _ _ _ _ _ _ _ _ _ 52 _ _ _)
        obtain rfl := Option.some.inj hf
        exact hp_iret kr (fun z => z) rfl dX9_put_52
    · replace hf := ot_ c6 hf
      refine hp_aload_n 0 dX9_put_25 rfl rfl (?_ : hp_G _ _ _ _ _ _ _ _ _ 26 _ _ _)
      refine hp_iconst (v := 1) dX9_put_26 ic_1 (?_ : hp_G _ _ _ _ _ _ _ _ _ 27 _ _ _)
      replace hf := ob_ hf
      obtain ⟨o23, eo23, hf⟩ := hf
      replace hf := ob_ hf
      obtain ⟨r24, er24, hf⟩ := hf
      refine clX9_91 (as := [.int 1]) (st := []) rfl (kX9_fails l er24) rfl (by decide) (Nat.le_of_ble_eq_true rfl) eo23 dX9_put_27 rfl (?_ : hp_G _ _ _ _ _ _ _ _ _ 30 _ _ _)
      obtain rfl := Option.some.inj hf
      exact hp_iret kr (fun z => z) rfl dX9_put_30
  · replace hf := ot_ c3 hf
    refine hp_iconst (v := (-1)) dX9_put_12 ic_m1 (?_ : hp_G _ _ _ _ _ _ _ _ _ 13 _ _ _)
    obtain rfl := Option.some.inj hf
    exact hp_iret kr (fun z => z) rfl dX9_put_13
theorem kX9_put (l : Launch) {h : hp_H} {a0 : Nat} {p1 : Int32} {p2 : Int32} {p3 : Int32} {r : (Int32 × hp_H)} (hf : fX9_put h a0 p1 p2 p3 = some r) : hp_Cn l yX9_put mX9_put 2 false 0 0 [.ref a0, .int p1, .int p2, .int p3] h (fun v h2 => some (.int r.1) = v ∧ r.2 = h2) :=
  hp_of (by decide) rfl (fun z => by cases z) (Nat.le_of_ble_eq_true rfl) (tX9_put l hf ⟨rfl, rfl⟩)
