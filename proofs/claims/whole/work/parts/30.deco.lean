noncomputable def jX9_tryPartners_120_56 (h : hp_H) (v0 : Nat) (v1 : Int32) (v2 : Int32) (u4 : Int32) (u5 : Int32) (k0 : Int32) : Option ((Int32 × Int32 × Int32) ⊕ Int32) :=
(some (u5 + 1)).bind fun x14 =>
some (.inl (k0, u4, x14))
set_option maxRecDepth 20000 in
set_option maxHeartbeats 4000000 in
theorem tjX9_tryPartners_120_56 (l : Launch) {h : hp_H} {v0 : Nat} {v1 : Int32} {v2 : Int32} {u4 : Int32} {u5 : Int32} {k0 : Int32} {r : ((Int32 × Int32 × Int32) ⊕ Int32)} (hf : jX9_tryPartners_120_56 h v0 v1 v2 u4 u5 k0 = some r) {Q : Option Value → hp_H → Prop} (kb : ∀ t, r = .inl t → hp_G l mX9_tryPartners none 0 false Q false 0 0 56 [(0, .ref v0), (1, .int v1), (2, .int v2), (3, .int t.1), (4, .int t.2.1), (5, .int t.2.2)] [] h) (ke : ∀ x, r = .inr x → hp_G l mX9_tryPartners none 0 false Q false 0 0 127 [(0, .ref v0), (1, .int v1), (2, .int v2), (3, .int x)] [] h) : hp_G l mX9_tryPartners none 0 false Q false 0 0 120 [(0, .ref v0), (1, .int v1), (2, .int v2), (4, .int u4), (5, .int u5)] [.int k0] h := by
  unfold jX9_tryPartners_120_56 at hf
  refine hp_istore_n (lv' := [(3, .int k0), (0, .ref v0), (1, .int v1), (2, .int v2), (4, .int u4), (5, .int u5)]) dX9_tryPartners_120 rfl (Nat.le_of_ble_eq_true rfl) rfl (?_ : hp_G _ _ _ _ _ _ _ _ _ 121 _ _ _)
  replace hf := ob_ hf
  obtain ⟨x14, ex14, hf⟩ := hf
  refine hp_iinc (v := x14) (lv' := [(5, .int x14), (3, .int k0), (0, .ref v0), (1, .int v1), (2, .int v2), (4, .int u4)]) 5 dX9_tryPartners_121 rfl (hp_inc ic_1 ex14) (Nat.le_of_ble_eq_true rfl) rfl (?_ : hp_G _ _ _ _ _ _ _ _ _ 124 _ _ _)
  refine hp_goto (tgt := 56) dX9_tryPartners_124 rfl (?_ : hp_G _ _ _ _ _ _ _ _ _ 56 _ _ _)
  obtain rfl := Option.some.inj hf
  exact hp_sub [2, 3, 4, 1, 5, 0] rfl (kb _ rfl)
noncomputable def jX9_tryPartners_115_56 (h : hp_H) (v0 : Nat) (v1 : Int32) (v2 : Int32) (u4 : Int32) (u5 : Int32)  : Option ((Int32 × Int32 × Int32) ⊕ Int32) :=
jX9_tryPartners_120_56 h v0 v1 v2 u4 u5 1
set_option maxRecDepth 20000 in
set_option maxHeartbeats 4000000 in
theorem tjX9_tryPartners_115_56 (l : Launch) {h : hp_H} {v0 : Nat} {v1 : Int32} {v2 : Int32} {u4 : Int32} {u5 : Int32}  {r : ((Int32 × Int32 × Int32) ⊕ Int32)} (hf : jX9_tryPartners_115_56 h v0 v1 v2 u4 u5 = some r) {Q : Option Value → hp_H → Prop} (kb : ∀ t, r = .inl t → hp_G l mX9_tryPartners none 0 false Q false 0 0 56 [(0, .ref v0), (1, .int v1), (2, .int v2), (3, .int t.1), (4, .int t.2.1), (5, .int t.2.2)] [] h) (ke : ∀ x, r = .inr x → hp_G l mX9_tryPartners none 0 false Q false 0 0 127 [(0, .ref v0), (1, .int v1), (2, .int v2), (3, .int x)] [] h) : hp_G l mX9_tryPartners none 0 false Q false 0 0 115 [(0, .ref v0), (1, .int v1), (2, .int v2), (4, .int u4), (5, .int u5)] [] h := by
  unfold jX9_tryPartners_115_56 at hf
  refine hp_iconst (v := 1) dX9_tryPartners_115 ic_1 (?_ : hp_G _ _ _ _ _ _ _ _ _ 116 _ _ _)
  refine hp_goto (tgt := 120) dX9_tryPartners_116 rfl (?_ : hp_G _ _ _ _ _ _ _ _ _ 120 _ _ _)
  exact hp_sub [0, 1, 2, 3, 4] rfl (tjX9_tryPartners_120_56 l hf kb ke)
noncomputable def jX9_tryPartners_92_56 (h : hp_H) (v0 : Nat) (v1 : Int32) (v2 : Int32) (u3 : Int32) (u5 : Int32) (k0 : Int32) : Option ((Int32 × Int32 × Int32) ⊕ Int32) :=
if u3 = 0 then
((gq_ h v0 8 18).bind fun x15 =>
(al_ h x15 u5).bind fun x16 =>
(gq_ h v0 8 19).bind fun x17 =>
(al_ h x17 u5).bind fun x18 =>
if x18 ≤ x16 then
(jX9_tryPartners_120_56 h v0 v1 v2 k0 u5 0)
else
(jX9_tryPartners_115_56 h v0 v1 v2 k0 u5))
else
(jX9_tryPartners_115_56 h v0 v1 v2 k0 u5)
set_option maxRecDepth 20000 in
set_option maxHeartbeats 4000000 in
theorem tjX9_tryPartners_92_56 (l : Launch) {h : hp_H} {v0 : Nat} {v1 : Int32} {v2 : Int32} {u3 : Int32} {u5 : Int32} {k0 : Int32} {r : ((Int32 × Int32 × Int32) ⊕ Int32)} (hf : jX9_tryPartners_92_56 h v0 v1 v2 u3 u5 k0 = some r) {Q : Option Value → hp_H → Prop} (kb : ∀ t, r = .inl t → hp_G l mX9_tryPartners none 0 false Q false 0 0 56 [(0, .ref v0), (1, .int v1), (2, .int v2), (3, .int t.1), (4, .int t.2.1), (5, .int t.2.2)] [] h) (ke : ∀ x, r = .inr x → hp_G l mX9_tryPartners none 0 false Q false 0 0 127 [(0, .ref v0), (1, .int v1), (2, .int v2), (3, .int x)] [] h) : hp_G l mX9_tryPartners none 0 false Q false 0 0 92 [(0, .ref v0), (1, .int v1), (2, .int v2), (3, .int u3), (5, .int u5)] [.int k0] h := by
  unfold jX9_tryPartners_92_56 at hf
  refine hp_istore (lv' := [(4, .int k0), (0, .ref v0), (1, .int v1), (2, .int v2), (3, .int u3), (5, .int u5)]) dX9_tryPartners_92 (Nat.le_of_ble_eq_true rfl) rfl (?_ : hp_G _ _ _ _ _ _ _ _ _ 94 _ _ _)
  refine hp_iload_n 4 dX9_tryPartners_94 rfl rfl (?_ : hp_G _ _ _ _ _ _ _ _ _ 95 _ _ _)
  refine hp_if_ne (tgt := 115) dX9_tryPartners_95 rfl (fun c13 => ?_) (fun c13 => (?_ : hp_G _ _ _ _ _ _ _ _ _ 98 _ _ _))
  · replace hf := of_ c13 hf
    exact hp_sub [1, 2, 3, 0, 5] rfl (tjX9_tryPartners_115_56 l hf kb ke)
  · replace hf := ot_ c13 hf
    refine hp_aload_n 1 dX9_tryPartners_98 rfl rfl (?_ : hp_G _ _ _ _ _ _ _ _ _ 99 _ _ _)
    replace hf := ob_ hf
    obtain ⟨x15, ex15, hf⟩ := hf
    refine fgX9_37 rfl dX9_tryPartners_99 ex15 (?_ : hp_G _ _ _ _ _ _ _ _ _ 102 _ _ _)
    refine hp_iload 5 dX9_tryPartners_102 rfl (?_ : hp_G _ _ _ _ _ _ _ _ _ 104 _ _ _)
    replace hf := ob_ hf
    obtain ⟨x16, ex16, hf⟩ := hf
    refine hp_iaload dX9_tryPartners_104 ex16 (?_ : hp_G _ _ _ _ _ _ _ _ _ 105 _ _ _)
    refine hp_aload_n 1 dX9_tryPartners_105 rfl rfl (?_ : hp_G _ _ _ _ _ _ _ _ _ 106 _ _ _)
    replace hf := ob_ hf
    obtain ⟨x17, ex17, hf⟩ := hf
    refine fgX9_40 rfl dX9_tryPartners_106 ex17 (?_ : hp_G _ _ _ _ _ _ _ _ _ 109 _ _ _)
    refine hp_iload 5 dX9_tryPartners_109 rfl (?_ : hp_G _ _ _ _ _ _ _ _ _ 111 _ _ _)
    replace hf := ob_ hf
    obtain ⟨x18, ex18, hf⟩ := hf
    refine hp_iaload dX9_tryPartners_111 ex18 (?_ : hp_G _ _ _ _ _ _ _ _ _ 112 _ _ _)
    refine hp_icmp_ge (tgt := 119) dX9_tryPartners_112 rfl (fun c19 => ?_) (fun c19 => (?_ : hp_G _ _ _ _ _ _ _ _ _ 115 _ _ _))
    · replace hf := ot_ c19 hf
      refine hp_iconst (v := 0) dX9_tryPartners_119 ic_0 (?_ : hp_G _ _ _ _ _ _ _ _ _ 120 _ _ _)
      exact hp_sub [1, 2, 3, 0, 5] rfl (tjX9_tryPartners_120_56 l hf kb ke)
    · replace hf := of_ c19 hf
      exact hp_sub [1, 2, 3, 0, 5] rfl (tjX9_tryPartners_115_56 l hf kb ke)
noncomputable def bX9_tryPartners_56 (h : hp_H) (v0 : Nat) (v1 : Int32) (v2 : Int32) (s : (Int32 × Int32 × Int32)) : Option ((Int32 × Int32 × Int32) ⊕ Int32) :=
(gi_ h v0 8 5).bind fun x5 =>
if x5 ≤ s.2.2 then
(some (.inr s.1))
else
(if s.2.1 = 0 then
(some (.inr s.1))
else
((gq_ h v0 8 18).bind fun x8 =>
(al_ h x8 s.2.2).bind fun x9 =>
(gq_ h v0 8 19).bind fun x10 =>
(al_ h x10 s.2.2).bind fun x11 =>
if x9 = x11 then
(jX9_tryPartners_92_56 h v0 v1 v2 s.1 s.2.2 1)
else
(jX9_tryPartners_92_56 h v0 v1 v2 s.1 s.2.2 0)))
set_option maxRecDepth 20000 in
set_option maxHeartbeats 4000000 in
theorem tbX9_tryPartners_56 (l : Launch) {h : hp_H} {v0 : Nat} {v1 : Int32} {v2 : Int32}  {s : (Int32 × Int32 × Int32)} {r : ((Int32 × Int32 × Int32) ⊕ Int32)} (hf : bX9_tryPartners_56 h  v0 v1 v2 s = some r) {Q : Option Value → hp_H → Prop} (kb : ∀ t, r = .inl t → hp_G l mX9_tryPartners none 0 false Q false 0 0 56 [(0, .ref v0), (1, .int v1), (2, .int v2), (3, .int t.1), (4, .int t.2.1), (5, .int t.2.2)] [] h) (ke : ∀ x, r = .inr x → hp_G l mX9_tryPartners none 0 false Q false 0 0 127 [(0, .ref v0), (1, .int v1), (2, .int v2), (3, .int x)] [] h) : hp_G l mX9_tryPartners none 0 false Q false 0 0 56 [(0, .ref v0), (1, .int v1), (2, .int v2), (3, .int s.1), (4, .int s.2.1), (5, .int s.2.2)] [] h := by
  unfold bX9_tryPartners_56 at hf
  refine hp_iload 5 dX9_tryPartners_56 rfl (?_ : hp_G _ _ _ _ _ _ _ _ _ 58 _ _ _)
  refine hp_aload_n 0 dX9_tryPartners_58 rfl rfl (?_ : hp_G _ _ _ _ _ _ _ _ _ 59 _ _ _)
  replace hf := ob_ hf
  obtain ⟨x5, ex5, hf⟩ := hf
  refine fgX9_71 rfl dX9_tryPartners_59 ex5 (?_ : hp_G _ _ _ _ _ _ _ _ _ 62 _ _ _)
  refine hp_icmp_ge (tgt := 127) dX9_tryPartners_62 rfl (fun c6 => ?_) (fun c6 => (?_ : hp_G _ _ _ _ _ _ _ _ _ 65 _ _ _))
  · replace hf := ot_ c6 hf
    obtain rfl := Option.some.inj hf
    exact hp_sub [0, 1, 2, 3] rfl (ke _ rfl)
  · replace hf := of_ c6 hf
    refine hp_iload 4 dX9_tryPartners_65 rfl (?_ : hp_G _ _ _ _ _ _ _ _ _ 67 _ _ _)
    refine hp_if_eq (tgt := 127) dX9_tryPartners_67 rfl (fun c7 => ?_) (fun c7 => (?_ : hp_G _ _ _ _ _ _ _ _ _ 70 _ _ _))
    · replace hf := ot_ c7 hf
      obtain rfl := Option.some.inj hf
      exact hp_sub [0, 1, 2, 3] rfl (ke _ rfl)
    · replace hf := of_ c7 hf
      refine hp_aload_n 0 dX9_tryPartners_70 rfl rfl (?_ : hp_G _ _ _ _ _ _ _ _ _ 71 _ _ _)
      replace hf := ob_ hf
      obtain ⟨x8, ex8, hf⟩ := hf
      refine fgX9_37 rfl dX9_tryPartners_71 ex8 (?_ : hp_G _ _ _ _ _ _ _ _ _ 74 _ _ _)
      refine hp_iload 5 dX9_tryPartners_74 rfl (?_ : hp_G _ _ _ _ _ _ _ _ _ 76 _ _ _)
      replace hf := ob_ hf
      obtain ⟨x9, ex9, hf⟩ := hf
      refine hp_iaload dX9_tryPartners_76 ex9 (?_ : hp_G _ _ _ _ _ _ _ _ _ 77 _ _ _)
      refine hp_aload_n 0 dX9_tryPartners_77 rfl rfl (?_ : hp_G _ _ _ _ _ _ _ _ _ 78 _ _ _)
      replace hf := ob_ hf
      obtain ⟨x10, ex10, hf⟩ := hf
      refine fgX9_40 rfl dX9_tryPartners_78 ex10 (?_ : hp_G _ _ _ _ _ _ _ _ _ 81 _ _ _)
      refine hp_iload 5 dX9_tryPartners_81 rfl (?_ : hp_G _ _ _ _ _ _ _ _ _ 83 _ _ _)
      replace hf := ob_ hf
      obtain ⟨x11, ex11, hf⟩ := hf
      refine hp_iaload dX9_tryPartners_83 ex11 (?_ : hp_G _ _ _ _ _ _ _ _ _ 84 _ _ _)
      refine hp_icmp_ne (tgt := 91) dX9_tryPartners_84 rfl (fun c12 => ?_) (fun c12 => (?_ : hp_G _ _ _ _ _ _ _ _ _ 87 _ _ _))
      · replace hf := of_ c12 hf
        refine hp_iconst (v := 0) dX9_tryPartners_91 ic_0 (?_ : hp_G _ _ _ _ _ _ _ _ _ 92 _ _ _)
        exact hp_sub [0, 1, 2, 3, 5] rfl (tjX9_tryPartners_92_56 l hf kb ke)
      · replace hf := ot_ c12 hf
        refine hp_iconst (v := 1) dX9_tryPartners_87 ic_1 (?_ : hp_G _ _ _ _ _ _ _ _ _ 88 _ _ _)
        refine hp_goto (tgt := 92) dX9_tryPartners_88 rfl (?_ : hp_G _ _ _ _ _ _ _ _ _ 92 _ _ _)
        exact hp_sub [0, 1, 2, 3, 5] rfl (tjX9_tryPartners_92_56 l hf kb ke)
set_option maxRecDepth 20000 in
set_option maxHeartbeats 4000000 in
theorem tlX9_tryPartners_56 (l : Launch) {h : hp_H} {v0 : Nat} {v1 : Int32} {v2 : Int32}  (q : Nat) {s : (Int32 × Int32 × Int32)} {x : Int32} (hf : it_ (bX9_tryPartners_56 h  v0 v1 v2) q s = some x) {Q : Option Value → hp_H → Prop} (ke : ∀ e, x = e → hp_G l mX9_tryPartners none 0 false Q false 0 0 127 [(0, .ref v0), (1, .int v1), (2, .int v2), (3, .int e)] [] h) : hp_G l mX9_tryPartners none 0 false Q false 0 0 56 [(0, .ref v0), (1, .int v1), (2, .int v2), (3, .int s.1), (4, .int s.2.1), (5, .int s.2.2)] [] h := by
  exact it_rule (f := bX9_tryPartners_56 h  v0 v1 v2) (fun s => hp_G l mX9_tryPartners none 0 false Q false 0 0 56 [(0, .ref v0), (1, .int v1), (2, .int v2), (3, .int s.1), (4, .int s.2.1), (5, .int s.2.2)] [] h) (fun x => (∀ e, x = e → hp_G l mX9_tryPartners none 0 false Q false 0 0 127 [(0, .ref v0), (1, .int v1), (2, .int v2), (3, .int e)] [] h)) (fun s r h1 h2 h3 => tbX9_tryPartners_56 l h1 (fun t e => h2 t e) (fun e he => h3 _ he _ rfl)) q s x hf ke
noncomputable def bX9_tryPartners_144 (v0 : Nat) (s : (Int32 × hp_H)) : Option ((Int32 × hp_H) ⊕ hp_H) :=
(gi_ s.2 v0 8 5).bind fun x24 =>
if x24 ≤ s.1 then
(some (.inr s.2))
else
((gq_ s.2 v0 8 19).bind fun x26 =>
(gq_ s.2 v0 8 18).bind fun x27 =>
(al_ s.2 x27 s.1).bind fun x28 =>
(ax_ s.2 x26 s.1 x28).bind fun h29 =>
(some (s.1 + 1)).bind fun x30 =>
some (.inl (x30, h29)))
set_option maxRecDepth 20000 in
set_option maxHeartbeats 4000000 in
theorem tbX9_tryPartners_144 (l : Launch) {v0 : Nat}  {s : (Int32 × hp_H)} {r : ((Int32 × hp_H) ⊕ hp_H)} (hf : bX9_tryPartners_144  v0 s = some r) {Q : Option Value → hp_H → Prop} (kb : ∀ t, r = .inl t → hp_G l mX9_tryPartners none 0 false Q false 0 0 144 [(0, .ref v0), (5, .int t.1)] [] t.2) (ke : ∀ x, r = .inr x → hp_G l mX9_tryPartners none 0 false Q false 0 0 173 [] [] x) : hp_G l mX9_tryPartners none 0 false Q false 0 0 144 [(0, .ref v0), (5, .int s.1)] [] s.2 := by
  unfold bX9_tryPartners_144 at hf
  refine hp_iload 1 dX9_tryPartners_144 rfl (?_ : hp_G _ _ _ _ _ _ _ _ _ 146 _ _ _)
  refine hp_aload_n 0 dX9_tryPartners_146 rfl rfl (?_ : hp_G _ _ _ _ _ _ _ _ _ 147 _ _ _)
  replace hf := ob_ hf
  obtain ⟨x24, ex24, hf⟩ := hf
  refine fgX9_71 rfl dX9_tryPartners_147 ex24 (?_ : hp_G _ _ _ _ _ _ _ _ _ 150 _ _ _)
  refine hp_icmp_ge (tgt := 173) dX9_tryPartners_150 rfl (fun c25 => ?_) (fun c25 => (?_ : hp_G _ _ _ _ _ _ _ _ _ 153 _ _ _))
  · replace hf := ot_ c25 hf
    obtain rfl := Option.some.inj hf
    exact hp_sub [] rfl (ke _ rfl)
  · replace hf := of_ c25 hf
    refine hp_aload_n 0 dX9_tryPartners_153 rfl rfl (?_ : hp_G _ _ _ _ _ _ _ _ _ 154 _ _ _)
    replace hf := ob_ hf
    obtain ⟨x26, ex26, hf⟩ := hf
    refine fgX9_40 rfl dX9_tryPartners_154 ex26 (?_ : hp_G _ _ _ _ _ _ _ _ _ 157 _ _ _)
    refine hp_iload 1 dX9_tryPartners_157 rfl (?_ : hp_G _ _ _ _ _ _ _ _ _ 159 _ _ _)
    refine hp_aload_n 0 dX9_tryPartners_159 rfl rfl (?_ : hp_G _ _ _ _ _ _ _ _ _ 160 _ _ _)
    replace hf := ob_ hf
    obtain ⟨x27, ex27, hf⟩ := hf
    refine fgX9_37 rfl dX9_tryPartners_160 ex27 (?_ : hp_G _ _ _ _ _ _ _ _ _ 163 _ _ _)
    refine hp_iload 1 dX9_tryPartners_163 rfl (?_ : hp_G _ _ _ _ _ _ _ _ _ 165 _ _ _)
    replace hf := ob_ hf
    obtain ⟨x28, ex28, hf⟩ := hf
    refine hp_iaload dX9_tryPartners_165 ex28 (?_ : hp_G _ _ _ _ _ _ _ _ _ 166 _ _ _)
    replace hf := ob_ hf
    obtain ⟨h29, eh29, hf⟩ := hf
    refine hp_iastore dX9_tryPartners_166 eh29 (?_ : hp_G _ _ _ _ _ _ _ _ _ 167 _ _ _)
    replace hf := ob_ hf
    obtain ⟨x30, ex30, hf⟩ := hf
    refine hp_iinc (v := x30) (lv' := [(5, .int x30), (0, .ref v0)]) 1 dX9_tryPartners_167 rfl (hp_inc ic_1 ex30) (Nat.le_of_ble_eq_true rfl) rfl (?_ : hp_G _ _ _ _ _ _ _ _ _ 170 _ _ _)
    refine hp_goto (tgt := 144) dX9_tryPartners_170 rfl (?_ : hp_G _ _ _ _ _ _ _ _ _ 144 _ _ _)
    obtain rfl := Option.some.inj hf
    exact hp_sub [1, 0] rfl (kb _ rfl)
set_option maxRecDepth 20000 in
set_option maxHeartbeats 4000000 in
theorem tlX9_tryPartners_144 (l : Launch) {v0 : Nat}  (q : Nat) {s : (Int32 × hp_H)} {x : hp_H} (hf : it_ (bX9_tryPartners_144  v0) q s = some x) {Q : Option Value → hp_H → Prop} (ke : ∀ e, x = e → hp_G l mX9_tryPartners none 0 false Q false 0 0 173 [] [] e) : hp_G l mX9_tryPartners none 0 false Q false 0 0 144 [(0, .ref v0), (5, .int s.1)] [] s.2 := by
  exact it_rule (f := bX9_tryPartners_144  v0) (fun s => hp_G l mX9_tryPartners none 0 false Q false 0 0 144 [(0, .ref v0), (5, .int s.1)] [] s.2) (fun x => (∀ e, x = e → hp_G l mX9_tryPartners none 0 false Q false 0 0 173 [] [] e)) (fun s r h1 h2 h3 => tbX9_tryPartners_144 l h1 (fun t e => h2 t e) (fun e he => h3 _ he _ rfl)) q s x hf ke
noncomputable def jX9_tryPartners_51 (g : hp_H)  (u0 : Nat) (u1 : Int32) (u2 : Int32) (u3 : Int32) (k0 : Int32) : Option hp_H :=
(it_ (bX9_tryPartners_56 g u0 u1 u2) fu_ (u3, k0, 0)).bind fun x20 =>
if x20 = 0 then
(some g)
else
((pi_ g u0 8 20 u1).bind fun h22 =>
(pi_ h22 u0 8 21 u2).bind fun h23 =>
(it_ (bX9_tryPartners_144  u0) fu_ (0, h23)).bind fun x31 =>
some x31)
set_option maxRecDepth 20000 in
set_option maxHeartbeats 4000000 in
theorem tjX9_tryPartners_51 (l : Launch) {g : hp_H}  {u0 : Nat} {u1 : Int32} {u2 : Int32} {u3 : Int32} {k0 : Int32} {r : hp_H} (hf : jX9_tryPartners_51 g u0 u1 u2 u3 k0 = some r) {Q : Option Value → hp_H → Prop} (kr : Q (none) r) : hp_G l mX9_tryPartners none 0 false Q false 0 0 51 [(0, .ref u0), (1, .int u1), (2, .int u2), (3, .int u3)] [.int k0] g := by
  unfold jX9_tryPartners_51 at hf
  refine hp_istore (lv' := [(4, .int k0), (0, .ref u0), (1, .int u1), (2, .int u2), (3, .int u3)]) dX9_tryPartners_51 (Nat.le_of_ble_eq_true rfl) rfl (?_ : hp_G _ _ _ _ _ _ _ _ _ 53 _ _ _)
  refine hp_iconst (v := 0) dX9_tryPartners_53 ic_0 (?_ : hp_G _ _ _ _ _ _ _ _ _ 54 _ _ _)
  refine hp_istore (lv' := [(5, .int 0), (4, .int k0), (0, .ref u0), (1, .int u1), (2, .int u2), (3, .int u3)]) dX9_tryPartners_54 (Nat.le_of_ble_eq_true rfl) rfl (?_ : hp_G _ _ _ _ _ _ _ _ _ 56 _ _ _)
  replace hf := ob_ hf
  obtain ⟨x20, ex20, hf⟩ := hf
  refine hp_sub [2, 3, 4, 5, 1, 0] rfl ?_
  refine tlX9_tryPartners_56 l fu_ ex20 (fun y hy => ?_)
  obtain rfl := hy
  refine hp_iload_n 3 dX9_tryPartners_127 rfl rfl (?_ : hp_G _ _ _ _ _ _ _ _ _ 128 _ _ _)
  refine hp_if_eq (tgt := 173) dX9_tryPartners_128 rfl (fun c21 => ?_) (fun c21 => (?_ : hp_G _ _ _ _ _ _ _ _ _ 131 _ _ _))
  · replace hf := ot_ c21 hf
    obtain rfl := Option.some.inj hf
    exact hp_vret kr (fun z => z) rfl dX9_tryPartners_173
  · replace hf := of_ c21 hf
    refine hp_aload_n 0 dX9_tryPartners_131 rfl rfl (?_ : hp_G _ _ _ _ _ _ _ _ _ 132 _ _ _)
    refine hp_iload_n 1 dX9_tryPartners_132 rfl rfl (?_ : hp_G _ _ _ _ _ _ _ _ _ 133 _ _ _)
    replace hf := ob_ hf
    obtain ⟨h22, eh22, hf⟩ := hf
    refine fpX9_160 rfl dX9_tryPartners_133 eh22 (?_ : hp_G _ _ _ _ _ _ _ _ _ 136 _ _ _)
    refine hp_aload_n 0 dX9_tryPartners_136 rfl rfl (?_ : hp_G _ _ _ _ _ _ _ _ _ 137 _ _ _)
    refine hp_iload_n 2 dX9_tryPartners_137 rfl rfl (?_ : hp_G _ _ _ _ _ _ _ _ _ 138 _ _ _)
    replace hf := ob_ hf
    obtain ⟨h23, eh23, hf⟩ := hf
    refine fpX9_163 rfl dX9_tryPartners_138 eh23 (?_ : hp_G _ _ _ _ _ _ _ _ _ 141 _ _ _)
    refine hp_iconst (v := 0) dX9_tryPartners_141 ic_0 (?_ : hp_G _ _ _ _ _ _ _ _ _ 142 _ _ _)
    refine hp_istore (lv' := [(5, .int 0), (0, .ref u0), (1, .int u1), (2, .int u2), (3, .int x20)]) dX9_tryPartners_142 (Nat.le_of_ble_eq_true rfl) rfl (?_ : hp_G _ _ _ _ _ _ _ _ _ 144 _ _ _)
    replace hf := ob_ hf
    obtain ⟨x31, ex31, hf⟩ := hf
    refine hp_sub [1, 0] rfl ?_
    refine tlX9_tryPartners_144 l fu_ ex31 (fun y hy => ?_)
    obtain rfl := hy
    obtain rfl := Option.some.inj hf
    exact hp_vret kr (fun z => z) rfl dX9_tryPartners_173
noncomputable def jX9_tryPartners_50 (g : hp_H)  (u0 : Nat) (u1 : Int32) (u2 : Int32) (u3 : Int32)  : Option hp_H :=
jX9_tryPartners_51 g u0 u1 u2 u3 0
set_option maxRecDepth 20000 in
set_option maxHeartbeats 4000000 in
theorem tjX9_tryPartners_50 (l : Launch) {g : hp_H}  {u0 : Nat} {u1 : Int32} {u2 : Int32} {u3 : Int32}  {r : hp_H} (hf : jX9_tryPartners_50 g u0 u1 u2 u3 = some r) {Q : Option Value → hp_H → Prop} (kr : Q (none) r) : hp_G l mX9_tryPartners none 0 false Q false 0 0 50 [(0, .ref u0), (1, .int u1), (2, .int u2), (3, .int u3)] [] g := by
  unfold jX9_tryPartners_50 at hf
  refine hp_iconst (v := 0) dX9_tryPartners_50 ic_0 (?_ : hp_G _ _ _ _ _ _ _ _ _ 51 _ _ _)
  exact hp_sub [0, 1, 2, 3] rfl (tjX9_tryPartners_51 l hf kr)
noncomputable def jX9_tryPartners_29 (g : hp_H)  (u0 : Nat) (u1 : Int32) (u2 : Int32) (k0 : Int32) : Option hp_H :=
(gi_ g u0 8 20).bind fun x3 =>
if u1 = x3 then
((gi_ g u0 8 21).bind fun x32 =>
if u2 = x32 then
(jX9_tryPartners_51 g u0 u1 u2 k0 1)
else
(jX9_tryPartners_50 g u0 u1 u2 k0))
else
(jX9_tryPartners_50 g u0 u1 u2 k0)
set_option maxRecDepth 20000 in
set_option maxHeartbeats 4000000 in
theorem tjX9_tryPartners_29 (l : Launch) {g : hp_H}  {u0 : Nat} {u1 : Int32} {u2 : Int32} {k0 : Int32} {r : hp_H} (hf : jX9_tryPartners_29 g u0 u1 u2 k0 = some r) {Q : Option Value → hp_H → Prop} (kr : Q (none) r) : hp_G l mX9_tryPartners none 0 false Q false 0 0 29 [(0, .ref u0), (1, .int u1), (2, .int u2)] [.int k0] g := by
  unfold jX9_tryPartners_29 at hf
  refine hp_istore_n (lv' := [(3, .int k0), (0, .ref u0), (1, .int u1), (2, .int u2)]) dX9_tryPartners_29 rfl (Nat.le_of_ble_eq_true rfl) rfl (?_ : hp_G _ _ _ _ _ _ _ _ _ 30 _ _ _)
  refine hp_iload_n 2 dX9_tryPartners_30 rfl rfl (?_ : hp_G _ _ _ _ _ _ _ _ _ 31 _ _ _)
  refine hp_aload_n 1 dX9_tryPartners_31 rfl rfl (?_ : hp_G _ _ _ _ _ _ _ _ _ 32 _ _ _)
  replace hf := ob_ hf
  obtain ⟨x3, ex3, hf⟩ := hf
  refine fgX9_160 rfl dX9_tryPartners_32 ex3 (?_ : hp_G _ _ _ _ _ _ _ _ _ 35 _ _ _)
  refine hp_icmp_ne (tgt := 50) dX9_tryPartners_35 rfl (fun c4 => ?_) (fun c4 => (?_ : hp_G _ _ _ _ _ _ _ _ _ 38 _ _ _))
  · replace hf := of_ c4 hf
    exact hp_sub [1, 2, 3, 0] rfl (tjX9_tryPartners_50 l hf kr)
  · replace hf := ot_ c4 hf
    refine hp_iload_n 3 dX9_tryPartners_38 rfl rfl (?_ : hp_G _ _ _ _ _ _ _ _ _ 39 _ _ _)
    refine hp_aload_n 1 dX9_tryPartners_39 rfl rfl (?_ : hp_G _ _ _ _ _ _ _ _ _ 40 _ _ _)
    replace hf := ob_ hf
    obtain ⟨x32, ex32, hf⟩ := hf
    refine fgX9_163 rfl dX9_tryPartners_40 ex32 (?_ : hp_G _ _ _ _ _ _ _ _ _ 43 _ _ _)
    refine hp_icmp_ne (tgt := 50) dX9_tryPartners_43 rfl (fun c33 => ?_) (fun c33 => (?_ : hp_G _ _ _ _ _ _ _ _ _ 46 _ _ _))
    · replace hf := of_ c33 hf
      exact hp_sub [1, 2, 3, 0] rfl (tjX9_tryPartners_50 l hf kr)
    · replace hf := ot_ c33 hf
      refine hp_iconst (v := 1) dX9_tryPartners_46 ic_1 (?_ : hp_G _ _ _ _ _ _ _ _ _ 47 _ _ _)
      refine hp_goto (tgt := 51) dX9_tryPartners_47 rfl (?_ : hp_G _ _ _ _ _ _ _ _ _ 51 _ _ _)
      exact hp_sub [1, 2, 3, 0] rfl (tjX9_tryPartners_51 l hf kr)
noncomputable def jX9_tryPartners_24 (g : hp_H)  (u0 : Nat) (u1 : Int32) (u2 : Int32)  : Option hp_H :=
jX9_tryPartners_29 g u0 u1 u2 1
set_option maxRecDepth 20000 in
set_option maxHeartbeats 4000000 in
theorem tjX9_tryPartners_24 (l : Launch) {g : hp_H}  {u0 : Nat} {u1 : Int32} {u2 : Int32}  {r : hp_H} (hf : jX9_tryPartners_24 g u0 u1 u2 = some r) {Q : Option Value → hp_H → Prop} (kr : Q (none) r) : hp_G l mX9_tryPartners none 0 false Q false 0 0 24 [(0, .ref u0), (1, .int u1), (2, .int u2)] [] g := by
  unfold jX9_tryPartners_24 at hf
  refine hp_iconst (v := 1) dX9_tryPartners_24 ic_1 (?_ : hp_G _ _ _ _ _ _ _ _ _ 25 _ _ _)
  refine hp_goto (tgt := 29) dX9_tryPartners_25 rfl (?_ : hp_G _ _ _ _ _ _ _ _ _ 29 _ _ _)
  exact hp_sub [0, 1, 2] rfl (tjX9_tryPartners_29 l hf kr)
noncomputable def jX9_tryPartners_28 (g : hp_H)  (u0 : Nat) (u1 : Int32) (u2 : Int32)  : Option hp_H :=
jX9_tryPartners_29 g u0 u1 u2 0
set_option maxRecDepth 20000 in
set_option maxHeartbeats 4000000 in
theorem tjX9_tryPartners_28 (l : Launch) {g : hp_H}  {u0 : Nat} {u1 : Int32} {u2 : Int32}  {r : hp_H} (hf : jX9_tryPartners_28 g u0 u1 u2 = some r) {Q : Option Value → hp_H → Prop} (kr : Q (none) r) : hp_G l mX9_tryPartners none 0 false Q false 0 0 28 [(0, .ref u0), (1, .int u1), (2, .int u2)] [] g := by
  unfold jX9_tryPartners_28 at hf
  refine hp_iconst (v := 0) dX9_tryPartners_28 ic_0 (?_ : hp_G _ _ _ _ _ _ _ _ _ 29 _ _ _)
  exact hp_sub [0, 1, 2] rfl (tjX9_tryPartners_29 l hf kr)
noncomputable def fX9_tryPartners (h : hp_H) (a0 : Nat) (p1 : Int32) (p2 : Int32) : Option hp_H :=
(gi_ h a0 8 20).bind fun x1 =>
if x1 < p1 then
(jX9_tryPartners_24 h a0 p1 p2)
else
((gi_ h a0 8 20).bind fun x34 =>
if p1 = x34 then
((gi_ h a0 8 21).bind fun x36 =>
if x36 ≤ p2 then
(jX9_tryPartners_28 h a0 p1 p2)
else
(jX9_tryPartners_24 h a0 p1 p2))
else
(jX9_tryPartners_28 h a0 p1 p2))
set_option maxRecDepth 20000 in
set_option maxHeartbeats 4000000 in
theorem tX9_tryPartners (l : Launch) {h : hp_H} {a0 : Nat} {p1 : Int32} {p2 : Int32} {r : hp_H} (hf : fX9_tryPartners h a0 p1 p2 = some r) {Q : Option Value → hp_H → Prop} (kr : Q (none) r) : hp_G l mX9_tryPartners none 0 false Q false 0 0 0 [(0, .ref a0), (1, .int p1), (2, .int p2)] [] h := by
  unfold fX9_tryPartners at hf
  refine hp_iload_n 1 dX9_tryPartners_0 rfl rfl (?_ : hp_G _ _ _ _ _ _ _ _ _ 1 _ _ _)
  refine hp_aload_n 0 dX9_tryPartners_1 rfl rfl (?_ : hp_G _ _ _ _ _ _ _ _ _ 2 _ _ _)
  replace hf := ob_ hf
  obtain ⟨x1, ex1, hf⟩ := hf
  refine fgX9_160 rfl dX9_tryPartners_2 ex1 (?_ : hp_G _ _ _ _ _ _ _ _ _ 5 _ _ _)
  refine hp_icmp_gt (tgt := 24) dX9_tryPartners_5 rfl (fun c2 => ?_) (fun c2 => (?_ : hp_G _ _ _ _ _ _ _ _ _ 8 _ _ _))
  · replace hf := ot_ c2 hf
    exact hp_sub [0, 1, 2] rfl (tjX9_tryPartners_24 l hf kr)
  · replace hf := of_ c2 hf
    refine hp_iload_n 1 dX9_tryPartners_8 rfl rfl (?_ : hp_G _ _ _ _ _ _ _ _ _ 9 _ _ _)
    refine hp_aload_n 0 dX9_tryPartners_9 rfl rfl (?_ : hp_G _ _ _ _ _ _ _ _ _ 10 _ _ _)
    replace hf := ob_ hf
    obtain ⟨x34, ex34, hf⟩ := hf
    refine fgX9_160 rfl dX9_tryPartners_10 ex34 (?_ : hp_G _ _ _ _ _ _ _ _ _ 13 _ _ _)
    refine hp_icmp_ne (tgt := 28) dX9_tryPartners_13 rfl (fun c35 => ?_) (fun c35 => (?_ : hp_G _ _ _ _ _ _ _ _ _ 16 _ _ _))
    · replace hf := of_ c35 hf
      exact hp_sub [0, 1, 2] rfl (tjX9_tryPartners_28 l hf kr)
    · replace hf := ot_ c35 hf
      refine hp_iload_n 2 dX9_tryPartners_16 rfl rfl (?_ : hp_G _ _ _ _ _ _ _ _ _ 17 _ _ _)
      refine hp_aload_n 0 dX9_tryPartners_17 rfl rfl (?_ : hp_G _ _ _ _ _ _ _ _ _ 18 _ _ _)
      replace hf := ob_ hf
      obtain ⟨x36, ex36, hf⟩ := hf
      refine fgX9_163 rfl dX9_tryPartners_18 ex36 (?_ : hp_G _ _ _ _ _ _ _ _ _ 21 _ _ _)
      refine hp_icmp_ge (tgt := 28) dX9_tryPartners_21 rfl (fun c37 => ?_) (fun c37 => (?_ : hp_G _ _ _ _ _ _ _ _ _ 24 _ _ _))
      · replace hf := ot_ c37 hf
        exact hp_sub [0, 1, 2] rfl (tjX9_tryPartners_28 l hf kr)
      · replace hf := of_ c37 hf
        exact hp_sub [0, 1, 2] rfl (tjX9_tryPartners_24 l hf kr)
theorem kX9_tryPartners (l : Launch) {h : hp_H} {a0 : Nat} {p1 : Int32} {p2 : Int32} {r : hp_H} (hf : fX9_tryPartners h a0 p1 p2 = some r) : hp_Cn l yX9_tryPartners mX9_tryPartners 0 false 0 0 [.ref a0, .int p1, .int p2] h (fun v h2 => none = v ∧ r = h2) :=
  hp_of (by decide) rfl (fun z => by cases z) (Nat.le_of_ble_eq_true rfl) (tX9_tryPartners l hf ⟨rfl, rfl⟩)
noncomputable def fX9_isPut (h : hp_H) (a0 : Nat) (p1 : Int32) : Option (Int32 × hp_H) :=
(dv_ p1 6).bind fun x1 =>
(rm_ p1 6).bind fun x2 =>
if x2 ≤ x1 then
(some (0, h))
else
((gi_ h a0 8 5).bind fun x4 =>
if x4 ≤ x2 then
(some (0, h))
else
((hg_o h a0 8).bind fun o6 =>
(fX9_isAway h a0 x1 x2).bind fun r7 =>
if r7 = 0 then
((gq_ h a0 8 18).bind fun x9 =>
(al_ h x9 x1).bind fun x10 =>
if x10 = 9 then
((gq_ h a0 8 18).bind fun x12 =>
(al_ h x12 x2).bind fun x13 =>
if x13 = 9 then
((gq_ h a0 8 18).bind fun x15 =>
(ax_ h x15 x1 x2).bind fun h16 =>
(gq_ h16 a0 8 18).bind fun x17 =>
(ax_ h16 x17 x2 x1).bind fun h18 =>
some (1, h18))
else
(some (0, h)))
else
(some (0, h)))
else
(some (0, h))))
set_option maxRecDepth 20000 in
set_option maxHeartbeats 4000000 in
theorem tX9_isPut (l : Launch) {h : hp_H} {a0 : Nat} {p1 : Int32} {r : (Int32 × hp_H)} (hf : fX9_isPut h a0 p1 = some r) {Q : Option Value → hp_H → Prop} (kr : Q (some (.int r.1)) r.2) : hp_G l mX9_isPut none 2 false Q false 0 0 0 [(0, .ref a0), (1, .int p1)] [] h := by
  unfold fX9_isPut at hf
  refine hp_iload_n 1 dX9_isPut_0 rfl rfl (?_ : hp_G _ _ _ _ _ _ _ _ _ 1 _ _ _)
  refine hp_bipush (v := 6) dX9_isPut_1 bi_6 (?_ : hp_G _ _ _ _ _ _ _ _ _ 3 _ _ _)
  replace hf := ob_ hf
  obtain ⟨x1, ex1, hf⟩ := hf
  refine hp_idiv dX9_isPut_3 ex1 (?_ : hp_G _ _ _ _ _ _ _ _ _ 4 _ _ _)
  refine hp_istore_n (lv' := [(2, .int x1), (0, .ref a0), (1, .int p1)]) dX9_isPut_4 rfl (Nat.le_of_ble_eq_true rfl) rfl (?_ : hp_G _ _ _ _ _ _ _ _ _ 5 _ _ _)
  refine hp_iload_n 2 dX9_isPut_5 rfl rfl (?_ : hp_G _ _ _ _ _ _ _ _ _ 6 _ _ _)
  refine hp_bipush (v := 6) dX9_isPut_6 bi_6 (?_ : hp_G _ _ _ _ _ _ _ _ _ 8 _ _ _)
  replace hf := ob_ hf
  obtain ⟨x2, ex2, hf⟩ := hf
  refine hp_irem dX9_isPut_8 ex2 (?_ : hp_G _ _ _ _ _ _ _ _ _ 9 _ _ _)
  refine hp_istore_n (lv' := [(3, .int x2), (2, .int x1), (0, .ref a0), (1, .int p1)]) dX9_isPut_9 rfl (Nat.le_of_ble_eq_true rfl) rfl (?_ : hp_G _ _ _ _ _ _ _ _ _ 10 _ _ _)
  refine hp_iload_n 1 dX9_isPut_10 rfl rfl (?_ : hp_G _ _ _ _ _ _ _ _ _ 11 _ _ _)
  refine hp_iload_n 0 dX9_isPut_11 rfl rfl (?_ : hp_G _ _ _ _ _ _ _ _ _ 12 _ _ _)
  refine hp_icmp_ge (tgt := 54) dX9_isPut_12 rfl (fun c3 => ?_) (fun c3 => (?_ : hp_G _ _ _ _ _ _ _ _ _ 15 _ _ _))
  · replace hf := ot_ c3 hf
    refine hp_iconst (v := 0) dX9_isPut_54 ic_0 (?_ : hp_G _ _ _ _ _ _ _ _ _ 55 _ _ _)
    obtain rfl := Option.some.inj hf
    exact hp_zret kr (fun z => z) rfl (by decide) dX9_isPut_55
  · replace hf := of_ c3 hf
    refine hp_iload_n 0 dX9_isPut_15 rfl rfl (?_ : hp_G _ _ _ _ _ _ _ _ _ 16 _ _ _)
    refine hp_aload_n 2 dX9_isPut_16 rfl rfl (?_ : hp_G _ _ _ _ _ _ _ _ _ 17 _ _ _)
    replace hf := ob_ hf
    obtain ⟨x4, ex4, hf⟩ := hf
    refine fgX9_71 rfl dX9_isPut_17 ex4 (?_ : hp_G _ _ _ _ _ _ _ _ _ 20 _ _ _)
    refine hp_icmp_ge (tgt := 54) dX9_isPut_20 rfl (fun c5 => ?_) (fun c5 => (?_ : hp_G _ _ _ _ _ _ _ _ _ 23 _ _ _))
    · replace hf := ot_ c5 hf
      refine hp_iconst (v := 0) dX9_isPut_54 ic_0 (?_ : hp_G _ _ _ _ _ _ _ _ _ 55 _ _ _)
      obtain rfl := Option.some.inj hf
      exact hp_zret kr (fun z => z) rfl (by decide) dX9_isPut_55
    · replace hf := of_ c5 hf
      refine hp_aload_n 2 dX9_isPut_23 rfl rfl (?_ : hp_G _ _ _ _ _ _ _ _ _ 24 _ _ _)
      refine hp_iload_n 1 dX9_isPut_24 rfl rfl (?_ : hp_G _ _ _ _ _ _ _ _ _ 25 _ _ _)
      refine hp_iload_n 0 dX9_isPut_25 rfl rfl (?_ : hp_G _ _ _ _ _ _ _ _ _ 26 _ _ _)
      replace hf := ob_ hf
      obtain ⟨o6, eo6, hf⟩ := hf
      replace hf := ob_ hf
      obtain ⟨r7, er7, hf⟩ := hf
      refine clX9_132 (as := [.int x1, .int x2]) (st := []) rfl (kX9_isAway l er7) rfl (by decide) (Nat.le_of_ble_eq_true rfl) eo6 dX9_isPut_26 rfl (?_ : hp_G _ _ _ _ _ _ _ _ _ 29 _ _ _)
      refine hp_if_ne (tgt := 54) dX9_isPut_29 rfl (fun c8 => ?_) (fun c8 => (?_ : hp_G _ _ _ _ _ _ _ _ _ 32 _ _ _))
      · replace hf := of_ c8 hf
        refine hp_iconst (v := 0) dX9_isPut_54 ic_0 (?_ : hp_G _ _ _ _ _ _ _ _ _ 55 _ _ _)
        obtain rfl := Option.some.inj hf
        exact hp_zret kr (fun z => z) rfl (by decide) dX9_isPut_55
      · replace hf := ot_ c8 hf
        refine hp_aload_n 2 dX9_isPut_32 rfl rfl (?_ : hp_G _ _ _ _ _ _ _ _ _ 33 _ _ _)
        replace hf := ob_ hf
        obtain ⟨x9, ex9, hf⟩ := hf
        refine fgX9_37 rfl dX9_isPut_33 ex9 (?_ : hp_G _ _ _ _ _ _ _ _ _ 36 _ _ _)
        refine hp_iload_n 1 dX9_isPut_36 rfl rfl (?_ : hp_G _ _ _ _ _ _ _ _ _ 37 _ _ _)
        replace hf := ob_ hf
        obtain ⟨x10, ex10, hf⟩ := hf
        refine hp_iaload dX9_isPut_37 ex10 (?_ : hp_G _ _ _ _ _ _ _ _ _ 38 _ _ _)
        refine hp_bipush (v := 9) dX9_isPut_38 bi_9 (?_ : hp_G _ _ _ _ _ _ _ _ _ 40 _ _ _)
        refine hp_icmp_ne (tgt := 54) dX9_isPut_40 rfl (fun c11 => ?_) (fun c11 => (?_ : hp_G _ _ _ _ _ _ _ _ _ 43 _ _ _))
        · replace hf := of_ c11 hf
          refine hp_iconst (v := 0) dX9_isPut_54 ic_0 (?_ : hp_G _ _ _ _ _ _ _ _ _ 55 _ _ _)
          obtain rfl := Option.some.inj hf
          exact hp_zret kr (fun z => z) rfl (by decide) dX9_isPut_55
        · replace hf := ot_ c11 hf
          refine hp_aload_n 2 dX9_isPut_43 rfl rfl (?_ : hp_G _ _ _ _ _ _ _ _ _ 44 _ _ _)
          replace hf := ob_ hf
          obtain ⟨x12, ex12, hf⟩ := hf
          refine fgX9_37 rfl dX9_isPut_44 ex12 (?_ : hp_G _ _ _ _ _ _ _ _ _ 47 _ _ _)
          refine hp_iload_n 0 dX9_isPut_47 rfl rfl (?_ : hp_G _ _ _ _ _ _ _ _ _ 48 _ _ _)
          replace hf := ob_ hf
          obtain ⟨x13, ex13, hf⟩ := hf
          refine hp_iaload dX9_isPut_48 ex13 (?_ : hp_G _ _ _ _ _ _ _ _ _ 49 _ _ _)
          refine hp_bipush (v := 9) dX9_isPut_49 bi_9 (?_ : hp_G _ _ _ _ _ _ _ _ _ 51 _ _ _)
          refine hp_icmp_eq (tgt := 56) dX9_isPut_51 rfl (fun c14 => ?_) (fun c14 => (?_ : hp_G _ _ _ _ _ _ _ _ _ 54 _ _ _))
          · replace hf := ot_ c14 hf
            refine hp_aload_n 2 dX9_isPut_56 rfl rfl (?_ : hp_G _ _ _ _ _ _ _ _ _ 57 _ _ _)
            replace hf := ob_ hf
            obtain ⟨x15, ex15, hf⟩ := hf
            refine fgX9_37 rfl dX9_isPut_57 ex15 (?_ : hp_G _ _ _ _ _ _ _ _ _ 60 _ _ _)
            refine hp_iload_n 1 dX9_isPut_60 rfl rfl (?_ : hp_G _ _ _ _ _ _ _ _ _ 61 _ _ _)
            refine hp_iload_n 0 dX9_isPut_61 rfl rfl (?_ : hp_G _ _ _ _ _ _ _ _ _ 62 _ _ _)
            replace hf := ob_ hf
            obtain ⟨h16, eh16, hf⟩ := hf
            refine hp_iastore dX9_isPut_62 eh16 (?_ : hp_G _ _ _ _ _ _ _ _ _ 63 _ _ _)
            refine hp_aload_n 2 dX9_isPut_63 rfl rfl (?_ : hp_G _ _ _ _ _ _ _ _ _ 64 _ _ _)
            replace hf := ob_ hf
            obtain ⟨x17, ex17, hf⟩ := hf
            refine fgX9_37 rfl dX9_isPut_64 ex17 (?_ : hp_G _ _ _ _ _ _ _ _ _ 67 _ _ _)
            refine hp_iload_n 0 dX9_isPut_67 rfl rfl (?_ : hp_G _ _ _ _ _ _ _ _ _ 68 _ _ _)
            refine hp_iload_n 1 dX9_isPut_68 rfl rfl (?_ : hp_G _ _ _ _ _ _ _ _ _ 69 _ _ _)
            replace hf := ob_ hf
            obtain ⟨h18, eh18, hf⟩ := hf
            refine hp_iastore dX9_isPut_69 eh18 (?_ : hp_G _ _ _ _ _ _ _ _ _ 70 _ _ _)
            refine hp_iconst (v := 1) dX9_isPut_70 ic_1 (?_ : hp_G _ _ _ _ _ _ _ _ _ 71 _ _ _)
            obtain rfl := Option.some.inj hf
            exact hp_zret kr (fun z => z) rfl (by decide) dX9_isPut_71
          · replace hf := of_ c14 hf
            refine hp_iconst (v := 0) dX9_isPut_54 ic_0 (?_ : hp_G _ _ _ _ _ _ _ _ _ 55 _ _ _)
            obtain rfl := Option.some.inj hf
            exact hp_zret kr (fun z => z) rfl (by decide) dX9_isPut_55
theorem kX9_isPut (l : Launch) {h : hp_H} {a0 : Nat} {p1 : Int32} {r : (Int32 × hp_H)} (hf : fX9_isPut h a0 p1 = some r) : hp_Cn l yX9_isPut mX9_isPut 2 false 0 0 [.ref a0, .int p1] h (fun v h2 => some (.int r.1) = v ∧ r.2 = h2) :=
  hp_of (by decide) rfl (fun z => by cases z) (Nat.le_of_ble_eq_true rfl) (tX9_isPut l hf ⟨rfl, rfl⟩)
noncomputable def fX9_leaves (h : hp_H) (a0 : Nat) (p1 : Int32) : Option Int32 :=
(dv_ p1 6).bind fun x1 =>
(hg_o h a0 8).bind fun o2 =>
(fX9_worstOf h a0 x1).bind fun r3 =>
(rm_ p1 6).bind fun x4 =>
(hg_o h a0 8).bind fun o5 =>
(fX9_worstOf h a0 x4).bind fun r6 =>
if r3 = r6 then
(some 0)
else
(some 1)
set_option maxRecDepth 20000 in
set_option maxHeartbeats 4000000 in
theorem tX9_leaves (l : Launch) {h : hp_H} {a0 : Nat} {p1 : Int32} {r : Int32} (hf : fX9_leaves h a0 p1 = some r) {Q : Option Value → hp_H → Prop} (kr : Q (some (.int r)) h) : hp_G l mX9_leaves none 2 false Q false 0 0 0 [(0, .ref a0), (1, .int p1)] [] h := by
  unfold fX9_leaves at hf
  refine hp_aload_n 0 dX9_leaves_0 rfl rfl (?_ : hp_G _ _ _ _ _ _ _ _ _ 1 _ _ _)
  refine hp_iload_n 1 dX9_leaves_1 rfl rfl (?_ : hp_G _ _ _ _ _ _ _ _ _ 2 _ _ _)
  refine hp_bipush (v := 6) dX9_leaves_2 bi_6 (?_ : hp_G _ _ _ _ _ _ _ _ _ 4 _ _ _)
  replace hf := ob_ hf
  obtain ⟨x1, ex1, hf⟩ := hf
  refine hp_idiv dX9_leaves_4 ex1 (?_ : hp_G _ _ _ _ _ _ _ _ _ 5 _ _ _)
  replace hf := ob_ hf
  obtain ⟨o2, eo2, hf⟩ := hf
  replace hf := ob_ hf
  obtain ⟨r3, er3, hf⟩ := hf
  refine clX9_123 (as := [.int x1]) (st := []) rfl (kX9_worstOf l er3) rfl (by decide) (Nat.le_of_ble_eq_true rfl) eo2 dX9_leaves_5 rfl (?_ : hp_G _ _ _ _ _ _ _ _ _ 8 _ _ _)
  refine hp_aload_n 0 dX9_leaves_8 rfl rfl (?_ : hp_G _ _ _ _ _ _ _ _ _ 9 _ _ _)
  refine hp_iload_n 1 dX9_leaves_9 rfl rfl (?_ : hp_G _ _ _ _ _ _ _ _ _ 10 _ _ _)
  refine hp_bipush (v := 6) dX9_leaves_10 bi_6 (?_ : hp_G _ _ _ _ _ _ _ _ _ 12 _ _ _)
  replace hf := ob_ hf
  obtain ⟨x4, ex4, hf⟩ := hf
  refine hp_irem dX9_leaves_12 ex4 (?_ : hp_G _ _ _ _ _ _ _ _ _ 13 _ _ _)
  replace hf := ob_ hf
  obtain ⟨o5, eo5, hf⟩ := hf
  replace hf := ob_ hf
  obtain ⟨r6, er6, hf⟩ := hf
  refine clX9_123 (as := [.int x4]) (st := [.int r3]) rfl (kX9_worstOf l er6) rfl (by decide) (Nat.le_of_ble_eq_true rfl) eo5 dX9_leaves_13 rfl (?_ : hp_G _ _ _ _ _ _ _ _ _ 16 _ _ _)
  refine hp_icmp_ne (tgt := 23) dX9_leaves_16 rfl (fun c7 => ?_) (fun c7 => (?_ : hp_G _ _ _ _ _ _ _ _ _ 19 _ _ _))
  · replace hf := of_ c7 hf
    refine hp_iconst (v := 1) dX9_leaves_23 ic_1 (?_ : hp_G _ _ _ _ _ _ _ _ _ 24 _ _ _)
    obtain rfl := Option.some.inj hf
    exact hp_iret kr (fun z => z) rfl dX9_leaves_24
  · replace hf := ot_ c7 hf
    refine hp_iconst (v := 0) dX9_leaves_19 ic_0 (?_ : hp_G _ _ _ _ _ _ _ _ _ 20 _ _ _)
    refine hp_goto (tgt := 24) dX9_leaves_20 rfl (?_ : hp_G _ _ _ _ _ _ _ _ _ 24 _ _ _)
    obtain rfl := Option.some.inj hf
    exact hp_iret kr (fun z => z) rfl dX9_leaves_24
theorem kX9_leaves (l : Launch) {h : hp_H} {a0 : Nat} {p1 : Int32} {r : Int32} (hf : fX9_leaves h a0 p1 = some r) : hp_Cn l yX9_leaves mX9_leaves 2 false 0 0 [.ref a0, .int p1] h (fun v h2 => some (.int r) = v ∧ h = h2) :=
  hp_of (by decide) rfl (fun z => by cases z) (Nat.le_of_ble_eq_true rfl) (tX9_leaves l hf ⟨rfl, rfl⟩)
noncomputable def fX9_take (h : hp_H) (a0 : Nat) (p1 : Int32) : Option hp_H :=
(gq_ h a0 8 18).bind fun x1 =>
(dv_ p1 6).bind fun x2 =>
(ax_ h x1 x2 9).bind fun h3 =>
(gq_ h3 a0 8 18).bind fun x4 =>
(rm_ p1 6).bind fun x5 =>
(ax_ h3 x4 x5 9).bind fun h6 =>
some h6
set_option maxRecDepth 20000 in
set_option maxHeartbeats 4000000 in
theorem tX9_take (l : Launch) {h : hp_H} {a0 : Nat} {p1 : Int32} {r : hp_H} (hf : fX9_take h a0 p1 = some r) {Q : Option Value → hp_H → Prop} (kr : Q (none) r) : hp_G l mX9_take none 0 false Q false 0 0 0 [(0, .ref a0), (1, .int p1)] [] h := by
  unfold fX9_take at hf
  refine hp_aload_n 0 dX9_take_0 rfl rfl (?_ : hp_G _ _ _ _ _ _ _ _ _ 1 _ _ _)
  replace hf := ob_ hf
  obtain ⟨x1, ex1, hf⟩ := hf
  refine fgX9_37 rfl dX9_take_1 ex1 (?_ : hp_G _ _ _ _ _ _ _ _ _ 4 _ _ _)
  refine hp_iload_n 1 dX9_take_4 rfl rfl (?_ : hp_G _ _ _ _ _ _ _ _ _ 5 _ _ _)
  refine hp_bipush (v := 6) dX9_take_5 bi_6 (?_ : hp_G _ _ _ _ _ _ _ _ _ 7 _ _ _)
  replace hf := ob_ hf
  obtain ⟨x2, ex2, hf⟩ := hf
  refine hp_idiv dX9_take_7 ex2 (?_ : hp_G _ _ _ _ _ _ _ _ _ 8 _ _ _)
  refine hp_bipush (v := 9) dX9_take_8 bi_9 (?_ : hp_G _ _ _ _ _ _ _ _ _ 10 _ _ _)
  replace hf := ob_ hf
  obtain ⟨h3, eh3, hf⟩ := hf
  refine hp_iastore dX9_take_10 eh3 (?_ : hp_G _ _ _ _ _ _ _ _ _ 11 _ _ _)
  refine hp_aload_n 0 dX9_take_11 rfl rfl (?_ : hp_G _ _ _ _ _ _ _ _ _ 12 _ _ _)
  replace hf := ob_ hf
  obtain ⟨x4, ex4, hf⟩ := hf
  refine fgX9_37 rfl dX9_take_12 ex4 (?_ : hp_G _ _ _ _ _ _ _ _ _ 15 _ _ _)
  refine hp_iload_n 1 dX9_take_15 rfl rfl (?_ : hp_G _ _ _ _ _ _ _ _ _ 16 _ _ _)
  refine hp_bipush (v := 6) dX9_take_16 bi_6 (?_ : hp_G _ _ _ _ _ _ _ _ _ 18 _ _ _)
  replace hf := ob_ hf
  obtain ⟨x5, ex5, hf⟩ := hf
  refine hp_irem dX9_take_18 ex5 (?_ : hp_G _ _ _ _ _ _ _ _ _ 19 _ _ _)
  refine hp_bipush (v := 9) dX9_take_19 bi_9 (?_ : hp_G _ _ _ _ _ _ _ _ _ 21 _ _ _)
  replace hf := ob_ hf
  obtain ⟨h6, eh6, hf⟩ := hf
  refine hp_iastore dX9_take_21 eh6 (?_ : hp_G _ _ _ _ _ _ _ _ _ 22 _ _ _)
  obtain rfl := Option.some.inj hf
  exact hp_vret kr (fun z => z) rfl dX9_take_22
theorem kX9_take (l : Launch) {h : hp_H} {a0 : Nat} {p1 : Int32} {r : hp_H} (hf : fX9_take h a0 p1 = some r) : hp_Cn l yX9_take mX9_take 0 false 0 0 [.ref a0, .int p1] h (fun v h2 => none = v ∧ r = h2) :=
  hp_of (by decide) rfl (fun z => by cases z) (Nat.le_of_ble_eq_true rfl) (tX9_take l hf ⟨rfl, rfl⟩)
noncomputable def jX9_findSecond_90_4 (g : hp_H) (v0 : Nat) (v1 : Int32) (u2 : Int32)  : Option ((Int32 × hp_H) ⊕ hp_H) :=
(some (u2 + 1)).bind fun x6 =>
some (.inl (x6, g))
set_option maxRecDepth 20000 in
set_option maxHeartbeats 4000000 in
theorem tjX9_findSecond_90_4 (l : Launch) {g : hp_H} {v0 : Nat} {v1 : Int32} {u2 : Int32}  {r : ((Int32 × hp_H) ⊕ hp_H)} (hf : jX9_findSecond_90_4 g v0 v1 u2 = some r) {Q : Option Value → hp_H → Prop} (kb : ∀ t, r = .inl t → hp_G l mX9_findSecond none 3 false Q false 0 0 4 [(0, .ref v0), (1, .int v1), (2, .int t.1)] [] t.2) (ke : ∀ x, r = .inr x → hp_G l mX9_findSecond none 3 false Q false 0 0 96 [] [] x) : hp_G l mX9_findSecond none 3 false Q false 0 0 90 [(0, .ref v0), (1, .int v1), (2, .int u2)] [] g := by
  unfold jX9_findSecond_90_4 at hf
  replace hf := ob_ hf
  obtain ⟨x6, ex6, hf⟩ := hf
  refine hp_iinc (v := x6) (lv' := [(2, .int x6), (0, .ref v0), (1, .int v1)]) 2 dX9_findSecond_90 rfl (hp_inc ic_1 ex6) (Nat.le_of_ble_eq_true rfl) rfl (?_ : hp_G _ _ _ _ _ _ _ _ _ 93 _ _ _)
  refine hp_goto (tgt := 4) dX9_findSecond_93 rfl (?_ : hp_G _ _ _ _ _ _ _ _ _ 4 _ _ _)
  obtain rfl := Option.some.inj hf
  exact hp_sub [1, 2, 0] rfl (kb _ rfl)
noncomputable def jX9_findSecond_79_38 (g : hp_H) (v0 : Nat) (v1 : Int32) (v2 : Int32) (u3 : Int32)  : Option ((Int32 × hp_H) ⊕ hp_H) :=
(some (u3 + 1)).bind fun x18 =>
some (.inl (x18, g))
set_option maxRecDepth 20000 in
set_option maxHeartbeats 4000000 in
theorem tjX9_findSecond_79_38 (l : Launch) {g : hp_H} {v0 : Nat} {v1 : Int32} {v2 : Int32} {u3 : Int32}  {r : ((Int32 × hp_H) ⊕ hp_H)} (hf : jX9_findSecond_79_38 g v0 v1 v2 u3 = some r) {Q : Option Value → hp_H → Prop} (kb : ∀ t, r = .inl t → hp_G l mX9_findSecond none 3 false Q false 0 0 38 [(0, .ref v0), (1, .int v1), (2, .int v2), (3, .int t.1)] [] t.2) (ke : ∀ x, r = .inr x → hp_G l mX9_findSecond none 3 false Q false 0 0 85 [(0, .ref v0), (1, .int v1), (2, .int v2)] [] x) : hp_G l mX9_findSecond none 3 false Q false 0 0 79 [(0, .ref v0), (1, .int v1), (2, .int v2), (3, .int u3)] [] g := by
  unfold jX9_findSecond_79_38 at hf
  replace hf := ob_ hf
  obtain ⟨x18, ex18, hf⟩ := hf
  refine hp_iinc (v := x18) (lv' := [(3, .int x18), (0, .ref v0), (1, .int v1), (2, .int v2)]) 3 dX9_findSecond_79 rfl (hp_inc ic_1 ex18) (Nat.le_of_ble_eq_true rfl) rfl (?_ : hp_G _ _ _ _ _ _ _ _ _ 82 _ _ _)
  refine hp_goto (tgt := 38) dX9_findSecond_82 rfl (?_ : hp_G _ _ _ _ _ _ _ _ _ 38 _ _ _)
  obtain rfl := Option.some.inj hf
  exact hp_sub [1, 2, 3, 0] rfl (kb _ rfl)
noncomputable def bX9_findSecond_38 (v0 : Nat) (v1 : Int32) (v2 : Int32) (s : (Int32 × hp_H)) : Option ((Int32 × hp_H) ⊕ hp_H) :=
if (36 : Int32) ≤ s.1 then
(some (.inr s.2))
else
((hg_o s.2 v0 8).bind fun o15 =>
(fX9_isPut s.2 v0 s.1).bind fun r16 =>
if r16.1 = 0 then
(jX9_findSecond_79_38 r16.2 v0 v1 v2 s.1)
else
((hg_o r16.2 v0 8).bind fun o19 =>
(fX9_leaves r16.2 v0 v1).bind fun r20 =>
(hg_o r16.2 v0 8).bind fun o21 =>
(fX9_leaves r16.2 v0 v2).bind fun r22 =>
(hg_o r16.2 v0 8).bind fun o23 =>
(fX9_leaves r16.2 v0 s.1).bind fun r24 =>
(hg_o r16.2 v0 8).bind fun o25 =>
(fX9_tryPartners r16.2 v0 3 ((r20 + r22) + r24)).bind fun r26 =>
(hg_o r26 v0 8).bind fun o27 =>
(fX9_take r26 v0 s.1).bind fun r28 =>
jX9_findSecond_79_38 r28 v0 v1 v2 s.1))
set_option maxRecDepth 20000 in
set_option maxHeartbeats 4000000 in
theorem tbX9_findSecond_38 (l : Launch) {v0 : Nat} {v1 : Int32} {v2 : Int32}  {s : (Int32 × hp_H)} {r : ((Int32 × hp_H) ⊕ hp_H)} (hf : bX9_findSecond_38  v0 v1 v2 s = some r) {Q : Option Value → hp_H → Prop} (kb : ∀ t, r = .inl t → hp_G l mX9_findSecond none 3 false Q false 0 0 38 [(0, .ref v0), (1, .int v1), (2, .int v2), (3, .int t.1)] [] t.2) (ke : ∀ x, r = .inr x → hp_G l mX9_findSecond none 3 false Q false 0 0 85 [(0, .ref v0), (1, .int v1), (2, .int v2)] [] x) : hp_G l mX9_findSecond none 3 false Q false 0 0 38 [(0, .ref v0), (1, .int v1), (2, .int v2), (3, .int s.1)] [] s.2 := by
  unfold bX9_findSecond_38 at hf
  refine hp_iload_n 3 dX9_findSecond_38 rfl rfl (?_ : hp_G _ _ _ _ _ _ _ _ _ 39 _ _ _)
  refine hp_bipush (v := 36) dX9_findSecond_39 bi_36 (?_ : hp_G _ _ _ _ _ _ _ _ _ 41 _ _ _)
  refine hp_icmp_ge (tgt := 85) dX9_findSecond_41 rfl (fun c14 => ?_) (fun c14 => (?_ : hp_G _ _ _ _ _ _ _ _ _ 44 _ _ _))
  · replace hf := ot_ c14 hf
    obtain rfl := Option.some.inj hf
    exact hp_sub [0, 1, 2] rfl (ke _ rfl)
  · replace hf := of_ c14 hf
    refine hp_aload_n 0 dX9_findSecond_44 rfl rfl (?_ : hp_G _ _ _ _ _ _ _ _ _ 45 _ _ _)
    refine hp_iload_n 3 dX9_findSecond_45 rfl rfl (?_ : hp_G _ _ _ _ _ _ _ _ _ 46 _ _ _)
    replace hf := ob_ hf
    obtain ⟨o15, eo15, hf⟩ := hf
    replace hf := ob_ hf
    obtain ⟨r16, er16, hf⟩ := hf
    refine clX9_170 (as := [.int s.1]) (st := []) rfl (kX9_isPut l er16) rfl (by decide) (Nat.le_of_ble_eq_true rfl) eo15 dX9_findSecond_46 rfl (?_ : hp_G _ _ _ _ _ _ _ _ _ 49 _ _ _)
    refine hp_if_eq (tgt := 79) dX9_findSecond_49 rfl (fun c17 => ?_) (fun c17 => (?_ : hp_G _ _ _ _ _ _ _ _ _ 52 _ _ _))
    · replace hf := ot_ c17 hf
      exact hp_sub [0, 1, 2, 3] rfl (tjX9_findSecond_79_38 l hf kb ke)
    · replace hf := of_ c17 hf
      refine hp_aload_n 0 dX9_findSecond_52 rfl rfl (?_ : hp_G _ _ _ _ _ _ _ _ _ 53 _ _ _)
      refine hp_iconst (v := 3) dX9_findSecond_53 ic_3 (?_ : hp_G _ _ _ _ _ _ _ _ _ 54 _ _ _)
      refine hp_aload_n 0 dX9_findSecond_54 rfl rfl (?_ : hp_G _ _ _ _ _ _ _ _ _ 55 _ _ _)
      refine hp_iload_n 1 dX9_findSecond_55 rfl rfl (?_ : hp_G _ _ _ _ _ _ _ _ _ 56 _ _ _)
      replace hf := ob_ hf
      obtain ⟨o19, eo19, hf⟩ := hf
      replace hf := ob_ hf
      obtain ⟨r20, er20, hf⟩ := hf
      refine clX9_173 (as := [.int v1]) (st := [.int 3, .ref v0]) rfl (kX9_leaves l er20) rfl (by decide) (Nat.le_of_ble_eq_true rfl) eo19 dX9_findSecond_56 rfl (?_ : hp_G _ _ _ _ _ _ _ _ _ 59 _ _ _)
      refine hp_aload_n 0 dX9_findSecond_59 rfl rfl (?_ : hp_G _ _ _ _ _ _ _ _ _ 60 _ _ _)
      refine hp_iload_n 2 dX9_findSecond_60 rfl rfl (?_ : hp_G _ _ _ _ _ _ _ _ _ 61 _ _ _)
      replace hf := ob_ hf
      obtain ⟨o21, eo21, hf⟩ := hf
      replace hf := ob_ hf
      obtain ⟨r22, er22, hf⟩ := hf
      refine clX9_173 (as := [.int v2]) (st := [.int r20, .int 3, .ref v0]) rfl (kX9_leaves l er22) rfl (by decide) (Nat.le_of_ble_eq_true rfl) eo21 dX9_findSecond_61 rfl (?_ : hp_G _ _ _ _ _ _ _ _ _ 64 _ _ _)
      refine hp_iadd dX9_findSecond_64 (?_ : hp_G _ _ _ _ _ _ _ _ _ 65 _ _ _)
      refine hp_aload_n 0 dX9_findSecond_65 rfl rfl (?_ : hp_G _ _ _ _ _ _ _ _ _ 66 _ _ _)
      refine hp_iload_n 3 dX9_findSecond_66 rfl rfl (?_ : hp_G _ _ _ _ _ _ _ _ _ 67 _ _ _)
      replace hf := ob_ hf
      obtain ⟨o23, eo23, hf⟩ := hf
      replace hf := ob_ hf
      obtain ⟨r24, er24, hf⟩ := hf
      refine clX9_173 (as := [.int s.1]) (st := [.int (r20 + r22), .int 3, .ref v0]) rfl (kX9_leaves l er24) rfl (by decide) (Nat.le_of_ble_eq_true rfl) eo23 dX9_findSecond_67 rfl (?_ : hp_G _ _ _ _ _ _ _ _ _ 70 _ _ _)
      refine hp_iadd dX9_findSecond_70 (?_ : hp_G _ _ _ _ _ _ _ _ _ 71 _ _ _)
      replace hf := ob_ hf
      obtain ⟨o25, eo25, hf⟩ := hf
      replace hf := ob_ hf
      obtain ⟨r26, er26, hf⟩ := hf
      refine clX9_166 (as := [.int 3, .int ((r20 + r22) + r24)]) (st := []) rfl (kX9_tryPartners l er26) rfl (by decide) (Nat.le_of_ble_eq_true rfl) eo25 dX9_findSecond_71 rfl (?_ : hp_G _ _ _ _ _ _ _ _ _ 74 _ _ _)
      refine hp_aload_n 0 dX9_findSecond_74 rfl rfl (?_ : hp_G _ _ _ _ _ _ _ _ _ 75 _ _ _)
      refine hp_iload_n 3 dX9_findSecond_75 rfl rfl (?_ : hp_G _ _ _ _ _ _ _ _ _ 76 _ _ _)
      replace hf := ob_ hf
      obtain ⟨o27, eo27, hf⟩ := hf
      replace hf := ob_ hf
      obtain ⟨r28, er28, hf⟩ := hf
      refine clX9_180 (as := [.int s.1]) (st := []) rfl (kX9_take l er28) rfl (by decide) (Nat.le_of_ble_eq_true rfl) eo27 dX9_findSecond_76 rfl (?_ : hp_G _ _ _ _ _ _ _ _ _ 79 _ _ _)
      exact hp_sub [0, 1, 2, 3] rfl (tjX9_findSecond_79_38 l hf kb ke)
set_option maxRecDepth 20000 in
set_option maxHeartbeats 4000000 in
theorem tlX9_findSecond_38 (l : Launch) {v0 : Nat} {v1 : Int32} {v2 : Int32}  (q : Nat) {s : (Int32 × hp_H)} {x : hp_H} (hf : it_ (bX9_findSecond_38  v0 v1 v2) q s = some x) {Q : Option Value → hp_H → Prop} (ke : ∀ e, x = e → hp_G l mX9_findSecond none 3 false Q false 0 0 85 [(0, .ref v0), (1, .int v1), (2, .int v2)] [] e) : hp_G l mX9_findSecond none 3 false Q false 0 0 38 [(0, .ref v0), (1, .int v1), (2, .int v2), (3, .int s.1)] [] s.2 := by
  exact it_rule (f := bX9_findSecond_38  v0 v1 v2) (fun s => hp_G l mX9_findSecond none 3 false Q false 0 0 38 [(0, .ref v0), (1, .int v1), (2, .int v2), (3, .int s.1)] [] s.2) (fun x => (∀ e, x = e → hp_G l mX9_findSecond none 3 false Q false 0 0 85 [(0, .ref v0), (1, .int v1), (2, .int v2)] [] e)) (fun s r h1 h2 h3 => tbX9_findSecond_38 l h1 (fun t e => h2 t e) (fun e he => h3 _ he _ rfl)) q s x hf ke
noncomputable def bX9_findSecond_4 (v0 : Nat) (v1 : Int32) (s : (Int32 × hp_H)) : Option ((Int32 × hp_H) ⊕ hp_H) :=
if (36 : Int32) ≤ s.1 then
(some (.inr s.2))
else
((hg_o s.2 v0 8).bind fun o3 =>
(fX9_isPut s.2 v0 s.1).bind fun r4 =>
if r4.1 = 0 then
(jX9_findSecond_90_4 r4.2 v0 v1 s.1)
else
((hg_o r4.2 v0 8).bind fun o7 =>
(fX9_leaves r4.2 v0 v1).bind fun r8 =>
(hg_o r4.2 v0 8).bind fun o9 =>
(fX9_leaves r4.2 v0 s.1).bind fun r10 =>
(hg_o r4.2 v0 8).bind fun o11 =>
(fX9_tryPartners r4.2 v0 2 (r8 + r10)).bind fun r12 =>
(some (s.1 + 1)).bind fun x13 =>
(it_ (bX9_findSecond_38  v0 v1 s.1) fu_ (x13, r12)).bind fun x29 =>
(hg_o x29 v0 8).bind fun o30 =>
(fX9_take x29 v0 s.1).bind fun r31 =>
jX9_findSecond_90_4 r31 v0 v1 s.1))
set_option maxRecDepth 20000 in
set_option maxHeartbeats 4000000 in
theorem tbX9_findSecond_4 (l : Launch) {v0 : Nat} {v1 : Int32}  {s : (Int32 × hp_H)} {r : ((Int32 × hp_H) ⊕ hp_H)} (hf : bX9_findSecond_4  v0 v1 s = some r) {Q : Option Value → hp_H → Prop} (kb : ∀ t, r = .inl t → hp_G l mX9_findSecond none 3 false Q false 0 0 4 [(0, .ref v0), (1, .int v1), (2, .int t.1)] [] t.2) (ke : ∀ x, r = .inr x → hp_G l mX9_findSecond none 3 false Q false 0 0 96 [] [] x) : hp_G l mX9_findSecond none 3 false Q false 0 0 4 [(0, .ref v0), (1, .int v1), (2, .int s.1)] [] s.2 := by
  unfold bX9_findSecond_4 at hf
  refine hp_iload_n 2 dX9_findSecond_4 rfl rfl (?_ : hp_G _ _ _ _ _ _ _ _ _ 5 _ _ _)
  refine hp_bipush (v := 36) dX9_findSecond_5 bi_36 (?_ : hp_G _ _ _ _ _ _ _ _ _ 7 _ _ _)
  refine hp_icmp_ge (tgt := 96) dX9_findSecond_7 rfl (fun c2 => ?_) (fun c2 => (?_ : hp_G _ _ _ _ _ _ _ _ _ 10 _ _ _))
  · replace hf := ot_ c2 hf
    obtain rfl := Option.some.inj hf
    exact hp_sub [] rfl (ke _ rfl)
  · replace hf := of_ c2 hf
    refine hp_aload_n 0 dX9_findSecond_10 rfl rfl (?_ : hp_G _ _ _ _ _ _ _ _ _ 11 _ _ _)
    refine hp_iload_n 2 dX9_findSecond_11 rfl rfl (?_ : hp_G _ _ _ _ _ _ _ _ _ 12 _ _ _)
    replace hf := ob_ hf
    obtain ⟨o3, eo3, hf⟩ := hf
    replace hf := ob_ hf
    obtain ⟨r4, er4, hf⟩ := hf
    refine clX9_170 (as := [.int s.1]) (st := []) rfl (kX9_isPut l er4) rfl (by decide) (Nat.le_of_ble_eq_true rfl) eo3 dX9_findSecond_12 rfl (?_ : hp_G _ _ _ _ _ _ _ _ _ 15 _ _ _)
    refine hp_if_eq (tgt := 90) dX9_findSecond_15 rfl (fun c5 => ?_) (fun c5 => (?_ : hp_G _ _ _ _ _ _ _ _ _ 18 _ _ _))
    · replace hf := ot_ c5 hf
      exact hp_sub [0, 1, 2] rfl (tjX9_findSecond_90_4 l hf kb ke)
    · replace hf := of_ c5 hf
      refine hp_aload_n 0 dX9_findSecond_18 rfl rfl (?_ : hp_G _ _ _ _ _ _ _ _ _ 19 _ _ _)
      refine hp_iconst (v := 2) dX9_findSecond_19 ic_2 (?_ : hp_G _ _ _ _ _ _ _ _ _ 20 _ _ _)
      refine hp_aload_n 0 dX9_findSecond_20 rfl rfl (?_ : hp_G _ _ _ _ _ _ _ _ _ 21 _ _ _)
      refine hp_iload_n 1 dX9_findSecond_21 rfl rfl (?_ : hp_G _ _ _ _ _ _ _ _ _ 22 _ _ _)
      replace hf := ob_ hf
      obtain ⟨o7, eo7, hf⟩ := hf
      replace hf := ob_ hf
      obtain ⟨r8, er8, hf⟩ := hf
      refine clX9_173 (as := [.int v1]) (st := [.int 2, .ref v0]) rfl (kX9_leaves l er8) rfl (by decide) (Nat.le_of_ble_eq_true rfl) eo7 dX9_findSecond_22 rfl (?_ : hp_G _ _ _ _ _ _ _ _ _ 25 _ _ _)
      refine hp_aload_n 0 dX9_findSecond_25 rfl rfl (?_ : hp_G _ _ _ _ _ _ _ _ _ 26 _ _ _)
      refine hp_iload_n 2 dX9_findSecond_26 rfl rfl (?_ : hp_G _ _ _ _ _ _ _ _ _ 27 _ _ _)
      replace hf := ob_ hf
      obtain ⟨o9, eo9, hf⟩ := hf
      replace hf := ob_ hf
      obtain ⟨r10, er10, hf⟩ := hf
      refine clX9_173 (as := [.int s.1]) (st := [.int r8, .int 2, .ref v0]) rfl (kX9_leaves l er10) rfl (by decide) (Nat.le_of_ble_eq_true rfl) eo9 dX9_findSecond_27 rfl (?_ : hp_G _ _ _ _ _ _ _ _ _ 30 _ _ _)
      refine hp_iadd dX9_findSecond_30 (?_ : hp_G _ _ _ _ _ _ _ _ _ 31 _ _ _)
      replace hf := ob_ hf
      obtain ⟨o11, eo11, hf⟩ := hf
      replace hf := ob_ hf
      obtain ⟨r12, er12, hf⟩ := hf
      refine clX9_166 (as := [.int 2, .int (r8 + r10)]) (st := []) rfl (kX9_tryPartners l er12) rfl (by decide) (Nat.le_of_ble_eq_true rfl) eo11 dX9_findSecond_31 rfl (?_ : hp_G _ _ _ _ _ _ _ _ _ 34 _ _ _)
      refine hp_iload_n 2 dX9_findSecond_34 rfl rfl (?_ : hp_G _ _ _ _ _ _ _ _ _ 35 _ _ _)
      refine hp_iconst (v := 1) dX9_findSecond_35 ic_1 (?_ : hp_G _ _ _ _ _ _ _ _ _ 36 _ _ _)
      refine hp_iadd dX9_findSecond_36 (?_ : hp_G _ _ _ _ _ _ _ _ _ 37 _ _ _)
      replace hf := ob_ hf
      obtain ⟨x13, ex13, hf⟩ := hf
      refine hp_nmi ex13 ?_
      refine hp_istore_n (lv' := [(3, .int x13), (0, .ref v0), (1, .int v1), (2, .int s.1)]) dX9_findSecond_37 rfl (Nat.le_of_ble_eq_true rfl) rfl (?_ : hp_G _ _ _ _ _ _ _ _ _ 38 _ _ _)
      replace hf := ob_ hf
      obtain ⟨x29, ex29, hf⟩ := hf
      refine hp_sub [1, 2, 3, 0] rfl ?_
      refine tlX9_findSecond_38 l fu_ ex29 (fun y hy => ?_)
      obtain rfl := hy
      refine hp_aload_n 0 dX9_findSecond_85 rfl rfl (?_ : hp_G _ _ _ _ _ _ _ _ _ 86 _ _ _)
      refine hp_iload_n 2 dX9_findSecond_86 rfl rfl (?_ : hp_G _ _ _ _ _ _ _ _ _ 87 _ _ _)
      replace hf := ob_ hf
      obtain ⟨o30, eo30, hf⟩ := hf
      replace hf := ob_ hf
      obtain ⟨r31, er31, hf⟩ := hf
      refine clX9_180 (as := [.int s.1]) (st := []) rfl (kX9_take l er31) rfl (by decide) (Nat.le_of_ble_eq_true rfl) eo30 dX9_findSecond_87 rfl (?_ : hp_G _ _ _ _ _ _ _ _ _ 90 _ _ _)
      exact hp_sub [0, 1, 2] rfl (tjX9_findSecond_90_4 l hf kb ke)
set_option maxRecDepth 20000 in
set_option maxHeartbeats 4000000 in
theorem tlX9_findSecond_4 (l : Launch) {v0 : Nat} {v1 : Int32}  (q : Nat) {s : (Int32 × hp_H)} {x : hp_H} (hf : it_ (bX9_findSecond_4  v0 v1) q s = some x) {Q : Option Value → hp_H → Prop} (ke : ∀ e, x = e → hp_G l mX9_findSecond none 3 false Q false 0 0 96 [] [] e) : hp_G l mX9_findSecond none 3 false Q false 0 0 4 [(0, .ref v0), (1, .int v1), (2, .int s.1)] [] s.2 := by
  exact it_rule (f := bX9_findSecond_4  v0 v1) (fun s => hp_G l mX9_findSecond none 3 false Q false 0 0 4 [(0, .ref v0), (1, .int v1), (2, .int s.1)] [] s.2) (fun x => (∀ e, x = e → hp_G l mX9_findSecond none 3 false Q false 0 0 96 [] [] e)) (fun s r h1 h2 h3 => tbX9_findSecond_4 l h1 (fun t e => h2 t e) (fun e he => h3 _ he _ rfl)) q s x hf ke
noncomputable def fX9_findSecond (h : hp_H) (a0 : Nat) (p1 : Int32) : Option hp_H :=
(some (p1 + 1)).bind fun x1 =>
(it_ (bX9_findSecond_4  a0 p1) fu_ (x1, h)).bind fun x32 =>
some x32
set_option maxRecDepth 20000 in
set_option maxHeartbeats 4000000 in
theorem tX9_findSecond (l : Launch) {h : hp_H} {a0 : Nat} {p1 : Int32} {r : hp_H} (hf : fX9_findSecond h a0 p1 = some r) {Q : Option Value → hp_H → Prop} (kr : Q (none) r) : hp_G l mX9_findSecond none 3 false Q false 0 0 0 [(0, .ref a0), (1, .int p1)] [] h := by
  unfold fX9_findSecond at hf
  refine hp_iload_n 1 dX9_findSecond_0 rfl rfl (?_ : hp_G _ _ _ _ _ _ _ _ _ 1 _ _ _)
  refine hp_iconst (v := 1) dX9_findSecond_1 ic_1 (?_ : hp_G _ _ _ _ _ _ _ _ _ 2 _ _ _)
  refine hp_iadd dX9_findSecond_2 (?_ : hp_G _ _ _ _ _ _ _ _ _ 3 _ _ _)
  replace hf := ob_ hf
  obtain ⟨x1, ex1, hf⟩ := hf
  refine hp_nmi ex1 ?_
  refine hp_istore_n (lv' := [(2, .int x1), (0, .ref a0), (1, .int p1)]) dX9_findSecond_3 rfl (Nat.le_of_ble_eq_true rfl) rfl (?_ : hp_G _ _ _ _ _ _ _ _ _ 4 _ _ _)
  replace hf := ob_ hf
  obtain ⟨x32, ex32, hf⟩ := hf
  refine hp_sub [1, 2, 0] rfl ?_
  refine tlX9_findSecond_4 l fu_ ex32 (fun y hy => ?_)
  obtain rfl := hy
  obtain rfl := Option.some.inj hf
  exact hp_vret kr (fun z => z) rfl dX9_findSecond_96
theorem kX9_findSecond (l : Launch) {h : hp_H} {a0 : Nat} {p1 : Int32} {r : hp_H} (hf : fX9_findSecond h a0 p1 = some r) : hp_Cn l yX9_findSecond mX9_findSecond 3 false 0 0 [.ref a0, .int p1] h (fun v h2 => none = v ∧ r = h2) :=
  hp_of (by decide) rfl (fun z => by cases z) (Nat.le_of_ble_eq_true rfl) (tX9_findSecond l hf ⟨rfl, rfl⟩)
noncomputable def bX9_findPairs_2 (v0 : Nat) (s : (Int32 × hp_H)) : Option ((Int32 × hp_H) ⊕ hp_H) :=
if (6 : Int32) ≤ s.1 then
(some (.inr s.2))
else
((gq_ s.2 v0 8 18).bind fun x2 =>
(ax_ s.2 x2 s.1 9).bind fun h3 =>
(some (s.1 + 1)).bind fun x4 =>
some (.inl (x4, h3)))
set_option maxRecDepth 20000 in
set_option maxHeartbeats 4000000 in
theorem tbX9_findPairs_2 (l : Launch) {v0 : Nat}  {s : (Int32 × hp_H)} {r : ((Int32 × hp_H) ⊕ hp_H)} (hf : bX9_findPairs_2  v0 s = some r) {Q : Option Value → hp_H → Prop} (kb : ∀ t, r = .inl t → hp_G l mX9_findPairs none 4 false Q false 0 0 2 [(0, .ref v0), (1, .int t.1)] [] t.2) (ke : ∀ x, r = .inr x → hp_G l mX9_findPairs none 4 false Q false 0 0 22 [(0, .ref v0)] [] x) : hp_G l mX9_findPairs none 4 false Q false 0 0 2 [(0, .ref v0), (1, .int s.1)] [] s.2 := by
  unfold bX9_findPairs_2 at hf
  refine hp_iload_n 1 dX9_findPairs_2 rfl rfl (?_ : hp_G _ _ _ _ _ _ _ _ _ 3 _ _ _)
  refine hp_bipush (v := 6) dX9_findPairs_3 bi_6 (?_ : hp_G _ _ _ _ _ _ _ _ _ 5 _ _ _)
  refine hp_icmp_ge (tgt := 22) dX9_findPairs_5 rfl (fun c1 => ?_) (fun c1 => (?_ : hp_G _ _ _ _ _ _ _ _ _ 8 _ _ _))
  · replace hf := ot_ c1 hf
    obtain rfl := Option.some.inj hf
    exact hp_sub [0] rfl (ke _ rfl)
  · replace hf := of_ c1 hf
    refine hp_aload_n 0 dX9_findPairs_8 rfl rfl (?_ : hp_G _ _ _ _ _ _ _ _ _ 9 _ _ _)
    replace hf := ob_ hf
    obtain ⟨x2, ex2, hf⟩ := hf
    refine fgX9_37 rfl dX9_findPairs_9 ex2 (?_ : hp_G _ _ _ _ _ _ _ _ _ 12 _ _ _)
    refine hp_iload_n 1 dX9_findPairs_12 rfl rfl (?_ : hp_G _ _ _ _ _ _ _ _ _ 13 _ _ _)
    refine hp_bipush (v := 9) dX9_findPairs_13 bi_9 (?_ : hp_G _ _ _ _ _ _ _ _ _ 15 _ _ _)
    replace hf := ob_ hf
    obtain ⟨h3, eh3, hf⟩ := hf
    refine hp_iastore dX9_findPairs_15 eh3 (?_ : hp_G _ _ _ _ _ _ _ _ _ 16 _ _ _)
    replace hf := ob_ hf
    obtain ⟨x4, ex4, hf⟩ := hf
    refine hp_iinc (v := x4) (lv' := [(1, .int x4), (0, .ref v0)]) 1 dX9_findPairs_16 rfl (hp_inc ic_1 ex4) (Nat.le_of_ble_eq_true rfl) rfl (?_ : hp_G _ _ _ _ _ _ _ _ _ 19 _ _ _)
    refine hp_goto (tgt := 2) dX9_findPairs_19 rfl (?_ : hp_G _ _ _ _ _ _ _ _ _ 2 _ _ _)
    obtain rfl := Option.some.inj hf
    exact hp_sub [1, 0] rfl (kb _ rfl)
set_option maxRecDepth 20000 in
set_option maxHeartbeats 4000000 in
theorem tlX9_findPairs_2 (l : Launch) {v0 : Nat}  (q : Nat) {s : (Int32 × hp_H)} {x : hp_H} (hf : it_ (bX9_findPairs_2  v0) q s = some x) {Q : Option Value → hp_H → Prop} (ke : ∀ e, x = e → hp_G l mX9_findPairs none 4 false Q false 0 0 22 [(0, .ref v0)] [] e) : hp_G l mX9_findPairs none 4 false Q false 0 0 2 [(0, .ref v0), (1, .int s.1)] [] s.2 := by
  exact it_rule (f := bX9_findPairs_2  v0) (fun s => hp_G l mX9_findPairs none 4 false Q false 0 0 2 [(0, .ref v0), (1, .int s.1)] [] s.2) (fun x => (∀ e, x = e → hp_G l mX9_findPairs none 4 false Q false 0 0 22 [(0, .ref v0)] [] e)) (fun s r h1 h2 h3 => tbX9_findPairs_2 l h1 (fun t e => h2 t e) (fun e he => h3 _ he _ rfl)) q s x hf ke
noncomputable def jX9_findPairs_75_41 (g : hp_H) (v0 : Nat) (u1 : Int32)  : Option ((Int32 × hp_H) ⊕ hp_H) :=
(some (u1 + 1)).bind fun x14 =>
some (.inl (x14, g))
set_option maxRecDepth 20000 in
set_option maxHeartbeats 4000000 in
theorem tjX9_findPairs_75_41 (l : Launch) {g : hp_H} {v0 : Nat} {u1 : Int32}  {r : ((Int32 × hp_H) ⊕ hp_H)} (hf : jX9_findPairs_75_41 g v0 u1 = some r) {Q : Option Value → hp_H → Prop} (kb : ∀ t, r = .inl t → hp_G l mX9_findPairs none 4 false Q false 0 0 41 [(0, .ref v0), (1, .int t.1)] [] t.2) (ke : ∀ x, r = .inr x → hp_G l mX9_findPairs none 4 false Q false 0 0 81 [] [] x) : hp_G l mX9_findPairs none 4 false Q false 0 0 75 [(0, .ref v0), (1, .int u1)] [] g := by
  unfold jX9_findPairs_75_41 at hf
  replace hf := ob_ hf
  obtain ⟨x14, ex14, hf⟩ := hf
  refine hp_iinc (v := x14) (lv' := [(1, .int x14), (0, .ref v0)]) 1 dX9_findPairs_75 rfl (hp_inc ic_1 ex14) (Nat.le_of_ble_eq_true rfl) rfl (?_ : hp_G _ _ _ _ _ _ _ _ _ 78 _ _ _)
  refine hp_goto (tgt := 41) dX9_findPairs_78 rfl (?_ : hp_G _ _ _ _ _ _ _ _ _ 41 _ _ _)
  obtain rfl := Option.some.inj hf
  exact hp_sub [1, 0] rfl (kb _ rfl)
noncomputable def bX9_findPairs_41 (v0 : Nat) (s : (Int32 × hp_H)) : Option ((Int32 × hp_H) ⊕ hp_H) :=
if (36 : Int32) ≤ s.1 then
(some (.inr s.2))
else
((hg_o s.2 v0 8).bind fun o11 =>
(fX9_isPut s.2 v0 s.1).bind fun r12 =>
if r12.1 = 0 then
(jX9_findPairs_75_41 r12.2 v0 s.1)
else
((hg_o r12.2 v0 8).bind fun o15 =>
(fX9_leaves r12.2 v0 s.1).bind fun r16 =>
(hg_o r12.2 v0 8).bind fun o17 =>
(fX9_tryPartners r12.2 v0 1 r16).bind fun r18 =>
(hg_o r18 v0 8).bind fun o19 =>
(fX9_findSecond r18 v0 s.1).bind fun r20 =>
(hg_o r20 v0 8).bind fun o21 =>
(fX9_take r20 v0 s.1).bind fun r22 =>
jX9_findPairs_75_41 r22 v0 s.1))
set_option maxRecDepth 20000 in
set_option maxHeartbeats 4000000 in
theorem tbX9_findPairs_41 (l : Launch) {v0 : Nat}  {s : (Int32 × hp_H)} {r : ((Int32 × hp_H) ⊕ hp_H)} (hf : bX9_findPairs_41  v0 s = some r) {Q : Option Value → hp_H → Prop} (kb : ∀ t, r = .inl t → hp_G l mX9_findPairs none 4 false Q false 0 0 41 [(0, .ref v0), (1, .int t.1)] [] t.2) (ke : ∀ x, r = .inr x → hp_G l mX9_findPairs none 4 false Q false 0 0 81 [] [] x) : hp_G l mX9_findPairs none 4 false Q false 0 0 41 [(0, .ref v0), (1, .int s.1)] [] s.2 := by
  unfold bX9_findPairs_41 at hf
  refine hp_iload_n 1 dX9_findPairs_41 rfl rfl (?_ : hp_G _ _ _ _ _ _ _ _ _ 42 _ _ _)
  refine hp_bipush (v := 36) dX9_findPairs_42 bi_36 (?_ : hp_G _ _ _ _ _ _ _ _ _ 44 _ _ _)
  refine hp_icmp_ge (tgt := 81) dX9_findPairs_44 rfl (fun c10 => ?_) (fun c10 => (?_ : hp_G _ _ _ _ _ _ _ _ _ 47 _ _ _))
  · replace hf := ot_ c10 hf
    obtain rfl := Option.some.inj hf
    exact hp_sub [] rfl (ke _ rfl)
  · replace hf := of_ c10 hf
    refine hp_aload_n 0 dX9_findPairs_47 rfl rfl (?_ : hp_G _ _ _ _ _ _ _ _ _ 48 _ _ _)
    refine hp_iload_n 1 dX9_findPairs_48 rfl rfl (?_ : hp_G _ _ _ _ _ _ _ _ _ 49 _ _ _)
    replace hf := ob_ hf
    obtain ⟨o11, eo11, hf⟩ := hf
    replace hf := ob_ hf
    obtain ⟨r12, er12, hf⟩ := hf
    refine clX9_170 (as := [.int s.1]) (st := []) rfl (kX9_isPut l er12) rfl (by decide) (Nat.le_of_ble_eq_true rfl) eo11 dX9_findPairs_49 rfl (?_ : hp_G _ _ _ _ _ _ _ _ _ 52 _ _ _)
    refine hp_if_eq (tgt := 75) dX9_findPairs_52 rfl (fun c13 => ?_) (fun c13 => (?_ : hp_G _ _ _ _ _ _ _ _ _ 55 _ _ _))
    · replace hf := ot_ c13 hf
      exact hp_sub [0, 1] rfl (tjX9_findPairs_75_41 l hf kb ke)
    · replace hf := of_ c13 hf
      refine hp_aload_n 0 dX9_findPairs_55 rfl rfl (?_ : hp_G _ _ _ _ _ _ _ _ _ 56 _ _ _)
      refine hp_iconst (v := 1) dX9_findPairs_56 ic_1 (?_ : hp_G _ _ _ _ _ _ _ _ _ 57 _ _ _)
      refine hp_aload_n 0 dX9_findPairs_57 rfl rfl (?_ : hp_G _ _ _ _ _ _ _ _ _ 58 _ _ _)
      refine hp_iload_n 1 dX9_findPairs_58 rfl rfl (?_ : hp_G _ _ _ _ _ _ _ _ _ 59 _ _ _)
      replace hf := ob_ hf
      obtain ⟨o15, eo15, hf⟩ := hf
      replace hf := ob_ hf
      obtain ⟨r16, er16, hf⟩ := hf
      refine clX9_173 (as := [.int s.1]) (st := [.int 1, .ref v0]) rfl (kX9_leaves l er16) rfl (by decide) (Nat.le_of_ble_eq_true rfl) eo15 dX9_findPairs_59 rfl (?_ : hp_G _ _ _ _ _ _ _ _ _ 62 _ _ _)
      replace hf := ob_ hf
      obtain ⟨o17, eo17, hf⟩ := hf
      replace hf := ob_ hf
      obtain ⟨r18, er18, hf⟩ := hf
      refine clX9_166 (as := [.int 1, .int r16]) (st := []) rfl (kX9_tryPartners l er18) rfl (by decide) (Nat.le_of_ble_eq_true rfl) eo17 dX9_findPairs_62 rfl (?_ : hp_G _ _ _ _ _ _ _ _ _ 65 _ _ _)
      refine hp_aload_n 0 dX9_findPairs_65 rfl rfl (?_ : hp_G _ _ _ _ _ _ _ _ _ 66 _ _ _)
      refine hp_iload_n 1 dX9_findPairs_66 rfl rfl (?_ : hp_G _ _ _ _ _ _ _ _ _ 67 _ _ _)
      replace hf := ob_ hf
      obtain ⟨o19, eo19, hf⟩ := hf
      replace hf := ob_ hf
      obtain ⟨r20, er20, hf⟩ := hf
      refine clX9_176 (as := [.int s.1]) (st := []) rfl (kX9_findSecond l er20) rfl (by decide) (Nat.le_of_ble_eq_true rfl) eo19 dX9_findPairs_67 rfl (?_ : hp_G _ _ _ _ _ _ _ _ _ 70 _ _ _)
      refine hp_aload_n 0 dX9_findPairs_70 rfl rfl (?_ : hp_G _ _ _ _ _ _ _ _ _ 71 _ _ _)
      refine hp_iload_n 1 dX9_findPairs_71 rfl rfl (?_ : hp_G _ _ _ _ _ _ _ _ _ 72 _ _ _)
      replace hf := ob_ hf
      obtain ⟨o21, eo21, hf⟩ := hf
      replace hf := ob_ hf
      obtain ⟨r22, er22, hf⟩ := hf
      refine clX9_180 (as := [.int s.1]) (st := []) rfl (kX9_take l er22) rfl (by decide) (Nat.le_of_ble_eq_true rfl) eo21 dX9_findPairs_72 rfl (?_ : hp_G _ _ _ _ _ _ _ _ _ 75 _ _ _)
      exact hp_sub [0, 1] rfl (tjX9_findPairs_75_41 l hf kb ke)
set_option maxRecDepth 20000 in
set_option maxHeartbeats 4000000 in
theorem tlX9_findPairs_41 (l : Launch) {v0 : Nat}  (q : Nat) {s : (Int32 × hp_H)} {x : hp_H} (hf : it_ (bX9_findPairs_41  v0) q s = some x) {Q : Option Value → hp_H → Prop} (ke : ∀ e, x = e → hp_G l mX9_findPairs none 4 false Q false 0 0 81 [] [] e) : hp_G l mX9_findPairs none 4 false Q false 0 0 41 [(0, .ref v0), (1, .int s.1)] [] s.2 := by
  exact it_rule (f := bX9_findPairs_41  v0) (fun s => hp_G l mX9_findPairs none 4 false Q false 0 0 41 [(0, .ref v0), (1, .int s.1)] [] s.2) (fun x => (∀ e, x = e → hp_G l mX9_findPairs none 4 false Q false 0 0 81 [] [] e)) (fun s r h1 h2 h3 => tbX9_findPairs_41 l h1 (fun t e => h2 t e) (fun e he => h3 _ he _ rfl)) q s x hf ke
noncomputable def fX9_findPairs (h : hp_H) (a0 : Nat) : Option hp_H :=
(it_ (bX9_findPairs_2  a0) fu_ (0, h)).bind fun x5 =>
(pi_ x5 a0 8 20 (-9)).bind fun h6 =>
(pi_ h6 a0 8 21 0).bind fun h7 =>
(hg_o h7 a0 8).bind fun o8 =>
(fX9_tryPartners h7 a0 0 0).bind fun r9 =>
(it_ (bX9_findPairs_41  a0) fu_ (0, r9)).bind fun x23 =>
some x23
set_option maxRecDepth 20000 in
set_option maxHeartbeats 4000000 in
theorem tX9_findPairs (l : Launch) {h : hp_H} {a0 : Nat} {r : hp_H} (hf : fX9_findPairs h a0 = some r) {Q : Option Value → hp_H → Prop} (kr : Q (none) r) : hp_G l mX9_findPairs none 4 false Q false 0 0 0 [(0, .ref a0)] [] h := by
  unfold fX9_findPairs at hf
  refine hp_iconst (v := 0) dX9_findPairs_0 ic_0 (?_ : hp_G _ _ _ _ _ _ _ _ _ 1 _ _ _)
  refine hp_istore_n (lv' := [(1, .int 0), (0, .ref a0)]) dX9_findPairs_1 rfl (Nat.le_of_ble_eq_true rfl) rfl (?_ : hp_G _ _ _ _ _ _ _ _ _ 2 _ _ _)
  replace hf := ob_ hf
  obtain ⟨x5, ex5, hf⟩ := hf
  refine hp_sub [1, 0] rfl ?_
  refine tlX9_findPairs_2 l fu_ ex5 (fun y hy => ?_)
  obtain rfl := hy
  refine hp_aload_n 0 dX9_findPairs_22 rfl rfl (?_ : hp_G _ _ _ _ _ _ _ _ _ 23 _ _ _)
  refine hp_bipush (v := (-9)) dX9_findPairs_23 bi_m9 (?_ : hp_G _ _ _ _ _ _ _ _ _ 25 _ _ _)
  replace hf := ob_ hf
  obtain ⟨h6, eh6, hf⟩ := hf
  refine fpX9_160 rfl dX9_findPairs_25 eh6 (?_ : hp_G _ _ _ _ _ _ _ _ _ 28 _ _ _)
  refine hp_aload_n 0 dX9_findPairs_28 rfl rfl (?_ : hp_G _ _ _ _ _ _ _ _ _ 29 _ _ _)
  refine hp_iconst (v := 0) dX9_findPairs_29 ic_0 (?_ : hp_G _ _ _ _ _ _ _ _ _ 30 _ _ _)
  replace hf := ob_ hf
  obtain ⟨h7, eh7, hf⟩ := hf
  refine fpX9_163 rfl dX9_findPairs_30 eh7 (?_ : hp_G _ _ _ _ _ _ _ _ _ 33 _ _ _)
  refine hp_aload_n 0 dX9_findPairs_33 rfl rfl (?_ : hp_G _ _ _ _ _ _ _ _ _ 34 _ _ _)
  refine hp_iconst (v := 0) dX9_findPairs_34 ic_0 (?_ : hp_G _ _ _ _ _ _ _ _ _ 35 _ _ _)
  refine hp_iconst (v := 0) dX9_findPairs_35 ic_0 (?_ : hp_G _ _ _ _ _ _ _ _ _ 36 _ _ _)
  replace hf := ob_ hf
  obtain ⟨o8, eo8, hf⟩ := hf
  replace hf := ob_ hf
  obtain ⟨r9, er9, hf⟩ := hf
  refine clX9_166 (as := [.int 0, .int 0]) (st := []) rfl (kX9_tryPartners l er9) rfl (by decide) (Nat.le_of_ble_eq_true rfl) eo8 dX9_findPairs_36 rfl (?_ : hp_G _ _ _ _ _ _ _ _ _ 39 _ _ _)
  refine hp_iconst (v := 0) dX9_findPairs_39 ic_0 (?_ : hp_G _ _ _ _ _ _ _ _ _ 40 _ _ _)
  refine hp_istore_n (lv' := [(1, .int 0), (0, .ref a0)]) dX9_findPairs_40 rfl (Nat.le_of_ble_eq_true rfl) rfl (?_ : hp_G _ _ _ _ _ _ _ _ _ 41 _ _ _)
  replace hf := ob_ hf
  obtain ⟨x23, ex23, hf⟩ := hf
  refine hp_sub [1, 0] rfl ?_
  refine tlX9_findPairs_41 l fu_ ex23 (fun y hy => ?_)
  obtain rfl := hy
  obtain rfl := Option.some.inj hf
  exact hp_vret kr (fun z => z) rfl dX9_findPairs_81
theorem kX9_findPairs (l : Launch) {h : hp_H} {a0 : Nat} {r : hp_H} (hf : fX9_findPairs h a0 = some r) : hp_Cn l yX9_findPairs mX9_findPairs 4 false 0 0 [.ref a0] h (fun v h2 => none = v ∧ r = h2) :=
  hp_of (by decide) rfl (fun z => by cases z) (Nat.le_of_ble_eq_true rfl) (tX9_findPairs l hf ⟨rfl, rfl⟩)
