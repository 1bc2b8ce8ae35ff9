noncomputable def bX9_season_103 (h : hp_H) (v0 : Nat) (v4 : Int32) (v5 : Int32) (v7 : Int32) (s : Int32) : Option (Int32 ⊕ (Unit ⊕ (Int32 × hp_H))) :=
if v4 ≤ s then
(some (.inr (.inl ())))
else
((gq_ h v0 8 4).bind fun x17 =>
(al_ h x17 (v7 + (2 * s))).bind fun x18 =>
(gq_ h v0 8 4).bind fun x19 =>
(al_ h x19 ((v7 + (2 * s)) + 1)).bind fun x20 =>
(hg_o h v0 8).bind fun o21 =>
(fX9_refusesPair h v0 x18 x20).bind fun r22 =>
if r22 = 0 then
((some (s + 1)).bind fun x24 =>
some (.inl x24))
else
(some (.inr (.inr (r22, h)))))
set_option maxRecDepth 20000 in
set_option maxHeartbeats 4000000 in
theorem tbX9_season_103 (l : Launch) {h : hp_H} {v0 : Nat} {v4 : Int32} {v5 : Int32} {v7 : Int32}  {s : Int32} {r : (Int32 ⊕ (Unit ⊕ (Int32 × hp_H)))} (hf : bX9_season_103 h  v0 v4 v5 v7 s = some r) {Q : Option Value → hp_H → Prop} (kb : ∀ t, r = .inl t → hp_G l mX9_season none 4 false Q false 0 0 103 [(0, .ref v0), (4, .int v4), (5, .int v5), (7, .int v7), (8, .int t)] [] h) (ke : ∀ x, r = .inr (.inl x) → hp_G l mX9_season none 4 false Q false 0 0 156 [(0, .ref v0), (4, .int v4), (5, .int v5), (7, .int v7)] [] h) (kr : ∀ z, r = .inr (.inr z) → Q (some (.int z.1)) z.2) : hp_G l mX9_season none 4 false Q false 0 0 103 [(0, .ref v0), (4, .int v4), (5, .int v5), (7, .int v7), (8, .int s)] [] h := by
  unfold bX9_season_103 at hf
  refine hp_iload 4 dX9_season_103 rfl (?_ : hp_G _ _ _ _ _ _ _ _ _ 105 _ _ _)
  refine hp_iload 1 dX9_season_105 rfl (?_ : hp_G _ _ _ _ _ _ _ _ _ 107 _ _ _)
  refine hp_icmp_ge (tgt := 156) dX9_season_107 rfl (fun c16 => ?_) (fun c16 => (?_ : hp_G _ _ _ _ _ _ _ _ _ 110 _ _ _))
  · replace hf := ot_ c16 hf
    obtain rfl := Option.some.inj hf
    exact hp_sub [0, 1, 2, 3] rfl (ke _ rfl)
  · replace hf := of_ c16 hf
    refine hp_aload_n 0 dX9_season_110 rfl rfl (?_ : hp_G _ _ _ _ _ _ _ _ _ 111 _ _ _)
    refine hp_aload_n 0 dX9_season_111 rfl rfl (?_ : hp_G _ _ _ _ _ _ _ _ _ 112 _ _ _)
    replace hf := ob_ hf
    obtain ⟨x17, ex17, hf⟩ := hf
    refine fgX9_16 rfl dX9_season_112 ex17 (?_ : hp_G _ _ _ _ _ _ _ _ _ 115 _ _ _)
    refine hp_iload 3 dX9_season_115 rfl (?_ : hp_G _ _ _ _ _ _ _ _ _ 117 _ _ _)
    refine hp_iconst (v := 2) dX9_season_117 ic_2 (?_ : hp_G _ _ _ _ _ _ _ _ _ 118 _ _ _)
    refine hp_iload 4 dX9_season_118 rfl (?_ : hp_G _ _ _ _ _ _ _ _ _ 120 _ _ _)
    refine hp_imul dX9_season_120 (?_ : hp_G _ _ _ _ _ _ _ _ _ 121 _ _ _)
    refine hp_iadd dX9_season_121 (?_ : hp_G _ _ _ _ _ _ _ _ _ 122 _ _ _)
    replace hf := ob_ hf
    obtain ⟨x18, ex18, hf⟩ := hf
    refine hp_iaload dX9_season_122 ex18 (?_ : hp_G _ _ _ _ _ _ _ _ _ 123 _ _ _)
    refine hp_aload_n 0 dX9_season_123 rfl rfl (?_ : hp_G _ _ _ _ _ _ _ _ _ 124 _ _ _)
    replace hf := ob_ hf
    obtain ⟨x19, ex19, hf⟩ := hf
    refine fgX9_16 rfl dX9_season_124 ex19 (?_ : hp_G _ _ _ _ _ _ _ _ _ 127 _ _ _)
    refine hp_iload 3 dX9_season_127 rfl (?_ : hp_G _ _ _ _ _ _ _ _ _ 129 _ _ _)
    refine hp_iconst (v := 2) dX9_season_129 ic_2 (?_ : hp_G _ _ _ _ _ _ _ _ _ 130 _ _ _)
    refine hp_iload 4 dX9_season_130 rfl (?_ : hp_G _ _ _ _ _ _ _ _ _ 132 _ _ _)
    refine hp_imul dX9_season_132 (?_ : hp_G _ _ _ _ _ _ _ _ _ 133 _ _ _)
    refine hp_iadd dX9_season_133 (?_ : hp_G _ _ _ _ _ _ _ _ _ 134 _ _ _)
    refine hp_iconst (v := 1) dX9_season_134 ic_1 (?_ : hp_G _ _ _ _ _ _ _ _ _ 135 _ _ _)
    refine hp_iadd dX9_season_135 (?_ : hp_G _ _ _ _ _ _ _ _ _ 136 _ _ _)
    replace hf := ob_ hf
    obtain ⟨x20, ex20, hf⟩ := hf
    refine hp_iaload dX9_season_136 ex20 (?_ : hp_G _ _ _ _ _ _ _ _ _ 137 _ _ _)
    replace hf := ob_ hf
    obtain ⟨o21, eo21, hf⟩ := hf
    replace hf := ob_ hf
    obtain ⟨r22, er22, hf⟩ := hf
    refine clX9_150 (as := [.int x18, .int x20]) (st := []) rfl (kX9_refusesPair l er22) rfl (by decide) (Nat.le_of_ble_eq_true rfl) eo21 dX9_season_137 rfl (?_ : hp_G _ _ _ _ _ _ _ _ _ 140 _ _ _)
    refine hp_istore (lv' := [(9, .int r22), (0, .ref v0), (4, .int v4), (5, .int v5), (7, .int v7), (8, .int s)]) dX9_season_140 (Nat.le_of_ble_eq_true rfl) rfl (?_ : hp_G _ _ _ _ _ _ _ _ _ 142 _ _ _)
    refine hp_iload 0 dX9_season_142 rfl (?_ : hp_G _ _ _ _ _ _ _ _ _ 144 _ _ _)
    refine hp_if_eq (tgt := 150) dX9_season_144 rfl (fun c23 => ?_) (fun c23 => (?_ : hp_G _ _ _ _ _ _ _ _ _ 147 _ _ _))
    · replace hf := ot_ c23 hf
      replace hf := ob_ hf
      obtain ⟨x24, ex24, hf⟩ := hf
      refine hp_iinc (v := x24) (lv' := [(8, .int x24), (9, .int r22), (0, .ref v0), (4, .int v4), (5, .int v5), (7, .int v7)]) 5 dX9_season_150 rfl (hp_inc ic_1 ex24) (Nat.le_of_ble_eq_true rfl) rfl (?_ : hp_G _ _ _ _ _ _ _ _ _ 153 _ _ _)
      refine hp_goto (tgt := 103) dX9_season_153 rfl (?_ : hp_G _ _ _ _ _ _ _ _ _ 103 _ _ _)
      obtain rfl := Option.some.inj hf
      exact hp_sub [2, 3, 4, 5, 0] rfl (kb _ rfl)
    · replace hf := of_ c23 hf
      refine hp_iload 0 dX9_season_147 rfl (?_ : hp_G _ _ _ _ _ _ _ _ _ 149 _ _ _)
      obtain rfl := Option.some.inj hf
      exact hp_iret (kr _ rfl) (fun z => z) rfl dX9_season_149
set_option maxRecDepth 20000 in
set_option maxHeartbeats 4000000 in
theorem tlX9_season_103 (l : Launch) {h : hp_H} {v0 : Nat} {v4 : Int32} {v5 : Int32} {v7 : Int32}  (q : Nat) {s : Int32} {x : (Unit ⊕ (Int32 × hp_H))} (hf : it_ (bX9_season_103 h  v0 v4 v5 v7) q s = some x) {Q : Option Value → hp_H → Prop} (ke : ∀ e, x = .inl e → hp_G l mX9_season none 4 false Q false 0 0 156 [(0, .ref v0), (4, .int v4), (5, .int v5), (7, .int v7)] [] h) (kr : ∀ z, x = .inr z → Q (some (.int z.1)) z.2) : hp_G l mX9_season none 4 false Q false 0 0 103 [(0, .ref v0), (4, .int v4), (5, .int v5), (7, .int v7), (8, .int s)] [] h := by
  exact it_rule (f := bX9_season_103 h  v0 v4 v5 v7) (fun s => hp_G l mX9_season none 4 false Q false 0 0 103 [(0, .ref v0), (4, .int v4), (5, .int v5), (7, .int v7), (8, .int s)] [] h) (fun x => (∀ e, x = .inl e → hp_G l mX9_season none 4 false Q false 0 0 156 [(0, .ref v0), (4, .int v4), (5, .int v5), (7, .int v7)] [] h) ∧ (∀ z, x = .inr z → Q (some (.int z.1)) z.2)) (fun s r h1 h2 h3 => tbX9_season_103 l h1 (fun t e => h2 t e) (fun e he => (h3 _ he).1 _ rfl) (fun z he => (h3 _ he).2 _ rfl)) q s x hf ⟨ke, kr⟩
noncomputable def bX9_season_165 (v0 : Nat) (v4 : Int32) (v5 : Int32) (v7 : Int32) (v8 : Int32) (s : (Int32 × hp_H)) : Option ((Int32 × hp_H) ⊕ hp_H) :=
(gi_ s.2 v0 8 5).bind fun x29 =>
if x29 ≤ s.1 then
(some (.inr s.2))
else
((gq_ s.2 v0 8 14).bind fun x31 =>
(gq_ s.2 v0 8 10).bind fun x32 =>
(al_ s.2 x32 s.1).bind fun x33 =>
(ax_ s.2 x31 s.1 x33).bind fun h34 =>
(some (s.1 + 1)).bind fun x35 =>
some (.inl (x35, h34)))
set_option maxRecDepth 20000 in
set_option maxHeartbeats 4000000 in
theorem tbX9_season_165 (l : Launch) {v0 : Nat} {v4 : Int32} {v5 : Int32} {v7 : Int32} {v8 : Int32}  {s : (Int32 × hp_H)} {r : ((Int32 × hp_H) ⊕ hp_H)} (hf : bX9_season_165  v0 v4 v5 v7 v8 s = some r) {Q : Option Value → hp_H → Prop} (kb : ∀ t, r = .inl t → hp_G l mX9_season none 4 false Q false 0 0 165 [(0, .ref v0), (4, .int v4), (5, .int v5), (7, .int v7), (8, .int v8), (9, .int t.1)] [] t.2) (ke : ∀ x, r = .inr x → hp_G l mX9_season none 4 false Q false 0 0 194 [(0, .ref v0), (4, .int v4), (5, .int v5), (7, .int v7), (8, .int v8)] [] x) : hp_G l mX9_season none 4 false Q false 0 0 165 [(0, .ref v0), (4, .int v4), (5, .int v5), (7, .int v7), (8, .int v8), (9, .int s.1)] [] s.2 := by
  unfold bX9_season_165 at hf
  refine hp_iload 5 dX9_season_165 rfl (?_ : hp_G _ _ _ _ _ _ _ _ _ 167 _ _ _)
  refine hp_aload_n 0 dX9_season_167 rfl rfl (?_ : hp_G _ _ _ _ _ _ _ _ _ 168 _ _ _)
  replace hf := ob_ hf
  obtain ⟨x29, ex29, hf⟩ := hf
  refine fgX9_71 rfl dX9_season_168 ex29 (?_ : hp_G _ _ _ _ _ _ _ _ _ 171 _ _ _)
  refine hp_icmp_ge (tgt := 194) dX9_season_171 rfl (fun c30 => ?_) (fun c30 => (?_ : hp_G _ _ _ _ _ _ _ _ _ 174 _ _ _))
  · replace hf := ot_ c30 hf
    obtain rfl := Option.some.inj hf
    exact hp_sub [0, 1, 2, 3, 4] rfl (ke _ rfl)
  · replace hf := of_ c30 hf
    refine hp_aload_n 0 dX9_season_174 rfl rfl (?_ : hp_G _ _ _ _ _ _ _ _ _ 175 _ _ _)
    replace hf := ob_ hf
    obtain ⟨x31, ex31, hf⟩ := hf
    refine fgX9_31 rfl dX9_season_175 ex31 (?_ : hp_G _ _ _ _ _ _ _ _ _ 178 _ _ _)
    refine hp_iload 5 dX9_season_178 rfl (?_ : hp_G _ _ _ _ _ _ _ _ _ 180 _ _ _)
    refine hp_aload_n 0 dX9_season_180 rfl rfl (?_ : hp_G _ _ _ _ _ _ _ _ _ 181 _ _ _)
    replace hf := ob_ hf
    obtain ⟨x32, ex32, hf⟩ := hf
    refine fgX9_25 rfl dX9_season_181 ex32 (?_ : hp_G _ _ _ _ _ _ _ _ _ 184 _ _ _)
    refine hp_iload 5 dX9_season_184 rfl (?_ : hp_G _ _ _ _ _ _ _ _ _ 186 _ _ _)
    replace hf := ob_ hf
    obtain ⟨x33, ex33, hf⟩ := hf
    refine hp_iaload dX9_season_186 ex33 (?_ : hp_G _ _ _ _ _ _ _ _ _ 187 _ _ _)
    replace hf := ob_ hf
    obtain ⟨h34, eh34, hf⟩ := hf
    refine hp_iastore dX9_season_187 eh34 (?_ : hp_G _ _ _ _ _ _ _ _ _ 188 _ _ _)
    replace hf := ob_ hf
    obtain ⟨x35, ex35, hf⟩ := hf
    refine hp_iinc (v := x35) (lv' := [(9, .int x35), (0, .ref v0), (4, .int v4), (5, .int v5), (7, .int v7), (8, .int v8)]) 5 dX9_season_188 rfl (hp_inc ic_1 ex35) (Nat.le_of_ble_eq_true rfl) rfl (?_ : hp_G _ _ _ _ _ _ _ _ _ 191 _ _ _)
    refine hp_goto (tgt := 165) dX9_season_191 rfl (?_ : hp_G _ _ _ _ _ _ _ _ _ 165 _ _ _)
    obtain rfl := Option.some.inj hf
    exact hp_sub [1, 2, 3, 4, 5, 0] rfl (kb _ rfl)
set_option maxRecDepth 20000 in
set_option maxHeartbeats 4000000 in
theorem tlX9_season_165 (l : Launch) {v0 : Nat} {v4 : Int32} {v5 : Int32} {v7 : Int32} {v8 : Int32}  (q : Nat) {s : (Int32 × hp_H)} {x : hp_H} (hf : it_ (bX9_season_165  v0 v4 v5 v7 v8) q s = some x) {Q : Option Value → hp_H → Prop} (ke : ∀ e, x = e → hp_G l mX9_season none 4 false Q false 0 0 194 [(0, .ref v0), (4, .int v4), (5, .int v5), (7, .int v7), (8, .int v8)] [] e) : hp_G l mX9_season none 4 false Q false 0 0 165 [(0, .ref v0), (4, .int v4), (5, .int v5), (7, .int v7), (8, .int v8), (9, .int s.1)] [] s.2 := by
  exact it_rule (f := bX9_season_165  v0 v4 v5 v7 v8) (fun s => hp_G l mX9_season none 4 false Q false 0 0 165 [(0, .ref v0), (4, .int v4), (5, .int v5), (7, .int v7), (8, .int v8), (9, .int s.1)] [] s.2) (fun x => (∀ e, x = e → hp_G l mX9_season none 4 false Q false 0 0 194 [(0, .ref v0), (4, .int v4), (5, .int v5), (7, .int v7), (8, .int v8)] [] e)) (fun s r h1 h2 h3 => tbX9_season_165 l h1 (fun t e => h2 t e) (fun e he => h3 _ he _ rfl)) q s x hf ke
noncomputable def bX9_season_221 (v0 : Nat) (v5 : Int32) (v9 : Int32) (v10 : Int32) (s : (Int32 × hp_H)) : Option ((Int32 × hp_H) ⊕ hp_H) :=
(gi_ s.2 v0 8 5).bind fun x42 =>
if x42 ≤ s.1 then
(some (.inr s.2))
else
((gq_ s.2 v0 8 10).bind fun x44 =>
(gq_ s.2 v0 8 14).bind fun x45 =>
(al_ s.2 x45 s.1).bind fun x46 =>
(ax_ s.2 x44 s.1 x46).bind fun h47 =>
(some (s.1 + 1)).bind fun x48 =>
some (.inl (x48, h47)))
set_option maxRecDepth 20000 in
set_option maxHeartbeats 4000000 in
theorem tbX9_season_221 (l : Launch) {v0 : Nat} {v5 : Int32} {v9 : Int32} {v10 : Int32}  {s : (Int32 × hp_H)} {r : ((Int32 × hp_H) ⊕ hp_H)} (hf : bX9_season_221  v0 v5 v9 v10 s = some r) {Q : Option Value → hp_H → Prop} (kb : ∀ t, r = .inl t → hp_G l mX9_season none 4 false Q false 0 0 221 [(0, .ref v0), (5, .int v5), (9, .int v9), (10, .int v10), (11, .int t.1)] [] t.2) (ke : ∀ x, r = .inr x → hp_G l mX9_season none 4 false Q false 0 0 250 [(5, .int v5), (9, .int v9), (10, .int v10)] [] x) : hp_G l mX9_season none 4 false Q false 0 0 221 [(0, .ref v0), (5, .int v5), (9, .int v9), (10, .int v10), (11, .int s.1)] [] s.2 := by
  unfold bX9_season_221 at hf
  refine hp_iload 4 dX9_season_221 rfl (?_ : hp_G _ _ _ _ _ _ _ _ _ 223 _ _ _)
  refine hp_aload_n 0 dX9_season_223 rfl rfl (?_ : hp_G _ _ _ _ _ _ _ _ _ 224 _ _ _)
  replace hf := ob_ hf
  obtain ⟨x42, ex42, hf⟩ := hf
  refine fgX9_71 rfl dX9_season_224 ex42 (?_ : hp_G _ _ _ _ _ _ _ _ _ 227 _ _ _)
  refine hp_icmp_ge (tgt := 250) dX9_season_227 rfl (fun c43 => ?_) (fun c43 => (?_ : hp_G _ _ _ _ _ _ _ _ _ 230 _ _ _))
  · replace hf := ot_ c43 hf
    obtain rfl := Option.some.inj hf
    exact hp_sub [1, 2, 3] rfl (ke _ rfl)
  · replace hf := of_ c43 hf
    refine hp_aload_n 0 dX9_season_230 rfl rfl (?_ : hp_G _ _ _ _ _ _ _ _ _ 231 _ _ _)
    replace hf := ob_ hf
    obtain ⟨x44, ex44, hf⟩ := hf
    refine fgX9_25 rfl dX9_season_231 ex44 (?_ : hp_G _ _ _ _ _ _ _ _ _ 234 _ _ _)
    refine hp_iload 4 dX9_season_234 rfl (?_ : hp_G _ _ _ _ _ _ _ _ _ 236 _ _ _)
    refine hp_aload_n 0 dX9_season_236 rfl rfl (?_ : hp_G _ _ _ _ _ _ _ _ _ 237 _ _ _)
    replace hf := ob_ hf
    obtain ⟨x45, ex45, hf⟩ := hf
    refine fgX9_31 rfl dX9_season_237 ex45 (?_ : hp_G _ _ _ _ _ _ _ _ _ 240 _ _ _)
    refine hp_iload 4 dX9_season_240 rfl (?_ : hp_G _ _ _ _ _ _ _ _ _ 242 _ _ _)
    replace hf := ob_ hf
    obtain ⟨x46, ex46, hf⟩ := hf
    refine hp_iaload dX9_season_242 ex46 (?_ : hp_G _ _ _ _ _ _ _ _ _ 243 _ _ _)
    replace hf := ob_ hf
    obtain ⟨h47, eh47, hf⟩ := hf
    refine hp_iastore dX9_season_243 eh47 (?_ : hp_G _ _ _ _ _ _ _ _ _ 244 _ _ _)
    replace hf := ob_ hf
    obtain ⟨x48, ex48, hf⟩ := hf
    refine hp_iinc (v := x48) (lv' := [(11, .int x48), (0, .ref v0), (5, .int v5), (9, .int v9), (10, .int v10)]) 4 dX9_season_244 rfl (hp_inc ic_1 ex48) (Nat.le_of_ble_eq_true rfl) rfl (?_ : hp_G _ _ _ _ _ _ _ _ _ 247 _ _ _)
    refine hp_goto (tgt := 221) dX9_season_247 rfl (?_ : hp_G _ _ _ _ _ _ _ _ _ 221 _ _ _)
    obtain rfl := Option.some.inj hf
    exact hp_sub [1, 2, 3, 4, 0] rfl (kb _ rfl)
set_option maxRecDepth 20000 in
set_option maxHeartbeats 4000000 in
theorem tlX9_season_221 (l : Launch) {v0 : Nat} {v5 : Int32} {v9 : Int32} {v10 : Int32}  (q : Nat) {s : (Int32 × hp_H)} {x : hp_H} (hf : it_ (bX9_season_221  v0 v5 v9 v10) q s = some x) {Q : Option Value → hp_H → Prop} (ke : ∀ e, x = e → hp_G l mX9_season none 4 false Q false 0 0 250 [(5, .int v5), (9, .int v9), (10, .int v10)] [] e) : hp_G l mX9_season none 4 false Q false 0 0 221 [(0, .ref v0), (5, .int v5), (9, .int v9), (10, .int v10), (11, .int s.1)] [] s.2 := by
  exact it_rule (f := bX9_season_221  v0 v5 v9 v10) (fun s => hp_G l mX9_season none 4 false Q false 0 0 221 [(0, .ref v0), (5, .int v5), (9, .int v9), (10, .int v10), (11, .int s.1)] [] s.2) (fun x => (∀ e, x = e → hp_G l mX9_season none 4 false Q false 0 0 250 [(5, .int v5), (9, .int v9), (10, .int v10)] [] e)) (fun s r h1 h2 h3 => tbX9_season_221 l h1 (fun t e => h2 t e) (fun e he => h3 _ he _ rfl)) q s x hf ke
noncomputable def jX9_season_57 (g : hp_H)  (u0 : Nat) (u1 : Int32) (u2 : Int32) (u3 : Int32) (u4 : Int32) (u5 : Int32)  : Option (Int32 × hp_H) :=
(hg_o g u0 8).bind fun o10 =>
(fX9_against g u0 u1 u2 u3 (2 * u4)).bind fun r11 =>
if r11 = 0 then
((gi_ g u0 8 5).bind fun x13 =>
if x13 = 0 then
(some ((-3), g))
else
((some ((60 * u1) + u3)).bind fun x15 =>
(it_ (bX9_season_103 g u0 u4 u5 x15) fu_ 0).bind fun x25 =>
match x25 with
| .inl y26 => ((gi_ g u0 8 6).bind fun x28 =>
(it_ (bX9_season_165  u0 u4 u5 x15 x28) fu_ (0, g)).bind fun x36 =>
(hg_o x36 u0 8).bind fun o37 =>
(fX9_goSeason x36 u0 x15 u4).bind fun r38 =>
(hg_o r38.2 u0 8).bind fun o39 =>
(fX9_tellSeason r38.2 u0 u5).bind fun r40 =>
(pi_ r38.2 u0 8 6 x28).bind fun h41 =>
(it_ (bX9_season_221  u0 u5 r38.1 r40) fu_ (0, h41)).bind fun x49 =>
if u5 = 1 then
(some (r38.1, x49))
else
(if r38.1 = (-9) then
(some (r40, x49))
else
(some ((-100) - r38.1, x49))))
| .inr z27 => some z27))
else
((hg_o g u0 8).bind fun o52 =>
(fX9_fails g u0 r11).bind fun r53 =>
some (r53.1, r53.2))
set_option maxRecDepth 20000 in
set_option maxHeartbeats 4000000 in
theorem tjX9_season_57 (l : Launch) {g : hp_H}  {u0 : Nat} {u1 : Int32} {u2 : Int32} {u3 : Int32} {u4 : Int32} {u5 : Int32}  {r : (Int32 × hp_H)} (hf : jX9_season_57 g u0 u1 u2 u3 u4 u5 = some r) {Q : Option Value → hp_H → Prop} (kr : Q (some (.int r.1)) r.2) : hp_G l mX9_season none 4 false Q false 0 0 57 [(0, .ref u0), (1, .int u1), (2, .int u2), (3, .int u3), (4, .int u4), (5, .int u5)] [] g := by
  unfold jX9_season_57 at hf
  refine hp_aload_n 0 dX9_season_57 rfl rfl (?_ : hp_G _ _ _ _ _ _ _ _ _ 58 _ _ _)
  refine hp_iload_n 1 dX9_season_58 rfl rfl (?_ : hp_G _ _ _ _ _ _ _ _ _ 59 _ _ _)
  refine hp_iload_n 2 dX9_season_59 rfl rfl (?_ : hp_G _ _ _ _ _ _ _ _ _ 60 _ _ _)
  refine hp_iload_n 3 dX9_season_60 rfl rfl (?_ : hp_G _ _ _ _ _ _ _ _ _ 61 _ _ _)
  refine hp_iconst (v := 2) dX9_season_61 ic_2 (?_ : hp_G _ _ _ _ _ _ _ _ _ 62 _ _ _)
  refine hp_iload 4 dX9_season_62 rfl (?_ : hp_G _ _ _ _ _ _ _ _ _ 64 _ _ _)
  refine hp_imul dX9_season_64 (?_ : hp_G _ _ _ _ _ _ _ _ _ 65 _ _ _)
  replace hf := ob_ hf
  obtain ⟨o10, eo10, hf⟩ := hf
  replace hf := ob_ hf
  obtain ⟨r11, er11, hf⟩ := hf
  refine clX9_87 (as := [.int u1, .int u2, .int u3, .int (2 * u4)]) (st := []) rfl (kX9_against l er11) rfl (by decide) (Nat.le_of_ble_eq_true rfl) eo10 dX9_season_65 rfl (?_ : hp_G _ _ _ _ _ _ _ _ _ 68 _ _ _)
  refine hp_istore (lv' := [(6, .int r11), (0, .ref u0), (1, .int u1), (2, .int u2), (3, .int u3), (4, .int u4), (5, .int u5)]) dX9_season_68 (Nat.le_of_ble_eq_true rfl) rfl (?_ : hp_G _ _ _ _ _ _ _ _ _ 70 _ _ _)
  refine hp_iload 0 dX9_season_70 rfl (?_ : hp_G _ _ _ _ _ _ _ _ _ 72 _ _ _)
  refine hp_if_eq (tgt := 82) dX9_season_72 rfl (fun c12 => ?_) (fun c12 => (?_ : hp_G _ _ _ _ _ _ _ _ _ 75 _ _ _))
  · replace hf := ot_ c12 hf
    refine hp_aload_n 1 dX9_season_82 rfl rfl (?_ : hp_G _ _ _ _ _ _ _ _ _ 83 _ _ _)
    replace hf := ob_ hf
    obtain ⟨x13, ex13, hf⟩ := hf
    refine fgX9_71 rfl dX9_season_83 ex13 (?_ : hp_G _ _ _ _ _ _ _ _ _ 86 _ _ _)
    refine hp_if_ne (tgt := 92) dX9_season_86 rfl (fun c14 => ?_) (fun c14 => (?_ : hp_G _ _ _ _ _ _ _ _ _ 89 _ _ _))
    · replace hf := of_ c14 hf
      refine hp_bipush (v := 60) dX9_season_92 bi_60 (?_ : hp_G _ _ _ _ _ _ _ _ _ 94 _ _ _)
      refine hp_iload_n 2 dX9_season_94 rfl rfl (?_ : hp_G _ _ _ _ _ _ _ _ _ 95 _ _ _)
      refine hp_imul dX9_season_95 (?_ : hp_G _ _ _ _ _ _ _ _ _ 96 _ _ _)
      refine hp_iload_n 4 dX9_season_96 rfl rfl (?_ : hp_G _ _ _ _ _ _ _ _ _ 97 _ _ _)
      refine hp_iadd dX9_season_97 (?_ : hp_G _ _ _ _ _ _ _ _ _ 98 _ _ _)
      replace hf := ob_ hf
      obtain ⟨x15, ex15, hf⟩ := hf
      refine hp_nmi ex15 ?_
      refine hp_istore (lv' := [(7, .int x15), (6, .int r11), (0, .ref u0), (1, .int u1), (2, .int u2), (3, .int u3), (4, .int u4), (5, .int u5)]) dX9_season_98 (Nat.le_of_ble_eq_true rfl) rfl (?_ : hp_G _ _ _ _ _ _ _ _ _ 100 _ _ _)
      refine hp_iconst (v := 0) dX9_season_100 ic_0 (?_ : hp_G _ _ _ _ _ _ _ _ _ 101 _ _ _)
      refine hp_istore (lv' := [(8, .int 0), (7, .int x15), (6, .int r11), (0, .ref u0), (1, .int u1), (2, .int u2), (3, .int u3), (4, .int u4), (5, .int u5)]) dX9_season_101 (Nat.le_of_ble_eq_true rfl) rfl (?_ : hp_G _ _ _ _ _ _ _ _ _ 103 _ _ _)
      replace hf := ob_ hf
      obtain ⟨x25, ex25, hf⟩ := hf
      refine hp_sub [3, 7, 8, 1, 0] rfl ?_
      rcases x25 with y26 | z27
      · (try dsimp only at hf)
        refine tlX9_season_103 l fu_ ex25 (fun w hw => ?_) (fun w hw => (by cases hw))
        obtain rfl := Sum.inl.inj hw
        refine hp_aload_n 0 dX9_season_156 rfl rfl (?_ : hp_G _ _ _ _ _ _ _ _ _ 157 _ _ _)
        replace hf := ob_ hf
        obtain ⟨x28, ex28, hf⟩ := hf
        refine fgX9_101 rfl dX9_season_157 ex28 (?_ : hp_G _ _ _ _ _ _ _ _ _ 160 _ _ _)
        refine hp_istore (lv' := [(8, .int x28), (0, .ref u0), (4, .int u4), (5, .int u5), (7, .int x15)]) dX9_season_160 (Nat.le_of_ble_eq_true rfl) rfl (?_ : hp_G _ _ _ _ _ _ _ _ _ 162 _ _ _)
        refine hp_iconst (v := 0) dX9_season_162 ic_0 (?_ : hp_G _ _ _ _ _ _ _ _ _ 163 _ _ _)
        refine hp_istore (lv' := [(9, .int 0), (8, .int x28), (0, .ref u0), (4, .int u4), (5, .int u5), (7, .int x15)]) dX9_season_163 (Nat.le_of_ble_eq_true rfl) rfl (?_ : hp_G _ _ _ _ _ _ _ _ _ 165 _ _ _)
        replace hf := ob_ hf
        obtain ⟨x36, ex36, hf⟩ := hf
        refine hp_sub [2, 3, 4, 5, 1, 0] rfl ?_
        refine tlX9_season_165 l fu_ ex36 (fun y hy => ?_)
        obtain rfl := hy
        refine hp_aload_n 0 dX9_season_194 rfl rfl (?_ : hp_G _ _ _ _ _ _ _ _ _ 195 _ _ _)
        refine hp_iload 3 dX9_season_195 rfl (?_ : hp_G _ _ _ _ _ _ _ _ _ 197 _ _ _)
        refine hp_iload 1 dX9_season_197 rfl (?_ : hp_G _ _ _ _ _ _ _ _ _ 199 _ _ _)
        replace hf := ob_ hf
        obtain ⟨o37, eo37, hf⟩ := hf
        replace hf := ob_ hf
        obtain ⟨r38, er38, hf⟩ := hf
        refine clX9_154 (as := [.int x15, .int u4]) (st := []) rfl (kX9_goSeason l er38) rfl (by decide) (Nat.le_of_ble_eq_true rfl) eo37 dX9_season_199 rfl (?_ : hp_G _ _ _ _ _ _ _ _ _ 202 _ _ _)
        refine hp_istore (lv' := [(9, .int r38.1), (0, .ref u0), (4, .int u4), (5, .int u5), (7, .int x15), (8, .int x28)]) dX9_season_202 (Nat.le_of_ble_eq_true rfl) rfl (?_ : hp_G _ _ _ _ _ _ _ _ _ 204 _ _ _)
        refine hp_aload_n 1 dX9_season_204 rfl rfl (?_ : hp_G _ _ _ _ _ _ _ _ _ 205 _ _ _)
        refine hp_iload 3 dX9_season_205 rfl (?_ : hp_G _ _ _ _ _ _ _ _ _ 207 _ _ _)
        replace hf := ob_ hf
        obtain ⟨o39, eo39, hf⟩ := hf
        replace hf := ob_ hf
        obtain ⟨r40, er40, hf⟩ := hf
        refine clX9_157 (as := [.int u5]) (st := []) rfl (kX9_tellSeason l er40) rfl (by decide) (Nat.le_of_ble_eq_true rfl) eo39 dX9_season_207 rfl (?_ : hp_G _ _ _ _ _ _ _ _ _ 210 _ _ _)
        refine hp_istore (lv' := [(10, .int r40), (9, .int r38.1), (0, .ref u0), (4, .int u4), (5, .int u5), (7, .int x15), (8, .int x28)]) dX9_season_210 (Nat.le_of_ble_eq_true rfl) rfl (?_ : hp_G _ _ _ _ _ _ _ _ _ 212 _ _ _)
        refine hp_aload_n 2 dX9_season_212 rfl rfl (?_ : hp_G _ _ _ _ _ _ _ _ _ 213 _ _ _)
        refine hp_iload 6 dX9_season_213 rfl (?_ : hp_G _ _ _ _ _ _ _ _ _ 215 _ _ _)
        replace hf := ob_ hf
        obtain ⟨h41, eh41, hf⟩ := hf
        refine fpX9_101 rfl dX9_season_215 eh41 (?_ : hp_G _ _ _ _ _ _ _ _ _ 218 _ _ _)
        refine hp_iconst (v := 0) dX9_season_218 ic_0 (?_ : hp_G _ _ _ _ _ _ _ _ _ 219 _ _ _)
        refine hp_istore (lv' := [(11, .int 0), (10, .int r40), (9, .int r38.1), (0, .ref u0), (4, .int u4), (5, .int u5), (7, .int x15), (8, .int x28)]) dX9_season_219 (Nat.le_of_ble_eq_true rfl) rfl (?_ : hp_G _ _ _ _ _ _ _ _ _ 221 _ _ _)
        replace hf := ob_ hf
        obtain ⟨x49, ex49, hf⟩ := hf
        refine hp_sub [3, 5, 2, 1, 0] rfl ?_
        refine tlX9_season_221 l fu_ ex49 (fun y hy => ?_)
        obtain rfl := hy
        refine hp_iload 0 dX9_season_250 rfl (?_ : hp_G _ _ _ _ _ _ _ _ _ 252 _ _ _)
        refine hp_iconst (v := 1) dX9_season_252 ic_1 (?_ : hp_G _ _ _ _ _ _ _ _ _ 253 _ _ _)
        refine hp_icmp_ne (tgt := 261) dX9_season_253 rfl (fun c50 => ?_) (fun c50 => (?_ : hp_G _ _ _ _ _ _ _ _ _ 256 _ _ _))
        · replace hf := of_ c50 hf
          refine hp_iload 1 dX9_season_261 rfl (?_ : hp_G _ _ _ _ _ _ _ _ _ 263 _ _ _)
          refine hp_bipush (v := (-9)) dX9_season_263 bi_m9 (?_ : hp_G _ _ _ _ _ _ _ _ _ 265 _ _ _)
          refine hp_icmp_ne (tgt := 273) dX9_season_265 rfl (fun c51 => ?_) (fun c51 => (?_ : hp_G _ _ _ _ _ _ _ _ _ 268 _ _ _))
          · replace hf := of_ c51 hf
            refine hp_bipush (v := (-100)) dX9_season_273 bi_m100 (?_ : hp_G _ _ _ _ _ _ _ _ _ 275 _ _ _)
            refine hp_iload 1 dX9_season_275 rfl (?_ : hp_G _ _ _ _ _ _ _ _ _ 277 _ _ _)
            refine hp_isub dX9_season_277 (?_ : hp_G _ _ _ _ _ _ _ _ _ 278 _ _ _)
            obtain rfl := Option.some.inj hf
            exact hp_iret kr (fun z => z) rfl dX9_season_278
          · replace hf := ot_ c51 hf
            refine hp_iload 2 dX9_season_268 rfl (?_ : hp_G _ _ _ _ _ _ _ _ _ 270 _ _ _)
            refine hp_goto (tgt := 278) dX9_season_270 rfl (?_ : hp_G _ _ _ _ _ _ _ _ _ 278 _ _ _)
            obtain rfl := Option.some.inj hf
            exact hp_iret kr (fun z => z) rfl dX9_season_278
        · replace hf := ot_ c50 hf
          refine hp_iload 1 dX9_season_256 rfl (?_ : hp_G _ _ _ _ _ _ _ _ _ 258 _ _ _)
          refine hp_goto (tgt := 278) dX9_season_258 rfl (?_ : hp_G _ _ _ _ _ _ _ _ _ 278 _ _ _)
          obtain rfl := Option.some.inj hf
          exact hp_iret kr (fun z => z) rfl dX9_season_278
      · (try dsimp only at hf)
        refine tlX9_season_103 l fu_ ex25 (fun w hw => (by cases hw)) (fun w hw => ?_)
        obtain rfl := Sum.inr.inj hw
        obtain rfl := Option.some.inj hf
        exact kr
    · replace hf := ot_ c14 hf
      refine hp_bipush (v := (-3)) dX9_season_89 bi_m3 (?_ : hp_G _ _ _ _ _ _ _ _ _ 91 _ _ _)
      obtain rfl := Option.some.inj hf
      exact hp_iret kr (fun z => z) rfl dX9_season_91
  · replace hf := of_ c12 hf
    refine hp_aload_n 1 dX9_season_75 rfl rfl (?_ : hp_G _ _ _ _ _ _ _ _ _ 76 _ _ _)
    refine hp_iload 0 dX9_season_76 rfl (?_ : hp_G _ _ _ _ _ _ _ _ _ 78 _ _ _)
    replace hf := ob_ hf
    obtain ⟨o52, eo52, hf⟩ := hf
    replace hf := ob_ hf
    obtain ⟨r53, er53, hf⟩ := hf
    refine clX9_91 (as := [.int r11]) (st := []) rfl (kX9_fails l er53) rfl (by decide) (Nat.le_of_ble_eq_true rfl) eo52 dX9_season_78 rfl (?_ : hp_G _ _ _ _ _ _ _ _ _ 81 _ _ _)
    obtain rfl := Option.some.inj hf
    exact hp_iret kr (fun z => z) rfl dX9_season_81
noncomputable def fX9_season (h : hp_H) (a0 : Nat) (p1 : Int32) (p2 : Int32) (p3 : Int32) (p4 : Int32) (p5 : Int32) : Option (Int32 × hp_H) :=
(pi_ h a0 8 0 0).bind fun h1 =>
(fX9_isSheet h1 p1).bind fun r2 =>
if r2 = 0 then
(some ((-1), h1))
else
((fX9_isSort h1 p2).bind fun r4 =>
if r4 = 0 then
(some ((-2), h1))
else
((fX9_within h1 p4 0 20).bind fun r6 =>
if r6 = 0 then
(some ((-2), h1))
else
((fX9_within h1 p5 0 4).bind fun r8 =>
if r8 = 0 then
((fX9_within h1 p5 10 15).bind fun r54 =>
if r54 = 0 then
(some ((-2), h1))
else
(jX9_season_57 h1 a0 p1 p2 p3 p4 p5))
else
(jX9_season_57 h1 a0 p1 p2 p3 p4 p5))))
set_option maxRecDepth 20000 in
set_option maxHeartbeats 4000000 in
theorem tX9_season (l : Launch) {h : hp_H} {a0 : Nat} {p1 : Int32} {p2 : Int32} {p3 : Int32} {p4 : Int32} {p5 : Int32} {r : (Int32 × hp_H)} (hf : fX9_season h a0 p1 p2 p3 p4 p5 = some r) {Q : Option Value → hp_H → Prop} (kr : Q (some (.int r.1)) r.2) : hp_G l mX9_season none 4 false Q false 0 0 0 [(0, .ref a0), (1, .int p1), (2, .int p2), (3, .int p3), (4, .int p4), (5, .int p5)] [] h := by
  unfold fX9_season at hf
  refine hp_aload_n 0 dX9_season_0 rfl rfl (?_ : hp_G _ _ _ _ _ _ _ _ _ 1 _ _ _)
  refine hp_iconst (v := 0) dX9_season_1 ic_0 (?_ : hp_G _ _ _ _ _ _ _ _ _ 2 _ _ _)
  replace hf := ob_ hf
  obtain ⟨h1, eh1, hf⟩ := hf
  refine fpX9_61 rfl dX9_season_2 eh1 (?_ : hp_G _ _ _ _ _ _ _ _ _ 5 _ _ _)
  refine hp_iload_n 1 dX9_season_5 rfl rfl (?_ : hp_G _ _ _ _ _ _ _ _ _ 6 _ _ _)
  replace hf := ob_ hf
  obtain ⟨r2, er2, hf⟩ := hf
  refine clX9_81 (as := [.int p1]) (st := []) rfl (kX9_isSheet l er2) rfl (by decide) (Nat.le_of_ble_eq_true rfl) dX9_season_6 rfl (?_ : hp_G _ _ _ _ _ _ _ _ _ 9 _ _ _)
  refine hp_if_ne (tgt := 14) dX9_season_9 rfl (fun c3 => ?_) (fun c3 => (?_ : hp_G _ _ _ _ _ _ _ _ _ 12 _ _ _))
  · replace hf := of_ c3 hf
    refine hp_iload_n 2 dX9_season_14 rfl rfl (?_ : hp_G _ _ _ _ _ _ _ _ _ 15 _ _ _)
    replace hf := ob_ hf
    obtain ⟨r4, er4, hf⟩ := hf
    refine clX9_84 (as := [.int p2]) (st := []) rfl (kX9_isSort l er4) rfl (by decide) (Nat.le_of_ble_eq_true rfl) dX9_season_15 rfl (?_ : hp_G _ _ _ _ _ _ _ _ _ 18 _ _ _)
    refine hp_if_eq (tgt := 54) dX9_season_18 rfl (fun c5 => ?_) (fun c5 => (?_ : hp_G _ _ _ _ _ _ _ _ _ 21 _ _ _))
    · replace hf := ot_ c5 hf
      refine hp_bipush (v := (-2)) dX9_season_54 bi_m2 (?_ : hp_G _ _ _ _ _ _ _ _ _ 56 _ _ _)
      obtain rfl := Option.some.inj hf
      exact hp_iret kr (fun z => z) rfl dX9_season_56
    · replace hf := of_ c5 hf
      refine hp_iload 4 dX9_season_21 rfl (?_ : hp_G _ _ _ _ _ _ _ _ _ 23 _ _ _)
      refine hp_iconst (v := 0) dX9_season_23 ic_0 (?_ : hp_G _ _ _ _ _ _ _ _ _ 24 _ _ _)
      refine hp_bipush (v := 20) dX9_season_24 bi_20 (?_ : hp_G _ _ _ _ _ _ _ _ _ 26 _ _ _)
      replace hf := ob_ hf
      obtain ⟨r6, er6, hf⟩ := hf
      refine clX9_67 (as := [.int p4, .int 0, .int 20]) (st := []) rfl (kX9_within l er6) rfl (by decide) (Nat.le_of_ble_eq_true rfl) dX9_season_26 rfl (?_ : hp_G _ _ _ _ _ _ _ _ _ 29 _ _ _)
      refine hp_if_eq (tgt := 54) dX9_season_29 rfl (fun c7 => ?_) (fun c7 => (?_ : hp_G _ _ _ _ _ _ _ _ _ 32 _ _ _))
      · replace hf := ot_ c7 hf
        refine hp_bipush (v := (-2)) dX9_season_54 bi_m2 (?_ : hp_G _ _ _ _ _ _ _ _ _ 56 _ _ _)
        obtain rfl := Option.some.inj hf
        exact hp_iret kr (fun z => z) rfl dX9_season_56
      · replace hf := of_ c7 hf
        refine hp_iload 5 dX9_season_32 rfl (?_ : hp_G _ _ _ _ _ _ _ _ _ 34 _ _ _)
        refine hp_iconst (v := 0) dX9_season_34 ic_0 (?_ : hp_G _ _ _ _ _ _ _ _ _ 35 _ _ _)
        refine hp_iconst (v := 4) dX9_season_35 ic_4 (?_ : hp_G _ _ _ _ _ _ _ _ _ 36 _ _ _)
        replace hf := ob_ hf
        obtain ⟨r8, er8, hf⟩ := hf
        refine clX9_67 (as := [.int p5, .int 0, .int 4]) (st := []) rfl (kX9_within l er8) rfl (by decide) (Nat.le_of_ble_eq_true rfl) dX9_season_36 rfl (?_ : hp_G _ _ _ _ _ _ _ _ _ 39 _ _ _)
        refine hp_if_ne (tgt := 57) dX9_season_39 rfl (fun c9 => ?_) (fun c9 => (?_ : hp_G _ _ _ _ _ _ _ _ _ 42 _ _ _))
        · replace hf := of_ c9 hf
          exact hp_sub [0, 1, 2, 3, 4, 5] rfl (tjX9_season_57 l hf kr)
        · replace hf := ot_ c9 hf
          refine hp_iload 5 dX9_season_42 rfl (?_ : hp_G _ _ _ _ _ _ _ _ _ 44 _ _ _)
          refine hp_bipush (v := 10) dX9_season_44 bi_10 (?_ : hp_G _ _ _ _ _ _ _ _ _ 46 _ _ _)
          refine hp_bipush (v := 15) dX9_season_46 bi_15 (?_ : hp_G _ _ _ _ _ _ _ _ _ 48 _ _ _)
          replace hf := ob_ hf
          obtain ⟨r54, er54, hf⟩ := hf
          refine clX9_67 (as := [.int p5, .int 10, .int 15]) (st := []) rfl (kX9_within l er54) rfl (by decide) (Nat.le_of_ble_eq_true rfl) dX9_season_48 rfl (?_ : hp_G _ _ _ _ _ _ _ _ _ 51 _ _ _)
          refine hp_if_ne (tgt := 57) dX9_season_51 rfl (fun c55 => ?_) (fun c55 => (?_ : hp_G _ _ _ _ _ _ _ _ _ 54 _ _ _))
          · replace hf := of_ c55 hf
            exact hp_sub [0, 1, 2, 3, 4, 5] rfl (tjX9_season_57 l hf kr)
          · replace hf := ot_ c55 hf
            refine hp_bipush (v := (-2)) dX9_season_54 bi_m2 (?_ : hp_G _ _ _ _ _ _ _ _ _ 56 _ _ _)
            obtain rfl := Option.some.inj hf
            exact hp_iret kr (fun z => z) rfl dX9_season_56
  · replace hf := ot_ c3 hf
    refine hp_iconst (v := (-1)) dX9_season_12 ic_m1 (?_ : hp_G _ _ _ _ _ _ _ _ _ 13 _ _ _)
    obtain rfl := Option.some.inj hf
    exact hp_iret kr (fun z => z) rfl dX9_season_13
theorem kX9_season (l : Launch) {h : hp_H} {a0 : Nat} {p1 : Int32} {p2 : Int32} {p3 : Int32} {p4 : Int32} {p5 : Int32} {r : (Int32 × hp_H)} (hf : fX9_season h a0 p1 p2 p3 p4 p5 = some r) : hp_Cn l yX9_season mX9_season 4 false 0 0 [.ref a0, .int p1, .int p2, .int p3, .int p4, .int p5] h (fun v h2 => some (.int r.1) = v ∧ r.2 = h2) :=
  hp_of (by decide) rfl (fun z => by cases z) (Nat.le_of_ble_eq_true rfl) (tX9_season l hf ⟨rfl, rfl⟩)
noncomputable def fX8_safe (h : hp_H) (a0 : Nat) (p1 : Int32) (p2 : Int32) : Option Int32 :=
(gq_ h a0 7 0).bind fun x1 =>
(hg_o h x1 6).bind fun o2 =>
(fX7_hasTwo h x1 p1 p2).bind fun r3 =>
if r3 = 0 then
(some (-1))
else
((gq_ h a0 7 0).bind fun x5 =>
(gq_ h x5 6 0).bind fun x6 =>
(ql_ h x6 p1).bind fun x7 =>
(hg_o h x7 2).bind fun o8 =>
(fX2_worst h x7).bind fun r9 =>
(gq_ h a0 7 0).bind fun x10 =>
(gq_ h x10 6 0).bind fun x11 =>
(ql_ h x11 p2).bind fun x12 =>
(hg_o h x12 2).bind fun o13 =>
(fX2_worst h x12).bind fun r14 =>
if r14 < r9 then
(some 0)
else
(some 1))
set_option maxRecDepth 20000 in
set_option maxHeartbeats 4000000 in
theorem tX8_safe (l : Launch) {h : hp_H} {a0 : Nat} {p1 : Int32} {p2 : Int32} {r : Int32} (hf : fX8_safe h a0 p1 p2 = some r) {Q : Option Value → hp_H → Prop} (kr : Q (some (.int r)) h) : hp_G l mX8_safe none 2 false Q false 0 0 0 [(0, .ref a0), (1, .int p1), (2, .int p2)] [] h := by
  unfold fX8_safe at hf
  refine hp_aload_n 0 dX8_safe_0 rfl rfl (?_ : hp_G _ _ _ _ _ _ _ _ _ 1 _ _ _)
  replace hf := ob_ hf
  obtain ⟨x1, ex1, hf⟩ := hf
  refine fgX8_12 rfl dX8_safe_1 ex1 (?_ : hp_G _ _ _ _ _ _ _ _ _ 4 _ _ _)
  refine hp_iload_n 1 dX8_safe_4 rfl rfl (?_ : hp_G _ _ _ _ _ _ _ _ _ 5 _ _ _)
  refine hp_iload_n 2 dX8_safe_5 rfl rfl (?_ : hp_G _ _ _ _ _ _ _ _ _ 6 _ _ _)
  replace hf := ob_ hf
  obtain ⟨o2, eo2, hf⟩ := hf
  replace hf := ob_ hf
  obtain ⟨r3, er3, hf⟩ := hf
  refine clX8_119 (as := [.int p1, .int p2]) (st := []) rfl (kX7_hasTwo l er3) rfl (by decide) (Nat.le_of_ble_eq_true rfl) eo2 dX8_safe_6 rfl (?_ : hp_G _ _ _ _ _ _ _ _ _ 9 _ _ _)
  refine hp_if_ne (tgt := 14) dX8_safe_9 rfl (fun c4 => ?_) (fun c4 => (?_ : hp_G _ _ _ _ _ _ _ _ _ 12 _ _ _))
  · replace hf := of_ c4 hf
    refine hp_aload_n 0 dX8_safe_14 rfl rfl (?_ : hp_G _ _ _ _ _ _ _ _ _ 15 _ _ _)
    replace hf := ob_ hf
    obtain ⟨x5, ex5, hf⟩ := hf
    refine fgX8_12 rfl dX8_safe_15 ex5 (?_ : hp_G _ _ _ _ _ _ _ _ _ 18 _ _ _)
    replace hf := ob_ hf
    obtain ⟨x6, ex6, hf⟩ := hf
    refine fgX8_96 rfl dX8_safe_18 ex6 (?_ : hp_G _ _ _ _ _ _ _ _ _ 21 _ _ _)
    refine hp_iload_n 1 dX8_safe_21 rfl rfl (?_ : hp_G _ _ _ _ _ _ _ _ _ 22 _ _ _)
    replace hf := ob_ hf
    obtain ⟨x7, ex7, hf⟩ := hf
    refine hp_aaload dX8_safe_22 ex7 (?_ : hp_G _ _ _ _ _ _ _ _ _ 23 _ _ _)
    replace hf := ob_ hf
    obtain ⟨o8, eo8, hf⟩ := hf
    replace hf := ob_ hf
    obtain ⟨r9, er9, hf⟩ := hf
    refine clX8_109 (as := []) (st := []) rfl (kX2_worst l er9) rfl (by decide) (Nat.le_of_ble_eq_true rfl) eo8 dX8_safe_23 rfl (?_ : hp_G _ _ _ _ _ _ _ _ _ 26 _ _ _)
    refine hp_aload_n 0 dX8_safe_26 rfl rfl (?_ : hp_G _ _ _ _ _ _ _ _ _ 27 _ _ _)
    replace hf := ob_ hf
    obtain ⟨x10, ex10, hf⟩ := hf
    refine fgX8_12 rfl dX8_safe_27 ex10 (?_ : hp_G _ _ _ _ _ _ _ _ _ 30 _ _ _)
    replace hf := ob_ hf
    obtain ⟨x11, ex11, hf⟩ := hf
    refine fgX8_96 rfl dX8_safe_30 ex11 (?_ : hp_G _ _ _ _ _ _ _ _ _ 33 _ _ _)
    refine hp_iload_n 2 dX8_safe_33 rfl rfl (?_ : hp_G _ _ _ _ _ _ _ _ _ 34 _ _ _)
    replace hf := ob_ hf
    obtain ⟨x12, ex12, hf⟩ := hf
    refine hp_aaload dX8_safe_34 ex12 (?_ : hp_G _ _ _ _ _ _ _ _ _ 35 _ _ _)
    replace hf := ob_ hf
    obtain ⟨o13, eo13, hf⟩ := hf
    replace hf := ob_ hf
    obtain ⟨r14, er14, hf⟩ := hf
    refine clX8_109 (as := []) (st := [.int r9]) rfl (kX2_worst l er14) rfl (by decide) (Nat.le_of_ble_eq_true rfl) eo13 dX8_safe_35 rfl (?_ : hp_G _ _ _ _ _ _ _ _ _ 38 _ _ _)
    refine hp_icmp_gt (tgt := 45) dX8_safe_38 rfl (fun c15 => ?_) (fun c15 => (?_ : hp_G _ _ _ _ _ _ _ _ _ 41 _ _ _))
    · replace hf := ot_ c15 hf
      refine hp_iconst (v := 0) dX8_safe_45 ic_0 (?_ : hp_G _ _ _ _ _ _ _ _ _ 46 _ _ _)
      obtain rfl := Option.some.inj hf
      exact hp_iret kr (fun z => z) rfl dX8_safe_46
    · replace hf := of_ c15 hf
      refine hp_iconst (v := 1) dX8_safe_41 ic_1 (?_ : hp_G _ _ _ _ _ _ _ _ _ 42 _ _ _)
      refine hp_goto (tgt := 46) dX8_safe_42 rfl (?_ : hp_G _ _ _ _ _ _ _ _ _ 46 _ _ _)
      obtain rfl := Option.some.inj hf
      exact hp_iret kr (fun z => z) rfl dX8_safe_46
  · replace hf := ot_ c4 hf
    refine hp_iconst (v := (-1)) dX8_safe_12 ic_m1 (?_ : hp_G _ _ _ _ _ _ _ _ _ 13 _ _ _)
    obtain rfl := Option.some.inj hf
    exact hp_iret kr (fun z => z) rfl dX8_safe_13
theorem kX8_safe (l : Launch) {h : hp_H} {a0 : Nat} {p1 : Int32} {p2 : Int32} {r : Int32} (hf : fX8_safe h a0 p1 p2 = some r) : hp_Cn l yX8_safe mX8_safe 2 false 0 0 [.ref a0, .int p1, .int p2] h (fun v h2 => some (.int r) = v ∧ h = h2) :=
  hp_of (by decide) rfl (fun z => by cases z) (Nat.le_of_ble_eq_true rfl) (tX8_safe l hf ⟨rfl, rfl⟩)
noncomputable def fX9_safe (h : hp_H) (a0 : Nat) (p1 : Int32) (p2 : Int32) : Option Int32 :=
(hg_o h a0 8).bind fun o1 =>
(fX9_areTwo h a0 p1 p2).bind fun r2 =>
if r2 = 0 then
(some (-1))
else
((hg_o h a0 8).bind fun o4 =>
(fX9_worstOf h a0 p1).bind fun r5 =>
(hg_o h a0 8).bind fun o6 =>
(fX9_worstOf h a0 p2).bind fun r7 =>
if r7 < r5 then
(some 0)
else
(some 1))
set_option maxRecDepth 20000 in
set_option maxHeartbeats 4000000 in
theorem tX9_safe (l : Launch) {h : hp_H} {a0 : Nat} {p1 : Int32} {p2 : Int32} {r : Int32} (hf : fX9_safe h a0 p1 p2 = some r) {Q : Option Value → hp_H → Prop} (kr : Q (some (.int r)) h) : hp_G l mX9_safe none 2 false Q false 0 0 0 [(0, .ref a0), (1, .int p1), (2, .int p2)] [] h := by
  unfold fX9_safe at hf
  refine hp_aload_n 0 dX9_safe_0 rfl rfl (?_ : hp_G _ _ _ _ _ _ _ _ _ 1 _ _ _)
  refine hp_iload_n 1 dX9_safe_1 rfl rfl (?_ : hp_G _ _ _ _ _ _ _ _ _ 2 _ _ _)
  refine hp_iload_n 2 dX9_safe_2 rfl rfl (?_ : hp_G _ _ _ _ _ _ _ _ _ 3 _ _ _)
  replace hf := ob_ hf
  obtain ⟨o1, eo1, hf⟩ := hf
  replace hf := ob_ hf
  obtain ⟨r2, er2, hf⟩ := hf
  refine clX9_129 (as := [.int p1, .int p2]) (st := []) rfl (kX9_areTwo l er2) rfl (by decide) (Nat.le_of_ble_eq_true rfl) eo1 dX9_safe_3 rfl (?_ : hp_G _ _ _ _ _ _ _ _ _ 6 _ _ _)
  refine hp_if_ne (tgt := 11) dX9_safe_6 rfl (fun c3 => ?_) (fun c3 => (?_ : hp_G _ _ _ _ _ _ _ _ _ 9 _ _ _))
  · replace hf := of_ c3 hf
    refine hp_aload_n 0 dX9_safe_11 rfl rfl (?_ : hp_G _ _ _ _ _ _ _ _ _ 12 _ _ _)
    refine hp_iload_n 1 dX9_safe_12 rfl rfl (?_ : hp_G _ _ _ _ _ _ _ _ _ 13 _ _ _)
    replace hf := ob_ hf
    obtain ⟨o4, eo4, hf⟩ := hf
    replace hf := ob_ hf
    obtain ⟨r5, er5, hf⟩ := hf
    refine clX9_123 (as := [.int p1]) (st := []) rfl (kX9_worstOf l er5) rfl (by decide) (Nat.le_of_ble_eq_true rfl) eo4 dX9_safe_13 rfl (?_ : hp_G _ _ _ _ _ _ _ _ _ 16 _ _ _)
    refine hp_aload_n 0 dX9_safe_16 rfl rfl (?_ : hp_G _ _ _ _ _ _ _ _ _ 17 _ _ _)
    refine hp_iload_n 2 dX9_safe_17 rfl rfl (?_ : hp_G _ _ _ _ _ _ _ _ _ 18 _ _ _)
    replace hf := ob_ hf
    obtain ⟨o6, eo6, hf⟩ := hf
    replace hf := ob_ hf
    obtain ⟨r7, er7, hf⟩ := hf
    refine clX9_123 (as := [.int p2]) (st := [.int r5]) rfl (kX9_worstOf l er7) rfl (by decide) (Nat.le_of_ble_eq_true rfl) eo6 dX9_safe_18 rfl (?_ : hp_G _ _ _ _ _ _ _ _ _ 21 _ _ _)
    refine hp_icmp_gt (tgt := 28) dX9_safe_21 rfl (fun c8 => ?_) (fun c8 => (?_ : hp_G _ _ _ _ _ _ _ _ _ 24 _ _ _))
    · replace hf := ot_ c8 hf
      refine hp_iconst (v := 0) dX9_safe_28 ic_0 (?_ : hp_G _ _ _ _ _ _ _ _ _ 29 _ _ _)
      obtain rfl := Option.some.inj hf
      exact hp_iret kr (fun z => z) rfl dX9_safe_29
    · replace hf := of_ c8 hf
      refine hp_iconst (v := 1) dX9_safe_24 ic_1 (?_ : hp_G _ _ _ _ _ _ _ _ _ 25 _ _ _)
      refine hp_goto (tgt := 29) dX9_safe_25 rfl (?_ : hp_G _ _ _ _ _ _ _ _ _ 29 _ _ _)
      obtain rfl := Option.some.inj hf
      exact hp_iret kr (fun z => z) rfl dX9_safe_29
  · replace hf := ot_ c3 hf
    refine hp_iconst (v := (-1)) dX9_safe_9 ic_m1 (?_ : hp_G _ _ _ _ _ _ _ _ _ 10 _ _ _)
    obtain rfl := Option.some.inj hf
    exact hp_iret kr (fun z => z) rfl dX9_safe_10
theorem kX9_safe (l : Launch) {h : hp_H} {a0 : Nat} {p1 : Int32} {p2 : Int32} {r : Int32} (hf : fX9_safe h a0 p1 p2 = some r) : hp_Cn l yX9_safe mX9_safe 2 false 0 0 [.ref a0, .int p1, .int p2] h (fun v h2 => some (.int r) = v ∧ h = h2) :=
  hp_of (by decide) rfl (fun z => by cases z) (Nat.le_of_ble_eq_true rfl) (tX9_safe l hf ⟨rfl, rfl⟩)
noncomputable def jX8_sure_85_31 (h : hp_H) (v0 : Nat) (v1 : Int32) (v2 : Int32) (u3 : Int32) (u4 : Int32)  : Option ((Int32 × Int32) ⊕ Int32) :=
(some (u4 + 1)).bind fun x17 =>
some (.inl (u3, x17))
set_option maxRecDepth 20000 in
set_option maxHeartbeats 4000000 in
theorem tjX8_sure_85_31 (l : Launch) {h : hp_H} {v0 : Nat} {v1 : Int32} {v2 : Int32} {u3 : Int32} {u4 : Int32}  {r : ((Int32 × Int32) ⊕ Int32)} (hf : jX8_sure_85_31 h v0 v1 v2 u3 u4 = some r) {Q : Option Value → hp_H → Prop} (kb : ∀ t, r = .inl t → hp_G l mX8_sure none 2 false Q false 0 0 31 [(0, .ref v0), (1, .int v1), (2, .int v2), (3, .int t.1), (4, .int t.2)] [] h) (ke : ∀ x, r = .inr x → hp_G l mX8_sure none 2 false Q false 0 0 91 [(3, .int x)] [] h) : hp_G l mX8_sure none 2 false Q false 0 0 85 [(0, .ref v0), (1, .int v1), (2, .int v2), (3, .int u3), (4, .int u4)] [] h := by
  unfold jX8_sure_85_31 at hf
  replace hf := ob_ hf
  obtain ⟨x17, ex17, hf⟩ := hf
  refine hp_iinc (v := x17) (lv' := [(4, .int x17), (0, .ref v0), (1, .int v1), (2, .int v2), (3, .int u3)]) 4 dX8_sure_85 rfl (hp_inc ic_1 ex17) (Nat.le_of_ble_eq_true rfl) rfl (?_ : hp_G _ _ _ _ _ _ _ _ _ 88 _ _ _)
  refine hp_goto (tgt := 31) dX8_sure_88 rfl (?_ : hp_G _ _ _ _ _ _ _ _ _ 31 _ _ _)
  obtain rfl := Option.some.inj hf
  exact hp_sub [1, 2, 3, 4, 0] rfl (kb _ rfl)
noncomputable def bX8_sure_31 (h : hp_H) (v0 : Nat) (v1 : Int32) (v2 : Int32) (s : (Int32 × Int32)) : Option ((Int32 × Int32) ⊕ Int32) :=
(gq_ h v0 7 0).bind fun x10 =>
(gi_ h x10 6 1).bind fun x11 =>
if x11 ≤ s.2 then
(some (.inr s.1))
else
((gq_ h v0 7 0).bind fun x13 =>
(gq_ h x13 6 0).bind fun x14 =>
(ql_ h x14 s.2).bind fun x15 =>
if s.2 = v1 then
(jX8_sure_85_31 h v0 v1 v2 s.1 s.2)
else
((gi_ h x15 2 3).bind fun x18 =>
if x18 = 0 then
((hg_o h x15 2).bind fun o20 =>
(fX2_best h x15).bind fun r21 =>
if v2 ≤ r21 then
(jX8_sure_85_31 h v0 v1 v2 s.1 s.2)
else
((some (s.1 ||| ((1 : Int32) <<< (s.2 &&& 31)))).bind fun x23 =>
jX8_sure_85_31 h v0 v1 v2 x23 s.2))
else
(jX8_sure_85_31 h v0 v1 v2 s.1 s.2)))
set_option maxRecDepth 20000 in
set_option maxHeartbeats 4000000 in
theorem tbX8_sure_31 (l : Launch) {h : hp_H} {v0 : Nat} {v1 : Int32} {v2 : Int32}  {s : (Int32 × Int32)} {r : ((Int32 × Int32) ⊕ Int32)} (hf : bX8_sure_31 h  v0 v1 v2 s = some r) {Q : Option Value → hp_H → Prop} (kb : ∀ t, r = .inl t → hp_G l mX8_sure none 2 false Q false 0 0 31 [(0, .ref v0), (1, .int v1), (2, .int v2), (3, .int t.1), (4, .int t.2)] [] h) (ke : ∀ x, r = .inr x → hp_G l mX8_sure none 2 false Q false 0 0 91 [(3, .int x)] [] h) : hp_G l mX8_sure none 2 false Q false 0 0 31 [(0, .ref v0), (1, .int v1), (2, .int v2), (3, .int s.1), (4, .int s.2)] [] h := by
  unfold bX8_sure_31 at hf
  refine hp_iload 4 dX8_sure_31 rfl (?_ : hp_G _ _ _ _ _ _ _ _ _ 33 _ _ _)
  refine hp_aload_n 0 dX8_sure_33 rfl rfl (?_ : hp_G _ _ _ _ _ _ _ _ _ 34 _ _ _)
  replace hf := ob_ hf
  obtain ⟨x10, ex10, hf⟩ := hf
  refine fgX8_12 rfl dX8_sure_34 ex10 (?_ : hp_G _ _ _ _ _ _ _ _ _ 37 _ _ _)
  replace hf := ob_ hf
  obtain ⟨x11, ex11, hf⟩ := hf
  refine fgX8_92 rfl dX8_sure_37 ex11 (?_ : hp_G _ _ _ _ _ _ _ _ _ 40 _ _ _)
  refine hp_icmp_ge (tgt := 91) dX8_sure_40 rfl (fun c12 => ?_) (fun c12 => (?_ : hp_G _ _ _ _ _ _ _ _ _ 43 _ _ _))
  · replace hf := ot_ c12 hf
    obtain rfl := Option.some.inj hf
    exact hp_sub [3] rfl (ke _ rfl)
  · replace hf := of_ c12 hf
    refine hp_aload_n 0 dX8_sure_43 rfl rfl (?_ : hp_G _ _ _ _ _ _ _ _ _ 44 _ _ _)
    replace hf := ob_ hf
    obtain ⟨x13, ex13, hf⟩ := hf
    refine fgX8_12 rfl dX8_sure_44 ex13 (?_ : hp_G _ _ _ _ _ _ _ _ _ 47 _ _ _)
    replace hf := ob_ hf
    obtain ⟨x14, ex14, hf⟩ := hf
    refine fgX8_96 rfl dX8_sure_47 ex14 (?_ : hp_G _ _ _ _ _ _ _ _ _ 50 _ _ _)
    refine hp_iload 4 dX8_sure_50 rfl (?_ : hp_G _ _ _ _ _ _ _ _ _ 52 _ _ _)
    replace hf := ob_ hf
    obtain ⟨x15, ex15, hf⟩ := hf
    refine hp_aaload dX8_sure_52 ex15 (?_ : hp_G _ _ _ _ _ _ _ _ _ 53 _ _ _)
    refine hp_astore (lv' := [(5, .ref x15), (0, .ref v0), (1, .int v1), (2, .int v2), (3, .int s.1), (4, .int s.2)]) dX8_sure_53 (Nat.le_of_ble_eq_true rfl) rfl (?_ : hp_G _ _ _ _ _ _ _ _ _ 55 _ _ _)
    refine hp_iload 5 dX8_sure_55 rfl (?_ : hp_G _ _ _ _ _ _ _ _ _ 57 _ _ _)
    refine hp_iload_n 2 dX8_sure_57 rfl rfl (?_ : hp_G _ _ _ _ _ _ _ _ _ 58 _ _ _)
    refine hp_icmp_eq (tgt := 85) dX8_sure_58 rfl (fun c16 => ?_) (fun c16 => (?_ : hp_G _ _ _ _ _ _ _ _ _ 61 _ _ _))
    · replace hf := ot_ c16 hf
      exact hp_sub [1, 2, 3, 4, 5] rfl (tjX8_sure_85_31 l hf kb ke)
    · replace hf := of_ c16 hf
      refine hp_aload 0 dX8_sure_61 rfl (?_ : hp_G _ _ _ _ _ _ _ _ _ 63 _ _ _)
      replace hf := ob_ hf
      obtain ⟨x18, ex18, hf⟩ := hf
      refine fgX8_112 rfl dX8_sure_63 ex18 (?_ : hp_G _ _ _ _ _ _ _ _ _ 66 _ _ _)
      refine hp_if_ne (tgt := 85) dX8_sure_66 rfl (fun c19 => ?_) (fun c19 => (?_ : hp_G _ _ _ _ _ _ _ _ _ 69 _ _ _))
      · replace hf := of_ c19 hf
        exact hp_sub [1, 2, 3, 4, 5] rfl (tjX8_sure_85_31 l hf kb ke)
      · replace hf := ot_ c19 hf
        refine hp_iload_n 3 dX8_sure_69 rfl rfl (?_ : hp_G _ _ _ _ _ _ _ _ _ 70 _ _ _)
        refine hp_aload 0 dX8_sure_70 rfl (?_ : hp_G _ _ _ _ _ _ _ _ _ 72 _ _ _)
        replace hf := ob_ hf
        obtain ⟨o20, eo20, hf⟩ := hf
        replace hf := ob_ hf
        obtain ⟨r21, er21, hf⟩ := hf
        refine clX8_105 (as := []) (st := [.int v2]) rfl (kX2_best l er21) rfl (by decide) (Nat.le_of_ble_eq_true rfl) eo20 dX8_sure_72 rfl (?_ : hp_G _ _ _ _ _ _ _ _ _ 75 _ _ _)
        refine hp_icmp_le (tgt := 85) dX8_sure_75 rfl (fun c22 => ?_) (fun c22 => (?_ : hp_G _ _ _ _ _ _ _ _ _ 78 _ _ _))
        · replace hf := ot_ c22 hf
          exact hp_sub [1, 2, 3, 4, 5] rfl (tjX8_sure_85_31 l hf kb ke)
        · replace hf := of_ c22 hf
          refine hp_iload_n 4 dX8_sure_78 rfl rfl (?_ : hp_G _ _ _ _ _ _ _ _ _ 79 _ _ _)
          refine hp_iconst (v := 1) dX8_sure_79 ic_1 (?_ : hp_G _ _ _ _ _ _ _ _ _ 80 _ _ _)
          refine hp_iload 5 dX8_sure_80 rfl (?_ : hp_G _ _ _ _ _ _ _ _ _ 82 _ _ _)
          refine hp_ishl dX8_sure_82 (?_ : hp_G _ _ _ _ _ _ _ _ _ 83 _ _ _)
          refine hp_ior dX8_sure_83 (?_ : hp_G _ _ _ _ _ _ _ _ _ 84 _ _ _)
          replace hf := ob_ hf
          obtain ⟨x23, ex23, hf⟩ := hf
          refine hp_nmi ex23 ?_
          refine hp_istore_n (lv' := [(3, .int x23), (5, .ref x15), (0, .ref v0), (1, .int v1), (2, .int v2), (4, .int s.2)]) dX8_sure_84 rfl (Nat.le_of_ble_eq_true rfl) rfl (?_ : hp_G _ _ _ _ _ _ _ _ _ 85 _ _ _)
          exact hp_sub [2, 3, 4, 0, 5] rfl (tjX8_sure_85_31 l hf kb ke)
set_option maxRecDepth 20000 in
set_option maxHeartbeats 4000000 in
theorem tlX8_sure_31 (l : Launch) {h : hp_H} {v0 : Nat} {v1 : Int32} {v2 : Int32}  (q : Nat) {s : (Int32 × Int32)} {x : Int32} (hf : it_ (bX8_sure_31 h  v0 v1 v2) q s = some x) {Q : Option Value → hp_H → Prop} (ke : ∀ e, x = e → hp_G l mX8_sure none 2 false Q false 0 0 91 [(3, .int e)] [] h) : hp_G l mX8_sure none 2 false Q false 0 0 31 [(0, .ref v0), (1, .int v1), (2, .int v2), (3, .int s.1), (4, .int s.2)] [] h := by
  exact it_rule (f := bX8_sure_31 h  v0 v1 v2) (fun s => hp_G l mX8_sure none 2 false Q false 0 0 31 [(0, .ref v0), (1, .int v1), (2, .int v2), (3, .int s.1), (4, .int s.2)] [] h) (fun x => (∀ e, x = e → hp_G l mX8_sure none 2 false Q false 0 0 91 [(3, .int e)] [] h)) (fun s r h1 h2 h3 => tbX8_sure_31 l h1 (fun t e => h2 t e) (fun e he => h3 _ he _ rfl)) q s x hf ke
noncomputable def fX8_sure (h : hp_H) (a0 : Nat) (p1 : Int32) : Option Int32 :=
(gq_ h a0 7 0).bind fun x1 =>
(hg_o h x1 6).bind fun o2 =>
(fX7_has h x1 p1).bind fun r3 =>
if r3 = 0 then
(some (-1))
else
((gq_ h a0 7 0).bind fun x5 =>
(gq_ h x5 6 0).bind fun x6 =>
(ql_ h x6 p1).bind fun x7 =>
(hg_o h x7 2).bind fun o8 =>
(fX2_worst h x7).bind fun r9 =>
(it_ (bX8_sure_31 h a0 p1 r9) fu_ (0, 0)).bind fun x24 =>
some x24)
set_option maxRecDepth 20000 in
set_option maxHeartbeats 4000000 in
theorem tX8_sure (l : Launch) {h : hp_H} {a0 : Nat} {p1 : Int32} {r : Int32} (hf : fX8_sure h a0 p1 = some r) {Q : Option Value → hp_H → Prop} (kr : Q (some (.int r)) h) : hp_G l mX8_sure none 2 false Q false 0 0 0 [(0, .ref a0), (1, .int p1)] [] h := by
  unfold fX8_sure at hf
  refine hp_aload_n 0 dX8_sure_0 rfl rfl (?_ : hp_G _ _ _ _ _ _ _ _ _ 1 _ _ _)
  replace hf := ob_ hf
  obtain ⟨x1, ex1, hf⟩ := hf
  refine fgX8_12 rfl dX8_sure_1 ex1 (?_ : hp_G _ _ _ _ _ _ _ _ _ 4 _ _ _)
  refine hp_iload_n 1 dX8_sure_4 rfl rfl (?_ : hp_G _ _ _ _ _ _ _ _ _ 5 _ _ _)
  replace hf := ob_ hf
  obtain ⟨o2, eo2, hf⟩ := hf
  replace hf := ob_ hf
  obtain ⟨r3, er3, hf⟩ := hf
  refine clX8_93 (as := [.int p1]) (st := []) rfl (kX7_has l er3) rfl (by decide) (Nat.le_of_ble_eq_true rfl) eo2 dX8_sure_5 rfl (?_ : hp_G _ _ _ _ _ _ _ _ _ 8 _ _ _)
  refine hp_if_ne (tgt := 13) dX8_sure_8 rfl (fun c4 => ?_) (fun c4 => (?_ : hp_G _ _ _ _ _ _ _ _ _ 11 _ _ _))
  · replace hf := of_ c4 hf
    refine hp_aload_n 0 dX8_sure_13 rfl rfl (?_ : hp_G _ _ _ _ _ _ _ _ _ 14 _ _ _)
    replace hf := ob_ hf
    obtain ⟨x5, ex5, hf⟩ := hf
    refine fgX8_12 rfl dX8_sure_14 ex5 (?_ : hp_G _ _ _ _ _ _ _ _ _ 17 _ _ _)
    replace hf := ob_ hf
    obtain ⟨x6, ex6, hf⟩ := hf
    refine fgX8_96 rfl dX8_sure_17 ex6 (?_ : hp_G _ _ _ _ _ _ _ _ _ 20 _ _ _)
    refine hp_iload_n 1 dX8_sure_20 rfl rfl (?_ : hp_G _ _ _ _ _ _ _ _ _ 21 _ _ _)
    replace hf := ob_ hf
    obtain ⟨x7, ex7, hf⟩ := hf
    refine hp_aaload dX8_sure_21 ex7 (?_ : hp_G _ _ _ _ _ _ _ _ _ 22 _ _ _)
    replace hf := ob_ hf
    obtain ⟨o8, eo8, hf⟩ := hf
    replace hf := ob_ hf
    obtain ⟨r9, er9, hf⟩ := hf
    refine clX8_109 (as := []) (st := []) rfl (kX2_worst l er9) rfl (by decide) (Nat.le_of_ble_eq_true rfl) eo8 dX8_sure_22 rfl (?_ : hp_G _ _ _ _ _ _ _ _ _ 25 _ _ _)
    refine hp_istore_n (lv' := [(2, .int r9), (0, .ref a0), (1, .int p1)]) dX8_sure_25 rfl (Nat.le_of_ble_eq_true rfl) rfl (?_ : hp_G _ _ _ _ _ _ _ _ _ 26 _ _ _)
    refine hp_iconst (v := 0) dX8_sure_26 ic_0 (?_ : hp_G _ _ _ _ _ _ _ _ _ 27 _ _ _)
    refine hp_istore_n (lv' := [(3, .int 0), (2, .int r9), (0, .ref a0), (1, .int p1)]) dX8_sure_27 rfl (Nat.le_of_ble_eq_true rfl) rfl (?_ : hp_G _ _ _ _ _ _ _ _ _ 28 _ _ _)
    refine hp_iconst (v := 0) dX8_sure_28 ic_0 (?_ : hp_G _ _ _ _ _ _ _ _ _ 29 _ _ _)
    refine hp_istore (lv' := [(4, .int 0), (3, .int 0), (2, .int r9), (0, .ref a0), (1, .int p1)]) dX8_sure_29 (Nat.le_of_ble_eq_true rfl) rfl (?_ : hp_G _ _ _ _ _ _ _ _ _ 31 _ _ _)
    replace hf := ob_ hf
    obtain ⟨x24, ex24, hf⟩ := hf
    refine hp_sub [3, 4, 2, 1, 0] rfl ?_
    refine tlX8_sure_31 l fu_ ex24 (fun y hy => ?_)
    obtain rfl := hy
    refine hp_iload_n 0 dX8_sure_91 rfl rfl (?_ : hp_G _ _ _ _ _ _ _ _ _ 92 _ _ _)
    obtain rfl := Option.some.inj hf
    exact hp_iret kr (fun z => z) rfl dX8_sure_92
  · replace hf := ot_ c4 hf
    refine hp_iconst (v := (-1)) dX8_sure_11 ic_m1 (?_ : hp_G _ _ _ _ _ _ _ _ _ 12 _ _ _)
    obtain rfl := Option.some.inj hf
    exact hp_iret kr (fun z => z) rfl dX8_sure_12
theorem kX8_sure (l : Launch) {h : hp_H} {a0 : Nat} {p1 : Int32} {r : Int32} (hf : fX8_sure h a0 p1 = some r) : hp_Cn l yX8_sure mX8_sure 2 false 0 0 [.ref a0, .int p1] h (fun v h2 => some (.int r) = v ∧ h = h2) :=
  hp_of (by decide) rfl (fun z => by cases z) (Nat.le_of_ble_eq_true rfl) (tX8_sure l hf ⟨rfl, rfl⟩)
noncomputable def jX9_sure_59_14 (h : hp_H) (v0 : Nat) (v1 : Int32) (u3 : Int32) (k0 : Int32) (k1 : Int32) : Option ((Int32 × Int32) ⊕ Int32) :=
(some (k1 ||| k0)).bind fun x7 =>
(some (u3 + 1)).bind fun x8 =>
some (.inl (x7, x8))
set_option maxRecDepth 20000 in
set_option maxHeartbeats 4000000 in
theorem tjX9_sure_59_14 (l : Launch) {h : hp_H} {v0 : Nat} {v1 : Int32} {u3 : Int32} {k0 : Int32} {k1 : Int32} {r : ((Int32 × Int32) ⊕ Int32)} (hf : jX9_sure_59_14 h v0 v1 u3 k0 k1 = some r) {Q : Option Value → hp_H → Prop} (kb : ∀ t, r = .inl t → hp_G l mX9_sure none 2 false Q false 0 0 14 [(0, .ref v0), (1, .int v1), (2, .int t.1), (3, .int t.2)] [] h) (ke : ∀ x, r = .inr x → hp_G l mX9_sure none 2 false Q false 0 0 67 [(2, .int x)] [] h) : hp_G l mX9_sure none 2 false Q false 0 0 59 [(0, .ref v0), (1, .int v1), (3, .int u3)] [.int k0, .int k1] h := by
  unfold jX9_sure_59_14 at hf
  refine hp_ior dX9_sure_59 (?_ : hp_G _ _ _ _ _ _ _ _ _ 60 _ _ _)
  replace hf := ob_ hf
  obtain ⟨x7, ex7, hf⟩ := hf
  refine hp_nmi ex7 ?_
  refine hp_istore_n (lv' := [(2, .int x7), (0, .ref v0), (1, .int v1), (3, .int u3)]) dX9_sure_60 rfl (Nat.le_of_ble_eq_true rfl) rfl (?_ : hp_G _ _ _ _ _ _ _ _ _ 61 _ _ _)
  replace hf := ob_ hf
  obtain ⟨x8, ex8, hf⟩ := hf
  refine hp_iinc (v := x8) (lv' := [(3, .int x8), (2, .int x7), (0, .ref v0), (1, .int v1)]) 3 dX9_sure_61 rfl (hp_inc ic_1 ex8) (Nat.le_of_ble_eq_true rfl) rfl (?_ : hp_G _ _ _ _ _ _ _ _ _ 64 _ _ _)
  refine hp_goto (tgt := 14) dX9_sure_64 rfl (?_ : hp_G _ _ _ _ _ _ _ _ _ 14 _ _ _)
  obtain rfl := Option.some.inj hf
  exact hp_sub [2, 3, 1, 0] rfl (kb _ rfl)
noncomputable def jX9_sure_58_14 (h : hp_H) (v0 : Nat) (v1 : Int32) (u3 : Int32) (k0 : Int32) : Option ((Int32 × Int32) ⊕ Int32) :=
jX9_sure_59_14 h v0 v1 u3 0 k0
set_option maxRecDepth 20000 in
set_option maxHeartbeats 4000000 in
theorem tjX9_sure_58_14 (l : Launch) {h : hp_H} {v0 : Nat} {v1 : Int32} {u3 : Int32} {k0 : Int32} {r : ((Int32 × Int32) ⊕ Int32)} (hf : jX9_sure_58_14 h v0 v1 u3 k0 = some r) {Q : Option Value → hp_H → Prop} (kb : ∀ t, r = .inl t → hp_G l mX9_sure none 2 false Q false 0 0 14 [(0, .ref v0), (1, .int v1), (2, .int t.1), (3, .int t.2)] [] h) (ke : ∀ x, r = .inr x → hp_G l mX9_sure none 2 false Q false 0 0 67 [(2, .int x)] [] h) : hp_G l mX9_sure none 2 false Q false 0 0 58 [(0, .ref v0), (1, .int v1), (3, .int u3)] [.int k0] h := by
  unfold jX9_sure_58_14 at hf
  refine hp_iconst (v := 0) dX9_sure_58 ic_0 (?_ : hp_G _ _ _ _ _ _ _ _ _ 59 _ _ _)
  exact hp_sub [0, 1, 2] rfl (tjX9_sure_59_14 l hf kb ke)
noncomputable def bX9_sure_14 (h : hp_H) (v0 : Nat) (v1 : Int32) (s : (Int32 × Int32)) : Option ((Int32 × Int32) ⊕ Int32) :=
(gi_ h v0 8 5).bind fun x4 =>
if x4 ≤ s.2 then
(some (.inr s.1))
else
(if s.2 = v1 then
(jX9_sure_58_14 h v0 v1 s.2 s.1)
else
((gi_ h v0 8 6).bind fun x9 =>
(fX9_isOf h x9 s.2).bind fun r10 =>
if r10 = 0 then
((hg_o h v0 8).bind fun o12 =>
(fX9_worstOf h v0 v1).bind fun r13 =>
(hg_o h v0 8).bind fun o14 =>
(fX9_bestOf h v0 s.2).bind fun r15 =>
if r13 ≤ r15 then
(jX9_sure_58_14 h v0 v1 s.2 s.1)
else
(jX9_sure_59_14 h v0 v1 s.2 ((1 : Int32) <<< (s.2 &&& 31)) s.1))
else
(jX9_sure_58_14 h v0 v1 s.2 s.1)))
set_option maxRecDepth 20000 in
set_option maxHeartbeats 4000000 in
theorem tbX9_sure_14 (l : Launch) {h : hp_H} {v0 : Nat} {v1 : Int32}  {s : (Int32 × Int32)} {r : ((Int32 × Int32) ⊕ Int32)} (hf : bX9_sure_14 h  v0 v1 s = some r) {Q : Option Value → hp_H → Prop} (kb : ∀ t, r = .inl t → hp_G l mX9_sure none 2 false Q false 0 0 14 [(0, .ref v0), (1, .int v1), (2, .int t.1), (3, .int t.2)] [] h) (ke : ∀ x, r = .inr x → hp_G l mX9_sure none 2 false Q false 0 0 67 [(2, .int x)] [] h) : hp_G l mX9_sure none 2 false Q false 0 0 14 [(0, .ref v0), (1, .int v1), (2, .int s.1), (3, .int s.2)] [] h := by
  unfold bX9_sure_14 at hf
  refine hp_iload_n 3 dX9_sure_14 rfl rfl (?_ : hp_G _ _ _ _ _ _ _ _ _ 15 _ _ _)
  refine hp_aload_n 0 dX9_sure_15 rfl rfl (?_ : hp_G _ _ _ _ _ _ _ _ _ 16 _ _ _)
  replace hf := ob_ hf
  obtain ⟨x4, ex4, hf⟩ := hf
  refine fgX9_71 rfl dX9_sure_16 ex4 (?_ : hp_G _ _ _ _ _ _ _ _ _ 19 _ _ _)
  refine hp_icmp_ge (tgt := 67) dX9_sure_19 rfl (fun c5 => ?_) (fun c5 => (?_ : hp_G _ _ _ _ _ _ _ _ _ 22 _ _ _))
  · replace hf := ot_ c5 hf
    obtain rfl := Option.some.inj hf
    exact hp_sub [2] rfl (ke _ rfl)
  · replace hf := of_ c5 hf
    refine hp_iload_n 2 dX9_sure_22 rfl rfl (?_ : hp_G _ _ _ _ _ _ _ _ _ 23 _ _ _)
    refine hp_iload_n 3 dX9_sure_23 rfl rfl (?_ : hp_G _ _ _ _ _ _ _ _ _ 24 _ _ _)
    refine hp_iload_n 1 dX9_sure_24 rfl rfl (?_ : hp_G _ _ _ _ _ _ _ _ _ 25 _ _ _)
    refine hp_icmp_eq (tgt := 58) dX9_sure_25 rfl (fun c6 => ?_) (fun c6 => (?_ : hp_G _ _ _ _ _ _ _ _ _ 28 _ _ _))
    · replace hf := ot_ c6 hf
      exact hp_sub [0, 1, 3] rfl (tjX9_sure_58_14 l hf kb ke)
    · replace hf := of_ c6 hf
      refine hp_aload_n 0 dX9_sure_28 rfl rfl (?_ : hp_G _ _ _ _ _ _ _ _ _ 29 _ _ _)
      replace hf := ob_ hf
      obtain ⟨x9, ex9, hf⟩ := hf
      refine fgX9_101 rfl dX9_sure_29 ex9 (?_ : hp_G _ _ _ _ _ _ _ _ _ 32 _ _ _)
      refine hp_iload_n 3 dX9_sure_32 rfl rfl (?_ : hp_G _ _ _ _ _ _ _ _ _ 33 _ _ _)
      replace hf := ob_ hf
      obtain ⟨r10, er10, hf⟩ := hf
      refine clX9_126 (as := [.int x9, .int s.2]) (st := [.int s.1]) rfl (kX9_isOf l er10) rfl (by decide) (Nat.le_of_ble_eq_true rfl) dX9_sure_33 rfl (?_ : hp_G _ _ _ _ _ _ _ _ _ 36 _ _ _)
      refine hp_if_ne (tgt := 58) dX9_sure_36 rfl (fun c11 => ?_) (fun c11 => (?_ : hp_G _ _ _ _ _ _ _ _ _ 39 _ _ _))
      · replace hf := of_ c11 hf
        exact hp_sub [0, 1, 3] rfl (tjX9_sure_58_14 l hf kb ke)
      · replace hf := ot_ c11 hf
        refine hp_aload_n 0 dX9_sure_39 rfl rfl (?_ : hp_G _ _ _ _ _ _ _ _ _ 40 _ _ _)
        refine hp_iload_n 1 dX9_sure_40 rfl rfl (?_ : hp_G _ _ _ _ _ _ _ _ _ 41 _ _ _)
        replace hf := ob_ hf
        obtain ⟨o12, eo12, hf⟩ := hf
        replace hf := ob_ hf
        obtain ⟨r13, er13, hf⟩ := hf
        refine clX9_123 (as := [.int v1]) (st := [.int s.1]) rfl (kX9_worstOf l er13) rfl (by decide) (Nat.le_of_ble_eq_true rfl) eo12 dX9_sure_41 rfl (?_ : hp_G _ _ _ _ _ _ _ _ _ 44 _ _ _)
        refine hp_aload_n 0 dX9_sure_44 rfl rfl (?_ : hp_G _ _ _ _ _ _ _ _ _ 45 _ _ _)
        refine hp_iload_n 3 dX9_sure_45 rfl rfl (?_ : hp_G _ _ _ _ _ _ _ _ _ 46 _ _ _)
        replace hf := ob_ hf
        obtain ⟨o14, eo14, hf⟩ := hf
        replace hf := ob_ hf
        obtain ⟨r15, er15, hf⟩ := hf
        refine clX9_120 (as := [.int s.2]) (st := [.int r13, .int s.1]) rfl (kX9_bestOf l er15) rfl (by decide) (Nat.le_of_ble_eq_true rfl) eo14 dX9_sure_46 rfl (?_ : hp_G _ _ _ _ _ _ _ _ _ 49 _ _ _)
        refine hp_icmp_le (tgt := 58) dX9_sure_49 rfl (fun c16 => ?_) (fun c16 => (?_ : hp_G _ _ _ _ _ _ _ _ _ 52 _ _ _))
        · replace hf := ot_ c16 hf
          exact hp_sub [0, 1, 3] rfl (tjX9_sure_58_14 l hf kb ke)
        · replace hf := of_ c16 hf
          refine hp_iconst (v := 1) dX9_sure_52 ic_1 (?_ : hp_G _ _ _ _ _ _ _ _ _ 53 _ _ _)
          refine hp_iload_n 3 dX9_sure_53 rfl rfl (?_ : hp_G _ _ _ _ _ _ _ _ _ 54 _ _ _)
          refine hp_ishl dX9_sure_54 (?_ : hp_G _ _ _ _ _ _ _ _ _ 55 _ _ _)
          refine hp_goto (tgt := 59) dX9_sure_55 rfl (?_ : hp_G _ _ _ _ _ _ _ _ _ 59 _ _ _)
          exact hp_sub [0, 1, 3] rfl (tjX9_sure_59_14 l hf kb ke)
set_option maxRecDepth 20000 in
set_option maxHeartbeats 4000000 in
theorem tlX9_sure_14 (l : Launch) {h : hp_H} {v0 : Nat} {v1 : Int32}  (q : Nat) {s : (Int32 × Int32)} {x : Int32} (hf : it_ (bX9_sure_14 h  v0 v1) q s = some x) {Q : Option Value → hp_H → Prop} (ke : ∀ e, x = e → hp_G l mX9_sure none 2 false Q false 0 0 67 [(2, .int e)] [] h) : hp_G l mX9_sure none 2 false Q false 0 0 14 [(0, .ref v0), (1, .int v1), (2, .int s.1), (3, .int s.2)] [] h := by
  exact it_rule (f := bX9_sure_14 h  v0 v1) (fun s => hp_G l mX9_sure none 2 false Q false 0 0 14 [(0, .ref v0), (1, .int v1), (2, .int s.1), (3, .int s.2)] [] h) (fun x => (∀ e, x = e → hp_G l mX9_sure none 2 false Q false 0 0 67 [(2, .int e)] [] h)) (fun s r h1 h2 h3 => tbX9_sure_14 l h1 (fun t e => h2 t e) (fun e he => h3 _ he _ rfl)) q s x hf ke
noncomputable def fX9_sure (h : hp_H) (a0 : Nat) (p1 : Int32) : Option Int32 :=
(hg_o h a0 8).bind fun o1 =>
(fX9_isPerson h a0 p1).bind fun r2 =>
if r2 = 0 then
(some (-1))
else
((it_ (bX9_sure_14 h a0 p1) fu_ (0, 0)).bind fun x17 =>
some x17)
set_option maxRecDepth 20000 in
set_option maxHeartbeats 4000000 in
theorem tX9_sure (l : Launch) {h : hp_H} {a0 : Nat} {p1 : Int32} {r : Int32} (hf : fX9_sure h a0 p1 = some r) {Q : Option Value → hp_H → Prop} (kr : Q (some (.int r)) h) : hp_G l mX9_sure none 2 false Q false 0 0 0 [(0, .ref a0), (1, .int p1)] [] h := by
  unfold fX9_sure at hf
  refine hp_aload_n 0 dX9_sure_0 rfl rfl (?_ : hp_G _ _ _ _ _ _ _ _ _ 1 _ _ _)
  refine hp_iload_n 1 dX9_sure_1 rfl rfl (?_ : hp_G _ _ _ _ _ _ _ _ _ 2 _ _ _)
  replace hf := ob_ hf
  obtain ⟨o1, eo1, hf⟩ := hf
  replace hf := ob_ hf
  obtain ⟨r2, er2, hf⟩ := hf
  refine clX9_74 (as := [.int p1]) (st := []) rfl (kX9_isPerson l er2) rfl (by decide) (Nat.le_of_ble_eq_true rfl) eo1 dX9_sure_2 rfl (?_ : hp_G _ _ _ _ _ _ _ _ _ 5 _ _ _)
  refine hp_if_ne (tgt := 10) dX9_sure_5 rfl (fun c3 => ?_) (fun c3 => (?_ : hp_G _ _ _ _ _ _ _ _ _ 8 _ _ _))
  · replace hf := of_ c3 hf
    refine hp_iconst (v := 0) dX9_sure_10 ic_0 (?_ : hp_G _ _ _ _ _ _ _ _ _ 11 _ _ _)
    refine hp_istore_n (lv' := [(2, .int 0), (0, .ref a0), (1, .int p1)]) dX9_sure_11 rfl (Nat.le_of_ble_eq_true rfl) rfl (?_ : hp_G _ _ _ _ _ _ _ _ _ 12 _ _ _)
    refine hp_iconst (v := 0) dX9_sure_12 ic_0 (?_ : hp_G _ _ _ _ _ _ _ _ _ 13 _ _ _)
    refine hp_istore_n (lv' := [(3, .int 0), (2, .int 0), (0, .ref a0), (1, .int p1)]) dX9_sure_13 rfl (Nat.le_of_ble_eq_true rfl) rfl (?_ : hp_G _ _ _ _ _ _ _ _ _ 14 _ _ _)
    replace hf := ob_ hf
    obtain ⟨x17, ex17, hf⟩ := hf
    refine hp_sub [2, 3, 1, 0] rfl ?_
    refine tlX9_sure_14 l fu_ ex17 (fun y hy => ?_)
    obtain rfl := hy
    refine hp_iload_n 0 dX9_sure_67 rfl rfl (?_ : hp_G _ _ _ _ _ _ _ _ _ 68 _ _ _)
    obtain rfl := Option.some.inj hf
    exact hp_iret kr (fun z => z) rfl dX9_sure_68
  · replace hf := ot_ c3 hf
    refine hp_iconst (v := (-1)) dX9_sure_8 ic_m1 (?_ : hp_G _ _ _ _ _ _ _ _ _ 9 _ _ _)
    obtain rfl := Option.some.inj hf
    exact hp_iret kr (fun z => z) rfl dX9_sure_9
theorem kX9_sure (l : Launch) {h : hp_H} {a0 : Nat} {p1 : Int32} {r : Int32} (hf : fX9_sure h a0 p1 = some r) : hp_Cn l yX9_sure mX9_sure 2 false 0 0 [.ref a0, .int p1] h (fun v h2 => some (.int r) = v ∧ h = h2) :=
  hp_of (by decide) rfl (fun z => by cases z) (Nat.le_of_ble_eq_true rfl) (tX9_sure l hf ⟨rfl, rfl⟩)
