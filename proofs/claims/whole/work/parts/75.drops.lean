/-! drops -/
theorem tw_at {n m : Nat} {g : Nat → Int32} (hn : n ≤ 6) (h : rw_ n g 0 m = true) : ∃ a b : Nat → Nat, ∀ t, t < m → g (2 * t) = nI (a t) ∧ g (2 * t + 1) = nI (b t) ∧ a t < n ∧ b t < n ∧ a t ≠ b t := by
  refine ⟨fun t => (g (2 * t)).toNatClampNeg, fun t => (g (2 * t + 1)).toNatClampNeg, fun t ht => ?_⟩
  have h1 := rw_all m 0 h t ht
  rw [Nat.zero_add] at h1
  obtain ⟨x, y, hx, hy, hne, e1, e2⟩ := t2_at hn h1
  dsimp only
  rw [e1, e2, nI_clamp (by omega), nI_clamp (by omega)]
  exact ⟨rfl, rfl, hx, hy, hne⟩
theorem M_isX {h : hp_H} {X j : Nat} (hX : X < 2 ^ 31) (hj : j < 10) : fX9_isOf h (nI X) (nI j) = some (bi_ (X.testBit j)) := by
  unfold fX9_isOf
  rw [xbit hX hj]
  cases X.testBit j
  · rw [if_neg (by decide)]; rfl
  · rw [if_pos rfl]; rfl
set_option maxRecDepth 100000 in
theorem C_bcX {h : hp_H} : ∀ G, G < 1024 → fJ6_bitCount_0f7a4 h (nI G) = some (nI (pcN_ 10 G)) := by
  intro G hG
  rw [bc_eq]
  unfold bc_ fJ6_bitCount_0f7a4
  simp only [Option.bind_some]
  revert G
  decide +kernel
theorem M_sizeX {h : hp_H} {G : Nat} (hG : G < 1024) : fX9_size h (nI G) = some (nI (pcN_ 10 G)) := by
  unfold fX9_size
  have e : it_ (bX9_size_4 h) fu_ (0, nI G) = some (nI (0 + pcN_ 10 G)) := size_it (h := h) 10 G 0 fu_ hG (fu_gt (by decide)) (by decide)
  rw [e, Nat.zero_add]
  rfl
section DRP
variable {z : Nat → Int32} {f : Nat → Nat → Int32} {n m : Nat} {a b : Nat → Nat}
theorem M_ioi {cc X L : Nat} {x : Int32} (hn : n ≤ 6) (hm : m ≤ 10) (hcc : cc + 2 * m ≤ 240) (hX : X < 2 ^ 31) (hL : L < 64) (hf : ∀ t, t < m → f 43 (cc + 2 * t) = nI (a t) ∧ f 43 (cc + 2 * t + 1) = nI (b t) ∧ a t < n ∧ b t < n) : it_ (bX9_isOrder_28 (HH z f) 40 (nI cc) (nI m) (nI X) (nI L) x) fu_ (0, 0) = some (nI (bl_ (fun t => !(X.testBit t)) a b L m)) := by
  refine it_at (fun j => (nI (bl_ (fun t => !(X.testBit t)) a b L j), nI j)) m ?_ (fun j hj => ?_) ?_ fu_ (fu_gt (by omega))
  · (try dsimp only)
    rw [show bl_ (fun t => !(X.testBit t)) a b L 0 = 0 from rfl, nI_0]
  · obtain ⟨e1, e2, a6, b6⟩ := hf j hj
    have h64 : bl_ (fun t => !(X.testBit t)) a b L j < 64 := btb_lt (n := 6) j (fun t ht => by have := (hf t (by omega)).2.2.2; omega)
    have hor := g_or _ h64 (b j) (by omega)
    have e8 : bl_ (fun t => !(X.testBit t)) a b L (j + 1) = if (((!(X.testBit j)) && L.testBit (a j)) && decide (0 = 0)) = true then bl_ (fun t => !(X.testBit t)) a b L j ||| 2 ^ b j else bl_ (fun t => !(X.testBit t)) a b L j := rfl
    (try dsimp only)
    unfold bX9_isOrder_28 jX9_isOrder_66_28 jX9_isOrder_67_28 jX9_isOrder_95_28
    rw [if_neg (nI_ge hj (by omega))]
    simp only [M_isX hX (show j < 10 by omega), q_40_4, ix2, nI_1, al43 (show cc + 2 * j < 240 by omega), al43 (show cc + 2 * j + 1 < 240 by omega), e1, e2, M_isOf hL (show a j < 6 by omega), Option.bind_some]
    rw [e8]
    cases c1 : X.testBit j
    · cases c2 : L.testBit (a j)
      · simp only [b_f, if_true, Int32.or_zero, Bool.not_false, Bool.true_and, Bool.false_and, Bool.false_eq_true, if_false]
      · simp only [b_f, b_t, n10_, if_true, if_false, hor, Bool.not_false, Bool.true_and, decide_true]
    · simp only [b_t, n10_, if_true, if_false, Int32.or_zero, Bool.not_true, Bool.false_and, Bool.false_eq_true]
  · (try dsimp only)
    unfold bX9_isOrder_28
    rw [if_pos (nI_le (Nat.le_refl m) (by omega))]
theorem M_io {cc X : Nat} (hn : n ≤ 6) (hm : m ≤ 10) (hcc : cc + 2 * m ≤ 240) (hX : X < 2 ^ 31) (h85 : z 1285 = nI n) (hf : ∀ t, t < m → f 43 (cc + 2 * t) = nI (a t) ∧ f 43 (cc + 2 * t + 1) = nI (b t) ∧ a t < n ∧ b t < n) : fX9_isOrder (HH z f) 40 (nI cc) (nI m) (nI X) = some (bi_ (decide (lf_ n m (fun t => !(X.testBit t)) a b n = 0))) := by
  have hall : (1 : Int32) <<< (nI n &&& 31) - 1 = nI (2 ^ n - 1) := by
    rw [g_sh n (by omega), show nI (2 ^ n) - 1 = nI (2 ^ n - 1) from pk_sub (b := 1) (Nat.two_pow_pos n)]
  have hlo : it_ (bX9_isOrder_13 (HH z f) 40 (nI cc) (nI m) (nI X)) fu_ (nI (2 ^ n - 1), 0) = some (nI (lf_ n m (fun t => !(X.testBit t)) a b n)) := by
    refine it_at (fun j => (nI (lf_ n m (fun t => !(X.testBit t)) a b j), nI j)) n ?_ (fun j hj => ?_) ?_ fu_ (fu_gt (by omega))
    · (try dsimp only)
      rw [show lf_ n m (fun t => !(X.testBit t)) a b 0 = 2 ^ n - 1 from rfl, nI_0]
    · have h1 : lf_ n m (fun t => !(X.testBit t)) a b j < 64 := Nat.lt_of_lt_of_le (lf_lt j) (pw6 hn)
      have h2 : bl_ (fun t => !(X.testBit t)) a b (lf_ n m (fun t => !(X.testBit t)) a b j) m < 64 := Nat.lt_of_lt_of_le (btb_lt m (fun t ht => (hf t ht).2.2.2)) (pw6 hn)
      (try dsimp only)
      unfold bX9_isOrder_13
      simp only [g_40_5, h85, Option.bind_some]
      rw [if_neg (nI_ge hj (by omega)), M_ioi hn hm hcc hX h1 hf, Option.bind_some, nI_1, g_and _ h1 _ h2]
      rfl
    · (try dsimp only)
      unfold bX9_isOrder_13
      simp only [g_40_5, h85, Option.bind_some]
      rw [if_pos (nI_le (Nat.le_refl n) (by omega))]
  have h1 : lf_ n m (fun t => !(X.testBit t)) a b n < 64 := Nat.lt_of_lt_of_le (lf_lt n) (pw6 hn)
  unfold fX9_isOrder
  simp only [g_40_5, h85, hall, hlo, Option.bind_some]
  by_cases c : lf_ n m (fun t => !(X.testBit t)) a b n = 0
  · rw [decide_eq_true c, c, nI_0, if_pos rfl, b_t]
  · rw [decide_eq_false c, if_neg (nI_ne0 (by omega) (by omega)), b_f]
def bv_ : Option Nat → Int32
  | none => -9
  | some x => nI x
theorem M_dl {cc : Nat} (hn : n ≤ 6) (hm : m ≤ 10) (hcc : cc + 2 * m ≤ 240) (h85 : z 1285 = nI n) (hf : ∀ t, t < m → f 43 (cc + 2 * t) = nI (a t) ∧ f 43 (cc + 2 * t + 1) = nI (b t) ∧ a t < n ∧ b t < n) : ∀ (d x : Nat) (s : Option Nat) (fuel : Nat), x + d = 2 ^ m → d < fuel → (∀ y, s = some y → y < 1024) → it_ (bX9_drops_98 (HH z f) 40 (nI m) (nI cc)) fuel (bv_ s, nI x) = some (bv_ (db_ (fun X => decide (lf_ n m (fun t => !(X.testBit t)) a b n = 0)) d x s)) := by
  have hpw : 2 ^ m ≤ 1024 := Nat.pow_le_pow_right (n := 2) (j := 10) (by decide) hm
  intro d
  induction d with
  | zero =>
    intro x s fuel hx hf2 hs
    obtain ⟨fuel, rfl⟩ : ∃ y, fuel = y + 1 := ⟨fuel - 1, by omega⟩
    refine it_e ?_
    unfold bX9_drops_98
    rw [g_sh m (by omega), if_pos (nI_le (by omega) (by omega))]
    rfl
  | succ d ih =>
    intro x s fuel hx hf2 hs
    obtain ⟨fuel, rfl⟩ : ∃ y, fuel = y + 1 := ⟨fuel - 1, by omega⟩
    have e : db_ (fun X => decide (lf_ n m (fun t => !(X.testBit t)) a b n = 0)) (d + 1) x s = db_ (fun X => decide (lf_ n m (fun t => !(X.testBit t)) a b n = 0)) d (x + 1) (if isl_ x s = true ∧ decide (lf_ n m (fun t => !(x.testBit t)) a b n = 0) = true then some x else s) := rfl
    have hio := M_io (X := x) hn hm hcc (by omega) h85 hf
    have hb : bX9_drops_98 (HH z f) 40 (nI m) (nI cc) (bv_ s, nI x) = some (.inl (bv_ (if isl_ x s = true ∧ decide (lf_ n m (fun t => !(x.testBit t)) a b n = 0) = true then some x else s), nI (x + 1))) := by
      have h132 : jX9_drops_132_98 (HH z f) 40 (nI m) (nI cc) (bv_ s) (nI x) 1 = some (.inl (bv_ (if decide (lf_ n m (fun t => !(x.testBit t)) a b n = 0) = true then some x else s), nI (x + 1))) := by
        unfold jX9_drops_132_98 jX9_drops_156_98
        simp only [n10_, if_false, ob_40, hio, nI_1, Option.bind_some]
        cases decide (lf_ n m (fun t => !(x.testBit t)) a b n = 0)
        · rw [b_f, if_pos rfl, if_neg Bool.false_ne_true]
        · rw [b_t, if_neg n10_, if_pos rfl]
          rfl
      unfold bX9_drops_98 jX9_drops_127_98
      rw [g_sh m (by omega), if_neg (nI_ge (by omega) (by omega))]
      cases s with
      | none =>
        rw [if_pos (show bv_ none = -9 from rfl), h132]
        simp only [isl_, true_and]
      | some y =>
        have hy := hs y rfl
        have p1 := pc_le 10 10 x (by omega)
        have p2 := pc_le 10 10 y (by omega)
        rw [if_neg (show ¬ bv_ (some y) = -9 from nI_m9 (by omega)), show bv_ (some y) = nI y from rfl, M_sizeX (show x < 1024 by omega), Option.bind_some, M_sizeX hy, Option.bind_some]
        by_cases c : pcN_ 10 x < pcN_ 10 y
        · rw [if_neg (nI_ge c (by omega)), show nI y = bv_ (some y) from rfl, h132]
          simp only [isl_, c, decide_true, true_and]
        · rw [if_pos (nI_le (by omega) (by omega))]
          unfold jX9_drops_132_98 jX9_drops_156_98
          rw [if_pos rfl, Option.bind_some, nI_1]
          simp only [isl_, c, decide_false, Bool.false_eq_true, false_and, if_false]
          rfl
    rw [it_s hb, e]
    refine ih (x + 1) _ fuel (by omega) (by omega) (fun y hy => ?_)
    split at hy
    · have := Option.some.inj hy
      omega
    · exact hs y hy
end DRP
section DRC
variable {k i m bb n : Nat} {a b : Nat → Nat}
theorem C_fi {sz : Nat} (hk : k < 4) (hn : n ≤ 6) (hm : m ≤ 10) (hsz : sz ≤ 20) (hb60 : bb ≤ 60) (him : i + 2 * m ≤ bb) : ∀ (d x : Nat) (z : Nat → Int32) (f : Nat → Nat → Int32) (fuel : Nat), x + d = 2 ^ m → d < fuel → z (32 * (32 + 2 * k) + 3) = nI bb → (∀ t, t < m → f (33 + 2 * k) (i + 2 * t) = nI (a t) ∧ f (33 + 2 * k) (i + 2 * t + 1) = nI (b t) ∧ a t < n ∧ b t < n) → ∃ z' f', FC_ z f z' f' ∧ it_ (bX3_fewestLeftOut_13 28 (nI n) (32 + 2 * k) (nI i) (nI m) (nI sz)) fuel (nI x, HH z f) = some (if nx_ (fun X => decide (pcN_ 10 X = sz) && (ls_ n (mf_ (fun t => !(X.testBit t)) a b m) n 0).isSome) d x = 2 ^ m then .inl (HH z' f') else .inr (nI (nx_ (fun X => decide (pcN_ 10 X = sz) && (ls_ n (mf_ (fun t => !(X.testBit t)) a b m) n 0).isSome) d x), HH z' f')) := by
  have hpw : 2 ^ m ≤ 1024 := Nat.pow_le_pow_right (n := 2) (j := 10) (by decide) hm
  intro d
  induction d with
  | zero =>
    intro x z f fuel hx hf2 hb hf
    obtain ⟨fuel, rfl⟩ : ∃ y, fuel = y + 1 := ⟨fuel - 1, by omega⟩
    refine ⟨z, f, FC_r, ?_⟩
    rw [if_pos (show nx_ (fun X => decide (pcN_ 10 X = sz) && (ls_ n (mf_ (fun t => !(X.testBit t)) a b m) n 0).isSome) 0 x = 2 ^ m from hx)]
    refine it_e ?_
    unfold bX3_fewestLeftOut_13
    rw [g_sh m (by omega), if_pos (nI_le (by omega) (by omega))]
  | succ d ih =>
    intro x z f fuel hx hf2 hb hf
    obtain ⟨fuel, rfl⟩ : ∃ y, fuel = y + 1 := ⟨fuel - 1, by omega⟩
    have e : nx_ (fun X => decide (pcN_ 10 X = sz) && (ls_ n (mf_ (fun t => !(X.testBit t)) a b m) n 0).isSome) (d + 1) x = if (decide (pcN_ 10 x = sz) && (ls_ n (mf_ (fun t => !(x.testBit t)) a b m) n 0).isSome) = true then x else nx_ (fun X => decide (pcN_ 10 X = sz) && (ls_ n (mf_ (fun t => !(X.testBit t)) a b m) n 0).isSome) d (x + 1) := rfl
    have pl := pc_le 10 10 x (by omega)
    rw [e]
    by_cases c1 : pcN_ 10 x = sz
    · have htk := C_take (X := x) (z := z) hk hn hm (by omega) hb60 him hb hf
      have h99 : (upd z 899 (nI n)) 899 = nI n := upd_eq
      obtain ⟨l1, l2⟩ := C_lu (z := upd z 899 (nI n)) (f := up2 f 29 (tk29_ (fun t => !(x.testBit t)) a b m (f 29))) (c := fun t => !(x.testBit t)) (a := a) (b := b) (m := m) hn (fun t ht => by have := (hf t ht).2.2.1; omega) h99 (fun p hp => by
        rw [up2_eq]
        unfold tk29_
        rw [if_pos (by omega)])
      cases hls : ls_ n (mf_ (fun t => !(x.testBit t)) a b m) n 0 with
      | none =>
        obtain ⟨g, hlu⟩ := l1 hls
        have hFC : FC_ z f (upd z 899 (nI n)) (up2 (up2 f 29 (tk29_ (fun t => !(x.testBit t)) a b m (f 29))) 31 g) := FC_z (by decide) (FC_f (by decide) (FC_f (by decide) FC_r))
        have hbd : bX3_fewestLeftOut_13 28 (nI n) (32 + 2 * k) (nI i) (nI m) (nI sz) (nI x, HH z f) = some (.inl (nI (x + 1), HH (upd z 899 (nI n)) (up2 (up2 f 29 (tk29_ (fun t => !(x.testBit t)) a b m (f 29))) 31 g))) := by
          unfold bX3_fewestLeftOut_13 jX3_fewestLeftOut_53_13
          rw [g_sh m (by omega), if_neg (nI_ge (by omega) (by omega))]
          simp only [C_bcX x (show x < 1024 by omega), c1, if_true, ob_28, htk, hlu, nI_1, Option.bind_some]
        obtain ⟨z2, f2, u1, u2⟩ := ih (x + 1) (upd z 899 (nI n)) (up2 (up2 f 29 (tk29_ (fun t => !(x.testBit t)) a b m (f 29))) 31 g) fuel (by omega) (by omega) (by rw [hFC.1 _ (by omega)]; exact hb) (fun t ht => by rw [hFC.2 _ (by omega)]; exact hf t ht)
        refine ⟨z2, f2, FC_t hFC u1, ?_⟩
        rw [it_s hbd, u2, Option.isSome_none, Bool.and_false, if_neg Bool.false_ne_true]
      | some l =>
        obtain ⟨g, hlu, _⟩ := l2 l hls
        refine ⟨upd z 899 (nI n), up2 (up2 f 29 (tk29_ (fun t => !(x.testBit t)) a b m (f 29))) 31 g, FC_z (by decide) (FC_f (by decide) (FC_f (by decide) FC_r)), ?_⟩
        rw [decide_eq_true c1, Option.isSome_some, Bool.and_self, if_pos rfl, if_neg (show ¬ x = 2 ^ m by omega)]
        refine it_e ?_
        unfold bX3_fewestLeftOut_13
        rw [g_sh m (by omega), if_neg (nI_ge (by omega) (by omega))]
        simp only [C_bcX x (show x < 1024 by omega), c1, if_true, ob_28, htk, hlu, n10_, if_false, Option.bind_some]
    · have hbd : bX3_fewestLeftOut_13 28 (nI n) (32 + 2 * k) (nI i) (nI m) (nI sz) (nI x, HH z f) = some (.inl (nI (x + 1), HH z f)) := by
        unfold bX3_fewestLeftOut_13 jX3_fewestLeftOut_53_13
        rw [g_sh m (by omega), if_neg (nI_ge (by omega) (by omega)), C_bcX x (by omega), Option.bind_some, if_neg (fun w => c1 ((nI_eq (by omega) (by omega)).mp w)), Option.bind_some, nI_1]
      obtain ⟨z2, f2, u1, u2⟩ := ih (x + 1) z f fuel (by omega) (by omega) hb hf
      refine ⟨z2, f2, u1, ?_⟩
      rw [it_s hbd, u2, decide_eq_false c1, Bool.false_and, if_neg Bool.false_ne_true]
theorem C_fo (hk : k < 4) (hn : n ≤ 6) (hm : m ≤ 10) (hb60 : bb ≤ 60) (him : i + 2 * m ≤ bb) : ∀ (d sz : Nat) (z : Nat → Int32) (f : Nat → Nat → Int32) (fuel : Nat), sz + d = m + 1 → d < fuel → z (32 * (32 + 2 * k) + 3) = nI bb → (∀ t, t < m → f (33 + 2 * k) (i + 2 * t) = nI (a t) ∧ f (33 + 2 * k) (i + 2 * t + 1) = nI (b t) ∧ a t < n ∧ b t < n) → ∃ z' f', FC_ z f z' f' ∧ ∃ x, it_ (bX3_fewestLeftOut_3 28 (nI n) (32 + 2 * k) (nI i) (nI m)) fuel (nI sz, HH z f) = some x ∧ (match x with
    | .inl y16 => some ((0 : Int32), y16)
    | .inr z17 => some z17) = some (nI (dr_ (fun X => (ls_ n (mf_ (fun t => !(X.testBit t)) a b m) n 0).isSome) (2 ^ m) d sz), HH z' f') := by
  have hpw : 2 ^ m ≤ 1024 := Nat.pow_le_pow_right (n := 2) (j := 10) (by decide) hm
  intro d
  induction d with
  | zero =>
    intro sz z f fuel hx hf2 hb hf
    obtain ⟨fuel, rfl⟩ : ∃ y, fuel = y + 1 := ⟨fuel - 1, by omega⟩
    refine ⟨z, f, FC_r, .inl (HH z f), it_e ?_, ?_⟩
    · unfold bX3_fewestLeftOut_3
      rw [if_pos (nI_lt (by omega) (by omega))]
    · dsimp only
      rw [show dr_ (fun X => (ls_ n (mf_ (fun t => !(X.testBit t)) a b m) n 0).isSome) (2 ^ m) 0 sz = 0 from rfl, nI_0]
  | succ d ih =>
    intro sz z f fuel hx hf2 hb hf
    obtain ⟨fuel, rfl⟩ : ∃ y, fuel = y + 1 := ⟨fuel - 1, by omega⟩
    obtain ⟨z1, f1, e1, e2⟩ := C_fi (sz := sz) (a := a) (b := b) hk hn hm (by omega) hb60 him (2 ^ m) 0 z f fu_ (by omega) (fu_gt (by omega)) hb hf
    rw [nI_0] at e2
    have e : dr_ (fun X => (ls_ n (mf_ (fun t => !(X.testBit t)) a b m) n 0).isSome) (2 ^ m) (d + 1) sz = if nx_ (fun X => decide (pcN_ 10 X = sz) && (ls_ n (mf_ (fun t => !(X.testBit t)) a b m) n 0).isSome) (2 ^ m) 0 = 2 ^ m then dr_ (fun X => (ls_ n (mf_ (fun t => !(X.testBit t)) a b m) n 0).isSome) (2 ^ m) d (sz + 1) else nx_ (fun X => decide (pcN_ 10 X = sz) && (ls_ n (mf_ (fun t => !(X.testBit t)) a b m) n 0).isSome) (2 ^ m) 0 := rfl
    rw [e]
    by_cases c : nx_ (fun X => decide (pcN_ 10 X = sz) && (ls_ n (mf_ (fun t => !(X.testBit t)) a b m) n 0).isSome) (2 ^ m) 0 = 2 ^ m
    · rw [if_pos c] at e2 ⊢
      obtain ⟨z2, f2, u1, x, u2, u3⟩ := ih (sz + 1) z1 f1 fuel (by omega) (by omega) (by rw [e1.1 _ (by omega)]; exact hb) (fun t ht => by rw [e1.2 _ (by omega)]; exact hf t ht)
      refine ⟨z2, f2, FC_t e1 u1, x, ?_, u3⟩
      rw [← u2]
      refine it_s ?_
      unfold bX3_fewestLeftOut_3
      rw [if_neg (nI_nlt (by omega) (by omega)), e2, Option.bind_some]
      dsimp only
      rw [Option.bind_some, nI_1]
    · rw [if_neg c] at e2 ⊢
      refine ⟨z1, f1, e1, .inr (nI (nx_ (fun X => decide (pcN_ 10 X = sz) && (ls_ n (mf_ (fun t => !(X.testBit t)) a b m) n 0).isSome) (2 ^ m) 0), HH z1 f1), it_e ?_, rfl⟩
      unfold bX3_fewestLeftOut_3
      rw [if_neg (nI_nlt (by omega) (by omega)), e2, Option.bind_some]
theorem C_few {z : Nat → Int32} {f : Nat → Nat → Int32} (hk : k < 4) (hn : n ≤ 6) (hm : m ≤ 10) (hb60 : bb ≤ 60) (him : i + 2 * m ≤ bb) (hb : z (32 * (32 + 2 * k) + 3) = nI bb) (hf : ∀ t, t < m → f (33 + 2 * k) (i + 2 * t) = nI (a t) ∧ f (33 + 2 * k) (i + 2 * t + 1) = nI (b t) ∧ a t < n ∧ b t < n) : ∃ z' f', FC_ z f z' f' ∧ fX3_fewestLeftOut (HH z f) 28 (nI n) (32 + 2 * k) (nI i) (nI m) = some (nI (dr_ (fun X => (ls_ n (mf_ (fun t => !(X.testBit t)) a b m) n 0).isSome) (2 ^ m) (m + 1) 0), HH z' f') := by
  obtain ⟨z1, f1, e1, x, e2, e3⟩ := C_fo (a := a) (b := b) hk hn hm hb60 him (m + 1) 0 z f fu_ (by omega) (fu_gt (by omega)) hb hf
  rw [nI_0] at e2
  refine ⟨z1, f1, e1, ?_⟩
  unfold fX3_fewestLeftOut
  rw [e2, Option.bind_some]
  exact e3
end DRC
