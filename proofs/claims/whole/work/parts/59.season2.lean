theorem nI_m9 {j : Nat} (hj : j < 2 ^ 31) : ¬ nI j = -9 := by
  intro e
  have := congrArg Int32.toInt e
  rw [nI_toInt hj] at this
  have e9 : (-9 : Int32).toInt = -9 := by decide
  omega
theorem T_step {z : Nat → Int32} {f : Nat → Nat → Int32} {n : Nat} {K S : Nat → Nat} {s : st_T} {a x : Nat} (hn : n ≤ 6) (hw : SW_ n K S s) (h : RT_ z f n K S s) (ha : a < n) (hx : ac_ x) : ∃ z' f', fX9_does (HH z f) 40 (nI a) (nI x) = some (bi_ (stp n K S s a x).1, HH z' f') ∧ FM_ z f z' f' ∧ RT_ z' f' n K S (stp n K S s a x).2 := by
  have h0 := h
  obtain ⟨h1, h2, h3, h4, h5⟩ := h
  have a6 : a < 6 := by omega
  have h64 : s.2.1 < 64 := Nat.lt_of_lt_of_le hw.2 (pw6 hn)
  unfold ac_ at hx
  unfold fX9_does stp
  by_cases c1 : 20 ≤ x
  · rw [if_neg (show ¬ nI x < 20 from nI_nlt (b := 20) c1 (by omega)), if_pos c1]
    refine ⟨z, up2 f 46 (upd (f 46) a (nI (x - 20))), ?_, FM_f (by omega) FM_r, ?_⟩
    · simp only [q_40_10, show nI x - 20 = nI (x - 20) from pk_sub (b := 20) c1, ax46 a6, b_t, Option.bind_some]
    · refine ⟨h1, h2, fun p hp => ?_, h4, h5⟩
      obtain ⟨e0, e1, e2, e3⟩ := h3 p hp
      rw [up2_ne (show (44 : Nat) ≠ 46 by decide), up2_ne (show (45 : Nat) ≠ 46 by decide), up2_ne (show (49 : Nat) ≠ 46 by decide), up2_eq]
      refine ⟨e0, e1, ?_, e3⟩
      show _ = nI (uN_ s.1 a (x - 20) p)
      by_cases hpa : p = a
      · subst hpa; rw [upd_eq]; simp [uN_]
      · rw [upd_ne hpa, e2]; simp [uN_, hpa]
  rw [if_neg c1]
  by_cases c2 : x = 10
  · subst c2
    rw [if_pos (show nI 10 < 20 by decide), if_pos (show nI 10 = 10 by decide), if_pos rfl]
    refine ⟨upd z 1286 (nI (clr_ s.2.1 a)), f, ?_, FM_z (by omega) FM_r, ?_⟩
    · simp only [g_40_6, h2, M_isOf h64 a6, p_40_6, g_clr s.2.1 h64 a a6, bz_bi, Option.bind_some]
    · exact ⟨by rw [upd_ne (by omega)]; exact h1, upd_eq, h3, by rw [upd_ne (by omega)]; exact h4, by rw [upd_ne (by omega)]; exact h5⟩
  have x6 : x < 6 := by omega
  rw [if_pos (show nI x < 20 from nI_lt (b := 20) (by omega) (by decide)), if_neg (show ¬ nI x = 10 from fun e => c2 ((nI_eq (b := 10) (by omega) (by decide)).mp e)), if_neg c2]
  simp only [ob_40, M_two h1, t2_d hn ha x6, Option.bind_some]
  by_cases c3 : x < n ∧ a ≠ x
  · rw [decide_eq_true c3]
    simp only [b_t, n10_, if_false, M_away h2 h64 a6 x6, Option.bind_some]
    by_cases c4 : s.2.1.testBit a = false ∧ s.2.1.testBit x = false
    · rw [if_pos (show x < n ∧ a ≠ x ∧ s.2.1.testBit a = false ∧ s.2.1.testBit x = false from ⟨c3.1, c3.2, c4.1, c4.2⟩)]
      simp only [c4.1, c4.2, Bool.or_self, b_f, if_true]
      have wz : ∀ (g : Nat → Int32) (b : Nat), b < n → fX9_worstOf (HH z (up2 f 49 g)) 40 (nI b) = some (nI (wF_ K S s.1 b)) := fun g b hb => by
        obtain ⟨w1, w2, w3⟩ := hw.1 b hb
        obtain ⟨e0, e1, e2, e3⟩ := h3 b hb
        exact M_worst (by omega) w1 w2 w3 (by rw [up2_ne (by decide)]; exact e0) (by rw [up2_ne (by decide)]; exact e1) (by rw [up2_ne (by decide)]; exact e2)
      have wa := wF_18 hw ha
      have wx := wF_18 hw c3.1
      have hpl : ∀ p, p < n → upd (upd (f 49) a (f 49 a + 1)) x (upd (f 49) a (f 49 a + 1) x + 1) p = nI (pl2_ s.2.2.1 a x p) := by
        intro p hp
        have e3 := (h3 p hp).2.2.2
        unfold pl2_ uN_
        by_cases d1 : p = x
        · subst d1
          rw [upd_eq, if_pos rfl, upd_ne (Ne.symm c3.2), if_neg (Ne.symm c3.2), e3, nI_1]
        · rw [upd_ne d1, if_neg d1]
          by_cases d2 : p = a
          · subst d2; rw [upd_eq, if_pos rfl, e3, nI_1]
          · rw [upd_ne d2, if_neg d2, e3]
      by_cases c5 : wF_ K S s.1 a = wF_ K S s.1 x
      · rw [if_pos c5]
        have hwin : ∀ g, fX9_play (HH z g) 40 (nI a) (nI x) (nI (wF_ K S s.1 a)) (nI (wF_ K S s.1 x)) = some (-9, HH z g) := fun g => by rw [M_win h2 h64 a6 x6, if_pos (by rw [c5])]
        refine ⟨upd (upd z 1296 (nI (s.2.2.2.1 + 1))) 1297 s.2.2.2.2, up2 f 49 (upd (upd (f 49) a (f 49 a + 1)) x (upd (f 49) a (f 49 a + 1) x + 1)), ?_, FM_z (by omega) (FM_z (by omega) (FM_f (by omega) FM_r)), ?_⟩
        · have e17 : ∀ v : Int32, (upd z 1296 v) 1297 = s.2.2.2.2 := fun v => by rw [upd_ne (by decide)]; exact h5
          simp only [ob_40, q_40_15, al49 a6, ax49 a6, al49 x6, ax49 x6, up2_eq, up2_up2, wz _ a ha, wz _ x c3.1, hwin, if_true, jX9_does_122, g_40_16, p_40_16, g_40_17, p_40_17, h4, nI_1, e17, b_t, Option.bind_some]
        refine ⟨by rw [upd_ne (by omega), upd_ne (by omega)]; exact h1, by rw [upd_ne (by omega), upd_ne (by omega)]; exact h2, fun p hp => ?_, by rw [upd_ne (by omega), upd_eq], upd_eq⟩
        obtain ⟨e0, e1, e2, e3⟩ := h3 p hp
        rw [up2_ne (show (44 : Nat) ≠ 49 by decide), up2_ne (show (45 : Nat) ≠ 49 by decide), up2_ne (show (46 : Nat) ≠ 49 by decide), up2_eq]
        exact ⟨e0, e1, e2, hpl p hp⟩
      · rw [if_neg c5]
        have hle : (if nI (wF_ K S s.1 a) ≤ nI (wF_ K S s.1 x) then x else a) = (if wF_ K S s.1 a ≤ wF_ K S s.1 x then x else a) := by
          by_cases d : wF_ K S s.1 a ≤ wF_ K S s.1 x
          · rw [if_pos d, if_pos (nI_le d (by omega))]
          · rw [if_neg d, if_neg (nI_ge (by omega) (by omega))]
        obtain ⟨ww, hww, hwn⟩ : ∃ ww, ww = (if wF_ K S s.1 a ≤ wF_ K S s.1 x then x else a) ∧ ww < n := ⟨_, rfl, by split <;> omega⟩
        rw [← hww]
        have hwin : ∀ g, fX9_play (HH z g) 40 (nI a) (nI x) (nI (wF_ K S s.1 a)) (nI (wF_ K S s.1 x)) = some (nI ww, HH (upd z 1286 (nI (s.2.1 ||| 2 ^ ww))) g) := fun g => by rw [M_win h2 h64 a6 x6, if_neg (fun e => c5 ((nI_eq (by omega) (by omega)).mp e)), hle, ← hww]
        have w9 : ¬ nI ww = -9 := nI_m9 (by omega)
        have e16 : (upd z 1286 (nI (s.2.1 ||| 2 ^ ww))) 1296 = nI s.2.2.2.1 := by rw [upd_ne (by decide)]; exact h4
        refine ⟨upd (upd (upd z 1286 (nI (s.2.1 ||| 2 ^ ww))) 1296 (nI s.2.2.2.1)) 1297 (nI ww), up2 f 49 (upd (upd (f 49) a (f 49 a + 1)) x (upd (f 49) a (f 49 a + 1) x + 1)), ?_, FM_z (by omega) (FM_z (by omega) (FM_z (by omega) (FM_f (by omega) FM_r))), ?_⟩
        · simp only [ob_40, q_40_15, al49 a6, ax49 a6, al49 x6, ax49 x6, up2_eq, up2_up2, wz _ a ha, wz _ x c3.1, hwin, w9, if_false, jX9_does_122, g_40_16, p_40_16, p_40_17, e16, show nI s.2.2.2.1 + 0 = nI s.2.2.2.1 from nI_add s.2.2.2.1 0, b_t, Option.bind_some]
        refine ⟨by rw [upd_ne (by omega), upd_ne (by omega), upd_ne (by omega)]; exact h1, by rw [upd_ne (by omega), upd_ne (by omega), upd_eq], fun p hp => ?_, by rw [upd_ne (by omega), upd_eq], upd_eq⟩
        obtain ⟨e0, e1, e2, e3⟩ := h3 p hp
        rw [up2_ne (show (44 : Nat) ≠ 49 by decide), up2_ne (show (45 : Nat) ≠ 49 by decide), up2_ne (show (46 : Nat) ≠ 49 by decide), up2_eq]
        exact ⟨e0, e1, e2, hpl p hp⟩
    · rw [if_neg (show ¬ (x < n ∧ a ≠ x ∧ s.2.1.testBit a = false ∧ s.2.1.testBit x = false) from fun e => c4 ⟨e.2.2.1, e.2.2.2⟩)]
      have hor : (s.2.1.testBit a || s.2.1.testBit x) = true := by
        cases d1 : s.2.1.testBit a
        · cases d2 : s.2.1.testBit x
          · exact absurd ⟨d1, d2⟩ c4
          · rfl
        · rfl
      rw [hor]
      simp only [b_t, n10_, if_false, Option.bind_some]
      exact ⟨z, f, by simp only [b_f], FM_r, h0⟩
  · rw [decide_eq_false c3, if_neg (show ¬ (x < n ∧ a ≠ x ∧ s.2.1.testBit a = false ∧ s.2.1.testBit x = false) from fun e => c3 ⟨e.1, e.2.1⟩)]
    simp only [b_f, if_true, Option.bind_some]
    exact ⟨z, f, by simp only [b_f], FM_r, h0⟩
/-- a run of told acts: the first that can't be, and how it stands then -/
def run_ (n : Nat) (K S aN xN : Nat → Nat) : Nat → Nat → st_T → Int32 × st_T
  | _, 0, s => (-9, s)
  | j, r + 1, s => if (stp n K S s (aN j) (xN j)).1 then run_ n K S aN xN (j + 1) r (stp n K S s (aN j) (xN j)).2 else (nI j, (stp n K S s (aN j) (xN j)).2)
theorem S_loop {k i m b n : Nat} {K S aN xN : Nat → Nat} (hk : k < 4) (hn : n ≤ 6) (hb60 : b ≤ 60) (him : i + 2 * m ≤ b) : ∀ (r j : Nat) (s : st_T) (z : Nat → Int32) (f : Nat → Nat → Int32) (fuel : Nat), j + r = m → r + 1 < fuel → SW_ n K S s → RS_ z f n K S s → z 484 = -9 → z (32 * (32 + 2 * k) + 3) = nI b → (∀ t, t < m → f (33 + 2 * k) (i + 2 * t) = nI (aN t) ∧ f (33 + 2 * k) (i + 2 * t + 1) = nI (xN t) ∧ aN t < n ∧ ac_ (xN t)) → ∃ z' f', it_ (bX4_run_36 15 (32 + 2 * k) (nI i) (nI m)) fuel (nI j, HH z f) = some (HH z' f') ∧ FC_ z f z' f' ∧ RS_ z' f' n K S (run_ n K S aN xN j r s).2 ∧ z' 484 = (run_ n K S aN xN j r s).1 ∧ SW_ n K S (run_ n K S aN xN j r s).2 := by
  intro r
  induction r with
  | zero =>
    intro j s z f fuel hj hf hw h h484 hb ht
    obtain ⟨fuel, rfl⟩ : ∃ y, fuel = y + 1 := ⟨fuel - 1, by omega⟩
    refine ⟨z, f, ?_, FC_r, h, h484, hw⟩
    simp only [it_, bX4_run_36]
    rw [if_pos (nI_le (by omega) (by omega))]
    rfl
  | succ r ih =>
    intro j s z f fuel hj hf hw h h484 hb ht
    obtain ⟨fuel, rfl⟩ : ∃ y, fuel = y + 1 := ⟨fuel - 1, by omega⟩
    obtain ⟨t1, t2, t3, t4⟩ := ht j (by omega)
    obtain ⟨z1, f1, s1, s2, s3, s4⟩ := S_step hn hw h t3 t4
    have hw1 := SW_stp hw t3 t4
    have hr1 := C_rd (f := f) (j := i + 2 * j) hk hb hb60 (by omega)
    have hr2 := C_rd (f := f) (j := i + 2 * j + 1) hk hb hb60 (by omega)
    simp only [it_]
    unfold bX4_run_36
    simp only [ix2, nI_1]
    rw [if_neg (nI_ge (by omega) (by omega))]
    simp only [g_15_4, h484, if_true, obs_ hk, ob_15, hr1, hr2, t1, t2, s1, Option.bind_some, jX4_run_87_36, nI_1]
    unfold run_
    cases c : (stp n K S s (aN j) (xN j)).1
    · simp only [b_f, if_true, p_15_4, Option.bind_some, Bool.false_eq_true, if_false]
      obtain ⟨fuel, rfl⟩ : ∃ y, fuel = y + 1 := ⟨fuel - 1, by omega⟩
      refine ⟨upd z1 484 (nI j), f1, ?_, FC_z (by omega) s2, RS_fs hn (by omega) s3, upd_eq, hw1⟩
      simp only [it_, bX4_run_36]
      by_cases d : nI m ≤ nI (j + 1)
      · rw [if_pos d]
        rfl
      · rw [if_neg d]
        simp only [g_15_4, upd_eq, nI_m9 (show j < 2 ^ 31 by omega), if_false, Option.bind_some]
    · simp only [b_t, n10_, if_false, if_true, Option.bind_some]
      obtain ⟨z2, f2, u1, u2, u3, u4, u5⟩ := ih (j + 1) _ z1 f1 fuel (by omega) (by omega) hw1 s3 (by rw [s4]; exact h484) (by rw [s2.1 _ (by omega)]; exact hb) (fun t htm => by rw [s2.2 _ (by omega)]; exact ht t htm)
      exact ⟨z2, f2, u1, FC_t s2 u2, u3, u4, u5⟩
theorem T_loop {c m n : Nat} {K S aN xN : Nat → Nat} (hn : n ≤ 6) (hc : c + 2 * m ≤ 240) : ∀ (r j : Nat) (s : st_T) (z : Nat → Int32) (f : Nat → Nat → Int32) (fuel : Nat), j + r = m → r < fuel → SW_ n K S s → RT_ z f n K S s → (∀ t, t < m → f 43 (c + 2 * t) = nI (aN t) ∧ f 43 (c + 2 * t + 1) = nI (xN t) ∧ aN t < n ∧ ac_ (xN t)) → ∃ x z' f', it_ (bX9_goSeason_34 40 (nI c) (nI m)) fuel (nI j, HH z f) = some x ∧ ((x = .inl (HH z' f') ∧ (run_ n K S aN xN j r s).1 = -9) ∨ x = .inr ((run_ n K S aN xN j r s).1, HH z' f')) ∧ FM_ z f z' f' ∧ RT_ z' f' n K S (run_ n K S aN xN j r s).2 := by
  intro r
  induction r with
  | zero =>
    intro j s z f fuel hj hf hw h ht
    obtain ⟨fuel, rfl⟩ : ∃ y, fuel = y + 1 := ⟨fuel - 1, by omega⟩
    refine ⟨.inl (HH z f), z, f, ?_, Or.inl ⟨rfl, rfl⟩, FM_r, h⟩
    simp only [it_, bX9_goSeason_34]
    rw [if_pos (nI_le (by omega) (by omega))]
    rfl
  | succ r ih =>
    intro j s z f fuel hj hf hw h ht
    obtain ⟨fuel, rfl⟩ : ∃ y, fuel = y + 1 := ⟨fuel - 1, by omega⟩
    obtain ⟨t1, t2, t3, t4⟩ := ht j (by omega)
    obtain ⟨z1, f1, s1, s2, s3⟩ := T_step hn hw h t3 t4
    have hw1 := SW_stp hw t3 t4
    simp only [it_]
    unfold bX9_goSeason_34
    simp only [ix2, nI_1]
    rw [if_neg (nI_ge (by omega) (by omega))]
    simp only [ob_40, q_40_4, al43 (show c + 2 * j < 240 by omega), al43 (show c + 2 * j + 1 < 240 by omega), t1, t2, s1, Option.bind_some]
    unfold run_
    cases d : (stp n K S s (aN j) (xN j)).1
    · simp only [b_f, if_true, Bool.false_eq_true, if_false, Option.bind_some]
      exact ⟨_, z1, f1, rfl, Or.inr rfl, s2, s3⟩
    · simp only [b_t, n10_, if_false, if_true, Option.bind_some]
      exact Exists.elim (ih (j + 1) _ z1 f1 fuel (by omega) (by omega) hw1 s3 (fun t htm => by rw [s2.2 43 (by omega) (by omega)]; exact ht t htm)) (fun x hx => Exists.elim hx (fun z2 hx2 => Exists.elim hx2 (fun f2 hx3 => ⟨x, z2, f2, hx3.1, hx3.2.1, FM_t s2 hx3.2.2.1, hx3.2.2.2⟩)))
