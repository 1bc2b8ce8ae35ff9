theorem FX_I {z z4 : Nat → Int32} {f f4 : Nat → Nat → Int32} {n G r : Nat} {K S T A B W U : Nat → Nat} (hP : IvP z f n K S T) (hG : IvG z n G) (hX : IvX z) (hS : IvS z f) (hR : IvR z f n r A B W U) (h1 : ∀ k, k < 1291 ∨ 1302 ≤ k → z4 k = z k) (h2 : ∀ j, j ≠ 46 → j < 47 ∨ 54 ≤ j → f4 j = f j) (h3 : ∀ p, p < n → f4 46 p = f 46 p) : Inv z4 f4 := by
  have hF : FS_ z f z4 (up2 f4 46 (f 46)) := ⟨fun k hk => h1 k (by omega), fun j hj => by
    by_cases c : j = 46
    · subst c; rw [up2_eq]
    · rw [up2_ne c]; exact h2 j c (by omega)⟩
  have e46 : f4 = up2 (up2 f4 46 (f 46)) 46 (f4 46) := by rw [up2_up2, up2_self (fun q => rfl)]
  refine ⟨n, K, S, T, G, r, A, B, W, U, ?_, FS_G hP.2.1 hF hG, FS_X hF hX, ?_, ?_⟩
  · obtain ⟨p1, p2, p3, p4, p5⟩ := FS_P hF hP
    refine ⟨p1, p2, p3, p4, fun p hp => ?_⟩
    obtain ⟨g1, g2, g3, e0, e1, e2, e3, e4, e5⟩ := p5 p hp
    rw [up2_ne (by decide)] at e1 e3
    rw [up2_eq] at e5
    exact ⟨g1, g2, g3, e0, e1, e2, e3, e4, by rw [h3 p hp]; exact e5⟩
  · rw [e46]; exact IvS_f (by decide) (FS_S hF hS)
  · rw [e46]; exact IvR_f (by decide) (FS_R hF hR)
theorem C_sea_r {z y : Nat → Int32} {f : Nat → Nat → Int32} {p q u v w e : Int32} (he : ¬ e = 0) (hr : fX8_refusalOfRow (HH z f) 0 p q u v (bi_ (ask_ w && !(decide ((20 : Int32) < v)))) = some (e, HH y f)) : fX8_season (HH z f) 0 p q u v w = some (e, HH y f) := by
  rw [C_sea0]
  unfold jX8_season_55
  simp only [ob_0, hr, he, if_false, Option.bind_some]
theorem C_sea_x {z y : Nat → Int32} {f : Nat → Nat → Int32} {q w : Int32} {k i m : Nat} {e : Int32} (hk : k < 4) (he : ¬ e = 0) (hr : fX8_refusalOfRow (HH z f) 0 (nI k) q (nI i) (nI m) (bi_ (ask_ w && !(decide ((20 : Int32) < nI m)))) = some (0, HH y f)) (ha : fX8_refusalOfActs (HH y f) 0 (32 + 2 * k) (nI i) (nI m) = some e) : fX8_season (HH z f) 0 (nI k) q (nI i) (nI m) w = some (e, HH y f) := by
  rw [C_sea0]
  unfold jX8_season_55
  simp only [ob_0, hr, if_true, q_0_1, qs_ hk, ha, he, if_false, Option.bind_some]
theorem C_sea_y {z y z1 : Nat → Int32} {f f1 : Nat → Nat → Int32} {q w : Int32} {k i m : Nat} {e : Int32} (hk : k < 4) (hr : fX8_refusalOfRow (HH z f) 0 (nI k) q (nI i) (nI m) (bi_ (ask_ w && !(decide ((20 : Int32) < nI m)))) = some (0, HH y f)) (ha : fX8_refusalOfActs (HH y f) 0 (32 + 2 * k) (nI i) (nI m) = some 0) (h1 : fX4_run (HH y f) 15 1 (32 + 2 * k) (nI i) (nI m) = some (HH z1 f1)) (h2 : fX4_answer (HH z1 f1) 15 w = some e) : fX8_season (HH z f) 0 (nI k) q (nI i) (nI m) w = some (e, HH z1 f1) := by
  rw [C_sea0]
  unfold jX8_season_55
  simp only [ob_0, hr, if_true, q_0_1, qs_ hk, ha, q_0_3, q_0_0, ob_15, h1, h2, Option.bind_some]
theorem C_acts1 {z : Nat → Int32} {f : Nat → Nat → Int32} {k i m b n : Nat} (hk : k < 4) (hn : n ≤ 6) (hm : m ≤ 20) (hb60 : b ≤ 60) (him : i + 2 * m ≤ b) (h33 : z 33 = nI n) (hb : z (32 * (32 + 2 * k) + 3) = nI b) : fX8_refusalOfActs (HH z f) 0 (32 + 2 * k) (nI i) (nI m) = some (ra_ n (fun t => f (33 + 2 * k) (i + t)) 0 m) := by
  have h := C_acts (f := f) hk hn hb60 him h33 hb m 0 fu_ (by omega) (fu_gt (by omega))
  rw [nI_0] at h
  unfold fX8_refusalOfActs
  rw [h, Option.bind_some]
  by_cases c : ra_ n (fun t => f (33 + 2 * k) (i + t)) 0 m = 0
  · rw [if_pos c, c]
  · rw [if_neg c]
theorem hno_ {q w : Int32} {m : Nat} (hm : m ≤ 20) (h3 : ip_ 3 q = true) (h4 : (ask_ w && !(decide ((20 : Int32) < nI m))) = true) : ¬ (ip_ 3 q = false ∨ nI m < 0 ∨ (ask_ w && !(decide ((20 : Int32) < nI m))) = false) := by
  rintro (e | e | e)
  · rw [h3] at e; cases e
  · exact nI_pos (show m < 2 ^ 31 by omega) e
  · rw [h4] at e; cases e
theorem hk4_ {k : Nat} (hk : k < 4) : ¬ ip_ 4 (nI k) = false := by rw [show ip_ 4 (nI k) = true from ip_nI (by decide) hk]; decide
theorem M_sea_g {z : Nat → Int32} {f : Nat → Nat → Int32} {q u w g : Int32} {k m : Nat} (hk : k < 4) (hm : m ≤ 20) (h3 : ip_ 3 q = true) (h4 : (ask_ w && !(decide ((20 : Int32) < nI m))) = true) (hg : ¬ g = 0) (hag : fX9_against (HH (upd z 1280 0) f) 40 (nI k) q u (2 * nI m) = some g) : fX9_season (HH z f) 40 (nI k) q u (nI m) w = some (-10 - g, HH (upd z 1280 g) f) := by
  rw [M_sea0, if_neg (hk4_ hk), if_neg (hno_ hm h3 h4)]
  unfold jX9_season_57
  simp only [ob_40, hag, hg, if_false, M_flt, upd_upd, Option.bind_some]
theorem M_sea_n {z : Nat → Int32} {f : Nat → Nat → Int32} {q u w : Int32} {k m : Nat} (hk : k < 4) (hm : m ≤ 20) (h3 : ip_ 3 q = true) (h4 : (ask_ w && !(decide ((20 : Int32) < nI m))) = true) (hag : fX9_against (HH (upd z 1280 0) f) 40 (nI k) q u (2 * nI m) = some 0) (h0 : z 1285 = 0) : fX9_season (HH z f) 40 (nI k) q u (nI m) w = some (-3, HH (upd z 1280 0) f) := by
  rw [M_sea0, if_neg (hk4_ hk), if_neg (hno_ hm h3 h4)]
  unfold jX9_season_57
  have e1 : (upd z 1280 0) 1285 = 0 := by rw [upd_ne (by decide)]; exact h0
  simp only [ob_40, hag, if_true, g_40_5, e1, Option.bind_some]
theorem M_sea_x {z : Nat → Int32} {f : Nat → Nat → Int32} {q w : Int32} {k i m n : Nat} (hk : k < 4) (hm : m ≤ 20) (hn : n ≤ 6) (hn0 : n ≠ 0) (him : i + 2 * m ≤ 60) (h3 : ip_ 3 q = true) (h4 : (ask_ w && !(decide ((20 : Int32) < nI m))) = true) (hag : fX9_against (HH (upd z 1280 0) f) 40 (nI k) q (nI i) (2 * nI m) = some 0) (h0 : z 1285 = nI n) (hra : ¬ ra_ n (fun t => f 43 (60 * k + i + t)) 0 m = 0) : fX9_season (HH z f) 40 (nI k) q (nI i) (nI m) w = some (ra_ n (fun t => f 43 (60 * k + i + t)) 0 m, HH (upd z 1280 0) f) := by
  rw [M_sea0, if_neg (hk4_ hk), if_neg (hno_ hm h3 h4)]
  unfold jX9_season_57
  have z85 : (upd z 1280 0) 1285 = nI n := by rw [upd_ne (by decide)]; exact h0
  have hne : ¬ nI n = 0 := nI_ne0 (by omega) (by omega)
  have hMa := M_acts (z := upd z 1280 0) (f := f) (w := w) (c := 60 * k + i) (m := m) hn (by omega) z85 m 0 fu_ (by omega) (fu_gt (by omega))
  rw [nI_0, if_neg hra] at hMa
  simp only [ob_40, hag, if_true, g_40_5, z85, hne, if_false, ix60, hMa, Option.bind_some]
theorem M_sea_y {z : Nat → Int32} {f : Nat → Nat → Int32} {q : Int32} {k i m n G t0 : Nat} {K S T aN xN : Nat → Nat} (hk : k < 4) (hm : m ≤ 20) (hn : n ≤ 6) (hn0 : n ≠ 0) (him : i + 2 * m ≤ 60) (h3 : ip_ 3 q = true) (h4 : (ask_ (nI t0) && !(decide ((20 : Int32) < nI m))) = true) (ht0 : t0 ≤ 4 ∨ (10 ≤ t0 ∧ t0 ≤ 15)) (hag : fX9_against (HH (upd z 1280 0) f) 40 (nI k) q (nI i) (2 * nI m) = some 0) (hP : IvP z f n K S T) (hG : IvG z n G) (hra : ra_ n (fun t => f 43 (60 * k + i + t)) 0 m = 0) (ht : ∀ t, t < m → f 43 (60 * k + i + 2 * t) = nI (aN t) ∧ f 43 (60 * k + i + 2 * t + 1) = nI (xN t) ∧ aN t < n ∧ ac_ (xN t)) (hw5 : SW_ n K S (run_ n K S aN xN 0 m (s0_ T G)).2) : ∃ z2 f2, fX9_season (HH z f) 40 (nI k) q (nI i) (nI m) (nI t0) = some (if t0 = 1 then (run_ n K S aN xN 0 m (s0_ T G)).1 else if (run_ n K S aN xN 0 m (s0_ T G)).1 = -9 then ans_ n (run_ n K S aN xN 0 m (s0_ T G)).2 t0 else -100 - (run_ n K S aN xN 0 m (s0_ T G)).1, HH z2 f2) ∧ (∀ j, j < 1291 ∨ 1302 ≤ j → z2 j = (upd z 1280 0) j) ∧ (∀ j, j ≠ 46 → j < 47 ∨ 54 ≤ j → f2 j = f j) ∧ (∀ p, p < n → f2 46 p = f 46 p) := by
  have z85 : (upd z 1280 0) 1285 = nI n := by rw [upd_ne (by decide)]; exact hP.2.2.2.1
  have z86 : (upd z 1280 0) 1286 = nI G := by rw [upd_ne (by decide)]; exact hG.2.1
  have hMa := M_acts (z := upd z 1280 0) (f := f) (w := nI t0) (c := 60 * k + i) (m := m) hn (by omega) z85 m 0 fu_ (by omega) (fu_gt (by omega))
  rw [nI_0, if_pos hra] at hMa
  have hw0 : SW_ n K S (s0_ T G) := ⟨fun p hp => by
    obtain ⟨w1, w2, w3, -⟩ := hP.2.2.2.2 p hp
    exact ⟨w1, w2, w3⟩, hG.1⟩
  obtain ⟨z3, f3, m1, m2, m3⟩ := M_run (z := upd z 1280 0) (f := up2 f 48 (fun p => if p < n then f 46 p else f 48 p)) (c := 60 * k + i) (m := m) (aN := aN) (xN := xN) hn (by omega) hm hw0 z85 z86 (fun p hp => by
    obtain ⟨w1, w2, w3, d0, d1, d2, d3, d4, d5⟩ := hP.2.2.2.2 p hp
    rw [up2_ne (by decide), up2_ne (by decide), up2_ne (by decide)]
    exact ⟨d1, d3, d5⟩) (fun t htm => by
    rw [up2_ne (by decide)]
    exact ht t htm)
  have hMans := M_ans hn hw5 m3 ht0
  have z385 : (upd z3 1286 (nI G)) 1285 = nI n := by rw [upd_ne (by decide), m2.1 1285 (by decide) (by decide) (by decide)]; exact z85
  have f348 : f3 48 = fun p => if p < n then f 46 p else f 48 p := by rw [m2.2 48 (by decide) (by decide), up2_eq]
  have hne : ¬ nI n = 0 := nI_ne0 (by omega) (by omega)
  refine ⟨upd z3 1286 (nI G), up2 f3 46 (fun p => if p < n then f3 48 p else f3 46 p), ?_, fun k0 hk0 => ?_, fun j hj hj2 => ?_, fun p0 hp0 => ?_⟩
  · rw [M_sea0, if_neg (hk4_ hk), if_neg (hno_ hm h3 h4)]
    unfold jX9_season_57
    simp only [ob_40, hag, if_true, g_40_5, z85, hne, if_false, ix60, hMa, g_40_6, z86, M_keep hn z85, m1, hMans, p_40_6, M_back hn z385, Option.bind_some]
    by_cases c1 : t0 = 1
    · subst c1
      rw [if_pos (show nI 1 = 1 by decide), if_pos rfl]
    · rw [if_neg (show ¬ nI t0 = 1 from fun e => c1 ((nI_eq (b := 1) (by omega) (by decide)).mp e)), if_neg c1]
      by_cases c2 : (run_ n K S aN xN 0 m (s0_ T G)).1 = -9
      · rw [if_pos c2, if_pos c2]
      · rw [if_neg c2, if_neg c2]
  · by_cases c : k0 = 1286
    · subst c; rw [upd_eq]; exact z86.symm
    · rw [upd_ne c]; exact m2.1 k0 c (by omega) (by omega)
  · rw [up2_ne hj, m2.2 j hj (by omega), up2_ne (by omega)]
  · rw [up2_eq, if_pos hp0, f348]
    simp [hp0]
