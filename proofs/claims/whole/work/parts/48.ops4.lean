def cp2_ (lo hi : Nat) (x : Int32) : Bool := !(decide (x < nI lo)) && !(decide (nI hi < x))
theorem C_can {z : Nat → Int32} {f : Nat → Nat → Int32} {n : Nat} {K S T : Nat → Nat} (h : IvP z f n K S T) {a : Nat} (ha : a < n) (x : Int32) : fX2_canPlay (HH z f) (3 + a) x = some (bi_ (cp2_ (wF_ K S T a) (bF_ K S a) x)) := by
  unfold fX2_canPlay
  simp only [obp_ (P_six h ha), P_cw h ha, P_cb h ha, Option.bind_some]
  by_cases h1 : x < nI (wF_ K S T a)
  · simp [h1, cp2_, bi_]
  · by_cases h2 : nI (bF_ K S a) < x
    · simp [h1, h2, cp2_, bi_]
    · simp [h1, h2, cp2_, bi_]
theorem C_both {z : Nat → Int32} {f : Nat → Nat → Int32} {n G a b : Nat} (hn : n ≤ 6) (hG : IvG z n G) (ha : a < n) (hb : b < n) : fX7_bothHere (HH z f) 1 (nI a) (nI b) = some (bi_ (!(G.testBit a || G.testBit b))) := by
  unfold fX7_bothHere
  simp only [q_1_0, qp_ (show a < 6 by omega), qp_ (show b < 6 by omega), gp_ (show a < 6 by omega) (show 3 < 4 by decide), gp_ (show b < 6 by omega) (show 3 < 4 by decide), hG.2.2 a ha, hG.2.2 b hb, Option.bind_some]
  cases G.testBit a <;> cases G.testBit b <;> simp [bi_]
theorem M_isOf {h : hp_H} {G p : Nat} (hG : G < 64) (hp : p < 6) : fX9_isOf h (nI G) (nI p) = some (bi_ (G.testBit p)) := by
  unfold fX9_isOf
  rw [g_bit G hG p hp]
  cases G.testBit p <;> simp [bi_]
theorem M_away {z : Nat → Int32} {f : Nat → Nat → Int32} {G a b : Nat} (hz : z 1286 = nI G) (h64 : G < 64) (ha : a < 6) (hb : b < 6) : fX9_isAway (HH z f) 40 (nI a) (nI b) = some (bi_ (G.testBit a || G.testBit b)) := by
  unfold fX9_isAway
  simp only [g_40_6, hz, M_isOf h64 ha, M_isOf h64 hb, Option.bind_some]
  cases G.testBit a <;> cases G.testBit b <;> simp [bi_]
theorem C_win {z : Nat → Int32} {f : Nat → Nat → Int32} {a b : Nat} (ha : a < 6) (hb : b < 6) (x y : Int32) : fX7_winnerLeaves (HH z f) 1 (nI a) (nI b) x y = some (if x = y then (-9, HH z f) else (nI (if x ≤ y then b else a), HH (upd z (32 * (3 + (if x ≤ y then b else a)) + 3) 1) f)) := by
  unfold fX7_winnerLeaves jX7_winnerLeaves_20
  by_cases h1 : x = y
  · simp [h1]
  · by_cases h2 : x ≤ y
    · simp only [h1, h2, if_true, if_false, q_1_0, qp_ hb, pzp_ hb z f 1 (Or.inr rfl), Option.bind_some]
    · simp only [h1, h2, if_false, q_1_0, qp_ ha, pzp_ ha z f 1 (Or.inr rfl), Option.bind_some]
theorem M_win {z : Nat → Int32} {f : Nat → Nat → Int32} {G a b : Nat} (hz : z 1286 = nI G) (h64 : G < 64) (ha : a < 6) (hb : b < 6) (x y : Int32) : fX9_play (HH z f) 40 (nI a) (nI b) x y = some (if x = y then (-9, HH z f) else (nI (if x ≤ y then b else a), HH (upd z 1286 (nI (G ||| 2 ^ (if x ≤ y then b else a)))) f)) := by
  unfold fX9_play jX9_play_20
  by_cases h1 : x = y
  · simp [h1]
  · by_cases h2 : x ≤ y
    · simp only [h1, h2, if_true, if_false, g_40_6, hz, p_40_6, g_or G h64 b hb, Option.bind_some]
    · simp only [h1, h2, if_false, g_40_6, hz, p_40_6, g_or G h64 a ha, Option.bind_some]
theorem Inv_gm {z : Nat → Int32} {f : Nat → Nat → Int32} {v : Int32} (h : Inv z f) : Inv (upd (upd z 6 v) 1287 v) f := by
  obtain ⟨n, K, S, T, G, r, A, B, W, U, hP, hG, hX, hS, hR⟩ := h
  exact ⟨n, K, S, T, G, r, A, B, W, U, IvP_z (by decide) (IvP_z (by decide) hP), IvG_z hP.2.1 (by decide) (IvG_z hP.2.1 (by decide) hG), X_gm hX, IvS_z (by decide) (IvS_z (by decide) hS), IvR_z (by decide) (IvR_z (by decide) hR)⟩
/-- a game that is played, on both sides -/
theorem game_end {z : Nat → Int32} {f : Nat → Nat → Int32} {n G r : Nat} {K S T A B W U : Nat → Nat} (hP : IvP z f n K S T) (hG : IvG z n G) (hX : IvX z) (hS : IvS z f) (hR : IvR z f n r A B W U) {a b : Nat} (ha : a < n) (hb : b < n) (x y : Int32) : ∃ c z1 z2, fX7_winnerLeaves (HH (upd z 6 (z 6 + 1)) f) 1 (nI a) (nI b) x y = some (c, HH z1 f) ∧ fX9_play (HH (upd z1 1287 (z 6 + 1)) f) 40 (nI a) (nI b) x y = some (c, HH z2 f) ∧ z1 1287 = z 6 ∧ z1 1285 = nI n ∧ z1 1286 = nI G ∧ IvP z1 f n K S T ∧ IvP (upd z1 1287 (z 6 + 1)) f n K S T ∧ Inv z2 f := by
  have hn := hP.2.1
  have h64 := G_64 hG hn
  have i1 : IvP (upd z 6 (z 6 + 1)) f n K S T := IvP_z (by decide) hP
  by_cases hxy : x = y
  · refine ⟨-9, upd z 6 (z 6 + 1), upd (upd z 6 (z 6 + 1)) 1287 (z 6 + 1), ?_, ?_, ?_, ?_, ?_, i1, IvP_z (by decide) i1, Inv_gm ⟨n, K, S, T, G, r, A, B, W, U, hP, hG, hX, hS, hR⟩⟩
    · rw [C_win (by omega) (by omega), if_pos hxy]
    · rw [M_win (G := G) (by rw [upd_ne (by decide), upd_ne (by decide)]; exact hG.2.1) h64 (by omega) (by omega), if_pos hxy]
    · rw [upd_ne (by decide)]; exact hX.1.symm
    · rw [upd_ne (by decide)]; exact hP.2.2.2.1
    · rw [upd_ne (by decide)]; exact hG.2.1
  · obtain ⟨w, hw, hwn⟩ : ∃ w, w = (if x ≤ y then b else a) ∧ w < n := ⟨_, rfl, by split <;> assumption⟩
    have i2 : IvP (upd (upd z 6 (z 6 + 1)) (32 * (3 + w) + 3) 1) f n K S T := IvP_z (by omega) i1
    refine ⟨nI w, upd (upd z 6 (z 6 + 1)) (32 * (3 + w) + 3) 1, upd (upd (upd (upd z 6 (z 6 + 1)) (32 * (3 + w) + 3) 1) 1287 (z 6 + 1)) 1286 (nI (G ||| 2 ^ w)), ?_, ?_, ?_, ?_, ?_, i2, IvP_z (by decide) i2, ?_⟩
    · rw [C_win (by omega) (by omega), if_neg hxy, ← hw]
    · rw [M_win (G := G) (by rw [upd_ne (by decide), upd_ne (by omega), upd_ne (by decide)]; exact hG.2.1) h64 (by omega) (by omega), if_neg hxy, ← hw]
    · rw [upd_ne (by omega), upd_ne (by decide)]; exact hX.1.symm
    · rw [upd_ne (by omega), upd_ne (by decide)]; exact hP.2.2.2.1
    · rw [upd_ne (by omega), upd_ne (by decide)]; exact hG.2.1
    · rw [upd_cm (k := 32 * (3 + w) + 3) (j := 1287) (by omega)]
      exact ⟨n, K, S, T, G ||| 2 ^ w, r, A, B, W, U, IvP_z (by decide) (IvP_z (by omega) (IvP_z (by decide) (IvP_z (by decide) hP))), G_set hn (IvG_z hn (by decide) (IvG_z hn (by decide) hG)) hwn, IvX_z (by decide) (IvX_z (by omega) (X_gm hX)), IvS_z (by decide) (IvS_z (by omega) (IvS_z (by decide) (IvS_z (by decide) hS))), IvR_z (by decide) (IvR_z (by omega) (IvR_z (by decide) (IvR_z (by decide) hR)))⟩
theorem op_game : Op_game := by
  intro z f p q x y iv
  have iv0 := iv
  obtain ⟨n, K, S, T, G, r, A, B, W, U, hP, hG, hX, hS, hR⟩ := iv
  have hn := hP.2.1
  have h64 := G_64 hG hn
  unfold fX8_game
  simp only [q_0_0, ob_0, ob_1, C_two hP.2.2.1, Option.bind_some]
  cases h2 : t2_ n p q
  · refine ⟨-1, z, f, z, f, by simp only [b_f, if_true], ?_, iv0⟩
    unfold fX9_game
    simp only [ob_40, M_two hP.2.2.2.1, Option.bind_some, h2, b_f, if_true]
  · obtain ⟨a, b, ha, hb, hab, rfl, rfl⟩ := t2_at hn h2
    have h6 := P_six hP ha
    have h6b := P_six hP hb
    simp only [b_t, n10_, if_false, q_1_0, qp_ h6, qp_ h6b, obp_ h6, obp_ h6b, C_can hP ha, C_can hP hb, C_both hn hG ha hb, Option.bind_some]
    cases c1 : cp2_ (wF_ K S T a) (bF_ K S a) x
    · refine ⟨-2, z, f, z, f, by simp only [b_f, if_true], ?_, iv0⟩
      unfold fX9_game
      simp only [ob_40, M_two hP.2.2.2.1, Option.bind_some, h2, b_t, n10_, if_false, P_mw hP ha, P_mb hP ha, M_within]
      rw [show (!(decide (x < nI (wF_ K S T a))) && !(decide (nI (bF_ K S a) < x))) = false from c1]
      simp only [b_f, if_true]
    · cases c2 : cp2_ (wF_ K S T b) (bF_ K S b) y
      · refine ⟨-2, z, f, z, f, by simp only [b_t, b_f, n10_, if_false, if_true], ?_, iv0⟩
        unfold fX9_game
        simp only [ob_40, M_two hP.2.2.2.1, Option.bind_some, h2, b_t, n10_, if_false, P_mw hP ha, P_mb hP ha, P_mw hP hb, P_mb hP hb, M_within]
        rw [show (!(decide (x < nI (wF_ K S T a))) && !(decide (nI (bF_ K S a) < x))) = true from c1, show (!(decide (y < nI (wF_ K S T b))) && !(decide (nI (bF_ K S b) < y))) = false from c2]
        simp only [b_f, b_t, n10_, if_false, if_true]
      · cases c3 : (G.testBit a || G.testBit b)
        · obtain ⟨c, z1, z2, g1, g2, g3, g4, g5, g6, g7, iv2⟩ := game_end hP hG hX hS hR ha hb x y
          refine ⟨c, z1, f, z2, f, ?_, ?_, iv2⟩
          · simp only [b_t, n10_, if_false, Bool.not_false, g_0_6, p_0_6, q_0_0, ob_1, Option.bind_some, g1]
          · unfold fX9_game
            simp only [ob_40, M_two g4, Option.bind_some, h2, b_t, n10_, if_false, P_mw g6 ha, P_mb g6 ha, P_mw g6 hb, P_mb g6 hb, M_within]
            rw [show (!(decide (x < nI (wF_ K S T a))) && !(decide (nI (bF_ K S a) < x))) = true from c1, show (!(decide (y < nI (wF_ K S T b))) && !(decide (nI (bF_ K S b) < y))) = true from c2]
            simp only [b_t, n10_, if_false, M_away g5 h64 h6 h6b, c3, b_f, if_true, g_40_7, p_40_7, g3, ob_40, g2, Option.bind_some]
        · refine ⟨-3, z, f, z, f, by simp only [b_t, b_f, n10_, if_false, if_true, Bool.not_true], ?_, iv0⟩
          unfold fX9_game
          simp only [ob_40, M_two hP.2.2.2.1, Option.bind_some, h2, b_t, n10_, if_false, P_mw hP ha, P_mb hP ha, P_mw hP hb, P_mb hP hb, M_within]
          rw [show (!(decide (x < nI (wF_ K S T a))) && !(decide (nI (bF_ K S a) < x))) = true from c1, show (!(decide (y < nI (wF_ K S T b))) && !(decide (nI (bF_ K S b) < y))) = true from c2]
          simp only [b_t, n10_, if_false, M_away hG.2.1 h64 h6 h6b, c3, Option.bind_some]
theorem cp2_lo {lo hi : Nat} (h : lo ≤ hi) (hh : hi < 2 ^ 31) : cp2_ lo hi (nI lo) = true := by
  simp [cp2_, nI_nlt (Nat.le_refl lo) (show lo < 2 ^ 31 by omega), nI_nlt h hh]
theorem op_shy : Op_shy := by
  intro z f p q iv
  have iv0 := iv
  obtain ⟨n, K, S, T, G, r, A, B, W, U, hP, hG, hX, hS, hR⟩ := iv
  have hn := hP.2.1
  have h64 := G_64 hG hn
  unfold fX8_shy
  simp only [q_0_0, ob_0, ob_1, C_two hP.2.2.1, Option.bind_some]
  cases h2 : t2_ n p q
  · refine ⟨-1, z, f, z, f, by simp only [b_f, if_true], ?_, iv0⟩
    unfold fX9_shy
    simp only [ob_40, M_two hP.2.2.2.1, Option.bind_some, h2, b_f, if_true]
  · obtain ⟨a, b, ha, hb, hab, rfl, rfl⟩ := t2_at hn h2
    have h6 := P_six hP ha
    have h6b := P_six hP hb
    have ba := bF_le hP ha
    have bb := bF_le hP hb
    have ca := cp2_lo (wF_le (K := K) (S := S) (T := T) a) (show bF_ K S a < 2 ^ 31 by omega)
    have cb := cp2_lo (wF_le (K := K) (S := S) (T := T) b) (show bF_ K S b < 2 ^ 31 by omega)
    simp only [b_t, n10_, if_false, q_1_0, qp_ h6, qp_ h6b, obp_ h6, obp_ h6b, P_cw hP ha, P_cw hP hb, Option.bind_some]
    unfold fX8_game
    simp only [q_0_0, q_1_0, ob_0, ob_1, C_two hP.2.2.1, h2, b_t, n10_, if_false, qp_ h6, qp_ h6b, obp_ h6, obp_ h6b, C_can hP ha, C_can hP hb, ca, cb, C_both hn hG ha hb, Option.bind_some]
    cases c3 : (G.testBit a || G.testBit b)
    · obtain ⟨c, z1, z2, g1, g2, g3, g4, g5, g6, g7, iv2⟩ := game_end hP hG hX hS hR ha hb (nI (wF_ K S T a)) (nI (wF_ K S T b))
      refine ⟨c, z1, f, z2, f, ?_, ?_, iv2⟩
      · simp only [b_t, n10_, if_false, Bool.not_false, g_0_6, p_0_6, q_0_0, ob_1, Option.bind_some, g1]
      · unfold fX9_shy
        simp only [ob_40, M_two g4, Option.bind_some, h2, b_t, n10_, if_false, M_away g5 h64 h6 h6b, c3, b_f, if_true, g_40_7, p_40_7, g3, P_mw g7 ha, P_mw g7 hb, g2]
    · refine ⟨-3, z, f, z, f, by simp only [b_f, if_true, Bool.not_true, Option.bind_some], ?_, iv0⟩
      unfold fX9_shy
      simp only [ob_40, M_two hP.2.2.2.1, Option.bind_some, h2, b_t, n10_, if_false, M_away hG.2.1 h64 h6 h6b, c3]
