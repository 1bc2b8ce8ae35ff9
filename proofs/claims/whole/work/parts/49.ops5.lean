theorem i_lt {x y : Int32} : (x < y) ↔ ¬ (y ≤ x) := by rw [Int32.lt_iff_toInt_lt, Int32.le_iff_toInt_le]; omega
theorem IvR_cut {z : Nat → Int32} {f : Nat → Nat → Int32} {n r : Nat} {A B W U : Nat → Nat} {j : Nat} (h : IvR z f n r A B W U) : IvR (upd (upd z 324 (nI (r - j))) 1304 (nI (r - j))) f n (r - j) A B W U := by
  obtain ⟨h1, h2, h3, h4⟩ := h
  refine ⟨by omega, ?_, upd_eq, fun q hq => h4 q (by omega)⟩
  rw [upd_ne (by decide), upd_eq]
theorem op_back : Op_back := by
  intro z f p iv
  have iv0 := iv
  obtain ⟨n, K, S, T, G, r, A, B, W, U, hP, hG, hX, hS, hR⟩ := iv
  have hn := hP.2.1
  have hr8 := hR.1
  unfold fX8_back
  simp only [q_0_2, g_10_4, hR.2.1, Option.bind_some]
  by_cases c0 : p < 0
  · refine ⟨-2, z, f, z, f, by simp only [c0, if_true], ?_, iv0⟩
    unfold fX9_back
    simp only [g_40_24, hR.2.2.1, M_within, Option.bind_some, c0, decide_true, Bool.not_true, Bool.false_and, b_f, if_true]
  · by_cases c1 : p ≤ nI r
    · obtain ⟨j, hj, rfl⟩ := nI_of2 (M := nI r) (n := r) (nI_toInt (by omega)) c0 c1
      have c2 : ¬ nI r < nI j := fun q => i_lt.mp q c1
      have e1 : mx_ 0 (nI r - nI j) = nI (r - j) := mx_sub (by omega) (by omega)
      refine ⟨nI (r - j), upd z 324 (nI (r - j)), f, upd (upd z 324 (nI (r - j))) 1304 (nI (r - j)), f, ?_, ?_, n, K, S, T, G, r - j, A, B, W, U, IvP_z (by decide) (IvP_z (by decide) hP), IvG_z hn (by decide) (IvG_z hn (by decide) hG), IvX_z (by decide) (IvX_z (by decide) hX), IvS_z (by decide) (IvS_z (by decide) hS), IvR_cut hR⟩
      · simp only [c0, c1, if_false, if_true, ob_10, fX0_forget, g_10_4, p_10_4, hR.2.1, e1, q_0_2, upd_eq, Option.bind_some]
      · unfold fX9_back
        have e2 : (upd z 324 (nI (r - j))) 1304 = nI r := by rw [upd_ne (by decide)]; exact hR.2.2.1
        simp only [g_40_24, p_40_24, e2, M_within, Option.bind_some, c0, c2, decide_false, Bool.not_false, Bool.and_true, b_t, n10_, if_false, pk_sub hj, upd_eq]
    · have c2 : nI r < p := i_lt.mpr c1
      refine ⟨-2, z, f, z, f, by simp only [c0, c1, if_false], ?_, iv0⟩
      unfold fX9_back
      simp only [g_40_24, hR.2.2.1, M_within, Option.bind_some, c2, decide_true, Bool.not_true, Bool.and_false, b_f, if_true]
theorem ax_r {z : Nat → Int32} {f : Nat → Nat → Int32} {i q : Nat} (hi : SP_[i]? = some (.inr (.inl 8))) (hq : q < 8) (x : Int32) : ax_ (HH z f) i (nI q) x = some (HH z (up2 f i (upd (f i) q x))) := HH_ax hi hq (by decide)
theorem IvR_add {z : Nat → Int32} {f : Nat → Nat → Int32} {n r : Nat} {A B W U : Nat → Nat} {a b w u : Nat} (h : IvR z f n r A B W U) (hr : r < 8) (ha : a < n) (hb : b < n) (hab : a ≠ b) (hw : w < 2) (hu : u < 3) :
    IvR (upd (upd z 324 (nI (r + 1))) 1304 (nI (r + 1))) (up2 (up2 (up2 (up2 (up2 (up2 (up2 (up2 f 11 (upd (f 11) r (nI a))) 12 (upd (f 12) r (nI b))) 13 (upd (f 13) r (nI w))) 14 (upd (f 14) r (nI u))) 54 (upd (f 54) r (nI a))) 55 (upd (f 55) r (nI b))) 56 (upd (f 56) r (nI w))) 57 (upd (f 57) r (nI u))) n (r + 1) (uN_ A r a) (uN_ B r b) (uN_ W r w) (uN_ U r u) := by
  obtain ⟨h1, h2, h3, h4⟩ := h
  refine ⟨by omega, by rw [upd_ne (by decide), upd_eq], upd_eq, fun q hq => ?_⟩
  have e11 : (up2 (up2 (up2 (up2 (up2 (up2 (up2 (up2 f 11 (upd (f 11) r (nI a))) 12 (upd (f 12) r (nI b))) 13 (upd (f 13) r (nI w))) 14 (upd (f 14) r (nI u))) 54 (upd (f 54) r (nI a))) 55 (upd (f 55) r (nI b))) 56 (upd (f 56) r (nI w))) 57 (upd (f 57) r (nI u))) = fun i => if i = 57 then upd (f 57) r (nI u) else if i = 56 then upd (f 56) r (nI w) else if i = 55 then upd (f 55) r (nI b) else if i = 54 then upd (f 54) r (nI a) else if i = 14 then upd (f 14) r (nI u) else if i = 13 then upd (f 13) r (nI w) else if i = 12 then upd (f 12) r (nI b) else if i = 11 then upd (f 11) r (nI a) else f i := rfl
  rw [e11]
  simp only [show ¬ (11 : Nat) = 57 by decide, show ¬ (11 : Nat) = 56 by decide, show ¬ (11 : Nat) = 55 by decide, show ¬ (11 : Nat) = 54 by decide, show ¬ (11 : Nat) = 14 by decide, show ¬ (11 : Nat) = 13 by decide, show ¬ (11 : Nat) = 12 by decide, show ¬ (12 : Nat) = 57 by decide, show ¬ (12 : Nat) = 56 by decide, show ¬ (12 : Nat) = 55 by decide, show ¬ (12 : Nat) = 54 by decide, show ¬ (12 : Nat) = 14 by decide, show ¬ (12 : Nat) = 13 by decide, show ¬ (13 : Nat) = 57 by decide, show ¬ (13 : Nat) = 56 by decide, show ¬ (13 : Nat) = 55 by decide, show ¬ (13 : Nat) = 54 by decide, show ¬ (13 : Nat) = 14 by decide, show ¬ (14 : Nat) = 57 by decide, show ¬ (14 : Nat) = 56 by decide, show ¬ (14 : Nat) = 55 by decide, show ¬ (14 : Nat) = 54 by decide, show ¬ (54 : Nat) = 57 by decide, show ¬ (54 : Nat) = 56 by decide, show ¬ (54 : Nat) = 55 by decide, show ¬ (55 : Nat) = 57 by decide, show ¬ (55 : Nat) = 56 by decide, show ¬ (56 : Nat) = 57 by decide, if_false, if_true]
  by_cases hqr : q = r
  · subst hqr
    simp only [uN_, if_true, upd_eq]
    exact ⟨ha, hb, hab, hw, hu, trivial, trivial, trivial, trivial, trivial, trivial, trivial, trivial⟩
  · simp only [uN_, if_neg hqr, upd_ne hqr]
    exact h4 q (by omega)
theorem two_w {w : Int32} : (¬ w < 0 ∧ ¬ (1 : Int32) < w) → ∃ k, k < 2 ∧ w = nI k := by
  intro h
  obtain ⟨j, hj, e⟩ := nI_of2 (M := 1) (n := 1) (by decide) h.1 (Classical.byContradiction fun q => h.2 (i_lt.mpr q))
  exact ⟨j, by omega, e⟩
theorem three_w {w : Int32} : (¬ w < 0 ∧ w ≤ 2) → ∃ k, k < 3 ∧ w = nI k := by
  intro h
  obtain ⟨j, hj, e⟩ := nI_of2 (M := 2) (n := 2) (by decide) h.1 h.2
  exact ⟨j, by omega, e⟩
theorem op_reading : Op_reading := by
  intro z f p q x y iv
  have iv0 := iv
  obtain ⟨n, K, S, T, G, r, A, B, W, U, hP, hG, hX, hS, hR⟩ := iv
  have hn := hP.2.1
  have hr8 := hR.1
  unfold fX8_reading
  simp only [q_0_0, ob_1, C_two hP.2.2.1, Option.bind_some]
  cases h2 : t2_ n p q
  · refine ⟨-1, z, f, z, f, by simp only [b_f, if_true], ?_, iv0⟩
    unfold fX9_reading
    simp only [ob_40, M_two hP.2.2.2.1, Option.bind_some, h2, b_f, if_true]
  · simp only [b_t, n10_, if_false]
    by_cases c0 : x < 0
    · refine ⟨-2, z, f, z, f, by simp only [c0, if_true], ?_, iv0⟩
      unfold fX9_reading
      simp only [ob_40, M_two hP.2.2.2.1, Option.bind_some, h2, b_t, n10_, if_false, M_within, c0, decide_true, Bool.not_true, Bool.false_and, b_f, if_true]
    by_cases c1 : 1 < x
    · refine ⟨-2, z, f, z, f, by simp only [c0, c1, if_false, if_true], ?_, iv0⟩
      unfold fX9_reading
      simp only [ob_40, M_two hP.2.2.2.1, Option.bind_some, h2, b_t, n10_, if_false, M_within, c1, decide_true, Bool.not_true, Bool.and_false, b_f, if_true]
    by_cases c2 : y < 0
    · refine ⟨-2, z, f, z, f, by simp only [c0, c1, c2, if_false, if_true], ?_, iv0⟩
      unfold fX9_reading
      simp only [ob_40, M_two hP.2.2.2.1, Option.bind_some, h2, b_t, n10_, if_false, M_within, c0, c1, c2, decide_true, decide_false, Bool.not_true, Bool.not_false, Bool.and_true, Bool.false_and, b_f, if_true]
    by_cases c3 : y ≤ 2
    · have c4 : ¬ (2 : Int32) < y := fun q => i_lt.mp q c3
      obtain ⟨w, hw, rfl⟩ := two_w ⟨c0, c1⟩
      obtain ⟨u, hu, rfl⟩ := three_w ⟨c2, c3⟩
      obtain ⟨a, b, ha, hb, hab, rfl, rfl⟩ := t2_at hn h2
      simp only [c0, c1, c2, c3, if_false, if_true, q_0_2, ob_10, Option.bind_some]
      by_cases c5 : r < 8
      · have c6 : nI r < 8 := nI_lt (b := 8) c5 (by decide)
        have c7 : ¬ nI r = 8 := fun e => absurd ((nI_eq (a := r) (b := 8) (by omega) (by decide)).mp e) (by omega)
        refine ⟨nI r, upd z 324 (nI (r + 1)), up2 (up2 (up2 (up2 f 11 (upd (f 11) r (nI a))) 12 (upd (f 12) r (nI b))) 13 (upd (f 13) r (nI w))) 14 (upd (f 14) r (nI u)), upd (upd z 324 (nI (r + 1))) 1304 (nI (r + 1)), up2 (up2 (up2 (up2 (up2 (up2 (up2 (up2 f 11 (upd (f 11) r (nI a))) 12 (upd (f 12) r (nI b))) 13 (upd (f 13) r (nI w))) 14 (upd (f 14) r (nI u))) 54 (upd (f 54) r (nI a))) 55 (upd (f 55) r (nI b))) 56 (upd (f 56) r (nI w))) 57 (upd (f 57) r (nI u)), ?_, ?_, n, K, S, T, G, r + 1, uN_ A r a, uN_ B r b, uN_ W r w, uN_ U r u, ?_, IvG_z hn (by decide) (IvG_z hn (by decide) hG), IvX_z (by decide) (IvX_z (by decide) hX), ?_, IvR_add hR c5 ha hb hab hw hu⟩
        · unfold fX0_note
          simp only [g_10_4, hR.2.1, c6, if_true, q_10_0, q_10_1, q_10_2, q_10_3, ax_r (i := 11) rfl c5, ax_r (i := 12) rfl c5, ax_r (i := 13) rfl c5, ax_r (i := 14) rfl c5, up2_ne (show (12 : Nat) ≠ 11 by decide), up2_ne (show (13 : Nat) ≠ 12 by decide), up2_ne (show (13 : Nat) ≠ 11 by decide), up2_ne (show (14 : Nat) ≠ 13 by decide), up2_ne (show (14 : Nat) ≠ 12 by decide), up2_ne (show (14 : Nat) ≠ 11 by decide), p_10_4, nI_1, Option.bind_some]
        · have e85 : (upd z 324 (nI (r + 1))) 1285 = nI n := by rw [upd_ne (by decide)]; exact hP.2.2.2.1
          have e04 : (upd z 324 (nI (r + 1))) 1304 = nI r := by rw [upd_ne (by decide)]; exact hR.2.2.1
          unfold fX9_reading
          simp only [ob_40, M_two e85, Option.bind_some, h2, b_t, n10_, if_false, M_within, c0, c1, c2, c4, decide_false, Bool.not_false, Bool.and_true, g_40_24, e04, c7, q_40_25, q_40_26, q_40_27, q_40_28, ax_r (i := 54) rfl c5, ax_r (i := 55) rfl c5, ax_r (i := 56) rfl c5, ax_r (i := 57) rfl c5, up2_ne (show (54 : Nat) ≠ 14 by decide), up2_ne (show (54 : Nat) ≠ 13 by decide), up2_ne (show (54 : Nat) ≠ 12 by decide), up2_ne (show (54 : Nat) ≠ 11 by decide), up2_ne (show (55 : Nat) ≠ 54 by decide), up2_ne (show (55 : Nat) ≠ 14 by decide), up2_ne (show (55 : Nat) ≠ 13 by decide), up2_ne (show (55 : Nat) ≠ 12 by decide), up2_ne (show (55 : Nat) ≠ 11 by decide), up2_ne (show (56 : Nat) ≠ 55 by decide), up2_ne (show (56 : Nat) ≠ 54 by decide), up2_ne (show (56 : Nat) ≠ 14 by decide), up2_ne (show (56 : Nat) ≠ 13 by decide), up2_ne (show (56 : Nat) ≠ 12 by decide), up2_ne (show (56 : Nat) ≠ 11 by decide), up2_ne (show (57 : Nat) ≠ 56 by decide), up2_ne (show (57 : Nat) ≠ 55 by decide), up2_ne (show (57 : Nat) ≠ 54 by decide), up2_ne (show (57 : Nat) ≠ 14 by decide), up2_ne (show (57 : Nat) ≠ 13 by decide), up2_ne (show (57 : Nat) ≠ 12 by decide), up2_ne (show (57 : Nat) ≠ 11 by decide), p_40_24, nI_1, upd_eq, nI_pred]
        · exact IvP_z (by decide) (IvP_z (by decide) (IvP_f (by decide) (IvP_f (by decide) (IvP_f (by decide) (IvP_f (by decide) (IvP_f (by decide) (IvP_f (by decide) (IvP_f (by decide) (IvP_f (by decide) hP)))))))))
        · exact IvS_z (by decide) (IvS_z (by decide) (IvS_f (by decide) (IvS_f (by decide) (IvS_f (by decide) (IvS_f (by decide) (IvS_f (by decide) (IvS_f (by decide) (IvS_f (by decide) (IvS_f (by decide) hS)))))))))
      · have e8 : r = 8 := by omega
        subst e8
        refine ⟨-4, z, f, z, f, ?_, ?_, iv0⟩
        · unfold fX0_note
          simp only [g_10_4, hR.2.1, Option.bind_some]
          rw [if_neg (show ¬ nI 8 < 8 by decide), Option.bind_some]
        · unfold fX9_reading
          simp only [ob_40, M_two hP.2.2.2.1, Option.bind_some, h2, b_t, n10_, if_false, M_within, c0, c1, c2, c4, decide_false, Bool.not_false, Bool.and_true, g_40_24, hR.2.2.1]
          rw [if_pos (show nI 8 = 8 by decide)]
    · have c4 : (2 : Int32) < y := i_lt.mpr c3
      refine ⟨-2, z, f, z, f, by simp only [c0, c1, c2, c3, if_false], ?_, iv0⟩
      unfold fX9_reading
      simp only [ob_40, M_two hP.2.2.2.1, Option.bind_some, h2, b_t, n10_, if_false, M_within, c0, c1, c4, decide_true, decide_false, Bool.not_true, Bool.not_false, Bool.and_true, Bool.and_false, b_f, if_true]
theorem op_common : Op_common := by
  intro z f p q iv
  obtain ⟨n, K, S, T, G, r, A, B, W, U, hP, hG, hX, hS, hR⟩ := iv
  have hn := hP.2.1
  unfold fX8_common fX9_common
  simp only [q_0_0, ob_1, ob_40, C_two hP.2.2.1, M_two hP.2.2.2.1, Option.bind_some]
  cases h2 : t2_ n p q
  · exact ⟨-1, rfl, rfl⟩
  · obtain ⟨a, b, ha, hb, hab, rfl, rfl⟩ := t2_at hn h2
    have h6 := P_six hP ha
    have h6b := P_six hP hb
    have ba := bF_le hP ha
    have bb := bF_le hP hb
    have wa := wF_le (K := K) (S := S) (T := T) a
    have wb := wF_le (K := K) (S := S) (T := T) b
    simp only [b_t, n10_, if_false, q_1_0, qp_ h6, qp_ h6b, obp_ h6, obp_ h6b, P_cw hP ha, P_cw hP hb, P_cb hP ha, P_cb hP hb, P_mw hP ha, P_mw hP hb, P_mb hP ha, P_mb hP hb, jX9_common_37, jX9_common_64, ob_40, Option.bind_some]
    generalize bF_ K S a = x1 at *
    generalize bF_ K S b = x2 at *
    generalize wF_ K S T a = y1 at *
    generalize wF_ K S T b = y2 at *
    have e1 : mn_ (nI x1) (nI x2) = nI (min x1 x2) := by
      unfold mn_
      by_cases h : x2 < x1
      · rw [if_pos (nI_lt h (by omega)), Nat.min_eq_right (by omega)]
      · rw [if_neg (nI_nlt (by omega) (by omega)), Nat.min_eq_left (by omega)]
    have e2 : mx_ (nI y1) (nI y2) = nI (max y1 y2) := by
      unfold mx_
      by_cases h : y1 < y2
      · rw [if_pos (nI_lt h (by omega)), Nat.max_eq_right (by omega)]
      · rw [if_neg (nI_nlt (by omega) (by omega)), Nat.max_eq_left (by omega)]
    have hx : min x1 x2 ≤ 18 := by omega
    have hy : max y1 y2 ≤ 18 := by omega
    have e3 : mx_ 0 (nI (min x1 x2) - nI (max y1 y2) + 1) = nI (min x1 x2 + 1 - max y1 y2) := by
      have : nI (min x1 x2) - nI (max y1 y2) + 1 = nI (min x1 x2 + 1) - nI (max y1 y2) := by
        rw [← nI_1]
        rw [Int32.sub_eq_add_neg, Int32.sub_eq_add_neg, Int32.add_assoc, Int32.add_assoc, Int32.add_comm (-nI (max y1 y2)) 1]
      rw [this, mx_sub (by omega) (by omega)]
    refine ⟨nI (min x1 x2 + 1 - max y1 y2), by rw [e1, e2, e3], ?_⟩
    have key : ∀ m t : Nat, m ≤ 18 → t ≤ 18 → (if nI m ≤ nI t then some (nI t - nI m + 1) else some 0) = some (nI (t + 1 - m)) := by
      intro m t hm ht
      by_cases h : m ≤ t
      · rw [if_pos (nI_le h (by omega)), pk_sub h, nI_1, show t - m + 1 = t + 1 - m by omega]
      · rw [if_neg (nI_ge (by omega) (by omega)), show t + 1 - m = 0 by omega]
        rfl
    by_cases h1 : y1 ≤ y2
    · rw [if_pos (nI_le h1 (by omega)), Nat.max_eq_right h1]
      by_cases h3 : x2 ≤ x1
      · rw [if_pos (nI_le h3 (by omega)), Nat.min_eq_right h3, key _ _ (by omega) (by omega)]
      · rw [if_neg (nI_ge (by omega) (by omega)), Nat.min_eq_left (by omega), key _ _ (by omega) (by omega)]
    · rw [if_neg (nI_ge (by omega) (by omega)), Nat.max_eq_left (by omega)]
      by_cases h3 : x2 ≤ x1
      · rw [if_pos (nI_le h3 (by omega)), Nat.min_eq_right h3, key _ _ (by omega) (by omega)]
      · rw [if_neg (nI_ge (by omega) (by omega)), Nat.min_eq_left (by omega), key _ _ (by omega) (by omega)]
