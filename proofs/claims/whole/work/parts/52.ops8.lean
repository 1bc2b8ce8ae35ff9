def vb_ (i : Int32) (b : Nat) : Bool := !(decide (i < 0)) && !(decide (nI b - 1 < i))
theorem vb_at {i : Int32} {b : Nat} (hb : b ≤ 60) (h : vb_ i b = true) : ∃ q, q < b ∧ i = nI q := by
  simp only [vb_, Bool.and_eq_true, Bool.not_eq_true', decide_eq_false_iff_not] at h
  obtain ⟨h1, h2⟩ := h
  rcases Nat.eq_zero_or_pos b with h0 | h0
  · subst h0
    exfalso
    apply h2
    rw [Int32.lt_iff_toInt_lt]
    rw [Int32.lt_iff_toInt_lt] at h1
    have e1 : (nI 0 - 1).toInt = -1 := by decide
    have e2 : (0 : Int32).toInt = 0 := by decide
    omega
  · have e : nI b - 1 = nI (b - 1) := pk_sub (a := b) (b := 1) h0
    rw [e] at h2
    obtain ⟨j, hj, ej⟩ := nI_of2 (M := nI (b - 1)) (n := b - 1) (nI_toInt (by omega)) h1 (Classical.byContradiction fun q => h2 (i_lt.mpr q))
    exact ⟨j, by omega, ej⟩
theorem C_rch1 {z : Nat → Int32} {f : Nat → Nat → Int32} {k b : Nat} (hk : k < 4) (hb : z (32 * (32 + 2 * k) + 3) = nI b) (i : Int32) : fX5_reaches (HH z f) (32 + 2 * k) i 1 = some (bi_ (vb_ i b)) := by
  unfold fX5_reaches
  rw [if_neg (show ¬ ((1 : Int32) < 0) by decide)]
  by_cases h1 : i < 0
  · simp [h1, vb_, bi_]
  · rw [if_neg h1, gs_ hk (show 0 < 3 ∧ 3 < 4 by decide), Option.bind_some, hb]
    by_cases h2 : nI b - 1 < i
    · simp [h1, h2, vb_, bi_]
    · simp [h1, h2, vb_, bi_]
def ct_ (a : Nat) (v : Int32) : Int32 := if a = 0 then Int8.toInt32 (Int32.toInt8 v) else if a = 1 then Int16.toInt32 (Int32.toInt16 v) else v
theorem C_wr {z : Nat → Int32} {f : Nat → Nat → Int32} {k a b q : Nat} (hk : k < 4) (ha : a < 3) (hl : z (32 * (32 + 2 * k) + 2) = nI a) (hb : z (32 * (32 + 2 * k) + 3) = nI b) (hb60 : b ≤ 60) (hq : q < b) (v : Int32) (hv : vb_ (nI q) b = true) : fX5_write (HH z f) (32 + 2 * k) (nI q) v = some (HH z (up2 f (33 + 2 * k) (upd (f (33 + 2 * k)) q (ct_ a v)))) := by
  unfold fX5_write
  simp only [obs_ hk, C_rch1 hk hb, hv, b_t, n10_, if_false, gs_ hk (show 0 < 2 ∧ 2 < 4 by decide), hl, qc_ hk, axc_ hk (show q < 60 by omega), Option.bind_some]
  match a, ha with
  | 0, _ => rw [if_pos nI_0]; rfl
  | 1, _ => rw [if_neg (show ¬ nI 1 = 0 by decide), if_pos (show nI 1 = 1 by decide)]; rfl
  | 2, _ => rw [if_neg (show ¬ nI 2 = 0 by decide), if_neg (show ¬ nI 2 = 1 by decide)]; rfl
theorem IvS_cell {z : Nat → Int32} {f : Nat → Nat → Int32} {k q : Nat} {v : Int32} (hk : k < 4) (hq : q < 60) (h : IvS z f) : IvS z (up2 (up2 f (33 + 2 * k) (upd (f (33 + 2 * k)) q v)) 43 (upd (f 43) (60 * k + q) v)) := by
  intro j hj
  obtain ⟨s1, s2⟩ := h j hj
  rw [up2_eq, up2_ne (show (41 : Nat) ≠ 43 by decide), up2_ne (show (42 : Nat) ≠ 43 by decide), up2_ne (show (41 : Nat) ≠ 33 + 2 * k by omega), up2_ne (show (42 : Nat) ≠ 33 + 2 * k by omega), up2_ne (show 33 + 2 * j ≠ 43 by omega)]
  refine ⟨s1, fun i hi => ?_⟩
  by_cases hjk : j = k
  · subst hjk
    rw [up2_eq]
    by_cases hiq : i = q
    · subst hiq; rw [upd_eq, upd_eq]
    · rw [upd_ne hiq, upd_ne (by omega)]; exact s2 i hi
  · rw [up2_ne (by omega), upd_ne (by omega)]; exact s2 i hi
theorem op_put : Op_put := by
  intro z f p i v iv
  have iv0 := iv
  obtain ⟨n, K, S, T, G, r, A, B, W, U, hP, hG, hX, hS, hR⟩ := iv
  have hn := hP.2.1
  unfold fX8_put
  simp only [p_0_8, C_shs, ob_0, Option.bind_some]
  cases h2 : ip_ 4 p
  · refine ⟨-1, upd z 8 0, f, upd (upd z 8 0) 1280 0, f, by simp only [b_f, if_true], ?_, Inv_fl iv0⟩
    unfold fX9_put
    simp only [p_40_0, M_shs, Option.bind_some, h2, b_f, if_true]
  · obtain ⟨k, hk, rfl⟩ := ip_at (by decide) h2
    have u1 : ∀ j c, (upd z 8 c) (32 * (32 + 2 * k) + j) = z (32 * (32 + 2 * k) + j) := fun j c => upd_ne (by omega)
    simp only [b_t, n10_, if_false, q_0_1, qs_ hk, obs_ hk, gs_ hk (show 0 < 2 ∧ 2 < 4 by decide), Option.bind_some]
    unfold fX5_faultOfRow
    simp only [gs_ hk (show 0 < 1 ∧ 1 < 4 by decide), gs_ hk (show 0 < 2 ∧ 2 < 4 by decide), obs_ hk, u1, Option.bind_some]
    rcases (hS k hk).1 with ⟨s1, s2⟩ | ⟨s1, a, b, sa, sb, s3, s4, s5, s6⟩
    · refine ⟨-10 - 1, upd z 8 1, f, upd (upd z 8 1) 1280 1, f, ?_, ?_, Inv_fl iv0⟩
      · simp only [s1, if_true, n10_, if_false, C_flt, upd_upd, Option.bind_some]
      · have e1 : ∀ c : Int32, upd (upd (upd z 8 1) 1280 c) 1280 1 = upd (upd z 8 1) 1280 1 := fun c => upd_upd
        unfold fX9_put
        simp only [p_40_0, M_shs, ob_40, Option.bind_some, h2, b_t, n10_, if_false, q_40_2, al41 hk, s2, if_true, M_flt, e1]
    · have hb' : (upd z 8 0) (32 * (32 + 2 * k) + 3) = nI b := by rw [u1]; exact s5
      simp only [s1, n10_, if_false, if_true, show ((0 : Int32) ≤ 1) = True from eq_true (by decide), C_rch1 hk hb', Option.bind_some]
      cases hv : vb_ i b
      · refine ⟨-10 - 3, upd z 8 3, f, upd (upd z 8 3) 1280 3, f, ?_, ?_, Inv_fl iv0⟩
        · simp only [b_f, if_true, Option.bind_some, show ¬ ((3 : Int32) = 0) by decide, if_false, C_flt, upd_upd]
        · have e1 : ∀ c : Int32, upd (upd (upd z 8 3) 1280 c) 1280 3 = upd (upd z 8 3) 1280 3 := fun c => upd_upd
          unfold fX9_put
          simp only [p_40_0, M_shs, ob_40, Option.bind_some, h2, b_t, n10_, if_false, q_40_2, q_40_3, al41 hk, al42 hk, s4, s6, m9_ sa, M_within]
          rw [show (!(decide (i < 0)) && !(decide (nI b - 1 < i))) = false from hv]
          simp only [b_f, if_true, M_flt, e1, Option.bind_some]
      · obtain ⟨q, hq, rfl⟩ := vb_at sb hv
        have hl' : (upd z 8 0) (32 * (32 + 2 * k) + 2) = nI a := by rw [u1]; exact s3
        refine ⟨1, upd z 8 0, up2 f (33 + 2 * k) (upd (f (33 + 2 * k)) q (ct_ a v)), upd (upd z 8 0) 1280 0, up2 (up2 f (33 + 2 * k) (upd (f (33 + 2 * k)) q (ct_ a v))) 43 (upd (f 43) (60 * k + q) (ct_ a v)), ?_, ?_, n, K, S, T, G, r, A, B, W, U, IvP_z (by decide) (IvP_z (by decide) (IvP_f (by decide) (IvP_f (by omega) hP))), IvG_z hn (by decide) (IvG_z hn (by decide) hG), X_fl hX, IvS_z (by decide) (IvS_z (by decide) (IvS_cell hk (by omega) hS)), IvR_z (by decide) (IvR_z (by decide) (IvR_f (by decide) (IvR_f (by omega) hR)))⟩
        · simp only [b_t, n10_, if_false, if_true, q_0_1, qs_ hk, obs_ hk, C_wr hk sa hl' hb' sb hq v hv, Option.bind_some]
        · unfold fX9_put
          simp only [p_40_0, M_shs, ob_40, Option.bind_some, h2, b_t, n10_, if_false, q_40_2, q_40_3, q_40_4, al41 hk, al42 hk, up2_ne (show (41 : Nat) ≠ 33 + 2 * k by omega), up2_ne (show (42 : Nat) ≠ 33 + 2 * k by omega), up2_ne (show (43 : Nat) ≠ 33 + 2 * k by omega), s4, s6, m9_ sa, M_within]
          rw [show (!(decide (nI q < 0)) && !(decide (nI b - 1 < nI q))) = true from hv]
          simp only [b_t, n10_, if_false, ix60, ax43 (show 60 * k + q < 240 by omega), up2_ne (show (43 : Nat) ≠ 33 + 2 * k by omega), Option.bind_some]
          match a, sa with
          | 0, _ => rw [if_pos nI_0]; simp [ct_]
          | 1, _ => rw [if_neg (show ¬ nI 1 = 0 by decide), if_pos (show nI 1 = 1 by decide)]; simp [ct_]
          | 2, _ => rw [if_neg (show ¬ nI 2 = 0 by decide), if_neg (show ¬ nI 2 = 1 by decide)]; simp [ct_]
theorem M_lost {z : Nat → Int32} {f : Nat → Nat → Int32} (p : Int32) : fX9_lost (HH z f) 40 p = some (-9223372036854775808, HH (upd z 1280 p) f) := by
  unfold fX9_lost
  simp only [p_40_0, Option.bind_some]
theorem op_cell : Op_cell := by
  intro z f p i l iv
  have iv0 := iv
  obtain ⟨n, K, S, T, G, r, A, B, W, U, hP, hG, hX, hS, hR⟩ := iv
  have hn := hP.2.1
  unfold fX8_cell
  simp only [p_0_8, C_shs, C_lan, Option.bind_some]
  cases h2 : ip_ 4 p
  · refine ⟨-9223372036854775808, upd z 8 0, f, upd (upd z 8 0) 1280 0, f, by simp only [b_f, if_true], ?_, Inv_fl iv0⟩
    unfold fX9_cell
    simp only [p_40_0, M_shs, Option.bind_some, h2, b_f, if_true]
  cases h3 : ip_ 3 l
  · refine ⟨-9223372036854775808, upd z 8 0, f, upd (upd z 8 0) 1280 0, f, by simp only [b_t, b_f, n10_, if_false, if_true], ?_, Inv_fl iv0⟩
    unfold fX9_cell
    simp only [p_40_0, M_shs, M_lan, Option.bind_some, h2, h3, b_t, b_f, n10_, if_false, if_true]
  · obtain ⟨k, hk, rfl⟩ := ip_at (by decide) h2
    have u1 : ∀ j c, (upd z 8 c) (32 * (32 + 2 * k) + j) = z (32 * (32 + 2 * k) + j) := fun j c => upd_ne (by omega)
    have ev : ∀ c d : Int32, upd (upd (upd z 8 c) 1280 d) 1280 c = upd (upd z 8 c) 1280 c := fun c d => upd_upd
    simp only [b_t, n10_, if_false, q_0_1, qs_ hk, obs_ hk, Option.bind_some]
    unfold fX5_faultOfRow
    simp only [gs_ hk (show 0 < 1 ∧ 1 < 4 by decide), gs_ hk (show 0 < 2 ∧ 2 < 4 by decide), obs_ hk, u1, Option.bind_some]
    rcases (hS k hk).1 with ⟨s1, s2⟩ | ⟨s1, a, b, sa, sb, s3, s4, s5, s6⟩
    · refine ⟨-9223372036854775808, upd z 8 1, f, upd (upd z 8 1) 1280 1, f, ?_, ?_, Inv_fl iv0⟩
      · simp only [s1, if_true, n10_, if_false, p_0_8, g_0_8, upd_eq, upd_upd, Option.bind_some]
      · unfold fX9_cell jX9_cell_50
        simp only [p_40_0, M_shs, M_lan, ob_40, Option.bind_some, h2, h3, b_t, n10_, if_false, q_40_2, al41 hk, s2, if_true, M_lost, ev]
    · simp only [s1, s3, n10_, if_false]
      by_cases hla : nI a = l
      · have hb' : ∀ c, (upd z 8 c) (32 * (32 + 2 * k) + 3) = nI b := fun c => by rw [u1]; exact s5
        simp only [hla, if_true, show ((0 : Int32) ≤ 1) = True from eq_true (by decide), C_rch1 hk (hb' _), Option.bind_some]
        cases hv : vb_ i b
        · refine ⟨-9223372036854775808, upd z 8 3, f, upd (upd z 8 3) 1280 3, f, ?_, ?_, Inv_fl iv0⟩
          · simp only [b_f, if_true, p_0_8, g_0_8, upd_eq, upd_upd, Option.bind_some, show ¬ ((3 : Int32) = 0) by decide, if_false]
          · unfold fX9_cell jX9_cell_50
            simp only [p_40_0, M_shs, M_lan, ob_40, Option.bind_some, h2, h3, b_t, n10_, if_false, q_40_2, q_40_3, al41 hk, al42 hk, s4, s6, m9_ sa, hla, if_true, M_within]
            rw [show (!(decide (i < 0)) && !(decide (nI b - 1 < i))) = false from hv]
            have m9 : ¬ l = -9 := by rw [← hla]; exact m9_ sa
            simp only [m9, if_false, b_f, if_true, M_lost, ev, Option.bind_some]
        · obtain ⟨q, hq, rfl⟩ := vb_at sb hv
          refine ⟨Int32.toInt64 (f (33 + 2 * k) q), upd z 8 0, f, upd (upd z 8 0) 1280 0, f, ?_, ?_, Inv_fl iv0⟩
          · unfold fX5_read
            simp only [b_t, n10_, if_false, if_true, p_0_8, g_0_8, upd_eq, upd_upd, q_0_1, qs_ hk, obs_ hk, C_rch1 hk (hb' _), hv, qc_ hk, alc_ hk (show q < 60 by omega), Option.bind_some]
          · unfold fX9_cell jX9_cell_50
            simp only [p_40_0, M_shs, M_lan, ob_40, Option.bind_some, h2, h3, b_t, n10_, if_false, q_40_2, q_40_3, q_40_4, al41 hk, al42 hk, s4, s6, m9_ sa, hla, if_true, M_within]
            rw [show (!(decide (nI q < 0)) && !(decide (nI b - 1 < nI q))) = true from hv]
            have m9 : ¬ l = -9 := by rw [← hla]; exact m9_ sa
            simp only [m9, if_false, b_t, n10_, ix60, al43 (show 60 * k + q < 240 by omega), Option.bind_some, (hS k hk).2 q (by omega)]
      · refine ⟨-9223372036854775808, upd z 8 2, f, upd (upd z 8 2) 1280 2, f, ?_, ?_, Inv_fl iv0⟩
        · simp only [hla, if_false, p_0_8, g_0_8, upd_eq, upd_upd, Option.bind_some, show ¬ ((2 : Int32) = 0) by decide]
        · unfold fX9_cell
          simp only [p_40_0, M_shs, M_lan, ob_40, Option.bind_some, h2, h3, b_t, n10_, if_false, q_40_2, al41 hk, s4, m9_ sa, hla, M_lost, ev]
