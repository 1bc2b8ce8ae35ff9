theorem upd_upd {z : Nat → Int32} {k : Nat} {a b : Int32} : upd (upd z k a) k b = upd z k b := by
  funext j
  by_cases h : j = k <;> simp [upd, h]
theorem X_gm {z : Nat → Int32} {v : Int32} (h : IvX z) : IvX (upd (upd z 6 v) 1287 v) := by
  obtain ⟨h1, h2, h3⟩ := h
  refine ⟨?_, ?_, ?_⟩
  · rw [upd_eq, upd_ne (by decide), upd_eq]
  · rw [upd_ne (by decide), upd_ne (by decide), upd_ne (by decide), upd_ne (by decide)]; exact h2
  · rw [upd_ne (by decide), upd_ne (by decide), upd_ne (by decide), upd_ne (by decide)]; exact h3
theorem X_tr {z : Nat → Int32} {v : Int32} (h : IvX z) : IvX (upd (upd z 7 v) 1281 v) := by
  obtain ⟨h1, h2, h3⟩ := h
  refine ⟨?_, ?_, ?_⟩
  · rw [upd_ne (by decide), upd_ne (by decide), upd_ne (by decide), upd_ne (by decide)]; exact h1
  · rw [upd_eq, upd_ne (by decide), upd_eq]
  · rw [upd_ne (by decide), upd_ne (by decide), upd_ne (by decide), upd_ne (by decide)]; exact h3
theorem X_fl {z : Nat → Int32} {v : Int32} (h : IvX z) : IvX (upd (upd z 8 v) 1280 v) := by
  obtain ⟨h1, h2, h3⟩ := h
  refine ⟨?_, ?_, ?_⟩
  · rw [upd_ne (by decide), upd_ne (by decide), upd_ne (by decide), upd_ne (by decide)]; exact h1
  · rw [upd_ne (by decide), upd_ne (by decide), upd_ne (by decide), upd_ne (by decide)]; exact h2
  · rw [upd_eq, upd_ne (by decide), upd_eq]
/-- the invariant with the trace, the fault at new values -/
theorem Inv_tr {z : Nat → Int32} {f : Nat → Nat → Int32} {v : Int32} (h : Inv z f) : Inv (upd (upd z 7 v) 1281 v) f := by
  obtain ⟨n, K, S, T, G, r, A, B, W, U, hP, hG, hX, hS, hR⟩ := h
  exact ⟨n, K, S, T, G, r, A, B, W, U, IvP_z (by decide) (IvP_z (by decide) hP), IvG_z hP.2.1 (by decide) (IvG_z hP.2.1 (by decide) hG), X_tr hX, IvS_z (by decide) (IvS_z (by decide) hS), IvR_z (by decide) (IvR_z (by decide) hR)⟩
theorem Inv_fl {z : Nat → Int32} {f : Nat → Nat → Int32} {v : Int32} (h : Inv z f) : Inv (upd (upd z 8 v) 1280 v) f := by
  obtain ⟨n, K, S, T, G, r, A, B, W, U, hP, hG, hX, hS, hR⟩ := h
  exact ⟨n, K, S, T, G, r, A, B, W, U, IvP_z (by decide) (IvP_z (by decide) hP), IvG_z hP.2.1 (by decide) (IvG_z hP.2.1 (by decide) hG), X_fl hX, IvS_z (by decide) (IvS_z (by decide) hS), IvR_z (by decide) (IvR_z (by decide) hR)⟩
theorem C_mark {z : Nat → Int32} {f : Nat → Nat → Int32} (p : Int32) : fX8_mark (HH z f) 0 p = some (HH (upd z 7 (31 * z 7 + p)) f) := by
  unfold fX8_mark
  simp only [g_0_7, p_0_7, Option.bind_some]
theorem M_mark {z : Nat → Int32} {f : Nat → Nat → Int32} (p : Int32) : fX9_begins (HH z f) 40 p = some (HH (upd z 1281 (31 * z 1281 + p)) f) := by
  unfold fX9_begins
  simp only [g_40_1, p_40_1, Option.bind_some]
theorem K_ne {k : Nat} (hk : k < 3) : (k = 0 ∧ ¬ nI k = 1 ∧ ¬ nI k = 2) ∨ (k = 1 ∧ nI k = 1) ∨ (k = 2 ∧ ¬ nI k = 1 ∧ nI k = 2) := by
  match k, hk with
  | 0, _ => exact Or.inl ⟨rfl, by decide, by decide⟩
  | 1, _ => exact Or.inr (Or.inl ⟨rfl, rfl⟩)
  | 2, _ => exact Or.inr (Or.inr ⟨rfl, by decide, rfl⟩)
theorem n21_ : ¬ ((2 : Int32) = 1) := by decide
theorem op_tell : Op_tell := by
  intro z f p iv
  have iv0 := iv
  obtain ⟨n, K, S, T, G, r, A, B, W, U, hP, hG, hX, hS, hR⟩ := iv
  have hn := hP.2.1
  unfold fX8_tell
  simp only [q_0_0, ob_0, ob_1, C_has hP.2.2.1, Option.bind_some]
  cases h2 : ip_ n p
  · refine ⟨-1, z, f, z, f, by simp only [b_f, if_true], ?_, iv0⟩
    unfold fX9_tell
    simp only [ob_40, M_isP hP.2.2.2.1, Option.bind_some, h2, b_f, if_true]
  · obtain ⟨a, ha, rfl⟩ := ip_at hn h2
    have h6 := P_six hP ha
    obtain ⟨g1, g2, g3, e0, e1, e2, e3, e4, e5⟩ := hP.2.2.2.2 a ha
    have es : ∀ v, (upd z 7 v) (32 * (3 + a) + 1) = nI (S a) := fun v => by rw [upd_ne (by omega)]; exact e2
    have hp : ∀ v, (upd z 7 v) 1285 = nI n := fun v => by rw [upd_ne (by omega)]; exact hP.2.2.2.1
    have ht : ∀ v, (upd z 7 v) 1281 = z 7 := fun v => by rw [upd_ne (by omega)]; exact hX.2.1.symm
    simp only [b_t, n10_, if_false, q_1_0, qp_ h6, gp_ h6 (show 0 < 4 by decide), Option.bind_some, e0]
    rcases K_ne g1 with ⟨k0, k1, k2⟩ | ⟨k0, k1⟩ | ⟨k0, k1, k2⟩
    · refine ⟨nI (S a), upd z 7 (31 * z 7 + 1), f, _, f, ?_, ?_, Inv_tr (v := 31 * z 7 + 1) iv0⟩
      · simp only [k1, k2, if_false, fX8_tellPlayer, ob_0, C_mark, gp_ h6 (show 1 < 4 by decide), es, Option.bind_some]
      · unfold fX9_tell
        simp only [ob_40, M_isP (hp _), h2, b_t, n10_, if_false, q_40_8, q_40_9, al44 h6, al45 h6, e1, e3, k1, k2, M_mark, ht, Option.bind_some]
    · refine ⟨nI (S a) + 100, upd z 7 (31 * (31 * z 7 + 2) + 1), f, _, f, ?_, ?_, Inv_tr (v := 31 * (31 * z 7 + 2) + 1) iv0⟩
      · simp only [k1, if_true, fX8_tellLefty, fX8_tellPlayer, ob_0, C_mark, gp_ h6 (show 1 < 4 by decide), es, Option.bind_some, upd_eq, upd_upd]
      · unfold fX9_tell
        simp only [ob_40, M_isP (hp _), h2, b_t, n10_, if_false, if_true, q_40_8, q_40_9, al44 h6, al45 h6, e1, e3, k1, M_mark, ht, Option.bind_some, upd_eq, upd_upd]
    · refine ⟨nI (S a) + 100 + nI (S a), upd z 7 (31 * (31 * (31 * (31 * z 7 + 3) + 2) + 1) + 1), f, _, f, ?_, ?_, Inv_tr (v := 31 * (31 * (31 * (31 * z 7 + 3) + 2) + 1) + 1) iv0⟩
      · simp only [k2, n21_, if_false, if_true, fX8_tellChampion, fX8_tellLefty, fX8_tellPlayer, ob_0, C_mark, gp_ h6 (show 1 < 4 by decide), es, Option.bind_some, upd_eq, upd_upd]
      · unfold fX9_tell
        have hs : 2 * nI (S a) + 100 = nI (S a) + 100 + nI (S a) := by
          show nI 2 * nI (S a) + nI 100 = nI (S a) + nI 100 + nI (S a)
          rw [pk_mul, nI_add, nI_add, nI_add]
          congr 1
          omega
        simp only [ob_40, M_isP (hp _), h2, b_t, n10_, if_false, if_true, q_40_8, q_40_9, al44 h6, al45 h6, e1, e3, k2, n21_, M_mark, ht, Option.bind_some, upd_eq, upd_upd, hs]
theorem op_wave : Op_wave := by
  intro z f p iv
  have iv0 := iv
  obtain ⟨n, K, S, T, G, r, A, B, W, U, hP, hG, hX, hS, hR⟩ := iv
  have hn := hP.2.1
  unfold fX8_wave
  simp only [q_0_0, ob_0, ob_1, C_has hP.2.2.1, Option.bind_some]
  cases h2 : ip_ n p
  · refine ⟨-1, z, f, z, f, by simp only [b_f, if_true], ?_, iv0⟩
    unfold fX9_wave
    simp only [ob_40, M_isP hP.2.2.2.1, Option.bind_some, h2, b_f, if_true]
  · obtain ⟨a, ha, rfl⟩ := ip_at hn h2
    have h6 := P_six hP ha
    obtain ⟨g1, g2, g3, e0, e1, e2, e3, e4, e5⟩ := hP.2.2.2.2 a ha
    have es : ∀ v, (upd z 7 v) (32 * (3 + a) + 2) = nI (T a) := fun v => by rw [upd_ne (by omega)]; exact e4
    have hp : ∀ v, (upd z 7 v) 1285 = nI n := fun v => by rw [upd_ne (by omega)]; exact hP.2.2.2.1
    have ht : ∀ v, (upd z 7 v) 1281 = z 7 := fun v => by rw [upd_ne (by omega)]; exact hX.2.1.symm
    simp only [b_t, n10_, if_false, q_1_0, qp_ h6, gp_ h6 (show 0 < 4 by decide), Option.bind_some, e0]
    by_cases k2 : nI (K a) = 2
    · refine ⟨30, upd z 7 (31 * z 7 + 5), f, _, f, ?_, ?_, Inv_tr (v := 31 * z 7 + 5) iv0⟩
      · simp only [k2, if_true, C_mark, Option.bind_some]
      · unfold fX9_wave jX9_wave_26
        simp only [ob_40, M_isP (hp _), h2, b_t, n10_, if_false, if_true, q_40_8, q_40_10, al44 h6, al46 h6, e1, e5, k2, M_mark, ht, Option.bind_some]
    · refine ⟨nI (T a), upd z 7 (31 * z 7 + 4), f, _, f, ?_, ?_, Inv_tr (v := 31 * z 7 + 4) iv0⟩
      · simp only [k2, if_false, C_mark, q_0_0, q_1_0, qp_ h6, gp_ h6 (show 2 < 4 by decide), es, Option.bind_some]
      · unfold fX9_wave jX9_wave_26
        simp only [ob_40, M_isP (hp _), h2, b_t, n10_, if_false, q_40_8, q_40_10, al44 h6, al46 h6, e1, e5, k2, M_mark, ht, Option.bind_some]
theorem C_flt {z : Nat → Int32} {f : Nat → Nat → Int32} (p : Int32) : fX8_faulted (HH z f) 0 p = some ((-10) - p, HH (upd z 8 p) f) := by
  unfold fX8_faulted
  simp only [p_0_8, Option.bind_some]
theorem M_flt {z : Nat → Int32} {f : Nat → Nat → Int32} (p : Int32) : fX9_fails (HH z f) 40 p = some ((-10) - p, HH (upd z 1280 p) f) := by
  unfold fX9_fails
  simp only [p_40_0, Option.bind_some]
theorem upd_cm {z : Nat → Int32} {k j : Nat} {a b : Int32} (h : k ≠ j) : upd (upd z k a) j b = upd (upd z j b) k a := by
  funext q
  by_cases h1 : q = j <;> by_cases h2 : q = k <;> simp_all [upd]
theorem op_as : Op_as := by
  intro z f p w iv
  have iv0 := iv
  obtain ⟨n, K, S, T, G, r, A, B, W, U, hP, hG, hX, hS, hR⟩ := iv
  have hn := hP.2.1
  have h33 : ∀ v, (upd z 8 v) 33 = nI n := fun v => by rw [upd_ne (by omega)]; exact hP.2.2.1
  have h85 : ∀ v u, (upd (upd z 8 v) 1280 u) 1285 = nI n := fun v u => by rw [upd_ne (by omega), upd_ne (by omega)]; exact hP.2.2.2.1
  unfold fX8_as
  simp only [p_0_8, q_0_0, ob_0, ob_1, C_has (h33 _), Option.bind_some]
  cases h2 : ip_ n p
  · refine ⟨-1, upd z 8 0, f, upd (upd z 8 0) 1280 0, f, by simp only [b_f, if_true], ?_, Inv_fl iv0⟩
    unfold fX9_as
    simp only [p_40_0, ob_40, M_isP (h85 _ _), Option.bind_some, h2, b_f, if_true]
  · obtain ⟨a, ha, rfl⟩ := ip_at hn h2
    have h6 := P_six hP ha
    obtain ⟨g1, g2, g3, e0, e1, e2, e3, e4, e5⟩ := hP.2.2.2.2 a ha
    have es : ∀ v, (upd z 8 v) (32 * (3 + a) + 0) = nI (K a) := fun v => by rw [upd_ne (by omega)]; exact e0
    by_cases c0 : w < 0
    · refine ⟨-2, upd z 8 0, f, upd (upd z 8 0) 1280 0, f, by simp only [b_t, n10_, if_false, c0, if_true], ?_, Inv_fl iv0⟩
      unfold fX9_as
      simp only [p_40_0, ob_40, M_isP (h85 _ _), M_within, Option.bind_some, h2, b_t, b_f, n10_, if_false, if_true, c0, decide_true, Bool.not_true, Bool.false_and]
    · have hw3 : (w < 3) ↔ ¬ (2 < w) := by
        rw [Int32.lt_iff_toInt_lt, Int32.lt_iff_toInt_lt]
        have h3 : (3 : Int32).toInt = 3 := by decide
        have h22 : (2 : Int32).toInt = 2 := by decide
        omega
      by_cases c1 : 2 < w
      · have c2 : ¬ w < 3 := fun q => (hw3.mp q) c1
        refine ⟨-2, upd z 8 0, f, upd (upd z 8 0) 1280 0, f, by simp only [b_t, n10_, if_false, c0, c2], ?_, Inv_fl iv0⟩
        unfold fX9_as
        simp only [p_40_0, ob_40, M_isP (h85 _ _), M_within, Option.bind_some, h2, b_t, b_f, n10_, if_false, if_true, c0, c1, decide_true, decide_false, Bool.not_true, Bool.not_false, Bool.and_false]
      · have c2 : w < 3 := hw3.mpr c1
        have hcmp : (nI (K a) < w) ↔ ¬ (w ≤ nI (K a)) := by
          rw [Int32.lt_iff_toInt_lt, Int32.le_iff_toInt_le]; omega
        by_cases c3 : w ≤ nI (K a)
        · have c4 : ¬ nI (K a) < w := fun q => (hcmp.mp q) c3
          refine ⟨1, upd z 8 0, f, upd (upd z 8 0) 1280 0, f, ?_, ?_, Inv_fl iv0⟩
          · simp only [b_t, n10_, if_false, c0, c2, if_true, q_1_0, qp_ h6, gp_ h6 (show 0 < 4 by decide), es, c3, Option.bind_some]
          · unfold fX9_as
            simp only [p_40_0, ob_40, M_isP (h85 _ _), M_within, Option.bind_some, h2, b_t, n10_, if_false, c0, c1, decide_false, Bool.not_false, Bool.and_true, q_40_8, al44 h6, e1, c4]
        · have c4 : nI (K a) < w := hcmp.mpr c3
          refine ⟨-10 - 2, upd z 8 2, f, upd (upd z 8 2) 1280 2, f, ?_, ?_, Inv_fl iv0⟩
          · simp only [b_t, n10_, if_false, c0, c2, if_true, q_1_0, qp_ h6, gp_ h6 (show 0 < 4 by decide), es, c3, C_flt, upd_upd, Option.bind_some]
          · unfold fX9_as
            simp only [p_40_0, ob_40, M_isP (h85 _ _), M_within, Option.bind_some, h2, b_t, n10_, if_false, c0, c1, decide_false, Bool.not_false, Bool.and_true, q_40_8, al44 h6, e1, c4, if_true, M_flt, upd_upd]
