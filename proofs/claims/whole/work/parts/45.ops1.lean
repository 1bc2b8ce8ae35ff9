def bF_ (K S : Nat → Nat) (a : Nat) : Nat := bN_ (K a) (S a)
def wF_ (K S T : Nat → Nat) (a : Nat) : Nat := wN_ (K a) (S a) (T a)
theorem bF_le {z : Nat → Int32} {f : Nat → Nat → Int32} {n : Nat} {K S T : Nat → Nat} (h : IvP z f n K S T) {a : Nat} (ha : a < n) : bF_ K S a ≤ 18 := bN_le (h.2.2.2.2 a ha).2.1
theorem wF_le {K S T : Nat → Nat} (a : Nat) : wF_ K S T a ≤ bF_ K S a := Nat.sub_le _ _
theorem P_six {z : Nat → Int32} {f : Nat → Nat → Int32} {n : Nat} {K S T : Nat → Nat} (h : IvP z f n K S T) {a : Nat} (ha : a < n) : a < 6 := Nat.lt_of_lt_of_le ha h.2.1
theorem P_cb {z : Nat → Int32} {f : Nat → Nat → Int32} {n : Nat} {K S T : Nat → Nat} (h : IvP z f n K S T) {a : Nat} (ha : a < n) : fX2_best (HH z f) (3 + a) = some (nI (bF_ K S a)) := by
  obtain ⟨h1, h2, h3, e0, e1, e2, e3, e4, e5⟩ := h.2.2.2.2 a ha
  exact C_best (P_six h ha) h1 e0 e2
theorem P_cw {z : Nat → Int32} {f : Nat → Nat → Int32} {n : Nat} {K S T : Nat → Nat} (h : IvP z f n K S T) {a : Nat} (ha : a < n) : fX2_worst (HH z f) (3 + a) = some (nI (wF_ K S T a)) := by
  obtain ⟨h1, h2, h3, e0, e1, e2, e3, e4, e5⟩ := h.2.2.2.2 a ha
  exact C_worst (P_six h ha) h1 h2 h3 e0 e2 e4
theorem P_mb {z : Nat → Int32} {f : Nat → Nat → Int32} {n : Nat} {K S T : Nat → Nat} (h : IvP z f n K S T) {a : Nat} (ha : a < n) : fX9_bestOf (HH z f) 40 (nI a) = some (nI (bF_ K S a)) := by
  obtain ⟨h1, h2, h3, e0, e1, e2, e3, e4, e5⟩ := h.2.2.2.2 a ha
  exact M_best (P_six h ha) h1 e1 e3
theorem P_mw {z : Nat → Int32} {f : Nat → Nat → Int32} {n : Nat} {K S T : Nat → Nat} (h : IvP z f n K S T) {a : Nat} (ha : a < n) : fX9_worstOf (HH z f) 40 (nI a) = some (nI (wF_ K S T a)) := by
  obtain ⟨h1, h2, h3, e0, e1, e2, e3, e4, e5⟩ := h.2.2.2.2 a ha
  exact M_worst (P_six h ha) h1 h2 h3 e1 e3 e5
set_option maxRecDepth 100000 in
theorem g_bit : ∀ G, G < 64 → ∀ p, p < 6 → (nI G >>> (nI p &&& 31)) &&& 1 = if G.testBit p then 1 else 0 := by decide +kernel
theorem G_64 {z : Nat → Int32} {n G : Nat} (h : IvG z n G) (hn : n ≤ 6) : G < 64 := Nat.lt_of_lt_of_le h.1 (Nat.pow_le_pow_right (by decide) hn)
theorem b_t : bi_ true = 1 := rfl
theorem b_f : bi_ false = 0 := rfl
theorem n10_ : ¬ ((1 : Int32) = 0) := by decide
theorem op_trace : Op_trace := by
  intro z f iv
  obtain ⟨n, K, S, T, G, r, A, B, W, U, hP, hG, hX, hS, hR⟩ := iv
  refine ⟨z 7, ?_, ?_⟩
  · unfold fX8_trace; rw [g_0_7]; rfl
  · unfold fX9_trace; rw [g_40_1, hX.2.1]; rfl
theorem op_fault : Op_fault := by
  intro z f iv
  obtain ⟨n, K, S, T, G, r, A, B, W, U, hP, hG, hX, hS, hR⟩ := iv
  refine ⟨z 8, ?_, ?_⟩
  · unfold fX8_fault; rw [g_0_8]; rfl
  · unfold fX9_fault; rw [g_40_0, hX.2.2]; rfl
theorem op_safe : Op_safe := by
  intro z f p q iv
  obtain ⟨n, K, S, T, G, r, A, B, W, U, hP, hG, hX, hS, hR⟩ := iv
  have hn := hP.2.1
  unfold fX8_safe fX9_safe
  simp only [q_0_0, ob_1, ob_40, C_two hP.2.2.1, M_two hP.2.2.2.1, Option.bind_some]
  cases h2 : t2_ n p q
  · exact ⟨-1, rfl, rfl⟩
  · obtain ⟨a, b, ha, hb, hab, rfl, rfl⟩ := t2_at hn h2
    simp only [b_t, n10_, if_false, q_1_0, qp_ (P_six hP ha), qp_ (P_six hP hb), obp_ (P_six hP ha), obp_ (P_six hP hb), P_cw hP ha, P_cw hP hb, P_mw hP ha, P_mw hP hb, Option.bind_some]
    split
    · exact ⟨0, rfl, rfl⟩
    · exact ⟨1, rfl, rfl⟩
theorem op_ofPerson : Op_ofPerson := by
  intro z f p w iv
  obtain ⟨n, K, S, T, G, r, A, B, W, U, hP, hG, hX, hS, hR⟩ := iv
  have hn := hP.2.1
  unfold fX8_ofPerson fX9_ofPerson
  simp only [q_0_0, ob_1, ob_40, C_has hP.2.2.1, M_isP hP.2.2.2.1, Option.bind_some]
  cases h2 : ip_ n p
  · exact ⟨-1, rfl, rfl⟩
  · obtain ⟨a, ha, rfl⟩ := ip_at hn h2
    obtain ⟨h1, h2, h3, e0, e1, e2, e3, e4, e5⟩ := hP.2.2.2.2 a ha
    have h6 := P_six hP ha
    simp only [b_t, n10_, if_false, q_1_0, q_40_8, q_40_9, q_40_10, g_40_6, qp_ h6, obp_ h6, P_cw hP ha, P_mw hP ha, P_cb hP ha, P_mb hP ha, Option.bind_some, fX2_trait, gp_ h6 (show 0 < 4 by decide), gp_ h6 (show 1 < 4 by decide), gp_ h6 (show 2 < 4 by decide), gp_ h6 (show 3 < 4 by decide), al44 h6, al45 h6, al46 h6]
    by_cases c0 : w = 0
    · subst c0; exact ⟨nI (K a), by simp only [if_true, e0, Option.bind_some], by simp only [if_true, e1, Option.bind_some]⟩
    by_cases c1 : w = 1
    · subst c1; exact ⟨nI (S a), by simp [e2], by simp [e3]⟩
    by_cases c2 : w = 2
    · subst c2; exact ⟨nI (T a), by simp [e4], by simp [e5]⟩
    by_cases c3 : w = 3
    · subst c3; exact ⟨nI (bF_ K S a), by simp, by simp⟩
    by_cases c4 : w = 4
    · subst c4; exact ⟨nI (wF_ K S T a), by simp, by simp⟩
    by_cases c5 : w = 5
    · subst c5
      refine ⟨if G.testBit a then 1 else 0, ?_, ?_⟩
      · simp only [hG.2.2 a ha]
        cases G.testBit a <;> simp
      · simp [hG.2.1, g_bit G (G_64 hG hn) a h6]
    · exact ⟨-2, by simp [c0, c1, c2, c3, c4, c5], by simp [c0, c1, c2, c3, c4, c5]⟩
theorem C_dig {h : hp_H} (v : Int32) : fX8_isDigit h v = some (bi_ (ip_ 10 v)) := by
  unfold fX8_isDigit
  by_cases h1 : v < 0
  · simp [h1, ip_, bi_]
  · by_cases h2 : nI 10 ≤ v
    · have h3 : (10 : Int32) ≤ v := h2
      simp [h1, h2, h3, ip_, bi_]
    · have h3 : ¬ (10 : Int32) ≤ v := h2
      simp [h1, h2, h3, ip_, bi_]
theorem M_dig (v : Int32) : (!(decide (v < 0)) && !(decide ((9 : Int32) < v))) = ip_ 10 v := by
  have h : (9 < v) ↔ (nI 10 ≤ v) := by
    rw [Int32.lt_iff_toInt_lt, Int32.le_iff_toInt_le, nI_toInt (by decide)]
    have : (9 : Int32).toInt = 9 := by decide
    omega
  simp only [ip_, decide_eq_decide.mpr h]
theorem dig_at {v : Int32} (h : ip_ 10 v = true) : ∃ s, s < 10 ∧ v = nI s := by
  simp only [ip_, Bool.and_eq_true, Bool.not_eq_true', decide_eq_false_iff_not] at h
  rcases pk_ix v (n := 10) (by omega) with h1 | h1 | h1
  · exact absurd h1 h.1
  · exact absurd h1 h.2
  · exact h1
theorem pp_ {p k : Nat} (hp : p < 6) (hk : k < 4) (z : Nat → Int32) (f : Nat → Nat → Int32) (x : Int32) : pi_ (HH z f) (3 + p) 2 k x = some (HH (upd z (32 * (3 + p) + k) x) f) := HH_pi (SP_p hp) (by match k, hk with | 0, _ => rfl | 1, _ => rfl | 2, _ => rfl | 3, _ => rfl)
theorem ax44 {z : Nat → Int32} {f : Nat → Nat → Int32} {p : Nat} (hp : p < 6) (x : Int32) : ax_ (HH z f) 44 (nI p) x = some (HH z (up2 f 44 (upd (f 44) p x))) := HH_ax (n := 6) rfl hp (by decide)
theorem ax45 {z : Nat → Int32} {f : Nat → Nat → Int32} {p : Nat} (hp : p < 6) (x : Int32) : ax_ (HH z f) 45 (nI p) x = some (HH z (up2 f 45 (upd (f 45) p x))) := HH_ax (n := 6) rfl hp (by decide)
theorem ax46 {z : Nat → Int32} {f : Nat → Nat → Int32} {p : Nat} (hp : p < 6) (x : Int32) : ax_ (HH z f) 46 (nI p) x = some (HH z (up2 f 46 (upd (f 46) p x))) := HH_ax (n := 6) rfl hp (by decide)
def uN_ (g : Nat → Nat) (a s : Nat) : Nat → Nat := fun p => if p = a then s else g p
theorem P_setS {z : Nat → Int32} {f : Nat → Nat → Int32} {n : Nat} {K S T : Nat → Nat} (h : IvP z f n K S T) {a s : Nat} (ha : a < n) (hs : s < 10) : IvP (upd z (32 * (3 + a) + 1) (nI s)) (up2 f 45 (upd (f 45) a (nI s))) n K (uN_ S a s) T := by
  obtain ⟨h1, h2, h3, h4, h5⟩ := h
  refine ⟨h1, h2, by rw [upd_ne (by omega)]; exact h3, by rw [upd_ne (by omega)]; exact h4, fun p hp => ?_⟩
  obtain ⟨g1, g2, g3, e0, e1, e2, e3, e4, e5⟩ := h5 p hp
  rw [up2_ne (show (44 : Nat) ≠ 45 by decide), up2_ne (show (46 : Nat) ≠ 45 by decide), up2_eq, upd_ne (show 32 * (3 + p) + 0 ≠ 32 * (3 + a) + 1 by omega), upd_ne (show 32 * (3 + p) + 2 ≠ 32 * (3 + a) + 1 by omega)]
  by_cases hpa : p = a
  · subst hpa
    simp only [uN_, if_true, upd_eq]
    exact ⟨g1, hs, g3, e0, e1, trivial, trivial, e4, e5⟩
  · simp only [uN_, if_neg hpa, upd_ne hpa, upd_ne (show 32 * (3 + p) + 1 ≠ 32 * (3 + a) + 1 by omega)]
    exact ⟨g1, g2, g3, e0, e1, e2, e3, e4, e5⟩
theorem P_setT {z : Nat → Int32} {f : Nat → Nat → Int32} {n : Nat} {K S T : Nat → Nat} (h : IvP z f n K S T) {a s : Nat} (ha : a < n) (hs : s < 10) : IvP (upd z (32 * (3 + a) + 2) (nI s)) (up2 f 46 (upd (f 46) a (nI s))) n K S (uN_ T a s) := by
  obtain ⟨h1, h2, h3, h4, h5⟩ := h
  refine ⟨h1, h2, by rw [upd_ne (by omega)]; exact h3, by rw [upd_ne (by omega)]; exact h4, fun p hp => ?_⟩
  obtain ⟨g1, g2, g3, e0, e1, e2, e3, e4, e5⟩ := h5 p hp
  rw [up2_ne (show (44 : Nat) ≠ 46 by decide), up2_ne (show (45 : Nat) ≠ 46 by decide), up2_eq, upd_ne (show 32 * (3 + p) + 0 ≠ 32 * (3 + a) + 2 by omega), upd_ne (show 32 * (3 + p) + 1 ≠ 32 * (3 + a) + 2 by omega)]
  by_cases hpa : p = a
  · subst hpa
    simp only [uN_, if_true, upd_eq]
    exact ⟨g1, g2, hs, e0, e1, e2, e3, trivial, trivial⟩
  · simp only [uN_, if_neg hpa, upd_ne hpa, upd_ne (show 32 * (3 + p) + 2 ≠ 32 * (3 + a) + 2 by omega)]
    exact ⟨g1, g2, g3, e0, e1, e2, e3, e4, e5⟩
theorem op_train : Op_train := by
  intro z f p v iv
  have iv0 := iv
  obtain ⟨n, K, S, T, G, r, A, B, W, U, hP, hG, hX, hS, hR⟩ := iv
  have hn := hP.2.1
  unfold fX8_train fX8_changed
  simp only [q_0_0, ob_0, ob_1, C_has hP.2.2.1, C_dig, Option.bind_some]
  cases h2 : ip_ n p
  · refine ⟨-1, z, f, z, f, by simp only [b_f, if_true, Option.bind_some], ?_, iv0⟩
    unfold fX9_train
    simp only [ob_40, M_isP hP.2.2.2.1, Option.bind_some, h2, b_f, if_true]
  · cases h3 : ip_ 10 v
    · refine ⟨-2, z, f, z, f, by simp only [b_f, b_t, n10_, if_false, if_true, Option.bind_some], ?_, iv0⟩
      unfold fX9_train
      simp only [ob_40, M_isP hP.2.2.2.1, M_within, M_dig, Option.bind_some, h2, h3, b_f, b_t, n10_, if_false, if_true]
    · obtain ⟨a, ha, rfl⟩ := ip_at hn h2
      obtain ⟨s, hs, rfl⟩ := dig_at h3
      have h6 := P_six hP ha
      obtain ⟨g1, g2, g3, e0, e1, e2, e3, e4, e5⟩ := hP.2.2.2.2 a ha
      refine ⟨nI (S a), upd z (32 * (3 + a) + 1) (nI s), f, upd z (32 * (3 + a) + 1) (nI s), up2 f 45 (upd (f 45) a (nI s)), ?_, ?_, n, K, uN_ S a s, T, G, r, A, B, W, U, P_setS hP ha hs, IvG_z hn (by omega) hG, IvX_z (by omega) hX, IvS_z (by omega) (IvS_f (by omega) hS), IvR_z (by omega) (IvR_f (by omega) hR)⟩
      · simp only [b_t, n10_, if_false, q_1_0, qp_ h6, obp_ h6, fX2_trait, fX2_setTrait, if_true, gp_ h6 (show 1 < 4 by decide), pp_ h6 (show 1 < 4 by decide), Option.bind_some, e2]
      · unfold fX9_train
        have h1285 : (upd z (32 * (3 + a) + 1) (nI s)) 1285 = nI n := by rw [upd_ne (by omega)]; exact hP.2.2.2.1
        simp only [ob_40, M_isP h1285, M_within, M_dig, Option.bind_some, h2, h3, b_t, n10_, if_false, q_40_9, al45 h6, ax45 h6, e3]
theorem op_learn : Op_learn := by
  intro z f p v iv
  have iv0 := iv
  obtain ⟨n, K, S, T, G, r, A, B, W, U, hP, hG, hX, hS, hR⟩ := iv
  have hn := hP.2.1
  unfold fX8_learn fX8_changed
  simp only [q_0_0, ob_0, ob_1, C_has hP.2.2.1, C_dig, Option.bind_some]
  cases h2 : ip_ n p
  · refine ⟨-1, z, f, z, f, by simp only [b_f, if_true, Option.bind_some], ?_, iv0⟩
    unfold fX9_learn
    simp only [ob_40, M_isP hP.2.2.2.1, Option.bind_some, h2, b_f, if_true]
  · cases h3 : ip_ 10 v
    · refine ⟨-2, z, f, z, f, by simp only [b_f, b_t, n10_, if_false, if_true, Option.bind_some], ?_, iv0⟩
      unfold fX9_learn
      simp only [ob_40, M_isP hP.2.2.2.1, M_within, M_dig, Option.bind_some, h2, h3, b_f, b_t, n10_, if_false, if_true]
    · obtain ⟨a, ha, rfl⟩ := ip_at hn h2
      obtain ⟨s, hs, rfl⟩ := dig_at h3
      have h6 := P_six hP ha
      obtain ⟨g1, g2, g3, e0, e1, e2, e3, e4, e5⟩ := hP.2.2.2.2 a ha
      refine ⟨nI (T a), upd z (32 * (3 + a) + 2) (nI s), f, upd z (32 * (3 + a) + 2) (nI s), up2 f 46 (upd (f 46) a (nI s)), ?_, ?_, n, K, S, uN_ T a s, G, r, A, B, W, U, P_setT hP ha hs, IvG_z hn (by omega) hG, IvX_z (by omega) hX, IvS_z (by omega) (IvS_f (by omega) hS), IvR_z (by omega) (IvR_f (by omega) hR)⟩
      · simp only [b_t, n10_, show ¬ ((2 : Int32) = 0) by decide, show ¬ ((2 : Int32) = 1) by decide, if_false, q_1_0, qp_ h6, obp_ h6, fX2_trait, fX2_setTrait, gp_ h6 (show 2 < 4 by decide), pp_ h6 (show 2 < 4 by decide), Option.bind_some, e4]
      · unfold fX9_learn
        have h1285 : (upd z (32 * (3 + a) + 2) (nI s)) 1285 = nI n := by rw [upd_ne (by omega)]; exact hP.2.2.2.1
        simp only [ob_40, M_isP h1285, M_within, M_dig, Option.bind_some, h2, h3, b_t, n10_, if_false, q_40_10, al46 h6, ax46 h6, e5]
