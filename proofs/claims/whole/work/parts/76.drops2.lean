theorem wi_m {m : Nat} (hm : m ≤ 10) : (!(decide (nI m < 0)) && !(decide ((10 : Int32) < nI m))) = true := by
  rw [decide_eq_false (nI_pos (show m < 2 ^ 31 by omega)), decide_eq_false (show ¬ (10 : Int32) < nI m from nI_nlt (a := 10) hm (by decide))]
  rfl
theorem C_dr_r {z y : Nat → Int32} {f : Nat → Nat → Int32} {p q u v e : Int32} (he : ¬ e = 0) (hr : fX8_refusalOfTwos (HH z f) 0 p q u v (bi_ true) = some (e, HH y f)) : fX8_drops (HH z f) 0 p q u v = some (e, HH y f) := by
  rw [b_t] at hr
  unfold fX8_drops
  simp only [ob_0, hr, he, if_false, Option.bind_some]
theorem C_dr_y {z y z1 : Nat → Int32} {f f1 : Nat → Nat → Int32} {q e : Int32} {k i m n : Nat} (hk : k < 4) (h33 : y 33 = nI n) (hr : fX8_refusalOfTwos (HH z f) 0 (nI k) q (nI i) (nI m) (bi_ true) = some (0, HH y f)) (h : fX3_fewestLeftOut (HH y f) 28 (nI n) (32 + 2 * k) (nI i) (nI m) = some (e, HH z1 f1)) : fX8_drops (HH z f) 0 (nI k) q (nI i) (nI m) = some (e, HH z1 f1) := by
  rw [b_t] at hr
  unfold fX8_drops
  simp only [ob_0, hr, if_true, q_0_5, q_0_0, g_1_1, h33, q_0_1, qs_ hk, ob_28, h, Option.bind_some]
section MDR
variable {z : Nat → Int32} {f : Nat → Nat → Int32} {p q u v : Int32} {k m : Nat}
theorem M_dr_a (h1 : ip_ 4 p = false) : fX9_drops (HH z f) 40 p q u v = some (-1, HH (upd z 1280 0) f) := by
  unfold fX9_drops
  simp only [p_40_0, M_shs, h1, b_f, if_true, Option.bind_some]
theorem M_dr_b (h1 : ip_ 4 p = true) (h2 : ip_ 3 q = false ∨ v < 0 ∨ (true && !(decide ((10 : Int32) < v))) = false) : fX9_drops (HH z f) 40 p q u v = some (-2, HH (upd z 1280 0) f) := by
  unfold fX9_drops
  simp only [p_40_0, M_shs, M_lan, M_within, h1, b_t, n10_, if_false, Option.bind_some]
  cases h3 : ip_ 3 q
  · rw [b_f, if_pos rfl]
  · rw [b_t, if_neg n10_]
    have hw : (!(decide (v < 0)) && !(decide ((10 : Int32) < v))) = false := by
      rcases h2 with e | e | e
      · rw [h3] at e; cases e
      · rw [decide_eq_true e]; rfl
      · rw [Bool.true_and] at e
        rw [e, Bool.and_false]
    rw [hw, b_f, if_pos rfl]
theorem M_dr_g {g : Int32} (hk : k < 4) (hm : m ≤ 10) (h3 : ip_ 3 q = true) (hg : ¬ g = 0) (hag : fX9_against (HH (upd z 1280 0) f) 40 (nI k) q u (2 * nI m) = some g) : fX9_drops (HH z f) 40 (nI k) q u (nI m) = some (-10 - g, HH (upd z 1280 g) f) := by
  have h4 : ip_ 4 (nI k) = true := ip_nI (by decide) hk
  unfold fX9_drops
  simp only [p_40_0, M_shs, M_lan, M_within, wi_m hm, h4, h3, b_t, n10_, if_false, ob_40, hag, hg, M_flt, upd_upd, Option.bind_some]
theorem M_dr_n (hk : k < 4) (hm : m ≤ 10) (h3 : ip_ 3 q = true) (hag : fX9_against (HH (upd z 1280 0) f) 40 (nI k) q u (2 * nI m) = some 0) (h0 : z 1285 = 0) : fX9_drops (HH z f) 40 (nI k) q u (nI m) = some (-3, HH (upd z 1280 0) f) := by
  have h4 : ip_ 4 (nI k) = true := ip_nI (by decide) hk
  have e1 : (upd z 1280 0) 1285 = 0 := by rw [upd_ne (by decide)]; exact h0
  unfold fX9_drops
  simp only [p_40_0, M_shs, M_lan, M_within, wi_m hm, h4, h3, b_t, n10_, if_false, ob_40, hag, if_true, g_40_5, e1, Option.bind_some]
theorem M_dr_x {i n : Nat} (hk : k < 4) (hm : m ≤ 10) (hn : n ≤ 6) (hn0 : n ≠ 0) (him : i + 2 * m ≤ 60) (h3 : ip_ 3 q = true) (hag : fX9_against (HH (upd z 1280 0) f) 40 (nI k) q (nI i) (2 * nI m) = some 0) (h0 : z 1285 = nI n) (hrw : ¬ rw_ n (fun t => f 43 (60 * k + i + t)) 0 m = true) : fX9_drops (HH z f) 40 (nI k) q (nI i) (nI m) = some (-1, HH (upd z 1280 0) f) := by
  have h4 : ip_ 4 (nI k) = true := ip_nI (by decide) hk
  have e1 : (upd z 1280 0) 1285 = nI n := by rw [upd_ne (by decide)]; exact h0
  have hne : ¬ nI n = 0 := nI_ne0 (by omega) (by omega)
  have ht := M_rtw (z := upd z 1280 0) (f := f) (c := 60 * k + i) hm (by omega) e1
  rw [if_neg hrw] at ht
  unfold fX9_drops
  simp only [p_40_0, M_shs, M_lan, M_within, wi_m hm, h4, h3, b_t, n10_, if_false, ob_40, hag, if_true, g_40_5, e1, hne, ix60, ht, m10_, Option.bind_some]
theorem M_dr_y {i n : Nat} {a b : Nat → Nat} (hk : k < 4) (hm : m ≤ 10) (hn : n ≤ 6) (hn0 : n ≠ 0) (him : i + 2 * m ≤ 60) (h3 : ip_ 3 q = true) (hag : fX9_against (HH (upd z 1280 0) f) 40 (nI k) q (nI i) (2 * nI m) = some 0) (h0 : z 1285 = nI n) (hrw : rw_ n (fun t => f 43 (60 * k + i + t)) 0 m = true) (hf : ∀ t, t < m → f 43 (60 * k + i + 2 * t) = nI (a t) ∧ f 43 (60 * k + i + 2 * t + 1) = nI (b t) ∧ a t < n ∧ b t < n) : fX9_drops (HH z f) 40 (nI k) q (nI i) (nI m) = some (bv_ (db_ (fun X => decide (lf_ n m (fun t => !(X.testBit t)) a b n = 0)) (2 ^ m) 0 none), HH (upd z 1280 0) f) := by
  have h4 : ip_ 4 (nI k) = true := ip_nI (by decide) hk
  have e1 : (upd z 1280 0) 1285 = nI n := by rw [upd_ne (by decide)]; exact h0
  have hne : ¬ nI n = 0 := nI_ne0 (by omega) (by omega)
  have ht := M_rtw (z := upd z 1280 0) (f := f) (c := 60 * k + i) hm (by omega) e1
  rw [if_pos hrw] at ht
  have hpw : 2 ^ m ≤ 1024 := Nat.pow_le_pow_right (n := 2) (j := 10) (by decide) hm
  have hd := M_dl (z := upd z 1280 0) (f := f) (cc := 60 * k + i) hn hm (by omega) e1 hf (2 ^ m) 0 none fu_ (by omega) (fu_gt (by omega)) (fun y hy => by cases hy)
  rw [nI_0, show bv_ none = -9 from rfl] at hd
  unfold fX9_drops
  simp only [p_40_0, M_shs, M_lan, M_within, wi_m hm, h4, h3, b_t, n10_, if_false, ob_40, hag, if_true, g_40_5, e1, hne, ix60, ht, hd, Option.bind_some]
end MDR
theorem op_drops : Op_drops := by
  intro z f p q u v iv
  have iv0 := iv
  obtain ⟨n, K, S, T, G, r, A, B, W, U, hP, hG, hX, hS, hR⟩ := iv
  have hn := hP.2.1
  rcases tw_pre hn hS hP.2.2.1 p q u v true with ⟨h1, hr⟩ | ⟨h1, h2, hr⟩ | ⟨k, m, hk, hm, rfl, h3, rfl, _, hh⟩
  · exact ⟨-1, upd z 8 0, f, upd (upd z 8 0) 1280 0, f, C_dr_r m10_ hr, M_dr_a h1, Inv_fl iv0⟩
  · exact ⟨-2, upd z 8 0, f, upd (upd z 8 0) 1280 0, f, C_dr_r m20_ hr, M_dr_b h1 h2, Inv_fl iv0⟩
  · rcases hh with ⟨g, hg, hg0, hr, hag⟩ | ⟨hag, ⟨hn0, hr⟩ | ⟨hn0, i, b0, rfl, him, hb60, hb, hr⟩⟩
    · exact ⟨-10 - g, upd z 8 g, f, upd (upd z 8 g) 1280 g, f, C_dr_r hg0 hr, M_dr_g hk hm h3 hg (hag _), Inv_fl iv0⟩
    · refine ⟨-3, upd z 8 0, f, upd (upd z 8 0) 1280 0, f, C_dr_r m30_ hr, M_dr_n hk hm h3 (hag _) ?_, Inv_fl iv0⟩
      rw [upd_ne (by decide), hP.2.2.2.1, hn0, nI_0]
    · have hcell : ∀ t, t < 2 * m → f (33 + 2 * k) (i + t) = f 43 (60 * k + i + t) := fun t ht => by
        rw [(hS k hk).2 (i + t) (by omega), Nat.add_assoc]
      have hre : rw_ n (fun t => f (33 + 2 * k) (i + t)) 0 m = rw_ n (fun t => f 43 (60 * k + i + t)) 0 m := rw_cg m 0 (fun t ht => hcell t (by omega))
      have h33 : (upd z 8 0) 33 = nI n := by rw [upd_ne (by decide)]; exact hP.2.2.1
      by_cases hrw : rw_ n (fun t => f (33 + 2 * k) (i + t)) 0 m = true
      · rw [if_pos hrw] at hr
        obtain ⟨a, b, hab⟩ := tw_at hn hrw
        have hf : ∀ t, t < m → f (33 + 2 * k) (i + 2 * t) = nI (a t) ∧ f (33 + 2 * k) (i + 2 * t + 1) = nI (b t) ∧ a t < n ∧ b t < n := fun t ht => by
          obtain ⟨x1, x2, x3, x4, _⟩ := hab t ht
          exact ⟨x1, x2, x3, x4⟩
        obtain ⟨z1, f1, e1, e2⟩ := C_few (z := upd z 8 0) (f := f) (a := a) (b := b) hk hn hm hb60 him (by rw [upd_ne (by omega)]; exact hb) hf
        have f43 : f1 43 = f 43 := e1.2 43 (by omega)
        have hPe : (fun X : Nat => (ls_ n (mf_ (fun t => !(X.testBit t)) a b m) n 0).isSome) = (fun X : Nat => decide (lf_ n m (fun t => !(X.testBit t)) a b n = 0)) := by
          funext X
          rw [lf_ok (c := fun t => !(X.testBit t)) hn (fun t ht => (hf t ht).2.2.1) (fun t ht => (hf t ht).2.2.2)]
        have hlast : (fun X : Nat => decide (lf_ n m (fun t => !(X.testBit t)) a b n = 0)) (2 ^ m - 1) = true := by
          rw [← hPe]
          exact ls_nil (c := fun t => !((2 ^ m - 1).testBit t)) hn (fun t ht => (hf t ht).2.2.1) (fun t ht => by
            rw [Nat.testBit_two_pow_sub_one, decide_eq_true ht]; rfl)
        have hI1 : Inv (upd z1 1280 0) f1 := by
          have h9 := FS_I (FS_C e1) (z := upd z 8 0) (f := f)
          obtain ⟨x1, x2, x3⟩ := hX
          refine ⟨n, K, S, T, G, r, A, B, W, U, IvP_z (by decide) (FS_P (FS_C e1) (IvP_z (by decide) hP)), IvG_z hn (by decide) (FS_G hn (FS_C e1) (IvG_z hn (by decide) hG)), ⟨?_, ?_, ?_⟩, IvS_z (by decide) (FS_S (FS_C e1) (IvS_z (by decide) hS)), IvR_z (by decide) (FS_R (FS_C e1) (IvR_z (by decide) hR))⟩
          · rw [upd_ne (by decide), upd_ne (by decide), e1.1 6 (by omega), e1.1 1287 (by omega), upd_ne (by decide), upd_ne (by decide)]; exact x1
          · rw [upd_ne (by decide), upd_ne (by decide), e1.1 7 (by omega), e1.1 1281 (by omega), upd_ne (by decide), upd_ne (by decide)]; exact x2
          · rw [upd_ne (by decide), upd_eq, e1.1 8 (by omega), upd_eq]
        refine ⟨nI (dr_ (fun X => (ls_ n (mf_ (fun t => !(X.testBit t)) a b m) n 0).isSome) (2 ^ m) (m + 1) 0), z1, f1, upd z1 1280 0, f1, C_dr_y hk h33 hr e2, ?_, hI1⟩
        have hy := M_dr_y (z := z1) (f := f1) (q := q) (a := a) (b := b) hk hm hn hn0 (show i + 2 * m ≤ 60 by omega) h3 (by rw [ag_same (y := z) (f := f) hk (e1.2 41 (by omega)) (e1.2 42 (by omega))]; exact hag z) (by rw [e1.1 1285 (by omega), upd_ne (by decide)]; exact hP.2.2.2.1) (by rw [f43, ← hre]; exact hrw) (fun t ht => by
          rw [f43, Nat.add_assoc (60 * k + i) (2 * t) 1, ← hcell (2 * t) (by omega), ← hcell (2 * t + 1) (by omega)]
          exact hf t ht)
        rw [hy, drops_eq hlast, hPe]
        rfl
      · rw [if_neg hrw] at hr
        refine ⟨-1, upd z 8 0, f, upd (upd z 8 0) 1280 0, f, C_dr_r m10_ hr, ?_, Inv_fl iv0⟩
        rw [hre] at hrw
        exact M_dr_x hk hm hn hn0 (by omega) h3 (hag _) (by rw [upd_ne (by decide)]; exact hP.2.2.2.1) hrw
