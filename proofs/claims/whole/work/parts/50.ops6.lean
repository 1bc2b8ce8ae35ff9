def su_ (n G : Nat) (K S T : Nat → Nat) (a : Nat) : Nat → Int32
  | 0 => 0
  | q + 1 => if q = a ∨ G.testBit q = true ∨ wF_ K S T a ≤ bF_ K S q then su_ n G K S T a q else su_ n G K S T a q ||| ((1 : Int32) <<< (nI q &&& 31))
theorem or_z (x : Int32) : x ||| 0 = x := by
  apply Int32.toBitVec_inj.mp
  simp
theorem op_sure : Op_sure := by
  intro z f p iv
  obtain ⟨n, K, S, T, G, r, A, B, W, U, hP, hG, hX, hS, hR⟩ := iv
  have hn := hP.2.1
  have h64 := G_64 hG hn
  unfold fX8_sure fX9_sure
  simp only [q_0_0, ob_1, ob_40, C_has hP.2.2.1, M_isP hP.2.2.2.1, Option.bind_some]
  cases h2 : ip_ n p
  · exact ⟨-1, rfl, rfl⟩
  · obtain ⟨a, ha, rfl⟩ := ip_at hn h2
    have h6 := P_six hP ha
    have ba := bF_le hP ha
    have wa := wF_le (K := K) (S := S) (T := T) a
    refine ⟨su_ n G K S T a n, ?_, ?_⟩
    · simp only [b_t, n10_, if_false, q_1_0, qp_ h6, obp_ h6, P_cw hP ha, Option.bind_some]
      have e : it_ (bX8_sure_31 (HH z f) 0 (nI a) (nI (wF_ K S T a))) fu_ (0, 0) = some (su_ n G K S T a n) := by
        refine it_at (fun i => (su_ n G K S T a i, nI i)) n rfl (fun i hi => ?_) ?_ fu_ (fu_gt (by omega))
        · have hb := bF_le hP hi
          have i6 := P_six hP hi
          unfold bX8_sure_31 jX8_sure_85_31
          simp only [q_0_0, g_1_1, hP.2.2.1, q_1_0, qp_ i6, obp_ i6, P_cb hP hi, gp_ i6 (show 3 < 4 by decide), hG.2.2 i hi, Option.bind_some]
          rw [if_neg (nI_ge hi (by omega))]
          by_cases c1 : i = a
          · subst c1
            simp [su_, nI_1]
          · rw [if_neg (fun e => c1 ((nI_eq (by omega) (by omega)).mp e))]
            cases c2 : G.testBit i
            · simp only [Bool.false_eq_true, if_false, if_true]
              by_cases c3 : wF_ K S T a ≤ bF_ K S i
              · rw [if_pos (nI_le c3 (by omega))]
                simp [su_, c3, nI_1]
              · rw [if_neg (nI_ge (by omega) (by omega))]
                simp [su_, c1, c2, c3, nI_1]
            · simp only [if_true, n10_, if_false]
              simp [su_, c2, nI_1]
        · unfold bX8_sure_31
          simp only [q_0_0, g_1_1, hP.2.2.1, Option.bind_some]
          rw [if_pos (nI_le (Nat.le_refl n) (by omega))]
      rw [e, Option.bind_some]
    · simp only [b_t, n10_, if_false]
      have e : it_ (bX9_sure_14 (HH z f) 40 (nI a)) fu_ (0, 0) = some (su_ n G K S T a n) := by
        refine it_at (fun i => (su_ n G K S T a i, nI i)) n rfl (fun i hi => ?_) ?_ fu_ (fu_gt (by omega))
        · have hb := bF_le hP hi
          have i6 := P_six hP hi
          unfold bX9_sure_14 jX9_sure_58_14 jX9_sure_59_14
          simp only [g_40_5, hP.2.2.2.1, g_40_6, hG.2.1, M_isOf h64 i6, ob_40, P_mw hP ha, P_mb hP hi, Option.bind_some]
          rw [if_neg (nI_ge hi (by omega))]
          by_cases c1 : i = a
          · subst c1
            simp [su_, nI_1, or_z]
          · rw [if_neg (fun e => c1 ((nI_eq (by omega) (by omega)).mp e))]
            cases c2 : G.testBit i
            · simp only [b_f, if_true]
              by_cases c3 : wF_ K S T a ≤ bF_ K S i
              · rw [if_pos (nI_le c3 (by omega))]
                simp [su_, c3, nI_1, or_z]
              · rw [if_neg (nI_ge (by omega) (by omega))]
                simp [su_, c1, c2, c3, nI_1]
            · simp only [b_t, n10_, if_false]
              simp [su_, c2, nI_1, or_z]
        · unfold bX9_sure_14
          simp only [g_40_5, hP.2.2.2.1, Option.bind_some]
          rw [if_pos (nI_le (Nat.le_refl n) (by omega))]
      rw [e, Option.bind_some]
/-! sheets -/
theorem lt_s1 {m : Nat} (hm : m < 2 ^ 30) (v : Int32) : (nI m < v) ↔ (nI (m + 1) ≤ v) := by
  rw [Int32.lt_iff_toInt_lt, Int32.le_iff_toInt_le, nI_toInt (by omega), nI_toInt (by omega)]
  omega
theorem C_shs {h : hp_H} (v : Int32) : fX8_isSheet h v = some (bi_ (ip_ 4 v)) := by
  unfold fX8_isSheet
  by_cases h1 : v < 0
  · simp [h1, ip_, bi_]
  · by_cases h2 : nI 4 ≤ v
    · have h3 : (4 : Int32) ≤ v := h2
      simp [h1, h2, h3, ip_, bi_]
    · have h3 : ¬ (4 : Int32) ≤ v := h2
      simp [h1, h2, h3, ip_, bi_]
theorem C_lan {h : hp_H} (v : Int32) : fX8_isLane h v = some (bi_ (ip_ 3 v)) := by
  unfold fX8_isLane
  by_cases h1 : v < 0
  · simp [h1, ip_, bi_]
  · by_cases h2 : nI 3 ≤ v
    · have h3 : (3 : Int32) ≤ v := h2
      simp [h1, h2, h3, ip_, bi_]
    · have h3 : ¬ (3 : Int32) ≤ v := h2
      simp [h1, h2, h3, ip_, bi_]
theorem bz_bi (b : Bool) : bz_ (bi_ b) = some (bi_ b) := by cases b <;> rfl
theorem M_shs {h : hp_H} (v : Int32) : fX9_isSheet h v = some (bi_ (ip_ 4 v)) := by
  unfold fX9_isSheet
  have e : (!(decide (v < 0)) && !(decide ((3 : Int32) < v))) = ip_ 4 v := by
    have h : ((3 : Int32) < v) ↔ (nI 4 ≤ v) := lt_s1 (m := 3) (by decide) v
    simp only [ip_, decide_eq_decide.mpr h]
  simp only [M_within, Option.bind_some, e, bz_bi]
theorem M_lan {h : hp_H} (v : Int32) : fX9_isSort h v = some (bi_ (ip_ 3 v)) := by
  unfold fX9_isSort
  have e : (!(decide (v < 0)) && !(decide ((2 : Int32) < v))) = ip_ 3 v := by
    have h : ((2 : Int32) < v) ↔ (nI 3 ≤ v) := lt_s1 (m := 2) (by decide) v
    simp only [ip_, decide_eq_decide.mpr h]
  simp only [M_within, Option.bind_some, e, bz_bi]
theorem gs_ {k j : Nat} (hk : k < 4) (hj : 0 < j ∧ j < 4) (z : Nat → Int32) (f : Nat → Nat → Int32) : gi_ (HH z f) (32 + 2 * k) 5 j = some (z (32 * (32 + 2 * k) + j)) := HH_gi (SP_s hk) (by match j, hj with | 1, _ => rfl | 2, _ => rfl | 3, _ => rfl)
theorem qc_ {k : Nat} (hk : k < 4) (z : Nat → Int32) (f : Nat → Nat → Int32) : gq_ (HH z f) (32 + 2 * k) 5 0 = some (33 + 2 * k) := HH_gq (SP_s hk) rfl
theorem obs_ {α : Type} {k : Nat} (hk : k < 4) (z : Nat → Int32) (f : Nat → Nat → Int32) (g : Option α) : ((hg_o (HH z f) (32 + 2 * k) 5).bind fun _ => g) = g := by rw [HH_hg (SP_s hk)]; rfl
theorem ps_ {k j : Nat} (hk : k < 4) (hj : 0 < j ∧ j < 4) (z : Nat → Int32) (f : Nat → Nat → Int32) (x : Int32) : pi_ (HH z f) (32 + 2 * k) 5 j x = some (HH (upd z (32 * (32 + 2 * k) + j) x) f) := HH_pi (SP_s hk) (by match j, hj with | 1, _ => rfl | 2, _ => rfl | 3, _ => rfl)
theorem pzs_ {k : Nat} (hk : k < 4) (z : Nat → Int32) (f : Nat → Nat → Int32) (x : Int32) (hx : x = 0 ∨ x = 1) : pz_ (HH z f) (32 + 2 * k) 5 1 x = some (HH (upd z (32 * (32 + 2 * k) + 1) x) f) := HH_pz hx (SP_s hk) rfl
theorem al41 {z : Nat → Int32} {f : Nat → Nat → Int32} {k : Nat} (hk : k < 4) : al_ (HH z f) 41 (nI k) = some (f 41 k) := HH_al (n := 4) rfl hk (by decide)
theorem al42 {z : Nat → Int32} {f : Nat → Nat → Int32} {k : Nat} (hk : k < 4) : al_ (HH z f) 42 (nI k) = some (f 42 k) := HH_al (n := 4) rfl hk (by decide)
theorem al43 {z : Nat → Int32} {f : Nat → Nat → Int32} {k : Nat} (hk : k < 240) : al_ (HH z f) 43 (nI k) = some (f 43 k) := HH_al (n := 240) rfl hk (by decide)
theorem alc_ {z : Nat → Int32} {f : Nat → Nat → Int32} {k i : Nat} (hk : k < 4) (hi : i < 60) : al_ (HH z f) (33 + 2 * k) (nI i) = some (f (33 + 2 * k) i) := HH_al (n := 60) (SP_c hk) hi (by decide)
theorem ax41 {z : Nat → Int32} {f : Nat → Nat → Int32} {k : Nat} (hk : k < 4) (x : Int32) : ax_ (HH z f) 41 (nI k) x = some (HH z (up2 f 41 (upd (f 41) k x))) := HH_ax (n := 4) rfl hk (by decide)
theorem ax42 {z : Nat → Int32} {f : Nat → Nat → Int32} {k : Nat} (hk : k < 4) (x : Int32) : ax_ (HH z f) 42 (nI k) x = some (HH z (up2 f 42 (upd (f 42) k x))) := HH_ax (n := 4) rfl hk (by decide)
theorem ax43 {z : Nat → Int32} {f : Nat → Nat → Int32} {k : Nat} (hk : k < 240) (x : Int32) : ax_ (HH z f) 43 (nI k) x = some (HH z (up2 f 43 (upd (f 43) k x))) := HH_ax (n := 240) rfl hk (by decide)
theorem axc_ {z : Nat → Int32} {f : Nat → Nat → Int32} {k i : Nat} (hk : k < 4) (hi : i < 60) (x : Int32) : ax_ (HH z f) (33 + 2 * k) (nI i) x = some (HH z (up2 f (33 + 2 * k) (upd (f (33 + 2 * k)) i x))) := HH_ax (n := 60) (SP_c hk) hi (by decide)
theorem m9_ {a : Nat} (ha : a < 3) : ¬ nI a = -9 := by
  match a, ha with
  | 0, _ => decide
  | 1, _ => decide
  | 2, _ => decide
theorem op_lose : Op_lose := by
  intro z f p iv
  have iv0 := iv
  obtain ⟨n, K, S, T, G, r, A, B, W, U, hP, hG, hX, hS, hR⟩ := iv
  have hn := hP.2.1
  unfold fX8_lose
  simp only [C_shs, Option.bind_some]
  cases h2 : ip_ 4 p
  · refine ⟨-1, z, f, z, f, by simp only [b_f, if_true], ?_, iv0⟩
    unfold fX9_lose
    simp only [M_shs, Option.bind_some, h2, b_f, if_true]
  · obtain ⟨k, hk, rfl⟩ := ip_at (by decide) h2
    simp only [b_t, n10_, if_false, q_0_1, qs_ hk, gs_ hk (show 0 < 1 ∧ 1 < 4 by decide), Option.bind_some]
    have hI : Inv (upd z (32 * (32 + 2 * k) + 1) 0) (up2 f 41 (upd (f 41) k (-9))) := by
      refine ⟨n, K, S, T, G, r, A, B, W, U, IvP_z (by omega) (IvP_f (by decide) hP), IvG_z hn (by omega) hG, IvX_z (by omega) hX, fun q hq => ?_, IvR_z (by omega) (IvR_f (by decide) hR)⟩
      obtain ⟨s1, s2⟩ := hS q hq
      rw [up2_eq, up2_ne (show (42 : Nat) ≠ 41 by decide), up2_ne (show (43 : Nat) ≠ 41 by decide), up2_ne (show 33 + 2 * q ≠ 41 by omega)]
      refine ⟨?_, s2⟩
      by_cases hqk : q = k
      · subst hqk
        exact Or.inl ⟨upd_eq, upd_eq⟩
      · rw [upd_ne (show 32 * (32 + 2 * q) + 1 ≠ 32 * (32 + 2 * k) + 1 by omega), upd_ne (show 32 * (32 + 2 * q) + 2 ≠ 32 * (32 + 2 * k) + 1 by omega), upd_ne (show 32 * (32 + 2 * q) + 3 ≠ 32 * (32 + 2 * k) + 1 by omega), upd_ne hqk]
        exact s1
    rcases (hS k hk).1 with ⟨s1, s2⟩ | ⟨s1, a, b, sa, sb, s3, s4, s5, s6⟩
    · refine ⟨0, upd z (32 * (32 + 2 * k) + 1) 0, f, _, _, ?_, ?_, hI⟩
      · simp only [s1, if_true, jX8_lose_26, q_0_1, qs_ hk, pzs_ hk z f 0 (Or.inl rfl), Option.bind_some]
      · unfold fX9_lose jX9_lose_25
        simp only [M_shs, Option.bind_some, h2, b_t, n10_, if_false, q_40_2, al41 hk, s2, if_true, ax41 hk]
    · refine ⟨1, upd z (32 * (32 + 2 * k) + 1) 0, f, _, _, ?_, ?_, hI⟩
      · simp only [s1, n10_, if_false, jX8_lose_26, q_0_1, qs_ hk, pzs_ hk z f 0 (Or.inl rfl), Option.bind_some]
      · unfold fX9_lose jX9_lose_25
        simp only [M_shs, Option.bind_some, h2, b_t, n10_, if_false, q_40_2, al41 hk, s4, m9_ sa, ax41 hk]
