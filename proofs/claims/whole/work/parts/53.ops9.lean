theorem HH_cp {z : Nat → Int32} {f : Nat → Nat → Int32} {i o n0 n1 sp dp m : Nat} (h0 : SP_[i]? = some (.inr (.inl n0))) (h1 : SP_[o]? = some (.inr (.inl n1))) (a1 : sp + m ≤ n0) (a2 : dp + m ≤ n1) (a3 : n0 < 2 ^ 31) (a4 : n1 < 2 ^ 31) : cp_ (HH z f) i (nI sp) o (nI dp) (nI m) = some (HH z (up2 f o (va_cpy (f i) (f o) sp dp m))) := by
  simp only [cp_, HH_get, h0, h1, Option.map_some, rl_]
  rw [if_pos]
  · rw [nI_clamp (by omega), nI_clamp (by omega), nI_clamp (by omega), HH_set z f h1]
  · rw [nI_clamp (by omega), nI_clamp (by omega), nI_clamp (by omega)]
    exact ⟨nI_pos (by omega), nI_pos (by omega), nI_pos (by omega), a1, a2⟩
theorem sub_ti {a b : Nat} (ha : a < 2 ^ 31) (hb : b < 2 ^ 31) : (nI a - nI b).toInt = (a : Int) - b := by
  rw [Int32.toInt_sub, nI_toInt ha, nI_toInt hb]
  exact Int.bmod_eq_of_le (by omega) (by omega)
def rb_ (i n : Int32) (b : Nat) : Bool := !(decide (n < 0)) && !(decide (i < 0)) && !(decide (nI b - n < i))
theorem rb_at {i n : Int32} {b : Nat} (hb : b ≤ 60) (h : rb_ i n b = true) : ∃ q m, q + m ≤ b ∧ i = nI q ∧ n = nI m := by
  simp only [rb_, Bool.and_eq_true, Bool.not_eq_true', decide_eq_false_iff_not] at h
  obtain ⟨⟨h1, h2⟩, h3⟩ := h
  obtain ⟨m, hm, rfl⟩ := nI_of h1
  obtain ⟨q, hq, rfl⟩ := nI_of h2
  refine ⟨q, m, ?_, rfl, rfl⟩
  rw [Int32.lt_iff_toInt_lt, sub_ti (by omega) hm, nI_toInt hq] at h3
  omega
theorem rb_of {q m b : Nat} (hb : b ≤ 60) (h : q + m ≤ b) : rb_ (nI q) (nI m) b = true := by
  simp only [rb_, Bool.and_eq_true, Bool.not_eq_true', decide_eq_false_iff_not]
  refine ⟨⟨nI_pos (by omega), nI_pos (by omega)⟩, ?_⟩
  rw [Int32.lt_iff_toInt_lt, sub_ti (by omega) (by omega), nI_toInt (by omega)]
  omega
theorem C_rch {z : Nat → Int32} {f : Nat → Nat → Int32} {k b : Nat} (hk : k < 4) (hb : z (32 * (32 + 2 * k) + 3) = nI b) (i n : Int32) : fX5_reaches (HH z f) (32 + 2 * k) i n = some (bi_ (rb_ i n b)) := by
  unfold fX5_reaches
  by_cases h0 : n < 0
  · simp [h0, rb_, bi_]
  rw [if_neg h0]
  by_cases h1 : i < 0
  · simp [h1, rb_, bi_]
  · rw [if_neg h1, gs_ hk (show 0 < 3 ∧ 3 < 4 by decide), Option.bind_some, hb]
    by_cases h2 : nI b - n < i
    · simp [h2, rb_, bi_]
    · simp [h0, h1, h2, rb_, bi_]
theorem M_cpy0 {z : Nat → Int32} {f : Nat → Nat → Int32} {k o i j m : Nat} (hk : k < 4) (ho : o < 4) (hi : i + m ≤ 60) (hj : j + m ≤ 60) (hd : k ≠ o ∨ j ≤ i) : it_ (bX9_copy_166 40 (nI k) (nI i) (nI o) (nI j) (nI m) 0) fu_ (0, HH z f) = some (HH z (up2 f 43 (fun x => if 60 * o + j ≤ x ∧ x < 60 * o + j + m then f 43 (60 * k + i + (x - (60 * o + j))) else f 43 x))) := by
  refine it_at (fun t => (nI t, HH z (up2 f 43 (fun x => if 60 * o + j ≤ x ∧ x < 60 * o + j + t then f 43 (60 * k + i + (x - (60 * o + j))) else f 43 x)))) m ?_ (fun t ht => ?_) ?_ fu_ (fu_gt (by omega))
  · (try dsimp only)
    rw [up2_self (fun q => by rw [if_neg (by omega)]), nI_0]
  · unfold bX9_copy_166 jX9_copy_190_166
    dsimp only
    rw [if_neg (nI_ge ht (by omega)), if_pos rfl]
    simp only [q_40_4, ix60, nI_add, Option.bind_some]
    rw [al43 (by omega), up2_eq, Option.bind_some, if_neg (by omega), ax43 (by omega), Option.bind_some, up2_eq, up2_up2]
    have e2 : upd (fun x => if 60 * o + j ≤ x ∧ x < 60 * o + j + t then f 43 (60 * k + i + (x - (60 * o + j))) else f 43 x) (60 * o + j + t) (f 43 (60 * k + i + t)) = fun x => if 60 * o + j ≤ x ∧ x < 60 * o + j + (t + 1) then f 43 (60 * k + i + (x - (60 * o + j))) else f 43 x := by
      funext x
      by_cases c : x = 60 * o + j + t
      · subst c
        rw [upd_eq, if_pos (by omega), show 60 * o + j + t - (60 * o + j) = t by omega]
      · rw [upd_ne c]
        by_cases c2 : 60 * o + j ≤ x ∧ x < 60 * o + j + t
        · rw [if_pos c2, if_pos (by omega)]
        · rw [if_neg c2, if_neg (by omega)]
    rw [e2, nI_1]
  · unfold bX9_copy_166
    dsimp only
    rw [if_pos (nI_le (Nat.le_refl m) (by omega))]
theorem M_cpy1 {z : Nat → Int32} {f : Nat → Nat → Int32} {k o i j m : Nat} (hk : k < 4) (ho : o < 4) (hi : i + m ≤ 60) (hj : j + m ≤ 60) (hd : k ≠ o ∨ i < j) : it_ (bX9_copy_166 40 (nI k) (nI i) (nI o) (nI j) (nI m) 1) fu_ (0, HH z f) = some (HH z (up2 f 43 (fun x => if 60 * o + j ≤ x ∧ x < 60 * o + j + m then f 43 (60 * k + i + (x - (60 * o + j))) else f 43 x))) := by
  refine it_at (fun t => (nI t, HH z (up2 f 43 (fun x => if 60 * o + j + (m - t) ≤ x ∧ x < 60 * o + j + m then f 43 (60 * k + i + (x - (60 * o + j))) else f 43 x)))) m ?_ (fun t ht => ?_) ?_ fu_ (fu_gt (by omega))
  · (try dsimp only)
    rw [up2_self (fun q => by rw [if_neg (by omega)]), nI_0]
  · unfold bX9_copy_166 jX9_copy_190_166
    dsimp only
    rw [if_neg (nI_ge ht (by omega)), if_neg n10_, show nI m - 1 - nI t = nI (m - 1 - t) by
      rw [show nI m - 1 = nI (m - 1) from pk_sub (a := m) (b := 1) (by omega), pk_sub (by omega)]]
    simp only [q_40_4, ix60, nI_add, Option.bind_some]
    rw [al43 (by omega), up2_eq, Option.bind_some, if_neg (by omega), ax43 (by omega), Option.bind_some, up2_eq, up2_up2]
    have e2 : upd (fun x => if 60 * o + j + (m - t) ≤ x ∧ x < 60 * o + j + m then f 43 (60 * k + i + (x - (60 * o + j))) else f 43 x) (60 * o + j + (m - 1 - t)) (f 43 (60 * k + i + (m - 1 - t))) = fun x => if 60 * o + j + (m - (t + 1)) ≤ x ∧ x < 60 * o + j + m then f 43 (60 * k + i + (x - (60 * o + j))) else f 43 x := by
      funext x
      by_cases c : x = 60 * o + j + (m - 1 - t)
      · subst c
        rw [upd_eq, if_pos (by omega), show 60 * o + j + (m - 1 - t) - (60 * o + j) = m - 1 - t by omega]
      · rw [upd_ne c]
        by_cases c2 : 60 * o + j + (m - t) ≤ x ∧ x < 60 * o + j + m
        · rw [if_pos c2, if_pos (by omega)]
        · rw [if_neg c2, if_neg (by omega)]
    rw [e2, nI_1]
  · unfold bX9_copy_166
    dsimp only
    rw [if_pos (nI_le (Nat.le_refl m) (by omega)), Nat.sub_self, Nat.add_zero]
theorem IvS_cpy {z : Nat → Int32} {f : Nat → Nat → Int32} {k o i j m : Nat} (hk : k < 4) (ho : o < 4) (hi : i + m ≤ 60) (hj : j + m ≤ 60) (h : IvS z f) : IvS z (up2 (up2 f (33 + 2 * o) (va_cpy (f (33 + 2 * k)) (f (33 + 2 * o)) i j m)) 43 (fun x => if 60 * o + j ≤ x ∧ x < 60 * o + j + m then f 43 (60 * k + i + (x - (60 * o + j))) else f 43 x)) := by
  intro q hq
  obtain ⟨s1, s2⟩ := h q hq
  rw [up2_eq, up2_ne (show (41 : Nat) ≠ 43 by decide), up2_ne (show (42 : Nat) ≠ 43 by decide), up2_ne (show (41 : Nat) ≠ 33 + 2 * o by omega), up2_ne (show (42 : Nat) ≠ 33 + 2 * o by omega), up2_ne (show 33 + 2 * q ≠ 43 by omega)]
  refine ⟨s1, fun t ht => ?_⟩
  by_cases hqo : q = o
  · subst hqo
    rw [up2_eq]
    by_cases c : j ≤ t ∧ t < j + m
    · rw [if_pos (by omega)]
      simp only [va_cpy, if_pos c]
      rw [(h k hk).2 (i + (t - j)) (by omega), show 60 * k + (i + (t - j)) = 60 * k + i + (60 * q + t - (60 * q + j)) by omega]
    · rw [if_neg (by omega)]
      simp only [va_cpy, if_neg c]
      exact s2 t ht
  · rw [up2_ne (by omega), if_neg (by omega)]
    exact s2 t ht
theorem op_copy : Op_copy := by
  intro z f p i q j m iv
  have iv0 := iv
  obtain ⟨n, K, S, T, G, r, A, B, W, U, hP, hG, hX, hS, hR⟩ := iv
  have hn := hP.2.1
  have ev : ∀ c d : Int32, upd (upd (upd z 8 c) 1280 d) 1280 c = upd (upd z 8 c) 1280 c := fun c d => upd_upd
  unfold fX8_copy
  simp only [p_0_8, C_shs, ob_0, Option.bind_some]
  cases h2 : ip_ 4 p
  · refine ⟨-1, upd z 8 0, f, upd (upd z 8 0) 1280 0, f, by simp only [b_f, if_true], ?_, Inv_fl iv0⟩
    unfold fX9_copy
    simp only [p_40_0, M_shs, Option.bind_some, h2, b_f, if_true]
  cases h3 : ip_ 4 q
  · refine ⟨-1, upd z 8 0, f, upd (upd z 8 0) 1280 0, f, by simp only [b_t, n10_, if_false, b_f, if_true], ?_, Inv_fl iv0⟩
    unfold fX9_copy
    simp only [p_40_0, M_shs, Option.bind_some, h2, h3, b_t, b_f, n10_, if_false, if_true]
  obtain ⟨k, hk, rfl⟩ := ip_at (by decide) h2
  obtain ⟨o, ho, rfl⟩ := ip_at (by decide) h3
  have u1 : ∀ a c, (upd z 8 c) (32 * (32 + 2 * k) + a) = z (32 * (32 + 2 * k) + a) := fun a c => upd_ne (by omega)
  have u2 : ∀ a c, (upd z 8 c) (32 * (32 + 2 * o) + a) = z (32 * (32 + 2 * o) + a) := fun a c => upd_ne (by omega)
  simp only [b_t, n10_, if_false, q_0_1, qs_ hk, qs_ ho, obs_ hk, obs_ ho, gs_ hk (show 0 < 1 ∧ 1 < 4 by decide), gs_ hk (show 0 < 2 ∧ 2 < 4 by decide), gs_ ho (show 0 < 1 ∧ 1 < 4 by decide), gs_ ho (show 0 < 2 ∧ 2 < 4 by decide), u1, u2, qc_ hk, qc_ ho, Option.bind_some]
  rcases (hS k hk).1 with ⟨s1, s2⟩ | ⟨s1, a, b, sa, sb, s3, s4, s5, s6⟩
  · refine ⟨-10 - 1, upd z 8 1, f, upd (upd z 8 1) 1280 1, f, ?_, ?_, Inv_fl iv0⟩
    · simp only [s1, if_true, C_flt, upd_upd, Option.bind_some]
    · unfold fX9_copy
      simp only [p_40_0, M_shs, ob_40, Option.bind_some, h2, h3, b_t, n10_, if_false, q_40_2, al41 hk, s2, if_true, M_flt, ev]
  rcases (hS o ho).1 with ⟨t1, t2⟩ | ⟨t1, a', b', ta, tb, t3, t4, t5, t6⟩
  · refine ⟨-10 - 1, upd z 8 1, f, upd (upd z 8 1) 1280 1, f, ?_, ?_, Inv_fl iv0⟩
    · simp only [s1, t1, n10_, if_false, if_true, C_flt, upd_upd, Option.bind_some]
    · unfold fX9_copy
      simp only [p_40_0, M_shs, ob_40, Option.bind_some, h2, h3, b_t, n10_, if_false, q_40_2, al41 hk, al41 ho, s4, m9_ sa, t2, if_true, M_flt, ev]
  simp only [s1, t1, s3, t3, n10_, if_false]
  by_cases hla : nI a = nI a'
  · have hb1 : (upd z 8 0) (32 * (32 + 2 * k) + 3) = nI b := by rw [u1]; exact s5
    have hb2 : (upd z 8 0) (32 * (32 + 2 * o) + 3) = nI b' := by rw [u2]; exact t5
    simp only [hla, if_true, C_rch hk hb1, C_rch ho hb2, Option.bind_some]
    by_cases good : rb_ i m b = true ∧ rb_ j m b' = true
    · obtain ⟨g1, g2⟩ := good
      obtain ⟨i', m', him, rfl, rfl⟩ := rb_at sb g1
      obtain ⟨j', m2, hjm, rfl, em⟩ := rb_at tb g2
      have em' : m' = m2 := by
        have hm2 : m2 < 2 ^ 31 := by omega
        exact (nI_eq (by omega) hm2).mp em
      subst em'
      refine ⟨nI m', upd z 8 0, up2 f (33 + 2 * o) (va_cpy (f (33 + 2 * k)) (f (33 + 2 * o)) i' j' m'), upd (upd z 8 0) 1280 0, up2 (up2 f (33 + 2 * o) (va_cpy (f (33 + 2 * k)) (f (33 + 2 * o)) i' j' m')) 43 (fun x => if 60 * o + j' ≤ x ∧ x < 60 * o + j' + m' then f 43 (60 * k + i' + (x - (60 * o + j'))) else f 43 x), ?_, ?_, n, K, S, T, G, r, A, B, W, U, IvP_z (by decide) (IvP_z (by decide) (IvP_f (by decide) (IvP_f (by omega) hP))), IvG_z hn (by decide) (IvG_z hn (by decide) hG), X_fl hX, IvS_z (by decide) (IvS_z (by decide) (IvS_cpy hk ho (by omega) (by omega) hS)), IvR_z (by decide) (IvR_z (by decide) (IvR_f (by decide) (IvR_f (by omega) hR)))⟩
      · simp only [g1, g2, b_t, n10_, if_false, HH_cp (SP_c hk) (SP_c ho) (show i' + m' ≤ 60 by omega) (show j' + m' ≤ 60 by omega) (by decide) (by decide), Option.bind_some]
      · have NE41 : ∀ (F : Nat → Nat → Int32) (g : Nat → Int32), up2 F (33 + 2 * o) g 41 = F 41 := fun F g => up2_ne (by omega)
        have NE42 : ∀ (F : Nat → Nat → Int32) (g : Nat → Int32), up2 F (33 + 2 * o) g 42 = F 42 := fun F g => up2_ne (by omega)
        have NE43 : ∀ (F : Nat → Nat → Int32) (g : Nat → Int32), up2 F (33 + 2 * o) g 43 = F 43 := fun F g => up2_ne (by omega)
        unfold fX9_copy
        simp only [p_40_0, M_shs, ob_40, Option.bind_some, h2, h3, b_t, n10_, if_false, q_40_2, q_40_3, al41 hk, al41 ho, al42 hk, al42 ho, NE41, NE42, s4, t4, s6, t6, m9_ sa, m9_ ta, hla, if_true, nI_pos (show i' < 2 ^ 31 by omega), nI_pos (show j' < 2 ^ 31 by omega), nI_pos (show m' < 2 ^ 31 by omega), nI_nlt (show i' ≤ b by omega) (show b < 2 ^ 31 by omega), nI_nlt (show j' ≤ b' by omega) (show b' < 2 ^ 31 by omega)]
        unfold jX9_copy_110
        simp only [n10_, if_false, q_40_3, al42 hk, al42 ho, NE42, s6, t6, pk_sub (show i' ≤ b by omega), pk_sub (show j' ≤ b' by omega), nI_nlt (show m' ≤ b - i' by omega) (show b - i' < 2 ^ 31 by omega), Option.bind_some]
        rw [if_pos (nI_le (show m' ≤ b' - j' by omega) (by omega))]
        by_cases hd : j' ≤ i'
        · rw [if_pos (nI_le hd (by omega))]
          unfold jX9_copy_161
          rw [M_cpy0 hk ho (by omega) (by omega) (Or.inr hd), Option.bind_some]
          simp only [NE43]
        · rw [if_neg (nI_ge (by omega) (by omega))]
          unfold jX9_copy_161
          rw [M_cpy1 hk ho (by omega) (by omega) (Or.inr (by omega)), Option.bind_some]
          simp only [NE43]
    · refine ⟨-10 - 3, upd z 8 3, f, upd (upd z 8 3) 1280 3, f, ?_, ?_, Inv_fl iv0⟩
      · cases g1 : rb_ i m b
        · simp only [b_f, if_true, C_flt, upd_upd, Option.bind_some]
        · cases g2 : rb_ j m b'
          · simp only [b_t, n10_, if_false, b_f, if_true, C_flt, upd_upd, Option.bind_some]
          · exact absurd ⟨g1, g2⟩ good
      · have bad : ∀ c d e g w y : Int32, jX9_copy_110 (HH (upd (upd z 8 3) 1280 0) f) 40 c d e g w 0 = some (-10 - 3, HH (upd (upd z 8 3) 1280 3) f) := fun c d e g w y => by
          unfold jX9_copy_110
          simp only [if_true, ob_40, M_flt, upd_upd, Option.bind_some]
        unfold fX9_copy jX9_copy_109
        simp only [p_40_0, M_shs, ob_40, Option.bind_some, h2, h3, b_t, n10_, if_false, q_40_2, q_40_3, al41 hk, al41 ho, al42 hk, al42 ho, s4, t4, s6, t6, m9_ sa, m9_ ta, hla, if_true, bad _ _ _ _ _ 0]
        by_cases c1 : i < 0
        · rw [if_pos c1]
        rw [if_neg c1]
        by_cases c2 : j < 0
        · rw [if_pos c2]
        rw [if_neg c2]
        by_cases c3 : m < 0
        · rw [if_pos c3]
        rw [if_neg c3]
        obtain ⟨i', hi', rfl⟩ := nI_of c1
        obtain ⟨j', hj', rfl⟩ := nI_of c2
        obtain ⟨m', hm', rfl⟩ := nI_of c3
        by_cases c4 : nI b < nI i'
        · rw [if_pos c4]
        rw [if_neg c4]
        by_cases c5 : nI b' < nI j'
        · rw [if_pos c5]
        rw [if_neg c5]
        have d4 : i' ≤ b := Classical.byContradiction fun w => c4 (nI_lt (by omega) hi')
        have d5 : j' ≤ b' := Classical.byContradiction fun w => c5 (nI_lt (by omega) hj')
        unfold jX9_copy_110
        simp only [n10_, if_false, q_40_3, al42 hk, al42 ho, s6, t6, pk_sub d4, pk_sub d5, ob_40, M_flt, upd_upd, Option.bind_some]
        by_cases c6 : nI (b - i') < nI m'
        · rw [if_pos c6]
        rw [if_neg c6]
        by_cases c7 : nI m' ≤ nI (b' - j')
        · exfalso
          apply good
          have d6 : m' ≤ b - i' := Classical.byContradiction fun w => c6 (nI_lt (by omega) hm')
          have d7 : m' ≤ b' - j' := Classical.byContradiction fun w => nI_ge (a := b' - j') (b := m') (by omega) hm' c7
          exact ⟨rb_of sb (by omega), rb_of tb (by omega)⟩
        · rw [if_neg c7]
  · refine ⟨-10 - 2, upd z 8 2, f, upd (upd z 8 2) 1280 2, f, ?_, ?_, Inv_fl iv0⟩
    · simp only [hla, if_false, C_flt, upd_upd, Option.bind_some]
    · unfold fX9_copy
      simp only [p_40_0, M_shs, ob_40, Option.bind_some, h2, h3, b_t, n10_, if_false, q_40_2, al41 hk, al41 ho, s4, t4, m9_ sa, m9_ ta, hla, M_flt, ev]
