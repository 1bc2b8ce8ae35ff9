def ans_ (n : Nat) (s : st_T) (t : Nat) : Int32 := if t = 0 then nI n - nI (pcN_ 6 s.2.1) else if t = 2 then nI s.2.1 else if t = 3 then nI s.2.2.2.1 else if 10 ≤ t then (if t - 10 < n then nI (s.2.2.1 (t - 10)) else -9) else s.2.2.2.2
theorem ip_d {n x : Nat} (hn : n ≤ 6) (hx : x < 2 ^ 31) : ip_ n (nI x) = decide (x < n) := by
  by_cases c : x < n
  · rw [ip_nI hn c, decide_eq_true c]
  · rw [decide_eq_false c]
    simp [ip_, nI_le (show n ≤ x by omega) hx]
theorem C_ans {z : Nat → Int32} {f : Nat → Nat → Int32} {n : Nat} {K S : Nat → Nat} {s : st_T} {t : Nat} {wr : Int32} (hn : n ≤ 6) (hw : SW_ n K S s) (h : RS_ z f n K S s) (hwr : z 484 = wr) (ht : t ≤ 4 ∨ (10 ≤ t ∧ t ≤ 15)) : fX4_answer (HH z f) 15 (nI t) = some (if t = 1 then wr else if wr = -9 then ans_ n s t else -100 - wr) := by
  obtain ⟨h1, h2, h3, h4, h5⟩ := h
  have h64 : s.2.1 < 64 := Nat.lt_of_lt_of_le hw.2 (pw6 hn)
  have hgo : fX7_goneSet (HH z f) 16 = some (nI s.2.1) := S_gone h1 hn hw.2 (fun p hp => (h2 p hp).2.2.2)
  unfold fX4_answer
  simp only [g_15_4, hwr, q_15_0, q_15_1, g_16_1, h1, ob_16, hgo, C_bc _ h64, g_15_2, g_15_3, h4, h5, Option.bind_some]
  by_cases c1 : t = 1
  · subst c1
    rw [if_pos (show nI 1 = 1 by decide), if_pos rfl]
  rw [if_neg (show ¬ nI t = 1 from fun e => c1 ((nI_eq (b := 1) (by omega) (by decide)).mp e)), if_neg c1]
  by_cases c2 : wr = -9
  · rw [if_pos c2, if_pos c2]
    unfold ans_
    by_cases d0 : t = 0
    · subst d0
      rw [if_pos nI_0, if_pos rfl]
    rw [if_neg (nI_ne0 (by omega) (by omega)), if_neg d0, if_neg (show ¬ nI t = 1 from fun e => c1 ((nI_eq (b := 1) (by omega) (by decide)).mp e))]
    by_cases d2 : t = 2
    · subst d2
      rw [if_pos (show nI 2 = 2 by decide), if_pos rfl]
    rw [if_neg (show ¬ nI t = 2 from fun e => d2 ((nI_eq (b := 2) (by omega) (by decide)).mp e)), if_neg d2]
    by_cases d3 : t = 3
    · subst d3
      rw [if_pos (show nI 3 = 3 by decide), if_pos rfl]
    rw [if_neg (show ¬ nI t = 3 from fun e => d3 ((nI_eq (b := 3) (by omega) (by decide)).mp e)), if_neg d3]
    by_cases d4 : t = 4
    · subst d4
      rw [if_pos (show nI 4 = 4 by decide), if_neg (by decide)]
    rw [if_neg (show ¬ nI t = 4 from fun e => d4 ((nI_eq (b := 4) (by omega) (by decide)).mp e)), if_pos (show 10 ≤ t by omega)]
    rw [show nI t - 10 = nI (t - 10) from pk_sub (b := 10) (by omega), S_has h1, ip_d hn (by omega)]
    by_cases d5 : t - 10 < n
    · rw [decide_eq_true d5, if_pos d5]
      simp only [b_t, n10_, if_false, al24 (show t - 10 < 6 by omega), h3 _ d5, Option.bind_some]
    · rw [decide_eq_false d5, if_neg d5]
      simp only [b_f, if_true, Option.bind_some]
  · rw [if_neg c2, if_neg c2]
theorem M_ans {z : Nat → Int32} {f : Nat → Nat → Int32} {n : Nat} {K S : Nat → Nat} {s : st_T} {t : Nat} (hn : n ≤ 6) (hw : SW_ n K S s) (h : RT_ z f n K S s) (ht : t ≤ 4 ∨ (10 ≤ t ∧ t ≤ 15)) : fX9_tellSeason (HH z f) 40 (nI t) = some (ans_ n s t) := by
  obtain ⟨h1, h2, h3, h4, h5⟩ := h
  have h64 : s.2.1 < 64 := Nat.lt_of_lt_of_le hw.2 (pw6 hn)
  unfold fX9_tellSeason
  simp only [g_40_5, g_40_6, g_40_16, g_40_17, h1, h2, h4, h5, ob_40, M_size h64, Option.bind_some]
  unfold ans_
  by_cases c : 10 ≤ t
  · rw [if_neg (show ¬ nI t < 10 from nI_nlt (b := 10) c (by omega)), if_neg (show ¬ t = 0 by omega), if_neg (show ¬ t = 2 by omega), if_neg (show ¬ t = 3 by omega), if_pos c, show nI t - 10 = nI (t - 10) from pk_sub (b := 10) (by omega), M_isP h1, ip_d hn (by omega)]
    by_cases d5 : t - 10 < n
    · rw [decide_eq_true d5, if_pos d5]
      simp only [b_t, n10_, if_false, q_40_15, al49 (show t - 10 < 6 by omega), (h3 _ d5).2.2.2, Option.bind_some]
    · rw [decide_eq_false d5, if_neg d5]
      simp only [b_f, if_true, Option.bind_some]
  · rw [if_pos (show nI t < 10 from nI_lt (b := 10) (by omega) (by decide))]
    have t5 : t = 0 ∨ t = 1 ∨ t = 2 ∨ t = 3 ∨ t = 4 := by omega
    rcases t5 with rfl | rfl | rfl | rfl | rfl
    · rw [if_pos nI_0, if_pos rfl]
    · rw [if_neg (show ¬ nI 1 = 0 by decide), if_pos (show nI 1 = 1 by decide), if_neg (by decide), if_neg (by decide), if_neg (by decide), if_neg (by decide)]
    · rw [if_neg (show ¬ nI 2 = 0 by decide), if_neg (show ¬ nI 2 = 1 by decide), if_pos (show nI 2 = 2 by decide), if_neg (by decide), if_pos rfl]
    · rw [if_neg (show ¬ nI 3 = 0 by decide), if_neg (show ¬ nI 3 = 1 by decide), if_neg (show ¬ nI 3 = 2 by decide), if_pos (show nI 3 = 3 by decide), if_neg (by decide), if_neg (by decide), if_pos rfl]
    · rw [if_neg (show ¬ nI 4 = 0 by decide), if_neg (show ¬ nI 4 = 1 by decide), if_neg (show ¬ nI 4 = 2 by decide), if_neg (show ¬ nI 4 = 3 by decide), if_neg (by decide), if_neg (by decide), if_neg (by decide), if_neg (by decide)]
def s0_ (T : Nat → Nat) (G : Nat) : st_T := (T, G, fun _ => 0, 0, -9)
theorem C_run {z : Nat → Int32} {f : Nat → Nat → Int32} {k i m b n G : Nat} {K S T aN xN : Nat → Nat} (hk : k < 4) (hP : IvP z f n K S T) (hG : IvG z n G) (hb60 : b ≤ 60) (him : i + 2 * m ≤ b) (hm : m ≤ 20) (hb : z (32 * (32 + 2 * k) + 3) = nI b) (ht : ∀ t, t < m → f (33 + 2 * k) (i + 2 * t) = nI (aN t) ∧ f (33 + 2 * k) (i + 2 * t + 1) = nI (xN t) ∧ aN t < n ∧ ac_ (xN t)) : ∃ z' f', fX4_run (HH z f) 15 1 (32 + 2 * k) (nI i) (nI m) = some (HH z' f') ∧ FC_ z f z' f' ∧ RS_ z' f' n K S (run_ n K S aN xN 0 m (s0_ T G)).2 ∧ z' 484 = (run_ n K S aN xN 0 m (s0_ T G)).1 ∧ SW_ n K S (run_ n K S aN xN 0 m (s0_ T G)).2 := by
  have hn := hP.2.1
  obtain ⟨z1, e1, l1, l2, l3⟩ := S_like (f := f) hn hP.2.2.1 (fun p hp => by rw [hG.2.2 p hp]; cases G.testBit p <;> simp)
  have hF : FC_ z f (upd (upd (upd z1 482 0) 483 (-9)) 484 (-9)) (up2 f 24 (fun j => if j < 6 then 0 else f 24 j)) := FC_z (by omega) (FC_z (by omega) (FC_z (by omega) (FC_f (by omega) l1)))
  have hw : SW_ n K S (s0_ T G) := ⟨fun p hp => by
    obtain ⟨h1, h2, h3, -⟩ := hP.2.2.2.2 p hp
    exact ⟨h1, h2, h3⟩, hG.1⟩
  have hR : RS_ (upd (upd (upd z1 482 0) 483 (-9)) 484 (-9)) (up2 f 24 (fun j => if j < 6 then 0 else f 24 j)) n K S (s0_ T G) := by
    refine ⟨by rw [upd_ne (by decide), upd_ne (by decide), upd_ne (by decide)]; exact l2, fun p hp => ?_, fun p hp => ?_, by rw [upd_ne (by decide), upd_ne (by decide), upd_eq]; rfl, by rw [upd_ne (by decide), upd_eq]; rfl⟩
    · have e : ∀ j, j < 4 → (upd (upd (upd z1 482 0) 483 (-9)) 484 (-9)) (32 * (18 + p) + j) = z (32 * (3 + p) + j) := fun j hj => by rw [upd_ne (by omega), upd_ne (by omega), upd_ne (by omega)]; exact l3 p hp j hj
      obtain ⟨h1, h2, h3, d0, d1, d2, d3, d4, d5⟩ := hP.2.2.2.2 p hp
      rw [e 0 (by decide), e 1 (by decide), e 2 (by decide), e 3 (by decide)]
      exact ⟨d0, d2, d4, hG.2.2 p hp⟩
    · rw [up2_eq, if_pos (show p < 6 by omega)]; rfl
  obtain ⟨z2, f2, u1, u2, u3, u4, u5⟩ := S_loop hk hn hb60 him m 0 (s0_ T G) _ _ fu_ (by omega) (fu_gt (by omega)) hw hR upd_eq (by rw [hF.1 _ (by omega)]; exact hb) (fun t htm => by rw [hF.2 _ (by omega)]; exact ht t htm)
  refine ⟨z2, f2, ?_, FC_t hF u2, u3, u4, u5⟩
  unfold fX4_run
  rw [nI_0] at u1
  simp only [q_15_0, ob_16, e1, q_15_1, fill_gen (i := 24) (n := 6) rfl (by decide), p_15_2, p_15_3, p_15_4, u1, Option.bind_some]
theorem M_run {z : Nat → Int32} {f : Nat → Nat → Int32} {c m n G : Nat} {K S T aN xN : Nat → Nat} (hn : n ≤ 6) (hc : c + 2 * m ≤ 240) (hm : m ≤ 20) (hw : SW_ n K S (s0_ T G)) (h1 : z 1285 = nI n) (h2 : z 1286 = nI G) (h3 : ∀ p, p < n → f 44 p = nI (K p) ∧ f 45 p = nI (S p) ∧ f 46 p = nI (T p)) (ht : ∀ t, t < m → f 43 (c + 2 * t) = nI (aN t) ∧ f 43 (c + 2 * t + 1) = nI (xN t) ∧ aN t < n ∧ ac_ (xN t)) : ∃ z' f', fX9_goSeason (HH z f) 40 (nI c) (nI m) = some ((run_ n K S aN xN 0 m (s0_ T G)).1, HH z' f') ∧ FM_ z f z' f' ∧ RT_ z' f' n K S (run_ n K S aN xN 0 m (s0_ T G)).2 := by
  have hF : FM_ z f (upd (upd z 1296 0) 1297 (-9)) (up2 f 49 (fun p => if p < 6 then 0 else f 49 p)) := FM_z (by omega) (FM_z (by omega) (FM_f (by omega) FM_r))
  have hR : RT_ (upd (upd z 1296 0) 1297 (-9)) (up2 f 49 (fun p => if p < 6 then 0 else f 49 p)) n K S (s0_ T G) := by
    refine ⟨by rw [upd_ne (by decide), upd_ne (by decide)]; exact h1, by rw [upd_ne (by decide), upd_ne (by decide)]; exact h2, fun p hp => ?_, by rw [upd_ne (by decide), upd_eq]; rfl, by rw [upd_eq]; rfl⟩
    obtain ⟨d0, d1, d2⟩ := h3 p hp
    rw [up2_ne (show (44 : Nat) ≠ 49 by decide), up2_ne (show (45 : Nat) ≠ 49 by decide), up2_ne (show (46 : Nat) ≠ 49 by decide), up2_eq, if_pos (show p < 6 by omega)]
    exact ⟨d0, d1, d2, rfl⟩
  obtain ⟨x, z2, f2, u1, u2, u3, u4⟩ := T_loop hn hc m 0 (s0_ T G) _ _ fu_ (by omega) (fu_gt (by omega)) hw hR (fun t htm => by rw [hF.2 43 (by decide) (by decide)]; exact ht t htm)
  refine ⟨z2, f2, ?_, FM_t hF u3, u4⟩
  unfold fX9_goSeason
  rw [nI_0] at u1
  simp only [p_40_16, p_40_17, M_none, u1, Option.bind_some]
  rcases u2 with ⟨rfl, e9⟩ | rfl
  · rw [e9]
  · rfl
def ask_ (w : Int32) : Bool := (!(decide (w < 0)) && !(decide ((4 : Int32) < w))) || (!(decide (w < 10)) && !(decide ((15 : Int32) < w)))
theorem ask_at {w : Int32} (h : ask_ w = true) : ∃ t : Nat, (t ≤ 4 ∨ (10 ≤ t ∧ t ≤ 15)) ∧ w = nI t := by
  unfold ask_ at h
  simp only [Bool.or_eq_true, Bool.and_eq_true, Bool.not_eq_true', decide_eq_false_iff_not] at h
  rcases h with ⟨d1, d2⟩ | ⟨d1, d2⟩
  · obtain ⟨y, hy, rfl⟩ := nI_of d1
    have : y ≤ 4 := Classical.byContradiction fun e => d2 (nI_lt (a := 4) (by omega) hy)
    exact ⟨y, Or.inl this, rfl⟩
  · have d0 : ¬ w < 0 := by
      intro e
      apply d1
      rw [Int32.lt_iff_toInt_lt] at e ⊢
      have e0 : (0 : Int32).toInt = 0 := by decide
      have e10 : (10 : Int32).toInt = 10 := by decide
      omega
    obtain ⟨y, hy, rfl⟩ := nI_of d0
    have l1 : 10 ≤ y := Classical.byContradiction fun e => d1 (nI_lt (b := 10) (by omega) (by decide))
    have l2 : y ≤ 15 := Classical.byContradiction fun e => d2 (nI_lt (a := 15) (by omega) hy)
    exact ⟨y, Or.inr ⟨l1, l2⟩, rfl⟩
theorem C_sea0 {h : hp_H} (p q u v w : Int32) : fX8_season h 0 p q u v w = jX8_season_55 h 0 p u v w (bi_ (ask_ w && !(decide ((20 : Int32) < v)))) v u q p 0 := by
  unfold fX8_season jX8_season_11 jX8_season_29 jX8_season_25 jX8_season_30 jX8_season_54 ask_
  by_cases c1 : w < 0
  · have c3 : w < 10 := by
      rw [Int32.lt_iff_toInt_lt] at c1 ⊢
      have e0 : (0 : Int32).toInt = 0 := by decide
      have e10 : (10 : Int32).toInt = 10 := by decide
      omega
    simp [c1, c3, bi_]
  · by_cases c2 : w ≤ 4
    · have c2' : ¬ (4 : Int32) < w := fun e => i_lt.mp e c2
      by_cases c5 : (20 : Int32) < v
      · simp [c1, c2, c5, bi_]
      · simp [c1, c2, c2', c5, bi_]
    · have c2' : (4 : Int32) < w := i_lt.mpr c2
      by_cases c3 : w < 10
      · simp [c1, c2, c2', c3, bi_]
      · by_cases c4 : (15 : Int32) < w
        · simp [c1, c2, c2', c3, c4, bi_]
        · by_cases c5 : (20 : Int32) < v
          · simp [c1, c2, c3, c4, c5, bi_]
          · simp [c1, c2, c3, c4, c5, bi_]
theorem M_sea0 {z : Nat → Int32} {f : Nat → Nat → Int32} (p q u v w : Int32) : fX9_season (HH z f) 40 p q u v w = if ip_ 4 p = false then some (-1, HH (upd z 1280 0) f) else if ip_ 3 q = false ∨ v < 0 ∨ (ask_ w && !(decide ((20 : Int32) < v))) = false then some (-2, HH (upd z 1280 0) f) else jX9_season_57 (HH (upd z 1280 0) f) 40 p q u v w := by
  unfold fX9_season
  simp only [p_40_0, M_shs, M_lan, M_within, Option.bind_some]
  cases h1 : ip_ 4 p
  · simp only [b_f, if_true]
  cases h2 : ip_ 3 q
  · simp only [b_t, b_f, n10_, if_false, if_true, true_or, Bool.true_eq_false]
  simp only [b_t, n10_, if_false, Bool.true_eq_false, false_or]
  by_cases h3 : v < 0
  · simp [h3, bi_]
  by_cases h4 : (20 : Int32) < v
  · simp [h3, h4, bi_]
  cases h5 : ask_ w
  · unfold ask_ at h5
    simp only [Bool.or_eq_false_iff] at h5
    rw [h5.1, h5.2]
    simp [h3, h4, bi_]
  · unfold ask_ at h5
    cases h6 : (!(decide (w < 0)) && !(decide ((4 : Int32) < w)))
    · rw [h6, Bool.false_or] at h5
      rw [h5]
      simp [h3, h4, bi_]
    · simp [h3, h4, bi_]
