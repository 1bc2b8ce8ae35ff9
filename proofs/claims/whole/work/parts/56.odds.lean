/-! a loop by an invariant, with an early end -/
theorem it_inv {S X : Type} {b : S → Option (S ⊕ X)} (I : Nat → S → Prop) (R : X → Prop) (n : Nat) (h1 : ∀ i s, i < n → I i s → (∃ s', b s = some (.inl s') ∧ I (i + 1) s') ∨ (∃ x, b s = some (.inr x) ∧ R x)) (h2 : ∀ s, I n s → ∃ x, b s = some (.inr x) ∧ R x) (m : Nat) (s : S) (hm : n < m) (hI : I 0 s) : ∃ x, it_ b m s = some x ∧ R x := by
  have key : ∀ k, k ≤ n → ∀ m s, k < m → I (n - k) s → ∃ x, it_ b m s = some x ∧ R x := by
    intro k
    induction k with
    | zero =>
      intro _ m s hm hI
      obtain ⟨m, rfl⟩ : ∃ q, m = q + 1 := ⟨m - 1, by omega⟩
      obtain ⟨x, e, hx⟩ := h2 s hI
      exact ⟨x, by simp [it_, e], hx⟩
    | succ k ih =>
      intro hk m s hm hI
      obtain ⟨m, rfl⟩ : ∃ q, m = q + 1 := ⟨m - 1, by omega⟩
      rcases h1 (n - (k + 1)) s (by omega) hI with ⟨s', e, hs'⟩ | ⟨x, e, hx⟩
      · rw [show n - (k + 1) + 1 = n - k by omega] at hs'
        obtain ⟨x, ex, hx⟩ := ih (by omega) m s' (by omega) hs'
        exact ⟨x, by simp only [it_, e, Option.bind_some]; exact ex, hx⟩
      · exact ⟨x, by simp [it_, e], hx⟩
  exact key n (Nat.le_refl n) m s hm (by rwa [Nat.sub_self])
/-! odds -/
set_option maxRecDepth 100000 in
theorem od_min : ∀ x, x < 20 → ∀ t, t < 19 → ∀ b, b < 19 → mx_ 0 (((mn_ (nI x - 1) (nI t)) - nI b) + 1) = nI (min x (t + 1) - b) := by decide +kernel
def wy_ (lo t b : Nat) : Nat → Nat
  | 0 => 0
  | i + 1 => wy_ lo t b i + (min (lo + i) (t + 1) - b)
theorem wy_le (lo t b : Nat) (ht : t < 19) : ∀ i, wy_ lo t b i ≤ 19 * i := by
  intro i
  induction i with
  | zero => exact Nat.le_refl _
  | succ i ih =>
    show wy_ lo t b i + (min (lo + i) (t + 1) - b) ≤ _
    omega
theorem C_ways {z : Nat → Int32} {f : Nat → Nat → Int32} {n : Nat} {K S T : Nat → Nat} (hP : IvP z f n K S T) {a b : Nat} (ha : a < n) (hb : b < n) : fX8_waysToWin (HH z f) (3 + a) (3 + b) = some (nI (wy_ (wF_ K S T a) (bF_ K S b) (wF_ K S T b) (bF_ K S a - wF_ K S T a + 1))) := by
  have h6 := P_six hP ha
  have h6b := P_six hP hb
  have ba := bF_le hP ha
  have bb := bF_le hP hb
  have wa := wF_le (K := K) (S := S) (T := T) a
  have wb := wF_le (K := K) (S := S) (T := T) b
  unfold fX8_waysToWin
  simp only [obp_ h6, obp_ h6b, P_cw hP ha, P_cw hP hb, P_cb hP hb, Option.bind_some]
  have e : it_ (bX8_waysToWin_19 (HH z f) (3 + a) (nI (wF_ K S T b)) (nI (bF_ K S b))) fu_ (0, nI (wF_ K S T a)) = some (nI (wy_ (wF_ K S T a) (bF_ K S b) (wF_ K S T b) (bF_ K S a - wF_ K S T a + 1))) := by
    refine it_at (fun i => (nI (wy_ (wF_ K S T a) (bF_ K S b) (wF_ K S T b) i), nI (wF_ K S T a + i))) (bF_ K S a - wF_ K S T a + 1) rfl (fun i hi => ?_) ?_ fu_ (fu_gt (by omega))
    · unfold bX8_waysToWin_19
      simp only [obp_ h6, P_cb hP ha, Option.bind_some]
      rw [if_neg (nI_nlt (by omega) (by omega)), od_min _ (by omega) _ (by omega) _ (by omega), nI_add, nI_1]
      rfl
    · unfold bX8_waysToWin_19
      simp only [obp_ h6, P_cb hP ha, Option.bind_some]
      rw [if_pos (nI_lt (by omega) (by omega))]
  rw [e, Option.bind_some]
theorem od_in {z : Nat → Int32} {f : Nat → Nat → Int32} {n : Nat} {K S T : Nat → Nat} (hP : IvP z f n K S T) {b : Nat} (hb : b < n) (v1 v3 : Int32) {x c0 m0 : Nat} (hx : x < 20) : it_ (bX9_odds_52 (HH z f) 40 v1 (nI b) v3 (nI x)) fu_ (nI c0, nI m0, nI (wF_ K S T b)) = some (nI (c0 + (bF_ K S b - wF_ K S T b + 1)), nI (m0 + (min x (bF_ K S b + 1) - wF_ K S T b))) := by
  have bb := bF_le hP hb
  have wb := wF_le (K := K) (S := S) (T := T) b
  refine it_at (fun i => (nI (c0 + i), nI (m0 + (min x (wF_ K S T b + i) - wF_ K S T b)), nI (wF_ K S T b + i))) (bF_ K S b - wF_ K S T b + 1) ?_ (fun i hi => ?_) ?_ fu_ (fu_gt (by omega))
  · show (nI (c0 + 0), nI (m0 + (min x (wF_ K S T b + 0) - wF_ K S T b)), nI (wF_ K S T b + 0)) = _
    rw [show min x (wF_ K S T b + 0) - wF_ K S T b = 0 by omega]
    rfl
  · unfold bX9_odds_52
    simp only [ob_40, P_mb hP hb, Option.bind_some]
    rw [if_neg (nI_nlt (by omega) (by omega))]
    unfold jX9_odds_79_52
    simp only [Option.bind_some]
    by_cases c : x ≤ wF_ K S T b + i
    · rw [if_pos (nI_le c (by omega)), show min x (wF_ K S T b + (i + 1)) = min x (wF_ K S T b + i) by omega, nI_1, nI_1, show (0 : Int32) = nI 0 from rfl, nI_add]
      rfl
    · rw [if_neg (nI_ge (by omega) (by omega)), show m0 + (min x (wF_ K S T b + (i + 1)) - wF_ K S T b) = m0 + (min x (wF_ K S T b + i) - wF_ K S T b) + 1 by omega, nI_1, nI_1, nI_1]
      rfl
  · unfold bX9_odds_52
    simp only [ob_40, P_mb hP hb, Option.bind_some]
    rw [if_pos (nI_lt (by omega) (by omega)), show wF_ K S T b + (bF_ K S b - wF_ K S T b + 1) = bF_ K S b + 1 by omega]
theorem od_out {z : Nat → Int32} {f : Nat → Nat → Int32} {n : Nat} {K S T : Nat → Nat} (hP : IvP z f n K S T) {a b : Nat} (ha : a < n) (hb : b < n) (v3 : Int32) : it_ (bX9_odds_35 (HH z f) 40 (nI a) (nI b) v3) fu_ (0, 0, nI (wF_ K S T a)) = some (nI ((bF_ K S a - wF_ K S T a + 1) * (bF_ K S b - wF_ K S T b + 1)), nI (wy_ (wF_ K S T a) (bF_ K S b) (wF_ K S T b) (bF_ K S a - wF_ K S T a + 1))) := by
  have ba := bF_le hP ha
  have wa := wF_le (K := K) (S := S) (T := T) a
  refine it_at (fun i => (nI (i * (bF_ K S b - wF_ K S T b + 1)), nI (wy_ (wF_ K S T a) (bF_ K S b) (wF_ K S T b) i), nI (wF_ K S T a + i))) (bF_ K S a - wF_ K S T a + 1) ?_ (fun i hi => ?_) ?_ fu_ (fu_gt (by omega))
  · show (nI (0 * (bF_ K S b - wF_ K S T b + 1)), nI 0, nI (wF_ K S T a + 0)) = _
    rw [Nat.zero_mul]
    rfl
  · unfold bX9_odds_35
    simp only [ob_40, P_mb hP ha, P_mw hP hb, Option.bind_some]
    rw [if_neg (nI_nlt (by omega) (by omega)), od_in hP hb (nI a) v3 (x := wF_ K S T a + i) (by omega)]
    simp only [Option.bind_some]
    rw [nI_1, Nat.succ_mul]
    rfl
  · unfold bX9_odds_35
    simp only [ob_40, P_mb hP ha, Option.bind_some]
    rw [if_pos (nI_lt (by omega) (by omega))]
theorem eu_it {h : hp_H} {v0 v2 : Int64} {v4 : Int32} : ∀ (y x m : Nat), y < m → x < 2 ^ 31 → y < 2 ^ 31 → it_ (bX9_inLeastTerms_6 h v0 v2 v4) m (lN x, lN y) = some (lN (Nat.gcd x y)) := by
  intro y
  induction y using Nat.strongRecOn with
  | ind y ih =>
    intro x m hm hx hy
    obtain ⟨m, rfl⟩ : ∃ q, m = q + 1 := ⟨m - 1, by omega⟩
    by_cases h0 : y = 0
    · subst h0
      simp only [it_, bX9_inLeastTerms_6]
      rw [if_pos (show lg_cmp (lN 0) 0 = 0 by decide), Nat.gcd_zero_right]
      rfl
    · have hl : ¬ lg_cmp (lN y) 0 = 0 := by
        unfold lg_cmp
        rw [if_pos (show lN y > 0 from (pk_lLT (a := 0) (b := y) (by decide) (by omega)).mpr (by omega))]
        decide
      have hn : ¬ lN y = 0 := fun e => h0 ((lN_eq (b := 0) hy (by decide)).mp e)
      simp only [it_, bX9_inLeastTerms_6]
      rw [if_neg hl]
      unfold rml_
      rw [if_neg hn, pk_lRem (by omega) (by omega) (by omega)]
      simp only [Option.bind_some]
      have hlt := Nat.mod_lt x (show y > 0 by omega)
      rw [ih (x % y) hlt y m (by omega) hy (by omega), Nat.gcd_comm x y, Nat.gcd_rec y x, Nat.gcd_comm (x % y) y]
theorem M_low {h : hp_H} {W D : Nat} (hW : W < 1000) (hD : 0 < D) (hD2 : D < 1000) {w : Nat} (hw : w ≤ 1) : fX9_inLeastTerms h (lN W) (lN D) (nI w) = some (lN ((if w = 0 then W else D) / Nat.gcd W D)) := by
  have hg0 : 0 < Nat.gcd W D := Nat.gcd_pos_of_pos_right W hD
  have hgD : Nat.gcd W D ≤ D := Nat.gcd_le_right W hD
  have hn : ¬ lN (Nat.gcd W D) = 0 := fun e => by
    have := (lN_eq (b := 0) (show Nat.gcd W D < 2 ^ 31 by omega) (by decide)).mp e
    omega
  unfold fX9_inLeastTerms
  rw [eu_it D W fu_ (fu_gt (by omega)) (by omega) (by omega)]
  simp only [Option.bind_some, dvl_, if_neg hn]
  by_cases c : w = 0
  · subst c
    rw [if_pos nI_0, pk_lDiv (by omega) hg0 (by omega)]
    rfl
  · rw [if_neg (nI_ne0 (by omega) (by omega)), if_neg c, pk_lDiv (by omega) hg0 (by omega)]
theorem C_low {h : hp_H} {W D : Nat} (hW : W < 1000) (hD : 0 < D) (hD2 : D < 1000) {k : Nat} (hk : k < 1000) : jX8_odds_96 h (nI W) (nI D) (nI k) = some (lN (k / Nat.gcd W D)) := by
  have hg0 : 0 < Nat.gcd W D := Nat.gcd_pos_of_pos_right W hD
  have hgD : Nat.gcd W D ≤ D := Nat.gcd_le_right W hD
  have st : ∀ i, i < D - Nat.gcd W D → bX8_odds_102 h (nI W) (nI D) (nI k) (nI (D - i)) = some (.inl (nI (D - (i + 1)))) := by
    intro i hi
    have hm1 : nI (D - i) + (-1) = nI (D - (i + 1)) := by rw [show D - i = D - (i + 1) + 1 by omega, pk_m1]
    unfold bX8_odds_102 jX8_odds_131_102 rm_
    rw [if_neg (show ¬ nI (D - i) ≤ 1 from nI_ge (a := 1) (by omega) (by omega)), if_neg (nI_ne0 (show 0 < D - i by omega) (by omega)), if_neg (nI_ne0 (show 0 < D - i by omega) (by omega)), pk_rem (by omega) (show 0 < D - i by omega) (by omega), pk_rem (by omega) (show 0 < D - i by omega) (by omega)]
    simp only [Option.bind_some, hm1]
    have m1 := Nat.mod_lt W (show D - i > 0 by omega)
    have m2 := Nat.mod_lt D (show D - i > 0 by omega)
    by_cases c1 : W % (D - i) = 0
    · by_cases c2 : D % (D - i) = 0
      · exfalso
        have := Nat.le_of_dvd hg0 (Nat.dvd_gcd (Nat.dvd_of_mod_eq_zero c1) (Nat.dvd_of_mod_eq_zero c2))
        omega
      · rw [c1, if_pos nI_0, if_neg (nI_ne0 (by omega) (by omega))]
    · rw [if_neg (nI_ne0 (by omega) (by omega))]
  have nx : D - (D - Nat.gcd W D) = Nat.gcd W D := by omega
  unfold jX8_odds_96
  by_cases c : Nat.gcd W D = 1
  · have e : it_ (bX8_odds_102 h (nI W) (nI D) (nI k)) fu_ (nI D) = some (.inr (Int32.toInt64 (nI k))) := by
      refine it_at (fun i => nI (D - i)) (D - Nat.gcd W D) rfl st ?_ fu_ (fu_gt (by omega))
      show bX8_odds_102 h (nI W) (nI D) (nI k) (nI (D - (D - Nat.gcd W D))) = _
      rw [nx, c]
      unfold bX8_odds_102
      rw [if_pos (show nI 1 ≤ 1 by decide)]
    rw [e, c, Nat.div_one, nI_l (by omega)]
    rfl
  · have e : it_ (bX8_odds_102 h (nI W) (nI D) (nI k)) fu_ (nI D) = some (.inl (nI (Nat.gcd W D))) := by
      refine it_at (fun i => nI (D - i)) (D - Nat.gcd W D) rfl st ?_ fu_ (fu_gt (by omega))
      show bX8_odds_102 h (nI W) (nI D) (nI k) (nI (D - (D - Nat.gcd W D))) = _
      rw [nx]
      unfold bX8_odds_102 rm_
      rw [if_neg (show ¬ nI (Nat.gcd W D) ≤ 1 from nI_ge (a := 1) (by omega) (by omega)), if_neg (nI_ne0 hg0 (by omega)), if_neg (nI_ne0 hg0 (by omega)), pk_rem (by omega) hg0 (by omega), pk_rem (by omega) hg0 (by omega)]
      simp only [Option.bind_some]
      rw [Nat.mod_eq_zero_of_dvd (Nat.gcd_dvd_left W D), Nat.mod_eq_zero_of_dvd (Nat.gcd_dvd_right W D), if_pos nI_0, if_pos nI_0]
    rw [e]
    simp only [Option.bind_some, dv_, if_neg (nI_ne0 hg0 (show Nat.gcd W D < 2 ^ 31 by omega))]
    have hdv := Nat.div_le_self k (Nat.gcd W D)
    rw [pk_div (by omega) hg0 (by omega), nI_l (by omega)]
theorem op_odds : Op_odds := by
  intro z f p q w iv
  obtain ⟨n, K, S, T, G, r, A, B, W, U, hP, hG, hX, hS, hR⟩ := iv
  have hn := hP.2.1
  unfold fX8_odds fX9_odds
  simp only [q_0_0, ob_1, ob_40, C_two hP.2.2.1, M_two hP.2.2.2.1, M_within, Option.bind_some]
  cases h2 : t2_ n p q
  · exact ⟨-9223372036854775808, by simp only [b_f, if_true], by simp only [b_f, if_true]⟩
  · simp only [b_t, n10_, if_false]
    by_cases c0 : w < 0
    · exact ⟨-9223372036854775808, by simp only [c0, if_true], by simp [c0, bi_]⟩
    by_cases c1 : w ≤ 1
    · obtain ⟨j, hj, rfl⟩ := nI_of2 (M := 1) (n := 1) (by decide) c0 c1
      obtain ⟨a, b, ha, hb, hab, rfl, rfl⟩ := t2_at hn h2
      have h6 := P_six hP ha
      have h6b := P_six hP hb
      have ba := bF_le hP ha
      have bb := bF_le hP hb
      have wa := wF_le (K := K) (S := S) (T := T) a
      have wb := wF_le (K := K) (S := S) (T := T) b
      have hW := wy_le (wF_ K S T a) (bF_ K S b) (wF_ K S T b) (by omega) (bF_ K S a - wF_ K S T a + 1)
      have hD0 : 0 < (bF_ K S a - wF_ K S T a + 1) * (bF_ K S b - wF_ K S T b + 1) := Nat.mul_pos (by omega) (by omega)
      have hD1 : (bF_ K S a - wF_ K S T a + 1) * (bF_ K S b - wF_ K S T b + 1) ≤ 19 * 19 := Nat.mul_le_mul (by omega) (by omega)
      have nlt : ¬ (1 : Int32) < nI j := fun e => i_lt.mp e c1
      refine ⟨lN ((if j = 0 then wy_ (wF_ K S T a) (bF_ K S b) (wF_ K S T b) (bF_ K S a - wF_ K S T a + 1) else (bF_ K S a - wF_ K S T a + 1) * (bF_ K S b - wF_ K S T b + 1)) / Nat.gcd (wy_ (wF_ K S T a) (bF_ K S b) (wF_ K S T b) (bF_ K S a - wF_ K S T a + 1)) ((bF_ K S a - wF_ K S T a + 1) * (bF_ K S b - wF_ K S T b + 1))), ?_, ?_⟩
      · simp only [c0, c1, if_false, if_true, q_1_0, qp_ h6, qp_ h6b, obp_ h6, obp_ h6b, C_ways hP ha hb, P_cb hP ha, P_cb hP hb, P_cw hP ha, P_cw hP hb, Option.bind_some, pk_sub wa, pk_sub wb, nI_1, pk_mul]
        by_cases cj : j = 0
        · subst cj
          rw [if_pos nI_0, C_low (by omega) hD0 (by omega) (by omega), if_pos rfl]
        · rw [if_neg (nI_ne0 (by omega) (by omega)), C_low (by omega) hD0 (by omega) (by omega), if_neg cj]
      · rw [show (!(decide (nI j < 0)) && !(decide ((1 : Int32) < nI j))) = true by simp [c0, nlt]]
        simp only [b_t, n10_, if_false, P_mw hP ha, Option.bind_some, od_out hP ha hb]
        rw [nI_l (by omega), nI_l (by omega), M_low (by omega) hD0 (by omega) hj]
        rfl
    · have c2 : (1 : Int32) < w := i_lt.mpr c1
      exact ⟨-9223372036854775808, by simp only [c0, c1, if_false], by simp [c0, c2, bi_]⟩
