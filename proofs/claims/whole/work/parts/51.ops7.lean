theorem up2_up2 {f : Nat → Nat → Int32} {i : Nat} {g h : Nat → Int32} : up2 (up2 f i g) i h = up2 f i h := by
  funext j
  by_cases e : j = i <;> simp [up2, e]
theorem up2_self {f : Nat → Nat → Int32} {i : Nat} {g : Nat → Int32} (h : ∀ q, g q = f i q) : up2 f i g = f := by
  funext j
  by_cases e : j = i
  · subst e
    rw [up2_eq]
    funext q
    exact h q
  · rw [up2_ne e]
theorem fill_gen {z : Nat → Int32} {f : Nat → Nat → Int32} {i n : Nat} {v : Int32} (h : SP_[i]? = some (.inr (.inl n))) (hn : n < 4999) : fJ7_fill_53178 (HH z f) i v = some (HH z (up2 f i (fun j => if j < n then v else f i j))) := by
  unfold fJ7_fill_53178
  rw [HH_ln h, Option.bind_some]
  have e : it_ (bJ7_fill_53178_5 i v (nI n)) fu_ (0, HH z f) = some (HH z (up2 f i (fun j => if j < n then v else f i j))) := by
    refine it_at (fun j => (nI j, HH z (up2 f i (fun q => if q < j then v else f i q)))) n ?_ (fun j hj => ?_) ?_ fu_ (fu_gt (by omega))
    · (try dsimp only)
      rw [up2_self (fun q => by simp), nI_0]
    · unfold bJ7_fill_53178_5
      dsimp only
      rw [if_neg (nI_ge hj (by omega)), HH_ax h hj (by omega), Option.bind_some, Option.bind_some, nI_1, up2_eq, up2_up2]
      have e2 : upd (fun q => if q < j then v else f i q) j v = fun q => if q < j + 1 then v else f i q := by
        funext q
        by_cases c : q = j
        · subst c; simp [upd]
        · simp only [upd, if_neg c]
          by_cases c2 : q < j
          · rw [if_pos c2, if_pos (by omega)]
          · rw [if_neg c2, if_neg (by omega)]
      rw [e2]
    · unfold bJ7_fill_53178_5
      dsimp only
      rw [if_pos (nI_le (Nat.le_refl n) (by omega))]
  show (it_ (bJ7_fill_53178_5 i v (nI n)) fu_ (0, HH z f)).bind _ = _
  rw [e, Option.bind_some]
theorem ix60 (k i : Nat) : 60 * nI k + nI i = nI (60 * k + i) := by
  show nI 60 * nI k + nI i = _
  rw [pk_mul, nI_add]
theorem M_fill {z : Nat → Int32} {f : Nat → Nat → Int32} {k : Nat} (hk : k < 4) : it_ (bX9_sheet_57 40 (nI k)) fu_ (0, HH z f) = some (HH z (up2 f 43 (fun q => if 60 * k ≤ q ∧ q < 60 * k + 60 then 0 else f 43 q))) := by
  refine it_at (fun j => (nI j, HH z (up2 f 43 (fun q => if 60 * k ≤ q ∧ q < 60 * k + j then 0 else f 43 q)))) 60 ?_ (fun j hj => ?_) ?_ fu_ (fu_gt (by omega))
  · (try dsimp only)
    rw [up2_self (fun q => by rw [if_neg (by omega)]), nI_0]
  · unfold bX9_sheet_57
    dsimp only
    rw [if_neg (show ¬ (60 : Int32) ≤ nI j from nI_ge (b := 60) hj (by decide)), q_40_4, Option.bind_some, ix60, ax43 (by omega), Option.bind_some, Option.bind_some, nI_1, up2_eq, up2_up2]
    have e2 : upd (fun q => if 60 * k ≤ q ∧ q < 60 * k + j then 0 else f 43 q) (60 * k + j) 0 = fun q => if 60 * k ≤ q ∧ q < 60 * k + (j + 1) then 0 else f 43 q := by
      funext q
      by_cases c : q = 60 * k + j
      · subst c; simp [upd]
      · simp only [upd, if_neg c]
        by_cases c2 : 60 * k ≤ q ∧ q < 60 * k + j
        · rw [if_pos c2, if_pos (by omega)]
        · rw [if_neg c2, if_neg (by omega)]
    rw [e2]
  · unfold bX9_sheet_57
    dsimp only
    rw [if_pos (show (60 : Int32) ≤ nI 60 by decide)]
theorem Inv_fl0 {z : Nat → Int32} {f : Nat → Nat → Int32} (h : Inv z f) : Inv (upd (upd z 8 0) 1280 0) f := Inv_fl h
theorem i_nle {x y : Int32} : (¬ x ≤ y) ↔ y < x := by rw [Int32.lt_iff_toInt_lt, Int32.le_iff_toInt_le]; omega
theorem op_sheet : Op_sheet := by
  intro z f p l x iv
  have iv0 := iv
  obtain ⟨n, K, S, T, G, r, A, B, W, U, hP, hG, hX, hS, hR⟩ := iv
  have hn := hP.2.1
  unfold fX8_sheet
  simp only [p_0_8, C_shs, C_lan, ob_0, Option.bind_some]
  cases h2 : ip_ 4 p
  · refine ⟨-1, upd z 8 0, f, upd (upd z 8 0) 1280 0, f, by simp only [b_f, if_true], ?_, Inv_fl iv0⟩
    unfold fX9_sheet
    simp only [p_40_0, M_shs, Option.bind_some, h2, b_f, if_true]
  cases h3 : ip_ 3 l
  · refine ⟨-2, upd z 8 0, f, upd (upd z 8 0) 1280 0, f, by simp only [b_t, n10_, if_false, b_f, if_true], ?_, Inv_fl iv0⟩
    unfold fX9_sheet
    simp only [p_40_0, M_shs, M_lan, Option.bind_some, h2, h3, b_f, b_t, n10_, if_false, if_true]
  simp only [b_t, n10_, if_false]
  by_cases c1 : x ≤ 60
  · by_cases c2 : 0 ≤ x
    · obtain ⟨k, hk, rfl⟩ := ip_at (by decide) h2
      obtain ⟨a, ha, rfl⟩ := ip_at (by decide) h3
      obtain ⟨b, hb, rfl⟩ := nI_of2 (M := 60) (n := 60) (by decide) (fun q => i_lt.mp q c2) c1
      refine ⟨1, upd (upd (upd (upd z 8 0) (32 * (32 + 2 * k) + 1) 1) (32 * (32 + 2 * k) + 2) (nI a)) (32 * (32 + 2 * k) + 3) (nI b), up2 f (33 + 2 * k) (fun j => if j < 60 then 0 else f (33 + 2 * k) j), upd (upd (upd (upd (upd z 8 0) (32 * (32 + 2 * k) + 1) 1) (32 * (32 + 2 * k) + 2) (nI a)) (32 * (32 + 2 * k) + 3) (nI b)) 1280 0, up2 (up2 (up2 (up2 f (33 + 2 * k) (fun j => if j < 60 then 0 else f (33 + 2 * k) j)) 41 (upd (f 41) k (nI a))) 42 (upd (f 42) k (nI b))) 43 (fun q => if 60 * k ≤ q ∧ q < 60 * k + 60 then 0 else f 43 q), ?_, ?_, ?_⟩
      · simp only [c1, c2, if_true, q_0_1, qs_ hk, obs_ hk, fX5_renew, qc_ hk, fill_gen (SP_c hk) (show 60 < 4999 by decide), pzs_ hk _ _ 1 (Or.inr rfl), ps_ hk (show 0 < 2 ∧ 2 < 4 by decide), ps_ hk (show 0 < 3 ∧ 3 < 4 by decide), Option.bind_some]
      · unfold fX9_sheet
        simp only [p_40_0, M_shs, M_lan, Option.bind_some, h2, h3, b_t, n10_, if_false, c1, c2, if_true, q_40_2, q_40_3, ax41 hk, ax42 hk, M_fill hk, up2_ne (show (41 : Nat) ≠ 33 + 2 * k by omega), up2_ne (show (42 : Nat) ≠ 33 + 2 * k by omega), up2_ne (show (43 : Nat) ≠ 33 + 2 * k by omega), up2_ne (show (42 : Nat) ≠ 41 by decide), up2_ne (show (43 : Nat) ≠ 41 by decide), up2_ne (show (43 : Nat) ≠ 42 by decide)]
      · rw [upd_cm (k := 32 * (32 + 2 * k) + 3) (j := 1280) (by omega), upd_cm (k := 32 * (32 + 2 * k) + 2) (j := 1280) (by omega), upd_cm (k := 32 * (32 + 2 * k) + 1) (j := 1280) (by omega)]
        refine ⟨n, K, S, T, G, r, A, B, W, U, ?_, ?_, ?_, fun q hq => ?_, ?_⟩
        · exact IvP_z (by omega) (IvP_z (by omega) (IvP_z (by omega) (IvP_z (by decide) (IvP_z (by decide) (IvP_f (by decide) (IvP_f (by decide) (IvP_f (by decide) (IvP_f (by omega) hP))))))))
        · exact IvG_z hn (by omega) (IvG_z hn (by omega) (IvG_z hn (by omega) (IvG_z hn (by decide) (IvG_z hn (by decide) hG))))
        · exact IvX_z (by omega) (IvX_z (by omega) (IvX_z (by omega) (X_fl hX)))
        · obtain ⟨s1, s2⟩ := hS q hq
          rw [up2_eq, up2_ne (show 33 + 2 * q ≠ 43 by omega), up2_ne (show 33 + 2 * q ≠ 42 by omega), up2_ne (show 33 + 2 * q ≠ 41 by omega), up2_ne (show (41 : Nat) ≠ 43 by decide), up2_ne (show (41 : Nat) ≠ 42 by decide), up2_eq, up2_ne (show (42 : Nat) ≠ 43 by decide), up2_eq]
          by_cases hqk : q = k
          · subst hqk
            refine ⟨Or.inr ⟨?_, a, b, ha, hb, ?_, upd_eq, upd_eq, upd_eq⟩, fun i hi => ?_⟩
            · rw [upd_ne (by omega), upd_ne (by omega), upd_eq]
            · rw [upd_ne (by omega), upd_eq]
            · rw [up2_eq, if_pos hi, if_pos (by omega)]
          · refine ⟨?_, fun i hi => ?_⟩
            · repeat rw [upd_ne (by omega)]
              exact s1
            · rw [up2_ne (by omega), if_neg (by omega)]
              exact s2 i hi
        · exact IvR_z (by omega) (IvR_z (by omega) (IvR_z (by omega) (IvR_z (by decide) (IvR_z (by decide) (IvR_f (by decide) (IvR_f (by decide) (IvR_f (by decide) (IvR_f (by omega) hR))))))))
    · refine ⟨-10 - 4, upd z 8 4, f, upd (upd z 8 4) 1280 4, f, ?_, ?_, Inv_fl iv0⟩
      · simp only [c1, c2, if_true, if_false, C_flt, upd_upd, Option.bind_some]
      · unfold fX9_sheet
        have e1 : ∀ v : Int32, upd (upd (upd z 8 4) 1280 v) 1280 4 = upd (upd z 8 4) 1280 4 := fun v => upd_upd
        simp only [p_40_0, M_shs, M_lan, ob_40, Option.bind_some, h2, h3, b_t, n10_, if_false, c1, c2, if_true, M_flt, e1]
  · refine ⟨-2, upd z 8 0, f, upd (upd z 8 0) 1280 0, f, by simp only [c1, if_false], ?_, Inv_fl iv0⟩
    unfold fX9_sheet
    simp only [p_40_0, M_shs, M_lan, Option.bind_some, h2, h3, b_t, n10_, if_false, c1]
