theorem go_a {r : Nat} {x : Int32} (hr : r < 6) : go_ (1 + 4 * r) x = decide (x = 59) := by
  unfold go_
  rw [if_neg (by omega), if_neg (by omega), if_pos (by omega)]
theorem go_b {r : Nat} {x : Int32} (hr : r < 6) : go_ (2 + 4 * r) x = !(decide (kc_ x = -9)) := by
  unfold go_
  rw [if_neg (by omega), if_neg (by omega), if_neg (by omega), if_pos (by omega)]
theorem go_c {r : Nat} {x : Int32} (hr : r < 6) : go_ (3 + 4 * r) x = ip_ 10 (x - 48) := by
  unfold go_
  rw [if_neg (by omega), if_neg (by omega), if_neg (by omega), if_neg (by omega)]
theorem go_d {r : Nat} {x : Int32} (hr : r < 6) : go_ (4 + 4 * r) x = ip_ 10 (x - 48) := by
  unfold go_
  rw [if_neg (by omega), if_neg (by omega), if_neg (by omega), if_neg (by omega)]
theorem dg_m9 {x : Int32} (h : ip_ 10 x = true) : ¬ x = -9 := by
  obtain ⟨s, hs, rfl⟩ := dig_at h
  exact nI_m9 (by omega)
section PRT
variable {z : Nat → Int32} {f : Nat → Nat → Int32} {c a n r : Nat} {g : Nat → Int32} {kc : Int32}
theorem dgt1' (hc : c + n ≤ 240) (h : z 1291 = nI (c + a)) (hj : a < n) (hd : ip_ 10 (f 43 (c + a) - 48) = true) : fX9_digit (HH z (up2 f 47 g)) 40 (nI (c + n)) = some (f 43 (c + a) - 48, HH (upd z 1291 (nI (c + a + 1))) (up2 f 47 g)) := by
  have e : (up2 f 47 g) 43 = f 43 := up2_ne (by decide)
  have h1 := dgt1 (f := up2 f 47 g) hc h hj (by rw [e]; exact hd)
  rw [e] at h1
  exact h1
theorem dgt0' (hc : c + n ≤ 240) (h : z 1291 = nI (c + a)) (hj : n ≤ a ∨ ip_ 10 (f 43 (c + a) - 48) = false) (hjn : a ≤ n) : fX9_digit (HH z (up2 f 47 g)) 40 (nI (c + n)) = some (-9, HH z (up2 f 47 g)) := by
  have e : (up2 f 47 g) 43 = f 43 := up2_ne (by decide)
  exact dgt0 (f := up2 f 47 g) hc h (by rw [e]; exact hj) hjn
theorem nI_2 (x : Nat) : nI x + 2 = nI (x + 2) := nI_add x 2
theorem rp_k0 (hr : r < 6) : jX9_readPerson_66 (HH z f) 40 (nI (c + n)) (nI (3 * r)) (-9) (nI (3 * r)) 47 = some (0, HH z (up2 f 47 (upd (f 47) (3 * r) (-9)))) := by
  unfold jX9_readPerson_66
  simp only [ax47 (show 3 * r < 18 by omega), q_40_13, al47 (show 3 * r < 18 by omega), up2_eq, upd_eq, if_true, Option.bind_some]
theorem rp_k1 (hr : r < 6) (hk : ¬ kc = -9) (hc : c + n ≤ 240) (h : z 1291 = nI (c + a)) (hj : n ≤ a + 1 ∨ ip_ 10 (f 43 (c + (a + 1)) - 48) = false) (hjn : a + 1 ≤ n) : jX9_readPerson_66 (HH z f) 40 (nI (c + n)) (nI (3 * r)) kc (nI (3 * r)) 47 = some (0, HH (upd z 1291 (nI (c + (a + 1)))) (up2 f 47 (upd (upd (f 47) (3 * r) kc) (3 * r + 1) (-9)))) := by
  have hd := dgt0' (z := upd z 1291 (nI (c + (a + 1)))) (f := f) (g := upd (f 47) (3 * r) kc) (a := a + 1) hc upd_eq hj hjn
  unfold jX9_readPerson_66
  simp only [ob_40, ax47 (show 3 * r < 18 by omega), ax47 (show 3 * r + 1 < 18 by omega), q_40_13, al47 (show 3 * r < 18 by omega), al47 (show 3 * r + 1 < 18 by omega), up2_eq, up2_up2, upd_eq, hk, if_false, g_40_11, p_40_11, h, nI_1, Nat.add_assoc, hd, if_true, Option.bind_some]
theorem rp_k2 (hr : r < 6) (hk : ¬ kc = -9) (hc : c + n ≤ 240) (h : z 1291 = nI (c + a)) (h2 : z 1292 = nI r) (hj1 : a + 1 < n) (hd1 : ip_ 10 (f 43 (c + (a + 1)) - 48) = true) (hj : n ≤ a + 2 ∨ ip_ 10 (f 43 (c + (a + 2)) - 48) = false) : jX9_readPerson_66 (HH z f) 40 (nI (c + n)) (nI (3 * r)) kc (nI (3 * r)) 47 = some (0, HH (upd (upd (upd z 1291 (nI (c + (a + 1)))) 1291 (nI (c + (a + 2)))) 1292 (nI (r + 1))) (up2 f 47 (upd (upd (upd (f 47) (3 * r) kc) (3 * r + 1) (f 43 (c + (a + 1)) - 48)) (3 * r + 2) (-9)))) := by
  have hd := dgt1' (z := upd z 1291 (nI (c + (a + 1)))) (f := f) (g := upd (f 47) (3 * r) kc) (a := a + 1) hc upd_eq hj1 hd1
  rw [show c + (a + 1) + 1 = c + (a + 2) by omega] at hd
  have he := dgt0' (z := upd (upd z 1291 (nI (c + (a + 1)))) 1291 (nI (c + (a + 2)))) (f := f) (g := upd (upd (f 47) (3 * r) kc) (3 * r + 1) (f 43 (c + (a + 1)) - 48)) (a := a + 2) hc upd_eq hj (by omega)
  have h9 := dg_m9 hd1
  have e1292 : (upd (upd z 1291 (nI (c + (a + 1)))) 1291 (nI (c + (a + 2)))) 1292 = nI r := by rw [upd_ne (by decide), upd_ne (by decide)]; exact h2
  unfold jX9_readPerson_66
  simp only [ob_40, ax47 (show 3 * r < 18 by omega), ax47 (show 3 * r + 1 < 18 by omega), ax47 (show 3 * r + 2 < 18 by omega), q_40_13, al47 (show 3 * r < 18 by omega), al47 (show 3 * r + 1 < 18 by omega), al47 (show 3 * r + 2 < 18 by omega), up2_eq, up2_up2, upd_eq, hk, if_false, g_40_11, p_40_11, h, nI_1, nI_2, show c + a + 1 = c + (a + 1) from rfl, hd, h9, he, g_40_12, p_40_12, e1292, if_true, Option.bind_some]
theorem rp_k3 (hr : r < 6) (hk : ¬ kc = -9) (hc : c + n ≤ 240) (h : z 1291 = nI (c + a)) (h2 : z 1292 = nI r) (hj1 : a + 2 < n) (hd1 : ip_ 10 (f 43 (c + (a + 1)) - 48) = true) (hd2 : ip_ 10 (f 43 (c + (a + 2)) - 48) = true) : jX9_readPerson_66 (HH z f) 40 (nI (c + n)) (nI (3 * r)) kc (nI (3 * r)) 47 = some (1, HH (upd (upd (upd (upd z 1291 (nI (c + (a + 1)))) 1291 (nI (c + (a + 2)))) 1291 (nI (c + (a + 3)))) 1292 (nI (r + 1))) (up2 f 47 (upd (upd (upd (f 47) (3 * r) kc) (3 * r + 1) (f 43 (c + (a + 1)) - 48)) (3 * r + 2) (f 43 (c + (a + 2)) - 48)))) := by
  have hd := dgt1' (z := upd z 1291 (nI (c + (a + 1)))) (f := f) (g := upd (f 47) (3 * r) kc) (a := a + 1) hc upd_eq (by omega) hd1
  rw [show c + (a + 1) + 1 = c + (a + 2) by omega] at hd
  have he := dgt1' (z := upd (upd z 1291 (nI (c + (a + 1)))) 1291 (nI (c + (a + 2)))) (f := f) (g := upd (upd (f 47) (3 * r) kc) (3 * r + 1) (f 43 (c + (a + 1)) - 48)) (a := a + 2) hc upd_eq hj1 hd2
  rw [show c + (a + 2) + 1 = c + (a + 3) by omega] at he
  have h9 := dg_m9 hd1
  have h8 := dg_m9 hd2
  have e1292 : (upd (upd (upd z 1291 (nI (c + (a + 1)))) 1291 (nI (c + (a + 2)))) 1291 (nI (c + (a + 3)))) 1292 = nI r := by rw [upd_ne (by decide), upd_ne (by decide), upd_ne (by decide)]; exact h2
  unfold jX9_readPerson_66
  simp only [ob_40, ax47 (show 3 * r < 18 by omega), ax47 (show 3 * r + 1 < 18 by omega), ax47 (show 3 * r + 2 < 18 by omega), q_40_13, al47 (show 3 * r < 18 by omega), al47 (show 3 * r + 1 < 18 by omega), al47 (show 3 * r + 2 < 18 by omega), up2_eq, up2_up2, upd_eq, hk, if_false, g_40_11, p_40_11, h, nI_1, nI_2, show c + a + 1 = c + (a + 1) from rfl, hd, h9, h8, he, g_40_12, p_40_12, e1292, Option.bind_some]
end PRT
def RD_ (f : Nat → Nat → Int32) (c r : Nat) : Prop := ∀ p, p < r → f 47 (3 * p) = kc_ (f 43 (c + (2 + 4 * p))) ∧ f 47 (3 * p + 1) = f 43 (c + (3 + 4 * p)) - 48 ∧ f 47 (3 * p + 2) = f 43 (c + (4 + 4 * p)) - 48
theorem rd_step {z : Nat → Int32} {f : Nat → Nat → Int32} {c n J r : Nat} (hc : c + n ≤ 240) (hJ1 : J ≤ n) (hJ2 : ∀ t, t < J → go_ t (f 43 (c + t)) = true) (hJ3 : J < n → go_ J (f 43 (c + J)) = false) (hr : r < 6) (hrJ : 1 + 4 * r ≤ J) (h1 : z 1291 = nI (c + (1 + 4 * r))) (h2 : z 1292 = nI r) (hd : RD_ f c r) : (5 + 4 * r ≤ J ∧ ∃ z' f', jX9_readHarbour_42_17 (HH z f) 40 (nI (c + n)) = some (.inl (HH z' f')) ∧ FN_ z f z' f' ∧ z' 1291 = nI (c + (1 + 4 * (r + 1))) ∧ z' 1292 = nI (r + 1) ∧ RD_ f' c (r + 1)) ∨ (J < 5 + 4 * r ∧ ∃ z' f', jX9_readHarbour_42_17 (HH z f) 40 (nI (c + n)) = some (.inr (.inr (0, HH z' f'))) ∧ FN_ z f z' f' ∧ z' 1291 = nI (c + J)) := by
  by_cases c1 : J = 1 + 4 * r
  · subst c1
    refine Or.inr ⟨by omega, z, f, ?_, FN_r, h1⟩
    have hs := sgn0 (f := f) (code := 59) hc h1 (by
      by_cases d : n ≤ 1 + 4 * r
      · exact Or.inl d
      · have := hJ3 (by omega)
        rw [go_a hr] at this
        exact Or.inr (of_decide_eq_false this)) hJ1
    unfold jX9_readHarbour_42_17
    simp only [ob_40, hs, if_true, Option.bind_some]
  have g1 := hJ2 (1 + 4 * r) (by omega)
  rw [go_a hr] at g1
  have hs := sgn1 (f := f) hc h1 (by omega)
  rw [of_decide_eq_true g1, show c + (1 + 4 * r) + 1 = c + (2 + 4 * r) by omega] at hs
  have w1 : (upd z 1291 (nI (c + (2 + 4 * r)))) 1291 = nI (c + (2 + 4 * r)) := upd_eq
  have w2 : (upd z 1291 (nI (c + (2 + 4 * r)))) 1292 = nI r := by rw [upd_ne (by decide)]; exact h2
  have hrp := rp0 (f := f) hc w1 w2 (by omega)
  unfold jX9_readHarbour_42_17
  simp only [ob_40, hs, n10_, if_false, Option.bind_some]
  rw [hrp]
  by_cases c2 : J = 2 + 4 * r
  · have hk : kc_ (if 2 + 4 * r < n then f 43 (c + (2 + 4 * r)) else 0) = -9 := by
      by_cases d : 2 + 4 * r < n
      · have := hJ3 (by omega)
        rw [c2, go_b hr] at this
        rw [if_pos d]
        simpa using this
      · rw [if_neg d]; decide
    rw [hk, rp_k0 hr]
    simp only [if_true, Option.bind_some]
    exact Or.inr ⟨by omega, _, _, rfl, FN_f (by omega) (FN_z (by omega) FN_r), by rw [c2]; exact w1⟩
  have g2 := hJ2 (2 + 4 * r) (by omega)
  rw [go_b hr] at g2
  have hk : ¬ kc_ (f 43 (c + (2 + 4 * r))) = -9 := by simpa using g2
  rw [if_pos (show 2 + 4 * r < n by omega)]
  by_cases c3 : J = 3 + 4 * r
  · rw [rp_k1 (a := 2 + 4 * r) hr hk hc w1 (by
      by_cases d : n ≤ 2 + 4 * r + 1
      · exact Or.inl d
      · have := hJ3 (by omega)
        rw [c3, go_c hr] at this
        rw [show 2 + 4 * r + 1 = 3 + 4 * r by omega]
        exact Or.inr this) (by omega)]
    simp only [if_true, Option.bind_some]
    exact Or.inr ⟨by omega, _, _, rfl, FN_f (by omega) (FN_z (by omega) (FN_z (by omega) FN_r)), by rw [c3, upd_eq, show 2 + 4 * r + 1 = 3 + 4 * r by omega]⟩
  have g3 := hJ2 (3 + 4 * r) (by omega)
  rw [go_c hr, show 3 + 4 * r = 2 + 4 * r + 1 by omega] at g3
  by_cases c4 : J = 4 + 4 * r
  · rw [rp_k2 (a := 2 + 4 * r) hr hk hc w1 w2 (by omega) g3 (by
      by_cases d : n ≤ 2 + 4 * r + 2
      · exact Or.inl d
      · have := hJ3 (by omega)
        rw [c4, go_d hr] at this
        rw [show 2 + 4 * r + 2 = 4 + 4 * r by omega]
        exact Or.inr this)]
    simp only [if_true, Option.bind_some]
    exact Or.inr ⟨by omega, _, _, rfl, FN_f (by omega) (FN_z (by omega) (FN_z (by omega) (FN_z (by omega) (FN_z (by omega) FN_r)))), by rw [c4, upd_ne (by decide), upd_eq, show 2 + 4 * r + 2 = 4 + 4 * r by omega]⟩
  have g4 := hJ2 (4 + 4 * r) (by omega)
  rw [go_d hr, show 4 + 4 * r = 2 + 4 * r + 2 by omega] at g4
  rw [rp_k3 (a := 2 + 4 * r) hr hk hc w1 w2 (by omega) g3 g4]
  simp only [n10_, if_false, Option.bind_some]
  refine Or.inl ⟨by omega, _, _, rfl, FN_f (by omega) (FN_z (by omega) (FN_z (by omega) (FN_z (by omega) (FN_z (by omega) (FN_z (by omega) FN_r))))), by rw [upd_ne (by decide), upd_eq, show 2 + 4 * r + 3 = 1 + 4 * (r + 1) by omega], upd_eq, fun p hp => ?_⟩
  rw [up2_eq, up2_ne (show (43 : Nat) ≠ 47 by decide)]
  by_cases hpr : p = r
  · subst hpr
    refine ⟨?_, ?_, ?_⟩
    · rw [upd_ne (by omega), upd_ne (by omega), upd_eq]
    · rw [upd_ne (by omega), upd_eq, show 2 + 4 * p + 1 = 3 + 4 * p by omega]
    · rw [upd_eq, show 2 + 4 * p + 2 = 4 + 4 * p by omega]
  · obtain ⟨d0, d1, d2⟩ := hd p (by omega)
    refine ⟨?_, ?_, ?_⟩
    · rw [upd_ne (by omega), upd_ne (by omega), upd_ne (by omega)]; exact d0
    · rw [upd_ne (by omega), upd_ne (by omega), upd_ne (by omega)]; exact d1
    · rw [upd_ne (by omega), upd_ne (by omega), upd_ne (by omega)]; exact d2
