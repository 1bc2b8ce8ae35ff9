theorem rd_loop {c n J : Nat} (hc : c + n ≤ 240) (hJ1 : J ≤ n) : ∀ (d r : Nat) (z : Nat → Int32) (f : Nat → Nat → Int32) (fuel : Nat), r + d = 6 → d < fuel → (∀ t, t < J → go_ t (f 43 (c + t)) = true) → (J < n → go_ J (f 43 (c + J)) = false) → 1 + 4 * r ≤ J → z 1291 = nI (c + (1 + 4 * r)) → z 1292 = nI r → RD_ f c r → ∃ x z' f', it_ (bX9_readHarbour_17 40 (nI (c + n))) fuel (HH z f) = some x ∧ FN_ z f z' f' ∧ ((x = .inl (HH z' f') ∧ ∃ r2, 2 ≤ r2 ∧ r2 ≤ 6 ∧ 1 + 4 * r2 ≤ J ∧ (r2 = 6 ∨ n ≤ 1 + 4 * r2) ∧ z' 1291 = nI (c + (1 + 4 * r2)) ∧ z' 1292 = nI r2 ∧ RD_ f' c r2) ∨ (x = .inr (0, HH z' f') ∧ z' 1291 = nI (c + J) ∧ ∃ r2, 1 + 4 * r2 ≤ J ∧ J < 5 + 4 * r2 ∧ (r2 < 2 ∨ 1 + 4 * r2 < n))) := by
  intro d
  induction d with
  | zero =>
    intro r z f fuel hr hf h2 h3 h4 h5 h6 h7
    obtain ⟨fuel, rfl⟩ : ∃ y, fuel = y + 1 := ⟨fuel - 1, by omega⟩
    have hr6 : r = 6 := by omega
    subst hr6
    refine ⟨.inl (HH z f), z, f, it_e ?_, FN_r, Or.inl ⟨rfl, 6, by omega, by omega, h4, Or.inl rfl, h5, h6, h7⟩⟩
    unfold bX9_readHarbour_17
    simp only [g_40_12, h6, Option.bind_some]
    rw [if_neg (show ¬ nI 6 < 2 by decide), if_pos (show (6 : Int32) ≤ nI 6 by decide)]
  | succ d ih =>
    intro r z f fuel hr hf h2 h3 h4 h5 h6 h7
    obtain ⟨fuel, rfl⟩ : ∃ y, fuel = y + 1 := ⟨fuel - 1, by omega⟩
    by_cases hgo : r < 2 ∨ 1 + 4 * r < n
    · have hb : bX9_readHarbour_17 40 (nI (c + n)) (HH z f) = jX9_readHarbour_42_17 (HH z f) 40 (nI (c + n)) := by
        unfold bX9_readHarbour_17
        simp only [g_40_12, h6, g_40_11, h5, Option.bind_some]
        by_cases c1 : r < 2
        · rw [if_pos (show nI r < 2 from nI_lt (b := 2) c1 (by decide))]
        · rw [if_neg (show ¬ nI r < 2 from nI_nlt (b := 2) (by omega) (by omega)), if_neg (show ¬ (6 : Int32) ≤ nI r from nI_ge (b := 6) (by omega) (by decide)), if_neg (nI_ge (by omega) (by omega))]
      rcases rd_step hc hJ1 h2 h3 (by omega) h4 h5 h6 h7 with ⟨k1, z1, f1, e1, e2, e3, e4, e5⟩ | ⟨k1, z1, f1, e1, e2, e3⟩
      · rw [e1] at hb
        have f43 : f1 43 = f 43 := e2.2 43 (by omega)
        obtain ⟨x, z2, f2, u1, u2, u3⟩ := ih (r + 1) z1 f1 fuel (by omega) (by omega) (by rw [f43]; exact h2) (by rw [f43]; exact h3) (by omega) e3 e4 e5
        exact ⟨x, z2, f2, by rw [it_s hb]; exact u1, FN_t e2 u2, u3⟩
      · rw [e1] at hb
        exact ⟨.inr (0, HH z1 f1), z1, f1, it_e hb, e2, Or.inr ⟨rfl, e3, r, h4, k1, hgo⟩⟩
    · refine ⟨.inl (HH z f), z, f, it_e ?_, FN_r, Or.inl ⟨rfl, r, by omega, by omega, h4, Or.inr (by omega), h5, h6, h7⟩⟩
      unfold bX9_readHarbour_17
      simp only [g_40_12, h6, g_40_11, h5, Option.bind_some]
      rw [if_neg (show ¬ nI r < 2 from nI_nlt (b := 2) (by omega) (by omega)), if_neg (show ¬ (6 : Int32) ≤ nI r from nI_ge (b := 6) (by omega) (by decide)), if_pos (nI_le (by omega) (by omega))]
theorem M_rh {z : Nat → Int32} {f : Nat → Nat → Int32} {c n J : Nat} (hc : c + n ≤ 240) (hJ1 : J ≤ n) (hJ2 : ∀ t, t < J → go_ t (f 43 (c + t)) = true) (hJ3 : J < n → go_ J (f 43 (c + J)) = false) (h1 : z 1291 = nI c) : ∃ z' f', fX9_readHarbour (HH z f) 40 (nI (c + n)) = some (bi_ (decide (J = n ∧ 9 ≤ n ∧ (n - 1) % 4 = 0)), HH z' f') ∧ FN_ z f z' f' ∧ ((J = n ∧ 9 ≤ n ∧ (n - 1) % 4 = 0) → ∃ r2, 2 ≤ r2 ∧ r2 ≤ 6 ∧ n = 1 + 4 * r2 ∧ z' 1292 = nI r2 ∧ RD_ f' c r2) ∧ (¬ (J = n ∧ 9 ≤ n ∧ (n - 1) % 4 = 0) → z' 1291 = nI (c + J)) := by
  have hJ25 : J ≤ 25 := Classical.byContradiction fun w => by
    have := hJ2 25 (by omega)
    simp [go_] at this
  have w1 : (upd z 1292 0) 1291 = nI (c + 0) := by rw [upd_ne (by decide)]; exact h1
  unfold fX9_readHarbour
  simp only [p_40_12, ob_40, Option.bind_some]
  by_cases c0 : J = 0
  · subst c0
    have hs := sgn0 (f := f) (code := 118) hc w1 (by
      by_cases d : n ≤ 0
      · exact Or.inl d
      · have := hJ3 (by omega)
        unfold go_ at this
        rw [if_pos rfl] at this
        exact Or.inr (of_decide_eq_false this)) (by omega)
    have hno : ¬ (0 = n ∧ 9 ≤ n ∧ (n - 1) % 4 = 0) := by omega
    refine ⟨upd z 1292 0, f, ?_, FN_z (by omega) FN_r, fun w => absurd w hno, fun _ => w1⟩
    rw [hs, decide_eq_false hno]
    simp only [b_f, if_true, Option.bind_some]
  · have g0 := hJ2 0 (by omega)
    unfold go_ at g0
    rw [if_pos rfl] at g0
    have hs := sgn1 (f := f) hc w1 (by omega)
    rw [of_decide_eq_true g0] at hs
    rw [hs]
    simp only [n10_, if_false, Option.bind_some]
    obtain ⟨x, z2, f2, u1, u2, u3⟩ := rd_loop hc hJ1 6 0 (upd (upd z 1292 0) 1291 (nI (c + 0 + 1))) f fu_ (by omega) (fu_gt (by omega)) hJ2 hJ3 (by omega) (by rw [upd_eq]) (by rw [upd_ne (by decide), upd_eq, nI_0]) (fun p hp => by omega)
    rw [u1, Option.bind_some]
    have hF : FN_ z f z2 f2 := FN_t (FN_z (by omega) (FN_z (by omega) FN_r)) u2
    rcases u3 with ⟨rfl, r2, a1, a2, a3, a4, a5, a6, a7⟩ | ⟨rfl, a1, r2, a2, a3, a4⟩
    · dsimp only
      simp only [g_40_11, a5, Option.bind_some]
      by_cases ce : 1 + 4 * r2 = n
      · have hyes : J = n ∧ 9 ≤ n ∧ (n - 1) % 4 = 0 := by omega
        refine ⟨z2, f2, ?_, hF, fun _ => ⟨r2, a1, a2, ce.symm, a6, a7⟩, fun w => absurd hyes w⟩
        rw [if_pos (by rw [ce]), decide_eq_true hyes, b_t]
      · have hno : ¬ (J = n ∧ 9 ≤ n ∧ (n - 1) % 4 = 0) := by omega
        refine ⟨z2, f2, ?_, hF, fun w => absurd w hno, fun _ => ?_⟩
        · rw [if_neg (fun w => by have := (nI_eq (by omega) (by omega)).mp w; omega), decide_eq_false hno, b_f]
        · rw [a5]
          have : J = 1 + 4 * r2 := by omega
          rw [this]
    · have hno : ¬ (J = n ∧ 9 ≤ n ∧ (n - 1) % 4 = 0) := by omega
      refine ⟨z2, f2, ?_, hF, fun w => absurd w hno, fun _ => a1⟩
      dsimp only
      rw [decide_eq_false hno, b_f]
/-! what is read is taken over -/
def TK_ (f : Nat → Nat → Int32) (r : Nat) (f2 : Nat → Nat → Int32) : Prop := (∀ x, x ≠ 44 → x ≠ 45 → x ≠ 46 → f2 x = f x) ∧ ∀ p, p < r → f2 44 p = f 47 (3 * p) ∧ f2 45 p = f 47 (3 * p + 1) ∧ f2 46 p = f 47 (3 * p + 2)
theorem M_tk1 {z : Nat → Int32} {f f1 : Nat → Nat → Int32} {n j : Nat} (hn : n ≤ 6) (h85 : z 1285 = nI n) (hj : j < n) (h : TK_ f j f1) : ∃ f2, bX9_harbour_95 40 (nI j, HH z f1) = some (.inl (nI (j + 1), HH z f2)) ∧ TK_ f (j + 1) f2 := by
  have j6 : j < 6 := by omega
  have e3 : 3 * nI j = nI (3 * j) := pk_mul 3 j
  have e47 : f1 47 = f 47 := h.1 47 (by decide) (by decide) (by decide)
  refine ⟨up2 (up2 (up2 f1 44 (upd (f1 44) j (f 47 (3 * j)))) 45 (upd (f1 45) j (f 47 (3 * j + 1)))) 46 (upd (f1 46) j (f 47 (3 * j + 2))), ?_, fun x a b c => ?_, fun p hp => ?_⟩
  · unfold bX9_harbour_95
    simp only [g_40_5, h85, Option.bind_some]
    rw [if_neg (nI_ge hj (by omega))]
    simp only [q_40_8, q_40_9, q_40_10, q_40_13, e3, nI_1, nI_2, al47 (show 3 * j < 18 by omega), al47 (show 3 * j + 1 < 18 by omega), al47 (show 3 * j + 2 < 18 by omega), ax44 j6, ax45 j6, ax46 j6, up2_ne (show (47 : Nat) ≠ 44 by decide), up2_ne (show (47 : Nat) ≠ 45 by decide), up2_ne (show (45 : Nat) ≠ 44 by decide), up2_ne (show (46 : Nat) ≠ 44 by decide), up2_ne (show (46 : Nat) ≠ 45 by decide), e47, Option.bind_some]
  · rw [up2_ne c, up2_ne b, up2_ne a]; exact h.1 x a b c
  · rw [up2_ne (show (44 : Nat) ≠ 46 by decide), up2_ne (show (44 : Nat) ≠ 45 by decide), up2_eq, up2_ne (show (45 : Nat) ≠ 46 by decide), up2_eq, up2_eq]
    by_cases hpj : p = j
    · subst hpj
      rw [upd_eq, upd_eq, upd_eq]
      exact ⟨rfl, rfl, rfl⟩
    · rw [upd_ne hpj, upd_ne hpj, upd_ne hpj]
      exact h.2 p (by omega)
theorem M_tk {z : Nat → Int32} {f : Nat → Nat → Int32} {n : Nat} (hn : n ≤ 6) (h85 : z 1285 = nI n) : ∀ (d j : Nat) (f1 : Nat → Nat → Int32) (fuel : Nat), j + d = n → d < fuel → TK_ f j f1 → ∃ f2, it_ (bX9_harbour_95 40) fuel (nI j, HH z f1) = some (HH z f2) ∧ TK_ f n f2 := by
  intro d
  induction d with
  | zero =>
    intro j f1 fuel hj hf h
    obtain ⟨fuel, rfl⟩ : ∃ y, fuel = y + 1 := ⟨fuel - 1, by omega⟩
    have hjn : j = n := by omega
    subst hjn
    refine ⟨f1, it_e ?_, h⟩
    unfold bX9_harbour_95
    simp only [g_40_5, h85, Option.bind_some]
    rw [if_pos (nI_le (Nat.le_refl j) (by omega))]
  | succ d ih =>
    intro j f1 fuel hj hf h
    obtain ⟨fuel, rfl⟩ : ∃ y, fuel = y + 1 := ⟨fuel - 1, by omega⟩
    obtain ⟨f2, e1, e2⟩ := M_tk1 hn h85 (by omega) h
    rw [it_s e1]
    exact ih (j + 1) f2 fuel (by omega) (by omega) e2
/-! the class settles -/
def SE_ (z : Nat → Int32) (g : Nat → Int32) (n j : Nat) (z2 : Nat → Int32) : Prop := z2 33 = nI n ∧ (∀ x, x ≠ 33 → (x < 96 ∨ 288 ≤ x) → z2 x = z x) ∧ ∀ p, p < j → z2 (32 * (3 + p) + 0) = kc_ (g (2 + 4 * p)) ∧ z2 (32 * (3 + p) + 1) = g (3 + 4 * p) - 48 ∧ z2 (32 * (3 + p) + 2) = g (4 + 4 * p) - 48 ∧ z2 (32 * (3 + p) + 3) = 0
theorem become3 {z : Nat → Int32} {f : Nat → Nat → Int32} {p : Nat} (hp : p < 6) (x0 x1 x2 x3 : Int32) (hx : x3 = 0 ∨ x3 = 1) : fX2_become (HH z f) (3 + p) x0 x1 x2 x3 = some (HH (upd (upd (upd (upd z (32 * (3 + p) + 0) x0) (32 * (3 + p) + 1) x1) (32 * (3 + p) + 2) x2) (32 * (3 + p) + 3) x3) f) := by
  unfold fX2_become
  rw [pp_ hp (show 0 < 4 by decide), Option.bind_some, pp_ hp (show 1 < 4 by decide), Option.bind_some, pp_ hp (show 2 < 4 by decide), Option.bind_some, pzp_ hp _ _ _ hx, Option.bind_some]
theorem C_se1 {z z1 : Nat → Int32} {f : Nat → Nat → Int32} {k i b n j : Nat} (hk : k < 4) (hn : n ≤ 6) (hb : z (32 * (32 + 2 * k) + 3) = nI b) (hb60 : b ≤ 60) (hin : i + (1 + 4 * n) ≤ b) (hj : j < n) (h : SE_ z (fun t => f (33 + 2 * k) (i + t)) n j z1) : ∃ z2, bX6_settle_17 (32 + 2 * k) (nI i) 1 (nI j, HH z1 f) = some (.inl (nI (j + 1), HH z2 f)) ∧ SE_ z (fun t => f (33 + 2 * k) (i + t)) n (j + 1) z2 := by
  obtain ⟨h1, h2, h3⟩ := h
  have j6 : j < 6 := by omega
  have hb1 : z1 (32 * (32 + 2 * k) + 3) = nI b := by rw [h2 _ (by omega) (by omega)]; exact hb
  have ei : nI i + 1 + 4 * nI j = nI (i + 1 + 4 * j) := by rw [nI_1, show 4 * nI j = nI (4 * j) from pk_mul 4 j, nI_add]
  have r1 := C_rd (f := f) (j := i + (2 + 4 * j)) hk hb1 hb60 (by omega)
  have r2 := C_rd (f := f) (j := i + (3 + 4 * j)) hk hb1 hb60 (by omega)
  have r3 := C_rd (f := f) (j := i + (4 + 4 * j)) hk hb1 hb60 (by omega)
  refine ⟨upd (upd (upd (upd z1 (32 * (3 + j) + 0) (kc_ (f (33 + 2 * k) (i + (2 + 4 * j))))) (32 * (3 + j) + 1) (f (33 + 2 * k) (i + (3 + 4 * j)) - 48)) (32 * (3 + j) + 2) (f (33 + 2 * k) (i + (4 + 4 * j)) - 48)) (32 * (3 + j) + 3) 0, ?_, ?_, fun x a b0 => ?_, fun p hp => ?_⟩
  · unfold bX6_settle_17
    simp only [g_1_1, h1, Option.bind_some]
    rw [if_neg (nI_ge hj (by omega))]
    rw [ei, nI_1, show nI (i + 1 + 4 * j) + 2 = nI (i + 1 + 4 * j + 2) from nI_add _ 2, show nI (i + 1 + 4 * j) + 3 = nI (i + 1 + 4 * j + 3) from nI_add _ 3, show i + 1 + 4 * j + 1 = i + (2 + 4 * j) by omega, show i + 1 + 4 * j + 2 = i + (3 + 4 * j) by omega, show i + 1 + 4 * j + 3 = i + (4 + 4 * j) by omega]
    simp only [obs_ hk, r1, r2, r3, C_kd, q_1_0, qp_ j6, obp_ j6, become3 j6 _ _ _ _ (Or.inl rfl), nI_1, Option.bind_some]
  · rw [upd_ne (by omega), upd_ne (by omega), upd_ne (by omega), upd_ne (by omega)]; exact h1
  · rw [upd_ne (by omega), upd_ne (by omega), upd_ne (by omega), upd_ne (by omega)]; exact h2 x a b0
  · by_cases hpj : p = j
    · subst hpj
      refine ⟨?_, ?_, ?_, upd_eq⟩
      · rw [upd_ne (by omega), upd_ne (by omega), upd_ne (by omega), upd_eq]
      · rw [upd_ne (by omega), upd_ne (by omega), upd_eq]
      · rw [upd_ne (by omega), upd_eq]
    · have e : ∀ q, q < 4 → (upd (upd (upd (upd z1 (32 * (3 + j) + 0) (kc_ (f (33 + 2 * k) (i + (2 + 4 * j))))) (32 * (3 + j) + 1) (f (33 + 2 * k) (i + (3 + 4 * j)) - 48)) (32 * (3 + j) + 2) (f (33 + 2 * k) (i + (4 + 4 * j)) - 48)) (32 * (3 + j) + 3) 0) (32 * (3 + p) + q) = z1 (32 * (3 + p) + q) := fun q hq => by rw [upd_ne (by omega), upd_ne (by omega), upd_ne (by omega), upd_ne (by omega)]
      rw [e 0 (by decide), e 1 (by decide), e 2 (by decide), e 3 (by decide)]
      exact h3 p (by omega)
theorem C_se {z : Nat → Int32} {f : Nat → Nat → Int32} {k i b n : Nat} (hk : k < 4) (hn : n ≤ 6) (hb : z (32 * (32 + 2 * k) + 3) = nI b) (hb60 : b ≤ 60) (hin : i + (1 + 4 * n) ≤ b) : ∀ (d j : Nat) (z1 : Nat → Int32) (fuel : Nat), j + d = n → d < fuel → SE_ z (fun t => f (33 + 2 * k) (i + t)) n j z1 → ∃ z2, it_ (bX6_settle_17 (32 + 2 * k) (nI i) 1) fuel (nI j, HH z1 f) = some (HH z2 f) ∧ SE_ z (fun t => f (33 + 2 * k) (i + t)) n n z2 := by
  intro d
  induction d with
  | zero =>
    intro j z1 fuel hj hf h
    obtain ⟨fuel, rfl⟩ : ∃ y, fuel = y + 1 := ⟨fuel - 1, by omega⟩
    have hjn : j = n := by omega
    subst hjn
    refine ⟨z1, it_e ?_, h⟩
    unfold bX6_settle_17
    simp only [g_1_1, h.1, Option.bind_some]
    rw [if_pos (nI_le (Nat.le_refl j) (by omega))]
  | succ d ih =>
    intro j z1 fuel hj hf h
    obtain ⟨fuel, rfl⟩ : ∃ y, fuel = y + 1 := ⟨fuel - 1, by omega⟩
    obtain ⟨z2, e1, e2⟩ := C_se1 hk hn hb hb60 hin (by omega) h
    rw [it_s e1]
    exact ih (j + 1) z2 fuel (by omega) (by omega) e2
theorem C_settle {z : Nat → Int32} {f : Nat → Nat → Int32} {k i b n : Nat} (hk : k < 4) (hn : n ≤ 6) (hb : z (32 * (32 + 2 * k) + 3) = nI b) (hb60 : b ≤ 60) (hin : i + (1 + 4 * n) ≤ b) : ∃ z2, fX6_settle (HH z f) (32 + 2 * k) (nI i) (nI (1 + 4 * n)) 1 = some (HH z2 f) ∧ SE_ z (fun t => f (33 + 2 * k) (i + t)) n n z2 := by
  obtain ⟨z2, e1, e2⟩ := C_se (f := f) hk hn hb hb60 hin n 0 (upd z 33 (nI n)) fu_ (by omega) (fu_gt (by omega)) ⟨upd_eq, fun x a _ => upd_ne a, fun p hp => by omega⟩
  refine ⟨z2, ?_, e2⟩
  have ed : dv_ (nI (1 + 4 * n) - 1) 4 = some (nI n) := by
    rw [show nI (1 + 4 * n) - 1 = nI (4 * n) from by rw [show nI (1 + 4 * n) - 1 = nI (1 + 4 * n - 1) from pk_sub (b := 1) (by omega), show 1 + 4 * n - 1 = 4 * n by omega]]
    unfold dv_
    rw [if_neg (by decide), show (4 : Int32) = nI 4 from rfl, pk_div (by omega) (by decide) (by decide), show 4 * n / 4 = n by omega]
  have em : mn_ (nI n) 6 = nI n := by
    unfold mn_
    by_cases c : n = 6
    · subst c; rfl
    · rw [if_neg (show ¬ (6 : Int32) < nI n from nI_nlt (a := 6) (by omega) (by decide))]
  unfold fX6_settle
  rw [nI_0] at e1
  simp only [ed, em, p_1_1, e1, Option.bind_some]
