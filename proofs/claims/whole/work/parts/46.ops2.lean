set_option maxRecDepth 100000 in
theorem g_or : ∀ G, G < 64 → ∀ p, p < 6 → nI G ||| ((1 : Int32) <<< (nI p &&& 31)) = nI (G ||| 2 ^ p) := by decide +kernel
def clr_ (G p : Nat) : Nat := if G.testBit p then G - 2 ^ p else G
set_option maxRecDepth 100000 in
theorem g_clr : ∀ G, G < 64 → ∀ p, p < 6 → nI G &&& (((1 : Int32) <<< (nI p &&& 31)) ^^^ (-1)) = nI (clr_ G p) := by decide +kernel
set_option maxRecDepth 100000 in
theorem clr_bit : ∀ G, G < 64 → ∀ p, p < 6 → ∀ q, q < 6 → (clr_ G p).testBit q = (G.testBit q && !(decide (q = p))) := by decide +kernel
theorem clr_le (G p : Nat) : clr_ G p ≤ G := by
  unfold clr_
  split
  · exact Nat.sub_le _ _
  · exact Nat.le_refl _
theorem or_bit (G p q : Nat) : (G ||| 2 ^ p).testBit q = (G.testBit q || decide (p = q)) := by rw [Nat.testBit_or, Nat.testBit_two_pow]
theorem or_lt {G p n : Nat} (h : G < 2 ^ n) (hp : p < n) : G ||| 2 ^ p < 2 ^ n := Nat.or_lt_two_pow h (Nat.pow_lt_pow_right (by decide) hp)
set_option maxRecDepth 100000 in
theorem g_acc : ∀ G, G < 64 → ∀ i, i < 6 → nI (G % 2 ^ i) ||| (if G.testBit i then (1 : Int32) <<< (nI i &&& 31) else 0) = nI (G % 2 ^ (i + 1)) := by decide +kernel
theorem pw6 {n : Nat} (h : n ≤ 6) : 2 ^ n ≤ 64 := Nat.pow_le_pow_right (by decide) h
theorem it_at {S X : Type} {b : S → Option (S ⊕ X)} {s0 : S} (st : Nat → S) (n : Nat) {x : X} (e0 : st 0 = s0) (h1 : ∀ i, i < n → b (st i) = some (.inl (st (i + 1)))) (h2 : b (st n) = some (.inr x)) (m : Nat) (hm : n < m) : it_ b m s0 = some x := e0 ▸ it_run st n h1 h2 m hm
theorem goneSet_gen {h : hp_H} {t pp b n G : Nat} (h1 : gi_ h t 6 1 = some (nI n)) (h2 : gq_ h t 6 0 = some pp) (h3 : ∀ p, p < n → ql_ h pp (nI p) = some (b + p)) (h4 : ∀ p, p < n → gi_ h (b + p) 2 3 = some (if G.testBit p then 1 else 0)) (hn : n ≤ 6) (hG : G < 2 ^ n) : fX7_goneSet h t = some (nI G) := by
  have h64 : G < 64 := Nat.lt_of_lt_of_le hG (pw6 hn)
  unfold fX7_goneSet
  have e : it_ (bX7_goneSet_4 h t) fu_ (0, 0) = some (nI G) := by
    refine it_at (fun i => (nI (G % 2 ^ i), nI i)) n (by simp [Nat.mod_one]; rfl) (fun i hi => ?_) ?_ fu_ (fu_gt (by omega))
    · unfold bX7_goneSet_4
      simp only [h1, h2, h3 i hi, h4 i hi, Option.bind_some]
      rw [if_neg (nI_ge hi (by omega))]
      have ha := g_acc G h64 i (by omega)
      cases hb : G.testBit i
      · rw [hb] at ha
        simp only [Bool.false_eq_true, if_false, if_true, jX7_goneSet_32_4, Option.bind_some] at ha ⊢
        rw [ha, nI_1]
      · rw [hb] at ha
        simp only [if_true, n10_, if_false, jX7_goneSet_32_4, Option.bind_some] at ha ⊢
        rw [ha, nI_1]
    · unfold bX7_goneSet_4
      simp only [h1, Option.bind_some]
      rw [if_pos (nI_le (Nat.le_refl n) (by omega)), Nat.mod_eq_of_lt hG]
  rw [e]
  rfl
def pcN_ : Nat → Nat → Nat
  | 0, _ => 0
  | k + 1, x => x % 2 + pcN_ k (x / 2)
theorem pcN_0 (k : Nat) : pcN_ k 0 = 0 := by
  induction k with
  | zero => rfl
  | succ k ih => simp [pcN_, ih]
theorem size_it {h : hp_H} : ∀ k x c m, x < 2 ^ k → k < m → k ≤ 20 → it_ (bX9_size_4 h) m (nI c, nI x) = some (nI (c + pcN_ k x)) := by
  intro k
  induction k with
  | zero =>
    intro x c m hx hm _
    obtain ⟨m, rfl⟩ : ∃ q, m = q + 1 := ⟨m - 1, by omega⟩
    have : x = 0 := by omega
    subst this
    simp only [it_, bX9_size_4, pcN_, Nat.add_zero]
    rw [if_pos (show nI 0 ≤ 0 by decide)]
    rfl
  | succ k ih =>
    intro x c m hx hm hk
    obtain ⟨m, rfl⟩ : ∃ q, m = q + 1 := ⟨m - 1, by omega⟩
    have hx31 : x < 2 ^ 31 := Nat.lt_of_lt_of_le hx (Nat.pow_le_pow_right (by decide) (by omega))
    by_cases h0 : x = 0
    · subst h0
      simp only [it_, bX9_size_4, pcN_0, Nat.add_zero]
      rw [if_pos (show nI 0 ≤ 0 by decide)]
      rfl
    · simp only [it_, bX9_size_4]
      rw [if_neg (nI_nle (by omega) hx31)]
      simp only [Option.bind_some]
      rw [show nI x &&& 1 = nI (x % 2) from pk_andN (n := x) (by omega) (m := 1) 1 (by decide), show nI x >>> ((1 : Int32) &&& 31) = nI (x / 2) from pk_shrN hx31 _ 1 (by decide), nI_add, ih (x / 2) (c + x % 2) m (by rw [Nat.pow_succ] at hx; omega) (by omega) (by omega)]
      simp only [pcN_, Nat.add_assoc]
theorem M_size {h : hp_H} {G : Nat} (hG : G < 64) : fX9_size h (nI G) = some (nI (pcN_ 6 G)) := by
  unfold fX9_size
  have e : it_ (bX9_size_4 h) fu_ (0, nI G) = some (nI (0 + pcN_ 6 G)) := size_it (h := h) 6 G 0 fu_ hG (fu_gt (by decide)) (by decide)
  rw [e, Nat.zero_add]
  rfl
noncomputable def bc_ (p0 : Int32) : Option Int32 := fJ6_bitCount_0f7a4 [] p0
theorem bc_eq (h : hp_H) (p : Int32) : fJ6_bitCount_0f7a4 h p = bc_ p := rfl
set_option maxRecDepth 100000 in
theorem C_bc {h : hp_H} : ∀ G, G < 64 → fJ6_bitCount_0f7a4 h (nI G) = some (nI (pcN_ 6 G)) := by
  intro G hG
  rw [bc_eq]
  unfold bc_ fJ6_bitCount_0f7a4
  simp only [Option.bind_some]
  revert G
  decide +kernel
theorem C_gone {z : Nat → Int32} {f : Nat → Nat → Int32} {n G : Nat} (h33 : z 33 = nI n) (hn : n ≤ 6) (hG : G < 2 ^ n) (hf : ∀ p, p < n → z (32 * (3 + p) + 3) = if G.testBit p then 1 else 0) : fX7_goneSet (HH z f) 1 = some (nI G) :=
  goneSet_gen (pp := 2) (b := 3) (by rw [g_1_1, h33]) (q_1_0 z f) (fun p hp => qp_ (by omega) z f) (fun p hp => by rw [gp_ (by omega) (show 3 < 4 by decide), hf p hp]) hn hG
theorem op_many : Op_many := by
  intro z f w iv
  obtain ⟨n, K, S, T, G, r, A, B, W, U, hP, hG, hX, hS, hR⟩ := iv
  have hn := hP.2.1
  have h64 := G_64 hG hn
  unfold fX8_many fX9_many
  simp only [q_0_0, q_0_2, ob_1, ob_40, g_1_1, g_0_6, g_10_4, g_40_5, g_40_6, g_40_7, g_40_24, C_gone hP.2.2.1 hn hG.1 hG.2.2, C_bc G h64, hG.2.1, M_size h64, Option.bind_some]
  by_cases c0 : w = 0
  · subst c0; exact ⟨nI n, by simp only [if_true, hP.2.2.1], by simp only [if_true, hP.2.2.2.1]⟩
  by_cases c1 : w = 1
  · subst c1; exact ⟨nI (pcN_ 6 G), by simp, by simp⟩
  by_cases c2 : w = 2
  · subst c2; exact ⟨z 6, by simp, by simp [hX.1]⟩
  by_cases c3 : w = 3
  · subst c3; exact ⟨nI r, by simp [hR.2.1], by simp [hR.2.2.1]⟩
  · exact ⟨-2, by simp [c0, c1, c2, c3], by simp [c0, c1, c2, c3]⟩
theorem pzp_ {p : Nat} (hp : p < 6) (z : Nat → Int32) (f : Nat → Nat → Int32) (x : Int32) (hx : x = 0 ∨ x = 1) : pz_ (HH z f) (3 + p) 2 3 x = some (HH (upd z (32 * (3 + p) + 3) x) f) := HH_pz hx (SP_p hp) rfl
theorem G_set {z : Nat → Int32} {n G a : Nat} (hn : n ≤ 6) (h : IvG z n G) (ha : a < n) : IvG (upd (upd z (32 * (3 + a) + 3) 1) 1286 (nI (G ||| 2 ^ a))) n (G ||| 2 ^ a) := by
  obtain ⟨h1, h2, h3⟩ := h
  refine ⟨or_lt h1 ha, upd_eq, fun p hp => ?_⟩
  rw [upd_ne (by omega), or_bit]
  by_cases hpa : p = a
  · subst hpa
    rw [upd_eq]; simp
  · rw [upd_ne (by omega), h3 p hp]
    simp [show ¬ a = p from fun e => hpa e.symm]
theorem G_clr {z : Nat → Int32} {n G a : Nat} (hn : n ≤ 6) (h : IvG z n G) (ha : a < n) : IvG (upd (upd z (32 * (3 + a) + 3) 0) 1286 (nI (clr_ G a))) n (clr_ G a) := by
  have h64 := G_64 h hn
  obtain ⟨h1, h2, h3⟩ := h
  refine ⟨Nat.lt_of_le_of_lt (clr_le G a) h1, upd_eq, fun p hp => ?_⟩
  rw [upd_ne (by omega), clr_bit G h64 a (by omega) p (by omega)]
  by_cases hpa : p = a
  · subst hpa
    rw [upd_eq]; simp
  · rw [upd_ne (by omega), h3 p hp]
    simp [hpa]
theorem op_fetch : Op_fetch := by
  intro z f p iv
  have iv0 := iv
  obtain ⟨n, K, S, T, G, r, A, B, W, U, hP, hG, hX, hS, hR⟩ := iv
  have hn := hP.2.1
  have h64 := G_64 hG hn
  unfold fX8_fetch
  simp only [q_0_0, ob_1, C_has hP.2.2.1, Option.bind_some]
  cases h2 : ip_ n p
  · refine ⟨-1, z, f, z, f, by simp only [b_f, if_true], ?_, iv0⟩
    unfold fX9_fetch
    simp only [ob_40, M_isP hP.2.2.2.1, Option.bind_some, h2, b_f, if_true]
  · obtain ⟨a, ha, rfl⟩ := ip_at hn h2
    have h6 := P_six hP ha
    simp only [b_t, n10_, if_false, q_1_0, qp_ h6, gp_ h6 (show 3 < 4 by decide), Option.bind_some, hG.2.2 a ha]
    cases hb : G.testBit a
    · refine ⟨-3, z, f, z, f, by simp only [Bool.false_eq_true, if_false, if_true], ?_, iv0⟩
      unfold fX9_fetch fX9_isOf
      simp only [ob_40, M_isP hP.2.2.2.1, Option.bind_some, h2, b_t, n10_, if_false, g_40_6, hG.2.1, g_bit G h64 a h6, hb, Bool.false_eq_true]
      simp
    · have hGc := G_clr hn hG ha
      have hc : clr_ G a < 2 ^ n := hGc.1
      have hc64 : clr_ G a < 64 := Nat.lt_of_lt_of_le hc (pw6 hn)
      have hGs : fX7_goneSet (HH (upd z (32 * (3 + a) + 3) 0) f) 1 = some (nI (clr_ G a)) := by
        refine C_gone (by rw [upd_ne (by omega)]; exact hP.2.2.1) hn hc (fun q hq => ?_)
        have := hGc.2.2 q hq
        rw [upd_ne (by omega)] at this
        exact this
      refine ⟨nI (pcN_ 6 (clr_ G a)), upd z (32 * (3 + a) + 3) 0, f, upd (upd z (32 * (3 + a) + 3) 0) 1286 (nI (clr_ G a)), f, ?_, ?_, n, K, S, T, clr_ G a, r, A, B, W, U, IvP_z (by omega) (IvP_z (by omega) hP), hGc, IvX_z (by omega) (IvX_z (by omega) hX), IvS_z (by omega) (IvS_z (by omega) hS), IvR_z (by omega) (IvR_z (by omega) hR)⟩
      · simp only [if_true, n10_, if_false, pzp_ h6 z f 0 (Or.inl rfl), q_0_0, ob_1, hGs, C_bc _ hc64, Option.bind_some]
      · have h1285 : (upd z (32 * (3 + a) + 3) 0) 1285 = nI n := by rw [upd_ne (by omega)]; exact hP.2.2.2.1
        have h1286 : (upd z (32 * (3 + a) + 3) 0) 1286 = nI G := by rw [upd_ne (by omega)]; exact hG.2.1
        unfold fX9_fetch fX9_isOf
        simp only [ob_40, M_isP h1285, Option.bind_some, h2, b_t, n10_, if_false, g_40_6, p_40_6, h1286, g_bit G h64 a h6, hb, if_true, g_clr G h64 a h6, upd_eq, M_size hc64]
