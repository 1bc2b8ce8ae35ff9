/-! frames: what a call's scratch leaves alone -/
def FC_ (z : Nat → Int32) (f : Nat → Nat → Int32) (z1 : Nat → Int32) (f1 : Nat → Nat → Int32) : Prop := (∀ k, k < 480 ∨ 1024 ≤ k → z1 k = z k) ∧ (∀ j, j < 24 ∨ 33 ≤ j → f1 j = f j)
def FN_ (z : Nat → Int32) (f : Nat → Nat → Int32) (z1 : Nat → Int32) (f1 : Nat → Nat → Int32) : Prop := (∀ k, k < 1291 ∨ 1302 ≤ k → z1 k = z k) ∧ (∀ j, j < 47 ∨ 54 ≤ j → f1 j = f j)
def FM_ (z : Nat → Int32) (f : Nat → Nat → Int32) (z1 : Nat → Int32) (f1 : Nat → Nat → Int32) : Prop := (∀ k, k ≠ 1286 → k ≠ 1296 → k ≠ 1297 → z1 k = z k) ∧ (∀ j, j ≠ 46 → j ≠ 49 → f1 j = f j)
def FS_ (z : Nat → Int32) (f : Nat → Nat → Int32) (z1 : Nat → Int32) (f1 : Nat → Nat → Int32) : Prop := (∀ k, k < 480 ∨ (1024 ≤ k ∧ k < 1291) ∨ 1302 ≤ k → z1 k = z k) ∧ (∀ j, j < 24 ∨ (33 ≤ j ∧ j < 47) ∨ 54 ≤ j → f1 j = f j)
section FRS
variable {z z1 z2 : Nat → Int32} {f f1 f2 : Nat → Nat → Int32}
theorem FC_r : FC_ z f z f := ⟨fun _ _ => rfl, fun _ _ => rfl⟩
theorem FN_r : FN_ z f z f := ⟨fun _ _ => rfl, fun _ _ => rfl⟩
theorem FM_r : FM_ z f z f := ⟨fun _ _ _ _ => rfl, fun _ _ _ => rfl⟩
theorem FC_t (h1 : FC_ z f z1 f1) (h2 : FC_ z1 f1 z2 f2) : FC_ z f z2 f2 := ⟨fun k hk => (h2.1 k hk).trans (h1.1 k hk), fun j hj => (h2.2 j hj).trans (h1.2 j hj)⟩
theorem FN_t (h1 : FN_ z f z1 f1) (h2 : FN_ z1 f1 z2 f2) : FN_ z f z2 f2 := ⟨fun k hk => (h2.1 k hk).trans (h1.1 k hk), fun j hj => (h2.2 j hj).trans (h1.2 j hj)⟩
theorem FM_t (h1 : FM_ z f z1 f1) (h2 : FM_ z1 f1 z2 f2) : FM_ z f z2 f2 := ⟨fun k a b c => (h2.1 k a b c).trans (h1.1 k a b c), fun j a b => (h2.2 j a b).trans (h1.2 j a b)⟩
theorem FC_z {k : Nat} {x : Int32} (hk : 480 ≤ k ∧ k < 1024) (h : FC_ z f z1 f1) : FC_ z f (upd z1 k x) f1 := ⟨fun j hj => by rw [upd_ne (by omega)]; exact h.1 j hj, h.2⟩
theorem FN_z {k : Nat} {x : Int32} (hk : 1291 ≤ k ∧ k < 1302) (h : FN_ z f z1 f1) : FN_ z f (upd z1 k x) f1 := ⟨fun j hj => by rw [upd_ne (by omega)]; exact h.1 j hj, h.2⟩
theorem FM_z {k : Nat} {x : Int32} (hk : k = 1286 ∨ k = 1296 ∨ k = 1297) (h : FM_ z f z1 f1) : FM_ z f (upd z1 k x) f1 := ⟨fun j a b c => by rw [upd_ne (by omega)]; exact h.1 j a b c, h.2⟩
theorem FC_f {i : Nat} {g : Nat → Int32} (hi : 24 ≤ i ∧ i < 33) (h : FC_ z f z1 f1) : FC_ z f z1 (up2 f1 i g) := ⟨h.1, fun j hj => by rw [up2_ne (by omega)]; exact h.2 j hj⟩
theorem FN_f {i : Nat} {g : Nat → Int32} (hi : 47 ≤ i ∧ i < 54) (h : FN_ z f z1 f1) : FN_ z f z1 (up2 f1 i g) := ⟨h.1, fun j hj => by rw [up2_ne (by omega)]; exact h.2 j hj⟩
theorem FM_f {i : Nat} {g : Nat → Int32} (hi : i = 46 ∨ i = 49) (h : FM_ z f z1 f1) : FM_ z f z1 (up2 f1 i g) := ⟨h.1, fun j a b => by rw [up2_ne (by omega)]; exact h.2 j a b⟩
theorem FS_C (h : FC_ z f z1 f1) : FS_ z f z1 f1 := ⟨fun k hk => h.1 k (by omega), fun j hj => h.2 j (by omega)⟩
theorem FS_N (h : FN_ z f z1 f1) : FS_ z f z1 f1 := ⟨fun k hk => h.1 k (by omega), fun j hj => h.2 j (by omega)⟩
theorem FS_P {n : Nat} {K S T : Nat → Nat} (h : FS_ z f z1 f1) (hP : IvP z f n K S T) : IvP z1 f1 n K S T := by
  obtain ⟨h1, h2, h3, h4, h5⟩ := hP
  refine ⟨h1, h2, by rw [h.1 33 (by omega)]; exact h3, by rw [h.1 1285 (by omega)]; exact h4, fun p hp => ?_⟩
  have e : ∀ k, k < 4 → z1 (32 * (3 + p) + k) = z (32 * (3 + p) + k) := fun k hk => h.1 _ (by omega)
  rw [e 0 (by decide), e 1 (by decide), e 2 (by decide), h.2 44 (by omega), h.2 45 (by omega), h.2 46 (by omega)]
  exact h5 p hp
theorem FS_G {n G : Nat} (hn : n ≤ 6) (h : FS_ z f z1 f1) (hG : IvG z n G) : IvG z1 n G := by
  obtain ⟨h1, h2, h3⟩ := hG
  refine ⟨h1, by rw [h.1 1286 (by omega)]; exact h2, fun p hp => ?_⟩
  rw [h.1 _ (by omega)]
  exact h3 p hp
theorem FS_X (h : FS_ z f z1 f1) (hX : IvX z) : IvX z1 := by
  obtain ⟨h1, h2, h3⟩ := hX
  refine ⟨?_, ?_, ?_⟩
  · rw [h.1 6 (by omega), h.1 1287 (by omega)]; exact h1
  · rw [h.1 7 (by omega), h.1 1281 (by omega)]; exact h2
  · rw [h.1 8 (by omega), h.1 1280 (by omega)]; exact h3
theorem FS_S (h : FS_ z f z1 f1) (hS : IvS z f) : IvS z1 f1 := by
  intro k hk
  have e : ∀ j, j < 4 → z1 (32 * (32 + 2 * k) + j) = z (32 * (32 + 2 * k) + j) := fun j hj => h.1 _ (by omega)
  rw [e 1 (by decide), e 2 (by decide), e 3 (by decide), h.2 41 (by omega), h.2 42 (by omega), h.2 43 (by omega), h.2 (33 + 2 * k) (by omega)]
  exact hS k hk
theorem FS_R {n r : Nat} {A B W U : Nat → Nat} (h : FS_ z f z1 f1) (hR : IvR z f n r A B W U) : IvR z1 f1 n r A B W U := by
  obtain ⟨h1, h2, h3, h4⟩ := hR
  refine ⟨h1, by rw [h.1 324 (by omega)]; exact h2, by rw [h.1 1304 (by omega)]; exact h3, fun q hq => ?_⟩
  rw [h.2 11 (by omega), h.2 12 (by omega), h.2 13 (by omega), h.2 14 (by omega), h.2 54 (by omega), h.2 55 (by omega), h.2 56 (by omega), h.2 57 (by omega)]
  exact h4 q hq
theorem FS_I (h : FS_ z f z1 f1) (hI : Inv z f) : Inv z1 f1 := by
  obtain ⟨n, K, S, T, G, r, A, B, W, U, hP, hG, hX, hS, hR⟩ := hI
  exact ⟨n, K, S, T, G, r, A, B, W, U, FS_P h hP, FS_G hP.2.1 h hG, FS_X h hX, FS_S h hS, FS_R h hR⟩
end FRS
/-! a row of cells that is read -/
theorem vb_of {q b : Nat} (hb : b ≤ 60) (h : q < b) : vb_ (nI q) b = true := by
  simp only [vb_, Bool.and_eq_true, Bool.not_eq_true', decide_eq_false_iff_not]
  have e : nI b - 1 = nI (b - 1) := pk_sub (a := b) (b := 1) (by omega)
  rw [e]
  exact ⟨nI_pos (by omega), nI_nlt (by omega) (by omega)⟩
theorem C_rd {z : Nat → Int32} {f : Nat → Nat → Int32} {k b j : Nat} (hk : k < 4) (hb : z (32 * (32 + 2 * k) + 3) = nI b) (hb60 : b ≤ 60) (hj : j < b) : fX5_read (HH z f) (32 + 2 * k) (nI j) = some (f (33 + 2 * k) j) := by
  unfold fX5_read
  simp only [obs_ hk, C_rch1 hk hb, vb_of hb60 hj, b_t, n10_, if_false, qc_ hk, alc_ hk (show j < 60 by omega), Option.bind_some]
theorem ag_same {y y1 : Nat → Int32} {f f1 : Nat → Nat → Int32} {k : Nat} (hk : k < 4) (h1 : f1 41 = f 41) (h2 : f1 42 = f 42) (l i n : Int32) : fX9_against (HH y1 f1) 40 (nI k) l i n = fX9_against (HH y f) 40 (nI k) l i n := by
  unfold fX9_against jX9_against_23
  simp only [q_40_2, q_40_3, al41 hk, al42 hk, Option.bind_some, h1, h2]
theorem ix2 (i j : Nat) : nI i + 2 * nI j = nI (i + 2 * j) := by
  show nI i + nI 2 * nI j = _
  rw [pk_mul, nI_add]
theorem m10_ : ¬ ((-1 : Int32) = 0) := by decide
theorem m20_ : ¬ ((-2 : Int32) = 0) := by decide
theorem m30_ : ¬ ((-3 : Int32) = 0) := by decide
/-- what season, orders and drops begin with -/
theorem row_pre {z : Nat → Int32} {f : Nat → Nat → Int32} {n : Nat} (hn : n ≤ 6) (hS : IvS z f) (h33 : z 33 = nI n) (p q u v : Int32) (fit : Bool) (mx : Nat) (hmx : mx ≤ 20) (hfit : fit = true → ¬ nI mx < v) :
    (ip_ 4 p = false ∧ fX8_refusalOfRow (HH z f) 0 p q u v (bi_ fit) = some (-1, HH (upd z 8 0) f)) ∨
    (ip_ 4 p = true ∧ (ip_ 3 q = false ∨ v < 0 ∨ fit = false) ∧ fX8_refusalOfRow (HH z f) 0 p q u v (bi_ fit) = some (-2, HH (upd z 8 0) f)) ∨
    (∃ k m, k < 4 ∧ m ≤ mx ∧ p = nI k ∧ ip_ 3 q = true ∧ v = nI m ∧ fit = true ∧
      ((∃ g : Int32, g ≠ 0 ∧ -10 - g ≠ 0 ∧ fX8_refusalOfRow (HH z f) 0 p q u v (bi_ fit) = some (-10 - g, HH (upd z 8 g) f) ∧ ∀ y, fX9_against (HH y f) 40 (nI k) q u (2 * nI m) = some g) ∨
       ((∀ y, fX9_against (HH y f) 40 (nI k) q u (2 * nI m) = some 0) ∧
        ((n = 0 ∧ fX8_refusalOfRow (HH z f) 0 p q u v (bi_ fit) = some (-3, HH (upd z 8 0) f)) ∨
         (n ≠ 0 ∧ fX8_refusalOfRow (HH z f) 0 p q u v (bi_ fit) = some (0, HH (upd z 8 0) f) ∧ ∃ i b, u = nI i ∧ i + 2 * m ≤ b ∧ b ≤ 60 ∧ z (32 * (32 + 2 * k) + 3) = nI b))))) := by
  cases h1 : ip_ 4 p
  · exact Or.inl ⟨rfl, by unfold fX8_refusalOfRow; simp only [p_0_8, C_shs, h1, b_f, if_true, Option.bind_some]⟩
  refine Or.inr ?_
  cases h2 : ip_ 3 q
  · exact Or.inl ⟨rfl, Or.inl rfl, by unfold fX8_refusalOfRow; simp only [p_0_8, C_shs, C_lan, h1, h2, b_f, b_t, n10_, if_false, if_true, Option.bind_some]⟩
  by_cases h3 : v < 0
  · exact Or.inl ⟨rfl, Or.inr (Or.inl h3), by unfold fX8_refusalOfRow; simp only [p_0_8, C_shs, C_lan, h1, h2, h3, b_t, n10_, if_false, if_true, Option.bind_some]⟩
  cases h4 : fit
  · exact Or.inl ⟨rfl, Or.inr (Or.inr rfl), by unfold fX8_refusalOfRow; simp only [p_0_8, C_shs, C_lan, h1, h2, h3, b_t, b_f, n10_, if_false, if_true, Option.bind_some]⟩
  refine Or.inr ?_
  obtain ⟨k, hk, rfl⟩ := ip_at (by decide) h1
  obtain ⟨m, hm, rfl⟩ := nI_of h3
  have hm2 : m ≤ mx := Classical.byContradiction fun c => hfit h4 (nI_lt (by omega) hm)
  refine ⟨k, m, hk, hm2, rfl, rfl, rfl, rfl, ?_⟩
  obtain ⟨e, e1, e2, e3⟩ := row_two (y := z) (IvS_z (k := 8) (x := 0) (by decide) hS) hk q u (2 * nI m)
  have e4 : ∀ y, fX9_against (HH y f) 40 (nI k) q u (2 * nI m) = some e := fun y => by rw [ag_same (y := z) (f := f) hk rfl rfl]; exact e2
  have e33 : (upd z 8 0) 33 = nI n := by rw [upd_ne (by decide)]; exact h33
  by_cases h5 : e = 0
  · subst h5
    refine Or.inr ⟨e4, ?_⟩
    by_cases h6 : n = 0
    · subst h6
      refine Or.inl ⟨rfl, ?_⟩
      unfold fX8_refusalOfRow
      simp only [p_0_8, C_shs, C_lan, h1, h2, h3, b_t, n10_, if_false, if_true, q_0_1, qs_ hk, obs_ hk, e1, q_0_0, g_1_1, e33, nI_0, Option.bind_some]
    · refine Or.inr ⟨h6, ?_, ?_⟩
      · unfold fX8_refusalOfRow
        simp only [p_0_8, C_shs, C_lan, h1, h2, h3, b_t, n10_, if_false, if_true, q_0_1, qs_ hk, obs_ hk, e1, q_0_0, g_1_1, e33, nI_ne0 (show 0 < n by omega) (show n < 2 ^ 31 by omega), Option.bind_some]
      · obtain ⟨a0, b0, q0, m0, sa, sb, s5, hl, hu, hm0, hqm⟩ := e3 rfl
        refine ⟨q0, b0, hu, ?_, sb, by rw [upd_ne (by omega)] at s5; exact s5⟩
        have hmm : 2 * nI m = nI (2 * m) := pk_mul 2 m
        rw [hmm] at hm0
        have := (nI_eq (show 2 * m < 2 ^ 31 by omega) (show m0 < 2 ^ 31 by omega)).mp hm0
        omega
  · refine Or.inl ⟨e, h5, ?_, ?_, e4⟩
    · intro c
      have he : e = 1 ∨ e = 2 ∨ e = 3 ∨ e = 4 := by
        have h9 := e1
        unfold fX5_faultOfRow at h9
        simp only [gs_ hk (show 0 < 1 ∧ 1 < 4 by decide), gs_ hk (show 0 < 2 ∧ 2 < 4 by decide), obs_ hk, Option.bind_some] at h9
        split at h9
        · exact Or.inl (Option.some.inj h9).symm
        · split at h9
          · split at h9
            · cases h10 : fX5_reaches (HH (upd z 8 0) f) (32 + 2 * k) u (2 * nI m) with
              | none => rw [h10] at h9; cases h9
              | some t =>
                rw [h10, Option.bind_some] at h9
                split at h9
                · exact Or.inr (Or.inr (Or.inl (Option.some.inj h9).symm))
                · exact absurd (Option.some.inj h9).symm h5
            · exact Or.inr (Or.inr (Or.inr (Option.some.inj h9).symm))
          · exact Or.inr (Or.inl (Option.some.inj h9).symm)
      rcases he with rfl | rfl | rfl | rfl <;> exact absurd c (by decide)
    · unfold fX8_refusalOfRow
      simp only [p_0_8, C_shs, C_lan, h1, h2, h3, b_t, n10_, if_false, q_0_1, qs_ hk, obs_ hk, e1, h5, ob_0, C_flt, upd_upd, Option.bind_some]
