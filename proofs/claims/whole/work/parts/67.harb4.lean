/-! harbour -/
def kn_ (x : Int32) : Nat := if x = 99 then 2 else if x = 108 then 1 else 0
theorem kc_kn {x : Int32} (h : ¬ kc_ x = -9) : kc_ x = nI (kn_ x) := by
  unfold kc_ at h ⊢
  unfold kn_
  by_cases d1 : x = 99
  · rw [if_pos d1, if_pos d1]; rfl
  · rw [if_neg d1, if_neg d1]
    by_cases d2 : x = 108
    · rw [if_pos d2, if_pos d2]; rfl
    · rw [if_neg d2, if_neg d2]
      by_cases d3 : x = 112
      · rw [if_pos d3]; rfl
      · rw [if_neg d1, if_neg d2, if_neg d3] at h
        exact absurd rfl h
theorem kn_lt (x : Int32) : kn_ x < 3 := by
  unfold kn_
  split
  · omega
  · split <;> omega
theorem hb_inv {z2 : Nat → Int32} {f f2 : Nat → Nat → Int32} {c r2 : Nat} (h2 : 2 ≤ r2) (h6 : r2 ≤ 6) (hgo : ∀ t, t < 1 + 4 * r2 → go_ t (f 43 (c + t)) = true) (hS : IvS z2 f2) (hX : IvX z2) (e33 : z2 33 = nI r2) (e85 : z2 1285 = nI r2) (e86 : z2 1286 = 0) (e324 : z2 324 = 0) (e1304 : z2 1304 = 0) (hc : ∀ p, p < r2 → z2 (32 * (3 + p) + 0) = kc_ (f 43 (c + (2 + 4 * p))) ∧ z2 (32 * (3 + p) + 1) = f 43 (c + (3 + 4 * p)) - 48 ∧ z2 (32 * (3 + p) + 2) = f 43 (c + (4 + 4 * p)) - 48 ∧ z2 (32 * (3 + p) + 3) = 0) (hm : ∀ p, p < r2 → f2 44 p = kc_ (f 43 (c + (2 + 4 * p))) ∧ f2 45 p = f 43 (c + (3 + 4 * p)) - 48 ∧ f2 46 p = f 43 (c + (4 + 4 * p)) - 48) : Inv z2 f2 := by
  refine ⟨r2, fun p => kn_ (f 43 (c + (2 + 4 * p))), fun p => (f 43 (c + (3 + 4 * p)) - 48).toNatClampNeg, fun p => (f 43 (c + (4 + 4 * p)) - 48).toNatClampNeg, 0, 0, fun _ => 0, fun _ => 0, fun _ => 0, fun _ => 0, ⟨Or.inr h2, h6, e33, e85, fun p hp => ?_⟩, ⟨Nat.pow_pos (by decide), by rw [e86, nI_0], fun p hp => ?_⟩, hX, hS, ⟨by omega, by rw [e324, nI_0], by rw [e1304, nI_0], fun q hq => by omega⟩⟩
  · have g1 := hgo (2 + 4 * p) (by omega)
    have g2 := hgo (3 + 4 * p) (by omega)
    have g3 := hgo (4 + 4 * p) (by omega)
    rw [go_b (by omega)] at g1
    rw [go_c (by omega)] at g2
    rw [go_d (by omega)] at g3
    have k1 := kc_kn (x := f 43 (c + (2 + 4 * p))) (by simpa using g1)
    obtain ⟨s, hs, es⟩ := dig_at g2
    obtain ⟨t, ht, et⟩ := dig_at g3
    obtain ⟨c0, c1, c2, c3⟩ := hc p hp
    obtain ⟨m0, m1, m2⟩ := hm p hp
    have ks : (f 43 (c + (3 + 4 * p)) - 48).toNatClampNeg = s := by rw [es, nI_clamp (by omega)]
    have kt : (f 43 (c + (4 + 4 * p)) - 48).toNatClampNeg = t := by rw [et, nI_clamp (by omega)]
    dsimp only
    rw [ks, kt]
    exact ⟨kn_lt _, hs, ht, c0.trans k1, m0.trans k1, c1.trans es, m1.trans es, c2.trans et, m2.trans et⟩
  · obtain ⟨c0, c1, c2, c3⟩ := hc p hp
    rw [c3]
    simp
theorem M_hb {z : Nat → Int32} {f : Nat → Nat → Int32} {k i m J : Nat} {q : Int32} (hk : k < 4) (him : i + m ≤ 60) (h3 : ip_ 3 q = true) (hag : fX9_against (HH (upd z 1280 0) f) 40 (nI k) q (nI i) (nI m) = some 0) (hJ1 : J ≤ m) (hJ2 : ∀ t, t < J → go_ t (f 43 (60 * k + i + t)) = true) (hJ3 : J < m → go_ J (f 43 (60 * k + i + J)) = false) (hno : ¬ (J = m ∧ 9 ≤ m ∧ (m - 1) % 4 = 0)) : ∃ z2 f2, fX9_harbour (HH z f) 40 (nI k) q (nI i) (nI m) = some (-100 - nI J, HH z2 f2) ∧ FN_ (upd z 1280 0) f z2 f2 := by
  obtain ⟨z', f', r1, r2, r3, r4⟩ := M_rh (z := upd (upd z 1280 0) 1291 (nI (60 * k + i))) (f := f) (c := 60 * k + i) (n := m) (by omega) hJ1 hJ2 hJ3 upd_eq
  have h4 : ip_ 4 (nI k) = true := ip_nI (by decide) hk
  refine ⟨z', f', ?_, FN_t (FN_z (by omega) FN_r) r2⟩
  rw [decide_eq_false hno] at r1
  unfold fX9_harbour
  simp only [p_40_0, M_shs, M_lan, h4, h3, b_t, n10_, if_false, ob_40, hag, if_true, ix60, p_40_11, nI_add, r1, b_f, g_40_11, r4 hno, Option.bind_some]
  rw [pk_sub (by omega), show 60 * k + i + J - (60 * k + i) = J by omega]
theorem M_hb1 {z : Nat → Int32} {f : Nat → Nat → Int32} {k i w : Nat} {q : Int32} (hk : k < 4) (him : i + (1 + 4 * w) ≤ 60) (h3 : ip_ 3 q = true) (hag : fX9_against (HH (upd z 1280 0) f) 40 (nI k) q (nI i) (nI (1 + 4 * w)) = some 0) (hw : 2 ≤ w) (hJ2 : ∀ t, t < 1 + 4 * w → go_ t (f 43 (60 * k + i + t)) = true) : ∃ z2 f2, fX9_harbour (HH z f) 40 (nI k) q (nI i) (nI (1 + 4 * w)) = some (nI w, HH z2 f2) ∧ (∀ x, x ≠ 1285 → x ≠ 1286 → x ≠ 1287 → x ≠ 1304 → (x < 1291 ∨ 1302 ≤ x) → z2 x = (upd z 1280 0) x) ∧ z2 1285 = nI w ∧ z2 1286 = 0 ∧ z2 1287 = 0 ∧ z2 1304 = 0 ∧ (∀ j, j ≠ 44 → j ≠ 45 → j ≠ 46 → (j < 47 ∨ 54 ≤ j) → f2 j = f j) ∧ ∀ p, p < w → f2 44 p = kc_ (f 43 (60 * k + i + (2 + 4 * p))) ∧ f2 45 p = f 43 (60 * k + i + (3 + 4 * p)) - 48 ∧ f2 46 p = f 43 (60 * k + i + (4 + 4 * p)) - 48 := by
  obtain ⟨z', f', r1, r2, r3, r4⟩ := M_rh (z := upd (upd z 1280 0) 1291 (nI (60 * k + i))) (f := f) (c := 60 * k + i) (n := 1 + 4 * w) (J := 1 + 4 * w) (by omega) (Nat.le_refl _) hJ2 (fun h => by omega) upd_eq
  have h4 : ip_ 4 (nI k) = true := ip_nI (by decide) hk
  have hyes : 1 + 4 * w = 1 + 4 * w ∧ 9 ≤ 1 + 4 * w ∧ (1 + 4 * w - 1) % 4 = 0 := by omega
  rw [decide_eq_true hyes] at r1
  obtain ⟨w2, a1, a2, a3, a4, a5⟩ := r3 hyes
  have hww : w2 = w := by omega
  subst hww
  obtain ⟨f2, t1, t2, t3⟩ := M_tk (z := upd z' 1285 (nI w2)) (f := f') a2 upd_eq w2 0 f' fu_ (by omega) (fu_gt (by omega)) ⟨fun x _ _ _ => rfl, fun p hp => by omega⟩
  rw [nI_0] at t1
  have f43 : f' 43 = f 43 := r2.2 43 (by omega)
  refine ⟨upd (upd (upd (upd z' 1285 (nI w2)) 1286 0) 1287 0) 1304 0, f2, ?_, fun x x1 x2 x3 x4 x5 => ?_, ?_, ?_, ?_, upd_eq, fun j j1 j2 j3 j4 => ?_, fun p hp => ?_⟩
  · unfold fX9_harbour
    simp only [p_40_0, M_shs, M_lan, h4, h3, b_t, n10_, if_false, ob_40, hag, if_true, ix60, p_40_11, nI_add, r1, g_40_12, a4, p_40_5, t1, p_40_6, p_40_7, p_40_24, g_40_5, Option.bind_some]
    rw [upd_ne (by decide), upd_ne (by decide), upd_ne (by decide), upd_eq]
  · rw [upd_ne x4, upd_ne x3, upd_ne x2, upd_ne x1, r2.1 x x5, upd_ne (by omega)]
  · rw [upd_ne (by decide), upd_ne (by decide), upd_ne (by decide), upd_eq]
  · rw [upd_ne (by decide), upd_ne (by decide), upd_eq]
  · rw [upd_ne (by decide), upd_eq]
  · rw [t2 j j1 j2 j3, r2.2 j j4]
  · obtain ⟨u1, u2, u3⟩ := t3 p hp
    obtain ⟨v1, v2, v3⟩ := a5 p hp
    rw [f43] at v1 v2 v3
    exact ⟨u1.trans v1, u2.trans v2, u3.trans v3⟩
theorem C_fg0 {z : Nat → Int32} {f : Nat → Nat → Int32} : fX0_forget (HH z f) 10 (z 324) = some (HH (upd z 324 0) f) := by
  have e : mx_ 0 (z 324 - z 324) = 0 := by rw [Int32.sub_self]; rfl
  unfold fX0_forget
  simp only [g_10_4, p_10_4, e, Option.bind_some]
theorem op_harbour : Op_harbour := by
  intro z f p q u v iv
  have iv0 := iv
  obtain ⟨n, K, S, T, G, r, A, B, W, U, hP, hG, hX, hS, hR⟩ := iv
  have hn := hP.2.1
  unfold fX8_harbour
  simp only [p_0_8, C_shs, C_lan, Option.bind_some]
  cases h2 : ip_ 4 p
  · refine ⟨-1, upd z 8 0, f, upd (upd z 8 0) 1280 0, f, by simp only [b_f, if_true], ?_, Inv_fl iv0⟩
    unfold fX9_harbour
    simp only [p_40_0, M_shs, Option.bind_some, h2, b_f, if_true]
  cases h3 : ip_ 3 q
  · refine ⟨-2, upd z 8 0, f, upd (upd z 8 0) 1280 0, f, by simp only [b_t, n10_, if_false, b_f, if_true], ?_, Inv_fl iv0⟩
    unfold fX9_harbour
    simp only [p_40_0, M_shs, M_lan, Option.bind_some, h2, h3, b_f, b_t, n10_, if_false, if_true]
  obtain ⟨k, hk, rfl⟩ := ip_at (by decide) h2
  obtain ⟨e, e1, e2, e3⟩ := row_two (y := z) (IvS_z (k := 8) (x := 0) (by decide) hS) hk q u v
  simp only [b_t, n10_, if_false, q_0_1, qs_ hk, obs_ hk, e1, ob_0, Option.bind_some]
  by_cases h5 : e = 0
  · subst h5
    obtain ⟨a0, b, i, m, sa, sb, s5, hl, rfl, rfl, hqm⟩ := e3 rfl
    have hcell : ∀ t, t < m → f (33 + 2 * k) (i + t) = f 43 (60 * k + i + t) := fun t ht => by
      rw [(hS k hk).2 (i + t) (by omega), Nat.add_assoc]
    obtain ⟨g1, g2, g3, g4⟩ := ff_p (g := fun t => f (33 + 2 * k) (i + t)) m 0
    generalize hJ : ff_ (fun t => f (33 + 2 * k) (i + t)) 0 m = J at g1 g2 g3 g4
    have hf := C_first (f := f) hk s5 sb hqm hJ.symm
    have hJ2 : ∀ t, t < J → go_ t (f 43 (60 * k + i + t)) = true := fun t ht => by
      rw [← hcell t (by omega)]
      exact g3 t (by omega) ht
    have hJ3 : J < m → go_ J (f 43 (60 * k + i + J)) = false := fun h => by
      rw [← hcell J h]
      exact g4 (by omega)
    have hag : ∀ y, fX9_against (HH y f) 40 (nI k) q (nI i) (nI m) = some 0 := fun y => by
      rw [ag_same (y := z) (f := f) hk rfl rfl]
      exact e2
    simp only [if_true, hf, Option.bind_some]
    by_cases hy : J = m ∧ 9 ≤ m ∧ (m - 1) % 4 = 0
    · rw [if_pos hy]
      obtain ⟨y1, y2, y3⟩ := hy
      subst y1
      have hm25 : J ≤ 25 := Classical.byContradiction fun w => by
        have := hJ2 25 (by omega)
        simp [go_] at this
      obtain ⟨w, rfl⟩ : ∃ w, J = 1 + 4 * w := ⟨(J - 1) / 4, by omega⟩
      obtain ⟨zs, s1, d33, dfr, dp⟩ := C_settle (z := upd z 8 0) (f := f) (n := w) hk (by omega) s5 sb hqm
      obtain ⟨z2, f2, m1, m2, m3, m4, m5, m6, m7, m8⟩ := M_hb1 (z := upd (upd zs 6 0) 324 0) (f := f) hk (by omega) h3 (hag _) (by omega) hJ2
      have hz : ∀ x, x ≠ 33 → x ≠ 6 → x ≠ 324 → x ≠ 8 → x ≠ 1280 → x ≠ 1285 → x ≠ 1286 → x ≠ 1287 → x ≠ 1304 → (x < 96 ∨ 288 ≤ x) → (x < 1291 ∨ 1302 ≤ x) → z2 x = z x := fun x b1 b2 b3 b4 b5 b6 b7 b8 b9 b10 b11 => by
        rw [m2 x b6 b7 b8 b9 b11, upd_ne b5, upd_ne b3, upd_ne b2, dfr x b1 b10, upd_ne b4]
      have hz2 : ∀ x, x ≠ 6 → x ≠ 324 → x < 1280 → z2 x = zs x := fun x b1 b2 b3 => by
        rw [m2 x (by omega) (by omega) (by omega) (by omega) (by omega), upd_ne (by omega), upd_ne b2, upd_ne b1]
      refine ⟨nI w, upd (upd zs 6 0) 324 0, f, z2, f2, ?_, m1, hb_inv (f := f) (c := 60 * k + i) (by omega) (by omega) hJ2 ?_ ⟨?_, ?_, ?_⟩ ?_ m3 m4 ?_ m6 (fun p0 hp0 => ?_) m8⟩
      · simp only [if_true, q_0_0, s1, p_0_6, q_0_2, g_10_4, ob_10, C_fg0, g_1_1, Option.bind_some]
        rw [upd_ne (by decide), upd_ne (by decide), d33]
      · intro k0 hk0
        have e : ∀ j, j < 4 → z2 (32 * (32 + 2 * k0) + j) = z (32 * (32 + 2 * k0) + j) := fun j hj => hz _ (by omega) (by omega) (by omega) (by omega) (by omega) (by omega) (by omega) (by omega) (by omega) (by omega) (by omega)
        have ef : ∀ j, 33 ≤ j → j < 44 → f2 j = f j := fun j a1 a2 => m7 j (by omega) (by omega) (by omega) (by omega)
        rw [e 1 (by decide), e 2 (by decide), e 3 (by decide), ef 41 (by decide) (by decide), ef 42 (by decide) (by decide), ef 43 (by decide) (by decide), ef (33 + 2 * k0) (by omega) (by omega)]
        exact hS k0 hk0
      · rw [m5, m2 6 (by decide) (by decide) (by decide) (by decide) (by decide), upd_ne (by decide), upd_ne (by decide), upd_eq]
      · rw [hz 7 (by decide) (by decide) (by decide) (by decide) (by decide) (by decide) (by decide) (by decide) (by decide) (by decide) (by decide), hz 1281 (by decide) (by decide) (by decide) (by decide) (by decide) (by decide) (by decide) (by decide) (by decide) (by decide) (by decide)]
        exact hX.2.1
      · rw [m2 1280 (by decide) (by decide) (by decide) (by decide) (by decide), upd_eq, hz2 8 (by decide) (by decide) (by decide), dfr 8 (by decide) (by decide), upd_eq]
      · rw [hz2 33 (by decide) (by decide) (by decide), d33]
      · rw [m2 324 (by decide) (by decide) (by decide) (by decide) (by decide), upd_ne (by decide), upd_eq]
      · have e : ∀ j, j < 4 → z2 (32 * (3 + p0) + j) = zs (32 * (3 + p0) + j) := fun j hj => hz2 _ (by omega) (by omega) (by omega)
        rw [e 0 (by decide), e 1 (by decide), e 2 (by decide), e 3 (by decide), ← hcell (2 + 4 * p0) (by omega), ← hcell (3 + 4 * p0) (by omega), ← hcell (4 + 4 * p0) (by omega)]
        exact dp p0 hp0
    · rw [if_neg hy]
      obtain ⟨z2, f2, m1, m2⟩ := M_hb (z := upd z 8 0) (f := f) hk (by omega) h3 (hag _) (by omega) hJ2 hJ3 hy
      refine ⟨-100 - nI J, upd z 8 0, f, z2, f2, ?_, m1, FS_I (FS_N m2) (Inv_fl iv0)⟩
      rw [if_neg (nI_m9 (by omega))]
  · refine ⟨-10 - e, upd z 8 e, f, upd (upd z 8 e) 1280 e, f, ?_, ?_, Inv_fl iv0⟩
    · simp only [h5, if_false, C_flt, upd_upd, Option.bind_some]
    · have hag : fX9_against (HH (upd (upd z 8 e) 1280 0) f) 40 (nI k) q u v = some e := by
        rw [ag_same (y := z) (f := f) hk rfl rfl]
        exact e2
      unfold fX9_harbour
      simp only [p_40_0, M_shs, M_lan, h2, h3, b_t, n10_, if_false, ob_40, hag, h5, M_flt, upd_upd, Option.bind_some]
