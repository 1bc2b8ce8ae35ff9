/-! orders -/
def ak_ (w : Int32) : Bool := !(decide (w < -1)) && !(decide ((5 : Int32) < w))
theorem six_ (w : Int32) : ((6 : Int32) ≤ w) ↔ ((5 : Int32) < w) := by
  rw [Int32.le_iff_toInt_le, Int32.lt_iff_toInt_lt]
  have e5 : (5 : Int32).toInt = 5 := by decide
  have e6 : (6 : Int32).toInt = 6 := by decide
  omega
theorem ak_at {w : Int32} (h : ak_ w = true) : w = -1 ∨ ∃ k, k < 6 ∧ w = nI k := by
  unfold ak_ at h
  rw [Bool.and_eq_true, Bool.not_eq_true', Bool.not_eq_true', decide_eq_false_iff_not, decide_eq_false_iff_not] at h
  refine k_in h.1 ?_
  have h2 := h.2
  rw [← six_] at h2
  exact Classical.byContradiction fun c => h2 (by
    rw [Int32.lt_iff_toInt_lt] at c
    rw [Int32.le_iff_toInt_le]
    omega)
theorem C_or0 {h : hp_H} (p q u v w : Int32) : fX8_orders h 0 p q u v w = jX8_orders_18 h 0 p q u v w (bi_ (ak_ w)) := by
  unfold fX8_orders jX8_orders_17 ak_
  by_cases c1 : w < -1
  · rw [if_pos c1, decide_eq_true c1]; rfl
  · rw [if_neg c1, decide_eq_false c1]
    by_cases c2 : (5 : Int32) < w
    · rw [if_pos ((six_ w).mpr c2), decide_eq_true c2]; rfl
    · rw [if_neg (fun e => c2 ((six_ w).mp e)), decide_eq_false c2]; rfl
theorem C_or_r {z y : Nat → Int32} {f : Nat → Nat → Int32} {p q u v w e : Int32} (he : ¬ e = 0) (hr : fX8_refusalOfTwos (HH z f) 0 p q u v (bi_ (ak_ w)) = some (e, HH y f)) : fX8_orders (HH z f) 0 p q u v w = some (e, HH y f) := by
  rw [C_or0]
  unfold jX8_orders_18
  simp only [ob_0, hr, he, if_false, Option.bind_some]
section COR
variable {z y z1 : Nat → Int32} {f f1 : Nat → Nat → Int32} {q : Int32} {k i m n : Nat}
theorem C_or_h {e : Int32} {z2 : Nat → Int32} {f2 : Nat → Nat → Int32} (hk : k < 4) (h33 : y 33 = nI n) (hr : fX8_refusalOfTwos (HH z f) 0 (nI k) q (nI i) (nI m) (bi_ (ak_ (-1))) = some (0, HH y f)) (ht : fX3_take (HH y f) 28 (nI n) (32 + 2 * k) (nI i) (nI m) 0 = some (HH z1 f1)) (h : fX3_howMany (HH z1 f1) 28 = some (e, HH z2 f2)) : fX8_orders (HH z f) 0 (nI k) q (nI i) (nI m) (-1) = some (e, HH z2 f2) := by
  rw [C_or0]
  unfold jX8_orders_18
  simp only [ob_0, hr, if_true, q_0_5, q_0_0, g_1_1, h33, q_0_1, qs_ hk, ob_28, ht, Option.bind_some]
  rw [if_neg (by decide)]
  simp only [h, Option.bind_some]
theorem C_or_p {e : Int32} {k0 : Nat} {z2 : Nat → Int32} {f2 : Nat → Nat → Int32} (hk0 : k0 < 6) (hk : k < 4) (h33 : y 33 = nI n) (hr : fX8_refusalOfTwos (HH z f) 0 (nI k) q (nI i) (nI m) (bi_ (ak_ (nI k0))) = some (0, HH y f)) (ht : fX3_take (HH y f) 28 (nI n) (32 + 2 * k) (nI i) (nI m) 0 = some (HH z1 f1)) (h : fX3_placeOfFirst (HH z1 f1) 28 (nI k0) = some (e, HH z2 f2)) : fX8_orders (HH z f) 0 (nI k) q (nI i) (nI m) (nI k0) = some (e, HH z2 f2) := by
  rw [C_or0]
  unfold jX8_orders_18
  simp only [ob_0, hr, if_true, q_0_5, q_0_0, g_1_1, h33, q_0_1, qs_ hk, ob_28, ht, Option.bind_some]
  rw [if_pos (nI_pos' (by omega))]
  simp only [h, Option.bind_some]
end COR
theorem C_pof {z : Nat → Int32} {f : Nat → Nat → Int32} {c : Nat → Bool} {a b : Nat → Nat} {m n k0 : Nat} (hn : n ≤ 6) (hk0 : k0 < 6) (ha : ∀ t, t < m → a t < 6) (h99 : z 899 = nI n) (h29 : ∀ p, p < n → f 29 p = nI (btb_ c a b p m)) : ∃ f', fX3_placeOfFirst (HH z f) 28 (nI k0) = some (if k0 < n then (match ls_ n (mf_ c a b m) n 0 with
    | none => -9
    | some l => nI (gd_ l k0)) else -9, HH z f') ∧ ∀ j, j ≠ 31 → f' j = f j := by
  obtain ⟨l1, l2⟩ := C_lu (c := c) (a := a) (b := b) (m := m) hn ha h99 h29
  unfold fX3_placeOfFirst
  rw [if_neg (nI_pos (show k0 < 2 ^ 31 by omega)), g_28_3, Option.bind_some, h99]
  by_cases c1 : k0 < n
  · rw [if_neg (nI_ge c1 (by omega)), if_pos c1]
    cases hls : ls_ n (mf_ c a b m) n 0 with
    | none =>
      obtain ⟨g, hg⟩ := l1 hls
      refine ⟨up2 f 31 g, ?_, fun j hj => up2_ne hj⟩
      simp only [ob_28, hg, if_true, Option.bind_some]
    | some l =>
      obtain ⟨g, hg, hg2⟩ := l2 l hls
      refine ⟨up2 f 31 g, ?_, fun j hj => up2_ne hj⟩
      simp only [ob_28, hg, n10_, if_false, q_28_2, al31 hk0, up2_eq, hg2 k0 c1, Option.bind_some]
  · rw [if_pos (nI_le (by omega) (by omega)), if_neg c1]
    exact ⟨f, rfl, fun j _ => rfl⟩
section MOR
variable {z : Nat → Int32} {f : Nat → Nat → Int32} {p q u v w : Int32} {k m : Nat}
theorem M_or_a (h1 : ip_ 4 p = false) : fX9_orders (HH z f) 40 p q u v w = some (-1, HH (upd z 1280 0) f) := by
  unfold fX9_orders
  simp only [p_40_0, M_shs, h1, b_f, if_true, Option.bind_some]
theorem M_or_b (h1 : ip_ 4 p = true) (h2 : ip_ 3 q = false ∨ v < 0 ∨ (ak_ w && !(decide ((10 : Int32) < v))) = false) : fX9_orders (HH z f) 40 p q u v w = some (-2, HH (upd z 1280 0) f) := by
  unfold fX9_orders
  simp only [p_40_0, M_shs, M_lan, M_within, h1, b_t, n10_, if_false, Option.bind_some]
  cases h3 : ip_ 3 q
  · rw [b_f, if_pos rfl]
  · rw [b_t, if_neg n10_]
    cases hw : (!(decide (v < 0)) && !(decide ((10 : Int32) < v)))
    · rw [b_f, if_pos rfl]
    · rw [b_t, if_neg n10_]
      have hv : (!(decide (w < -1)) && !(decide ((5 : Int32) < w))) = false := by
        show ak_ w = false
        rw [Bool.and_eq_true] at hw
        rcases h2 with e | e | e
        · rw [h3] at e; cases e
        · rw [decide_eq_true e] at hw; cases hw.1
        · rw [hw.2, Bool.and_true] at e; exact e
      rw [hv, b_f, if_pos rfl]
theorem M_or_g {g : Int32} (hk : k < 4) (hm : m ≤ 10) (h3 : ip_ 3 q = true) (hw : ak_ w = true) (hg : ¬ g = 0) (hag : fX9_against (HH (upd z 1280 0) f) 40 (nI k) q u (2 * nI m) = some g) : fX9_orders (HH z f) 40 (nI k) q u (nI m) w = some (-10 - g, HH (upd z 1280 g) f) := by
  have h4 : ip_ 4 (nI k) = true := ip_nI (by decide) hk
  have hw' : (!(decide (w < -1)) && !(decide ((5 : Int32) < w))) = true := hw
  unfold fX9_orders
  simp only [p_40_0, M_shs, M_lan, M_within, wi_m hm, hw', h4, h3, b_t, n10_, if_false, ob_40, hag, hg, M_flt, upd_upd, Option.bind_some]
theorem M_or_n (hk : k < 4) (hm : m ≤ 10) (h3 : ip_ 3 q = true) (hw : ak_ w = true) (hag : fX9_against (HH (upd z 1280 0) f) 40 (nI k) q u (2 * nI m) = some 0) (h0 : z 1285 = 0) : fX9_orders (HH z f) 40 (nI k) q u (nI m) w = some (-3, HH (upd z 1280 0) f) := by
  have h4 : ip_ 4 (nI k) = true := ip_nI (by decide) hk
  have hw' : (!(decide (w < -1)) && !(decide ((5 : Int32) < w))) = true := hw
  have e1 : (upd z 1280 0) 1285 = 0 := by rw [upd_ne (by decide)]; exact h0
  unfold fX9_orders
  simp only [p_40_0, M_shs, M_lan, M_within, wi_m hm, hw', h4, h3, b_t, n10_, if_false, ob_40, hag, if_true, g_40_5, e1, Option.bind_some]
theorem M_or_x {i n : Nat} (hk : k < 4) (hm : m ≤ 10) (hn : n ≤ 6) (hn0 : n ≠ 0) (him : i + 2 * m ≤ 60) (h3 : ip_ 3 q = true) (hw : ak_ w = true) (hag : fX9_against (HH (upd z 1280 0) f) 40 (nI k) q (nI i) (2 * nI m) = some 0) (h0 : z 1285 = nI n) (hrw : ¬ rw_ n (fun t => f 43 (60 * k + i + t)) 0 m = true) : fX9_orders (HH z f) 40 (nI k) q (nI i) (nI m) w = some (-1, HH (upd z 1280 0) f) := by
  have h4 : ip_ 4 (nI k) = true := ip_nI (by decide) hk
  have hw' : (!(decide (w < -1)) && !(decide ((5 : Int32) < w))) = true := hw
  have e1 : (upd z 1280 0) 1285 = nI n := by rw [upd_ne (by decide)]; exact h0
  have hne : ¬ nI n = 0 := nI_ne0 (by omega) (by omega)
  have ht := M_rtw (z := upd z 1280 0) (f := f) (c := 60 * k + i) hm (by omega) e1
  rw [if_neg hrw] at ht
  unfold fX9_orders
  simp only [p_40_0, M_shs, M_lan, M_within, wi_m hm, hw', h4, h3, b_t, n10_, if_false, ob_40, hag, if_true, g_40_5, e1, hne, ix60, ht, m10_, Option.bind_some]
theorem M_or_y {i n : Nat} {c : Nat → Bool} {a b : Nat → Nat} (hk : k < 4) (hm : m ≤ 10) (h2 : 2 ≤ n) (hn : n ≤ 6) (him : i + 2 * m ≤ 60) (h3 : ip_ 3 q = true) (hw : ak_ w = true) (hag : fX9_against (HH (upd z 1280 0) f) 40 (nI k) q (nI i) (2 * nI m) = some 0) (h0 : z 1285 = nI n) (hrw : rw_ n (fun t => f 43 (60 * k + i + t)) 0 m = true) (hc : ∀ t, c t = true) (hab : ∀ t, t < m → a t ≠ b t) (hf : ∀ t, t < m → f 43 (60 * k + i + 2 * t) = nI (a t) ∧ f 43 (60 * k + i + 2 * t + 1) = nI (b t) ∧ a t < n ∧ b t < n) : ∃ f', fX9_orders (HH z f) 40 (nI k) q (nI i) (nI m) w = some (if w = -1 then nI (cn_ (vd_ (fun U q => ok_ c a b U q m) n 0) (fc_ n)) else ivl_ n w (fi_ (vd_ (fun U q => ok_ c a b U q m) n 0) (fc_ n)), HH (upd z 1280 0) f') ∧ ∀ j, j ≠ 52 → j ≠ 53 → f' j = f j := by
  have h4 : ip_ 4 (nI k) = true := ip_nI (by decide) hk
  have hw' : (!(decide (w < -1)) && !(decide ((5 : Int32) < w))) = true := hw
  have e1 : (upd z 1280 0) 1285 = nI n := by rw [upd_ne (by decide)]; exact h0
  have hne : ¬ nI n = 0 := nI_ne0 (by omega) (by omega)
  have ht := M_rtw (z := upd z 1280 0) (f := f) (c := 60 * k + i) hm (by omega) e1
  rw [if_pos hrw] at ht
  have h720 := fc_le n (by omega)
  obtain ⟨f1, l1, l2⟩ := M_ol (z := upd z 1280 0) (cc := 60 * k + i) (k := w) (c := c) h2 hn hm (by omega) e1 hc hab (fc_ n) 0 f fu_ (by omega) (fu_gt (by omega)) hf
  rw [show cn_ (vd_ (fun U q => ok_ c a b U q m) n 0) 0 = 0 from rfl, show fi_ (vd_ (fun U q => ok_ c a b U q m) n 0) 0 = none from rfl, show ivl_ n w none = -9 from rfl, nI_0] at l1
  refine ⟨f1, ?_, l2⟩
  unfold fX9_orders
  simp only [p_40_0, M_shs, M_lan, M_within, wi_m hm, hw', h4, h3, b_t, n10_, if_false, ob_40, hag, if_true, g_40_5, e1, hne, ix60, ht, l1, Option.bind_some]
  by_cases cw : w = -1
  · rw [if_pos cw, if_pos cw]
  · rw [if_neg cw, if_neg cw]
end MOR
theorem op_orders : Op_orders := by
  intro z f p q u v w iv
  have iv0 := iv
  obtain ⟨n, K, S, T, G, r, A, B, W, U, hP, hG, hX, hS, hR⟩ := iv
  have hn := hP.2.1
  rcases tw_pre hn hS hP.2.2.1 p q u v (ak_ w) with ⟨h1, hr⟩ | ⟨h1, h2, hr⟩ | ⟨k, m, hk, hm, rfl, h3, rfl, hw, hh⟩
  · exact ⟨-1, upd z 8 0, f, upd (upd z 8 0) 1280 0, f, C_or_r m10_ hr, M_or_a h1, Inv_fl iv0⟩
  · exact ⟨-2, upd z 8 0, f, upd (upd z 8 0) 1280 0, f, C_or_r m20_ hr, M_or_b h1 h2, Inv_fl iv0⟩
  · rcases hh with ⟨g, hg, hg0, hr, hag⟩ | ⟨hag, ⟨hn0, hr⟩ | ⟨hn0, i, b0, rfl, him, hb60, hb, hr⟩⟩
    · exact ⟨-10 - g, upd z 8 g, f, upd (upd z 8 g) 1280 g, f, C_or_r hg0 hr, M_or_g hk hm h3 hw hg (hag _), Inv_fl iv0⟩
    · refine ⟨-3, upd z 8 0, f, upd (upd z 8 0) 1280 0, f, C_or_r m30_ hr, M_or_n hk hm h3 hw (hag _) ?_, Inv_fl iv0⟩
      rw [upd_ne (by decide), hP.2.2.2.1, hn0, nI_0]
    · have hcell : ∀ t, t < 2 * m → f (33 + 2 * k) (i + t) = f 43 (60 * k + i + t) := fun t ht => by
        rw [(hS k hk).2 (i + t) (by omega), Nat.add_assoc]
      have hre : rw_ n (fun t => f (33 + 2 * k) (i + t)) 0 m = rw_ n (fun t => f 43 (60 * k + i + t)) 0 m := rw_cg m 0 (fun t ht => hcell t (by omega))
      have h33 : (upd z 8 0) 33 = nI n := by rw [upd_ne (by decide)]; exact hP.2.2.1
      have h2n : 2 ≤ n := by
        rcases hP.1 with e | e
        · exact absurd e hn0
        · exact e
      by_cases hrw : rw_ n (fun t => f (33 + 2 * k) (i + t)) 0 m = true
      · rw [if_pos hrw] at hr
        obtain ⟨a, b, hab⟩ := tw_at hn hrw
        have hf : ∀ t, t < m → f (33 + 2 * k) (i + 2 * t) = nI (a t) ∧ f (33 + 2 * k) (i + 2 * t + 1) = nI (b t) ∧ a t < n ∧ b t < n := fun t ht => by
          obtain ⟨x1, x2, x3, x4, _⟩ := hab t ht
          exact ⟨x1, x2, x3, x4⟩
        have ha6 : ∀ t, t < m → a t < 6 := fun t ht => by have := (hf t ht).2.2.1; omega
        have htk := C_take (X := 0) (z := upd z 8 0) (f := f) hk hn hm (by decide) hb60 him (by rw [upd_ne (by omega)]; exact hb) hf
        rw [nI_0] at htk
        have hc : ∀ t, (fun t => !(Nat.testBit 0 t)) t = true := fun t => by (try dsimp only); rw [Nat.zero_testBit]; rfl
        have h99 : (upd (upd z 8 0) 899 (nI n)) 899 = nI n := upd_eq
        have h29 : ∀ p, p < n → (up2 f 29 (tk29_ (fun t => !(Nat.testBit 0 t)) a b m (f 29))) 29 p = nI (btb_ (fun t => !(Nat.testBit 0 t)) a b p m) := fun p hp => by
          rw [up2_eq]
          unfold tk29_
          rw [if_pos (by omega)]
        have p0 : pcN_ 6 0 + n = n := by rw [pcN_0]; omega
        have hfin : ∀ (e : Int32) (f1 : Nat → Nat → Int32), fX8_orders (HH z f) 0 (nI k) q (nI i) (nI m) w = some (e, HH (upd (upd z 8 0) 899 (nI n)) f1) → (∀ j, j < 24 ∨ 33 ≤ j → f1 j = f j) → e = (if w = -1 then nI (cn_ (vd_ (fun U q => ok_ (fun t => !(Nat.testBit 0 t)) a b U q m) n 0) (fc_ n)) else ivl_ n w (fi_ (vd_ (fun U q => ok_ (fun t => !(Nat.testBit 0 t)) a b U q m) n 0) (fc_ n))) → ∃ (r : Int32) (z1 : Nat → Int32) (f1 : Nat → Nat → Int32) (z2 : Nat → Int32) (f2 : Nat → Nat → Int32), fX8_orders (HH z f) 0 (nI k) q (nI i) (nI m) w = some (r, HH z1 f1) ∧ fX9_orders (HH z1 f1) 40 (nI k) q (nI i) (nI m) w = some (r, HH z2 f2) ∧ Inv z2 f2 := by
          intro e f1 h1 h2 h4
          have e1 : FC_ (upd z 8 0) f (upd (upd z 8 0) 899 (nI n)) f1 := ⟨fun j hj => upd_ne (by omega), h2⟩
          have f43 : f1 43 = f 43 := h2 43 (by omega)
          obtain ⟨f2, y1, y2⟩ := M_or_y (z := upd (upd z 8 0) 899 (nI n)) (f := f1) (q := q) (w := w) (a := a) (b := b) (c := fun t => !(Nat.testBit 0 t)) hk hm h2n hn (show i + 2 * m ≤ 60 by omega) h3 hw (by rw [ag_same (y := z) (f := f) hk (h2 41 (by omega)) (h2 42 (by omega))]; exact hag z) (by rw [upd_ne (by decide), upd_ne (by decide)]; exact hP.2.2.2.1) (by rw [f43, ← hre]; exact hrw) hc (fun t ht => (hab t ht).2.2.2.2) (fun t ht => by
            rw [f43, Nat.add_assoc (60 * k + i) (2 * t) 1, ← hcell (2 * t) (by omega), ← hcell (2 * t + 1) (by omega)]
            exact hf t ht)
          refine ⟨e, _, f1, _, f2, h1, by rw [h4]; exact y1, ?_⟩
          have hFS : FS_ (upd (upd (upd z 8 0) 899 (nI n)) 1280 0) f1 (upd (upd (upd z 8 0) 899 (nI n)) 1280 0) f2 := ⟨fun _ _ => rfl, fun j hj => y2 j (by omega) (by omega)⟩
          refine FS_I hFS ?_
          obtain ⟨x1, x2, x3⟩ := hX
          refine ⟨n, K, S, T, G, r, A, B, W, U, IvP_z (by decide) (FS_P (FS_C e1) (IvP_z (by decide) hP)), IvG_z hn (by decide) (FS_G hn (FS_C e1) (IvG_z hn (by decide) hG)), ⟨?_, ?_, ?_⟩, IvS_z (by decide) (FS_S (FS_C e1) (IvS_z (by decide) hS)), IvR_z (by decide) (FS_R (FS_C e1) (IvR_z (by decide) hR))⟩
          · rw [upd_ne (by decide), upd_ne (by decide), upd_ne (by decide), upd_ne (by decide), upd_ne (by decide), upd_ne (by decide)]; exact x1
          · rw [upd_ne (by decide), upd_ne (by decide), upd_ne (by decide), upd_ne (by decide), upd_ne (by decide), upd_ne (by decide)]; exact x2
          · rw [upd_ne (by decide), upd_eq, e1.1 8 (by omega), upd_eq]
        rcases ak_at hw with rfl | ⟨k0, hk0, rfl⟩
        · obtain ⟨f1, e1, e2⟩ := C_hm (z := upd (upd z 8 0) 899 (nI n)) (c := fun t => !(Nat.testBit 0 t)) (a := a) (b := b) (m := m) hn ha6 h99 h29
          refine hfin _ f1 (C_or_h hk h33 hr htk e1) (fun j hj => by rw [e2 j (by omega), up2_ne (by omega)]) ?_
          rw [if_pos rfl]
          unfold nU_
          rw [pcN_0, Nat.sub_zero]
        · obtain ⟨f1, e1, e2⟩ := C_pof (z := upd (upd z 8 0) 899 (nI n)) (c := fun t => !(Nat.testBit 0 t)) (a := a) (b := b) (m := m) hn hk0 ha6 h99 h29
          refine hfin _ f1 (C_or_p hk0 hk h33 hr htk e1) (fun j hj => by rw [e2 j (by omega), up2_ne (by omega)]) ?_
          rw [if_neg (show ¬ nI k0 = -1 from fun e => by
            have h9 : ¬ nI k0 < 0 := nI_pos (by omega)
            rw [e] at h9
            exact h9 (by decide))]
          have hip := ip_d hn (show k0 < 2 ^ 31 by omega)
          cases hls : ls_ n (mf_ (fun t => !(Nat.testBit 0 t)) a b m) n 0 with
          | none =>
            obtain ⟨X, hX1, _⟩ := ls_no (c := fun t => !(Nat.testBit 0 t)) (b := b) hn n 0 (Nat.two_pow_pos n) p0 hls (fun t ht => (hf t ht).2.2.1)
            have hno : fi_ (vd_ (fun U q => ok_ (fun t => !(Nat.testBit 0 t)) a b U q m) n 0) (fc_ n) = none := fi_none _ (fun x hx => by
              cases hv : vd_ (fun U q => ok_ (fun t => !(Nat.testBit 0 t)) a b U q m) n 0 x
              · rfl
              · exact absurd (vd_stk (c := fun t => !(Nat.testBit 0 t)) hn X hX1 n 0 x (Nat.two_pow_pos n) p0 hx hv (fun y _ => Nat.zero_testBit y)) (fun h => h))
            rw [hno]
            by_cases c : k0 < n
            · rw [if_pos c]; rfl
            · rw [if_neg c]; rfl
          | some l =>
            obtain ⟨g, g1, g2, g3, g4⟩ := ls_first (c := fun t => !(Nat.testBit 0 t)) (b := b) hn n 0 l (Nat.two_pow_pos n) p0 hls
            rw [fi_eq g2 g4 (fc_ n) g1]
            simp only [ivl_, hip, g3, nI_clamp (show k0 < 2 ^ 31 by omega), decide_eq_true_eq]
      · rw [if_neg hrw] at hr
        refine ⟨-1, upd z 8 0, f, upd (upd z 8 0) 1280 0, f, C_or_r m10_ hr, ?_, Inv_fl iv0⟩
        rw [hre] at hrw
        exact M_or_x hk hm hn hn0 (by omega) h3 hw (hag _) (by rw [upd_ne (by decide)]; exact hP.2.2.2.1) hrw
