/-! pairs: the class finds -/
theorem rmN {a b : Nat} (ha : a < 2 ^ 31) (h0 : 0 < b) (hb : b < 2 ^ 31) : rm_ (nI a) (nI b) = some (nI (a % b)) := by
  unfold rm_
  rw [if_neg (nI_ne0 h0 hb), pk_rem (by omega) (by omega) (by omega)]
theorem dvN {a b : Nat} (ha : a < 2 ^ 31) (h0 : 0 < b) (hb : b < 2 ^ 31) : dv_ (nI a) (nI b) = some (nI (a / b)) := by
  unfold dv_
  rw [if_neg (nI_ne0 h0 hb), pk_div (by omega) (by omega) (by omega)]
theorem rm6 {x : Nat} (hx : x < 36) : rm_ (nI x) 6 = some (nI (x % 6)) := rmN (b := 6) (by omega) (by decide) (by decide)
theorem dv6 {x : Nat} (hx : x < 36) : dv_ (nI x) 6 = some (nI (x / 6)) := dvN (b := 6) (by omega) (by decide) (by decide)
theorem hr_le (G : Nat) : ∀ p, hr_ G p ≤ p
  | 0 => Nat.le_refl 0
  | p + 1 => by
    have := hr_le G p
    unfold hr_
    split <;> omega
theorem gd_TO {n G j : Nat} (hj : j < 6) : gd_ (TO_ n G) j = if j < n ∧ G.testBit j = false then 10 else 9 := by
  unfold gd_ TO_
  simp [List.getD_eq_getElem?_getD, List.getElem?_map, List.getElem?_range hj]
theorem gd_TO2 {n G j : Nat} : gd_ (TO_ n G) j ≤ 10 := by
  by_cases hj : j < 6
  · rw [gd_TO hj]; split <;> omega
  · unfold gd_ TO_
    rw [List.getD_eq_getElem?_getD, List.getElem?_eq_none (by simp; omega)]
    decide
def fr_ (G j : Nat) (g : Nat → Int32) (q : Nat) : Int32 := if q < j ∧ G.testBit q = false then -1 else if q < 6 then 9 else g q
theorem C_fl {z : Nat → Int32} {f : Nat → Nat → Int32} {n G : Nat} {g : Nat → Int32} (hn : n ≤ 6) (h33 : z 33 = nI n) (hG : ∀ p, p < n → z (32 * (3 + p) + 3) = if G.testBit p then 1 else 0) : it_ (bX1_find_19 25 1) fu_ (0, 0, HH z (up2 f 26 (fr_ G 0 g))) = some (nI (hr_ G n), HH z (up2 f 26 (fr_ G n g))) := by
  refine it_at (fun j => (nI (hr_ G j), nI j, HH z (up2 f 26 (fr_ G j g)))) n ?_ (fun j hj => ?_) ?_ fu_ (fu_gt (by omega))
  · (try dsimp only)
    rw [show hr_ G 0 = 0 from rfl, nI_0]
  · have j6 : j < 6 := by omega
    unfold bX1_find_19
    dsimp only
    simp only [g_1_1, h33, Option.bind_some]
    rw [if_neg (nI_ge hj (by omega))]
    simp only [q_1_0, qp_ j6, gp_ j6 (show 3 < 4 by decide), hG j hj, Option.bind_some]
    unfold jX1_find_49_19
    have eh : hr_ G (j + 1) = hr_ G j + (if G.testBit j then 0 else 1) := rfl
    cases c : G.testBit j
    · rw [c] at eh
      rw [eh]
      have e2 : upd (fr_ G j g) j (-1) = fr_ G (j + 1) g := by
        funext q
        by_cases cq : q = j
        · subst cq
          rw [upd_eq]
          unfold fr_
          rw [if_pos ⟨by omega, c⟩]
        · rw [upd_ne cq]
          unfold fr_
          by_cases c2 : q < j ∧ G.testBit q = false
          · rw [if_pos c2, if_pos ⟨by omega, c2.2⟩]
          · rw [if_neg c2, if_neg (show ¬ (q < j + 1 ∧ G.testBit q = false) from fun w => c2 ⟨by omega, w.2⟩)]
      simp only [Bool.false_eq_true, if_false, if_true, q_25_0, ax26 j6, up2_eq, up2_up2, e2, nI_1, Option.bind_some]
    · rw [c] at eh
      rw [eh]
      have e2 : fr_ G j g = fr_ G (j + 1) g := by
        funext q
        unfold fr_
        by_cases c2 : q < j ∧ G.testBit q = false
        · rw [if_pos c2, if_pos ⟨by omega, c2.2⟩]
        · rw [if_neg c2, if_neg (show ¬ (q < j + 1 ∧ G.testBit q = false) from fun w => by
            by_cases cq : q = j
            · subst cq; rw [c] at w; cases w.2
            · exact c2 ⟨by omega, w.2⟩)]
      simp only [if_true, n10_, if_false, Nat.add_zero, ← e2, nI_1, Option.bind_some]
  · unfold bX1_find_19
    dsimp only
    simp only [g_1_1, h33, Option.bind_some]
    rw [if_pos (nI_le (Nat.le_refl n) (by omega))]
theorem C_find {z : Nat → Int32} {f : Nat → Nat → Int32} {n G : Nat} {K S T : Nat → Nat} (hP : IvP z f n K S T) (hG : IvG z n G) : ∃ z' f', fX1_find (HH z f) 25 1 = some (HH z' f') ∧ FC_ z f z' f' ∧ RS2_ z' f' ((LC_ n G).foldl (bC_ (wP_ K S T)) (6, f 27)) := by
  have hn := hP.2.1
  have h33 : (upd z 802 6) 33 = nI n := by rw [upd_ne (by decide)]; exact hP.2.2.1
  have hfl : fJ7_fill_53178 (HH (upd z 802 6) f) 26 9 = some (HH (upd z 802 6) (up2 f 26 (fr_ G 0 (f 26)))) := by
    rw [fill_gen (n := 6) rfl (by decide)]
    have e : (fun j => if j < 6 then (9 : Int32) else f 26 j) = fr_ G 0 (f 26) := by
      funext q
      unfold fr_
      rw [if_neg (show ¬ (q < 0 ∧ G.testBit q = false) by omega)]
    rw [e]
  have hlo := C_fl (z := upd z 802 6) (f := f) (G := G) (g := f 26) hn h33 (fun p hp => by rw [upd_ne (by omega)]; exact hG.2.2 p hp)
  have hrl := hr_le G n
  have hrm : rm_ (nI (hr_ G n)) 2 = some (nI (hr_ G n % 2)) := rmN (b := 2) (by omega) (by decide) (by decide)
  obtain ⟨z1, f1, e1, e2, e3, e4⟩ := C_pf (n := n) (K := K) (S := S) (Tt := T) 8 0 (hr_ G n % 2) (TO_ n G) [] (upd z 802 6) (up2 f 26 (fr_ G n (f 26))) (6, f 27) (IvP_z (by decide) (IvP_f (by decide) hP)) (by simp [TO_]) (fun j => gd_TO2) (fun j hj => by
    rw [up2_eq, gd_TO hj]
    unfold fr_
    by_cases c : j < n ∧ G.testBit j = false
    · rw [if_pos c, if_pos c]; rfl
    · rw [if_neg c, if_neg c, if_pos hj, tv_9]) ⟨upd_eq, Nat.le_refl 6, fun j hj => by rw [up2_ne (by decide)]⟩ (by omega) (by omega) (by simp) (by omega)
  refine ⟨z1, f1, ?_, FC_t (FC_z (by decide) (FC_f (by decide) FC_r)) e2, e4⟩
  rw [show cst_ (wP_ K S T) [] = 0 from rfl, nI_0] at e1
  unfold fX1_find
  simp only [p_25_2, q_25_0, hfl, hlo, hrm, ob_25, e1, Option.bind_some]
theorem C_part {z : Nat → Int32} {f : Nat → Nat → Int32} {k : Nat} (hk : k < 6) : fX1_partnerOf (HH z f) 25 (nI k) = some (if f 27 k = 9 then -9 else f 27 k) := by
  unfold fX1_partnerOf
  rw [if_neg (nI_pos (show k < 2 ^ 31 by omega)), if_neg (show ¬ (6 : Int32) ≤ nI k from fun w => nI_ge hk (by decide) (by rw [show nI 6 = 6 by decide]; exact w))]
  simp only [q_25_1, al27 hk, Option.bind_some]
  by_cases c2 : f 27 k = 9
  · rw [if_pos c2, if_pos c2]
  · rw [if_neg c2, if_neg c2]
/-! the reference tries partners -/
section TRYP
variable {z : Nat → Int32} {f : Nat → Nat → Int32} {n : Nat}
theorem al50 {p : Nat} (hp : p < 6) : al_ (HH z f) 50 (nI p) = some (f 50 p) := HH_al (n := 6) rfl hp (by decide)
theorem ax50 {p : Nat} (hp : p < 6) (x : Int32) : ax_ (HH z f) 50 (nI p) x = some (HH z (up2 f 50 (upd (f 50) p x))) := HH_ax (n := 6) rfl hp (by decide)
theorem al51 {p : Nat} (hp : p < 6) : al_ (HH z f) 51 (nI p) = some (f 51 p) := HH_al (n := 6) rfl hp (by decide)
theorem ax51 {p : Nat} (hp : p < 6) (x : Int32) : ax_ (HH z f) 51 (nI p) x = some (HH z (up2 f 51 (upd (f 51) p x))) := HH_ax (n := 6) rfl hp (by decide)
theorem tp_no {x y v : Int32} {p fuel : Nat} (h85 : z 1285 = nI n) (hf : 0 < fuel) : it_ (bX9_tryPartners_56 (HH z f) 40 x y) fuel (v, 0, nI p) = some v := by
  obtain ⟨fuel, rfl⟩ : ∃ q, fuel = q + 1 := ⟨fuel - 1, by omega⟩
  refine it_e ?_
  unfold bX9_tryPartners_56
  simp only [g_40_5, h85, if_true, ite_self, Option.bind_some]
theorem tp_cmp {x y : Int32} {g g' : Nat → Nat} (hn : n ≤ 6) (h85 : z 1285 = nI n) (hg : ∀ j, g j < 16) (hg' : ∀ j, g' j < 16) (h50 : ∀ j, j < n → f 50 j = nI (g j)) (h51 : ∀ j, j < n → f 51 j = nI (g' j)) : ∀ (d p fuel : Nat), p + d = n → d + 1 < fuel → it_ (bX9_tryPartners_56 (HH z f) 40 x y) fuel (0, 1, nI p) = some (bi_ (decide (cdn_ d p g < cdn_ d p g'))) := by
  intro d
  induction d with
  | zero =>
    intro p fuel hp hf
    obtain ⟨fuel, rfl⟩ : ∃ q, fuel = q + 1 := ⟨fuel - 1, by omega⟩
    rw [decide_eq_false (show ¬ cdn_ 0 p g < cdn_ 0 p g' from Nat.lt_irrefl 0), b_f]
    refine it_e ?_
    unfold bX9_tryPartners_56
    simp only [g_40_5, h85, Option.bind_some]
    rw [if_pos (nI_le (by omega) (by omega))]
  | succ d ih =>
    intro p fuel hp hf
    obtain ⟨fuel, rfl⟩ : ∃ q, fuel = q + 1 := ⟨fuel - 1, by omega⟩
    have p6 : p < 6 := by omega
    have k1 := hg p
    have k2 := hg' p
    have hb : bX9_tryPartners_56 (HH z f) 40 x y (0, 1, nI p) = some (.inl (if g p < g' p then 1 else 0, if g p = g' p then 1 else 0, nI (p + 1))) := by
      unfold bX9_tryPartners_56
      simp only [g_40_5, h85, Option.bind_some]
      rw [if_neg (nI_ge (show p < n by omega) (by omega)), if_neg n10_]
      simp only [q_40_18, q_40_19, al50 p6, al51 p6, h50 p (by omega), h51 p (by omega), Option.bind_some]
      unfold jX9_tryPartners_92_56 jX9_tryPartners_115_56 jX9_tryPartners_120_56
      simp only [q_40_18, q_40_19, al50 p6, al51 p6, h50 p (by omega), h51 p (by omega), if_true, Option.bind_some]
      by_cases c : g p = g' p
      · rw [if_pos (by rw [c]), if_pos (by rw [c]; exact nI_le (Nat.le_refl _) (by omega)), if_neg (show ¬ g p < g' p by omega), if_pos c, nI_1]
      · rw [if_neg (fun w => c ((nI_eq (by omega) (by omega)).mp w)), if_neg c]
        by_cases c2 : g p < g' p
        · rw [if_neg (nI_ge c2 (by omega)), if_pos c2, nI_1]
        · rw [if_pos (nI_le (by omega) (by omega)), if_neg c2, nI_1]
    rw [it_s hb]
    have hc := cdn_eq d p hg hg'
    by_cases c : g p = g' p
    · rw [if_neg (show ¬ g p < g' p by omega), if_pos c, ih (p + 1) fuel (by omega) (by omega)]
      have hd : decide (cdn_ d (p + 1) g < cdn_ d (p + 1) g') = decide (cdn_ (d + 1) p g < cdn_ (d + 1) p g') := decide_eq_decide.mpr ⟨fun q => hc.mpr (Or.inr ⟨c, q⟩), fun q => by
        rcases hc.mp q with e | e
        · exact absurd e (by omega)
        · exact e.2⟩
      rw [hd]
    · rw [if_neg c, tp_no h85 (by omega)]
      by_cases c2 : g p < g' p
      · rw [if_pos c2, decide_eq_true (hc.mpr (Or.inl c2)), b_t]
      · rw [if_neg c2, decide_eq_false (fun w => by have := hc.mp w; omega), b_f]
theorem tp_wr (hn : n ≤ 6) (h85 : z 1285 = nI n) : it_ (bX9_tryPartners_144 40) fu_ (0, HH z f) = some (HH z (up2 f 51 (fun p => if p < n then f 50 p else f 51 p))) := by
  refine it_at (fun j => (nI j, HH z (up2 f 51 (fun p => if p < j then f 50 p else f 51 p)))) n ?_ (fun j hj => ?_) ?_ fu_ (fu_gt (by omega))
  · (try dsimp only)
    rw [up2_self (fun q => by simp), nI_0]
  · unfold bX9_tryPartners_144
    dsimp only
    rw [g_40_5, Option.bind_some, h85, if_neg (nI_ge hj (by omega)), q_40_19, Option.bind_some, q_40_18, Option.bind_some, al50 (by omega), Option.bind_some, ax51 (by omega), Option.bind_some, Option.bind_some, nI_1, up2_eq, up2_up2, up2_ne (show (50 : Nat) ≠ 51 by decide)]
    have e2 : upd (fun p => if p < j then f 50 p else f 51 p) j (f 50 j) = fun p => if p < j + 1 then f 50 p else f 51 p := by
      funext q
      by_cases c : q = j
      · subst c; simp [upd]
      · simp only [upd, if_neg c]
        by_cases c2 : q < j
        · rw [if_pos c2, if_pos (by omega)]
        · rw [if_neg c2, if_neg (by omega)]
    rw [e2]
  · unfold bX9_tryPartners_144
    dsimp only
    rw [g_40_5, Option.bind_some, h85, if_pos (nI_le (Nat.le_refl n) (by omega))]
theorem tp_y {u1 u2 u3 k0 : Int32} (hn : n ≤ 6) (h85 : z 1285 = nI n) (h : it_ (bX9_tryPartners_56 (HH z f) 40 u1 u2) fu_ (u3, k0, 0) = some 1) : jX9_tryPartners_51 (HH z f) 40 u1 u2 u3 k0 = some (HH (upd (upd z 1300 u1) 1301 u2) (up2 f 51 (fun p => if p < n then f 50 p else f 51 p))) := by
  have h2 := tp_wr (z := upd (upd z 1300 u1) 1301 u2) (f := f) hn (by rw [upd_ne (by decide), upd_ne (by decide)]; exact h85)
  unfold jX9_tryPartners_51
  simp only [h, n10_, if_false, p_40_20, p_40_21, h2, Option.bind_some]
theorem tp_n {u1 u2 u3 k0 : Int32} (h : it_ (bX9_tryPartners_56 (HH z f) 40 u1 u2) fu_ (u3, k0, 0) = some 0) : jX9_tryPartners_51 (HH z f) 40 u1 u2 u3 k0 = some (HH z f) := by
  unfold jX9_tryPartners_51
  simp only [h, if_true, Option.bind_some]
def MR_ (z : Nat → Int32) (f : Nat → Nat → Int32) (n : Nat) (w : Nat → Nat) (s : el_T) : Prop := z 1300 = nI s.2.length ∧ z 1301 = nI (cst_ w s.2) ∧ s.2.length ≤ 3 ∧ (∀ j, gd_ s.1 j < 16) ∧ ∀ p, p < n → f 51 p = nI (gd_ s.1 p)
theorem ky_lt {w : Nat → Nat} {a s : el_T} (hn : n ≤ 6) (ha : a.2.length ≤ 3) (hs : s.2.length ≤ 3) (ga : ∀ j, gd_ a.1 j < 16) (gs : ∀ j, gd_ s.1 j < 16) : ky_ n w a < ky_ n w s ↔ (s.2.length < a.2.length ∨ (a.2.length = s.2.length ∧ (cst_ w a.2 < cst_ w s.2 ∨ (cst_ w a.2 = cst_ w s.2 ∧ cd_ n a < cd_ n s)))) := by
  have pw : 16 ^ n ≤ 16 ^ 6 := Nat.pow_le_pow_right (by decide) hn
  have d1 : cd_ n a < 16 ^ n := cdn_lt n 0 ga
  have d2 : cd_ n s < 16 ^ n := cdn_lt n 0 gs
  have e1 := cst_le (w := w) a.2
  have e2 := cst_le (w := w) s.2
  unfold ky_
  omega
theorem M_try {w : Nat → Nat} {s : el_T} {T ps : List Nat} (hn : n ≤ 6) (h85 : z 1285 = nI n) (hT : ∀ j, gd_ T j < 16) (h50 : ∀ j, j < 6 → f 50 j = nI (gd_ T j)) (hl : ps.length ≤ 3) (hs : MR_ z f n w s) : ∃ z' f', fX9_tryPartners (HH z f) 40 (nI ps.length) (nI (cst_ w ps)) = some (HH z' f') ∧ FN_ z f z' f' ∧ f' 50 = f 50 ∧ MR_ z' f' n w (bM_ n w s (T, ps)) := by
  obtain ⟨s1, s2, s3, s4, s5⟩ := hs
  have hk := ky_lt (w := w) (a := (T, ps)) (s := s) hn hl s3 hT s4
  dsimp only at hk
  have e1 := cst_le (w := w) ps
  have e2 := cst_le (w := w) s.2
  have hY : ky_ n w (T, ps) < ky_ n w s → fX9_tryPartners (HH z f) 40 (nI ps.length) (nI (cst_ w ps)) = some (HH (upd (upd z 1300 (nI ps.length)) 1301 (nI (cst_ w ps))) (up2 f 51 (fun p => if p < n then f 50 p else f 51 p))) → ∃ z' f', fX9_tryPartners (HH z f) 40 (nI ps.length) (nI (cst_ w ps)) = some (HH z' f') ∧ FN_ z f z' f' ∧ f' 50 = f 50 ∧ MR_ z' f' n w (bM_ n w s (T, ps)) := by
    intro hl1 h
    have hb : bM_ n w s (T, ps) = (T, ps) := by unfold bM_; rw [if_pos hl1]
    rw [hb]
    refine ⟨_, _, h, FN_z (by decide) (FN_z (by decide) (FN_f (by decide) FN_r)), up2_ne (by decide), ?_, upd_eq, hl, hT, fun p hp => ?_⟩
    · rw [upd_ne (by decide), upd_eq]
    · rw [up2_eq]
      dsimp only
      rw [if_pos hp]
      exact h50 p (by omega)
  have hN : ¬ ky_ n w (T, ps) < ky_ n w s → fX9_tryPartners (HH z f) 40 (nI ps.length) (nI (cst_ w ps)) = some (HH z f) → ∃ z' f', fX9_tryPartners (HH z f) 40 (nI ps.length) (nI (cst_ w ps)) = some (HH z' f') ∧ FN_ z f z' f' ∧ f' 50 = f 50 ∧ MR_ z' f' n w (bM_ n w s (T, ps)) := by
    intro hl1 h
    have hb : bM_ n w s (T, ps) = s := by unfold bM_; rw [if_neg hl1]
    rw [hb]
    exact ⟨z, f, h, FN_r, rfl, s1, s2, s3, s4, s5⟩
  have f0 : 0 < fu_ := fu_gt (by decide)
  by_cases c1 : s.2.length < ps.length
  · refine hY (hk.mpr (Or.inl c1)) ?_
    unfold fX9_tryPartners jX9_tryPartners_24 jX9_tryPartners_29 jX9_tryPartners_50
    simp only [g_40_20, g_40_21, s1, s2, Option.bind_some]
    rw [if_pos (nI_lt c1 (by omega)), if_neg (fun e => by have := (nI_eq (by omega) (by omega)).mp e; omega)]
    exact tp_y hn h85 (by rw [← nI_0]; exact tp_no h85 f0)
  by_cases c2 : ps.length = s.2.length
  · by_cases c3 : cst_ w s.2 ≤ cst_ w ps
    · by_cases c4 : cst_ w ps = cst_ w s.2
      · have hc := tp_cmp (f := f) (x := nI ps.length) (y := nI (cst_ w ps)) hn h85 hT s4 (fun j hj => h50 j (by omega)) s5 n 0 fu_ (by omega) (fu_gt (by omega))
        rw [nI_0] at hc
        by_cases c5 : cdn_ n 0 (gd_ T) < cdn_ n 0 (gd_ s.1)
        · refine hY (hk.mpr (Or.inr ⟨c2, Or.inr ⟨c4, c5⟩⟩)) ?_
          rw [decide_eq_true c5, b_t] at hc
          unfold fX9_tryPartners jX9_tryPartners_24 jX9_tryPartners_28 jX9_tryPartners_29 jX9_tryPartners_50
          simp only [g_40_20, g_40_21, s1, s2, Option.bind_some]
          rw [if_neg (nI_nlt (show ps.length ≤ s.2.length by omega) (by omega)), if_pos (by rw [c2]), if_pos (nI_le c3 (by omega)), if_pos (by rw [c2]), if_pos (by rw [c4])]
          exact tp_y hn h85 hc
        · refine hN (fun e => by have := hk.mp e; rcases this with g1 | ⟨_, g1 | ⟨_, g1⟩⟩; omega; omega; exact c5 g1) ?_
          rw [decide_eq_false c5, b_f] at hc
          unfold fX9_tryPartners jX9_tryPartners_24 jX9_tryPartners_28 jX9_tryPartners_29 jX9_tryPartners_50
          simp only [g_40_20, g_40_21, s1, s2, Option.bind_some]
          rw [if_neg (nI_nlt (show ps.length ≤ s.2.length by omega) (by omega)), if_pos (by rw [c2]), if_pos (nI_le c3 (by omega)), if_pos (by rw [c2]), if_pos (by rw [c4])]
          exact tp_n hc
      · refine hN (fun e => by have := hk.mp e; omega) ?_
        unfold fX9_tryPartners jX9_tryPartners_24 jX9_tryPartners_28 jX9_tryPartners_29 jX9_tryPartners_50
        simp only [g_40_20, g_40_21, s1, s2, Option.bind_some]
        rw [if_neg (nI_nlt (show ps.length ≤ s.2.length by omega) (by omega)), if_pos (by rw [c2]), if_pos (nI_le c3 (by omega)), if_pos (by rw [c2]), if_neg (fun e => c4 ((nI_eq (by omega) (by omega)).mp e))]
        exact tp_n (by rw [← nI_0]; exact tp_no h85 f0)
    · refine hY (hk.mpr (Or.inr ⟨c2, Or.inl (by omega)⟩)) ?_
      unfold fX9_tryPartners jX9_tryPartners_24 jX9_tryPartners_28 jX9_tryPartners_29 jX9_tryPartners_50
      simp only [g_40_20, g_40_21, s1, s2, Option.bind_some]
      rw [if_neg (nI_nlt (show ps.length ≤ s.2.length by omega) (by omega)), if_pos (by rw [c2]), if_neg (nI_ge (by omega) (by omega)), if_pos (by rw [c2]), if_neg (fun e => by have := (nI_eq (by omega) (by omega)).mp e; omega)]
      exact tp_y hn h85 (by rw [← nI_0]; exact tp_no h85 f0)
  · refine hN (fun e => by have := hk.mp e; omega) ?_
    unfold fX9_tryPartners jX9_tryPartners_24 jX9_tryPartners_28 jX9_tryPartners_29 jX9_tryPartners_50
    simp only [g_40_20, g_40_21, s1, s2, Option.bind_some]
    rw [if_neg (nI_nlt (show ps.length ≤ s.2.length by omega) (by omega)), if_neg (fun e => c2 ((nI_eq (by omega) (by omega)).mp e)), if_neg (fun e => c2 ((nI_eq (by omega) (by omega)).mp e))]
    exact tp_n (by rw [← nI_0]; exact tp_no h85 f0)
end TRYP
