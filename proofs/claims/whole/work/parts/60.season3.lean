theorem it_s {S X : Type} {b : S → Option (S ⊕ X)} {m : Nat} {s s' : S} (h : b s = some (.inl s')) : it_ b (m + 1) s = it_ b m s' := by simp only [it_, h, Option.bind_some]
theorem it_e {S X : Type} {b : S → Option (S ⊕ X)} {m : Nat} {s : S} {x : X} (h : b s = some (.inr x)) : it_ b (m + 1) s = some x := by simp only [it_, h, Option.bind_some]
theorem become18 {z : Nat → Int32} {f : Nat → Nat → Int32} {p : Nat} (hp : p < 6) (x0 x1 x2 x3 : Int32) (hx : x3 = 0 ∨ x3 = 1) : fX2_become (HH z f) (18 + p) x0 x1 x2 x3 = some (HH (upd (upd (upd (upd z (32 * (18 + p) + 0) x0) (32 * (18 + p) + 1) x1) (32 * (18 + p) + 2) x2) (32 * (18 + p) + 3) x3) f) := by
  unfold fX2_become
  rw [pp18 hp (show 0 < 4 by decide), Option.bind_some, pp18 hp (show 1 < 4 by decide), Option.bind_some, pp18 hp (show 2 < 4 by decide), Option.bind_some, pz18 hp _ _ _ hx, Option.bind_some]
def LK_ (z : Nat → Int32) (f : Nat → Nat → Int32) (n i : Nat) (z' : Nat → Int32) : Prop := FC_ z f z' f ∧ z' 513 = nI n ∧ ∀ p, p < i → ∀ k, k < 4 → z' (32 * (18 + p) + k) = z (32 * (3 + p) + k)
theorem S_like1 {z z' : Nat → Int32} {f : Nat → Nat → Int32} {n i : Nat} (hn : n ≤ 6) (hg : ∀ p, p < n → z (32 * (3 + p) + 3) = 0 ∨ z (32 * (3 + p) + 3) = 1) (hi : i < n) (h : LK_ z f n i z') : ∃ z2, bX7_becomeLike_10 16 1 (nI i, HH z' f) = some (.inl (nI (i + 1), HH z2 f)) ∧ LK_ z f n (i + 1) z2 := by
  obtain ⟨h1, h2, h3⟩ := h
  have i6 : i < 6 := by omega
  have e : ∀ k, k < 4 → z' (32 * (3 + i) + k) = z (32 * (3 + i) + k) := fun k hk => h1.1 _ (by omega)
  have hgi := hg i hi
  rw [← e 3 (by decide)] at hgi
  refine ⟨upd (upd (upd (upd z' (32 * (18 + i) + 0) (z' (32 * (3 + i) + 0))) (32 * (18 + i) + 1) (z' (32 * (3 + i) + 1))) (32 * (18 + i) + 2) (z' (32 * (3 + i) + 2))) (32 * (18 + i) + 3) (z' (32 * (3 + i) + 3)), ?_, FC_z (by omega) (FC_z (by omega) (FC_z (by omega) (FC_z (by omega) h1))), ?_, ?_⟩
  · unfold bX7_becomeLike_10
    simp only [g_16_1, h2, Option.bind_some]
    rw [if_neg (nI_ge hi (by omega))]
    simp only [q_1_0, qp_ i6, q_16_0, ql18 i6, gp_ i6 (show 0 < 4 by decide), gp_ i6 (show 1 < 4 by decide), gp_ i6 (show 2 < 4 by decide), gp_ i6 (show 3 < 4 by decide), ob18 i6, become18 i6 _ _ _ _ hgi, nI_1, Option.bind_some]
  · rw [upd_ne (by omega), upd_ne (by omega), upd_ne (by omega), upd_ne (by omega)]; exact h2
  · intro p hp k hk
    by_cases hpi : p = i
    · subst hpi
      have hk4 : k = 0 ∨ k = 1 ∨ k = 2 ∨ k = 3 := by omega
      rcases hk4 with rfl | rfl | rfl | rfl
      · rw [upd_ne (by omega), upd_ne (by omega), upd_ne (by omega), upd_eq]; exact e 0 (by decide)
      · rw [upd_ne (by omega), upd_ne (by omega), upd_eq]; exact e 1 (by decide)
      · rw [upd_ne (by omega), upd_eq]; exact e 2 (by decide)
      · rw [upd_eq]; exact e 3 (by decide)
    · rw [upd_ne (by omega), upd_ne (by omega), upd_ne (by omega), upd_ne (by omega)]
      exact h3 p (by omega) k hk
theorem S_like2 {z : Nat → Int32} {f : Nat → Nat → Int32} {n : Nat} (hn : n ≤ 6) (hg : ∀ p, p < n → z (32 * (3 + p) + 3) = 0 ∨ z (32 * (3 + p) + 3) = 1) : ∀ (r i : Nat) (z' : Nat → Int32) (fuel : Nat), i + r = n → r < fuel → LK_ z f n i z' → ∃ z2, it_ (bX7_becomeLike_10 16 1) fuel (nI i, HH z' f) = some (HH z2 f) ∧ LK_ z f n n z2 := by
  intro r
  induction r with
  | zero =>
    intro i z' fuel hi hf h
    obtain ⟨fuel, rfl⟩ : ∃ y, fuel = y + 1 := ⟨fuel - 1, by omega⟩
    have hin : i = n := by omega
    subst hin
    refine ⟨z', it_e ?_, h⟩
    unfold bX7_becomeLike_10
    simp only [g_16_1, h.2.1, Option.bind_some]
    rw [if_pos (nI_le (Nat.le_refl i) (by omega))]
  | succ r ih =>
    intro i z' fuel hi hf h
    obtain ⟨fuel, rfl⟩ : ∃ y, fuel = y + 1 := ⟨fuel - 1, by omega⟩
    obtain ⟨z2, e1, e2⟩ := S_like1 hn hg (by omega) h
    rw [it_s e1]
    exact ih (i + 1) z2 fuel (by omega) (by omega) e2
theorem S_like {z : Nat → Int32} {f : Nat → Nat → Int32} {n : Nat} (hn : n ≤ 6) (h33 : z 33 = nI n) (hg : ∀ p, p < n → z (32 * (3 + p) + 3) = 0 ∨ z (32 * (3 + p) + 3) = 1) : ∃ z', fX7_becomeLike (HH z f) 16 1 = some (HH z' f) ∧ LK_ z f n n z' := by
  unfold fX7_becomeLike
  simp only [g_1_1, h33, p_16_1, Option.bind_some]
  obtain ⟨z2, e1, e2⟩ := S_like2 (f := f) hn hg n 0 (upd z 513 (nI n)) fu_ (by omega) (fu_gt (by omega)) ⟨FC_z (by omega) FC_r, upd_eq, fun p hp => by omega⟩
  rw [nI_0] at e1
  exact ⟨z2, by rw [e1, Option.bind_some], e2⟩
/-! which acts are told -/
def act_ (x : Int32) : Bool := (!(decide (x < 0)) && decide (x < 6)) || decide (x = 10) || (!(decide (x < 20)) && !(decide ((29 : Int32) < x)))
def pr_ (n : Nat) (a x : Int32) : Int32 := if act_ x then (if ip_ n a then 0 else -1) else -2
def ra_ (n : Nat) (g : Nat → Int32) : Nat → Nat → Int32
  | _, 0 => 0
  | j, k + 1 => if pr_ n (g (2 * j)) (g (2 * j + 1)) = 0 then ra_ n g (j + 1) k else pr_ n (g (2 * j)) (g (2 * j + 1))
theorem C_act {h : hp_H} (x : Int32) : fX4_isAct h x = some (bi_ (act_ x)) := by
  unfold fX4_isAct jX4_isAct_10
  by_cases c1 : x < 0
  · by_cases c3 : x = 10
    · simp [c1, c3, act_, bi_]
    · by_cases c4 : x < 20
      · simp [c1, c3, c4, act_, bi_]
      · by_cases c5 : (29 : Int32) < x
        · simp [c1, c3, c4, c5, act_, bi_]
        · simp [c1, c3, c4, c5, act_, bi_]
  · by_cases c2 : x < 6
    · simp [c1, c2, act_, bi_]
    · by_cases c3 : x = 10
      · simp [c3, act_, bi_]
      · by_cases c4 : x < 20
        · simp [c1, c2, c3, c4, act_, bi_]
        · by_cases c5 : (29 : Int32) < x
          · simp [c1, c2, c3, c4, c5, act_, bi_]
          · simp [c1, c2, c3, c4, c5, act_, bi_]
theorem lt6 (x : Int32) : ((5 : Int32) < x) ↔ ¬ (x < 6) := by
  rw [Int32.lt_iff_toInt_lt, Int32.lt_iff_toInt_lt]
  have e5 : (5 : Int32).toInt = 5 := by decide
  have e6 : (6 : Int32).toInt = 6 := by decide
  omega
theorem M_pr {z : Nat → Int32} {f : Nat → Nat → Int32} {n : Nat} (h : z 1285 = nI n) (a x : Int32) : fX9_refusesPair (HH z f) 40 a x = some (pr_ n a x) := by
  unfold fX9_refusesPair jX9_refusesPair_29
  simp only [M_within, ob_40, M_isP h, Option.bind_some]
  have hh : (if bi_ (ip_ n a) = 0 then some (-1) else some 0 : Option Int32) = some (if ip_ n a then 0 else -1) := by cases ip_ n a <;> rfl
  rw [hh]
  unfold pr_ act_
  by_cases c1 : x < 0
  · have c5 : ¬ (29 : Int32) < x ∨ True := Or.inr trivial
    by_cases c3 : x = 10
    · subst c3; exact absurd c1 (by decide)
    · have c4 : x < 20 := by
        rw [Int32.lt_iff_toInt_lt] at c1 ⊢
        have e0 : (0 : Int32).toInt = 0 := by decide
        have e20 : (20 : Int32).toInt = 20 := by decide
        omega
      simp [c1, c3, c4, bi_]
  · by_cases c2 : x < 6
    · have c2' : ¬ (5 : Int32) < x := fun e => (lt6 x).mp e c2
      simp [c1, c2, c2', bi_]
    · have c2' : (5 : Int32) < x := (lt6 x).mpr c2
      by_cases c3 : x = 10
      · simp [c3, bi_]
      · by_cases c4 : x < 20
        · simp [c1, c2, c2', c3, c4, bi_]
        · by_cases c5 : (29 : Int32) < x
          · simp [c1, c2, c2', c3, c4, c5, bi_]
          · simp [c1, c2, c2', c3, c4, c5, bi_]
theorem C_acts {z : Nat → Int32} {f : Nat → Nat → Int32} {k i m b n : Nat} (hk : k < 4) (hn : n ≤ 6) (hb60 : b ≤ 60) (him : i + 2 * m ≤ b) (h33 : z 33 = nI n) (hb : z (32 * (32 + 2 * k) + 3) = nI b) : ∀ (r j fuel : Nat), j + r = m → r < fuel → it_ (bX8_refusalOfActs_3 (HH z f) 0 (32 + 2 * k) (nI i) (nI m)) fuel (nI j) = some (if ra_ n (fun t => f (33 + 2 * k) (i + t)) j r = 0 then .inl () else .inr (ra_ n (fun t => f (33 + 2 * k) (i + t)) j r)) := by
  intro r
  induction r with
  | zero =>
    intro j fuel hj hf
    obtain ⟨fuel, rfl⟩ : ∃ y, fuel = y + 1 := ⟨fuel - 1, by omega⟩
    simp only [it_, bX8_refusalOfActs_3, ra_, if_true]
    rw [if_pos (nI_le (by omega) (by omega))]
    rfl
  | succ r ih =>
    intro j fuel hj hf
    obtain ⟨fuel, rfl⟩ : ∃ y, fuel = y + 1 := ⟨fuel - 1, by omega⟩
    have hr1 := C_rd (f := f) (j := i + 2 * j) hk hb hb60 (by omega)
    have hr2 := C_rd (f := f) (j := i + 2 * j + 1) hk hb hb60 (by omega)
    have e1 : i + 2 * j + 1 = i + (2 * j + 1) := by omega
    have hb0 : bX8_refusalOfActs_3 (HH z f) 0 (32 + 2 * k) (nI i) (nI m) (nI j) = some (if pr_ n (f (33 + 2 * k) (i + 2 * j)) (f (33 + 2 * k) (i + (2 * j + 1))) = 0 then .inl (nI (j + 1)) else .inr (.inr (pr_ n (f (33 + 2 * k) (i + 2 * j)) (f (33 + 2 * k) (i + (2 * j + 1)))))) := by
      unfold bX8_refusalOfActs_3
      rw [if_neg (nI_ge (by omega) (by omega))]
      simp only [ix2, nI_1, obs_ hk, ob_1, hr1, hr2, C_act, q_0_0, C_has h33, Option.bind_some]
      rw [e1]
      unfold pr_
      cases c1 : act_ (f (33 + 2 * k) (i + (2 * j + 1)))
      · simp only [b_f, if_true, Bool.false_eq_true, if_false, m20_]
      · cases c2 : ip_ n (f (33 + 2 * k) (i + 2 * j))
        · simp only [b_t, b_f, n10_, if_true, Bool.false_eq_true, if_false, m10_]
        · simp only [b_t, n10_, if_true, if_false]
    have hra : ra_ n (fun t => f (33 + 2 * k) (i + t)) j (r + 1) = if pr_ n (f (33 + 2 * k) (i + 2 * j)) (f (33 + 2 * k) (i + (2 * j + 1))) = 0 then ra_ n (fun t => f (33 + 2 * k) (i + t)) (j + 1) r else pr_ n (f (33 + 2 * k) (i + 2 * j)) (f (33 + 2 * k) (i + (2 * j + 1))) := rfl
    rw [hra]
    by_cases d : pr_ n (f (33 + 2 * k) (i + 2 * j)) (f (33 + 2 * k) (i + (2 * j + 1))) = 0
    · rw [if_pos d] at hb0
      rw [it_s hb0, if_pos d, ih (j + 1) fuel (by omega) (by omega)]
    · rw [if_neg d] at hb0
      rw [it_e hb0, if_neg d, if_neg d]
theorem M_acts {z : Nat → Int32} {f : Nat → Nat → Int32} {c m n : Nat} {w : Int32} (hn : n ≤ 6) (hc : c + 2 * m ≤ 240) (h1285 : z 1285 = nI n) : ∀ (r j fuel : Nat), j + r = m → r < fuel → it_ (bX9_season_103 (HH z f) 40 (nI m) w (nI c)) fuel (nI j) = some (if ra_ n (fun t => f 43 (c + t)) j r = 0 then .inl () else .inr (ra_ n (fun t => f 43 (c + t)) j r, HH z f)) := by
  intro r
  induction r with
  | zero =>
    intro j fuel hj hf
    obtain ⟨fuel, rfl⟩ : ∃ y, fuel = y + 1 := ⟨fuel - 1, by omega⟩
    simp only [it_, bX9_season_103, ra_, if_true]
    rw [if_pos (nI_le (by omega) (by omega))]
    rfl
  | succ r ih =>
    intro j fuel hj hf
    obtain ⟨fuel, rfl⟩ : ∃ y, fuel = y + 1 := ⟨fuel - 1, by omega⟩
    have e1 : c + 2 * j + 1 = c + (2 * j + 1) := by omega
    have hb0 : bX9_season_103 (HH z f) 40 (nI m) w (nI c) (nI j) = some (if pr_ n (f 43 (c + 2 * j)) (f 43 (c + (2 * j + 1))) = 0 then .inl (nI (j + 1)) else .inr (.inr (pr_ n (f 43 (c + 2 * j)) (f 43 (c + (2 * j + 1))), HH z f))) := by
      unfold bX9_season_103
      rw [if_neg (nI_ge (by omega) (by omega))]
      simp only [ix2, nI_1, ob_40, q_40_4, al43 (show c + 2 * j < 240 by omega), al43 (show c + 2 * j + 1 < 240 by omega), M_pr h1285, Option.bind_some]
      rw [e1]
      split <;> rfl
    have hra : ra_ n (fun t => f 43 (c + t)) j (r + 1) = if pr_ n (f 43 (c + 2 * j)) (f 43 (c + (2 * j + 1))) = 0 then ra_ n (fun t => f 43 (c + t)) (j + 1) r else pr_ n (f 43 (c + 2 * j)) (f 43 (c + (2 * j + 1))) := rfl
    rw [hra]
    by_cases d : pr_ n (f 43 (c + 2 * j)) (f 43 (c + (2 * j + 1))) = 0
    · rw [if_pos d] at hb0
      rw [it_s hb0, if_pos d, ih (j + 1) fuel (by omega) (by omega)]
    · rw [if_neg d] at hb0
      rw [it_e hb0, if_neg d, if_neg d]
theorem ra_all {n : Nat} {g : Nat → Int32} : ∀ (r j : Nat), ra_ n g j r = 0 → ∀ t, t < r → pr_ n (g (2 * (j + t))) (g (2 * (j + t) + 1)) = 0 := by
  intro r
  induction r with
  | zero => intro j _ t ht; omega
  | succ r ih =>
    intro j h t ht
    unfold ra_ at h
    by_cases c : pr_ n (g (2 * j)) (g (2 * j + 1)) = 0
    · rw [if_pos c] at h
      rcases Nat.eq_zero_or_pos t with d | d
      · subst d; exact c
      · have := ih (j + 1) h (t - 1) (by omega)
        rw [show j + 1 + (t - 1) = j + t by omega] at this
        exact this
    · rw [if_neg c] at h
      exact absurd h c
theorem ra_cg {n : Nat} {g g' : Nat → Int32} : ∀ (r j : Nat), (∀ t, t < 2 * (j + r) → g t = g' t) → ra_ n g j r = ra_ n g' j r := by
  intro r
  induction r with
  | zero => intro j _; rfl
  | succ r ih =>
    intro j h
    unfold ra_
    rw [h (2 * j) (by omega), h (2 * j + 1) (by omega), ih (j + 1) (fun t ht => h t (by omega))]
theorem pr_at {n : Nat} {a x : Int32} (hn : n ≤ 6) (h : pr_ n a x = 0) : a = nI a.toNatClampNeg ∧ a.toNatClampNeg < n ∧ x = nI x.toNatClampNeg ∧ ac_ x.toNatClampNeg := by
  unfold pr_ at h
  cases c1 : act_ x
  · rw [c1, if_neg Bool.false_ne_true] at h; exact absurd h (by decide)
  cases c2 : ip_ n a
  · rw [c1, c2, if_pos rfl, if_neg Bool.false_ne_true] at h; exact absurd h (by decide)
  obtain ⟨q0, hq, rfl⟩ := ip_at hn c2
  rw [nI_clamp (by omega)]
  refine ⟨rfl, hq, ?_⟩
  have hx : ∃ y, y < 30 ∧ x = nI y ∧ ac_ y := by
    unfold act_ at c1
    simp only [Bool.or_eq_true, Bool.and_eq_true, Bool.not_eq_true', decide_eq_true_eq, decide_eq_false_iff_not] at c1
    rcases c1 with (⟨d1, d2⟩ | d) | ⟨d1, d2⟩
    · obtain ⟨y, hy, rfl⟩ := nI_of d1
      have : y < 6 := Classical.byContradiction fun e => nI_nlt (b := 6) (show 6 ≤ y by omega) hy d2
      exact ⟨y, by omega, rfl, Or.inl this⟩
    · exact ⟨10, by decide, d, Or.inr (Or.inl rfl)⟩
    · have d0 : ¬ x < 0 := by
        intro e
        apply d1
        rw [Int32.lt_iff_toInt_lt] at e ⊢
        have e0 : (0 : Int32).toInt = 0 := by decide
        have e20 : (20 : Int32).toInt = 20 := by decide
        omega
      obtain ⟨y, hy, rfl⟩ := nI_of d0
      have l1 : 20 ≤ y := Classical.byContradiction fun e => d1 (nI_lt (b := 20) (by omega) (by decide))
      have l2 : y ≤ 29 := Classical.byContradiction fun e => d2 (nI_lt (a := 29) (by omega) hy)
      exact ⟨y, by omega, rfl, Or.inr (Or.inr ⟨l1, by omega⟩)⟩
  obtain ⟨y, hy, rfl, hac⟩ := hx
  rw [nI_clamp (by omega)]
  exact ⟨rfl, hac⟩
/-! copies of the feints -/
theorem M_keep {z : Nat → Int32} {f : Nat → Nat → Int32} {n : Nat} {v4 v5 v7 v8 : Int32} (hn : n ≤ 6) (h : z 1285 = nI n) : it_ (bX9_season_165 40 v4 v5 v7 v8) fu_ (0, HH z f) = some (HH z (up2 f 48 (fun p => if p < n then f 46 p else f 48 p))) := by
  refine it_at (fun j => (nI j, HH z (up2 f 48 (fun p => if p < j then f 46 p else f 48 p)))) n ?_ (fun j hj => ?_) ?_ fu_ (fu_gt (by omega))
  · (try dsimp only)
    rw [up2_self (fun q => by simp), nI_0]
  · unfold bX9_season_165
    dsimp only
    simp only [g_40_5, h, Option.bind_some]
    rw [if_neg (nI_ge hj (by omega))]
    simp only [q_40_14, q_40_10, al46 (show j < 6 by omega), ax48 (show j < 6 by omega), up2_eq, up2_up2, up2_ne (show (46 : Nat) ≠ 48 by decide), nI_1, Option.bind_some]
    have e2 : upd (fun p => if p < j then f 46 p else f 48 p) j (f 46 j) = fun p => if p < j + 1 then f 46 p else f 48 p := by
      funext p
      by_cases c : p = j
      · subst c; simp [upd]
      · simp only [upd, if_neg c]
        by_cases c2 : p < j
        · rw [if_pos c2, if_pos (by omega)]
        · rw [if_neg c2, if_neg (by omega)]
    rw [e2]
  · unfold bX9_season_165
    dsimp only
    simp only [g_40_5, h, Option.bind_some]
    rw [if_pos (nI_le (Nat.le_refl n) (by omega))]
theorem M_back {z : Nat → Int32} {f : Nat → Nat → Int32} {n : Nat} {v5 v9 v10 : Int32} (hn : n ≤ 6) (h : z 1285 = nI n) : it_ (bX9_season_221 40 v5 v9 v10) fu_ (0, HH z f) = some (HH z (up2 f 46 (fun p => if p < n then f 48 p else f 46 p))) := by
  refine it_at (fun j => (nI j, HH z (up2 f 46 (fun p => if p < j then f 48 p else f 46 p)))) n ?_ (fun j hj => ?_) ?_ fu_ (fu_gt (by omega))
  · (try dsimp only)
    rw [up2_self (fun q => by simp), nI_0]
  · unfold bX9_season_221
    dsimp only
    simp only [g_40_5, h, Option.bind_some]
    rw [if_neg (nI_ge hj (by omega))]
    simp only [q_40_14, q_40_10, al48 (show j < 6 by omega), ax46 (show j < 6 by omega), up2_eq, up2_up2, up2_ne (show (48 : Nat) ≠ 46 by decide), nI_1, Option.bind_some]
    have e2 : upd (fun p => if p < j then f 48 p else f 46 p) j (f 48 j) = fun p => if p < j + 1 then f 48 p else f 46 p := by
      funext p
      by_cases c : p = j
      · subst c; simp [upd]
      · simp only [upd, if_neg c]
        by_cases c2 : p < j
        · rw [if_pos c2, if_pos (by omega)]
        · rw [if_neg c2, if_neg (by omega)]
    rw [e2]
  · unfold bX9_season_221
    dsimp only
    simp only [g_40_5, h, Option.bind_some]
    rw [if_pos (nI_le (Nat.le_refl n) (by omega))]
theorem M_none {z : Nat → Int32} {f : Nat → Nat → Int32} {v1 v2 : Int32} : it_ (bX9_goSeason_13 40 v1 v2) fu_ (0, HH z f) = some (HH z (up2 f 49 (fun p => if p < 6 then 0 else f 49 p))) := by
  refine it_at (fun j => (nI j, HH z (up2 f 49 (fun p => if p < j then 0 else f 49 p)))) 6 ?_ (fun j hj => ?_) ?_ fu_ (fu_gt (by omega))
  · (try dsimp only)
    rw [up2_self (fun q => by simp), nI_0]
  · unfold bX9_goSeason_13
    dsimp only
    rw [if_neg (show ¬ (6 : Int32) ≤ nI j from nI_ge (b := 6) hj (by decide))]
    simp only [q_40_15, ax49 hj, up2_eq, up2_up2, nI_1, Option.bind_some]
    have e2 : upd (fun p => if p < j then 0 else f 49 p) j 0 = fun p => if p < j + 1 then 0 else f 49 p := by
      funext p
      by_cases c : p = j
      · subst c; simp [upd]
      · simp only [upd, if_neg c]
        by_cases c2 : p < j
        · rw [if_pos c2, if_pos (by omega)]
        · rw [if_neg c2, if_neg (by omega)]
    rw [e2]
  · unfold bX9_goSeason_13
    dsimp only
    rw [if_pos (show (6 : Int32) ≤ nI 6 by decide)]
