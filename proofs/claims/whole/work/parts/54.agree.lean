def PC_ (z : Nat → Int32) (n : Nat) (K S T : Nat → Nat) : Prop := n ≤ 6 ∧ z 33 = nI n ∧ ∀ p, p < n → K p < 3 ∧ S p < 10 ∧ T p < 10 ∧ z (32 * (3 + p) + 0) = nI (K p) ∧ z (32 * (3 + p) + 1) = nI (S p) ∧ z (32 * (3 + p) + 2) = nI (T p)
def PM_ (z : Nat → Int32) (f : Nat → Nat → Int32) (n : Nat) (K S T : Nat → Nat) : Prop := n ≤ 6 ∧ z 1285 = nI n ∧ ∀ p, p < n → K p < 3 ∧ S p < 10 ∧ T p < 10 ∧ f 44 p = nI (K p) ∧ f 45 p = nI (S p) ∧ f 46 p = nI (T p)
def RC_ (z : Nat → Int32) (f : Nat → Nat → Int32) (n r : Nat) (A B W U : Nat → Nat) : Prop := r ≤ 8 ∧ z 324 = nI r ∧ ∀ q, q < r → A q < n ∧ B q < n ∧ A q ≠ B q ∧ W q < 2 ∧ U q < 3 ∧ f 11 q = nI (A q) ∧ f 12 q = nI (B q) ∧ f 13 q = nI (W q) ∧ f 14 q = nI (U q)
def RM_ (z : Nat → Int32) (f : Nat → Nat → Int32) (n r : Nat) (A B W U : Nat → Nat) : Prop := r ≤ 8 ∧ z 1304 = nI r ∧ ∀ q, q < r → A q < n ∧ B q < n ∧ A q ≠ B q ∧ W q < 2 ∧ U q < 3 ∧ f 54 q = nI (A q) ∧ f 55 q = nI (B q) ∧ f 56 q = nI (W q) ∧ f 57 q = nI (U q)
theorem PC_of {z : Nat → Int32} {f : Nat → Nat → Int32} {n : Nat} {K S T : Nat → Nat} (h : IvP z f n K S T) : PC_ z n K S T := ⟨h.2.1, h.2.2.1, fun p hp => by
  obtain ⟨h1, h2, h3, e0, e1, e2, e3, e4, e5⟩ := h.2.2.2.2 p hp
  exact ⟨h1, h2, h3, e0, e2, e4⟩⟩
theorem PM_of {z : Nat → Int32} {f : Nat → Nat → Int32} {n : Nat} {K S T : Nat → Nat} (h : IvP z f n K S T) : PM_ z f n K S T := ⟨h.2.1, h.2.2.2.1, fun p hp => by
  obtain ⟨h1, h2, h3, e0, e1, e2, e3, e4, e5⟩ := h.2.2.2.2 p hp
  exact ⟨h1, h2, h3, e1, e3, e5⟩⟩
theorem RC_of {z : Nat → Int32} {f : Nat → Nat → Int32} {n r : Nat} {A B W U : Nat → Nat} (h : IvR z f n r A B W U) : RC_ z f n r A B W U := ⟨h.1, h.2.1, fun q hq => by
  obtain ⟨a1, a2, a3, a4, a5, e0, e1, e2, e3, e4, e5, e6, e7⟩ := h.2.2.2 q hq
  exact ⟨a1, a2, a3, a4, a5, e0, e2, e4, e6⟩⟩
theorem RM_of {z : Nat → Int32} {f : Nat → Nat → Int32} {n r : Nat} {A B W U : Nat → Nat} (h : IvR z f n r A B W U) : RM_ z f n r A B W U := ⟨h.1, h.2.2.1, fun q hq => by
  obtain ⟨a1, a2, a3, a4, a5, e0, e1, e2, e3, e4, e5, e6, e7⟩ := h.2.2.2 q hq
  exact ⟨a1, a2, a3, a4, a5, e1, e3, e5, e7⟩⟩
theorem RC_z {z : Nat → Int32} {f : Nat → Nat → Int32} {n r : Nat} {A B W U : Nat → Nat} {k : Nat} {x : Int32} (hk : k ≠ 324) (h : RC_ z f n r A B W U) : RC_ (upd z k x) f n r A B W U := ⟨h.1, by rw [upd_ne (Ne.symm hk)]; exact h.2.1, h.2.2⟩
theorem RM_f {z : Nat → Int32} {f : Nat → Nat → Int32} {n r : Nat} {A B W U : Nat → Nat} {i : Nat} {g : Nat → Int32} (hi : i < 54) (h : RM_ z f n r A B W U) : RM_ z (up2 f i g) n r A B W U := by
  refine ⟨h.1, h.2.1, fun q hq => ?_⟩
  rw [up2_ne (by omega), up2_ne (by omega), up2_ne (by omega), up2_ne (by omega)]
  exact h.2.2 q hq
def rs_ (K S T : Nat → Nat) (a b w : Nat) : Nat := if w = 0 then (if bF_ K S a < bF_ K S b then 0 else if bF_ K S a = bF_ K S b then 1 else 2) else (if wF_ K S T a < wF_ K S T b then 0 else if wF_ K S T a = wF_ K S T b then 1 else 2)
def ab_ (g : Nat → Bool) : Nat → Bool
  | 0 => true
  | k + 1 => ab_ g k && g k
theorem ab_t {g : Nat → Bool} : ∀ {n : Nat}, ab_ g n = true → ∀ i, i < n → g i = true := by
  intro n
  induction n with
  | zero => intro _ i hi; omega
  | succ n ih =>
    intro h i hi
    simp only [ab_, Bool.and_eq_true] at h
    rcases Nat.lt_or_ge i n with c | c
    · exact ih h.1 i c
    · rw [show i = n by omega]; exact h.2
theorem ab_f {g : Nat → Bool} : ∀ {n : Nat}, ab_ g n = false → ∃ i, i < n ∧ g i = false := by
  intro n
  induction n with
  | zero => intro h; cases h
  | succ n ih =>
    intro h
    cases c : ab_ g n
    · obtain ⟨i, hi, e⟩ := ih c
      exact ⟨i, by omega, e⟩
    · simp only [ab_, c, Bool.true_and] at h
      exact ⟨n, by omega, h⟩
theorem it_all {X : Type} {b : Int32 → Option (Int32 ⊕ X)} (g : Nat → Bool) (n : Nat) (ok bad : X) (h1 : ∀ i, i < n → b (nI i) = some (if g i then .inl (nI (i + 1)) else .inr bad)) (h2 : b (nI n) = some (.inr ok)) (hn : n < 4999) : it_ b fu_ 0 = some (if ab_ g n then ok else bad) := by
  cases c : ab_ g n
  · obtain ⟨i, ⟨hi, hg⟩, hl⟩ := pk_least (fun i => i < n ∧ g i = false) (ab_f c)
    have hgood : ∀ j, j < i → g j = true := fun j hj => by
      cases e : g j
      · exact absurd ⟨by omega, e⟩ (hl j hj)
      · rfl
    refine it_at (fun j => nI j) i nI_0 (fun j hj => ?_) ?_ fu_ (fu_gt (by omega))
    · rw [h1 j (by omega), hgood j hj]; rfl
    · rw [h1 i hi, hg]; rfl
  · refine it_at (fun j => nI j) n nI_0 (fun j hj => ?_) h2 fu_ (fu_gt (by omega))
    rw [h1 j hj, ab_t c j hj]; rfl
theorem t2_nI {n a b : Nat} (hn : n ≤ 6) (ha : a < n) (hb : b < n) (hab : a ≠ b) : t2_ n (nI a) (nI b) = true := by
  simp only [t2_, ip_nI hn ha, ip_nI hn hb, Bool.true_and, Bool.not_eq_true', decide_eq_false_iff_not]
  exact fun e => hab ((nI_eq (by omega) (by omega)).mp e)
theorem cmp_C {h : hp_H} {x y : Nat} (hx : x ≤ 18) (hy : y ≤ 18) : jX0_resultOf_31 h (nI x) (nI y) = some (nI (if x < y then 0 else if x = y then 1 else 2)) := by
  unfold jX0_resultOf_31 fJ6_compare_7cf53
  by_cases c1 : x < y
  · rw [if_neg (nI_ge c1 (by omega)), if_pos c1]; rfl
  · rw [if_pos (nI_le (by omega) (by omega)), if_neg c1]
    by_cases c2 : x = y
    · subst c2; rw [if_pos rfl, if_pos rfl]; rfl
    · rw [if_neg (fun e => c2 ((nI_eq (by omega) (by omega)).mp e)), if_neg c2]; rfl
theorem C_res {z : Nat → Int32} {f : Nat → Nat → Int32} {n : Nat} {K S T : Nat → Nat} (h : PC_ z n K S T) {a b w : Nat} (ha : a < n) (hb : b < n) (hw : w < 2) : fX0_resultOf (HH z f) (3 + a) (3 + b) (nI w) = some (nI (rs_ K S T a b w)) := by
  obtain ⟨hn, -, h5⟩ := h
  obtain ⟨a1, a2, a3, e0, e1, e2⟩ := h5 a ha
  obtain ⟨b1, b2, b3, g0, g1, g2⟩ := h5 b hb
  have x1 : bF_ K S a ≤ 18 := bN_le a2
  have x2 : bF_ K S b ≤ 18 := bN_le b2
  have y1 := wF_le (K := K) (S := S) (T := T) a
  have y2 := wF_le (K := K) (S := S) (T := T) b
  unfold fX0_resultOf jX0_resultOf_15
  simp only [obp_ (show a < 6 by omega), obp_ (show b < 6 by omega), C_best (f := f) (show a < 6 by omega) a1 e0 e1, C_best (f := f) (show b < 6 by omega) b1 g0 g1, C_worst (f := f) (show a < 6 by omega) a1 a2 a3 e0 e1 e2, C_worst (f := f) (show b < 6 by omega) b1 b2 b3 g0 g1 g2, Option.bind_some]
  match w, hw with
  | 0, _ =>
    rw [if_pos nI_0, if_pos nI_0]
    exact cmp_C x1 x2
  | 1, _ =>
    rw [if_neg (show ¬ nI 1 = 0 by decide), if_neg (show ¬ nI 1 = 0 by decide)]
    exact cmp_C (x := wF_ K S T a) (y := wF_ K S T b) (by omega) (by omega)
theorem C_ag {z : Nat → Int32} {f : Nat → Nat → Int32} {n r : Nat} {K S T A B W U : Nat → Nat} (h : PC_ z n K S T) (hR : RC_ z f n r A B W U) : fX0_agrees (HH z f) 10 1 = some (bi_ (ab_ (fun q => decide (rs_ K S T (A q) (B q) (W q) = U q)) r)) := by
  have hn := h.1
  obtain ⟨hr, h324, h4⟩ := hR
  have al : ∀ i q, SP_[i]? = some (.inr (.inl 8)) → q < 8 → al_ (HH z f) i (nI q) = some (f i q) := fun i q hi hq => HH_al hi hq (by decide)
  unfold fX0_agrees
  have e9 : it_ (bX0_agrees_2 (HH z f) 10 1) fu_ 0 = some (if ab_ (fun q => decide (rs_ K S T (A q) (B q) (W q) = U q)) r then .inl () else .inr 0) := by
    refine it_all (fun q => decide (rs_ K S T (A q) (B q) (W q) = U q)) r (Sum.inl () : Unit ⊕ Int32) (Sum.inr 0) (fun q hq => ?_) ?_ (by omega)
    · obtain ⟨a1, a2, a3, a4, a5, e0, e2, e4, e6⟩ := h4 q hq
      unfold bX0_agrees_2
      simp only [g_10_4, h324, q_10_0, q_10_1, q_10_2, q_10_3, al 11 q rfl (by omega), al 12 q rfl (by omega), al 13 q rfl (by omega), al 14 q rfl (by omega), e0, e2, e4, e6, ob_1, C_two h.2.1, t2_nI hn a1 a2 a3, b_t, n10_, if_false, q_1_0, qp_ (show A q < 6 by omega), qp_ (show B q < 6 by omega), C_res h a1 a2 a4, Option.bind_some]
      rw [if_neg (nI_ge hq (by omega))]
      have hrs : rs_ K S T (A q) (B q) (W q) < 3 := by unfold rs_; split <;> split <;> (try split) <;> omega
      by_cases c : rs_ K S T (A q) (B q) (W q) = U q
      · rw [if_pos (by rw [c]), nI_1]; simp [c]
      · rw [if_neg (fun e => c ((nI_eq (by omega) (by omega)).mp e))]; simp [c]
    · unfold bX0_agrees_2
      simp only [g_10_4, h324, Option.bind_some]
      rw [if_pos (nI_le (Nat.le_refl r) (by omega))]
  rw [e9, Option.bind_some]
  cases ab_ (fun q => decide (rs_ K S T (A q) (B q) (W q) = U q)) r <;> rfl
theorem M_ag {z : Nat → Int32} {f : Nat → Nat → Int32} {n r : Nat} {K S T A B W U : Nat → Nat} (h : PM_ z f n K S T) (hR : RM_ z f n r A B W U) : fX9_areSo (HH z f) 40 = some (bi_ (ab_ (fun q => decide (rs_ K S T (A q) (B q) (W q) = U q)) r)) := by
  have hn := h.1
  obtain ⟨hr, h324, h4⟩ := hR
  have al : ∀ i q, SP_[i]? = some (.inr (.inl 8)) → q < 8 → al_ (HH z f) i (nI q) = some (f i q) := fun i q hi hq => HH_al hi hq (by decide)
  unfold fX9_areSo
  have e9 : it_ (bX9_areSo_2 (HH z f) 40) fu_ 0 = some (if ab_ (fun q => decide (rs_ K S T (A q) (B q) (W q) = U q)) r then .inl () else .inr 0) := by
    refine it_all (fun q => decide (rs_ K S T (A q) (B q) (W q) = U q)) r (Sum.inl () : Unit ⊕ Int32) (Sum.inr 0) (fun q hq => ?_) ?_ (by omega)
    · obtain ⟨a1, a2, a3, a4, a5, e0, e2, e4, e6⟩ := h4 q hq
      obtain ⟨c1, c2, c3, k0, k1, k2⟩ := h.2.2 (A q) a1
      obtain ⟨d1, d2, d3, l0, l1, l2⟩ := h.2.2 (B q) a2
      have x1 : bF_ K S (A q) ≤ 18 := bN_le c2
      have x2 : bF_ K S (B q) ≤ 18 := bN_le d2
      have y1 := wF_le (K := K) (S := S) (T := T) (A q)
      have y2 := wF_le (K := K) (S := S) (T := T) (B q)
      have fin : ∀ x y : Nat, x ≤ 18 → y ≤ 18 → jX9_areSo_70_2 (HH z f) 40 (nI q) (nI x) (nI y) = some (if (decide ((if x < y then 0 else if x = y then 1 else 2) = U q)) then .inl (nI (q + 1)) else .inr (.inr 0)) := by
        intro x y hx hy
        unfold jX9_areSo_70_2 jX9_areSo_95_2
        simp only [q_40_28, al 57 q rfl (by omega), e6, Option.bind_some]
        have key : ∀ v : Nat, v < 3 → (if nI v = nI (U q) then some (Sum.inl (nI q + 1)) else some (Sum.inr (Sum.inr 0)) : Option (Int32 ⊕ (Unit ⊕ Int32))) = some (if (decide (v = U q)) then .inl (nI (q + 1)) else .inr (.inr 0)) := by
          intro v hv
          by_cases c : v = U q
          · rw [if_pos (by rw [c]), nI_1]; simp [c]
          · rw [if_neg (fun e => c ((nI_eq (by omega) (by omega)).mp e))]; simp [c]
        by_cases c1 : x < y
        · rw [if_pos (nI_le (by omega) (by omega)), if_neg (fun e => by have := (nI_eq (a := x) (b := y) (by omega) (by omega)).mp e; omega), if_pos c1]
          exact key 0 (by decide)
        · by_cases c2 : x = y
          · subst c2
            rw [if_pos (nI_le (by omega) (by omega)), if_pos rfl, if_neg c1, if_pos rfl]
            exact key 1 (by decide)
          · rw [if_neg (nI_ge (by omega) (by omega)), if_neg c1, if_neg c2]
            exact key 2 (by decide)
      unfold bX9_areSo_2 jX9_areSo_46_2
      simp only [g_40_24, h324, q_40_25, q_40_26, q_40_27, al 54 q rfl (by omega), al 55 q rfl (by omega), al 56 q rfl (by omega), e0, e2, e4, ob_40, M_best (z := z) (show A q < 6 by omega) c1 k0 k1, M_best (z := z) (show B q < 6 by omega) d1 l0 l1, M_worst (z := z) (show A q < 6 by omega) c1 c2 c3 k0 k1 k2, M_worst (z := z) (show B q < 6 by omega) d1 d2 d3 l0 l1 l2, Option.bind_some]
      rw [if_neg (nI_ge hq (by omega))]
      rcases (show W q = 0 ∨ W q = 1 by omega) with w0 | w0
      · rw [w0, if_pos nI_0, if_pos nI_0]
        simp only [rs_, if_true]
        exact fin _ _ x1 x2
      · rw [w0, if_neg (show ¬ nI 1 = 0 by decide), if_neg (show ¬ nI 1 = 0 by decide)]
        simp only [rs_, show ¬ ((1 : Nat) = 0) by decide, if_false]
        exact fin (wF_ K S T (A q)) (wF_ K S T (B q)) (by omega) (by omega)
    · unfold bX9_areSo_2
      simp only [g_40_24, h324, Option.bind_some]
      rw [if_pos (nI_le (Nat.le_refl r) (by omega))]
  rw [e9, Option.bind_some]
  cases ab_ (fun q => decide (rs_ K S T (A q) (B q) (W q) = U q)) r <;> rfl
def st_ (g : Nat → Bool) : Nat → Int32
  | 0 => 0
  | v + 1 => if g v then st_ g v ||| ((1 : Int32) <<< (nI v &&& 31)) else st_ g v
theorem upd_self {z : Nat → Int32} {k : Nat} {x : Int32} (h : z k = x) : upd z k x = z := by
  funext j
  by_cases e : j = k
  · subst e; rw [upd_eq, h]
  · rw [upd_ne e]

theorem PC_strengths {z : Nat → Int32} {n : Nat} {K S T : Nat → Nat} (h : PC_ z n K S T) {a v : Nat} (ha : a < n) (hv : v < 10) : PC_ (upd z (32 * (3 + a) + 1) (nI v)) n K (uN_ S a v) T := by
  refine ⟨h.1, by rw [upd_ne (by omega)]; exact h.2.1, fun p hp => ?_⟩
  obtain ⟨g1, g2, g3, e0, e1, e2⟩ := h.2.2 p hp
  by_cases c : p = a
  · subst c
    refine ⟨g1, by simp [uN_]; exact hv, g3, by rw [upd_ne (by omega)]; exact e0, by rw [upd_eq]; simp [uN_], by rw [upd_ne (by omega)]; exact e2⟩
  · refine ⟨g1, by simp only [uN_, if_neg c]; exact g2, g3, by rw [upd_ne (by omega)]; exact e0, by rw [upd_ne (by omega)]; simp only [uN_, if_neg c]; exact e1, by rw [upd_ne (by omega)]; exact e2⟩
theorem PM_strengths {z : Nat → Int32} {f : Nat → Nat → Int32} {n : Nat} {K S T : Nat → Nat} (h : PM_ z f n K S T) {a v : Nat} (ha : a < n) (hv : v < 10) : PM_ z (up2 f 45 (upd (f 45) a (nI v))) n K (uN_ S a v) T := by
  refine ⟨h.1, h.2.1, fun p hp => ?_⟩
  obtain ⟨g1, g2, g3, e0, e1, e2⟩ := h.2.2 p hp
  by_cases c : p = a
  · subst c
    refine ⟨g1, by simp [uN_]; exact hv, g3, by rw [up2_ne (by decide)]; exact e0, by rw [up2_eq, upd_eq]; simp [uN_], by rw [up2_ne (by decide)]; exact e2⟩
  · refine ⟨g1, by simp only [uN_, if_neg c]; exact g2, g3, by rw [up2_ne (by decide)]; exact e0, by rw [up2_eq, upd_ne c]; simp only [uN_, if_neg c]; exact e1, by rw [up2_ne (by decide)]; exact e2⟩
theorem op_strengths : Op_strengths := by
  intro z f p iv
  have iv0 := iv
  obtain ⟨n, K, S, T, G, r, A, B, W, U, hP, hG, hX, hS, hR⟩ := iv
  have hn := hP.2.1
  unfold fX8_strengths fX8_agreeing
  simp only [q_0_0, ob_0, ob_1, C_has hP.2.2.1, Option.bind_some]
  cases h2 : ip_ n p
  · refine ⟨-1, z, f, z, f, by simp only [b_f, if_true, Option.bind_some], ?_, iv0⟩
    unfold fX9_strengths
    simp only [ob_40, M_isP hP.2.2.2.1, Option.bind_some, h2, b_f, if_true]
  · obtain ⟨a, ha, rfl⟩ := ip_at hn h2
    have h6 := P_six hP ha
    obtain ⟨g1, g2, g3, e0, e1, e2, e3, e4, e5⟩ := hP.2.2.2.2 a ha
    have hC := PC_of hP
    have hM := PM_of hP
    have rC := RC_of hR
    have rM := RM_of hR
    obtain ⟨gd, hgd⟩ : ∃ gd : Nat → Bool, gd = fun v => ab_ (fun q => decide (rs_ K (uN_ S a v) T (A q) (B q) (W q) = U q)) r := ⟨_, rfl⟩
    refine ⟨st_ gd 10, z, f, z, f, ?_, ?_, iv0⟩
    · have ec : it_ (bX8_agreeing_38 0 1 10 (3 + a) (nI (S a))) fu_ (0, 0, HH z f) = some (st_ gd 10, HH (upd z (32 * (3 + a) + 1) (nI 9)) f) := by
        refine it_at (fun v => (st_ gd v, nI v, HH (if v = 0 then z else upd z (32 * (3 + a) + 1) (nI (v - 1))) f)) 10 ?_ (fun v hv => ?_) ?_ fu_ (fu_gt (by omega))
        · (try dsimp only)
          rw [if_pos rfl, nI_0]
          rfl
        · have ez : upd (if v = 0 then z else upd z (32 * (3 + a) + 1) (nI (v - 1))) (32 * (3 + a) + 1) (nI v) = upd z (32 * (3 + a) + 1) (nI v) := by
            split
            · rfl
            · exact upd_upd
          have eg : gd v = ab_ (fun q => decide (rs_ K (uN_ S a v) T (A q) (B q) (W q) = U q)) r := by rw [hgd]
          unfold bX8_agreeing_38 jX8_agreeing_75_38 fX2_setTrait
          dsimp only
          rw [if_neg (show ¬ (10 : Int32) ≤ nI v from nI_ge (b := 10) hv (by decide))]
          simp only [obp_ h6, n10_, if_false, if_true, pp_ h6 (show 1 < 4 by decide), ez, q_0_0, q_0_2, ob_10, C_ag (PC_strengths hC ha hv) (RC_z (show 32 * (3 + a) + 1 ≠ 324 by omega) rC), ← eg, Option.bind_some]
          rw [if_neg (show ¬ v + 1 = 0 by omega), Nat.add_sub_cancel]
          cases c : gd v
          · simp only [b_f, if_true, nI_1, st_, c, Bool.false_eq_true, if_false]
          · simp only [b_t, n10_, if_false, nI_1, st_, c, if_true]
        · unfold bX8_agreeing_38
          dsimp only
          rw [if_pos (show (10 : Int32) ≤ nI 10 by decide), if_neg (by decide)]
      simp only [b_t, n10_, if_false, q_1_0, qp_ h6, obp_ h6, fX2_trait, n10_, if_false, if_true, gp_ h6 (show 1 < 4 by decide), e2, ec, fX2_setTrait, pp_ h6 (show 1 < 4 by decide), upd_upd, upd_self e2, Option.bind_some]
    · have ec : it_ (bX9_strengths_22 40 (nI a) (nI (S a))) fu_ (0, 0, HH z f) = some (st_ gd 10, HH z (up2 f 45 (upd (f 45) a (nI 9)))) := by
        refine it_at (fun v => (st_ gd v, nI v, HH z (if v = 0 then f else up2 f 45 (upd (f 45) a (nI (v - 1)))))) 10 ?_ (fun v hv => ?_) ?_ fu_ (fu_gt (by omega))
        · (try dsimp only)
          rw [if_pos rfl, nI_0]
          rfl
        · have ez : up2 (if v = 0 then f else up2 f 45 (upd (f 45) a (nI (v - 1)))) 45 (upd ((if v = 0 then f else up2 f 45 (upd (f 45) a (nI (v - 1)))) 45) a (nI v)) = up2 f 45 (upd (f 45) a (nI v)) := by
            split
            · rfl
            · rw [up2_up2, up2_eq, upd_upd]
          have eg : gd v = ab_ (fun q => decide (rs_ K (uN_ S a v) T (A q) (B q) (W q) = U q)) r := by rw [hgd]
          unfold bX9_strengths_22 jX9_strengths_53_22
          dsimp only
          rw [if_neg (show ¬ (9 : Int32) < nI v from nI_nlt (a := 9) (b := v) (by omega) (by decide))]
          simp only [q_40_9, ax45 h6, ez, ob_40, M_ag (PM_strengths hM ha hv) (RM_f (show 45 < 54 by decide) rM), ← eg, Option.bind_some]
          rw [if_neg (show ¬ v + 1 = 0 by omega), Nat.add_sub_cancel]
          cases c : gd v
          · simp only [b_f, if_true, nI_1, st_, c, Bool.false_eq_true, if_false, or_z]
          · simp only [b_t, n10_, if_false, nI_1, st_, c, if_true]
        · unfold bX9_strengths_22
          dsimp only
          rw [if_pos (show (9 : Int32) < nI 10 by decide), if_neg (by decide)]
      unfold fX9_strengths
      have back : up2 (up2 f 45 (upd (f 45) a (nI 9))) 45 (upd ((up2 f 45 (upd (f 45) a (nI 9))) 45) a (nI (S a))) = f := by
        rw [up2_up2, up2_eq, upd_upd]
        exact up2_self (fun q => by rw [upd_self e3])
      simp only [ob_40, M_isP hP.2.2.2.1, Option.bind_some, h2, b_t, n10_, if_false, q_40_9, al45 h6, e3, ec, ax45 h6, back]

theorem PC_feints {z : Nat → Int32} {n : Nat} {K S T : Nat → Nat} (h : PC_ z n K S T) {a v : Nat} (ha : a < n) (hv : v < 10) : PC_ (upd z (32 * (3 + a) + 2) (nI v)) n K S (uN_ T a v) := by
  refine ⟨h.1, by rw [upd_ne (by omega)]; exact h.2.1, fun p hp => ?_⟩
  obtain ⟨g1, g2, g3, e0, e1, e2⟩ := h.2.2 p hp
  by_cases c : p = a
  · subst c
    refine ⟨g1, g2, by simp [uN_]; exact hv, by rw [upd_ne (by omega)]; exact e0, by rw [upd_ne (by omega)]; exact e1, by rw [upd_eq]; simp [uN_]⟩
  · refine ⟨g1, g2, by simp only [uN_, if_neg c]; exact g3, by rw [upd_ne (by omega)]; exact e0, by rw [upd_ne (by omega)]; exact e1, by rw [upd_ne (by omega)]; simp only [uN_, if_neg c]; exact e2⟩
theorem PM_feints {z : Nat → Int32} {f : Nat → Nat → Int32} {n : Nat} {K S T : Nat → Nat} (h : PM_ z f n K S T) {a v : Nat} (ha : a < n) (hv : v < 10) : PM_ z (up2 f 46 (upd (f 46) a (nI v))) n K S (uN_ T a v) := by
  refine ⟨h.1, h.2.1, fun p hp => ?_⟩
  obtain ⟨g1, g2, g3, e0, e1, e2⟩ := h.2.2 p hp
  by_cases c : p = a
  · subst c
    refine ⟨g1, g2, by simp [uN_]; exact hv, by rw [up2_ne (by decide)]; exact e0, by rw [up2_ne (by decide)]; exact e1, by rw [up2_eq, upd_eq]; simp [uN_]⟩
  · refine ⟨g1, g2, by simp only [uN_, if_neg c]; exact g3, by rw [up2_ne (by decide)]; exact e0, by rw [up2_ne (by decide)]; exact e1, by rw [up2_eq, upd_ne c]; simp only [uN_, if_neg c]; exact e2⟩
theorem op_feints : Op_feints := by
  intro z f p iv
  have iv0 := iv
  obtain ⟨n, K, S, T, G, r, A, B, W, U, hP, hG, hX, hS, hR⟩ := iv
  have hn := hP.2.1
  unfold fX8_feints fX8_agreeing
  simp only [q_0_0, ob_0, ob_1, C_has hP.2.2.1, Option.bind_some]
  cases h2 : ip_ n p
  · refine ⟨-1, z, f, z, f, by simp only [b_f, if_true, Option.bind_some], ?_, iv0⟩
    unfold fX9_feints
    simp only [ob_40, M_isP hP.2.2.2.1, Option.bind_some, h2, b_f, if_true]
  · obtain ⟨a, ha, rfl⟩ := ip_at hn h2
    have h6 := P_six hP ha
    obtain ⟨g1, g2, g3, e0, e1, e2, e3, e4, e5⟩ := hP.2.2.2.2 a ha
    have hC := PC_of hP
    have hM := PM_of hP
    have rC := RC_of hR
    have rM := RM_of hR
    obtain ⟨gd, hgd⟩ : ∃ gd : Nat → Bool, gd = fun v => ab_ (fun q => decide (rs_ K S (uN_ T a v) (A q) (B q) (W q) = U q)) r := ⟨_, rfl⟩
    refine ⟨st_ gd 10, z, f, z, f, ?_, ?_, iv0⟩
    · have ec : it_ (bX8_agreeing_38 0 2 10 (3 + a) (nI (T a))) fu_ (0, 0, HH z f) = some (st_ gd 10, HH (upd z (32 * (3 + a) + 2) (nI 9)) f) := by
        refine it_at (fun v => (st_ gd v, nI v, HH (if v = 0 then z else upd z (32 * (3 + a) + 2) (nI (v - 1))) f)) 10 ?_ (fun v hv => ?_) ?_ fu_ (fu_gt (by omega))
        · (try dsimp only)
          rw [if_pos rfl, nI_0]
          rfl
        · have ez : upd (if v = 0 then z else upd z (32 * (3 + a) + 2) (nI (v - 1))) (32 * (3 + a) + 2) (nI v) = upd z (32 * (3 + a) + 2) (nI v) := by
            split
            · rfl
            · exact upd_upd
          have eg : gd v = ab_ (fun q => decide (rs_ K S (uN_ T a v) (A q) (B q) (W q) = U q)) r := by rw [hgd]
          unfold bX8_agreeing_38 jX8_agreeing_75_38 fX2_setTrait
          dsimp only
          rw [if_neg (show ¬ (10 : Int32) ≤ nI v from nI_ge (b := 10) hv (by decide))]
          simp only [obp_ h6, show ¬ ((2 : Int32) = 0) by decide, n21_, if_false, pp_ h6 (show 2 < 4 by decide), ez, q_0_0, q_0_2, ob_10, C_ag (PC_feints hC ha hv) (RC_z (show 32 * (3 + a) + 2 ≠ 324 by omega) rC), ← eg, Option.bind_some]
          rw [if_neg (show ¬ v + 1 = 0 by omega), Nat.add_sub_cancel]
          cases c : gd v
          · simp only [b_f, if_true, nI_1, st_, c, Bool.false_eq_true, if_false]
          · simp only [b_t, n10_, if_false, nI_1, st_, c, if_true]
        · unfold bX8_agreeing_38
          dsimp only
          rw [if_pos (show (10 : Int32) ≤ nI 10 by decide), if_neg (by decide)]
      simp only [b_t, n10_, if_false, q_1_0, qp_ h6, obp_ h6, fX2_trait, show ¬ ((2 : Int32) = 0) by decide, n21_, if_false, gp_ h6 (show 2 < 4 by decide), e4, ec, fX2_setTrait, pp_ h6 (show 2 < 4 by decide), upd_upd, upd_self e4, Option.bind_some]
    · have ec : it_ (bX9_feints_22 40 (nI a) (nI (T a))) fu_ (0, 0, HH z f) = some (st_ gd 10, HH z (up2 f 46 (upd (f 46) a (nI 9)))) := by
        refine it_at (fun v => (st_ gd v, nI v, HH z (if v = 0 then f else up2 f 46 (upd (f 46) a (nI (v - 1)))))) 10 ?_ (fun v hv => ?_) ?_ fu_ (fu_gt (by omega))
        · (try dsimp only)
          rw [if_pos rfl, nI_0]
          rfl
        · have ez : up2 (if v = 0 then f else up2 f 46 (upd (f 46) a (nI (v - 1)))) 46 (upd ((if v = 0 then f else up2 f 46 (upd (f 46) a (nI (v - 1)))) 46) a (nI v)) = up2 f 46 (upd (f 46) a (nI v)) := by
            split
            · rfl
            · rw [up2_up2, up2_eq, upd_upd]
          have eg : gd v = ab_ (fun q => decide (rs_ K S (uN_ T a v) (A q) (B q) (W q) = U q)) r := by rw [hgd]
          unfold bX9_feints_22 jX9_feints_53_22
          dsimp only
          rw [if_neg (show ¬ (9 : Int32) < nI v from nI_nlt (a := 9) (b := v) (by omega) (by decide))]
          simp only [q_40_10, ax46 h6, ez, ob_40, M_ag (PM_feints hM ha hv) (RM_f (show 46 < 54 by decide) rM), ← eg, Option.bind_some]
          rw [if_neg (show ¬ v + 1 = 0 by omega), Nat.add_sub_cancel]
          cases c : gd v
          · simp only [b_f, if_true, nI_1, st_, c, Bool.false_eq_true, if_false, or_z]
          · simp only [b_t, n10_, if_false, nI_1, st_, c, if_true]
        · unfold bX9_feints_22
          dsimp only
          rw [if_pos (show (9 : Int32) < nI 10 by decide), if_neg (by decide)]
      unfold fX9_feints
      have back : up2 (up2 f 46 (upd (f 46) a (nI 9))) 46 (upd ((up2 f 46 (upd (f 46) a (nI 9))) 46) a (nI (T a))) = f := by
        rw [up2_up2, up2_eq, upd_upd]
        exact up2_self (fun q => by rw [upd_self e5])
      simp only [ob_40, M_isP hP.2.2.2.1, Option.bind_some, h2, b_t, n10_, if_false, q_40_10, al46 h6, e5, ec, ax46 h6, back]

theorem PC_kinds {z : Nat → Int32} {n : Nat} {K S T : Nat → Nat} (h : PC_ z n K S T) {a v : Nat} (ha : a < n) (hv : v < 3) : PC_ (upd z (32 * (3 + a) + 0) (nI v)) n (uN_ K a v) S T := by
  refine ⟨h.1, by rw [upd_ne (by omega)]; exact h.2.1, fun p hp => ?_⟩
  obtain ⟨g1, g2, g3, e0, e1, e2⟩ := h.2.2 p hp
  by_cases c : p = a
  · subst c
    refine ⟨by simp [uN_]; exact hv, g2, g3, by rw [upd_eq]; simp [uN_], by rw [upd_ne (by omega)]; exact e1, by rw [upd_ne (by omega)]; exact e2⟩
  · refine ⟨by simp only [uN_, if_neg c]; exact g1, g2, g3, by rw [upd_ne (by omega)]; simp only [uN_, if_neg c]; exact e0, by rw [upd_ne (by omega)]; exact e1, by rw [upd_ne (by omega)]; exact e2⟩
theorem PM_kinds {z : Nat → Int32} {f : Nat → Nat → Int32} {n : Nat} {K S T : Nat → Nat} (h : PM_ z f n K S T) {a v : Nat} (ha : a < n) (hv : v < 3) : PM_ z (up2 f 44 (upd (f 44) a (nI v))) n (uN_ K a v) S T := by
  refine ⟨h.1, h.2.1, fun p hp => ?_⟩
  obtain ⟨g1, g2, g3, e0, e1, e2⟩ := h.2.2 p hp
  by_cases c : p = a
  · subst c
    refine ⟨by simp [uN_]; exact hv, g2, g3, by rw [up2_eq, upd_eq]; simp [uN_], by rw [up2_ne (by decide)]; exact e1, by rw [up2_ne (by decide)]; exact e2⟩
  · refine ⟨by simp only [uN_, if_neg c]; exact g1, g2, g3, by rw [up2_eq, upd_ne c]; simp only [uN_, if_neg c]; exact e0, by rw [up2_ne (by decide)]; exact e1, by rw [up2_ne (by decide)]; exact e2⟩
theorem op_kinds : Op_kinds := by
  intro z f p iv
  have iv0 := iv
  obtain ⟨n, K, S, T, G, r, A, B, W, U, hP, hG, hX, hS, hR⟩ := iv
  have hn := hP.2.1
  unfold fX8_kinds fX8_agreeing
  simp only [q_0_0, ob_0, ob_1, C_has hP.2.2.1, Option.bind_some]
  cases h2 : ip_ n p
  · refine ⟨-1, z, f, z, f, by simp only [b_f, if_true, Option.bind_some], ?_, iv0⟩
    unfold fX9_kinds
    simp only [ob_40, M_isP hP.2.2.2.1, Option.bind_some, h2, b_f, if_true]
  · obtain ⟨a, ha, rfl⟩ := ip_at hn h2
    have h6 := P_six hP ha
    obtain ⟨g1, g2, g3, e0, e1, e2, e3, e4, e5⟩ := hP.2.2.2.2 a ha
    have hC := PC_of hP
    have hM := PM_of hP
    have rC := RC_of hR
    have rM := RM_of hR
    obtain ⟨gd, hgd⟩ : ∃ gd : Nat → Bool, gd = fun v => ab_ (fun q => decide (rs_ (uN_ K a v) S T (A q) (B q) (W q) = U q)) r := ⟨_, rfl⟩
    refine ⟨st_ gd 3, z, f, z, f, ?_, ?_, iv0⟩
    · have ec : it_ (bX8_agreeing_38 0 0 3 (3 + a) (nI (K a))) fu_ (0, 0, HH z f) = some (st_ gd 3, HH (upd z (32 * (3 + a) + 0) (nI 2)) f) := by
        refine it_at (fun v => (st_ gd v, nI v, HH (if v = 0 then z else upd z (32 * (3 + a) + 0) (nI (v - 1))) f)) 3 ?_ (fun v hv => ?_) ?_ fu_ (fu_gt (by omega))
        · (try dsimp only)
          rw [if_pos rfl, nI_0]
          rfl
        · have ez : upd (if v = 0 then z else upd z (32 * (3 + a) + 0) (nI (v - 1))) (32 * (3 + a) + 0) (nI v) = upd z (32 * (3 + a) + 0) (nI v) := by
            split
            · rfl
            · exact upd_upd
          have eg : gd v = ab_ (fun q => decide (rs_ (uN_ K a v) S T (A q) (B q) (W q) = U q)) r := by rw [hgd]
          unfold bX8_agreeing_38 jX8_agreeing_75_38 fX2_setTrait
          dsimp only
          rw [if_neg (show ¬ (3 : Int32) ≤ nI v from nI_ge (b := 3) hv (by decide))]
          simp only [obp_ h6, if_true, pp_ h6 (show 0 < 4 by decide), ez, q_0_0, q_0_2, ob_10, C_ag (PC_kinds hC ha hv) (RC_z (show 32 * (3 + a) + 0 ≠ 324 by omega) rC), ← eg, Option.bind_some]
          rw [if_neg (show ¬ v + 1 = 0 by omega), Nat.add_sub_cancel]
          cases c : gd v
          · simp only [b_f, if_true, nI_1, st_, c, Bool.false_eq_true, if_false]
          · simp only [b_t, n10_, if_false, nI_1, st_, c, if_true]
        · unfold bX8_agreeing_38
          dsimp only
          rw [if_pos (show (3 : Int32) ≤ nI 3 by decide), if_neg (by decide)]
      simp only [b_t, n10_, if_false, q_1_0, qp_ h6, obp_ h6, fX2_trait, if_true, gp_ h6 (show 0 < 4 by decide), e0, ec, fX2_setTrait, pp_ h6 (show 0 < 4 by decide), upd_upd, upd_self e0, Option.bind_some]
    · have ec : it_ (bX9_kinds_22 40 (nI a) (nI (K a))) fu_ (0, 0, HH z f) = some (st_ gd 3, HH z (up2 f 44 (upd (f 44) a (nI 2)))) := by
        refine it_at (fun v => (st_ gd v, nI v, HH z (if v = 0 then f else up2 f 44 (upd (f 44) a (nI (v - 1)))))) 3 ?_ (fun v hv => ?_) ?_ fu_ (fu_gt (by omega))
        · (try dsimp only)
          rw [if_pos rfl, nI_0]
          rfl
        · have ez : up2 (if v = 0 then f else up2 f 44 (upd (f 44) a (nI (v - 1)))) 44 (upd ((if v = 0 then f else up2 f 44 (upd (f 44) a (nI (v - 1)))) 44) a (nI v)) = up2 f 44 (upd (f 44) a (nI v)) := by
            split
            · rfl
            · rw [up2_up2, up2_eq, upd_upd]
          have eg : gd v = ab_ (fun q => decide (rs_ (uN_ K a v) S T (A q) (B q) (W q) = U q)) r := by rw [hgd]
          unfold bX9_kinds_22 jX9_kinds_52_22
          dsimp only
          rw [if_neg (show ¬ (3 : Int32) ≤ nI v from nI_ge (b := 3) hv (by decide))]
          simp only [q_40_8, ax44 h6, ez, ob_40, M_ag (PM_kinds hM ha hv) (RM_f (show 44 < 54 by decide) rM), ← eg, Option.bind_some]
          rw [if_neg (show ¬ v + 1 = 0 by omega), Nat.add_sub_cancel]
          cases c : gd v
          · simp only [b_f, if_true, nI_1, st_, c, Bool.false_eq_true, if_false, or_z]
          · simp only [b_t, n10_, if_false, nI_1, st_, c, if_true]
        · unfold bX9_kinds_22
          dsimp only
          rw [if_pos (show (3 : Int32) ≤ nI 3 by decide), if_neg (by decide)]
      unfold fX9_kinds
      have back : up2 (up2 f 44 (upd (f 44) a (nI 2))) 44 (upd ((up2 f 44 (upd (f 44) a (nI 2))) 44) a (nI (K a))) = f := by
        rw [up2_up2, up2_eq, upd_upd]
        exact up2_self (fun q => by rw [upd_self e1])
      simp only [ob_40, M_isP hP.2.2.2.1, Option.bind_some, h2, b_t, n10_, if_false, q_40_8, al44 h6, e1, ec, ax44 h6, back]
