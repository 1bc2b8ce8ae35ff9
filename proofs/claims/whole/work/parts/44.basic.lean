/-! what leaves the invariant's parts alone -/
theorem upd_ne {z : Nat → Int32} {k j : Nat} {x : Int32} (h : j ≠ k) : upd z k x j = z j := by simp [upd, h]
theorem upd_eq {z : Nat → Int32} {k : Nat} {x : Int32} : upd z k x k = x := by simp [upd]
theorem up2_ne {f : Nat → Nat → Int32} {i j : Nat} {g : Nat → Int32} (h : j ≠ i) : up2 f i g j = f j := by simp [up2, h]
theorem up2_eq {f : Nat → Nat → Int32} {i : Nat} {g : Nat → Int32} : up2 f i g i = g := by simp [up2]
theorem IvP_z {z : Nat → Int32} {f : Nat → Nat → Int32} {n : Nat} {K S T : Nat → Nat} {k : Nat} {x : Int32} (hk : k ≠ 33 ∧ k ≠ 1285 ∧ (k < 96 ∨ 288 ≤ k ∨ k % 32 = 3)) (h : IvP z f n K S T) : IvP (upd z k x) f n K S T := by
  obtain ⟨h1, h2, h3, h4, h5⟩ := h
  refine ⟨h1, h2, by rw [upd_ne (by omega)]; exact h3, by rw [upd_ne (by omega)]; exact h4, fun p hp => ?_⟩
  rw [upd_ne (by omega), upd_ne (by omega), upd_ne (by omega)]
  exact h5 p hp
theorem IvP_f {z : Nat → Int32} {f : Nat → Nat → Int32} {n : Nat} {K S T : Nat → Nat} {i : Nat} {g : Nat → Int32} (hi : i ≠ 44 ∧ i ≠ 45 ∧ i ≠ 46) (h : IvP z f n K S T) : IvP z (up2 f i g) n K S T := by
  obtain ⟨h1, h2, h3, h4, h5⟩ := h
  refine ⟨h1, h2, h3, h4, fun p hp => ?_⟩
  rw [up2_ne (by omega), up2_ne (by omega), up2_ne (by omega)]
  exact h5 p hp
theorem IvG_z {z : Nat → Int32} {n G : Nat} {k : Nat} {x : Int32} (hn : n ≤ 6) (hk : k ≠ 1286 ∧ (k < 96 ∨ 288 ≤ k ∨ k % 32 ≠ 3)) (h : IvG z n G) : IvG (upd z k x) n G := by
  obtain ⟨h1, h2, h3⟩ := h
  refine ⟨h1, by rw [upd_ne (by omega)]; exact h2, fun p hp => ?_⟩
  rw [upd_ne (by omega)]
  exact h3 p hp
theorem IvX_z {z : Nat → Int32} {k : Nat} {x : Int32} (hk : k ≠ 6 ∧ k ≠ 7 ∧ k ≠ 8 ∧ k ≠ 1280 ∧ k ≠ 1281 ∧ k ≠ 1287) (h : IvX z) : IvX (upd z k x) := by
  obtain ⟨h1, h2, h3⟩ := h
  refine ⟨?_, ?_, ?_⟩
  · rw [upd_ne (by omega), upd_ne (by omega)]; exact h1
  · rw [upd_ne (by omega), upd_ne (by omega)]; exact h2
  · rw [upd_ne (by omega), upd_ne (by omega)]; exact h3
theorem IvS_z {z : Nat → Int32} {f : Nat → Nat → Int32} {k : Nat} {x : Int32} (hk : k < 1024 ∨ 1280 ≤ k) (h : IvS z f) : IvS (upd z k x) f := by
  intro q hq
  rw [upd_ne (by omega), upd_ne (by omega), upd_ne (by omega)]
  exact h q hq
theorem IvS_f {z : Nat → Int32} {f : Nat → Nat → Int32} {i : Nat} {g : Nat → Int32} (hi : i < 33 ∨ 43 < i) (h : IvS z f) : IvS z (up2 f i g) := by
  intro q hq
  rw [up2_ne (by omega), up2_ne (by omega), up2_ne (by omega), up2_ne (by omega)]
  exact h q hq
theorem IvR_z {z : Nat → Int32} {f : Nat → Nat → Int32} {n r : Nat} {A B W U : Nat → Nat} {k : Nat} {x : Int32} (hk : k ≠ 324 ∧ k ≠ 1304) (h : IvR z f n r A B W U) : IvR (upd z k x) f n r A B W U := by
  obtain ⟨h1, h2, h3, h4⟩ := h
  exact ⟨h1, by rw [upd_ne (by omega)]; exact h2, by rw [upd_ne (by omega)]; exact h3, h4⟩
theorem IvR_f {z : Nat → Int32} {f : Nat → Nat → Int32} {n r : Nat} {A B W U : Nat → Nat} {i : Nat} {g : Nat → Int32} (hi : (i < 11 ∨ 14 < i) ∧ i < 54) (h : IvR z f n r A B W U) : IvR z (up2 f i g) n r A B W U := by
  obtain ⟨h1, h2, h3, h4⟩ := h
  refine ⟨h1, h2, h3, fun q hq => ?_⟩
  rw [up2_ne (by omega), up2_ne (by omega), up2_ne (by omega), up2_ne (by omega), up2_ne (by omega), up2_ne (by omega), up2_ne (by omega), up2_ne (by omega)]
  exact h4 q hq
/-! persons -/
def ip_ (n : Nat) (p : Int32) : Bool := !(decide (p < 0)) && !(decide (nI n ≤ p))
def t2_ (n : Nat) (p q : Int32) : Bool := ip_ n p && ip_ n q && !(decide (p = q))
def bi_ (b : Bool) : Int32 := if b then 1 else 0
theorem bi_0 (b : Bool) : (bi_ b = 0) = (b = false) := by cases b <;> simp [bi_]
theorem ip_at {n : Nat} {p : Int32} (hn : n ≤ 6) (h : ip_ n p = true) : ∃ q, q < n ∧ p = nI q := by
  simp only [ip_, Bool.and_eq_true, Bool.not_eq_true', decide_eq_false_iff_not] at h
  rcases pk_ix p (n := n) (by omega) with h1 | h1 | h1
  · exact absurd h1 h.1
  · exact absurd h1 h.2
  · exact h1
theorem ip_nI {n q : Nat} (hn : n ≤ 6) (h : q < n) : ip_ n (nI q) = true := by
  simp [ip_, nI_pos (show q < 2 ^ 31 by omega), nI_ge h (show n < 2 ^ 31 by omega)]
theorem t2_at {n : Nat} {p q : Int32} (hn : n ≤ 6) (h : t2_ n p q = true) : ∃ a b, a < n ∧ b < n ∧ a ≠ b ∧ p = nI a ∧ q = nI b := by
  simp only [t2_, Bool.and_eq_true, Bool.not_eq_true', decide_eq_false_iff_not] at h
  obtain ⟨a, ha, rfl⟩ := ip_at hn h.1.1
  obtain ⟨b, hb, rfl⟩ := ip_at hn h.1.2
  exact ⟨a, b, ha, hb, fun e => h.2 (by rw [e]), rfl, rfl⟩
theorem C_has {z : Nat → Int32} {f : Nat → Nat → Int32} {n : Nat} (h : z 33 = nI n) (p : Int32) : fX7_has (HH z f) 1 p = some (bi_ (ip_ n p)) := by
  unfold fX7_has
  by_cases h1 : p < 0
  · simp [h1, ip_, bi_]
  · simp only [h1, if_false, g_1_1, Option.bind_some, h]
    by_cases h2 : nI n ≤ p
    · simp [h1, h2, ip_, bi_]
    · simp [h1, h2, ip_, bi_]
theorem M_isP {z : Nat → Int32} {f : Nat → Nat → Int32} {n : Nat} (h : z 1285 = nI n) (p : Int32) : fX9_isPerson (HH z f) 40 p = some (bi_ (ip_ n p)) := by
  unfold fX9_isPerson
  by_cases h1 : p < 0
  · simp [h1, ip_, bi_]
  · simp only [h1, if_false, g_40_5, Option.bind_some, h]
    by_cases h2 : nI n ≤ p
    · simp [h1, h2, ip_, bi_]
    · simp [h1, h2, ip_, bi_]
theorem C_two {z : Nat → Int32} {f : Nat → Nat → Int32} {n : Nat} (h : z 33 = nI n) (p q : Int32) : fX7_hasTwo (HH z f) 1 p q = some (bi_ (t2_ n p q)) := by
  unfold fX7_hasTwo
  simp only [ob_1, C_has h, Option.bind_some]
  cases h1 : ip_ n p
  · simp [bi_, t2_, h1]
  · cases h2 : ip_ n q
    · simp [bi_, t2_, h1, h2]
    · by_cases h3 : p = q
      · simp [bi_, t2_, h1, h2, h3]
      · simp [bi_, t2_, h1, h2, h3]
theorem M_two {z : Nat → Int32} {f : Nat → Nat → Int32} {n : Nat} (h : z 1285 = nI n) (p q : Int32) : fX9_areTwo (HH z f) 40 p q = some (bi_ (t2_ n p q)) := by
  unfold fX9_areTwo
  simp only [ob_40, M_isP h, Option.bind_some]
  cases h1 : ip_ n p
  · simp [bi_, t2_, h1]
  · cases h2 : ip_ n q
    · simp [bi_, t2_, h1, h2]
    · by_cases h3 : p = q
      · simp [bi_, t2_, h1, h2, h3]
      · simp [bi_, t2_, h1, h2, h3]
theorem M_within {h : hp_H} (p a b : Int32) : fX9_within h p a b = some (bi_ (!(decide (p < a)) && !(decide (b < p)))) := by
  unfold fX9_within
  by_cases h1 : p < a
  · simp [h1, bi_]
  · by_cases h2 : b < p
    · simp [h1, h2, bi_]
    · simp [h1, h2, bi_]
/-! best and worst -/
def bN_ (k s : Nat) : Nat := if k = 1 then s + 1 else if k = 2 then 2 * s else s
def wN_ (k s t : Nat) : Nat := bN_ k s - t
theorem bN_le {k s : Nat} (hs : s < 10) : bN_ k s ≤ 18 := by unfold bN_; split <;> (try split) <;> omega
theorem k_cases {k : Nat} (hk : k < 3) {P : Nat → Prop} (h0 : P 0) (h1 : P 1) (h2 : P 2) : P k := by
  match k, hk with
  | 0, _ => exact h0
  | 1, _ => exact h1
  | 2, _ => exact h2
theorem C_best {z : Nat → Int32} {f : Nat → Nat → Int32} {p k s : Nat} (hp : p < 6) (hk : k < 3) (h0 : z (32 * (3 + p) + 0) = nI k) (h1 : z (32 * (3 + p) + 1) = nI s) : fX2_best (HH z f) (3 + p) = some (nI (bN_ k s)) := by
  unfold fX2_best
  simp only [gp_ hp (show 0 < 4 by decide), gp_ hp (show 1 < 4 by decide), Option.bind_some, h0, h1]
  refine k_cases (P := fun k => (if nI k = 1 then some (nI s + 1) else if nI k = 2 then some (2 * nI s) else some (nI s)) = some (nI (bN_ k s))) hk ?_ ?_ ?_
  · rfl
  · show some (nI s + 1) = _
    rw [nI_1]; rfl
  · show some (nI 2 * nI s) = _
    rw [pk_mul]; rfl
theorem mx_sub {a b : Nat} (ha : a < 2 ^ 30) (hb : b < 2 ^ 30) : mx_ 0 (nI a - nI b) = nI (a - b) := by
  unfold mx_
  by_cases h : b < a
  · rw [pk_sub (by omega), if_pos]
    exact (nI_lt (a := 0) (b := a - b) (by omega) (by omega))
  · rw [if_neg, show a - b = 0 by omega]
    · rfl
    · intro h2
      rw [Int32.lt_iff_toInt_lt, pk_sub_toInt ha hb] at h2
      simp at h2
      omega
theorem C_worst {z : Nat → Int32} {f : Nat → Nat → Int32} {p k s t : Nat} (hp : p < 6) (hk : k < 3) (hs : s < 10) (ht : t < 10) (h0 : z (32 * (3 + p) + 0) = nI k) (h1 : z (32 * (3 + p) + 1) = nI s) (h2 : z (32 * (3 + p) + 2) = nI t) : fX2_worst (HH z f) (3 + p) = some (nI (wN_ k s t)) := by
  have hb := bN_le (k := k) hs
  unfold fX2_worst
  simp only [obp_ hp, C_best hp hk h0 h1, Option.bind_some, gp_ hp (show 2 < 4 by decide), h2]
  rw [mx_sub (by omega) (by omega)]
  rfl
theorem al44 {z : Nat → Int32} {f : Nat → Nat → Int32} {p : Nat} (hp : p < 6) : al_ (HH z f) 44 (nI p) = some (f 44 p) := HH_al (n := 6) rfl hp (by decide)
theorem al45 {z : Nat → Int32} {f : Nat → Nat → Int32} {p : Nat} (hp : p < 6) : al_ (HH z f) 45 (nI p) = some (f 45 p) := HH_al (n := 6) rfl hp (by decide)
theorem al46 {z : Nat → Int32} {f : Nat → Nat → Int32} {p : Nat} (hp : p < 6) : al_ (HH z f) 46 (nI p) = some (f 46 p) := HH_al (n := 6) rfl hp (by decide)
theorem M_best {z : Nat → Int32} {f : Nat → Nat → Int32} {p k s : Nat} (hp : p < 6) (hk : k < 3) (h0 : f 44 p = nI k) (h1 : f 45 p = nI s) : fX9_bestOf (HH z f) 40 (nI p) = some (nI (bN_ k s)) := by
  unfold fX9_bestOf
  simp only [q_40_8, q_40_9, al44 hp, al45 hp, Option.bind_some, h0, h1]
  refine k_cases (P := fun k => (if nI k = 0 then some (nI s) else if nI k = 1 then some (nI s + 1) else some (2 * nI s)) = some (nI (bN_ k s))) hk ?_ ?_ ?_
  · rfl
  · show some (nI s + 1) = _
    rw [nI_1]; rfl
  · show some (nI 2 * nI s) = _
    rw [pk_mul]; rfl
theorem M_worst {z : Nat → Int32} {f : Nat → Nat → Int32} {p k s t : Nat} (hp : p < 6) (hk : k < 3) (hs : s < 10) (ht : t < 10) (h0 : f 44 p = nI k) (h1 : f 45 p = nI s) (h2 : f 46 p = nI t) : fX9_worstOf (HH z f) 40 (nI p) = some (nI (wN_ k s t)) := by
  have hb := bN_le (k := k) hs
  unfold fX9_worstOf
  simp only [ob_40, M_best hp hk h0 h1, Option.bind_some, q_40_10, al46 hp, h2]
  by_cases h : t ≤ bN_ k s
  · rw [pk_sub h, if_pos (nI_pos' (by omega))]
    rfl
  · rw [if_neg]
    · show some 0 = some (nI (bN_ k s - t))
      rw [show bN_ k s - t = 0 by omega]; rfl
    · intro h9
      have h8 := pk_sneg (a := bN_ k s) (b := t) (by omega) (by omega)
      rw [Int32.lt_iff_toInt_lt] at h8
      rw [Int32.le_iff_toInt_le] at h9
      omega
