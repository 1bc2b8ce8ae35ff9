/-! the reference's orders by number -/
theorem M_of {h : hp_H} {n : Nat} (h1 : 1 ≤ n) (hn : n ≤ 6) : fX9_ordersOf h (nI n) = some (nI (fc_ n)) := by
  have hl : it_ (bX9_ordersOf_4 h (nI n)) fu_ (1, 2) = some (nI (fc_ n)) := by
    refine it_at (fun j => (nI (fc_ (j + 1)), nI (j + 2))) (n - 1) rfl (fun j hj => ?_) ?_ fu_ (fu_gt (by omega))
    · unfold bX9_ordersOf_4
      (try dsimp only)
      rw [if_neg (nI_nlt (show j + 2 ≤ n by omega) (by omega)), Option.bind_some, Option.bind_some, pk_mul, nI_1, show fc_ (j + 1 + 1) = (j + 1 + 1) * fc_ (j + 1) from rfl, Nat.mul_comm]
    · unfold bX9_ordersOf_4
      (try dsimp only)
      rw [if_pos (nI_lt (show n < n - 1 + 2 by omega) (by omega)), show n - 1 + 1 = n by omega]
  unfold fX9_ordersOf
  rw [hl, Option.bind_some]
theorem M_ntx {h : hp_H} {U : Nat} {x6 sc kk : Int32} (hU : U < 64) : ∀ (d s q fuel : Nat), q + d ≤ 6 → d < fuel → s < 1000 → stp_ U d s q = true → it_ (bX9_findRow_39 h 40 x6 sc (nI U) kk) fuel (nI s, nI q) = some (nI (ntx_ U d s q)) := by
  intro d
  induction d with
  | zero =>
    intro s q fuel hq hf hs hst
    obtain ⟨fuel, rfl⟩ : ∃ y, fuel = y + 1 := ⟨fuel - 1, by omega⟩
    unfold stp_ at hst
    rw [Bool.and_eq_true, decide_eq_true_eq, Bool.not_eq_true'] at hst
    refine it_e ?_
    unfold bX9_findRow_39
    simp only [M_isX (show U < 2 ^ 31 by omega) (show q < 10 by omega), hst.1, hst.2, b_f, if_true, Option.bind_some]
    rw [if_pos (show nI 0 ≤ 0 by decide)]
    rfl
  | succ d ih =>
    intro s q fuel hq hf hs hst
    obtain ⟨fuel, rfl⟩ : ∃ y, fuel = y + 1 := ⟨fuel - 1, by omega⟩
    have e1 : stp_ U (d + 1) s q = if (U.testBit q || decide (0 < s)) = true then stp_ U d (s - (if U.testBit q then 0 else 1)) (q + 1) else true := rfl
    have e2 : ntx_ U (d + 1) s q = if (U.testBit q || decide (0 < s)) = true then ntx_ U d (s - (if U.testBit q then 0 else 1)) (q + 1) else q := rfl
    rw [e1] at hst
    rw [e2]
    cases c1 : U.testBit q
    · rw [c1, Bool.false_or] at hst
      rw [Bool.false_or]
      by_cases c2 : 0 < s
      · rw [decide_eq_true c2, if_pos rfl] at hst
        rw [decide_eq_true c2, if_pos rfl]
        have hst2 : stp_ U d (s - 1) (q + 1) = true := hst
        show _ = some (nI (ntx_ U d (s - 1) (q + 1)))
        rw [← ih (s - 1) (q + 1) fuel (by omega) (by omega) (by omega) hst2]
        refine it_s ?_
        unfold bX9_findRow_39 jX9_findRow_54_39 jX9_findRow_71_39
        simp only [M_isX (show U < 2 ^ 31 by omega) (show q < 10 by omega), c1, b_f, if_true, Option.bind_some]
        rw [if_neg (nI_nle c2 (by omega)), show nI s - 1 = nI (s - 1) from pk_sub (b := 1) (by omega), nI_1]
      · have c3 : s = 0 := by omega
        subst c3
        rw [decide_eq_false c2, if_neg Bool.false_ne_true]
        refine it_e ?_
        unfold bX9_findRow_39
        simp only [M_isX (show U < 2 ^ 31 by omega) (show q < 10 by omega), c1, b_f, if_true, Option.bind_some]
        rw [if_pos (show nI 0 ≤ 0 by decide)]
    · rw [c1, Bool.true_or, if_pos rfl] at hst
      rw [Bool.true_or, if_pos rfl]
      have hst2 : stp_ U d s (q + 1) = true := hst
      show _ = some (nI (ntx_ U d s (q + 1)))
      rw [← ih s (q + 1) fuel (by omega) (by omega) hs hst2]
      refine it_s ?_
      unfold bX9_findRow_39 jX9_findRow_54_39 jX9_findRow_71_39
      simp only [M_isX (show U < 2 ^ 31 by omega) (show q < 10 by omega), c1, b_t, n10_, if_false, Int32.sub_zero, nI_1, Option.bind_some]
theorem ax52 {z : Nat → Int32} {f : Nat → Nat → Int32} {p : Nat} (hp : p < 6) (x : Int32) : ax_ (HH z f) 52 (nI p) x = some (HH z (up2 f 52 (upd (f 52) p x))) := HH_ax (n := 6) rfl hp (by decide)
theorem ax53 {z : Nat → Int32} {f : Nat → Nat → Int32} {p : Nat} (hp : p < 6) (x : Int32) : ax_ (HH z f) 53 (nI p) x = some (HH z (up2 f 53 (upd (f 53) p x))) := HH_ax (n := 6) rfl hp (by decide)
theorem al52 {z : Nat → Int32} {f : Nat → Nat → Int32} {p : Nat} (hp : p < 6) : al_ (HH z f) 52 (nI p) = some (f 52 p) := HH_al (n := 6) rfl hp (by decide)
theorem al53 {z : Nat → Int32} {f : Nat → Nat → Int32} {p : Nat} (hp : p < 6) : al_ (HH z f) 53 (nI p) = some (f 53 p) := HH_al (n := 6) rfl hp (by decide)
section MFR
variable {z : Nat → Int32} {n : Nat}
theorem M_frb {f : Nat → Nat → Int32} {d k U x : Nat} (hn : n ≤ 6) (h85 : z 1285 = nI n) (hk : k + (d + 1) = n) (hU : U < 2 ^ n) (hp : pcN_ 6 U + (d + 1) = n) (hx : x < fc_ (d + 1)) : bX9_findRow_18 40 (nI x, nI (fc_ d), nI U, nI k, HH z f) = some (.inl (nI (x % fc_ d), nI (fc_ (d - 1)), nI (U ||| 2 ^ nt_ U (x / fc_ d)), nI (k + 1), HH z (up2 (up2 f 52 (upd (f 52) k (nI (nt_ U (x / fc_ d))))) 53 (upd (f 53) (nt_ U (x / fc_ d)) (nI k))))) := by
  have h64 : U < 64 := Nat.lt_of_lt_of_le hU (pw6 hn)
  have f1 := fc_le d (by omega)
  have f2 := fc_le (d + 1) (by omega)
  have f3 := fc_pos d
  obtain ⟨q0, q1, q2, q3, q4, q5⟩ := nt_q hn hU hp hx
  have hdl := dv_lt hx
  have hin := M_ntx (h := HH z f) (x6 := nI (x % fc_ d)) (sc := nI (fc_ d)) (kk := nI k) h64 6 (x / fc_ d) 0 fu_ (by omega) (fu_gt (by omega)) (by omega) q0
  rw [nI_0, show ntx_ U 6 (x / fc_ d) 0 = nt_ U (x / fc_ d) from rfl] at hin
  have q6 : nt_ U (x / fc_ d) < 6 := by omega
  generalize nt_ U (x / fc_ d) = q at *
  unfold bX9_findRow_18
  simp only [g_40_5, h85, Option.bind_some]
  rw [if_neg (nI_ge (show k < n by omega) (by omega))]
  simp only [dvN (show x < 2 ^ 31 by omega) f3 (show fc_ d < 2 ^ 31 by omega), rmN (show x < 2 ^ 31 by omega) f3 (show fc_ d < 2 ^ 31 by omega), hin, q_40_22, q_40_23, ax52 (show k < 6 by omega), ax53 q6, g_or U h64 q q6, g_40_5, h85, up2_ne (show (53 : Nat) ≠ 52 by decide), Option.bind_some]
  rw [pk_sub (show k ≤ n by omega), show nI (n - k) - 1 = nI (n - k - 1) from pk_sub (b := 1) (by omega), show n - k - 1 = d by omega]
  unfold jX9_findRow_135_18
  by_cases c : d ≤ 1
  · rw [if_pos (show nI d ≤ 1 from nI_le (b := 1) c (by decide)), Option.bind_some, nI_1]
    have e : fc_ (d - 1) = 1 := by
      rw [show d - 1 = 0 by omega]
      rfl
    rw [e]
    rfl
  · rw [if_neg (show ¬ nI d ≤ 1 from nI_ge (a := 1) (by omega) (by omega)), dvN (by omega) (by omega) (by omega), Option.bind_some, Option.bind_some, nI_1]
    have e : fc_ d / d = fc_ (d - 1) := by
      obtain ⟨e, rfl⟩ : ∃ e, d = e + 1 := ⟨d - 1, by omega⟩
      show (e + 1) * fc_ e / (e + 1) = fc_ e
      exact Nat.mul_div_cancel_left _ (by omega)
    rw [e]
theorem M_fr (hn : n ≤ 6) (h85 : z 1285 = nI n) : ∀ (d k U x : Nat) (f : Nat → Nat → Int32) (fuel : Nat), k + d = n → d < fuel → U < 2 ^ n → pcN_ 6 U + d = n → x < fc_ d → ∃ f', it_ (bX9_findRow_18 40) fuel (nI x, nI (fc_ (d - 1)), nI U, nI k, HH z f) = some (HH z f') ∧ (∀ j, j ≠ 52 → j ≠ 53 → f' j = f j) ∧ (∀ j, j < k → f' 52 j = f 52 j) ∧ (∀ j, j < d → f' 52 (k + j) = nI (gd_ (ro_ d U x) j)) ∧ (∀ p, U.testBit p = true → f' 53 p = f 53 p) ∧ (∀ j, j < d → f' 53 (gd_ (ro_ d U x) j) = nI (k + j)) := by
  intro d
  induction d with
  | zero =>
    intro k U x f fuel hk hf hU hp hx
    obtain ⟨fuel, rfl⟩ : ∃ y, fuel = y + 1 := ⟨fuel - 1, by omega⟩
    refine ⟨f, it_e ?_, fun j _ _ => rfl, fun j _ => rfl, fun j hj => by omega, fun p _ => rfl, fun j hj => by omega⟩
    unfold bX9_findRow_18
    simp only [g_40_5, h85, Option.bind_some]
    rw [if_pos (nI_le (by omega) (by omega))]
  | succ d ih =>
    intro k U x f fuel hk hf hU hp hx
    obtain ⟨fuel, rfl⟩ : ∃ y, fuel = y + 1 := ⟨fuel - 1, by omega⟩
    have hb := M_frb (f := f) hn h85 hk hU hp hx
    obtain ⟨_, q1, q2, q3, q4, q5⟩ := nt_q hn hU hp hx
    have er : ro_ (d + 1) U x = nt_ U (x / fc_ d) :: ro_ d (U ||| 2 ^ nt_ U (x / fc_ d)) (x % fc_ d) := rfl
    rw [er, show d + 1 - 1 = d by omega, it_s hb]
    generalize nt_ U (x / fc_ d) = q at *
    obtain ⟨f2, u1, u2, u3, u4, u5, u6⟩ := ih (k + 1) (U ||| 2 ^ q) (x % fc_ d) (up2 (up2 f 52 (upd (f 52) k (nI q))) 53 (upd (f 53) q (nI k))) fuel (by omega) (by omega) q3 q4 q5
    have hqb : (U ||| 2 ^ q).testBit q = true := by rw [or_bit, decide_eq_true rfl, Bool.or_true]
    refine ⟨f2, u1, fun j j1 j2 => by rw [u2 j j1 j2, up2_ne j2, up2_ne j1], fun j hj => ?_, fun j hj => ?_, fun p hpb => ?_, fun j hj => ?_⟩
    · rw [u3 j (by omega), up2_ne (by decide), up2_eq, upd_ne (by omega)]
    · cases j with
      | zero =>
        rw [Nat.add_zero, u3 k (by omega), up2_ne (by decide), up2_eq, upd_eq]
        rfl
      | succ j =>
        rw [show k + (j + 1) = k + 1 + j by omega, u4 j (by omega)]
        rfl
    · rw [u5 p (by rw [or_bit, hpb, Bool.true_or]), up2_eq, upd_ne (fun w => by rw [w, q2] at hpb; cases hpb)]
    · cases j with
      | zero =>
        show f2 53 q = nI (k + 0)
        rw [u5 q hqb, up2_eq, upd_eq, Nat.add_zero]
      | succ j =>
        rw [show k + (j + 1) = k + 1 + j by omega]
        exact u6 j (by omega)
theorem M_fra {f : Nat → Nat → Int32} {x : Nat} (h2 : 2 ≤ n) (hn : n ≤ 6) (h85 : z 1285 = nI n) (hx : x < fc_ n) : ∃ f', fX9_findRow (HH z f) 40 (nI x) = some (HH z f') ∧ (∀ j, j ≠ 52 → j ≠ 53 → f' j = f j) ∧ (∀ j, j < n → f' 52 j = nI (gd_ (ro_ n 0 x) j)) ∧ (∀ j, j < n → f' 53 (gd_ (ro_ n 0 x) j) = nI j) := by
  obtain ⟨f1, e1, e2, e3, e4, e5, e6⟩ := M_fr hn h85 n 0 0 x f fu_ (by omega) (fu_gt (by omega)) (Nat.two_pow_pos n) (by rw [pcN_0]; omega) hx
  rw [nI_0] at e1
  refine ⟨f1, ?_, e2, fun j hj => ?_, fun j hj => ?_⟩
  · unfold fX9_findRow
    simp only [g_40_5, h85, Option.bind_some]
    rw [show nI n - 1 = nI (n - 1) from pk_sub (b := 1) (by omega), M_of (by omega) (by omega), Option.bind_some, e1, Option.bind_some]
  · have h9 := e4 j hj
    rw [Nat.zero_add] at h9
    exact h9
  · have h9 := e6 j hj
    rw [Nat.zero_add] at h9
    exact h9
end MFR
def aa_ (P a b : Nat → Nat) : Nat → Nat → Bool
  | _, 0 => true
  | j, r + 1 => decide (P (a j) ≤ P (b j)) && aa_ P a b (j + 1) r
theorem aa_iff {P a b : Nat → Nat} : ∀ (r j : Nat), aa_ P a b j r = true ↔ ∀ t, j ≤ t → t < j + r → P (a t) ≤ P (b t) := by
  intro r
  induction r with
  | zero => intro j; exact ⟨fun _ t h1 h2 => by omega, fun _ => rfl⟩
  | succ r ih =>
    intro j
    have e : aa_ P a b j (r + 1) = (decide (P (a j) ≤ P (b j)) && aa_ P a b (j + 1) r) := rfl
    rw [e, Bool.and_eq_true, decide_eq_true_eq, ih]
    constructor
    · rintro ⟨h1, h2⟩ t ht1 ht2
      by_cases c : t = j
      · rw [c]; exact h1
      · exact h2 t (by omega) (by omega)
    · intro h
      exact ⟨h j (by omega) (by omega), fun t h1 h2 => h t (by omega) (by omega)⟩
theorem M_aa {z : Nat → Int32} {f : Nat → Nat → Int32} {cc m n : Nat} {a b P : Nat → Nat} (hn : n ≤ 6) (hm : m ≤ 10) (hcc : cc + 2 * m ≤ 240) (hf : ∀ t, t < m → f 43 (cc + 2 * t) = nI (a t) ∧ f 43 (cc + 2 * t + 1) = nI (b t) ∧ a t < n ∧ b t < n) (hP : ∀ p, p < n → f 53 p = nI (P p) ∧ P p < n) : ∀ (r j fuel : Nat), j + r = m → r < fuel → it_ (bX9_areAhead_2 (HH z f) 40 (nI cc) (nI m)) fuel (nI j) = some (if aa_ P a b j r = true then .inl () else .inr 0) := by
  intro r
  induction r with
  | zero =>
    intro j fuel hj hfu
    obtain ⟨fuel, rfl⟩ : ∃ y, fuel = y + 1 := ⟨fuel - 1, by omega⟩
    rw [if_pos (show aa_ P a b j 0 = true from rfl)]
    refine it_e ?_
    unfold bX9_areAhead_2
    rw [if_pos (nI_le (by omega) (by omega))]
  | succ r ih =>
    intro j fuel hj hfu
    obtain ⟨fuel, rfl⟩ : ∃ y, fuel = y + 1 := ⟨fuel - 1, by omega⟩
    obtain ⟨e1, e2, a6, b6⟩ := hf j (by omega)
    obtain ⟨p1, p2⟩ := hP (a j) a6
    obtain ⟨p3, p4⟩ := hP (b j) b6
    have e : aa_ P a b j (r + 1) = (decide (P (a j) ≤ P (b j)) && aa_ P a b (j + 1) r) := rfl
    rw [e]
    by_cases c : P (a j) ≤ P (b j)
    · rw [decide_eq_true c, Bool.true_and, ← ih (j + 1) fuel (by omega) (by omega)]
      refine it_s ?_
      unfold bX9_areAhead_2
      rw [if_neg (nI_ge (by omega) (by omega))]
      simp only [q_40_4, q_40_23, ix2, nI_1, al43 (show cc + 2 * j < 240 by omega), al43 (show cc + 2 * j + 1 < 240 by omega), e1, e2, al53 (show a j < 6 by omega), al53 (show b j < 6 by omega), p1, p3, Option.bind_some]
      rw [if_pos (nI_le c (by omega))]
    · rw [decide_eq_false c, Bool.false_and, if_neg Bool.false_ne_true]
      refine it_e ?_
      unfold bX9_areAhead_2
      rw [if_neg (nI_ge (by omega) (by omega))]
      simp only [q_40_4, q_40_23, ix2, nI_1, al43 (show cc + 2 * j < 240 by omega), al43 (show cc + 2 * j + 1 < 240 by omega), e1, e2, al53 (show a j < 6 by omega), al53 (show b j < 6 by omega), p1, p3, Option.bind_some]
      rw [if_neg (nI_ge (by omega) (by omega))]
theorem M_row {z : Nat → Int32} {f : Nat → Nat → Int32} {cc m n x : Nat} {c : Nat → Bool} {a b : Nat → Nat} (h2 : 2 ≤ n) (hn : n ≤ 6) (hm : m ≤ 10) (hcc : cc + 2 * m ≤ 240) (h85 : z 1285 = nI n) (hc : ∀ t, c t = true) (hab : ∀ t, t < m → a t ≠ b t) (hf : ∀ t, t < m → f 43 (cc + 2 * t) = nI (a t) ∧ f 43 (cc + 2 * t + 1) = nI (b t) ∧ a t < n ∧ b t < n) (hx : x < fc_ n) : ∃ f', fX9_findRow (HH z f) 40 (nI x) = some (HH z f') ∧ (∀ j, j ≠ 52 → j ≠ 53 → f' j = f j) ∧ (∀ j, j < n → f' 52 j = nI (gd_ (ro_ n 0 x) j)) ∧ fX9_areAhead (HH z f') 40 (nI cc) (nI m) = some (bi_ (vd_ (fun U q => ok_ c a b U q m) n 0 x)) := by
  obtain ⟨f1, e1, e2, e3, e4⟩ := M_fra (f := f) h2 hn h85 hx
  have p0 : pcN_ 6 0 + n = n := by rw [pcN_0]; omega
  have hPj : ∀ j, j < n → (f1 53 (gd_ (ro_ n 0 x) j)).toNatClampNeg = j := fun j hj => by rw [e4 j hj, nI_clamp (by omega)]
  have hsur := ro_sur hn n 0 x (Nat.two_pow_pos n) p0 hx
  have hP : ∀ p, p < n → f1 53 p = nI ((f1 53 p).toNatClampNeg) ∧ (f1 53 p).toNatClampNeg < n := fun p hp => by
    obtain ⟨j, hj, ej⟩ := hsur p hp (Nat.zero_testBit p)
    rw [← ej, hPj j hj, e4 j hj]
    exact ⟨rfl, hj⟩
  have hf1 : ∀ t, t < m → f1 43 (cc + 2 * t) = nI (a t) ∧ f1 43 (cc + 2 * t + 1) = nI (b t) ∧ a t < n ∧ b t < n := fun t ht => by
    rw [e2 43 (by decide) (by decide)]
    exact hf t ht
  have haa := M_aa (z := z) (P := fun p => (f1 53 p).toNatClampNeg) hn hm hcc hf1 hP m 0 fu_ (by omega) (fu_gt (by omega))
  rw [nI_0] at haa
  have hva := vd_aa (c := c) (a := a) (b := b) (m := m) hn hc (fun t ht => (hf t ht).2.2.1) hab (fun p => (f1 53 p).toNatClampNeg) n 0 x (Nat.two_pow_pos n) p0 hx (fun j hj => by
    rw [hPj j hj]
    omega) (fun p _ hb => by rw [Nat.zero_testBit] at hb; cases hb) (fun t ht => (hf t ht).2.2.2)
  have heq : aa_ (fun p => (f1 53 p).toNatClampNeg) a b 0 m = vd_ (fun U q => ok_ c a b U q m) n 0 x := by
    rw [Bool.eq_iff_iff, hva, aa_iff]
    exact ⟨fun h t ht _ => h t (by omega) (by omega), fun h t _ ht => h t (by omega) (Nat.zero_testBit _)⟩
  refine ⟨f1, e1, e2, e3, ?_⟩
  unfold fX9_areAhead
  rw [haa, Option.bind_some, heq]
  cases vd_ (fun U q => ok_ c a b U q m) n 0 x
  · rw [if_neg Bool.false_ne_true]; rfl
  · rw [if_pos rfl]; rfl
/-! the first of them -/
def fi_ (V : Nat → Bool) : Nat → Option Nat
  | 0 => none
  | x + 1 => if (fi_ V x).isSome = true then fi_ V x else if V x then some x else none
theorem fi_none {V : Nat → Bool} : ∀ N, (∀ x, x < N → V x = false) → fi_ V N = none := by
  intro N
  induction N with
  | zero => intro _; rfl
  | succ N ih =>
    intro h
    unfold fi_
    rw [ih (fun x hx => h x (by omega)), h N (by omega)]
    rfl
theorem fi_eq {V : Nat → Bool} {g : Nat} (hV : V g = true) (hno : ∀ x, x < g → V x = false) : ∀ N, g < N → fi_ V N = some g := by
  intro N
  induction N with
  | zero => intro h; omega
  | succ N ih =>
    intro h
    unfold fi_
    by_cases c : g < N
    · rw [ih c]
      rfl
    · have e : g = N := by omega
      subst e
      rw [fi_none g hno, hV]
      rfl
theorem cn_fi {V : Nat → Bool} : ∀ N, cn_ V N = 0 ↔ fi_ V N = none := by
  intro N
  induction N with
  | zero => exact ⟨fun _ => rfl, fun _ => rfl⟩
  | succ N ih =>
    unfold cn_ fi_
    cases h : fi_ V N with
    | none =>
      have h0 := ih.mpr h
      rw [h0]
      cases V N <;> simp
    | some y =>
      have h0 : ¬ cn_ V N = 0 := fun w => by rw [ih.mp w] at h; cases h
      simp
      omega
def ivl_ (n : Nat) (k : Int32) : Option Nat → Int32
  | none => -9
  | some x => if ip_ n k = true then nI (gd_ (ro_ n 0 x) k.toNatClampNeg) else -9
theorem M_ol {z : Nat → Int32} {cc m n : Nat} {k : Int32} {c : Nat → Bool} {a b : Nat → Nat} (h2 : 2 ≤ n) (hn : n ≤ 6) (hm : m ≤ 10) (hcc : cc + 2 * m ≤ 240) (h85 : z 1285 = nI n) (hc : ∀ t, c t = true) (hab : ∀ t, t < m → a t ≠ b t) : ∀ (d x : Nat) (f : Nat → Nat → Int32) (fuel : Nat), x + d = fc_ n → d < fuel → (∀ t, t < m → f 43 (cc + 2 * t) = nI (a t) ∧ f 43 (cc + 2 * t + 1) = nI (b t) ∧ a t < n ∧ b t < n) → ∃ f', it_ (bX9_orders_111 40 (nI m) k (nI cc)) fuel (nI (cn_ (vd_ (fun U q => ok_ c a b U q m) n 0) x), ivl_ n k (fi_ (vd_ (fun U q => ok_ c a b U q m) n 0) x), nI x, HH z f) = some (nI (cn_ (vd_ (fun U q => ok_ c a b U q m) n 0) (fc_ n)), ivl_ n k (fi_ (vd_ (fun U q => ok_ c a b U q m) n 0) (fc_ n)), HH z f') ∧ ∀ j, j ≠ 52 → j ≠ 53 → f' j = f j := by
  have h720 := fc_le n (by omega)
  intro d
  induction d with
  | zero =>
    intro x f fuel hx hfu hf
    obtain ⟨fuel, rfl⟩ : ∃ y, fuel = y + 1 := ⟨fuel - 1, by omega⟩
    refine ⟨f, ?_, fun j _ _ => rfl⟩
    have hxe : x = fc_ n := by omega
    subst hxe
    refine it_e ?_
    unfold bX9_orders_111
    simp only [g_40_5, h85, M_of (show 1 ≤ n by omega) hn, Option.bind_some]
    rw [if_pos (nI_le (Nat.le_refl _) (by omega))]
  | succ d ih =>
    intro x f fuel hx hfu hf
    obtain ⟨fuel, rfl⟩ : ∃ y, fuel = y + 1 := ⟨fuel - 1, by omega⟩
    obtain ⟨f1, e1, e2, e3, e4⟩ := M_row (c := c) h2 hn hm hcc h85 hc hab hf (show x < fc_ n by omega)
    have hcl := cn_le (g := vd_ (fun U q => ok_ c a b U q m) n 0) x
    have hcf := cn_fi (V := vd_ (fun U q => ok_ c a b U q m) n 0) x
    have ec : cn_ (vd_ (fun U q => ok_ c a b U q m) n 0) (x + 1) = cn_ (vd_ (fun U q => ok_ c a b U q m) n 0) x + (if vd_ (fun U q => ok_ c a b U q m) n 0 x = true then 1 else 0) := rfl
    have ef : fi_ (vd_ (fun U q => ok_ c a b U q m) n 0) (x + 1) = if (fi_ (vd_ (fun U q => ok_ c a b U q m) n 0) x).isSome = true then fi_ (vd_ (fun U q => ok_ c a b U q m) n 0) x else if vd_ (fun U q => ok_ c a b U q m) n 0 x = true then some x else none := rfl
    obtain ⟨f2, u1, u2⟩ := ih (x + 1) f1 fuel (by omega) (by omega) (fun t ht => by rw [e2 43 (by decide) (by decide)]; exact hf t ht)
    refine ⟨f2, ?_, fun j j1 j2 => by rw [u2 j j1 j2, e2 j j1 j2]⟩
    rw [← u1]
    refine it_s ?_
    generalize hV : vd_ (fun U q => ok_ c a b U q m) n 0 = V at *
    unfold bX9_orders_111 jX9_orders_164_111 jX9_orders_166_111 jX9_orders_171_111
    simp only [g_40_5, h85, M_of (show 1 ≤ n by omega) hn, Option.bind_some]
    rw [if_neg (nI_ge (show x < fc_ n by omega) (by omega))]
    simp only [ob_40, e1, e4, Option.bind_some]
    rw [ec, ef]
    cases cv : V x
    · rw [b_f, if_pos rfl, if_neg Bool.false_ne_true, Nat.add_zero, nI_1]
      cases cf : fi_ V x
      · rfl
      · rfl
    · rw [b_t, if_neg n10_, if_pos rfl]
      by_cases c0 : cn_ V x = 0
      · have cf := hcf.mp c0
        rw [cf, if_pos (by rw [c0, nI_0])]
        simp only [M_isP h85, Option.bind_some]
        cases ck : ip_ n k
        · rw [b_f, if_pos rfl, nI_1, nI_1]
          simp only [ivl_, ck, Option.isSome_none, Bool.false_eq_true, if_false, if_true]
        · obtain ⟨k0, hk0, rfl⟩ := ip_at hn ck
          rw [b_t, if_neg n10_]
          simp only [q_40_22, al52 (show k0 < 6 by omega), e3 k0 hk0, nI_1, ivl_, ck, Option.isSome_none, Bool.false_eq_true, if_false, if_true, nI_clamp (show k0 < 2 ^ 31 by omega), Option.bind_some]
      · rw [if_neg (nI_ne0 (by omega) (by omega)), nI_1, nI_1]
        cases cf : fi_ V x with
        | none => exact absurd (hcf.mpr cf) c0
        | some y => rfl
