/-! stuck sets: when there is an order -/
def stk_ (n m : Nat) (c : Nat → Bool) (a b : Nat → Nat) (X : Nat → Prop) : Prop := (∃ x, x < n ∧ X x) ∧ ∀ x, x < n → X x → ∃ t, t < m ∧ c t = true ∧ b t = x ∧ X (a t)
set_option maxRecDepth 100000 in
theorem pc_or : ∀ A, A < 64 → ∀ q, q < 6 → A.testBit q = false → pcN_ 6 (A ||| 2 ^ q) = pcN_ 6 A + 1 := by decide +kernel
set_option maxRecDepth 100000 in
theorem pc_full : ∀ n, n < 7 → ∀ A, A < 64 → (∀ x, x < n → A.testBit x = true) → n ≤ pcN_ 6 A := by decide +kernel
set_option maxRecDepth 100000 in
theorem pc_all : ∀ n, n < 7 → ∀ A, A < 64 → A < 2 ^ n → pcN_ 6 A = n → ∀ x, x < n → A.testBit x = true := by decide +kernel
set_option maxRecDepth 100000 in
theorem pc_and : ∀ L, L < 64 → ∀ Y, Y < 64 → ¬ L &&& Y = L → pcN_ 6 (L &&& Y) < pcN_ 6 L := by decide +kernel
set_option maxRecDepth 100000 in
theorem pc_0 : ∀ L, L < 64 → pcN_ 6 L = 0 → L = 0 := by decide +kernel
theorem pc_ini : ∀ n, n < 7 → pcN_ 6 (2 ^ n - 1) = n := by decide +kernel
set_option maxRecDepth 100000 in
theorem no_bits : ∀ n, n < 7 → ∀ L, L < 64 → L < 2 ^ n → (∀ x, x < n → L.testBit x = false) → L = 0 := by decide +kernel
set_option maxRecDepth 100000 in
theorem g_and : ∀ L, L < 64 → ∀ Y, Y < 64 → nI L &&& nI Y = nI (L &&& Y) := by decide +kernel
theorem g_sh : ∀ m, m < 11 → (1 : Int32) <<< (nI m &&& 31) = nI (2 ^ m) := by decide +kernel
section TOPO
variable {n m : Nat} {c : Nat → Bool} {a b : Nat → Nat}
theorem ls_no (hn : n ≤ 6) : ∀ (d A : Nat), A < 2 ^ n → pcN_ 6 A + d = n → ls_ n (mf_ c a b m) d A = none → (∀ t, t < m → a t < n) → ∃ X, stk_ n m c a b X ∧ ∀ x, X x → A.testBit x = false := by
  intro d
  induction d with
  | zero => intro A _ _ h; cases h
  | succ d ih =>
    intro A hA hp h ha
    have hA64 : A < 64 := Nat.lt_of_lt_of_le hA (pw6 hn)
    obtain ⟨_, q2, q3, q4⟩ := nx_p (M := mf_ c a b m A) n 0
    have hls : ls_ n (mf_ c a b m) (d + 1) A = if nx_ (mf_ c a b m A) n 0 = n then none else (ls_ n (mf_ c a b m) d (A ||| 2 ^ nx_ (mf_ c a b m A) n 0)).map (fun l => nx_ (mf_ c a b m A) n 0 :: l) := rfl
    rw [hls] at h
    generalize hq : nx_ (mf_ c a b m A) n 0 = q at h q2 q3 q4
    by_cases cq : q = n
    · refine ⟨fun x => x < n ∧ A.testBit x = false, ⟨Classical.byContradiction fun hno => ?_, fun x hx hX => Classical.byContradiction fun hno => ?_⟩, fun x hx => hx.2⟩
      · have h9 := pc_full n (by omega) A hA64 (fun x hx => by
          cases e : A.testBit x
          · exact absurd ⟨x, hx, hx, e⟩ hno
          · rfl)
        omega
      · have hM := q3 x (by omega) (by omega)
        have hok : ok_ c a b A x m = true := (ok_iff m).mpr (fun t ht hc hb => by
          cases e : A.testBit (a t)
          · exact absurd ⟨t, ht, hc, hb, ha t ht, e⟩ hno
          · rfl)
        unfold mf_ at hM
        rw [hX.2, hok] at hM
        cases hM
    · rw [if_neg cq, Option.map_eq_none_iff] at h
      have hM := q4 (by omega)
      unfold mf_ at hM
      rw [Bool.and_eq_true] at hM
      have hbq : A.testBit q = false := by simpa using hM.1
      obtain ⟨X, h1, h2⟩ := ih (A ||| 2 ^ q) (or_lt hA (by omega)) (by rw [pc_or A hA64 q (by omega) hbq]; omega) h ha
      refine ⟨X, h1, fun x hx => ?_⟩
      have h9 := h2 x hx
      rw [or_bit, Bool.or_eq_false_iff] at h9
      exact h9.1
theorem ls_yes (hn : n ≤ 6) (X : Nat → Prop) (hX : stk_ n m c a b X) : ∀ (d A : Nat) (l : List Nat), A < 2 ^ n → pcN_ 6 A + d = n → ls_ n (mf_ c a b m) d A = some l → (∀ x, X x → A.testBit x = false) → False := by
  intro d
  induction d with
  | zero =>
    intro A l hA hp h hXA
    have hA64 : A < 64 := Nat.lt_of_lt_of_le hA (pw6 hn)
    obtain ⟨x, hx, hxX⟩ := hX.1
    have h1 := pc_all n (by omega) A hA64 hA (by omega) x hx
    rw [hXA x hxX] at h1
    cases h1
  | succ d ih =>
    intro A l hA hp h hXA
    have hA64 : A < 64 := Nat.lt_of_lt_of_le hA (pw6 hn)
    obtain ⟨_, q2, q3, q4⟩ := nx_p (M := mf_ c a b m A) n 0
    have hls : ls_ n (mf_ c a b m) (d + 1) A = if nx_ (mf_ c a b m A) n 0 = n then none else (ls_ n (mf_ c a b m) d (A ||| 2 ^ nx_ (mf_ c a b m A) n 0)).map (fun l => nx_ (mf_ c a b m A) n 0 :: l) := rfl
    rw [hls] at h
    generalize hq : nx_ (mf_ c a b m A) n 0 = q at h q2 q3 q4
    by_cases cq : q = n
    · rw [if_pos cq] at h
      cases h
    · rw [if_neg cq, Option.map_eq_some_iff] at h
      obtain ⟨l2, h1, _⟩ := h
      have hM := q4 (by omega)
      unfold mf_ at hM
      rw [Bool.and_eq_true] at hM
      have hbq : A.testBit q = false := by simpa using hM.1
      refine ih (A ||| 2 ^ q) l2 (or_lt hA (by omega)) (by rw [pc_or A hA64 q (by omega) hbq]; omega) h1 (fun x hx => ?_)
      rw [or_bit, hXA x hx, Bool.false_or, decide_eq_false_iff_not]
      intro e
      subst e
      obtain ⟨t, ht, hc, hb, hXa⟩ := hX.2 q (by omega) hx
      have h9 := (ok_iff m).mp hM.2 t ht hc hb
      rw [hXA _ hXa] at h9
      cases h9
/-! the reference's way: those left over -/
def bl_ (c : Nat → Bool) (a b : Nat → Nat) (L m : Nat) : Nat := btb_ (fun t => c t && L.testBit (a t)) b (fun _ => 0) 0 m
def lf_ (n m : Nat) (c : Nat → Bool) (a b : Nat → Nat) : Nat → Nat
  | 0 => 2 ^ n - 1
  | k + 1 => lf_ n m c a b k &&& bl_ c a b (lf_ n m c a b k) m
theorem lf_lt : ∀ k, lf_ n m c a b k < 2 ^ n
  | 0 => by
    have := Nat.two_pow_pos n
    unfold lf_
    omega
  | k + 1 => by
    unfold lf_
    exact Nat.lt_of_le_of_lt Nat.and_le_left (lf_lt k)
theorem lf_stk (X : Nat → Prop) (hX : stk_ n m c a b X) (ha : ∀ t, t < m → a t < n) : ∀ k x, x < n → X x → (lf_ n m c a b k).testBit x = true := by
  intro k
  induction k with
  | zero =>
    intro x hx _
    unfold lf_
    rw [Nat.testBit_two_pow_sub_one, decide_eq_true hx]
  | succ k ih =>
    intro x hx hxX
    have e : lf_ n m c a b (k + 1) = lf_ n m c a b k &&& bl_ c a b (lf_ n m c a b k) m := rfl
    rw [e, Nat.testBit_and, ih x hx hxX, Bool.true_and]
    obtain ⟨t, ht, hc, hb, hXa⟩ := hX.2 x hx hxX
    unfold bl_
    rw [btb_bit]
    exact ⟨t, ht, by rw [hc, ih (a t) (ha t ht) hXa]; rfl, rfl, hb⟩
theorem lf_Q (hn : n ≤ 6) (hb : ∀ t, t < m → b t < n) : ∀ k, pcN_ 6 (lf_ n m c a b k) + k ≤ n ∨ lf_ n m c a b (k + 1) = lf_ n m c a b k := by
  intro k
  induction k with
  | zero =>
    refine Or.inl ?_
    unfold lf_
    rw [pc_ini n (by omega)]
    omega
  | succ k ih =>
    have e : ∀ j, lf_ n m c a b (j + 1) = lf_ n m c a b j &&& bl_ c a b (lf_ n m c a b j) m := fun j => rfl
    by_cases cs : lf_ n m c a b (k + 1) = lf_ n m c a b k
    · refine Or.inr ?_
      rw [e (k + 1), cs, ← e k, cs]
    · rcases ih with h | h
      · refine Or.inl ?_
        have h1 : lf_ n m c a b k < 64 := Nat.lt_of_lt_of_le (lf_lt k) (pw6 hn)
        have h2 : bl_ c a b (lf_ n m c a b k) m < 64 := Nat.lt_of_lt_of_le (btb_lt m hb) (pw6 hn)
        have h3 := pc_and _ h1 _ h2 (by rw [← e k]; exact cs)
        rw [← e k] at h3
        omega
      · exact absurd h cs
theorem lf_ok (hn : n ≤ 6) (ha : ∀ t, t < m → a t < n) (hb : ∀ t, t < m → b t < n) : decide (lf_ n m c a b n = 0) = (ls_ n (mf_ c a b m) n 0).isSome := by
  have p0 : pcN_ 6 0 + n = n := by rw [pcN_0]; omega
  cases h : ls_ n (mf_ c a b m) n 0 with
  | none =>
    obtain ⟨X, hX, _⟩ := ls_no (c := c) (b := b) hn n 0 (Nat.two_pow_pos n) p0 h ha
    obtain ⟨x, hx, hxX⟩ := hX.1
    have h1 := lf_stk X hX ha n x hx hxX
    rw [decide_eq_false (fun w => by rw [w, Nat.zero_testBit] at h1; cases h1)]
    rfl
  | some l =>
    rw [decide_eq_true]
    · rfl
    · refine Classical.byContradiction fun hno => ?_
      have h1 : lf_ n m c a b n < 64 := Nat.lt_of_lt_of_le (lf_lt n) (pw6 hn)
      have hst : lf_ n m c a b (n + 1) = lf_ n m c a b n := by
        rcases lf_Q (c := c) (a := a) hn hb n with h2 | h2
        · exact absurd (pc_0 _ h1 (by omega)) hno
        · exact h2
      have e : lf_ n m c a b (n + 1) = lf_ n m c a b n &&& bl_ c a b (lf_ n m c a b n) m := rfl
      refine ls_yes (c := c) (b := b) hn (fun x => x < n ∧ (lf_ n m c a b n).testBit x = true) ⟨Classical.byContradiction fun hno2 => hno (no_bits n (by omega) _ h1 (lf_lt n) (fun x hx => ?_)), fun x hx hX => ?_⟩ n 0 l (Nat.two_pow_pos n) p0 h (fun x _ => Nat.zero_testBit x)
      · cases e2 : (lf_ n m c a b n).testBit x
        · rfl
        · exact absurd ⟨x, hx, hx, e2⟩ hno2
      · have h3 := hX.2
        rw [← hst, e, Nat.testBit_and, Bool.and_eq_true] at h3
        obtain ⟨t, ht, hc, _, hbt⟩ := (btb_bit m x).mp h3.2
        rw [Bool.and_eq_true] at hc
        exact ⟨t, ht, hc.1, hbt, ha t ht, hc.2⟩
/-- with nothing counted there is an order -/
theorem ls_nil (hn : n ≤ 6) (ha : ∀ t, t < m → a t < n) (hc : ∀ t, t < m → c t = false) : (ls_ n (mf_ c a b m) n 0).isSome = true := by
  cases h : ls_ n (mf_ c a b m) n 0 with
  | none =>
    obtain ⟨X, hX, _⟩ := ls_no (c := c) (b := b) hn n 0 (Nat.two_pow_pos n) (by rw [pcN_0]; omega) h ha
    obtain ⟨x, hx, hxX⟩ := hX.1
    obtain ⟨t, ht, hct, _⟩ := hX.2 x hx hxX
    rw [hc t ht] at hct
    cases hct
  | some l => rfl
end TOPO
/-! fewest left out, two ways -/
def isl_ (x : Nat) : Option Nat → Bool
  | none => true
  | some y => decide (pcN_ 10 x < pcN_ 10 y)
def db_ (P : Nat → Bool) : Nat → Nat → Option Nat → Option Nat
  | 0, _, s => s
  | d + 1, x, s => db_ P d (x + 1) (if isl_ x s = true ∧ P x = true then some x else s)
def dr_ (P : Nat → Bool) (N : Nat) : Nat → Nat → Nat
  | 0, _ => 0
  | d + 1, s => if nx_ (fun x => decide (pcN_ 10 x = s) && P x) N 0 = N then dr_ P N d (s + 1) else nx_ (fun x => decide (pcN_ 10 x = s) && P x) N 0
def lst_ (P : Nat → Bool) (N y : Nat) : Prop := y < N ∧ P y = true ∧ ∀ x, x < N → P x = true → pcN_ 10 y < pcN_ 10 x ∨ (pcN_ 10 y = pcN_ 10 x ∧ y ≤ x)
theorem db_p {P : Nat → Bool} : ∀ (d x : Nat) (s : Option Nat), (match s with
    | none => ∀ y, y < x → P y = false
    | some y => lst_ P x y) → (match db_ P d x s with
    | none => ∀ y, y < x + d → P y = false
    | some y => lst_ P (x + d) y) := by
  intro d
  induction d with
  | zero => intro x s h; exact h
  | succ d ih =>
    intro x s h
    have e : db_ P (d + 1) x s = db_ P d (x + 1) (if isl_ x s = true ∧ P x = true then some x else s) := rfl
    rw [e, show x + (d + 1) = x + 1 + d by omega]
    refine ih (x + 1) _ ?_
    cases s with
    | none =>
      dsimp only at h ⊢
      cases hP : P x
      · rw [if_neg (by simp)]
        intro y hy
        by_cases c : y = x
        · rw [c]; exact hP
        · exact h y (by omega)
      · rw [if_pos ⟨rfl, rfl⟩]
        refine ⟨by omega, hP, fun y hy hPy => ?_⟩
        by_cases c : y = x
        · subst c; exact Or.inr ⟨rfl, Nat.le_refl _⟩
        · rw [h y (by omega)] at hPy; cases hPy
    | some y =>
      dsimp only at h ⊢
      obtain ⟨h1, h2, h3⟩ := h
      cases hP : P x
      · rw [if_neg (by simp)]
        refine ⟨by omega, h2, fun q hq hPq => ?_⟩
        by_cases c : q = x
        · subst c; rw [hP] at hPq; cases hPq
        · exact h3 q (by omega) hPq
      · by_cases c2 : pcN_ 10 x < pcN_ 10 y
        · rw [if_pos ⟨decide_eq_true c2, rfl⟩]
          refine ⟨by omega, hP, fun q hq hPq => ?_⟩
          by_cases c : q = x
          · subst c; exact Or.inr ⟨rfl, Nat.le_refl _⟩
          · have := h3 q (by omega) hPq
            omega
        · rw [if_neg (fun w => c2 (of_decide_eq_true w.1))]
          refine ⟨by omega, h2, fun q hq hPq => ?_⟩
          by_cases c : q = x
          · subst c; omega
          · exact h3 q (by omega) hPq
theorem dr_p {P : Nat → Bool} {N m : Nat} (hm : ∀ x, x < N → pcN_ 10 x ≤ m) (hex : ∃ x, x < N ∧ P x = true) : ∀ (d s : Nat), s + d = m + 1 → (∀ x, x < N → P x = true → s ≤ pcN_ 10 x) → lst_ P N (dr_ P N d s) := by
  intro d
  induction d with
  | zero =>
    intro s hs h
    obtain ⟨x, hx, hP⟩ := hex
    have h1 := h x hx hP
    have h2 := hm x hx
    omega
  | succ d ih =>
    intro s hs h
    obtain ⟨_, q2, q3, q4⟩ := nx_p (M := fun x => decide (pcN_ 10 x = s) && P x) N 0
    have e : dr_ P N (d + 1) s = if nx_ (fun x => decide (pcN_ 10 x = s) && P x) N 0 = N then dr_ P N d (s + 1) else nx_ (fun x => decide (pcN_ 10 x = s) && P x) N 0 := rfl
    rw [e]
    generalize nx_ (fun x => decide (pcN_ 10 x = s) && P x) N 0 = y at q2 q3 q4
    by_cases c : y = N
    · rw [if_pos c]
      refine ih (s + 1) (by omega) (fun x hx hP => ?_)
      have h1 := h x hx hP
      have h2 := q3 x (by omega) (by omega)
      rw [hP, Bool.and_true, decide_eq_false_iff_not] at h2
      omega
    · rw [if_neg c]
      have h1 := q4 (by omega)
      rw [Bool.and_eq_true, decide_eq_true_eq] at h1
      refine ⟨by omega, h1.2, fun x hx hP => ?_⟩
      have h2 := h x hx hP
      by_cases c2 : x < y
      · have h3 := q3 x (by omega) c2
        rw [hP, Bool.and_true, decide_eq_false_iff_not] at h3
        omega
      · omega
theorem pc_le : ∀ (k j x : Nat), x < 2 ^ j → pcN_ k x ≤ j := by
  intro k
  induction k with
  | zero => intro j x _; exact Nat.zero_le j
  | succ k ih =>
    intro j x hx
    cases j with
    | zero =>
      have : x = 0 := by omega
      rw [this, pcN_0]
      exact Nat.le_refl 0
    | succ j =>
      have h1 := ih j (x / 2) (by rw [Nat.pow_succ] at hx; omega)
      unfold pcN_
      omega
theorem drops_eq {P : Nat → Bool} {m : Nat} (hP : P (2 ^ m - 1) = true) : db_ P (2 ^ m) 0 none = some (dr_ P (2 ^ m) (m + 1) 0) := by
  have h0 := Nat.two_pow_pos m
  have h1 := db_p (P := P) (2 ^ m) 0 none (fun y hy => by omega)
  have h2 := dr_p (P := P) (N := 2 ^ m) (m := m) (fun x hx => pc_le 10 m x hx) ⟨2 ^ m - 1, by omega, hP⟩ (m + 1) 0 (by omega) (fun x _ _ => by omega)
  rw [Nat.zero_add] at h1
  cases h : db_ P (2 ^ m) 0 none with
  | none =>
    rw [h] at h1
    dsimp only at h1
    rw [h1 (2 ^ m - 1) (by omega)] at hP
    cases hP
  | some y =>
    rw [h] at h1
    dsimp only at h1
    obtain ⟨a1, a2, a3⟩ := h1
    obtain ⟨b1, b2, b3⟩ := h2
    have c1 := a3 _ b1 b2
    have c2 := b3 _ a1 a2
    congr 1
    omega
