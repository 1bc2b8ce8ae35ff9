/-! who may follow whom -/
def ok_ (c : Nat → Bool) (a b : Nat → Nat) (A p : Nat) : Nat → Bool
  | 0 => true
  | t + 1 => ok_ c a b A p t && (!(c t && decide (b t = p)) || A.testBit (a t))
theorem ok_iff {c : Nat → Bool} {a b : Nat → Nat} {A p : Nat} : ∀ m, ok_ c a b A p m = true ↔ ∀ t, t < m → c t = true → b t = p → A.testBit (a t) = true := by
  intro m
  induction m with
  | zero => exact ⟨fun _ t ht => by omega, fun _ => rfl⟩
  | succ m ih =>
    have e : ok_ c a b A p (m + 1) = (ok_ c a b A p m && (!(c m && decide (b m = p)) || A.testBit (a m))) := rfl
    rw [e, Bool.and_eq_true, ih]
    constructor
    · rintro ⟨h1, h2⟩ t ht hc hb
      by_cases ct : t = m
      · subst ct
        rw [hc, decide_eq_true hb] at h2
        simpa using h2
      · exact h1 t (by omega) hc hb
    · intro h
      refine ⟨fun t ht => h t (by omega), ?_⟩
      cases h1 : c m
      · rfl
      · by_cases h2 : b m = p
        · rw [h m (by omega) h1 h2, Bool.or_true]
        · rw [decide_eq_false h2]; rfl
def btb_ (c : Nat → Bool) (a b : Nat → Nat) (p : Nat) : Nat → Nat
  | 0 => 0
  | t + 1 => if (c t && decide (b t = p)) = true then btb_ c a b p t ||| 2 ^ a t else btb_ c a b p t
theorem btb_lt {c : Nat → Bool} {a b : Nat → Nat} {p n : Nat} : ∀ m, (∀ t, t < m → a t < n) → btb_ c a b p m < 2 ^ n := by
  intro m
  induction m with
  | zero => intro _; exact Nat.two_pow_pos n
  | succ m ih =>
    intro h
    have h1 := ih (fun t ht => h t (by omega))
    unfold btb_
    split
    · exact or_lt h1 (h m (by omega))
    · exact h1
theorem btb_bit {c : Nat → Bool} {a b : Nat → Nat} {p : Nat} : ∀ m x, (btb_ c a b p m).testBit x = true ↔ ∃ t, t < m ∧ c t = true ∧ b t = p ∧ a t = x := by
  intro m
  induction m with
  | zero =>
    intro x
    refine ⟨fun h => ?_, fun ⟨t, h, _⟩ => by omega⟩
    unfold btb_ at h
    simp at h
  | succ m ih =>
    intro x
    unfold btb_
    split
    · rename_i hc
      rw [Bool.and_eq_true, decide_eq_true_eq] at hc
      rw [or_bit, Bool.or_eq_true, ih, decide_eq_true_eq]
      constructor
      · rintro (⟨t, h1, h2⟩ | h)
        · exact ⟨t, by omega, h2⟩
        · exact ⟨m, by omega, hc.1, hc.2, h⟩
      · rintro ⟨t, h1, h2, h3, h4⟩
        by_cases ct : t = m
        · subst ct; exact Or.inr h4
        · exact Or.inl ⟨t, by omega, h2, h3, h4⟩
    · rename_i hc
      rw [ih]
      constructor
      · rintro ⟨t, h1, h2⟩
        exact ⟨t, by omega, h2⟩
      · rintro ⟨t, h1, h2, h3, h4⟩
        by_cases ct : t = m
        · subst ct
          exact absurd (by rw [h2, decide_eq_true h3]; rfl) hc
        · exact ⟨t, by omega, h2, h3, h4⟩
def mf_ (c : Nat → Bool) (a b : Nat → Nat) (m A p : Nat) : Bool := !(A.testBit p) && ok_ c a b A p m
set_option maxRecDepth 100000 in
theorem g_sub : ∀ x, x < 64 → ∀ A, A < 64 → ((nI x &&& (nI A ^^^ (-1)) = 0) ↔ ∀ j, j < 6 → x.testBit j = true → A.testBit j = true) := by decide +kernel
theorem al29 {z : Nat → Int32} {f : Nat → Nat → Int32} {p : Nat} (hp : p < 6) : al_ (HH z f) 29 (nI p) = some (f 29 p) := HH_al (n := 6) rfl hp (by decide)
theorem ax29 {z : Nat → Int32} {f : Nat → Nat → Int32} {p : Nat} (hp : p < 6) (x : Int32) : ax_ (HH z f) 29 (nI p) x = some (HH z (up2 f 29 (upd (f 29) p x))) := HH_ax (n := 6) rfl hp (by decide)
theorem al31 {z : Nat → Int32} {f : Nat → Nat → Int32} {p : Nat} (hp : p < 6) : al_ (HH z f) 31 (nI p) = some (f 31 p) := HH_al (n := 6) rfl hp (by decide)
theorem ax31 {z : Nat → Int32} {f : Nat → Nat → Int32} {p : Nat} (hp : p < 6) (x : Int32) : ax_ (HH z f) 31 (nI p) x = some (HH z (up2 f 31 (upd (f 31) p x))) := HH_ax (n := 6) rfl hp (by decide)
theorem C_mf {z : Nat → Int32} {f : Nat → Nat → Int32} {c : Nat → Bool} {a b : Nat → Nat} {m A p : Nat} (ha : ∀ t, t < m → a t < 6) (hA : A < 64) (hp : p < 6) (h : f 29 p = nI (btb_ c a b p m)) : fX3_mayFollow (HH z f) 28 (nI p) (nI A) = some (bi_ (mf_ c a b m A p)) := by
  have hb : btb_ c a b p m < 64 := btb_lt m ha
  unfold fX3_mayFollow mf_
  rw [g_bit A hA p hp]
  cases c1 : A.testBit p
  · simp only [Bool.false_eq_true, if_false, if_true, q_28_0, al29 hp, h, Bool.not_false, Bool.true_and, Option.bind_some]
    have hi : (nI (btb_ c a b p m) &&& (nI A ^^^ (-1)) = 0) ↔ ok_ c a b A p m = true := by
      rw [g_sub _ hb A hA, ok_iff]
      constructor
      · intro h1 t ht hc hbt
        exact h1 (a t) (ha t ht) ((btb_bit m (a t)).mpr ⟨t, ht, hc, hbt, rfl⟩)
      · intro h1 j hj hbit
        obtain ⟨t, ht, hc, hbt, rfl⟩ := (btb_bit m j).mp hbit
        exact h1 t ht hc hbt
    cases c2 : ok_ c a b A p m
    · rw [if_neg (fun w => by rw [hi.mp w] at c2; cases c2), b_f]
    · rw [if_pos (hi.mpr c2), b_t]
  · simp only [if_true, n10_, if_false, Bool.not_true, Bool.false_and, b_f]
/-! the class takes twos -/
theorem sm10 : ∀ j, j < 10 → ((nI j &&& 31).toBitVec.smod 32).toNat = j := by decide +kernel
theorem xbit {X j : Nat} (hX : X < 2 ^ 31) (hj : j < 10) : (nI X >>> (nI j &&& 31)) &&& 1 = if X.testBit j then 1 else 0 := by
  rw [pk_shrN hX _ j (sm10 j hj), show nI (X / 2 ^ j) &&& 1 = nI (X / 2 ^ j % 2) from pk_andN (n := X / 2 ^ j) (by have := Nat.div_le_self X (2 ^ j); omega) (m := 1) 1 (by decide), Nat.testBit_eq_decide_div_mod_eq]
  rcases Nat.mod_two_eq_zero_or_one (X / 2 ^ j) with e | e
  · rw [e]; rfl
  · rw [e]; rfl
theorem mn6 {n : Nat} (hn : n ≤ 6) : mn_ (nI n) 6 = nI n := by
  unfold mn_
  by_cases c : n = 6
  · subst c; rfl
  · rw [if_neg (show ¬ (6 : Int32) < nI n from nI_nlt (a := 6) (by omega) (by decide))]
def tk29_ (c : Nat → Bool) (a b : Nat → Nat) (j : Nat) (g : Nat → Int32) (q : Nat) : Int32 := if q < 6 then nI (btb_ c a b q j) else g q
theorem C_tkb {z : Nat → Int32} {f : Nat → Nat → Int32} {k i m bb n X j : Nat} {a b : Nat → Nat} (hk : k < 4) (hn : n ≤ 6) (hm : m ≤ 10) (hX : X < 2 ^ 31) (hb60 : bb ≤ 60) (him : i + 2 * m ≤ bb) (h99 : z 899 = nI n) (hb : z (32 * (32 + 2 * k) + 3) = nI bb) (hf : ∀ t, t < m → f (33 + 2 * k) (i + 2 * t) = nI (a t) ∧ f (33 + 2 * k) (i + 2 * t + 1) = nI (b t) ∧ a t < n ∧ b t < n) (hj : j < m) (g : Nat → Int32) : bX3_take_21 28 (32 + 2 * k) (nI i) (nI m) (nI X) (nI j, HH z (up2 f 29 (tk29_ (fun t => !(X.testBit t)) a b j g))) = some (.inl (nI (j + 1), HH z (up2 f 29 (tk29_ (fun t => !(X.testBit t)) a b (j + 1) g)))) := by
  obtain ⟨e1, e2, a6, b6⟩ := hf j hj
  have ef : (up2 f 29 (tk29_ (fun t => !(X.testBit t)) a b j g)) (33 + 2 * k) = f (33 + 2 * k) := up2_ne (by omega)
  have r1 := C_rd (f := up2 f 29 (tk29_ (fun t => !(X.testBit t)) a b j g)) (j := i + 2 * j) hk hb hb60 (by omega)
  have r2 := C_rd (f := up2 f 29 (tk29_ (fun t => !(X.testBit t)) a b j g)) (j := i + 2 * j + 1) hk hb hb60 (by omega)
  rw [ef, e1] at r1
  rw [ef, e2] at r2
  have h64 : btb_ (fun t => !(X.testBit t)) a b (b j) j < 64 := btb_lt (n := 6) j (fun t ht => by have := (hf t (by omega)).2.2.1; omega)
  have hor := g_or _ h64 (a j) (by omega)
  unfold bX3_take_21 jX3_take_92_21
  rw [if_neg (nI_ge hj (by omega))]
  simp only [obs_ hk, ix2, nI_1, r1, r2, xbit hX (show j < 10 by omega), Option.bind_some]
  cases c1 : X.testBit j
  · rw [if_pos (by simp), if_neg (nI_pos (by omega)), g_28_3, Option.bind_some, h99, if_neg (nI_ge b6 (by omega))]
    have hg : tk29_ (fun t => !(X.testBit t)) a b j g (b j) = nI (btb_ (fun t => !(X.testBit t)) a b (b j) j) := by unfold tk29_; rw [if_pos (by omega)]
    simp only [q_28_0, al29 (show b j < 6 by omega), ax29 (show b j < 6 by omega), up2_eq, up2_up2, hg, hor, Option.bind_some]
    have e9 : upd (tk29_ (fun t => !(X.testBit t)) a b j g) (b j) (nI (btb_ (fun t => !(X.testBit t)) a b (b j) j ||| 2 ^ a j)) = tk29_ (fun t => !(X.testBit t)) a b (j + 1) g := by
      funext q
      by_cases cq : q = b j
      · subst cq
        rw [upd_eq]
        unfold tk29_
        rw [if_pos (by omega)]
        unfold btb_
        rw [if_pos (by simp [c1])]
        cases j <;> rfl
      · rw [upd_ne cq]
        unfold tk29_
        by_cases q6 : q < 6
        · rw [if_pos q6, if_pos q6]
          have e8 : btb_ (fun t => !(X.testBit t)) a b q (j + 1) = if ((!(X.testBit j)) && decide (b j = q)) = true then btb_ (fun t => !(X.testBit t)) a b q j ||| 2 ^ a j else btb_ (fun t => !(X.testBit t)) a b q j := rfl
          rw [e8, if_neg (by simp [show ¬ b j = q from fun w => cq w.symm])]
        · rw [if_neg q6, if_neg q6]
    rw [e9]
  · rw [if_neg (by simp)]
    have e9 : tk29_ (fun t => !(X.testBit t)) a b j g = tk29_ (fun t => !(X.testBit t)) a b (j + 1) g := by
      funext q
      unfold tk29_
      have e8 : btb_ (fun t => !(X.testBit t)) a b q (j + 1) = if ((!(X.testBit j)) && decide (b j = q)) = true then btb_ (fun t => !(X.testBit t)) a b q j ||| 2 ^ a j else btb_ (fun t => !(X.testBit t)) a b q j := rfl
      rw [e8, if_neg (show ¬ ((!(X.testBit j)) && decide (b j = q)) = true by simp [c1])]
    rw [← e9]
theorem C_take {z : Nat → Int32} {f : Nat → Nat → Int32} {k i m bb n X : Nat} {a b : Nat → Nat} (hk : k < 4) (hn : n ≤ 6) (hm : m ≤ 10) (hX : X < 2 ^ 31) (hb60 : bb ≤ 60) (him : i + 2 * m ≤ bb) (hb : z (32 * (32 + 2 * k) + 3) = nI bb) (hf : ∀ t, t < m → f (33 + 2 * k) (i + 2 * t) = nI (a t) ∧ f (33 + 2 * k) (i + 2 * t + 1) = nI (b t) ∧ a t < n ∧ b t < n) : fX3_take (HH z f) 28 (nI n) (32 + 2 * k) (nI i) (nI m) (nI X) = some (HH (upd z 899 (nI n)) (up2 f 29 (tk29_ (fun t => !(X.testBit t)) a b m (f 29)))) := by
  have hfl : fJ7_fill_53178 (HH (upd z 899 (nI n)) f) 29 0 = some (HH (upd z 899 (nI n)) (up2 f 29 (tk29_ (fun t => !(X.testBit t)) a b 0 (f 29)))) := by
    rw [fill_gen (n := 6) rfl (by decide)]
    rfl
  have hlo : it_ (bX3_take_21 28 (32 + 2 * k) (nI i) (nI m) (nI X)) fu_ (0, HH (upd z 899 (nI n)) (up2 f 29 (tk29_ (fun t => !(X.testBit t)) a b 0 (f 29)))) = some (HH (upd z 899 (nI n)) (up2 f 29 (tk29_ (fun t => !(X.testBit t)) a b m (f 29)))) := by
    refine it_at (fun j => (nI j, HH (upd z 899 (nI n)) (up2 f 29 (tk29_ (fun t => !(X.testBit t)) a b j (f 29))))) m ?_ (fun j hj => ?_) ?_ fu_ (fu_gt (by omega))
    · (try dsimp only)
      rw [nI_0]
    · exact C_tkb hk hn hm hX hb60 him upd_eq (by rw [upd_ne (by omega)]; exact hb) hf hj (f 29)
    · unfold bX3_take_21
      rw [if_pos (nI_le (Nat.le_refl m) (by omega))]
  unfold fX3_take
  simp only [mn6 hn, p_28_3, q_28_0, hfl, hlo, Option.bind_some]
/-! the class lines up -/
def nx_ (M : Nat → Bool) : Nat → Nat → Nat
  | 0, p => p
  | d + 1, p => if M p then p else nx_ M d (p + 1)
theorem nx_p {M : Nat → Bool} : ∀ (d p : Nat), p ≤ nx_ M d p ∧ nx_ M d p ≤ p + d ∧ (∀ q, p ≤ q → q < nx_ M d p → M q = false) ∧ (nx_ M d p < p + d → M (nx_ M d p) = true) := by
  intro d
  induction d with
  | zero => intro p; exact ⟨Nat.le_refl _, Nat.le_refl _, fun q h1 h2 => absurd h2 (by show ¬ q < p; omega), fun h => absurd h (by show ¬ p < p + 0; omega)⟩
  | succ d ih =>
    intro p
    unfold nx_
    cases c : M p
    · simp only [Bool.false_eq_true, if_false]
      obtain ⟨i1, i2, i3, i4⟩ := ih (p + 1)
      refine ⟨by omega, by omega, fun q h1 h2 => ?_, fun h => i4 (by omega)⟩
      by_cases cq : q = p
      · subst cq; exact c
      · exact i3 q (by omega) h2
    · simp only [if_true]
      exact ⟨Nat.le_refl _, by omega, fun q h1 h2 => by omega, fun _ => c⟩
def ls_ (n : Nat) (M : Nat → Nat → Bool) : Nat → Nat → Option (List Nat)
  | 0, _ => some []
  | d + 1, A => if nx_ (M A) n 0 = n then none else (ls_ n M d (A ||| 2 ^ nx_ (M A) n 0)).map (fun l => nx_ (M A) n 0 :: l)
section LINE
variable {z : Nat → Int32} {c : Nat → Bool} {a b : Nat → Nat} {m n : Nat}
theorem C_nx {f : Nat → Nat → Int32} {A : Nat} {x : Int32} (hn : n ≤ 6) (ha : ∀ t, t < m → a t < 6) (hA : A < 64) (h99 : z 899 = nI n) (h29 : ∀ p, p < n → f 29 p = nI (btb_ c a b p m)) : ∀ (d p fuel : Nat), p + d = n → d < fuel → it_ (bX3_lineUp_14 (HH z f) 28 (nI A) x) fuel (nI p) = some (nI (nx_ (mf_ c a b m A) d p)) := by
  intro d
  induction d with
  | zero =>
    intro p fuel hp hf
    obtain ⟨fuel, rfl⟩ : ∃ y, fuel = y + 1 := ⟨fuel - 1, by omega⟩
    refine it_e ?_
    unfold bX3_lineUp_14
    simp only [g_28_3, h99, Option.bind_some]
    rw [if_pos (nI_le (by omega) (by omega))]
    rfl
  | succ d ih =>
    intro p fuel hp hf
    obtain ⟨fuel, rfl⟩ : ∃ y, fuel = y + 1 := ⟨fuel - 1, by omega⟩
    have hmf := C_mf (z := z) (f := f) (b := b) (c := c) ha hA (show p < 6 by omega) (h29 p (by omega))
    have e : nx_ (mf_ c a b m A) (d + 1) p = if mf_ c a b m A p then p else nx_ (mf_ c a b m A) d (p + 1) := rfl
    rw [e]
    cases cm : mf_ c a b m A p
    · rw [if_neg Bool.false_ne_true, ← ih (p + 1) fuel (by omega) (by omega)]
      refine it_s ?_
      unfold bX3_lineUp_14
      simp only [g_28_3, h99, Option.bind_some]
      rw [if_neg (nI_ge (show p < n by omega) (by omega))]
      simp only [ob_28, hmf, cm, b_f, if_true, nI_1, Option.bind_some]
    · rw [if_pos rfl]
      refine it_e ?_
      unfold bX3_lineUp_14
      simp only [g_28_3, h99, Option.bind_some]
      rw [if_neg (nI_ge (show p < n by omega) (by omega))]
      simp only [ob_28, hmf, cm, b_t, n10_, if_false, Option.bind_some]
theorem C_ln (hn : n ≤ 6) (ha : ∀ t, t < m → a t < 6) (h99 : z 899 = nI n) : ∀ (d pl A : Nat) (f : Nat → Nat → Int32) (fuel : Nat), pl + d = n → d < fuel → A < 2 ^ n → (∀ p, p < n → f 29 p = nI (btb_ c a b p m)) → (ls_ n (mf_ c a b m) d A = none → ∃ g, it_ (bX3_lineUp_4 28) fuel (nI A, nI pl, HH z f) = some (.inr (0, HH z (up2 f 31 g)))) ∧ (∀ l, ls_ n (mf_ c a b m) d A = some l → ∃ g, it_ (bX3_lineUp_4 28) fuel (nI A, nI pl, HH z f) = some (.inl (HH z (up2 f 31 g))) ∧ (∀ j, j < pl → g j = f 31 j) ∧ ∀ j, j < d → g (pl + j) = nI (gd_ l j)) := by
  intro d
  induction d with
  | zero =>
    intro pl A f fuel hp hf hA h29
    obtain ⟨fuel, rfl⟩ : ∃ y, fuel = y + 1 := ⟨fuel - 1, by omega⟩
    refine ⟨fun h => (by cases h), fun l h => ⟨f 31, ?_, fun j _ => rfl, fun j hj => by omega⟩⟩
    rw [up2_self (fun q => rfl)]
    refine it_e ?_
    unfold bX3_lineUp_4
    simp only [g_28_3, h99, Option.bind_some]
    rw [if_pos (nI_le (by omega) (by omega))]
  | succ d ih =>
    intro pl A f fuel hp hf hA h29
    obtain ⟨fuel, rfl⟩ : ∃ y, fuel = y + 1 := ⟨fuel - 1, by omega⟩
    have hA64 : A < 64 := Nat.lt_of_lt_of_le hA (pw6 hn)
    have hnx := C_nx (f := f) (b := b) (c := c) (x := nI pl) hn ha hA64 h99 h29 n 0 fu_ (by omega) (fu_gt (by omega))
    rw [nI_0] at hnx
    obtain ⟨_, q2, _, q4⟩ := nx_p (M := mf_ c a b m A) n 0
    have hls : ls_ n (mf_ c a b m) (d + 1) A = if nx_ (mf_ c a b m A) n 0 = n then none else (ls_ n (mf_ c a b m) d (A ||| 2 ^ nx_ (mf_ c a b m A) n 0)).map (fun l => nx_ (mf_ c a b m A) n 0 :: l) := rfl
    rw [hls]
    generalize hq : nx_ (mf_ c a b m A) n 0 = q at hnx q2 q4
    by_cases cq : q = n
    · rw [if_pos cq]
      refine ⟨fun _ => ⟨f 31, ?_⟩, fun l h => by cases h⟩
      rw [up2_self (fun q => rfl)]
      refine it_e ?_
      unfold bX3_lineUp_4
      simp only [g_28_3, h99, Option.bind_some]
      rw [if_neg (nI_ge (show pl < n by omega) (by omega)), hnx, Option.bind_some, if_pos (by rw [cq])]
    · rw [if_neg cq]
      have hqn : q < n := by omega
      have hb : bX3_lineUp_4 28 (nI A, nI pl, HH z f) = some (.inl (nI (A ||| 2 ^ q), nI (pl + 1), HH z (up2 f 31 (upd (f 31) pl (nI q))))) := by
        unfold bX3_lineUp_4
        simp only [g_28_3, h99, Option.bind_some]
        rw [if_neg (nI_ge (show pl < n by omega) (by omega)), hnx, Option.bind_some, if_neg (fun w => cq ((nI_eq (by omega) (by omega)).mp w))]
        simp only [q_28_2, ax31 (show pl < 6 by omega), g_or A hA64 q (by omega), nI_1, Option.bind_some]
      rw [it_s hb]
      obtain ⟨i1, i2⟩ := ih (pl + 1) (A ||| 2 ^ q) (up2 f 31 (upd (f 31) pl (nI q))) fuel (by omega) (by omega) (or_lt hA hqn) (fun p hp => by rw [up2_ne (by decide)]; exact h29 p hp)
      constructor
      · intro h
        rw [Option.map_eq_none_iff] at h
        obtain ⟨g, e⟩ := i1 h
        exact ⟨g, by rw [e, up2_up2]⟩
      · intro l h
        rw [Option.map_eq_some_iff] at h
        obtain ⟨l2, h1, rfl⟩ := h
        obtain ⟨g, e1, e2, e3⟩ := i2 l2 h1
        refine ⟨g, by rw [e1, up2_up2], fun j hj => ?_, fun j hj => ?_⟩
        · rw [e2 j (by omega), up2_eq, upd_ne (by omega)]
        · by_cases cj : j = 0
          · subst cj
            rw [Nat.add_zero, e2 pl (by omega), up2_eq, upd_eq]
            rfl
          · have h9 := e3 (j - 1) (by omega)
            rw [show pl + 1 + (j - 1) = pl + j by omega] at h9
            rw [h9]
            obtain ⟨j2, rfl⟩ : ∃ y, j = y + 1 := ⟨j - 1, by omega⟩
            rfl
theorem C_lu {f : Nat → Nat → Int32} (hn : n ≤ 6) (ha : ∀ t, t < m → a t < 6) (h99 : z 899 = nI n) (h29 : ∀ p, p < n → f 29 p = nI (btb_ c a b p m)) : (ls_ n (mf_ c a b m) n 0 = none → ∃ g, fX3_lineUp (HH z f) 28 = some (0, HH z (up2 f 31 g))) ∧ (∀ l, ls_ n (mf_ c a b m) n 0 = some l → ∃ g, fX3_lineUp (HH z f) 28 = some (1, HH z (up2 f 31 g)) ∧ ∀ j, j < n → g j = nI (gd_ l j)) := by
  obtain ⟨i1, i2⟩ := C_ln (b := b) (c := c) hn ha h99 n 0 0 f fu_ (by omega) (fu_gt (by omega)) (Nat.two_pow_pos n) h29
  rw [nI_0] at i1 i2
  unfold fX3_lineUp
  constructor
  · intro h
    obtain ⟨g, e⟩ := i1 h
    exact ⟨g, by rw [e, Option.bind_some]⟩
  · intro l h
    obtain ⟨g, e1, e2, e3⟩ := i2 l h
    refine ⟨g, by rw [e1, Option.bind_some], fun j hj => ?_⟩
    have h9 := e3 j hj
    rw [Nat.zero_add] at h9
    exact h9
end LINE
