/-! a harbour's text: which code goes on at which place -/
def kc_ (x : Int32) : Int32 := if x = 99 then 2 else if x = 108 then 1 else if x = 112 then 0 else -9
def go_ (t : Nat) (x : Int32) : Bool := if t = 0 then decide (x = 118) else if 24 < t then false else if (t - 1) % 4 = 0 then decide (x = 59) else if (t - 1) % 4 = 1 then !(decide (kc_ x = -9)) else ip_ 10 (x - 48)
theorem C_kd {h : hp_H} (x : Int32) : fX6_kindOf h x = some (kc_ x) := by
  unfold fX6_kindOf kc_
  split
  · rfl
  · split
    · rfl
    · split <;> rfl
theorem C_go {h : hp_H} {t : Nat} (ht : t < 1000) (x : Int32) : fX6_goesOn h (nI t) x = some (bi_ (go_ t x)) := by
  unfold fX6_goesOn go_
  simp only [C_kd, C_dig, Option.bind_some, bz_bi]
  by_cases c0 : t = 0
  · subst c0
    rw [if_pos nI_0, if_pos rfl]
    by_cases c : x = 118
    · simp [c, bi_]
    · simp [c, bi_]
  rw [if_neg (nI_ne0 (by omega) (by omega)), if_neg c0]
  by_cases c1 : 24 < t
  · rw [if_neg (show ¬ nI t ≤ 24 from nI_ge (a := 24) c1 (by omega)), if_pos c1]
    rfl
  rw [if_pos (show nI t ≤ 24 from nI_le (b := 24) (by omega) (by decide)), if_neg c1]
  have e : rm_ (nI t - 1) 4 = some (nI ((t - 1) % 4)) := by
    rw [show nI t - 1 = nI (t - 1) from pk_sub (b := 1) (by omega)]
    unfold rm_
    rw [if_neg (by decide), show (4 : Int32) = nI 4 from rfl, pk_rem (by omega) (by decide) (by decide)]
  rw [e, Option.bind_some]
  have hm := Nat.mod_lt (t - 1) (show 4 > 0 by decide)
  by_cases c2 : (t - 1) % 4 = 0
  · rw [c2, if_pos nI_0, if_pos rfl]
    by_cases c : x = 59
    · simp [c, bi_]
    · simp [c, bi_]
  rw [if_neg (nI_ne0 (by omega) (by omega)), if_neg c2]
  by_cases c3 : (t - 1) % 4 = 1
  · rw [c3, if_pos (show nI 1 = 1 by decide), if_pos rfl]
    by_cases c : kc_ x = -9
    · simp [c, bi_]
    · simp [c, bi_]
  · rw [if_neg (show ¬ nI ((t - 1) % 4) = 1 from fun w => c3 ((nI_eq (b := 1) (by omega) (by decide)).mp w)), if_neg c3]
def ff_ (g : Nat → Int32) : Nat → Nat → Nat
  | j, 0 => j
  | j, k + 1 => if go_ j (g j) then ff_ g (j + 1) k else j
theorem ff_p {g : Nat → Int32} : ∀ (k j : Nat), j ≤ ff_ g j k ∧ ff_ g j k ≤ j + k ∧ (∀ t, j ≤ t → t < ff_ g j k → go_ t (g t) = true) ∧ (ff_ g j k < j + k → go_ (ff_ g j k) (g (ff_ g j k)) = false) := by
  intro k
  induction k with
  | zero => intro j; exact ⟨Nat.le_refl _, Nat.le_refl _, fun t h1 h2 => absurd h2 (by show ¬ t < j; omega), fun h => absurd h (by show ¬ j < j + 0; omega)⟩
  | succ k ih =>
    intro j
    unfold ff_
    cases c : go_ j (g j)
    · simp only [Bool.false_eq_true, if_false]
      exact ⟨Nat.le_refl _, by omega, fun t h1 h2 => by omega, fun _ => c⟩
    · simp only [if_true]
      obtain ⟨i1, i2, i3, i4⟩ := ih (j + 1)
      refine ⟨by omega, by omega, fun t h1 h2 => ?_, fun h => i4 (by omega)⟩
      by_cases ct : t = j
      · subst ct; exact c
      · exact i3 t (by omega) h2
theorem C_ff {z : Nat → Int32} {f : Nat → Nat → Int32} {k i n b : Nat} (hk : k < 4) (hb : z (32 * (32 + 2 * k) + 3) = nI b) (hb60 : b ≤ 60) (hin : i + n ≤ b) : ∀ (r j fuel : Nat), j + r = n → r < fuel → it_ (bX6_firstFault_2 (HH z f) (32 + 2 * k) (nI i) (nI n)) fuel (nI j) = some (if ff_ (fun t => f (33 + 2 * k) (i + t)) j r = n then .inl () else .inr (nI (ff_ (fun t => f (33 + 2 * k) (i + t)) j r))) := by
  intro r
  induction r with
  | zero =>
    intro j fuel hj hf
    obtain ⟨fuel, rfl⟩ : ∃ y, fuel = y + 1 := ⟨fuel - 1, by omega⟩
    rw [if_pos (show ff_ (fun t => f (33 + 2 * k) (i + t)) j 0 = n from by show j = n; omega)]
    refine it_e ?_
    unfold bX6_firstFault_2
    rw [if_pos (nI_le (by omega) (by omega))]
  | succ r ih =>
    intro j fuel hj hf
    obtain ⟨fuel, rfl⟩ : ∃ y, fuel = y + 1 := ⟨fuel - 1, by omega⟩
    have hr1 := C_rd (f := f) (j := i + j) hk hb hb60 (by omega)
    have hff : ff_ (fun t => f (33 + 2 * k) (i + t)) j (r + 1) = if go_ j (f (33 + 2 * k) (i + j)) then ff_ (fun t => f (33 + 2 * k) (i + t)) (j + 1) r else j := rfl
    cases c : go_ j (f (33 + 2 * k) (i + j))
    · rw [hff, c, if_neg Bool.false_ne_true, if_neg (show ¬ j = n by omega)]
      refine it_e ?_
      unfold bX6_firstFault_2
      rw [if_neg (nI_ge (by omega) (by omega))]
      simp only [obs_ hk, nI_add, hr1, C_go (show j < 1000 by omega), c, b_f, if_true, Option.bind_some]
    · rw [hff, c, if_pos rfl, ← ih (j + 1) fuel (by omega) (by omega)]
      refine it_s ?_
      unfold bX6_firstFault_2
      rw [if_neg (nI_ge (by omega) (by omega))]
      simp only [obs_ hk, nI_add, hr1, C_go (show j < 1000 by omega), c, b_t, n10_, if_false, nI_1, Option.bind_some]
theorem C_first {z : Nat → Int32} {f : Nat → Nat → Int32} {k i n b J : Nat} (hk : k < 4) (hb : z (32 * (32 + 2 * k) + 3) = nI b) (hb60 : b ≤ 60) (hin : i + n ≤ b) (hJ : J = ff_ (fun t => f (33 + 2 * k) (i + t)) 0 n) : fX6_firstFault (HH z f) (32 + 2 * k) (nI i) (nI n) = some (if J = n ∧ 9 ≤ n ∧ (n - 1) % 4 = 0 then -9 else nI J) := by
  have h := C_ff (f := f) hk hb hb60 hin n 0 fu_ (by omega) (fu_gt (by omega))
  rw [nI_0, ← hJ] at h
  unfold fX6_firstFault
  rw [h, Option.bind_some]
  by_cases c : J = n
  · rw [if_pos c]
    subst c
    unfold jX6_firstFault_47 jX6_firstFault_48
    by_cases c9 : 9 ≤ J
    · have e : rm_ (nI J - 1) 4 = some (nI ((J - 1) % 4)) := by
        rw [show nI J - 1 = nI (J - 1) from pk_sub (b := 1) (by omega)]
        unfold rm_
        rw [if_neg (by decide), show (4 : Int32) = nI 4 from rfl, pk_rem (by omega) (by decide) (by decide)]
      have hm := Nat.mod_lt (J - 1) (show 4 > 0 by decide)
      dsimp only
      rw [if_neg (show ¬ nI J < 9 from nI_nlt (b := 9) c9 (by omega)), e, Option.bind_some]
      by_cases c4 : (J - 1) % 4 = 0
      · rw [if_pos (by rw [c4, nI_0]), if_neg n10_, if_pos ⟨rfl, c9, c4⟩]
      · rw [if_neg (nI_ne0 (by omega) (by omega)), if_pos rfl, if_neg (fun w => c4 w.2.2)]
    · dsimp only
      rw [if_pos (show nI J < 9 from nI_lt (b := 9) (by omega) (by decide)), if_pos rfl, if_neg (fun w => c9 w.2.1)]
  · rw [if_neg c]
    dsimp only
    rw [if_neg (show ¬ (J = n ∧ 9 ≤ n ∧ (n - 1) % 4 = 0) from fun w => c w.1)]
theorem dg_eq (x : Int32) : ip_ 10 (x - 48) = (!(decide (x < 48)) && !(decide ((57 : Int32) < x))) := by
  have h1 := Int32.le_toInt x
  have h2 := Int32.toInt_lt x
  have e48 : (48 : Int32).toInt = 48 := by decide
  have e57 : (57 : Int32).toInt = 57 := by decide
  have e0 : (0 : Int32).toInt = 0 := by decide
  have e : (x - 48).toInt = (x.toInt - 48).bmod (2 ^ 32) := by rw [Int32.toInt_sub, e48]
  rw [Bool.eq_iff_iff]
  simp only [ip_, Bool.and_eq_true, Bool.not_eq_true', decide_eq_false_iff_not, Int32.lt_iff_toInt_lt, Int32.le_iff_toInt_le, nI_toInt (show 10 < 2 ^ 31 by decide), e, e48, e57, e0]
  unfold Int.bmod
  dsimp only
  split <;> omega
/-! the reference's parser, by place -/
section PRS
variable {z : Nat → Int32} {f : Nat → Nat → Int32} {c j n : Nat}
theorem al47 {p : Nat} (hp : p < 18) : al_ (HH z f) 47 (nI p) = some (f 47 p) := HH_al (n := 18) rfl hp (by decide)
theorem ax47 {p : Nat} (hp : p < 18) (x : Int32) : ax_ (HH z f) 47 (nI p) x = some (HH z (up2 f 47 (upd (f 47) p x))) := HH_ax (n := 18) rfl hp (by decide)
theorem sgn1 (hc : c + n ≤ 240) (h : z 1291 = nI (c + j)) (hj : j < n) : fX9_isSign (HH z f) 40 (nI (c + n)) (f 43 (c + j)) = some (1, HH (upd z 1291 (nI (c + j + 1))) f) := by
  unfold fX9_isSign
  simp only [g_40_11, h, q_40_4, p_40_11, nI_1, al43 (show c + j < 240 by omega), if_true, Option.bind_some]
  rw [if_neg (nI_ge (by omega) (by omega))]
theorem sgn0 (hc : c + n ≤ 240) (h : z 1291 = nI (c + j)) {code : Int32} (hj : n ≤ j ∨ ¬ f 43 (c + j) = code) (hjn : j ≤ n) : fX9_isSign (HH z f) 40 (nI (c + n)) code = some (0, HH z f) := by
  unfold fX9_isSign
  simp only [g_40_11, h, q_40_4, Option.bind_some]
  by_cases c1 : n ≤ j
  · rw [if_pos (nI_le (by omega) (by omega))]
  · rw [if_neg (nI_ge (by omega) (by omega)), al43 (by omega), Option.bind_some, if_neg (show ¬ f 43 (c + j) = code from by
      rcases hj with w | w
      · exact absurd w c1
      · exact w)]
theorem dgt1 (hc : c + n ≤ 240) (h : z 1291 = nI (c + j)) (hj : j < n) (hd : ip_ 10 (f 43 (c + j) - 48) = true) : fX9_digit (HH z f) 40 (nI (c + n)) = some (f 43 (c + j) - 48, HH (upd z 1291 (nI (c + j + 1))) f) := by
  unfold fX9_digit
  rw [dg_eq] at hd
  simp only [g_40_11, h, q_40_4, p_40_11, nI_1, al43 (show c + j < 240 by omega), M_within, hd, b_t, n10_, if_false, upd_eq, nI_pred, Option.bind_some]
  rw [if_neg (nI_ge (by omega) (by omega))]
theorem dgt0 (hc : c + n ≤ 240) (h : z 1291 = nI (c + j)) (hj : n ≤ j ∨ ip_ 10 (f 43 (c + j) - 48) = false) (hjn : j ≤ n) : fX9_digit (HH z f) 40 (nI (c + n)) = some (-9, HH z f) := by
  unfold fX9_digit
  simp only [g_40_11, h, q_40_4, Option.bind_some]
  by_cases c1 : n ≤ j
  · rw [if_pos (nI_le (by omega) (by omega))]
  · have hd : ip_ 10 (f 43 (c + j) - 48) = false := by
      rcases hj with w | w
      · exact absurd w c1
      · exact w
    rw [dg_eq] at hd
    rw [if_neg (nI_ge (by omega) (by omega)), al43 (by omega)]
    simp only [M_within, hd, b_f, if_true, Option.bind_some]
theorem rp0 {r : Nat} (hc : c + n ≤ 240) (h : z 1291 = nI (c + j)) (h2 : z 1292 = nI r) (hjn : j ≤ n) : fX9_readPerson (HH z f) 40 (nI (c + n)) = jX9_readPerson_66 (HH z f) 40 (nI (c + n)) (nI (3 * r)) (kc_ (if j < n then f 43 (c + j) else 0)) (nI (3 * r)) 47 := by
  unfold fX9_readPerson jX9_readPerson_21
  have e3 : 3 * nI r = nI (3 * r) := pk_mul 3 r
  simp only [g_40_11, g_40_12, h, h2, q_40_4, q_40_13, e3, Option.bind_some]
  have hk : ∀ x : Int32, (if x = 112 then jX9_readPerson_66 (HH z f) 40 (nI (c + n)) (nI (3 * r)) 0 (nI (3 * r)) 47 else if x = 108 then jX9_readPerson_66 (HH z f) 40 (nI (c + n)) (nI (3 * r)) 1 (nI (3 * r)) 47 else if x = 99 then jX9_readPerson_66 (HH z f) 40 (nI (c + n)) (nI (3 * r)) 2 (nI (3 * r)) 47 else jX9_readPerson_66 (HH z f) 40 (nI (c + n)) (nI (3 * r)) (-9) (nI (3 * r)) 47) = jX9_readPerson_66 (HH z f) 40 (nI (c + n)) (nI (3 * r)) (kc_ x) (nI (3 * r)) 47 := by
    intro x
    unfold kc_
    by_cases d1 : x = 112
    · subst d1
      rw [if_pos rfl, if_neg (by decide), if_neg (by decide), if_pos rfl]
    · rw [if_neg d1]
      by_cases d2 : x = 108
      · subst d2
        rw [if_pos rfl, if_neg (by decide), if_pos rfl]
      · rw [if_neg d2]
        by_cases d3 : x = 99
        · rw [if_pos d3, if_pos d3]
        · rw [if_neg d3, if_neg d3, if_neg d2, if_neg d1]
  by_cases c1 : j < n
  · rw [if_neg (nI_ge (by omega) (by omega)), if_pos c1, al43 (by omega), Option.bind_some]
    exact hk _
  · rw [if_pos (nI_le (by omega) (by omega)), if_neg c1]
    exact hk 0
end PRS
