/-! twos: what orders and drops begin with -/
def rw_ (n : Nat) (g : Nat → Int32) : Nat → Nat → Bool
  | _, 0 => true
  | j, r + 1 => t2_ n (g (2 * j)) (g (2 * j + 1)) && rw_ n g (j + 1) r
theorem rw_all {n : Nat} {g : Nat → Int32} : ∀ (r j : Nat), rw_ n g j r = true → ∀ t, t < r → t2_ n (g (2 * (j + t))) (g (2 * (j + t) + 1)) = true := by
  intro r
  induction r with
  | zero => intro j _ t ht; omega
  | succ r ih =>
    intro j h t ht
    unfold rw_ at h
    rw [Bool.and_eq_true] at h
    by_cases c : t = 0
    · subst c; exact h.1
    · have h9 := ih (j + 1) h.2 (t - 1) (by omega)
      rw [show j + 1 + (t - 1) = j + t by omega] at h9
      exact h9
theorem rw_cg {n : Nat} {g g' : Nat → Int32} : ∀ (r j : Nat), (∀ t, t < 2 * (j + r) → g t = g' t) → rw_ n g j r = rw_ n g' j r := by
  intro r
  induction r with
  | zero => intro j _; rfl
  | succ r ih =>
    intro j h
    unfold rw_
    rw [h (2 * j) (by omega), h (2 * j + 1) (by omega), ih (j + 1) (fun t ht => h t (by omega))]
theorem C_tw {z : Nat → Int32} {f : Nat → Nat → Int32} {k i m b n : Nat} (hk : k < 4) (hn : n ≤ 6) (hb60 : b ≤ 60) (him : i + 2 * m ≤ b) (h33 : z 33 = nI n) (hb : z (32 * (32 + 2 * k) + 3) = nI b) : ∀ (r j fuel : Nat), j + r = m → r < fuel → it_ (bX8_refusalOfTwos_47 (HH z f) 0 (nI i) (nI m) (32 + 2 * k)) fuel (nI j) = some (if rw_ n (fun t => f (33 + 2 * k) (i + t)) j r = true then .inl () else .inr (-1, HH z f)) := by
  intro r
  induction r with
  | zero =>
    intro j fuel hj hf
    obtain ⟨fuel, rfl⟩ : ∃ y, fuel = y + 1 := ⟨fuel - 1, by omega⟩
    rw [if_pos (show rw_ n (fun t => f (33 + 2 * k) (i + t)) j 0 = true from rfl)]
    refine it_e ?_
    unfold bX8_refusalOfTwos_47
    rw [if_pos (nI_le (by omega) (by omega))]
  | succ r ih =>
    intro j fuel hj hf
    obtain ⟨fuel, rfl⟩ : ∃ y, fuel = y + 1 := ⟨fuel - 1, by omega⟩
    have r1 := C_rd (f := f) (j := i + 2 * j) hk hb hb60 (by omega)
    have r2 := C_rd (f := f) (j := i + 2 * j + 1) hk hb hb60 (by omega)
    have hrw : rw_ n (fun t => f (33 + 2 * k) (i + t)) j (r + 1) = (t2_ n (f (33 + 2 * k) (i + 2 * j)) (f (33 + 2 * k) (i + 2 * j + 1)) && rw_ n (fun t => f (33 + 2 * k) (i + t)) (j + 1) r) := rfl
    rw [hrw]
    cases c : t2_ n (f (33 + 2 * k) (i + 2 * j)) (f (33 + 2 * k) (i + 2 * j + 1))
    · rw [Bool.false_and, if_neg Bool.false_ne_true]
      refine it_e ?_
      unfold bX8_refusalOfTwos_47
      rw [if_neg (nI_ge (by omega) (by omega))]
      simp only [q_0_0, obs_ hk, ix2, nI_1, r1, r2, ob_1, C_two h33, c, b_f, if_true, Option.bind_some]
    · rw [Bool.true_and, ← ih (j + 1) fuel (by omega) (by omega)]
      refine it_s ?_
      unfold bX8_refusalOfTwos_47
      rw [if_neg (nI_ge (by omega) (by omega))]
      simp only [q_0_0, obs_ hk, ix2, nI_1, r1, r2, ob_1, C_two h33, c, b_t, n10_, if_false, Option.bind_some]
theorem M_tw {z : Nat → Int32} {f : Nat → Nat → Int32} {c m n : Nat} (hc : c + 2 * m ≤ 240) (h85 : z 1285 = nI n) : ∀ (r j fuel : Nat), j + r = m → r < fuel → it_ (bX9_refusesTwos_2 (HH z f) 40 (nI c) (nI m)) fuel (nI j) = some (if rw_ n (fun t => f 43 (c + t)) j r = true then .inl () else .inr (-1)) := by
  intro r
  induction r with
  | zero =>
    intro j fuel hj hf
    obtain ⟨fuel, rfl⟩ : ∃ y, fuel = y + 1 := ⟨fuel - 1, by omega⟩
    rw [if_pos (show rw_ n (fun t => f 43 (c + t)) j 0 = true from rfl)]
    refine it_e ?_
    unfold bX9_refusesTwos_2
    rw [if_pos (nI_le (by omega) (by omega))]
  | succ r ih =>
    intro j fuel hj hf
    obtain ⟨fuel, rfl⟩ : ∃ y, fuel = y + 1 := ⟨fuel - 1, by omega⟩
    have hrw : rw_ n (fun t => f 43 (c + t)) j (r + 1) = (t2_ n (f 43 (c + 2 * j)) (f 43 (c + 2 * j + 1)) && rw_ n (fun t => f 43 (c + t)) (j + 1) r) := rfl
    rw [hrw]
    cases ct : t2_ n (f 43 (c + 2 * j)) (f 43 (c + 2 * j + 1))
    · rw [Bool.false_and, if_neg Bool.false_ne_true]
      refine it_e ?_
      unfold bX9_refusesTwos_2
      rw [if_neg (nI_ge (by omega) (by omega))]
      simp only [q_40_4, ob_40, ix2, nI_1, al43 (show c + 2 * j < 240 by omega), al43 (show c + 2 * j + 1 < 240 by omega), M_two h85, ct, b_f, if_true, Option.bind_some]
    · rw [Bool.true_and, ← ih (j + 1) fuel (by omega) (by omega)]
      refine it_s ?_
      unfold bX9_refusesTwos_2
      rw [if_neg (nI_ge (by omega) (by omega))]
      simp only [q_40_4, ob_40, ix2, nI_1, al43 (show c + 2 * j < 240 by omega), al43 (show c + 2 * j + 1 < 240 by omega), M_two h85, ct, b_t, n10_, if_false, Option.bind_some]
theorem M_rtw {z : Nat → Int32} {f : Nat → Nat → Int32} {c m n : Nat} (hm : m ≤ 10) (hc : c + 2 * m ≤ 240) (h85 : z 1285 = nI n) : fX9_refusesTwos (HH z f) 40 (nI c) (nI m) = some (if rw_ n (fun t => f 43 (c + t)) 0 m = true then 0 else -1) := by
  have h := M_tw (f := f) hc h85 m 0 fu_ (by omega) (fu_gt (by omega))
  rw [nI_0] at h
  unfold fX9_refusesTwos
  rw [h, Option.bind_some]
  by_cases c1 : rw_ n (fun t => f 43 (c + t)) 0 m = true
  · rw [if_pos c1, if_pos c1]
  · rw [if_neg c1, if_neg c1]
theorem C_rt0 {h : hp_H} (p q u v : Int32) (s : Bool) : fX8_refusalOfTwos h 0 p q u v (bi_ s) = jX8_refusalOfTwos_23 h 0 p u v (bi_ (s && !(decide ((10 : Int32) < v)))) v u q p 0 := by
  unfold fX8_refusalOfTwos jX8_refusalOfTwos_22
  cases s
  · rw [b_f, if_pos rfl, Bool.false_and, b_f]
  · rw [b_t, if_neg n10_, Bool.true_and]
    by_cases c : (10 : Int32) < v
    · rw [if_pos c, decide_eq_true c]; rfl
    · rw [if_neg c, decide_eq_false c]; rfl
theorem C_rt_e {z y : Nat → Int32} {f : Nat → Nat → Int32} {p q u v e : Int32} {s : Bool} (he : ¬ e = 0) (hr : fX8_refusalOfRow (HH z f) 0 p q u v (bi_ (s && !(decide ((10 : Int32) < v)))) = some (e, HH y f)) : fX8_refusalOfTwos (HH z f) 0 p q u v (bi_ s) = some (e, HH y f) := by
  rw [C_rt0]
  unfold jX8_refusalOfTwos_23
  simp only [ob_0, hr, he, if_false, Option.bind_some]
theorem C_rt_y {z y : Nat → Int32} {f : Nat → Nat → Int32} {q : Int32} {s : Bool} {k i m : Nat} (hk : k < 4) (hr : fX8_refusalOfRow (HH z f) 0 (nI k) q (nI i) (nI m) (bi_ (s && !(decide ((10 : Int32) < nI m)))) = some (0, HH y f)) (h : it_ (bX8_refusalOfTwos_47 (HH y f) 0 (nI i) (nI m) (32 + 2 * k)) fu_ 0 = some (.inl ())) : fX8_refusalOfTwos (HH z f) 0 (nI k) q (nI i) (nI m) (bi_ s) = some (0, HH y f) := by
  rw [C_rt0]
  unfold jX8_refusalOfTwos_23
  simp only [ob_0, hr, if_true, q_0_1, qs_ hk, h, Option.bind_some]
theorem C_rt_n {z y : Nat → Int32} {f : Nat → Nat → Int32} {q : Int32} {s : Bool} {k i m : Nat} (hk : k < 4) {w : Int32 × hp_H} (hr : fX8_refusalOfRow (HH z f) 0 (nI k) q (nI i) (nI m) (bi_ (s && !(decide ((10 : Int32) < nI m)))) = some (0, HH y f)) (h : it_ (bX8_refusalOfTwos_47 (HH y f) 0 (nI i) (nI m) (32 + 2 * k)) fu_ 0 = some (.inr w)) : fX8_refusalOfTwos (HH z f) 0 (nI k) q (nI i) (nI m) (bi_ s) = some (w) := by
  rw [C_rt0]
  unfold jX8_refusalOfTwos_23
  simp only [ob_0, hr, if_true, q_0_1, qs_ hk, h, Option.bind_some]
/-- the class's refusals of twos -/
theorem tw_pre {z : Nat → Int32} {f : Nat → Nat → Int32} {n : Nat} (hn : n ≤ 6) (hS : IvS z f) (h33 : z 33 = nI n) (p q u v : Int32) (s : Bool) :
    (ip_ 4 p = false ∧ fX8_refusalOfTwos (HH z f) 0 p q u v (bi_ s) = some (-1, HH (upd z 8 0) f)) ∨
    (ip_ 4 p = true ∧ (ip_ 3 q = false ∨ v < 0 ∨ (s && !(decide ((10 : Int32) < v))) = false) ∧ fX8_refusalOfTwos (HH z f) 0 p q u v (bi_ s) = some (-2, HH (upd z 8 0) f)) ∨
    (∃ k m, k < 4 ∧ m ≤ 10 ∧ p = nI k ∧ ip_ 3 q = true ∧ v = nI m ∧ s = true ∧
      ((∃ g : Int32, g ≠ 0 ∧ -10 - g ≠ 0 ∧ fX8_refusalOfTwos (HH z f) 0 p q u v (bi_ s) = some (-10 - g, HH (upd z 8 g) f) ∧ ∀ y, fX9_against (HH y f) 40 (nI k) q u (2 * nI m) = some g) ∨
       ((∀ y, fX9_against (HH y f) 40 (nI k) q u (2 * nI m) = some 0) ∧
        ((n = 0 ∧ fX8_refusalOfTwos (HH z f) 0 p q u v (bi_ s) = some (-3, HH (upd z 8 0) f)) ∨
         (n ≠ 0 ∧ ∃ i b, u = nI i ∧ i + 2 * m ≤ b ∧ b ≤ 60 ∧ z (32 * (32 + 2 * k) + 3) = nI b ∧ fX8_refusalOfTwos (HH z f) 0 p q u v (bi_ s) = some (if rw_ n (fun t => f (33 + 2 * k) (i + t)) 0 m = true then 0 else -1, HH (upd z 8 0) f)))))) := by
  rcases row_pre hn hS h33 p q u v (s && !(decide ((10 : Int32) < v))) 10 (by decide) (fun e c => by
    simp only [Bool.and_eq_true, Bool.not_eq_true', decide_eq_false_iff_not] at e
    exact e.2 c) with ⟨h1, hr⟩ | ⟨h1, h2, hr⟩ | ⟨k, m, hk, hm, rfl, h3, rfl, h4, hh⟩
  · exact Or.inl ⟨h1, C_rt_e m10_ hr⟩
  · exact Or.inr (Or.inl ⟨h1, h2, C_rt_e m20_ hr⟩)
  · have hs : s = true := by
      rw [Bool.and_eq_true] at h4
      exact h4.1
    refine Or.inr (Or.inr ⟨k, m, hk, hm, rfl, h3, rfl, hs, ?_⟩)
    rcases hh with ⟨g, hg, hg0, hr, hag⟩ | ⟨hag, ⟨hn0, hr⟩ | ⟨hn0, hr, i, b, rfl, him, hb60, hb⟩⟩
    · exact Or.inl ⟨g, hg, hg0, C_rt_e hg0 hr, hag⟩
    · exact Or.inr ⟨hag, Or.inl ⟨hn0, C_rt_e m30_ hr⟩⟩
    · refine Or.inr ⟨hag, Or.inr ⟨hn0, i, b, rfl, him, hb60, hb, ?_⟩⟩
      have h := C_tw (z := upd z 8 0) (f := f) (n := n) hk hn hb60 him (by rw [upd_ne (by decide)]; exact h33) (by rw [upd_ne (by omega)]; exact hb) m 0 fu_ (by omega) (fu_gt (by omega))
      rw [nI_0] at h
      by_cases c1 : rw_ n (fun t => f (33 + 2 * k) (i + t)) 0 m = true
      · rw [if_pos c1] at h ⊢
        exact C_rt_y hk hr h
      · rw [if_neg c1] at h ⊢
        exact C_rt_n hk hr h
