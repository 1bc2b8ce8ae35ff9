/-! the class counts orders -/
def phi_ (n : Nat) (N w : Nat → Nat) (A : Nat) : Nat := sm_ (fun Y => if A ≤ Y then w Y * N Y else 0) (2 ^ n)
theorem sm_up {h h' : Nat → Nat} {I x : Nat} (hI : h' I = h I + x) (ho : ∀ Y, Y ≠ I → h' Y = h Y) : ∀ k, I < k → sm_ h' k = sm_ h k + x := by
  intro k
  induction k with
  | zero => intro hk; omega
  | succ k ih =>
    intro hk
    have e : ∀ g : Nat → Nat, sm_ g (k + 1) = sm_ g k + g k := fun g => rfl
    rw [e, e]
    by_cases c : I = k
    · subst c
      rw [sm_cg I (fun y hy => ho y (by omega)), hI]
      omega
    · rw [ih (by omega), ho k (fun w => c w.symm)]
      omega
theorem sm_0 {h : Nat → Nat} : ∀ k, (∀ y, y < k → h y = 0) → sm_ h k = 0
  | 0, _ => rfl
  | k + 1, hh => by
    unfold sm_
    rw [sm_0 k (fun y hy => hh y (by omega)), hh k (by omega)]
theorem phi_s {n A : Nat} {N w : Nat → Nat} (hA : A < 2 ^ n) : phi_ n N w A = phi_ n N w (A + 1) + w A * N A := by
  unfold phi_
  refine sm_up (I := A) ?_ (fun Y hY => ?_) _ hA
  · (try dsimp only)
    rw [if_pos (Nat.le_refl A), if_neg (by omega), Nat.zero_add]
  · (try dsimp only)
    by_cases c : A ≤ Y
    · rw [if_pos c, if_pos (by omega)]
    · rw [if_neg c, if_neg (by omega)]
set_option maxRecDepth 100000 in
theorem or_gt : ∀ A, A < 64 → ∀ q, q < 6 → A.testBit q = false → A < A ||| 2 ^ q := by decide +kernel
set_option maxRecDepth 100000 in
theorem pc_lt : ∀ n, n < 7 → ∀ A, A < 64 → A < 2 ^ n - 1 → pcN_ 6 A < n := by decide +kernel
theorem al30 {z : Nat → Int32} {f : Nat → Nat → Int32} {p : Nat} (hp : p < 64) : al_ (HH z f) 30 (nI p) = some (f 30 p) := HH_al (n := 64) rfl hp (by decide)
theorem ax30 {z : Nat → Int32} {f : Nat → Nat → Int32} {p : Nat} (hp : p < 64) (x : Int32) : ax_ (HH z f) 30 (nI p) x = some (HH z (up2 f 30 (upd (f 30) p x))) := HH_ax (n := 64) rfl hp (by decide)
section CHM
variable {z : Nat → Int32} {n m : Nat} {c : Nat → Bool} {a b : Nat → Nat}
theorem C_hi {A base wA : Nat} {x : Int32} {N : Nat → Nat} (hn : n ≤ 6) (ha : ∀ t, t < m → a t < 6) (h99 : z 899 = nI n) (hA : A < 2 ^ n) : ∀ (d p : Nat) (f : Nat → Nat → Int32) (w : Nat → Nat) (fuel : Nat), p + d = n → d < fuel → (∀ q, q < n → f 29 q = nI (btb_ c a b q m)) → (∀ Y, Y < 64 → f 30 Y = nI (w Y)) → w A = wA → phi_ n N w (A + 1) = base + wA * sm_ (fun q => if (!(A.testBit q) && ok_ c a b A q m) = true then N (A ||| 2 ^ q) else 0) p → ∃ (f' : Nat → Nat → Int32) (w' : Nat → Nat), it_ (bX3_howMany_33 28 x (nI A)) fuel (nI p, HH z f) = some (HH z f') ∧ (∀ j, j ≠ 30 → f' j = f j) ∧ (∀ Y, Y < 64 → f' 30 Y = nI (w' Y)) ∧ phi_ n N w' (A + 1) = base + wA * sm_ (fun q => if (!(A.testBit q) && ok_ c a b A q m) = true then N (A ||| 2 ^ q) else 0) n := by
  have hA64 : A < 64 := Nat.lt_of_lt_of_le hA (pw6 hn)
  intro d
  induction d with
  | zero =>
    intro p f w fuel hp hf h29 h30 hw hphi
    obtain ⟨fuel, rfl⟩ : ∃ y, fuel = y + 1 := ⟨fuel - 1, by omega⟩
    have hpn : p = n := by omega
    subst hpn
    refine ⟨f, w, it_e ?_, fun j _ => rfl, h30, hphi⟩
    unfold bX3_howMany_33
    simp only [g_28_3, h99, Option.bind_some]
    rw [if_pos (nI_le (Nat.le_refl p) (by omega))]
  | succ d ih =>
    intro p f w fuel hp hf h29 h30 hw hphi
    obtain ⟨fuel, rfl⟩ : ∃ y, fuel = y + 1 := ⟨fuel - 1, by omega⟩
    have hmf := C_mf (z := z) (f := f) (b := b) (c := c) ha hA64 (show p < 6 by omega) (h29 p (by omega))
    have es : sm_ (fun q => if (!(A.testBit q) && ok_ c a b A q m) = true then N (A ||| 2 ^ q) else 0) (p + 1) = sm_ (fun q => if (!(A.testBit q) && ok_ c a b A q m) = true then N (A ||| 2 ^ q) else 0) p + (if (!(A.testBit p) && ok_ c a b A p m) = true then N (A ||| 2 ^ p) else 0) := rfl
    cases cm : mf_ c a b m A p
    · have hb : bX3_howMany_33 28 x (nI A) (nI p, HH z f) = some (.inl (nI (p + 1), HH z f)) := by
        unfold bX3_howMany_33 jX3_howMany_69_33
        simp only [g_28_3, h99, Option.bind_some]
        rw [if_neg (nI_ge (show p < n by omega) (by omega))]
        simp only [ob_28, hmf, cm, b_f, if_true, nI_1, Option.bind_some]
      unfold mf_ at cm
      rw [cm, if_neg Bool.false_ne_true, Nat.add_zero] at es
      rw [it_s hb]
      exact ih (p + 1) f w fuel (by omega) (by omega) h29 h30 hw (by rw [es]; exact hphi)
    · have cm2 := cm
      unfold mf_ at cm2
      rw [cm2, if_pos rfl] at es
      rw [Bool.and_eq_true] at cm2
      have hbp : A.testBit p = false := by simpa using cm2.1
      have hI := or_lt hA (show p < n by omega)
      have hI64 : A ||| 2 ^ p < 64 := Nat.lt_of_lt_of_le hI (pw6 hn)
      have hgt := or_gt A hA64 p (by omega) hbp
      have hb : bX3_howMany_33 28 x (nI A) (nI p, HH z f) = some (.inl (nI (p + 1), HH z (up2 f 30 (upd (f 30) (A ||| 2 ^ p) (nI (w (A ||| 2 ^ p) + w A)))))) := by
        unfold bX3_howMany_33 jX3_howMany_69_33
        simp only [g_28_3, h99, Option.bind_some]
        rw [if_neg (nI_ge (show p < n by omega) (by omega))]
        simp only [ob_28, hmf, cm, b_t, n10_, if_false, g_or A hA64 p (show p < 6 by omega), q_28_1, al30 hI64, al30 hA64, h30 _ hI64, h30 _ hA64, ax30 hI64, nI_add, nI_1, Option.bind_some]
      rw [it_s hb]
      obtain ⟨f2, w2, u1, u2, u3, u4⟩ := ih (p + 1) (up2 f 30 (upd (f 30) (A ||| 2 ^ p) (nI (w (A ||| 2 ^ p) + w A)))) (fun Y => if Y = A ||| 2 ^ p then w (A ||| 2 ^ p) + w A else w Y) fuel (by omega) (by omega) (fun q hq => by rw [up2_ne (by decide)]; exact h29 q hq) (fun Y hY => by
        rw [up2_eq]
        by_cases cy : Y = A ||| 2 ^ p
        · subst cy
          rw [upd_eq, if_pos rfl]
        · rw [upd_ne cy, if_neg cy]
          exact h30 Y hY) (by rw [if_neg (by omega)]; exact hw) (by
        have e9 : phi_ n N (fun Y => if Y = A ||| 2 ^ p then w (A ||| 2 ^ p) + w A else w Y) (A + 1) = phi_ n N w (A + 1) + w A * N (A ||| 2 ^ p) := by
          unfold phi_
          refine sm_up (I := A ||| 2 ^ p) ?_ (fun Y hY => ?_) _ hI
          · (try dsimp only)
            rw [if_pos (by omega), if_pos rfl, if_pos (by omega), Nat.add_mul]
          · (try dsimp only)
            rw [if_neg hY]
        rw [e9, hphi, es, hw, Nat.mul_add, Nat.add_assoc])
      exact ⟨f2, w2, u1, fun j hj => by rw [u2 j hj, up2_ne hj], u3, u4⟩
theorem C_ho {tot : Nat} (hn : n ≤ 6) (ha : ∀ t, t < m → a t < 6) (h99 : z 899 = nI n) : ∀ (d A : Nat) (f : Nat → Nat → Int32) (w : Nat → Nat) (fuel : Nat), A + d = 2 ^ n - 1 → d < fuel → (∀ q, q < n → f 29 q = nI (btb_ c a b q m)) → (∀ Y, Y < 64 → f 30 Y = nI (w Y)) → phi_ n (nU_ (fun U q => ok_ c a b U q m) n) w A = tot → ∃ (f' : Nat → Nat → Int32) (w' : Nat → Nat), it_ (bX3_howMany_26 28 (nI (2 ^ n - 1))) fuel (nI A, HH z f) = some (HH z f') ∧ (∀ j, j ≠ 30 → f' j = f j) ∧ (∀ Y, Y < 64 → f' 30 Y = nI (w' Y)) ∧ phi_ n (nU_ (fun U q => ok_ c a b U q m) n) w' (2 ^ n - 1) = tot := by
  have hpw := pw6 hn
  have h0 := Nat.two_pow_pos n
  intro d
  induction d with
  | zero =>
    intro A f w fuel hA hf h29 h30 hphi
    obtain ⟨fuel, rfl⟩ : ∃ y, fuel = y + 1 := ⟨fuel - 1, by omega⟩
    have hAe : A = 2 ^ n - 1 := by omega
    rw [hAe] at hphi
    refine ⟨f, w, it_e ?_, fun j _ => rfl, h30, hphi⟩
    unfold bX3_howMany_26
    rw [if_pos (nI_le (by omega) (by omega))]
  | succ d ih =>
    intro A f w fuel hA hf h29 h30 hphi
    obtain ⟨fuel, rfl⟩ : ∃ y, fuel = y + 1 := ⟨fuel - 1, by omega⟩
    have hA2 : A < 2 ^ n := by omega
    have hpc := pc_lt n (by omega) A (by omega) (by omega)
    obtain ⟨f1, w1, e1, e2, e3, e4⟩ := C_hi (x := nI (2 ^ n - 1)) (N := nU_ (fun U q => ok_ c a b U q m) n) (base := phi_ n (nU_ (fun U q => ok_ c a b U q m) n) w (A + 1)) (wA := w A) hn ha h99 hA2 n 0 f w fu_ (by omega) (fu_gt (by omega)) h29 h30 rfl (by
      show _ = _ + w A * 0
      simp)
    rw [nI_0] at e1
    have hb : bX3_howMany_26 28 (nI (2 ^ n - 1)) (nI A, HH z f) = some (.inl (nI (A + 1), HH z f1)) := by
      unfold bX3_howMany_26
      rw [if_neg (nI_ge (by omega) (by omega)), e1, Option.bind_some, Option.bind_some, nI_1]
    rw [it_s hb]
    have hrec := nU_rec (ok := fun U q => ok_ c a b U q m) hn hA2 hpc
    obtain ⟨f2, w2, u1, u2, u3, u4⟩ := ih (A + 1) f1 w1 fuel (by omega) (by omega) (fun q hq => by rw [e2 29 (by decide)]; exact h29 q hq) e3 (by
      rw [e4, ← hphi, phi_s hA2, hrec])
    exact ⟨f2, w2, u1, fun j hj => by rw [u2 j hj, e2 j hj], u3, u4⟩
theorem C_hm {f : Nat → Nat → Int32} (hn : n ≤ 6) (ha : ∀ t, t < m → a t < 6) (h99 : z 899 = nI n) (h29 : ∀ q, q < n → f 29 q = nI (btb_ c a b q m)) : ∃ f', fX3_howMany (HH z f) 28 = some (nI (nU_ (fun U q => ok_ c a b U q m) n 0), HH z f') ∧ ∀ j, j ≠ 30 → f' j = f j := by
  have hpw := pw6 hn
  have h0 := Nat.two_pow_pos n
  have hall : (1 : Int32) <<< (nI n &&& 31) - 1 = nI (2 ^ n - 1) := by
    rw [g_sh n (by omega), show nI (2 ^ n) - 1 = nI (2 ^ n - 1) from pk_sub (b := 1) (Nat.two_pow_pos n)]
  have hfl : fJ7_fill_53178 (HH z f) 30 0 = some (HH z (up2 f 30 (fun j => if j < 64 then 0 else f 30 j))) := fill_gen (n := 64) rfl (by decide)
  obtain ⟨f1, w1, e1, e2, e3, e4⟩ := C_ho (c := c) (a := a) (b := b) (m := m) (tot := nU_ (fun U q => ok_ c a b U q m) n 0) hn ha h99 (2 ^ n - 1) 0 (up2 f 30 (upd (fun j => if j < 64 then 0 else f 30 j) 0 1)) (fun Y => if Y = 0 then 1 else 0) fu_ (by omega) (fu_gt (by omega)) (fun q hq => by rw [up2_ne (by decide)]; exact h29 q hq) (fun Y hY => by
    rw [up2_eq]
    by_cases cy : Y = 0
    · subst cy
      rw [upd_eq, if_pos rfl]
      rfl
    · rw [upd_ne cy, if_neg cy, if_pos hY, nI_0]) (by
    have e9 : phi_ n (nU_ (fun U q => ok_ c a b U q m) n) (fun Y => if Y = 0 then 1 else 0) 0 = sm_ (fun _ => 0) (2 ^ n) + nU_ (fun U q => ok_ c a b U q m) n 0 := by
      unfold phi_
      refine sm_up (I := 0) ?_ (fun Y hY => ?_) _ h0
      · (try dsimp only)
        rw [if_pos (Nat.le_refl 0), if_pos rfl, Nat.one_mul, Nat.zero_add]
      · (try dsimp only)
        rw [if_pos (Nat.zero_le Y), if_neg hY, Nat.zero_mul]
    rw [e9, sm_0 _ (fun y _ => rfl), Nat.zero_add])
  rw [nI_0] at e1
  have hend : w1 (2 ^ n - 1) = nU_ (fun U q => ok_ c a b U q m) n 0 := by
    have e5 := phi_s (n := n) (A := 2 ^ n - 1) (N := nU_ (fun U q => ok_ c a b U q m) n) (w := w1) (by omega)
    rw [e4, nU_full (pc_ini n (by omega)), Nat.mul_one] at e5
    have e6 : phi_ n (nU_ (fun U q => ok_ c a b U q m) n) w1 (2 ^ n - 1 + 1) = 0 := by
      unfold phi_
      refine sm_0 _ (fun y hy => ?_)
      (try dsimp only)
      rw [if_neg (by omega)]
    rw [e6, Nat.zero_add] at e5
    exact e5.symm
  refine ⟨f1, ?_, fun j hj => by rw [e2 j hj, up2_ne hj]⟩
  have hax := ax30 (z := z) (f := up2 f 30 (fun j => if j < 64 then 0 else f 30 j)) (p := 0) (by decide) 1
  rw [nI_0, up2_eq, up2_up2] at hax
  unfold fX3_howMany
  simp only [g_28_3, h99, hall, q_28_1, hfl, hax, e1, al30 (show 2 ^ n - 1 < 64 by omega), e3 (2 ^ n - 1) (by omega), hend, Option.bind_some]
end CHM
