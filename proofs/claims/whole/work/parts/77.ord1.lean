/-! orders by number -/
def fc_ : Nat → Nat
  | 0 => 1
  | k + 1 => (k + 1) * fc_ k
theorem fc_pos : ∀ k, 0 < fc_ k
  | 0 => Nat.one_pos
  | k + 1 => Nat.mul_pos (Nat.succ_pos k) (fc_pos k)
theorem fc_le : ∀ k, k < 7 → fc_ k ≤ 720 := by decide +kernel
def ntx_ (U : Nat) : Nat → Nat → Nat → Nat
  | 0, _, q => q
  | d + 1, s, q => if (U.testBit q || decide (0 < s)) = true then ntx_ U d (s - (if U.testBit q then 0 else 1)) (q + 1) else q
def stp_ (U : Nat) : Nat → Nat → Nat → Bool
  | 0, s, q => !(U.testBit q) && decide (s = 0)
  | d + 1, s, q => if (U.testBit q || decide (0 < s)) = true then stp_ U d (s - (if U.testBit q then 0 else 1)) (q + 1) else true
def nt_ (U s : Nat) : Nat := ntx_ U 6 s 0
def ntc_ (n U s : Nat) : Bool := !(decide (s + pcN_ 6 U < n)) || (stp_ U 6 s 0 && decide (nt_ U s < n) && !(U.testBit (nt_ U s)))
set_option maxRecDepth 100000 in
theorem nt_pb : ∀ n, n < 7 → ∀ U, U < 64 → U < 2 ^ n → ∀ s, s < 7 → ntc_ n U s = true := by decide +kernel
theorem nt_p (n : Nat) (hn : n < 7) (U : Nat) (h64 : U < 64) (hU : U < 2 ^ n) (s : Nat) (hs : s < 7) (hp : s + pcN_ 6 U < n) : stp_ U 6 s 0 = true ∧ nt_ U s < n ∧ U.testBit (nt_ U s) = false := by
  have h := nt_pb n hn U h64 hU s hs
  unfold ntc_ at h
  rw [decide_eq_true hp, Bool.not_true, Bool.false_or, Bool.and_eq_true, Bool.and_eq_true, decide_eq_true_eq, Bool.not_eq_true'] at h
  exact ⟨h.1.1, h.1.2, h.2⟩
set_option maxRecDepth 100000 in
theorem nt_list : ∀ n, n < 7 → ∀ U, U < 64 → U < 2 ^ n → (List.range (n - pcN_ 6 U)).map (nt_ U) = (List.range n).filter (fun q => !(U.testBit q)) := by decide +kernel
def ntr_ (n U q : Nat) : Bool := U.testBit q || (decide (hr_ U q + pcN_ 6 U < n) && decide (nt_ U (hr_ U q) = q) && (List.range (hr_ U q)).all (fun s => decide (nt_ U s < q)))
set_option maxRecDepth 100000 in
theorem nt_rb : ∀ n, n < 7 → ∀ U, U < 64 → U < 2 ^ n → ∀ q, q < n → ntr_ n U q = true := by decide +kernel
theorem nt_rank (n : Nat) (hn : n < 7) (U : Nat) (h64 : U < 64) (hU : U < 2 ^ n) (q : Nat) (hq : q < n) (hb : U.testBit q = false) : hr_ U q + pcN_ 6 U < n ∧ nt_ U (hr_ U q) = q ∧ ∀ s, s < hr_ U q → nt_ U s < q := by
  have h := nt_rb n hn U h64 hU q hq
  unfold ntr_ at h
  rw [hb, Bool.false_or, Bool.and_eq_true, Bool.and_eq_true, decide_eq_true_eq, decide_eq_true_eq, List.all_eq_true] at h
  exact ⟨h.1.1, h.1.2, fun s hs => of_decide_eq_true (h.2 s (List.mem_range.mpr hs))⟩
def vd_ (ok : Nat → Nat → Bool) : Nat → Nat → Nat → Bool
  | 0, _, _ => true
  | d + 1, U, x => ok U (nt_ U (x / fc_ d)) && vd_ ok d (U ||| 2 ^ nt_ U (x / fc_ d)) (x % fc_ d)
def ro_ : Nat → Nat → Nat → List Nat
  | 0, _, _ => []
  | d + 1, U, x => nt_ U (x / fc_ d) :: ro_ d (U ||| 2 ^ nt_ U (x / fc_ d)) (x % fc_ d)
theorem dv_lt {d x : Nat} (h : x < fc_ (d + 1)) : x / fc_ d < d + 1 := by
  rw [Nat.div_lt_iff_lt_mul (fc_pos d)]
  exact h
/-- what is next -/
theorem nt_q {n d U x : Nat} (hn : n ≤ 6) (hU : U < 2 ^ n) (hp : pcN_ 6 U + (d + 1) = n) (hx : x < fc_ (d + 1)) : stp_ U 6 (x / fc_ d) 0 = true ∧ nt_ U (x / fc_ d) < n ∧ U.testBit (nt_ U (x / fc_ d)) = false ∧ U ||| 2 ^ nt_ U (x / fc_ d) < 2 ^ n ∧ pcN_ 6 (U ||| 2 ^ nt_ U (x / fc_ d)) + d = n ∧ x % fc_ d < fc_ d := by
  have h64 : U < 64 := Nat.lt_of_lt_of_le hU (pw6 hn)
  have h1 := dv_lt hx
  obtain ⟨a1, a2, a3⟩ := nt_p n (by omega) U h64 hU (x / fc_ d) (by omega) (by omega)
  refine ⟨a1, a2, a3, or_lt hU a2, ?_, Nat.mod_lt _ (fc_pos d)⟩
  rw [pc_or U h64 _ (by omega) a3]
  omega
theorem ro_sur {n : Nat} (hn : n ≤ 6) : ∀ (d U x : Nat), U < 2 ^ n → pcN_ 6 U + d = n → x < fc_ d → ∀ p, p < n → U.testBit p = false → ∃ j, j < d ∧ gd_ (ro_ d U x) j = p := by
  intro d
  induction d with
  | zero =>
    intro U x hU hp _ p hpn hb
    have h1 := pc_all n (by omega) U (Nat.lt_of_lt_of_le hU (pw6 hn)) hU (by omega) p hpn
    rw [hb] at h1
    cases h1
  | succ d ih =>
    intro U x hU hp hx p hpn hb
    obtain ⟨_, q1, q2, q3, q4, q5⟩ := nt_q hn hU hp hx
    by_cases c : nt_ U (x / fc_ d) = p
    · exact ⟨0, by omega, c⟩
    · obtain ⟨j, j1, j2⟩ := ih _ _ q3 q4 q5 p hpn (by rw [or_bit, hb, decide_eq_false c]; rfl)
      exact ⟨j + 1, by omega, j2⟩
theorem ro_lt {n : Nat} (hn : n ≤ 6) : ∀ (d U x : Nat), U < 2 ^ n → pcN_ 6 U + d = n → x < fc_ d → ∀ j, j < d → gd_ (ro_ d U x) j < n ∧ U.testBit (gd_ (ro_ d U x) j) = false := by
  intro d
  induction d with
  | zero => intro U x _ _ _ j hj; omega
  | succ d ih =>
    intro U x hU hp hx j hj
    obtain ⟨_, q1, q2, q3, q4, q5⟩ := nt_q hn hU hp hx
    cases j with
    | zero => exact ⟨q1, q2⟩
    | succ j =>
      obtain ⟨i1, i2⟩ := ih _ _ q3 q4 q5 j (by omega)
      have i3 : (U ||| 2 ^ nt_ U (x / fc_ d)).testBit (gd_ (ro_ (d + 1) U x) (j + 1)) = false := i2
      rw [or_bit, Bool.or_eq_false_iff] at i3
      exact ⟨i1, i3.1⟩
section ORD
variable {n m : Nat} {c : Nat → Bool} {a b : Nat → Nat}
theorem vd_aa (hn : n ≤ 6) (hc : ∀ t, c t = true) (ha : ∀ t, t < m → a t < n) (hab : ∀ t, t < m → a t ≠ b t) (P : Nat → Nat) : ∀ (d U x : Nat), U < 2 ^ n → pcN_ 6 U + d = n → x < fc_ d → (∀ j, j < d → P (gd_ (ro_ d U x) j) = n - d + j) → (∀ p, p < n → U.testBit p = true → P p < n - d) → (∀ t, t < m → b t < n) → (vd_ (fun U q => ok_ c a b U q m) d U x = true ↔ ∀ t, t < m → U.testBit (b t) = false → P (a t) ≤ P (b t)) := by
  intro d
  induction d with
  | zero =>
    intro U x hU hp _ _ _ hb
    refine ⟨fun _ t ht hbt => ?_, fun _ => rfl⟩
    have h1 := pc_all n (by omega) U (Nat.lt_of_lt_of_le hU (pw6 hn)) hU (by omega) (b t) (hb t ht)
    rw [hbt] at h1
    cases h1
  | succ d ih =>
    intro U x hU hp hx hP1 hP2 hb
    obtain ⟨_, q1, q2, q3, q4, q5⟩ := nt_q hn hU hp hx
    have e : vd_ (fun U q => ok_ c a b U q m) (d + 1) U x = (ok_ c a b U (nt_ U (x / fc_ d)) m && vd_ (fun U q => ok_ c a b U q m) d (U ||| 2 ^ nt_ U (x / fc_ d)) (x % fc_ d)) := rfl
    have hq : P (nt_ U (x / fc_ d)) = n - (d + 1) := hP1 0 (by omega)
    have hl : ∀ j, j < d → P (gd_ (ro_ d (U ||| 2 ^ nt_ U (x / fc_ d)) (x % fc_ d)) j) = n - d + j := fun j hj => by
      have h9 : P (gd_ (ro_ d (U ||| 2 ^ nt_ U (x / fc_ d)) (x % fc_ d)) j) = n - (d + 1) + (j + 1) := hP1 (j + 1) (by omega)
      omega
    have hsur := ro_sur hn d _ _ q3 q4 q5
    have hIH := ih _ _ q3 q4 q5 hl (fun p hpn hbit => by
      rw [or_bit, Bool.or_eq_true, decide_eq_true_eq] at hbit
      rcases hbit with h9 | h9
      · have := hP2 p hpn h9
        omega
      · rw [← h9]
        omega) hb
    rw [e, Bool.and_eq_true, hIH, ok_iff]
    generalize nt_ U (x / fc_ d) = q at *
    constructor
    · rintro ⟨h1, h2⟩ t ht hbt
      by_cases cq : b t = q
      · have h3 := h1 t ht (hc t) cq
        have h4 := hP2 (a t) (ha t ht) h3
        rw [cq]
        omega
      · exact h2 t ht (by rw [or_bit, hbt, decide_eq_false (fun w => cq w.symm)]; rfl)
    · intro h
      refine ⟨fun t ht _ hbt => ?_, fun t ht hbt => h t ht ?_⟩
      · cases hA : U.testBit (a t)
        · exfalso
          have hne : a t ≠ q := fun w => hab t ht (by rw [w, hbt])
          obtain ⟨j, hj, ej⟩ := hsur (a t) (ha t ht) (by rw [or_bit, hA, decide_eq_false (fun w => hne w.symm)]; rfl)
          have h5 := hl j hj
          rw [ej] at h5
          have h6 := h t ht (by rw [hbt]; exact q2)
          rw [hbt] at h6
          omega
        · rfl
      · rw [or_bit, Bool.or_eq_false_iff] at hbt
        exact hbt.1
theorem vd_stk (hn : n ≤ 6) (X : Nat → Prop) (hX : stk_ n m c a b X) : ∀ (d U x : Nat), U < 2 ^ n → pcN_ 6 U + d = n → x < fc_ d → vd_ (fun U q => ok_ c a b U q m) d U x = true → (∀ p, X p → U.testBit p = false) → False := by
  intro d
  induction d with
  | zero =>
    intro U x hU hp _ _ hXU
    obtain ⟨y, hy, hyX⟩ := hX.1
    have h1 := pc_all n (by omega) U (Nat.lt_of_lt_of_le hU (pw6 hn)) hU (by omega) y hy
    rw [hXU y hyX] at h1
    cases h1
  | succ d ih =>
    intro U x hU hp hx hv hXU
    obtain ⟨_, q1, q2, q3, q4, q5⟩ := nt_q hn hU hp hx
    have e : vd_ (fun U q => ok_ c a b U q m) (d + 1) U x = (ok_ c a b U (nt_ U (x / fc_ d)) m && vd_ (fun U q => ok_ c a b U q m) d (U ||| 2 ^ nt_ U (x / fc_ d)) (x % fc_ d)) := rfl
    rw [e, Bool.and_eq_true] at hv
    refine ih _ _ q3 q4 q5 hv.2 (fun p hp => ?_)
    rw [or_bit, hXU p hp, Bool.false_or, decide_eq_false_iff_not]
    intro w
    rw [← w] at hp
    obtain ⟨t, ht, hct, hbt, hXa⟩ := hX.2 _ q1 hp
    have h9 := (ok_iff m).mp hv.1 t ht hct hbt
    rw [hXU _ hXa] at h9
    cases h9
theorem ls_first (hn : n ≤ 6) : ∀ (d U : Nat) (l : List Nat), U < 2 ^ n → pcN_ 6 U + d = n → ls_ n (mf_ c a b m) d U = some l → ∃ g, g < fc_ d ∧ vd_ (fun U q => ok_ c a b U q m) d U g = true ∧ ro_ d U g = l ∧ ∀ x, x < g → vd_ (fun U q => ok_ c a b U q m) d U x = false := by
  intro d
  induction d with
  | zero =>
    intro U l hU hp h
    refine ⟨0, Nat.one_pos, rfl, Option.some.inj h, fun x hx => by omega⟩
  | succ d ih =>
    intro U l hU hp h
    have h64 : U < 64 := Nat.lt_of_lt_of_le hU (pw6 hn)
    obtain ⟨_, n2, n3, n4⟩ := nx_p (M := mf_ c a b m U) n 0
    have hls : ls_ n (mf_ c a b m) (d + 1) U = if nx_ (mf_ c a b m U) n 0 = n then none else (ls_ n (mf_ c a b m) d (U ||| 2 ^ nx_ (mf_ c a b m U) n 0)).map (fun l => nx_ (mf_ c a b m U) n 0 :: l) := rfl
    rw [hls] at h
    generalize hq : nx_ (mf_ c a b m U) n 0 = q at h n2 n3 n4
    by_cases cq : q = n
    · rw [if_pos cq] at h
      cases h
    · rw [if_neg cq, Option.map_eq_some_iff] at h
      obtain ⟨l2, h1, rfl⟩ := h
      have hqn : q < n := by omega
      have hM := n4 (by omega)
      unfold mf_ at hM
      rw [Bool.and_eq_true] at hM
      have hbq : U.testBit q = false := by simpa using hM.1
      have hU2 := or_lt hU hqn
      have hp2 : pcN_ 6 (U ||| 2 ^ q) + d = n := by rw [pc_or U h64 q (by omega) hbq]; omega
      obtain ⟨g, g1, g2, g3, g4⟩ := ih (U ||| 2 ^ q) l2 hU2 hp2 h1
      obtain ⟨r1, r2, r3⟩ := nt_rank n (by omega) U h64 hU q hqn hbq
      have hdiv : (hr_ U q * fc_ d + g) / fc_ d = hr_ U q := by
        rw [Nat.mul_comm, Nat.mul_add_div (fc_pos d), Nat.div_eq_of_lt g1, Nat.add_zero]
      have hmod : (hr_ U q * fc_ d + g) % fc_ d = g := by
        rw [Nat.mul_comm, Nat.mul_add_mod, Nat.mod_eq_of_lt g1]
      have e : ∀ x, vd_ (fun U q => ok_ c a b U q m) (d + 1) U x = (ok_ c a b U (nt_ U (x / fc_ d)) m && vd_ (fun U q => ok_ c a b U q m) d (U ||| 2 ^ nt_ U (x / fc_ d)) (x % fc_ d)) := fun x => rfl
      have e2 : ro_ (d + 1) U (hr_ U q * fc_ d + g) = nt_ U ((hr_ U q * fc_ d + g) / fc_ d) :: ro_ d (U ||| 2 ^ nt_ U ((hr_ U q * fc_ d + g) / fc_ d)) ((hr_ U q * fc_ d + g) % fc_ d) := rfl
      have hlt : hr_ U q * fc_ d + g < fc_ (d + 1) := by
        have h9 : (hr_ U q + 1) * fc_ d ≤ (d + 1) * fc_ d := Nat.mul_le_mul_right _ (by omega)
        rw [Nat.add_mul, Nat.one_mul] at h9
        show _ < (d + 1) * fc_ d
        omega
      refine ⟨hr_ U q * fc_ d + g, hlt, ?_, ?_, fun x hx => ?_⟩
      · rw [e, hdiv, hmod, r2, hM.2, g2]
        rfl
      · rw [e2, hdiv, hmod, r2, g3]
      · rw [e]
        have hx2 : x < fc_ (d + 1) := by omega
        obtain ⟨_, q1, q2, q3, q4, q5⟩ := nt_q hn hU hp hx2
        have hdm := Nat.div_add_mod x (fc_ d)
        by_cases c1 : x / fc_ d < hr_ U q
        · have h5 := r3 _ c1
          have h6 := n3 (nt_ U (x / fc_ d)) (by omega) h5
          unfold mf_ at h6
          rw [q2, Bool.not_false, Bool.true_and] at h6
          rw [h6, Bool.false_and]
        · have c2 : x / fc_ d = hr_ U q := by
            refine Classical.byContradiction fun w => ?_
            have h9 : (hr_ U q + 1) * fc_ d ≤ x / fc_ d * fc_ d := Nat.mul_le_mul_right _ (by omega)
            rw [Nat.add_mul, Nat.one_mul] at h9
            rw [Nat.mul_comm] at hdm
            omega
          rw [c2, r2]
          rw [c2, Nat.mul_comm] at hdm
          rw [g4 (x % fc_ d) (by omega), Bool.and_false]
end ORD
/-! counting -/
def cn_ (g : Nat → Bool) : Nat → Nat
  | 0 => 0
  | k + 1 => cn_ g k + (if g k then 1 else 0)
def sm_ (h : Nat → Nat) : Nat → Nat
  | 0 => 0
  | k + 1 => sm_ h k + h k
theorem cn_le {g : Nat → Bool} : ∀ k, cn_ g k ≤ k
  | 0 => Nat.le_refl 0
  | k + 1 => by
    have := cn_le (g := g) k
    unfold cn_
    split <;> omega
theorem cn_cg {g g' : Nat → Bool} : ∀ k, (∀ x, x < k → g x = g' x) → cn_ g k = cn_ g' k
  | 0, _ => rfl
  | k + 1, h => by
    unfold cn_
    rw [cn_cg k (fun x hx => h x (by omega)), h k (by omega)]
theorem sm_cg {g g' : Nat → Nat} : ∀ k, (∀ x, x < k → g x = g' x) → sm_ g k = sm_ g' k
  | 0, _ => rfl
  | k + 1, h => by
    unfold sm_
    rw [sm_cg k (fun x hx => h x (by omega)), h k (by omega)]
theorem cn_add {g : Nat → Bool} (A : Nat) : ∀ B, cn_ g (A + B) = cn_ g A + cn_ (fun x => g (A + x)) B
  | 0 => rfl
  | B + 1 => by
    have e : cn_ g (A + (B + 1)) = cn_ g (A + B) + (if g (A + B) then 1 else 0) := rfl
    have e2 : cn_ (fun x => g (A + x)) (B + 1) = cn_ (fun x => g (A + x)) B + (if g (A + B) then 1 else 0) := rfl
    rw [e, e2, cn_add A B, Nat.add_assoc]
theorem cn_mul {g : Nat → Bool} (B : Nat) : ∀ k, cn_ g (k * B) = sm_ (fun s => cn_ (fun x => g (s * B + x)) B) k
  | 0 => by rw [Nat.zero_mul]; rfl
  | k + 1 => by
    rw [Nat.add_mul, Nat.one_mul, cn_add, cn_mul B k]
    rfl
theorem cn_and {g : Nat → Bool} (v : Bool) (k : Nat) : cn_ (fun x => v && g x) k = if v then cn_ g k else 0 := by
  cases v
  · simp only [Bool.false_and, Bool.false_eq_true, if_false]
    induction k with
    | zero => rfl
    | succ k ih =>
      unfold cn_
      rw [ih]
      rfl
  · simp only [Bool.true_and, if_true]
theorem sm_map {h : Nat → Nat} : ∀ k, sm_ h k = ((List.range k).map h).sum
  | 0 => rfl
  | k + 1 => by
    rw [List.range_succ, List.map_append, List.sum_append, ← sm_map k]
    simp [sm_]
theorem sum_filter {p : Nat → Bool} {h : Nat → Nat} : ∀ l : List Nat, ((l.filter p).map h).sum = (l.map (fun q => if p q then h q else 0)).sum
  | [] => rfl
  | x :: l => by
    have ih := sum_filter (p := p) (h := h) l
    cases e : p x
    · rw [List.filter_cons_of_neg (by rw [e]; decide), ih, List.map_cons, List.sum_cons, e]
      simp
    · rw [List.filter_cons_of_pos e, List.map_cons, List.sum_cons, ih, List.map_cons, List.sum_cons, e]
      simp
/-- how many orders go on from U -/
def nU_ (ok : Nat → Nat → Bool) (n U : Nat) : Nat := cn_ (vd_ ok (n - pcN_ 6 U) U) (fc_ (n - pcN_ 6 U))
theorem nU_full {ok : Nat → Nat → Bool} {n U : Nat} (h : pcN_ 6 U = n) : nU_ ok n U = 1 := by
  unfold nU_
  rw [h, Nat.sub_self]
  rfl
theorem nU_rec {ok : Nat → Nat → Bool} {n U : Nat} (hn : n ≤ 6) (hU : U < 2 ^ n) (hp : pcN_ 6 U < n) : nU_ ok n U = sm_ (fun q => if (!(U.testBit q) && ok U q) = true then nU_ ok n (U ||| 2 ^ q) else 0) n := by
  have h64 : U < 64 := Nat.lt_of_lt_of_le hU (pw6 hn)
  obtain ⟨d, hd⟩ : ∃ d, pcN_ 6 U + (d + 1) = n := ⟨n - pcN_ 6 U - 1, by omega⟩
  have e1 : n - pcN_ 6 U = d + 1 := by omega
  have e2 : nU_ ok n U = sm_ (fun s => if ok U (nt_ U s) = true then cn_ (vd_ ok d (U ||| 2 ^ nt_ U s)) (fc_ d) else 0) (d + 1) := by
    unfold nU_
    rw [e1, show fc_ (d + 1) = (d + 1) * fc_ d from rfl, cn_mul]
    refine sm_cg _ (fun s hs => ?_)
    rw [← cn_and (g := vd_ ok d (U ||| 2 ^ nt_ U s))]
    refine cn_cg _ (fun x hx => ?_)
    have hdiv : (s * fc_ d + x) / fc_ d = s := by
      rw [Nat.mul_comm, Nat.mul_add_div (fc_pos d), Nat.div_eq_of_lt hx, Nat.add_zero]
    have hmod : (s * fc_ d + x) % fc_ d = x := by
      rw [Nat.mul_comm, Nat.mul_add_mod, Nat.mod_eq_of_lt hx]
    have e : vd_ ok (d + 1) U (s * fc_ d + x) = (ok U (nt_ U ((s * fc_ d + x) / fc_ d)) && vd_ ok d (U ||| 2 ^ nt_ U ((s * fc_ d + x) / fc_ d)) ((s * fc_ d + x) % fc_ d)) := rfl
    rw [e, hdiv, hmod]
  rw [e2, sm_map, sm_map]
  have e3 : (List.range (d + 1)).map (fun s => if ok U (nt_ U s) = true then cn_ (vd_ ok d (U ||| 2 ^ nt_ U s)) (fc_ d) else 0) = ((List.range (n - pcN_ 6 U)).map (nt_ U)).map (fun q => if ok U q = true then cn_ (vd_ ok d (U ||| 2 ^ q)) (fc_ d) else 0) := by
    rw [List.map_map, e1]
    rfl
  rw [e3, nt_list n (by omega) U h64 hU, sum_filter, ← sm_map, ← sm_map]
  refine sm_cg _ (fun q hq => ?_)
  cases c1 : U.testBit q
  · simp only [Bool.not_false, if_true, Bool.true_and]
    have h9 := pc_or U h64 q (by omega) c1
    unfold nU_
    rw [h9, show n - (pcN_ 6 U + 1) = d by omega]
  · simp only [Bool.not_true, Bool.false_eq_true, if_false, Bool.false_and]
