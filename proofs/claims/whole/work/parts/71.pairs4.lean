/-! the reference puts twos -/
theorem put_y {n G x : Nat} {T T2 : List Nat} (h : put_ n G T x = some T2) : x / 6 < x % 6 ∧ x % 6 < n ∧ G.testBit (x / 6) = false ∧ G.testBit (x % 6) = false ∧ gd_ T (x / 6) = 9 ∧ gd_ T (x % 6) = 9 ∧ T2 = (T.set (x / 6) (x % 6)).set (x % 6) (x / 6) := by
  unfold put_ at h
  split at h
  · rename_i c
    exact ⟨c.1, c.2.1, c.2.2.1, c.2.2.2.1, c.2.2.2.2.1, c.2.2.2.2.2, (Option.some.inj h).symm⟩
  · cases h
theorem put_n {n G x : Nat} {T : List Nat} (h : put_ n G T x = none) : ¬ (x / 6 < x % 6 ∧ x % 6 < n ∧ G.testBit (x / 6) = false ∧ G.testBit (x % 6) = false ∧ gd_ T (x / 6) = 9 ∧ gd_ T (x % 6) = 9) := by
  unfold put_ at h
  split at h
  · cases h
  · assumption
section PUTS
variable {z : Nat → Int32} {f : Nat → Nat → Int32} {n G x : Nat} {T T2 : List Nat}
def gp50_ (f : Nat → Nat → Int32) (x : Nat) : Nat → Int32 := upd (upd (f 50) (x / 6) (nI (x % 6))) (x % 6) (nI (x / 6))
theorem M_put1 (hn : n ≤ 6) (h85 : z 1285 = nI n) (h86 : z 1286 = nI G) (h64 : G < 64) (hx : x < 36) (h50 : ∀ j, j < 6 → f 50 j = nI (gd_ T j)) (h : put_ n G T x = some T2) : fX9_isPut (HH z f) 40 (nI x) = some (1, HH z (up2 f 50 (gp50_ f x))) := by
  obtain ⟨c1, c2, c3, c4, c5, c6, _⟩ := put_y h
  have a6 : x / 6 < 6 := by omega
  have b6 : x % 6 < 6 := by omega
  have n9 : nI 9 = 9 := by decide
  unfold fX9_isPut gp50_
  simp only [dv6 hx, rm6 hx, Option.bind_some]
  rw [if_neg (nI_ge c1 (by omega)), g_40_5, Option.bind_some, h85, if_neg (nI_ge c2 (by omega))]
  simp only [ob_40, M_away h86 h64 a6 b6, c3, c4, Bool.or_false, b_f, if_true, q_40_18, al50 a6, al50 b6, h50 _ a6, h50 _ b6, c5, c6, n9, ax50 a6, ax50 b6, up2_eq, up2_up2, Option.bind_some]
theorem M_put0 (hn : n ≤ 6) (h85 : z 1285 = nI n) (h86 : z 1286 = nI G) (h64 : G < 64) (hx : x < 36) (hT : ∀ j, gd_ T j < 16) (h50 : ∀ j, j < 6 → f 50 j = nI (gd_ T j)) (h : put_ n G T x = none) : fX9_isPut (HH z f) 40 (nI x) = some (0, HH z f) := by
  have hc := put_n h
  have a6 : x / 6 < 6 := by omega
  have b6 : x % 6 < 6 := by omega
  have n9 : nI 9 = 9 := by decide
  have t9 : ∀ j, nI (gd_ T j) = 9 → gd_ T j = 9 := fun j e => (nI_eq (by have := hT j; omega) (by decide)).mp (e.trans n9.symm)
  unfold fX9_isPut
  simp only [dv6 hx, rm6 hx, Option.bind_some]
  by_cases c1 : x / 6 < x % 6
  · rw [if_neg (nI_ge c1 (by omega)), g_40_5, Option.bind_some, h85]
    by_cases c2 : x % 6 < n
    · rw [if_neg (nI_ge c2 (by omega))]
      simp only [ob_40, M_away h86 h64 a6 b6, q_40_18, al50 a6, al50 b6, h50 _ a6, h50 _ b6, Option.bind_some]
      cases c3 : G.testBit (x / 6)
      · cases c4 : G.testBit (x % 6)
        · simp only [Bool.or_false, b_f, if_true]
          by_cases c5 : gd_ T (x / 6) = 9
          · by_cases c6 : gd_ T (x % 6) = 9
            · exact absurd ⟨c1, c2, c3, c4, c5, c6⟩ hc
            · rw [if_pos (by rw [c5, n9]), if_neg (fun e => c6 (t9 _ e))]
          · rw [if_neg (fun e => c5 (t9 _ e))]
        · simp only [Bool.or_true, b_t, n10_, if_false]
      · simp only [Bool.true_or, b_t, n10_, if_false]
    · rw [if_pos (nI_le (by omega) (by omega))]
  · rw [if_pos (nI_le (by omega) (by omega))]
theorem M_lv {K S Tt : Nat → Nat} (hP : IvP z f n K S Tt) (hx : x < 36) (ha : x / 6 < n) (hb : x % 6 < n) : fX9_leaves (HH z f) 40 (nI x) = some (nI (ne_ (wP_ K S Tt) x)) := by
  unfold fX9_leaves ne_
  simp only [dv6 hx, rm6 hx, ob_40, mw_of hP ha, mw_of hP hb, Option.bind_some]
  by_cases c : wP_ K S Tt (x / 6) = wP_ K S Tt (x % 6)
  · rw [if_pos (by rw [c]), if_pos c, nI_0]
  · rw [if_neg (fun e => c ((nI_eq (wP_lt hP ha) (wP_lt hP hb)).mp e)), if_neg c]
    rfl
theorem M_take (hx : x < 36) : fX9_take (HH z f) 40 (nI x) = some (HH z (up2 f 50 (upd (upd (f 50) (x / 6) 9) (x % 6) 9))) := by
  have a6 : x / 6 < 6 := by omega
  have b6 : x % 6 < 6 := by omega
  unfold fX9_take
  simp only [q_40_18, dv6 hx, rm6 hx, ax50 a6, ax50 b6, up2_eq, up2_up2, Option.bind_some]
theorem gd_put (hlen : T.length = 6) (h : put_ n G T x = some T2) (hx : x < 36) : T2.length = 6 ∧ ∀ j, gd_ T2 j = if x % 6 = j then x / 6 else if x / 6 = j then x % 6 else gd_ T j := by
  obtain ⟨c1, c2, c3, c4, c5, c6, rfl⟩ := put_y h
  refine ⟨by rw [List.length_set, List.length_set]; exact hlen, fun j => ?_⟩
  rw [gd_set (by rw [List.length_set]; omega), gd_set (by omega)]
theorem M_step {w : Nat → Nat} {s : el_T} {ps : List Nat} (hn : n ≤ 6) (h85 : z 1285 = nI n) (hlen : T.length = 6) (hT : ∀ j, gd_ T j < 16) (h50 : ∀ j, j < 6 → f 50 j = nI (gd_ T j)) (hx : x < 36) (h : put_ n G T x = some T2) (hl : ps.length ≤ 3) (hs : MR_ z f n w s) : (∀ j, gd_ T2 j < 16) ∧ ∃ z' f', fX9_tryPartners (HH z (up2 f 50 (gp50_ f x))) 40 (nI ps.length) (nI (cst_ w ps)) = some (HH z' f') ∧ FN_ z f z' f' ∧ (∀ j, j < 6 → f' 50 j = nI (gd_ T2 j)) ∧ MR_ z' f' n w (bM_ n w s (T2, ps)) := by
  obtain ⟨l2, hg⟩ := gd_put hlen h hx
  have hT2 : ∀ j, gd_ T2 j < 16 := fun j => by
    rw [hg]
    have := hT j
    split
    · omega
    · split <;> omega
  have h50' : ∀ j, j < 6 → (up2 f 50 (gp50_ f x)) 50 j = nI (gd_ T2 j) := fun j hj => by
    rw [up2_eq, hg]
    unfold gp50_
    by_cases e1 : x % 6 = j
    · subst e1
      rw [upd_eq, if_pos rfl]
    · rw [upd_ne (fun w => e1 w.symm), if_neg e1]
      by_cases e2 : x / 6 = j
      · subst e2
        rw [upd_eq, if_pos rfl]
      · rw [upd_ne (fun w => e2 w.symm), if_neg e2]
        exact h50 j hj
  obtain ⟨z1, f1, e1, e2, e3, e4⟩ := M_try (T := T2) (ps := ps) hn h85 hT2 h50' hl (s := s) (w := w) ⟨hs.1, hs.2.1, hs.2.2.1, hs.2.2.2.1, fun p hp => by rw [up2_ne (by decide)]; exact hs.2.2.2.2 p hp⟩
  exact ⟨hT2, z1, f1, e1, FN_t (FN_f (by decide) FN_r) e2, fun j hj => by rw [e3]; exact h50' j hj, e4⟩
theorem M_unt {w : Nat → Nat} {s : el_T} (hlen : T.length = 6) (h50 : ∀ j, j < 6 → f 50 j = nI (gd_ T2 j)) (hx : x < 36) (h : put_ n G T x = some T2) (hs : MR_ z f n w s) : ∃ f', fX9_take (HH z f) 40 (nI x) = some (HH z f') ∧ FN_ z f z f' ∧ (∀ j, j < 6 → f' 50 j = nI (gd_ T j)) ∧ MR_ z f' n w s := by
  obtain ⟨l2, hg⟩ := gd_put hlen h hx
  obtain ⟨c1, c2, c3, c4, c5, c6, _⟩ := put_y h
  refine ⟨_, M_take hx, FN_f (by decide) FN_r, fun j hj => ?_, hs.1, hs.2.1, hs.2.2.1, hs.2.2.2.1, fun p hp => by rw [up2_ne (by decide)]; exact hs.2.2.2.2 p hp⟩
  rw [up2_eq]
  by_cases e1 : j = x % 6
  · subst e1
    rw [upd_eq, c6]
    rfl
  · rw [upd_ne e1]
    by_cases e2 : j = x / 6
    · subst e2
      rw [upd_eq, c5]
      rfl
    · rw [upd_ne e2, h50 j hj, hg, if_neg (fun w => e1 w.symm), if_neg (fun w => e2 w.symm)]
end PUTS
def okx_ (n x : Nat) : Prop := x < 36 ∧ x / 6 < n ∧ x % 6 < n
theorem M_l3 {n G x y : Nat} {K S Tt : Nat → Nat} {T : List Nat} (hlen : T.length = 6) (hT : ∀ j, gd_ T j < 16) (hx : okx_ n x) (hy : okx_ n y) : ∀ (d q : Nat) (z : Nat → Int32) (f : Nat → Nat → Int32) (s : el_T) (fuel : Nat), q + d = 36 → d < fuel → IvP z f n K S Tt → IvG z n G → (∀ j, j < 6 → f 50 j = nI (gd_ T j)) → MR_ z f n (wP_ K S Tt) s → ∃ z' f', it_ (bX9_findSecond_38 40 (nI x) (nI y)) fuel (nI q, HH z f) = some (HH z' f') ∧ FN_ z f z' f' ∧ (∀ j, j < 6 → f' 50 j = nI (gd_ T j)) ∧ MR_ z' f' n (wP_ K S Tt) ((l3_ n G T x y d q).foldl (bM_ n (wP_ K S Tt)) s) := by
  intro d
  induction d with
  | zero =>
    intro q z f s fuel hq hf hP hG h50 hs
    obtain ⟨fuel, rfl⟩ : ∃ v, fuel = v + 1 := ⟨fuel - 1, by omega⟩
    refine ⟨z, f, it_e ?_, FN_r, h50, hs⟩
    unfold bX9_findSecond_38
    rw [if_pos (show (36 : Int32) ≤ nI q from nI_le (a := 36) (by omega) (by omega))]
  | succ d ih =>
    intro q z f s fuel hq hf hP hG h50 hs
    obtain ⟨fuel, rfl⟩ : ∃ v, fuel = v + 1 := ⟨fuel - 1, by omega⟩
    have hn := hP.2.1
    have q36 : q < 36 := by omega
    have h64 : G < 64 := Nat.lt_of_lt_of_le hG.1 (pw6 hn)
    have hlt : ¬ (36 : Int32) ≤ nI q := nI_ge (b := 36) q36 (by decide)
    cases hp : put_ n G T q with
    | none =>
      have hl : l3_ n G T x y (d + 1) q = l3_ n G T x y d (q + 1) := by
        show (match put_ n G T q with | none => _ | some T3 => _) = _
        rw [hp]
      rw [hl]
      have hb : bX9_findSecond_38 40 (nI x) (nI y) (nI q, HH z f) = some (.inl (nI (q + 1), HH z f)) := by
        unfold bX9_findSecond_38 jX9_findSecond_79_38
        simp only [hlt, if_false, ob_40, M_put0 hn hP.2.2.2.1 hG.2.1 h64 q36 hT h50 hp, if_true, nI_1, Option.bind_some]
      rw [it_s hb]
      exact ih (q + 1) z f s fuel (by omega) (by omega) hP hG h50 hs
    | some T3 =>
      have hl : l3_ n G T x y (d + 1) q = (T3, [x, y, q]) :: l3_ n G T x y d (q + 1) := by
        show (match put_ n G T q with | none => _ | some T3 => _) = _
        rw [hp]
      rw [hl, List.foldl_cons]
      obtain ⟨c1, c2, _⟩ := put_y hp
      obtain ⟨hT3, z1, f1, e1, e2, e3, e4⟩ := M_step (w := wP_ K S Tt) (s := s) (ps := [x, y, q]) hn hP.2.2.2.1 hlen hT h50 q36 hp (by simp) hs
      obtain ⟨f2, u1, u2, u3, u4⟩ := M_unt hlen e3 q36 hp e4
      have hP1 := IvP_f (i := 50) (g := gp50_ f q) (by decide) hP
      have hcs : cst_ (wP_ K S Tt) [x, y, q] = ne_ (wP_ K S Tt) x + ne_ (wP_ K S Tt) y + ne_ (wP_ K S Tt) q := by simp [cst_, Nat.add_assoc]
      rw [hcs, show nI [x, y, q].length = 3 from rfl] at e1
      have hb : bX9_findSecond_38 40 (nI x) (nI y) (nI q, HH z f) = some (.inl (nI (q + 1), HH z1 f2)) := by
        unfold bX9_findSecond_38 jX9_findSecond_79_38
        simp only [hlt, if_false, ob_40, M_put1 hn hP.2.2.2.1 hG.2.1 h64 q36 h50 hp, n10_, M_lv hP1 hx.1 hx.2.1 hx.2.2, M_lv hP1 hy.1 hy.2.1 hy.2.2, M_lv hP1 q36 (show q / 6 < n by omega) c2, nI_add, e1, u1, nI_1, Option.bind_some]
      have hFN : FN_ z f z1 f2 := FN_t e2 u2
      obtain ⟨z3, f3, v1, v2, v3, v4⟩ := ih (q + 1) z1 f2 _ fuel (by omega) (by omega) (FS_P (FS_N hFN) hP) (FS_G hn (FS_N hFN) hG) u3 u4
      exact ⟨z3, f3, by rw [it_s hb]; exact v1, FN_t hFN v2, v3, v4⟩
theorem M_l2 {n G x : Nat} {K S Tt : Nat → Nat} {T : List Nat} (hlen : T.length = 6) (hT : ∀ j, gd_ T j < 16) (hx : okx_ n x) : ∀ (d q : Nat) (z : Nat → Int32) (f : Nat → Nat → Int32) (s : el_T) (fuel : Nat), q + d = 36 → d < fuel → IvP z f n K S Tt → IvG z n G → (∀ j, j < 6 → f 50 j = nI (gd_ T j)) → MR_ z f n (wP_ K S Tt) s → ∃ z' f', it_ (bX9_findSecond_4 40 (nI x)) fuel (nI q, HH z f) = some (HH z' f') ∧ FN_ z f z' f' ∧ (∀ j, j < 6 → f' 50 j = nI (gd_ T j)) ∧ MR_ z' f' n (wP_ K S Tt) ((l2_ n G T x d q).foldl (bM_ n (wP_ K S Tt)) s) := by
  intro d
  induction d with
  | zero =>
    intro q z f s fuel hq hf hP hG h50 hs
    obtain ⟨fuel, rfl⟩ : ∃ v, fuel = v + 1 := ⟨fuel - 1, by omega⟩
    refine ⟨z, f, it_e ?_, FN_r, h50, hs⟩
    unfold bX9_findSecond_4
    rw [if_pos (show (36 : Int32) ≤ nI q from nI_le (a := 36) (by omega) (by omega))]
  | succ d ih =>
    intro q z f s fuel hq hf hP hG h50 hs
    obtain ⟨fuel, rfl⟩ : ∃ v, fuel = v + 1 := ⟨fuel - 1, by omega⟩
    have hn := hP.2.1
    have q36 : q < 36 := by omega
    have h64 : G < 64 := Nat.lt_of_lt_of_le hG.1 (pw6 hn)
    have hlt : ¬ (36 : Int32) ≤ nI q := nI_ge (b := 36) q36 (by decide)
    cases hp : put_ n G T q with
    | none =>
      have hl : l2_ n G T x (d + 1) q = l2_ n G T x d (q + 1) := by
        show (match put_ n G T q with | none => _ | some T2 => _) = _
        rw [hp]
      rw [hl]
      have hb : bX9_findSecond_4 40 (nI x) (nI q, HH z f) = some (.inl (nI (q + 1), HH z f)) := by
        unfold bX9_findSecond_4 jX9_findSecond_90_4
        simp only [hlt, if_false, ob_40, M_put0 hn hP.2.2.2.1 hG.2.1 h64 q36 hT h50 hp, if_true, nI_1, Option.bind_some]
      rw [it_s hb]
      exact ih (q + 1) z f s fuel (by omega) (by omega) hP hG h50 hs
    | some T2 =>
      have hl : l2_ n G T x (d + 1) q = (T2, [x, q]) :: (l3_ n G T2 x q d (q + 1) ++ l2_ n G T x d (q + 1)) := by
        show (match put_ n G T q with | none => _ | some T2 => _) = _
        rw [hp]
      rw [hl, List.foldl_cons, List.foldl_append]
      obtain ⟨c1, c2, _⟩ := put_y hp
      obtain ⟨hT2, z1, f1, e1, e2, e3, e4⟩ := M_step (w := wP_ K S Tt) (s := s) (ps := [x, q]) hn hP.2.2.2.1 hlen hT h50 q36 hp (by simp) hs
      obtain ⟨z2, f2, w1, w2, w3, w4⟩ := M_l3 (G := G) (gd_put hlen hp q36).1 hT2 hx ⟨q36, by omega, c2⟩ d (q + 1) z1 f1 _ fu_ (by omega) (fu_gt (by omega)) (FS_P (FS_N e2) hP) (FS_G hn (FS_N e2) hG) e3 e4
      obtain ⟨f3, u1, u2, u3, u4⟩ := M_unt hlen w3 q36 hp w4
      have hP1 := IvP_f (i := 50) (g := gp50_ f q) (by decide) hP
      have hcs : cst_ (wP_ K S Tt) [x, q] = ne_ (wP_ K S Tt) x + ne_ (wP_ K S Tt) q := by simp [cst_]
      rw [hcs, show nI [x, q].length = 2 from rfl] at e1
      have hb : bX9_findSecond_4 40 (nI x) (nI q, HH z f) = some (.inl (nI (q + 1), HH z2 f3)) := by
        unfold bX9_findSecond_4 jX9_findSecond_90_4
        simp only [hlt, if_false, ob_40, M_put1 hn hP.2.2.2.1 hG.2.1 h64 q36 h50 hp, n10_, M_lv hP1 hx.1 hx.2.1 hx.2.2, M_lv hP1 q36 (show q / 6 < n by omega) c2, nI_add, e1, nI_1, w1, u1, Option.bind_some]
      have hFN : FN_ z f z2 f3 := FN_t e2 (FN_t w2 u2)
      obtain ⟨z3, f4, v1, v2, v3, v4⟩ := ih (q + 1) z2 f3 _ fuel (by omega) (by omega) (FS_P (FS_N hFN) hP) (FS_G hn (FS_N hFN) hG) u3 u4
      exact ⟨z3, f4, by rw [it_s hb]; exact v1, FN_t hFN v2, v3, v4⟩
theorem M_l1 {n G : Nat} {K S Tt : Nat → Nat} {T : List Nat} (hlen : T.length = 6) (hT : ∀ j, gd_ T j < 16) : ∀ (d q : Nat) (z : Nat → Int32) (f : Nat → Nat → Int32) (s : el_T) (fuel : Nat), q + d = 36 → d < fuel → IvP z f n K S Tt → IvG z n G → (∀ j, j < 6 → f 50 j = nI (gd_ T j)) → MR_ z f n (wP_ K S Tt) s → ∃ z' f', it_ (bX9_findPairs_41 40) fuel (nI q, HH z f) = some (HH z' f') ∧ FN_ z f z' f' ∧ (∀ j, j < 6 → f' 50 j = nI (gd_ T j)) ∧ MR_ z' f' n (wP_ K S Tt) ((l1_ n G T d q).foldl (bM_ n (wP_ K S Tt)) s) := by
  intro d
  induction d with
  | zero =>
    intro q z f s fuel hq hf hP hG h50 hs
    obtain ⟨fuel, rfl⟩ : ∃ v, fuel = v + 1 := ⟨fuel - 1, by omega⟩
    refine ⟨z, f, it_e ?_, FN_r, h50, hs⟩
    unfold bX9_findPairs_41
    rw [if_pos (show (36 : Int32) ≤ nI q from nI_le (a := 36) (by omega) (by omega))]
  | succ d ih =>
    intro q z f s fuel hq hf hP hG h50 hs
    obtain ⟨fuel, rfl⟩ : ∃ v, fuel = v + 1 := ⟨fuel - 1, by omega⟩
    have hn := hP.2.1
    have q36 : q < 36 := by omega
    have h64 : G < 64 := Nat.lt_of_lt_of_le hG.1 (pw6 hn)
    have hlt : ¬ (36 : Int32) ≤ nI q := nI_ge (b := 36) q36 (by decide)
    cases hp : put_ n G T q with
    | none =>
      have hl : l1_ n G T (d + 1) q = l1_ n G T d (q + 1) := by
        show (match put_ n G T q with | none => _ | some T1 => _) = _
        rw [hp]
      rw [hl]
      have hb : bX9_findPairs_41 40 (nI q, HH z f) = some (.inl (nI (q + 1), HH z f)) := by
        unfold bX9_findPairs_41 jX9_findPairs_75_41
        simp only [hlt, if_false, ob_40, M_put0 hn hP.2.2.2.1 hG.2.1 h64 q36 hT h50 hp, if_true, nI_1, Option.bind_some]
      rw [it_s hb]
      exact ih (q + 1) z f s fuel (by omega) (by omega) hP hG h50 hs
    | some T1 =>
      have hl : l1_ n G T (d + 1) q = (T1, [q]) :: (l2_ n G T1 q d (q + 1) ++ l1_ n G T d (q + 1)) := by
        show (match put_ n G T q with | none => _ | some T1 => _) = _
        rw [hp]
      rw [hl, List.foldl_cons, List.foldl_append]
      obtain ⟨c1, c2, _⟩ := put_y hp
      obtain ⟨hT2, z1, f1, e1, e2, e3, e4⟩ := M_step (w := wP_ K S Tt) (s := s) (ps := [q]) hn hP.2.2.2.1 hlen hT h50 q36 hp (by simp) hs
      obtain ⟨z2, f2, w1, w2, w3, w4⟩ := M_l2 (G := G) (gd_put hlen hp q36).1 hT2 ⟨q36, by omega, c2⟩ d (q + 1) z1 f1 _ fu_ (by omega) (fu_gt (by omega)) (FS_P (FS_N e2) hP) (FS_G hn (FS_N e2) hG) e3 e4
      obtain ⟨f3, u1, u2, u3, u4⟩ := M_unt hlen w3 q36 hp w4
      have hP1 := IvP_f (i := 50) (g := gp50_ f q) (by decide) hP
      have hcs : cst_ (wP_ K S Tt) [q] = ne_ (wP_ K S Tt) q := by simp [cst_]
      rw [hcs, show nI [q].length = 1 from rfl] at e1
      have hsec : fX9_findSecond (HH z1 f1) 40 (nI q) = some (HH z2 f2) := by
        unfold fX9_findSecond
        simp only [nI_1, w1, Option.bind_some]
      have hb : bX9_findPairs_41 40 (nI q, HH z f) = some (.inl (nI (q + 1), HH z2 f3)) := by
        unfold bX9_findPairs_41 jX9_findPairs_75_41
        simp only [hlt, if_false, ob_40, M_put1 hn hP.2.2.2.1 hG.2.1 h64 q36 h50 hp, n10_, M_lv hP1 q36 (show q / 6 < n by omega) c2, e1, hsec, u1, nI_1, Option.bind_some]
      have hFN : FN_ z f z2 f3 := FN_t e2 (FN_t w2 u2)
      obtain ⟨z3, f4, v1, v2, v3, v4⟩ := ih (q + 1) z2 f3 _ fuel (by omega) (by omega) (FS_P (FS_N hFN) hP) (FS_G hn (FS_N hFN) hG) u3 u4
      exact ⟨z3, f4, by rw [it_s hb]; exact v1, FN_t hFN v2, v3, v4⟩
theorem gd_T9 (j : Nat) : gd_ T9_ j = 9 := by
  unfold gd_ T9_
  match j with
  | 0 => rfl
  | 1 => rfl
  | 2 => rfl
  | 3 => rfl
  | 4 => rfl
  | 5 => rfl
  | j + 6 => rfl
theorem M_nine {z : Nat → Int32} {f : Nat → Nat → Int32} : it_ (bX9_findPairs_2 40) fu_ (0, HH z f) = some (HH z (up2 f 50 (fun q => if q < 6 then 9 else f 50 q))) := by
  refine it_at (fun j => (nI j, HH z (up2 f 50 (fun q => if q < j then 9 else f 50 q)))) 6 ?_ (fun j hj => ?_) ?_ fu_ (fu_gt (by omega))
  · (try dsimp only)
    rw [up2_self (fun q => by simp), nI_0]
  · unfold bX9_findPairs_2
    dsimp only
    rw [if_neg (show ¬ (6 : Int32) ≤ nI j from nI_ge (b := 6) hj (by decide)), q_40_18, Option.bind_some, ax50 hj, Option.bind_some, Option.bind_some, nI_1, up2_eq, up2_up2]
    have e2 : upd (fun q => if q < j then (9 : Int32) else f 50 q) j 9 = fun q => if q < j + 1 then 9 else f 50 q := by
      funext q
      by_cases c : q = j
      · subst c; simp [upd]
      · simp only [upd, if_neg c]
        by_cases c2 : q < j
        · rw [if_pos c2, if_pos (by omega)]
        · rw [if_neg c2, if_neg (by omega)]
    rw [e2]
  · unfold bX9_findPairs_2
    dsimp only
    rw [if_pos (show (6 : Int32) ≤ nI 6 by decide)]
theorem M_first {z : Nat → Int32} {f : Nat → Nat → Int32} {n : Nat} {w : Nat → Nat} (hn : n ≤ 6) (h85 : z 1285 = nI n) (h0 : z 1300 = -9) (h50 : ∀ j, j < 6 → f 50 j = 9) : ∃ z' f', fX9_tryPartners (HH z f) 40 0 0 = some (HH z' f') ∧ FN_ z f z' f' ∧ f' 50 = f 50 ∧ MR_ z' f' n w (T9_, []) := by
  refine ⟨upd (upd z 1300 0) 1301 0, up2 f 51 (fun p => if p < n then f 50 p else f 51 p), ?_, FN_z (by decide) (FN_z (by decide) (FN_f (by decide) FN_r)), up2_ne (by decide), ?_, ?_, by decide, fun j => by rw [gd_T9]; decide, fun p hp => ?_⟩
  · unfold fX9_tryPartners jX9_tryPartners_24 jX9_tryPartners_29 jX9_tryPartners_50
    simp only [g_40_20, h0, Option.bind_some]
    rw [if_pos (by decide), if_neg (by decide)]
    exact tp_y hn h85 (by rw [← nI_0]; exact tp_no h85 (fu_gt (by decide)))
  · rw [upd_ne (by decide), upd_eq]; rfl
  · rw [upd_eq]; rfl
  · rw [up2_eq, gd_T9]
    (try dsimp only)
    rw [if_pos hp, h50 p (by omega)]
    rfl
theorem M_find {z : Nat → Int32} {f : Nat → Nat → Int32} {n G : Nat} {K S T : Nat → Nat} (hP : IvP z f n K S T) (hG : IvG z n G) : ∃ z' f', fX9_findPairs (HH z f) 40 = some (HH z' f') ∧ FN_ z f z' f' ∧ MR_ z' f' n (wP_ K S T) ((LM_ n G).foldl (bM_ n (wP_ K S T)) (T9_, [])) := by
  have hn := hP.2.1
  obtain ⟨z1, f1, e1, e2, e3, e4⟩ := M_first (z := upd (upd z 1300 (-9)) 1301 0) (f := up2 f 50 (fun q => if q < 6 then 9 else f 50 q)) (n := n) (w := wP_ K S T) hn (by rw [upd_ne (by decide), upd_ne (by decide)]; exact hP.2.2.2.1) (by rw [upd_ne (by decide), upd_eq]) (fun j hj => by rw [up2_eq]; (try dsimp only); rw [if_pos hj])
  have hFN : FN_ z f z1 f1 := FN_t (FN_z (by decide) (FN_z (by decide) (FN_f (by decide) FN_r))) e2
  obtain ⟨z2, f2, u1, u2, u3, u4⟩ := M_l1 (G := G) (T := T9_) (K := K) (S := S) (Tt := T) rfl (fun j => by rw [gd_T9]; decide) 36 0 z1 f1 (T9_, []) fu_ (by omega) (fu_gt (by omega)) (FS_P (FS_N hFN) hP) (FS_G hn (FS_N hFN) hG) (fun j hj => by
    rw [e3, up2_eq, gd_T9]
    (try dsimp only)
    rw [if_pos hj]
    rfl) e4
  rw [nI_0] at u1
  refine ⟨z2, f2, ?_, FN_t hFN u2, u4⟩
  unfold fX9_findPairs
  simp only [M_nine, p_40_20, p_40_21, ob_40, e1, u1, Option.bind_some]
theorem k_in {p : Int32} (h1 : ¬ p < -1) (h2 : p < 6) : p = -1 ∨ ∃ k, k < 6 ∧ p = nI k := by
  by_cases c : p < 0
  · refine Or.inl ?_
    rw [Int32.lt_iff_toInt_lt] at h1 c
    apply Int32.toInt_inj.mp
    have e1 : (-1 : Int32).toInt = -1 := by decide
    have e0 : (0 : Int32).toInt = 0 := by decide
    omega
  · obtain ⟨k, hk, rfl⟩ := nI_of c
    exact Or.inr ⟨k, (nI_ltI hk (show 6 < 2 ^ 31 by decide)).mp h2, rfl⟩
/-! a row of the class's search has 9 at every place that is nobody's -/
def cko_ (n : Nat) (C : List el_T) : Bool := C.all (fun a => (List.range 6).all (fun k => decide (k < n) || decide (gd_ a.1 k = 9)))
set_option maxRecDepth 100000 in
theorem ck_out : ∀ n, n < 7 → ∀ G, G < 64 → G < 2 ^ n → cko_ n (LC_ n G) = true := by decide +kernel
theorem pairs_out {n G : Nat} {w : Nat → Nat} {g0 : Nat → Int32} (hn : n ≤ 6) (hG : G < 2 ^ n) : ∀ p, n ≤ p → p < 6 → ((LC_ n G).foldl (bC_ w) (6, g0)).2 p = 9 := by
  have h64 : G < 64 := Nat.lt_of_lt_of_le hG (pw6 hn)
  have hck := ck_all n (by omega) G h64 hG
  have hco := ck_out n (by omega) G h64 hG
  simp only [ckp_, Bool.and_eq_true, decide_eq_true_eq, List.all_eq_true, Bool.not_eq_true', Bool.or_eq_true] at hck
  simp only [cko_, decide_eq_true_eq, List.all_eq_true, Bool.or_eq_true, List.mem_range] at hco
  obtain ⟨m3, ⟨⟨c1, c2⟩, c3⟩, c4⟩ := hck
  intro p hp p6
  rcases fold_C (n := n) (w := w) (LC_ n G) (6, g0) (srt_b c1) with ⟨h1, h2⟩ | ⟨a, h1, h2, h3, h4⟩
  · exfalso
    cases hl : LC_ n G with
    | nil => rw [hl] at c2; exact absurd c2 (by simp)
    | cons x l =>
      have h5 : 6 ≤ cst_ w x.2 := h2 x (by rw [hl]; exact List.mem_cons_self)
      have h6 := cst_le (w := w) x.2
      have h7 := (c3 x (by rw [hl]; exact List.mem_cons_self)).1
      omega
  · rw [h2]
    show tv_ (gd_ a.1 p) = _
    rcases hco a h1 p p6 with h9 | h9
    · omega
    · rw [h9, tv_9]
theorem op_pairs : Op_pairs := by
  intro z f p iv
  have iv0 := iv
  obtain ⟨n, K, S, T, G, r, A, B, W, U, hP, hG, hX, hS, hR⟩ := iv
  have hn := hP.2.1
  unfold fX8_pairs
  by_cases c1 : p < -1
  · refine ⟨-2, z, f, z, f, by rw [if_pos c1], ?_, iv0⟩
    unfold fX9_pairs
    simp only [M_within, c1, decide_true, Bool.not_true, Bool.false_and, b_f, if_true, Option.bind_some]
  rw [if_neg c1]
  by_cases c2 : p < 6
  · rw [if_pos c2]
    have c5 : ¬ (5 : Int32) < p := by
      rw [Int32.lt_iff_toInt_lt] at c2 ⊢
      have e5 : (5 : Int32).toInt = 5 := by decide
      have e6 : (6 : Int32).toInt = 6 := by decide
      omega
    have hwi : (!(decide (p < -1)) && !(decide ((5 : Int32) < p))) = true := by rw [decide_eq_false c1, decide_eq_false c5]; rfl
    simp only [q_0_0, g_1_1, hP.2.2.1, Option.bind_some]
    by_cases c0 : n = 0
    · refine ⟨-3, z, f, z, f, ?_, ?_, iv0⟩
      · rw [if_pos (by rw [c0, nI_0])]
      · unfold fX9_pairs
        simp only [M_within, hwi, b_t, n10_, if_false, g_40_5, hP.2.2.2.1, Option.bind_some]
        rw [if_pos (by rw [c0, nI_0])]
    · have hne : ¬ nI n = 0 := nI_ne0 (by omega) (by omega)
      rw [if_neg hne]
      obtain ⟨z1, f1, e1, e2, e3⟩ := C_find hP hG
      obtain ⟨z2, f2, u1, u2, u3⟩ := M_find (FS_P (FS_C e2) hP) (FS_G hn (FS_C e2) hG)
      obtain ⟨q1, q2⟩ := pairs_eq (w := wP_ K S T) (g0 := f 27) hn hG.1
      have q3 := pairs_out (w := wP_ K S T) (g0 := f 27) hn hG.1
      generalize (LM_ n G).foldl (bM_ n (wP_ K S T)) (T9_, []) = mm at u3 q1 q2
      generalize (LC_ n G).foldl (bC_ (wP_ K S T)) (6, f 27) = cc at e3 q1 q2 q3
      have hInv : Inv z2 f2 := FS_I (FS_N u2) (FS_I (FS_C e2) iv0)
      have h33 : z1 33 = nI n := by rw [e2.1 33 (by omega)]; exact hP.2.2.1
      have h85 : z1 1285 = nI n := by rw [e2.1 1285 (by omega)]; exact hP.2.2.2.1
      have h85' : z2 1285 = nI n := by rw [u2.1 1285 (by omega)]; exact h85
      simp only [q_0_4, ob_25, e1, g_25_2, Option.bind_some]
      rcases k_in c1 c2 with rfl | ⟨k, hk, rfl⟩
      · refine ⟨nI cc.1, z1, f1, z2, f2, ?_, ?_, hInv⟩
        · rw [if_neg (by decide), e3.1]
        · unfold fX9_pairs
          simp only [M_within, hwi, b_t, n10_, if_false, g_40_5, h85, hne, ob_40, u1, if_true, g_40_21, u3.2.1, q1, Option.bind_some]
      · refine ⟨if f1 27 k = 9 then -9 else f1 27 k, z1, f1, z2, f2, ?_, ?_, hInv⟩
        · rw [if_pos (nI_pos' (by omega)), C_part hk, Option.bind_some]
        · unfold fX9_pairs
          have hk1 : ¬ nI k = -1 := fun w => by
            have h9 : ¬ nI k < 0 := nI_pos (by omega)
            rw [w] at h9
            exact h9 (by decide)
          simp only [M_within, hwi, b_t, n10_, if_false, g_40_5, h85, hne, ob_40, u1, hk1, M_isP h85', ip_d hn (show k < 2 ^ 31 by omega), Option.bind_some]
          by_cases c : k < n
          · rw [decide_eq_true c, b_t, if_neg n10_]
            have hd := u3.2.2.2.1 k
            have e9 : f1 27 k = f2 51 k := by
              rw [e3.2.2 k hk, q2 k c, u3.2.2.2.2 k c]
            rw [e9]
            simp only [q_40_19, al51 hk, Option.bind_some]
            by_cases c9 : f2 51 k = 9
            · rw [if_pos c9, if_pos c9]
            · rw [if_neg c9, if_neg c9]
          · have e9 : f1 27 k = 9 := by
              rw [e3.2.2 k hk]
              exact q3 k (by omega) hk
            rw [decide_eq_false c, b_f, if_pos rfl, if_pos e9]
  · rw [if_neg c2]
    refine ⟨-2, z, f, z, f, rfl, ?_, iv0⟩
    have c5 : (5 : Int32) < p := by
      rw [Int32.lt_iff_toInt_lt] at c2 ⊢
      have e5 : (5 : Int32).toInt = 5 := by decide
      have e6 : (6 : Int32).toInt = 6 := by decide
      omega
    unfold fX9_pairs
    simp only [M_within, c5, decide_true, Bool.not_true, Bool.and_false, b_f, if_true, Option.bind_some]
