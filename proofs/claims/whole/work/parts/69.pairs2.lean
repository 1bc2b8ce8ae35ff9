/-! pairs: the class's search -/
theorem gd_set {l : List Nat} {i v j : Nat} (hi : i < l.length) : gd_ (l.set i v) j = if i = j then v else gd_ l j := by
  unfold gd_
  simp only [List.getD_eq_getElem?_getD, List.getElem?_set]
  by_cases c : i = j
  · subst c; simp [hi]
  · simp [c]
theorem tv_m1 : ∀ x, x < 11 → (tv_ x = -1 ↔ x = 10) := by decide +kernel
theorem tv_nI {x : Nat} (h : ¬ x = 10) : tv_ x = nI x := by unfold tv_; rw [if_neg h]
theorem tv_10 : tv_ 10 = -1 := rfl
theorem tv_9 : tv_ 9 = 9 := by decide
theorem al26 {z : Nat → Int32} {f : Nat → Nat → Int32} {p : Nat} (hp : p < 6) : al_ (HH z f) 26 (nI p) = some (f 26 p) := HH_al (n := 6) rfl hp (by decide)
theorem ax26 {z : Nat → Int32} {f : Nat → Nat → Int32} {p : Nat} (hp : p < 6) (x : Int32) : ax_ (HH z f) 26 (nI p) x = some (HH z (up2 f 26 (upd (f 26) p x))) := HH_ax (n := 6) rfl hp (by decide)
theorem al27 {z : Nat → Int32} {f : Nat → Nat → Int32} {p : Nat} (hp : p < 6) : al_ (HH z f) 27 (nI p) = some (f 27 p) := HH_al (n := 6) rfl hp (by decide)
def wP_ (K S T : Nat → Nat) (p : Nat) : Nat := wN_ (K p) (S p) (T p)
theorem pw_of {z : Nat → Int32} {f : Nat → Nat → Int32} {n p : Nat} {K S T : Nat → Nat} (hP : IvP z f n K S T) (hp : p < n) (g : Nat → Nat → Int32) : fX2_worst (HH z g) (3 + p) = some (nI (wP_ K S T p)) := by
  have hn := hP.2.1
  obtain ⟨a1, a2, a3, e0, _, e1, _, e2, _⟩ := hP.2.2.2.2 p hp
  exact C_worst (by omega) a1 a2 a3 e0 e1 e2
theorem mw_of {z : Nat → Int32} {f : Nat → Nat → Int32} {n p : Nat} {K S T : Nat → Nat} (hP : IvP z f n K S T) (hp : p < n) : fX9_worstOf (HH z f) 40 (nI p) = some (nI (wP_ K S T p)) := by
  have hn := hP.2.1
  obtain ⟨a1, a2, a3, _, e0, _, e1, _, e2⟩ := hP.2.2.2.2 p hp
  exact M_worst (by omega) a1 a2 a3 e0 e1 e2
theorem wP_lt {z : Nat → Int32} {f : Nat → Nat → Int32} {n p : Nat} {K S T : Nat → Nat} (hP : IvP z f n K S T) (hp : p < n) : wP_ K S T p < 2 ^ 31 := by
  obtain ⟨a1, a2, a3, _⟩ := hP.2.2.2.2 p hp
  have := bN_le (k := K p) a2
  unfold wP_ wN_
  omega
def RS2_ (z : Nat → Int32) (f : Nat → Nat → Int32) (s : cs_T) : Prop := z 802 = nI s.1 ∧ s.1 ≤ 6 ∧ ∀ j, j < 6 → f 27 j = s.2 j
def pfC_ (n : Nat) (K S Tt : Nat → Nat) (k : Nat) : Prop := ∀ (p rest : Nat) (T ps : List Nat) (z : Nat → Int32) (f : Nat → Nat → Int32) (s : cs_T), IvP z f n K S Tt → T.length = 6 → (∀ j, gd_ T j ≤ 10) → (∀ j, j < 6 → f 26 j = tv_ (gd_ T j)) → RS2_ z f s → p ≤ n → n < p + k → ps.length ≤ p → rest ≤ 6 → ∃ z' f', fX1_pairFrom k (HH z f) 25 1 (nI p) (nI rest) (nI (cst_ (wP_ K S Tt) ps)) = some (HH z' f') ∧ FC_ z f z' f' ∧ (∀ j, j < 6 → f' 26 j = tv_ (gd_ T j)) ∧ RS2_ z' f' ((lc_ n k p rest T ps).foldl (bC_ (wP_ K S Tt)) s)
def Fq_ (n k p rest : Nat) (T ps : List Nat) (q : Nat) : List el_T := if gd_ T q = 10 then lc_ n k (p + 1) rest ((T.set p q).set q p) (ps ++ [6 * p + q]) else []
theorem C_pb {z : Nat → Int32} {f : Nat → Nat → Int32} {n k p q rest : Nat} {K S Tt : Nat → Nat} {ps : List Nat} (hP : IvP z f n K S Tt) (hpq : p < q) (hq : q < n) (h26 : f 26 q = -1) : bX1_pairFrom_66 (fX1_pairFrom k) 25 1 (nI p) (nI rest) (nI (cst_ (wP_ K S Tt) ps)) (nI q, HH z f) = (fX1_pairFrom k (HH z (up2 f 26 (upd (upd (f 26) p (nI q)) q (nI p)))) 25 1 (nI (p + 1)) (nI rest) (nI (cst_ (wP_ K S Tt) (ps ++ [6 * p + q])))).bind fun r32 => (gq_ r32 25 1 0).bind fun x33 => (ax_ r32 x33 (nI q) (-1)).bind fun h34 => some (.inl (nI (q + 1), h34)) := by
  have hn := hP.2.1
  have p6 : p < 6 := by omega
  have q6 : q < 6 := by omega
  have e1 : (6 * p + q) / 6 = p := by omega
  have e2 : (6 * p + q) % 6 = q := by omega
  unfold bX1_pairFrom_66
  simp only [g_1_1, hP.2.2.1, Option.bind_some]
  rw [if_neg (nI_ge hq (by omega))]
  simp only [q_25_0, q_1_0, al26 q6, h26, if_true, ax26 p6, ax26 q6, up2_eq, up2_up2, qp_ p6, qp_ q6, obp_ p6, obp_ q6, pw_of hP (show p < n by omega), pw_of hP hq, Option.bind_some]
  rw [cst_app]
  unfold ne_
  rw [e1, e2]
  by_cases c : wP_ K S Tt p = wP_ K S Tt q
  · rw [if_pos (by rw [c]), if_pos c]
    unfold jX1_pairFrom_129_66 jX1_pairFrom_151_66 jX1_pairFrom_162_66
    rw [if_neg n10_]
    simp only [ob_25, nI_1, Nat.add_zero, Option.bind_some]
  · rw [if_neg (fun w => c ((nI_eq (wP_lt hP (by omega)) (wP_lt hP hq)).mp w)), if_neg c]
    unfold jX1_pairFrom_129_66 jX1_pairFrom_151_66 jX1_pairFrom_162_66
    rw [if_pos rfl]
    simp only [ob_25, nI_1, Option.bind_some]
theorem C_pq {n k p rest : Nat} {K S Tt : Nat → Nat} {T ps : List Nat} (ih : pfC_ n K S Tt k) (hlen : T.length = 6) (hT : ∀ j, gd_ T j ≤ 10) (hk : n < p + 1 + k) (hps : ps.length ≤ p) (hrest : rest ≤ 6) : ∀ (d q : Nat) (z : Nat → Int32) (f : Nat → Nat → Int32) (s : cs_T) (fuel : Nat), q + d = n → p < q → d < fuel → IvP z f n K S Tt → (∀ j, j < 6 → j ≠ p → f 26 j = tv_ (gd_ T j)) → RS2_ z f s → ∃ z' f', it_ (bX1_pairFrom_66 (fX1_pairFrom k) 25 1 (nI p) (nI rest) (nI (cst_ (wP_ K S Tt) ps))) fuel (nI q, HH z f) = some (HH z' f') ∧ FC_ z f z' f' ∧ (∀ j, j < 6 → j ≠ p → f' 26 j = tv_ (gd_ T j)) ∧ RS2_ z' f' ((fq_ (Fq_ n k p rest T ps) d q).foldl (bC_ (wP_ K S Tt)) s) := by
  intro d
  induction d with
  | zero =>
    intro q z f s fuel hq hpq hf hP h26 hs
    obtain ⟨fuel, rfl⟩ : ∃ y, fuel = y + 1 := ⟨fuel - 1, by omega⟩
    have hn := hP.2.1
    refine ⟨z, f, it_e ?_, FC_r, h26, hs⟩
    unfold bX1_pairFrom_66
    simp only [g_1_1, hP.2.2.1, Option.bind_some]
    rw [if_pos (nI_le (by omega) (by omega))]
  | succ d ihd =>
    intro q z f s fuel hq hpq hf hP h26 hs
    obtain ⟨fuel, rfl⟩ : ∃ y, fuel = y + 1 := ⟨fuel - 1, by omega⟩
    have hn := hP.2.1
    have q6 : q < 6 := by omega
    have p6 : p < 6 := by omega
    have hfold : (fq_ (Fq_ n k p rest T ps) (d + 1) q).foldl (bC_ (wP_ K S Tt)) s = (fq_ (Fq_ n k p rest T ps) d (q + 1)).foldl (bC_ (wP_ K S Tt)) ((Fq_ n k p rest T ps q).foldl (bC_ (wP_ K S Tt)) s) := List.foldl_append
    rw [hfold]
    by_cases c : gd_ T q = 10
    · have h26q : f 26 q = -1 := by rw [h26 q q6 (by omega), c]; rfl
      have hb := C_pb (k := k) (rest := rest) (ps := ps) hP hpq (by omega) h26q
      have hF : Fq_ n k p rest T ps q = lc_ n k (p + 1) rest ((T.set p q).set q p) (ps ++ [6 * p + q]) := by unfold Fq_; rw [if_pos c]
      have hset : ∀ j, gd_ ((T.set p q).set q p) j = if q = j then p else if p = j then q else gd_ T j := fun j => by
        rw [gd_set (by rw [List.length_set]; omega), gd_set (by omega)]
      obtain ⟨z1, f1, e1, e2, e3, e4⟩ := ih (p + 1) rest ((T.set p q).set q p) (ps ++ [6 * p + q]) z (up2 f 26 (upd (upd (f 26) p (nI q)) q (nI p))) s (IvP_f (by decide) hP) (by rw [List.length_set, List.length_set]; exact hlen) (fun j => by
        rw [hset]
        have := hT j
        split
        · omega
        · split <;> omega) (fun j hj => by
        rw [up2_eq, hset]
        by_cases c1 : q = j
        · subst c1
          rw [upd_eq, if_pos rfl, tv_nI (by omega)]
        · rw [upd_ne (fun w => c1 w.symm), if_neg c1]
          by_cases c2 : p = j
          · subst c2
            rw [upd_eq, if_pos rfl, tv_nI (by omega)]
          · rw [upd_ne (fun w => c2 w.symm), if_neg c2]
            exact h26 j hj (fun w => c2 w.symm)) ⟨hs.1, hs.2.1, fun j hj => by rw [up2_ne (by decide)]; exact hs.2.2 j hj⟩ (by omega) (by omega) (by rw [List.length_append, List.length_singleton]; omega) hrest
      rw [e1, Option.bind_some, q_25_0, Option.bind_some, ax26 q6, Option.bind_some] at hb
      have hFC : FC_ z f z1 (up2 f1 26 (upd (f1 26) q (-1))) := FC_f (by decide) (FC_t (FC_f (by decide) FC_r) e2)
      obtain ⟨z2, f2, u1, u2, u3, u4⟩ := ihd (q + 1) z1 (up2 f1 26 (upd (f1 26) q (-1))) ((Fq_ n k p rest T ps q).foldl (bC_ (wP_ K S Tt)) s) fuel (by omega) (by omega) (by omega) (FS_P (FS_C hFC) hP) (fun j hj hjp => by
        rw [up2_eq]
        by_cases c1 : j = q
        · subst c1
          rw [upd_eq, c]; rfl
        · rw [upd_ne c1, e3 j hj, hset, if_neg (fun w => c1 w.symm), if_neg (fun w => hjp w.symm)]) (by
        rw [hF]
        exact ⟨e4.1, e4.2.1, fun j hj => by rw [up2_ne (by decide)]; exact e4.2.2 j hj⟩)
      exact ⟨z2, f2, by rw [it_s hb]; exact u1, FC_t hFC u2, u3, u4⟩
    · have hF : Fq_ n k p rest T ps q = [] := by unfold Fq_; rw [if_neg c]
      have hno : ¬ f 26 q = -1 := by
        rw [h26 q q6 (by omega)]
        exact fun w => c ((tv_m1 _ (by have := hT q; omega)).mp w)
      have hb : bX1_pairFrom_66 (fX1_pairFrom k) 25 1 (nI p) (nI rest) (nI (cst_ (wP_ K S Tt) ps)) (nI q, HH z f) = some (.inl (nI (q + 1), HH z f)) := by
        unfold bX1_pairFrom_66
        simp only [g_1_1, hP.2.2.1, Option.bind_some]
        rw [if_neg (nI_ge (show q < n by omega) (by omega))]
        simp only [q_25_0, al26 q6, hno, if_false, Option.bind_some]
        unfold jX1_pairFrom_162_66
        rw [Option.bind_some, nI_1]
      obtain ⟨z2, f2, u1, u2, u3, u4⟩ := ihd (q + 1) z f s fuel (by omega) (by omega) (by omega) hP h26 hs
      refine ⟨z2, f2, by rw [it_s hb]; exact u1, u2, u3, ?_⟩
      rw [hF]
      exact u4
theorem va6 {a c : Nat → Int32} {j : Nat} (hj : j < 6) : va_cpy a c 0 0 6 j = a j := by
  unfold va_cpy
  rw [if_pos (by omega)]
  simp
theorem C_pf {n : Nat} {K S Tt : Nat → Nat} : ∀ k, pfC_ n K S Tt k := by
  intro k
  induction k with
  | zero => intro p rest T ps z f s _ _ _ _ _ h1 h2; omega
  | succ k ih =>
    intro p rest T ps z f s hP hlen hT h26 hs hpn hk hps hrest
    have hn := hP.2.1
    show ∃ z' f', wX1_pairFrom (fX1_pairFrom k) (HH z f) 25 1 (nI p) (nI rest) (nI (cst_ (wP_ K S Tt) ps)) = some (HH z' f') ∧ _
    have hcl := cst_le (w := wP_ K S Tt) ps
    by_cases c0 : p < n
    · have p6 : p < 6 := by omega
      by_cases c : gd_ T p = 10
      · have h26p : f 26 p = -1 := by rw [h26 p p6, c]; rfl
        obtain ⟨z1, f1, e1, e2, e3, e4⟩ := C_pq (ps := ps) ih hlen hT (by omega) hps hrest (n - (p + 1)) (p + 1) z f s fu_ (by omega) (by omega) (fu_gt (by omega)) hP (fun j hj _ => h26 j hj) hs
        have hl : (lc_ n (k + 1) p rest T ps) = fq_ (Fq_ n k p rest T ps) (n - (p + 1)) (p + 1) ++ (if 0 < rest then lc_ n k (p + 1) (rest - 1) (T.set p 9) ps else []) := by
          show (if n ≤ p then _ else _) = _
          rw [if_neg (show ¬ n ≤ p by omega), if_pos c]
          rfl
        rw [hl, List.foldl_append]
        by_cases cr : 0 < rest
        · rw [if_pos cr]
          obtain ⟨z2, f2, u1, u2, u3, u4⟩ := ih (p + 1) (rest - 1) (T.set p 9) ps z1 (up2 f1 26 (upd (f1 26) p 9)) ((fq_ (Fq_ n k p rest T ps) (n - (p + 1)) (p + 1)).foldl (bC_ (wP_ K S Tt)) s) (IvP_f (by decide) (FS_P (FS_C e2) hP)) (by rw [List.length_set]; exact hlen) (fun j => by
            rw [gd_set (by omega)]
            have := hT j
            split <;> omega) (fun j hj => by
            rw [up2_eq, gd_set (by omega)]
            by_cases c1 : p = j
            · subst c1
              rw [upd_eq, if_pos rfl, tv_9]
            · rw [upd_ne (fun w => c1 w.symm), if_neg c1]
              exact e3 j hj (fun w => c1 w.symm)) ⟨e4.1, e4.2.1, fun j hj => by rw [up2_ne (by decide)]; exact e4.2.2 j hj⟩ (by omega) (by omega) (by omega) (by omega)
          refine ⟨z2, up2 f2 26 (upd (f2 26) p (-1)), ?_, FC_f (by decide) (FC_t e2 (FC_t (FC_f (by decide) FC_r) u2)), fun j hj => ?_, ⟨u4.1, u4.2.1, fun j hj => by rw [up2_ne (by decide)]; exact u4.2.2 j hj⟩⟩
          · unfold wX1_pairFrom jX1_pairFrom_193
            simp only [g_1_1, hP.2.2.1, Option.bind_some]
            rw [if_pos (nI_lt c0 (by omega))]
            simp only [q_25_0, al26 p6, h26p, if_true, nI_1, e1, Option.bind_some]
            rw [if_neg (nI_nle cr (by omega)), show nI rest - 1 = nI (rest - 1) from pk_sub (b := 1) (by omega)]
            simp only [q_25_0, ax26 p6, ob_25, u1, Option.bind_some]
          · rw [up2_eq]
            by_cases c1 : j = p
            · subst c1
              rw [upd_eq, c]; rfl
            · rw [upd_ne c1, u3 j hj, gd_set (by omega), if_neg (fun w => c1 w.symm)]
        · rw [if_neg cr, List.foldl_nil]
          have cr0 : rest = 0 := by omega
          subst cr0
          refine ⟨z1, up2 f1 26 (upd (f1 26) p (-1)), ?_, FC_f (by decide) e2, fun j hj => ?_, ⟨e4.1, e4.2.1, fun j hj => by rw [up2_ne (by decide)]; exact e4.2.2 j hj⟩⟩
          · unfold wX1_pairFrom jX1_pairFrom_193
            simp only [g_1_1, hP.2.2.1, Option.bind_some]
            rw [if_pos (nI_lt c0 (by omega))]
            simp only [q_25_0, al26 p6, h26p, if_true, nI_1, e1, Option.bind_some]
            rw [if_pos (show nI 0 ≤ 0 by decide)]
            simp only [q_25_0, ax26 p6, Option.bind_some]
          · rw [up2_eq]
            by_cases c1 : j = p
            · subst c1
              rw [upd_eq, c]; rfl
            · rw [upd_ne c1, e3 j hj c1]
      · have hno : ¬ f 26 p = -1 := by
          rw [h26 p p6]
          exact fun w => c ((tv_m1 _ (by have := hT p; omega)).mp w)
        obtain ⟨z1, f1, e1, e2, e3, e4⟩ := ih (p + 1) rest T ps z f s hP hlen hT h26 hs (by omega) (by omega) (by omega) hrest
        have hl : (lc_ n (k + 1) p rest T ps) = lc_ n k (p + 1) rest T ps := by
          show (if n ≤ p then _ else _) = _
          rw [if_neg (show ¬ n ≤ p by omega), if_neg c]
        rw [hl]
        refine ⟨z1, f1, ?_, e2, e3, e4⟩
        unfold wX1_pairFrom
        simp only [g_1_1, hP.2.2.1, Option.bind_some]
        rw [if_pos (nI_lt c0 (by omega))]
        simp only [q_25_0, al26 p6, hno, if_false, nI_1, ob_25, e1, Option.bind_some]
    · have hl : (lc_ n (k + 1) p rest T ps) = [(T, ps)] := by
        show (if n ≤ p then _ else _) = _
        rw [if_pos (show n ≤ p by omega)]
      rw [hl, List.foldl_cons, List.foldl_nil]
      by_cases cg : cst_ (wP_ K S Tt) ps < s.1
      · have hbc : bC_ (wP_ K S Tt) s (T, ps) = (cst_ (wP_ K S Tt) ps, fun j => tv_ (gd_ T j)) := by unfold bC_; rw [if_pos cg]
        rw [hbc]
        have hcp : cp_ (HH (upd z 802 (nI (cst_ (wP_ K S Tt) ps))) f) 26 0 27 0 6 = some (HH (upd z 802 (nI (cst_ (wP_ K S Tt) ps))) (up2 f 27 (va_cpy (f 26) (f 27) 0 0 6))) := HH_cp (sp := 0) (dp := 0) (m := 6) (n0 := 6) (n1 := 6) rfl rfl (by decide) (by decide) (by decide) (by decide)
        refine ⟨upd z 802 (nI (cst_ (wP_ K S Tt) ps)), up2 f 27 (va_cpy (f 26) (f 27) 0 0 6), ?_, FC_z (by decide) (FC_f (by decide) FC_r), fun j hj => by rw [up2_ne (by decide)]; exact h26 j hj, ⟨upd_eq, by dsimp only; have := hs.2.1; omega, fun j hj => ?_⟩⟩
        · unfold wX1_pairFrom
          simp only [g_1_1, hP.2.2.1, Option.bind_some]
          rw [if_neg (nI_nlt (show n ≤ p by omega) (by omega))]
          simp only [g_25_2, hs.1, Option.bind_some]
          rw [if_neg (nI_ge cg (by have := hs.2.1; omega))]
          simp only [p_25_2, q_25_0, q_25_1, hcp, Option.bind_some]
        · rw [up2_eq, va6 hj]
          exact h26 j hj
      · have hbc : bC_ (wP_ K S Tt) s (T, ps) = s := by unfold bC_; rw [if_neg cg]
        rw [hbc]
        refine ⟨z, f, ?_, FC_r, h26, hs⟩
        unfold wX1_pairFrom
        simp only [g_1_1, hP.2.2.1, Option.bind_some]
        rw [if_neg (nI_nlt (show n ≤ p by omega) (by omega))]
        simp only [g_25_2, hs.1, Option.bind_some]
        rw [if_pos (nI_le (by omega) (by omega))]
