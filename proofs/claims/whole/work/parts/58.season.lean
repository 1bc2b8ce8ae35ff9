/-! the season's own town -/
theorem bz0_ : bz_ 0 = some 0 := rfl
theorem bz1_ : bz_ 1 = some 1 := rfl
section TWN
variable {z : Nat → Int32} {f : Nat → Nat → Int32}
theorem gq18 {p k : Nat} (hp : p < 6) (hk : k < 4) (z : Nat → Int32) (f : Nat → Nat → Int32) : gi_ (HH z f) (18 + p) 2 k = some (z (32 * (18 + p) + k)) := HH_gi (SP_q hp) (by match k, hk with | 0, _ => rfl | 1, _ => rfl | 2, _ => rfl | 3, _ => rfl)
theorem ql18 {p : Nat} (hp : p < 6) (z : Nat → Int32) (f : Nat → Nat → Int32) : ql_ (HH z f) 17 (nI p) = some (18 + p) := HH_ql (g := pe_ 18) (t := 0) (n := 6) rfl (by decide) hp (by decide) (pe_at hp)
theorem ob18 {α : Type} {p : Nat} (hp : p < 6) (z : Nat → Int32) (f : Nat → Nat → Int32) (g : Option α) : ((hg_o (HH z f) (18 + p) 2).bind fun _ => g) = g := by rw [HH_hg (SP_q hp)]; rfl
theorem pp18 {p k : Nat} (hp : p < 6) (hk : k < 4) (z : Nat → Int32) (f : Nat → Nat → Int32) (x : Int32) : pi_ (HH z f) (18 + p) 2 k x = some (HH (upd z (32 * (18 + p) + k) x) f) := HH_pi (SP_q hp) (by match k, hk with | 0, _ => rfl | 1, _ => rfl | 2, _ => rfl | 3, _ => rfl)
theorem pz18 {p : Nat} (hp : p < 6) (z : Nat → Int32) (f : Nat → Nat → Int32) (x : Int32) (hx : x = 0 ∨ x = 1) : pz_ (HH z f) (18 + p) 2 3 x = some (HH (upd z (32 * (18 + p) + 3) x) f) := HH_pz hx (SP_q hp) rfl
theorem al24 {p : Nat} (hp : p < 6) : al_ (HH z f) 24 (nI p) = some (f 24 p) := HH_al (n := 6) rfl hp (by decide)
theorem ax24 {p : Nat} (hp : p < 6) (x : Int32) : ax_ (HH z f) 24 (nI p) x = some (HH z (up2 f 24 (upd (f 24) p x))) := HH_ax (n := 6) rfl hp (by decide)
theorem al48 {p : Nat} (hp : p < 6) : al_ (HH z f) 48 (nI p) = some (f 48 p) := HH_al (n := 6) rfl hp (by decide)
theorem ax48 {p : Nat} (hp : p < 6) (x : Int32) : ax_ (HH z f) 48 (nI p) x = some (HH z (up2 f 48 (upd (f 48) p x))) := HH_ax (n := 6) rfl hp (by decide)
theorem al49 {p : Nat} (hp : p < 6) : al_ (HH z f) 49 (nI p) = some (f 49 p) := HH_al (n := 6) rfl hp (by decide)
theorem ax49 {p : Nat} (hp : p < 6) (x : Int32) : ax_ (HH z f) 49 (nI p) x = some (HH z (up2 f 49 (upd (f 49) p x))) := HH_ax (n := 6) rfl hp (by decide)
theorem S_has {n : Nat} (h : z 513 = nI n) (p : Int32) : fX7_has (HH z f) 16 p = some (bi_ (ip_ n p)) := by
  unfold fX7_has
  by_cases h1 : p < 0
  · simp [h1, ip_, bi_]
  · simp only [h1, if_false, g_16_1, Option.bind_some, h]
    by_cases h2 : nI n ≤ p
    · simp [h1, h2, ip_, bi_]
    · simp [h1, h2, ip_, bi_]
theorem S_two {n : Nat} (h : z 513 = nI n) (p q : Int32) : fX7_hasTwo (HH z f) 16 p q = some (bi_ (t2_ n p q)) := by
  unfold fX7_hasTwo
  simp only [ob_16, S_has h, Option.bind_some]
  cases h1 : ip_ n p
  · simp [bi_, t2_, h1]
  · cases h2 : ip_ n q
    · simp [bi_, t2_, h1, h2]
    · by_cases h3 : p = q
      · simp [bi_, t2_, h1, h2, h3]
      · simp [bi_, t2_, h1, h2, h3]
theorem S_best {p k s : Nat} (hp : p < 6) (hk : k < 3) (h0 : z (32 * (18 + p) + 0) = nI k) (h1 : z (32 * (18 + p) + 1) = nI s) : fX2_best (HH z f) (18 + p) = some (nI (bN_ k s)) := by
  unfold fX2_best
  simp only [gq18 hp (show 0 < 4 by decide), gq18 hp (show 1 < 4 by decide), Option.bind_some, h0, h1]
  refine k_cases (P := fun k => (if nI k = 1 then some (nI s + 1) else if nI k = 2 then some (2 * nI s) else some (nI s)) = some (nI (bN_ k s))) hk ?_ ?_ ?_
  · rfl
  · show some (nI s + 1) = _
    rw [nI_1]; rfl
  · show some (nI 2 * nI s) = _
    rw [pk_mul]; rfl
theorem S_worst {p k s t : Nat} (hp : p < 6) (hk : k < 3) (hs : s < 10) (ht : t < 10) (h0 : z (32 * (18 + p) + 0) = nI k) (h1 : z (32 * (18 + p) + 1) = nI s) (h2 : z (32 * (18 + p) + 2) = nI t) : fX2_worst (HH z f) (18 + p) = some (nI (wN_ k s t)) := by
  have hb := bN_le (k := k) hs
  unfold fX2_worst
  simp only [ob18 hp, S_best hp hk h0 h1, Option.bind_some, gq18 hp (show 2 < 4 by decide), h2]
  rw [mx_sub (by omega) (by omega)]
  rfl
theorem S_both {n G a b : Nat} (hn : n ≤ 6) (hG : ∀ p, p < n → z (32 * (18 + p) + 3) = if G.testBit p then 1 else 0) (ha : a < n) (hb : b < n) : fX7_bothHere (HH z f) 16 (nI a) (nI b) = some (bi_ (!(G.testBit a || G.testBit b))) := by
  unfold fX7_bothHere
  simp only [q_16_0, ql18 (show a < 6 by omega), ql18 (show b < 6 by omega), gq18 (show a < 6 by omega) (show 3 < 4 by decide), gq18 (show b < 6 by omega) (show 3 < 4 by decide), hG a ha, hG b hb, Option.bind_some]
  cases G.testBit a <;> cases G.testBit b <;> simp [bi_]
theorem S_win {a b : Nat} (ha : a < 6) (hb : b < 6) (x y : Int32) : fX7_winnerLeaves (HH z f) 16 (nI a) (nI b) x y = some (if x = y then (-9, HH z f) else (nI (if x ≤ y then b else a), HH (upd z (32 * (18 + (if x ≤ y then b else a)) + 3) 1) f)) := by
  unfold fX7_winnerLeaves jX7_winnerLeaves_20
  by_cases h1 : x = y
  · simp [h1]
  · by_cases h2 : x ≤ y
    · simp only [h1, h2, if_true, if_false, q_16_0, ql18 hb, pz18 hb z f 1 (Or.inr rfl), Option.bind_some]
    · simp only [h1, h2, if_false, q_16_0, ql18 ha, pz18 ha z f 1 (Or.inr rfl), Option.bind_some]
theorem S_gone {n G : Nat} (h33 : z 513 = nI n) (hn : n ≤ 6) (hG : G < 2 ^ n) (hf : ∀ p, p < n → z (32 * (18 + p) + 3) = if G.testBit p then 1 else 0) : fX7_goneSet (HH z f) 16 = some (nI G) :=
  goneSet_gen (pp := 17) (b := 18) (by rw [g_16_1, h33]) (q_16_0 z f) (fun p hp => ql18 (by omega) z f) (fun p hp => by rw [gq18 (by omega) (show 3 < 4 by decide), hf p hp]) hn hG
end TWN
/-! the season as a pure run: feints, who is gone, plays, draws, who went last -/
abbrev st_T : Type := (Nat → Nat) × Nat × (Nat → Nat) × Nat × Int32
def pl2_ (pl : Nat → Nat) (a x : Nat) : Nat → Nat := uN_ (uN_ pl a (pl a + 1)) x (uN_ pl a (pl a + 1) x + 1)
def stp (n : Nat) (K S : Nat → Nat) (s : st_T) (a x : Nat) : Bool × st_T :=
  if 20 ≤ x then (true, (uN_ s.1 a (x - 20), s.2))
  else if x = 10 then (s.2.1.testBit a, (s.1, clr_ s.2.1 a, s.2.2))
  else if x < n ∧ a ≠ x ∧ s.2.1.testBit a = false ∧ s.2.1.testBit x = false then
    (if wF_ K S s.1 a = wF_ K S s.1 x then (true, (s.1, s.2.1, pl2_ s.2.2.1 a x, s.2.2.2.1 + 1, s.2.2.2.2))
     else (true, (s.1, s.2.1 ||| 2 ^ (if wF_ K S s.1 a ≤ wF_ K S s.1 x then x else a), pl2_ s.2.2.1 a x, s.2.2.2.1, nI (if wF_ K S s.1 a ≤ wF_ K S s.1 x then x else a))))
  else (false, s)
def SW_ (n : Nat) (K S : Nat → Nat) (s : st_T) : Prop := (∀ p, p < n → K p < 3 ∧ S p < 10 ∧ s.1 p < 10) ∧ s.2.1 < 2 ^ n
def RS_ (z : Nat → Int32) (f : Nat → Nat → Int32) (n : Nat) (K S : Nat → Nat) (s : st_T) : Prop := z 513 = nI n ∧ (∀ p, p < n → z (32 * (18 + p) + 0) = nI (K p) ∧ z (32 * (18 + p) + 1) = nI (S p) ∧ z (32 * (18 + p) + 2) = nI (s.1 p) ∧ z (32 * (18 + p) + 3) = if s.2.1.testBit p then 1 else 0) ∧ (∀ p, p < n → f 24 p = nI (s.2.2.1 p)) ∧ z 482 = nI s.2.2.2.1 ∧ z 483 = s.2.2.2.2
def RT_ (z : Nat → Int32) (f : Nat → Nat → Int32) (n : Nat) (K S : Nat → Nat) (s : st_T) : Prop := z 1285 = nI n ∧ z 1286 = nI s.2.1 ∧ (∀ p, p < n → f 44 p = nI (K p) ∧ f 45 p = nI (S p) ∧ f 46 p = nI (s.1 p) ∧ f 49 p = nI (s.2.2.1 p)) ∧ z 1296 = nI s.2.2.2.1 ∧ z 1297 = s.2.2.2.2
def ac_ (x : Nat) : Prop := x < 6 ∨ x = 10 ∨ (20 ≤ x ∧ x < 30)
theorem SW_stp {n : Nat} {K S : Nat → Nat} {s : st_T} {a x : Nat} (h : SW_ n K S s) (ha : a < n) (hx : ac_ x) : SW_ n K S (stp n K S s a x).2 := by
  unfold stp
  unfold ac_ at hx
  by_cases c1 : 20 ≤ x
  · rw [if_pos c1]
    refine ⟨fun p hp => ⟨(h.1 p hp).1, (h.1 p hp).2.1, ?_⟩, h.2⟩
    show uN_ s.1 a (x - 20) p < 10
    unfold uN_
    split
    · omega
    · exact (h.1 p hp).2.2
  rw [if_neg c1]
  by_cases c2 : x = 10
  · rw [if_pos c2]
    exact ⟨h.1, Nat.lt_of_le_of_lt (clr_le _ _) h.2⟩
  rw [if_neg c2]
  split
  · rename_i c3
    split
    · exact h
    · refine ⟨h.1, or_lt h.2 ?_⟩
      split
      · exact c3.1
      · exact ha
  · exact h
theorem S_wr {z : Nat → Int32} {f : Nat → Nat → Int32} {n : Nat} {K S : Nat → Nat} {s : st_T} (hn : n ≤ 6) (hw : SW_ n K S s) (h : RS_ z f n K S s) {a : Nat} (ha : a < n) : fX2_worst (HH z f) (18 + a) = some (nI (wF_ K S s.1 a)) := by
  obtain ⟨w1, w2, w3⟩ := hw.1 a ha
  obtain ⟨e0, e1, e2, e3⟩ := h.2.1 a ha
  exact S_worst (by omega) w1 w2 w3 e0 e1 e2
theorem wF_18 {n : Nat} {K S : Nat → Nat} {s : st_T} (hw : SW_ n K S s) {a : Nat} (ha : a < n) : wF_ K S s.1 a ≤ 18 := Nat.le_trans (Nat.sub_le _ _) (bN_le (hw.1 a ha).2.1)
theorem t2_d {n a x : Nat} (hn : n ≤ 6) (ha : a < n) (hx : x < 6) : t2_ n (nI a) (nI x) = decide (x < n ∧ a ≠ x) := by
  by_cases c1 : x < n
  · by_cases c2 : a = x
    · subst c2; simp [t2_]
    · rw [t2_nI hn ha c1 c2]; simp [c1, c2]
  · have h1 : ip_ n (nI x) = false := by simp [ip_, nI_le (show n ≤ x by omega) (show x < 2 ^ 31 by omega)]
    simp [t2_, h1, c1]
theorem RS_fs {z : Nat → Int32} {f : Nat → Nat → Int32} {n : Nat} {K S : Nat → Nat} {s : st_T} {k : Nat} {x : Int32} (hn : n ≤ 6) (hk : k = 484 ∨ k < 480 ∨ 768 ≤ k) (h : RS_ z f n K S s) : RS_ (upd z k x) f n K S s := by
  obtain ⟨h1, h2, h3, h4, h5⟩ := h
  refine ⟨by rw [upd_ne (by omega)]; exact h1, fun p hp => ?_, h3, by rw [upd_ne (by omega)]; exact h4, by rw [upd_ne (by omega)]; exact h5⟩
  rw [upd_ne (by omega), upd_ne (by omega), upd_ne (by omega), upd_ne (by omega)]
  exact h2 p hp
theorem S_step {z : Nat → Int32} {f : Nat → Nat → Int32} {n : Nat} {K S : Nat → Nat} {s : st_T} {a x : Nat} (hn : n ≤ 6) (hw : SW_ n K S s) (h : RS_ z f n K S s) (ha : a < n) (hx : ac_ x) : ∃ z' f', fX4_goesOn (HH z f) 15 (nI a) (nI x) = some (bi_ (stp n K S s a x).1, HH z' f') ∧ FC_ z f z' f' ∧ RS_ z' f' n K S (stp n K S s a x).2 ∧ z' 484 = z 484 := by
  have h0 := h
  obtain ⟨h1, h2, h3, h4, h5⟩ := h
  have a6 : a < 6 := by omega
  unfold ac_ at hx
  unfold fX4_goesOn stp
  simp only [q_15_0, ob_16, S_has h1, ip_nI hn ha, b_t, n10_, if_false, Option.bind_some]
  by_cases c1 : 20 ≤ x
  · rw [if_neg (show ¬ nI x < 20 from nI_nlt (b := 20) c1 (by omega)), if_pos c1]
    refine ⟨upd z (32 * (18 + a) + 2) (nI (x - 20)), f, ?_, FC_z (by omega) FC_r, ?_, by rw [upd_ne (by omega)]⟩
    · simp only [q_16_0, ql18 a6, show nI x - 20 = nI (x - 20) from pk_sub (b := 20) c1, pp18 a6 (show 2 < 4 by decide), Option.bind_some]
      rfl
    · refine ⟨by rw [upd_ne (by omega)]; exact h1, fun p hp => ?_, h3, by rw [upd_ne (by omega)]; exact h4, by rw [upd_ne (by omega)]; exact h5⟩
      obtain ⟨e0, e1, e2, e3⟩ := h2 p hp
      rw [upd_ne (show 32 * (18 + p) + 0 ≠ 32 * (18 + a) + 2 by omega), upd_ne (show 32 * (18 + p) + 1 ≠ 32 * (18 + a) + 2 by omega), upd_ne (show 32 * (18 + p) + 3 ≠ 32 * (18 + a) + 2 by omega)]
      refine ⟨e0, e1, ?_, e3⟩
      show _ = nI (uN_ s.1 a (x - 20) p)
      by_cases hpa : p = a
      · subst hpa; rw [upd_eq]; simp [uN_]
      · rw [upd_ne (by omega), e2]; simp [uN_, hpa]
  rw [if_neg c1]
  by_cases c2 : x = 10
  · subst c2
    rw [if_pos (show nI 10 < 20 by decide), if_pos (show nI 10 = 10 by decide), if_pos rfl]
    have hb : z (32 * (18 + a) + 3) = bi_ (s.2.1.testBit a) := (h2 a ha).2.2.2
    refine ⟨upd z (32 * (18 + a) + 3) 0, f, ?_, FC_z (by omega) FC_r, ?_, by rw [upd_ne (by omega)]⟩
    · unfold fX4_comesBack
      simp only [q_16_0, ql18 a6, gq18 a6 (show 3 < 4 by decide), pz18 a6 z f 0 (Or.inl rfl), hb, bz_bi, Option.bind_some]
    · refine ⟨by rw [upd_ne (by omega)]; exact h1, fun p hp => ?_, h3, by rw [upd_ne (by omega)]; exact h4, by rw [upd_ne (by omega)]; exact h5⟩
      obtain ⟨e0, e1, e2, e3⟩ := h2 p hp
      rw [upd_ne (show 32 * (18 + p) + 0 ≠ 32 * (18 + a) + 3 by omega), upd_ne (show 32 * (18 + p) + 1 ≠ 32 * (18 + a) + 3 by omega), upd_ne (show 32 * (18 + p) + 2 ≠ 32 * (18 + a) + 3 by omega)]
      refine ⟨e0, e1, e2, ?_⟩
      show _ = if (clr_ s.2.1 a).testBit p then 1 else 0
      rw [clr_bit s.2.1 (Nat.lt_of_lt_of_le hw.2 (pw6 hn)) a a6 p (by omega)]
      by_cases hpa : p = a
      · subst hpa; rw [upd_eq]; simp
      · rw [upd_ne (by omega), e3]; simp [hpa]
  have x6 : x < 6 := by omega
  rw [if_pos (show nI x < 20 from nI_lt (b := 20) (by omega) (by decide)), if_neg (show ¬ nI x = 10 from fun e => c2 ((nI_eq (b := 10) (by omega) (by decide)).mp e)), if_neg c2]
  unfold fX4_playShy
  simp only [ob_15, ob_16, q_15_0, q_15_1, S_two h1, t2_d hn ha x6, Option.bind_some]
  by_cases c3 : x < n ∧ a ≠ x
  · have hbh := S_both (f := f) hn (fun p hp => (h2 p hp).2.2.2) ha c3.1
    rw [decide_eq_true c3]
    simp only [b_t, n10_, if_false, hbh, Option.bind_some]
    by_cases c4 : s.2.1.testBit a = false ∧ s.2.1.testBit x = false
    · rw [if_pos (show x < n ∧ a ≠ x ∧ s.2.1.testBit a = false ∧ s.2.1.testBit x = false from ⟨c3.1, c3.2, c4.1, c4.2⟩)]
      simp only [c4.1, c4.2, Bool.or_self, Bool.not_false, b_t, n10_, if_false]
      have wz : ∀ (g : Nat → Nat → Int32) (b : Nat), b < n → fX2_worst (HH z g) (18 + b) = some (nI (wF_ K S s.1 b)) := fun g b hb => by
        obtain ⟨w1, w2, w3⟩ := hw.1 b hb
        obtain ⟨e0, e1, e2, e3⟩ := h2 b hb
        exact S_worst (by omega) w1 w2 w3 e0 e1 e2
      have wa := wF_18 hw ha
      have wx := wF_18 hw c3.1
      have hpl : ∀ p, p < n → upd (upd (f 24) a (f 24 a + 1)) x (upd (f 24) a (f 24 a + 1) x + 1) p = nI (pl2_ s.2.2.1 a x p) := by
        intro p hp
        unfold pl2_ uN_
        by_cases d1 : p = x
        · subst d1
          rw [upd_eq, if_pos rfl, upd_ne (Ne.symm c3.2), if_neg (Ne.symm c3.2), h3 p hp, nI_1]
        · rw [upd_ne d1, if_neg d1]
          by_cases d2 : p = a
          · subst d2; rw [upd_eq, if_pos rfl, h3 p hp, nI_1]
          · rw [upd_ne d2, if_neg d2, h3 p hp]
      by_cases c5 : wF_ K S s.1 a = wF_ K S s.1 x
      · rw [if_pos c5]
        have hwin : ∀ g, fX7_winnerLeaves (HH z g) 16 (nI a) (nI x) (nI (wF_ K S s.1 a)) (nI (wF_ K S s.1 x)) = some (-9, HH z g) := fun g => by rw [S_win a6 x6, if_pos (by rw [c5])]
        refine ⟨upd z 482 (nI (s.2.2.2.1 + 1)), up2 f 24 (upd (upd (f 24) a (f 24 a + 1)) x (upd (f 24) a (f 24 a + 1) x + 1)), ?_, FC_z (by omega) (FC_f (by omega) FC_r), ?_, by rw [upd_ne (by omega)]⟩
        · simp only [ob_15, ob_16, al24 a6, ax24 a6, al24 x6, ax24 x6, up2_eq, up2_up2, q_15_0, q_15_1, q_16_0, ql18 a6, ql18 x6, ob18 a6, ob18 x6, wz _ a ha, wz _ x c3.1, hwin, if_true, g_15_2, p_15_2, h4, nI_1, bz1_, b_t, Option.bind_some]
        refine ⟨by rw [upd_ne (by omega)]; exact h1, fun p hp => ?_, fun p hp => ?_, upd_eq, by rw [upd_ne (by omega)]; exact h5⟩
        · rw [upd_ne (by omega), upd_ne (by omega), upd_ne (by omega), upd_ne (by omega)]
          exact h2 p hp
        · rw [up2_eq]; exact hpl p hp
      · rw [if_neg c5]
        have hle : (if nI (wF_ K S s.1 a) ≤ nI (wF_ K S s.1 x) then x else a) = (if wF_ K S s.1 a ≤ wF_ K S s.1 x then x else a) := by
          by_cases d : wF_ K S s.1 a ≤ wF_ K S s.1 x
          · rw [if_pos d, if_pos (nI_le d (by omega))]
          · rw [if_neg d, if_neg (nI_ge (by omega) (by omega))]
        obtain ⟨ww, hww, hwn⟩ : ∃ ww, ww = (if wF_ K S s.1 a ≤ wF_ K S s.1 x then x else a) ∧ ww < n := ⟨_, rfl, by split <;> omega⟩
        rw [← hww]
        have hwin : ∀ g, fX7_winnerLeaves (HH z g) 16 (nI a) (nI x) (nI (wF_ K S s.1 a)) (nI (wF_ K S s.1 x)) = some (nI ww, HH (upd z (32 * (18 + ww) + 3) 1) g) := fun g => by rw [S_win a6 x6, if_neg (fun e => c5 ((nI_eq (by omega) (by omega)).mp e)), hle, ← hww]
        have w9 : ¬ nI ww = -9 := by
          intro e
          have := congrArg Int32.toInt e
          rw [nI_toInt (by omega)] at this
          have e9 : (-9 : Int32).toInt = -9 := by decide
          omega
        refine ⟨upd (upd z (32 * (18 + ww) + 3) 1) 483 (nI ww), up2 f 24 (upd (upd (f 24) a (f 24 a + 1)) x (upd (f 24) a (f 24 a + 1) x + 1)), ?_, FC_z (by omega) (FC_z (by omega) (FC_f (by omega) FC_r)), ?_, by rw [upd_ne (by omega), upd_ne (by omega)]⟩
        · simp only [ob_15, ob_16, al24 a6, ax24 a6, al24 x6, ax24 x6, up2_eq, up2_up2, q_15_0, q_15_1, q_16_0, ql18 a6, ql18 x6, ob18 a6, ob18 x6, wz _ a ha, wz _ x c3.1, hwin, w9, if_false, p_15_3, bz1_, b_t, Option.bind_some]
        refine ⟨by rw [upd_ne (by omega), upd_ne (by omega)]; exact h1, fun p hp => ?_, fun p hp => ?_, by rw [upd_ne (by omega), upd_ne (by omega)]; exact h4, upd_eq⟩
        · obtain ⟨e0, e1, e2, e3⟩ := h2 p hp
          rw [upd_ne (show 32 * (18 + p) + 0 ≠ 483 by omega), upd_ne (show 32 * (18 + p) + 1 ≠ 483 by omega), upd_ne (show 32 * (18 + p) + 2 ≠ 483 by omega), upd_ne (show 32 * (18 + p) + 3 ≠ 483 by omega), upd_ne (show 32 * (18 + p) + 0 ≠ 32 * (18 + ww) + 3 by omega), upd_ne (show 32 * (18 + p) + 1 ≠ 32 * (18 + ww) + 3 by omega), upd_ne (show 32 * (18 + p) + 2 ≠ 32 * (18 + ww) + 3 by omega)]
          refine ⟨e0, e1, e2, ?_⟩
          show _ = if (s.2.1 ||| 2 ^ ww).testBit p then 1 else 0
          rw [or_bit]
          by_cases hpa : p = ww
          · subst hpa; rw [upd_eq]; simp
          · rw [upd_ne (by omega), e3]; simp [show ¬ ww = p from fun e => hpa e.symm]
        · rw [up2_eq]; exact hpl p hp
    · rw [if_neg (show ¬ (x < n ∧ a ≠ x ∧ s.2.1.testBit a = false ∧ s.2.1.testBit x = false) from fun e => c4 ⟨e.2.2.1, e.2.2.2⟩)]
      have hor : (!(s.2.1.testBit a || s.2.1.testBit x)) = false := by
        cases d1 : s.2.1.testBit a
        · cases d2 : s.2.1.testBit x
          · exact absurd ⟨d1, d2⟩ c4
          · rfl
        · rfl
      rw [hor]
      simp only [b_f, if_true, bz0_, Option.bind_some]
      exact ⟨z, f, by simp only [b_f], FC_r, h0, rfl⟩
  · rw [decide_eq_false c3, if_neg (show ¬ (x < n ∧ a ≠ x ∧ s.2.1.testBit a = false ∧ s.2.1.testBit x = false) from fun e => c3 ⟨e.1, e.2.1⟩)]
    simp only [b_f, if_true, bz0_, Option.bind_some]
    exact ⟨z, f, by simp only [b_f], FC_r, h0, rfl⟩
