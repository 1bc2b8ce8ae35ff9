abbrev sp_T : Type := (Nat × List (Option Nat)) ⊕ (Nat ⊕ (Nat × Nat × (Nat → Option Nat)))
def pe_ (b : Nat) : Nat → Option Nat := va_up (va_up (va_up (va_up (va_up (va_up (fun _ => none) 0 (some b)) 1 (some (b + 1))) 2 (some (b + 2))) 3 (some (b + 3))) 4 (some (b + 4))) 5 (some (b + 5))
def se_ : Nat → Option Nat := va_up (va_up (va_up (va_up (fun _ => none) 0 (some 32)) 1 (some 34)) 2 (some 36)) 3 (some 38)
def SP_ : List sp_T := [.inl (7, [some 1, some 9, some 10, some 15, some 25, some 28, none, none, none]),
  .inl (6, [some 2, none]),
  .inr (.inr (0, 6, pe_ 3)),
  .inl (2, [none, none, none, none]),
  .inl (2, [none, none, none, none]),
  .inl (2, [none, none, none, none]),
  .inl (2, [none, none, none, none]),
  .inl (2, [none, none, none, none]),
  .inl (2, [none, none, none, none]),
  .inr (.inr (1, 4, se_)),
  .inl (0, [some 11, some 12, some 13, some 14, none]),
  .inr (.inl 8),
  .inr (.inl 8),
  .inr (.inl 8),
  .inr (.inl 8),
  .inl (4, [some 16, some 24, none, none, none]),
  .inl (6, [some 17, none]),
  .inr (.inr (0, 6, pe_ 18)),
  .inl (2, [none, none, none, none]),
  .inl (2, [none, none, none, none]),
  .inl (2, [none, none, none, none]),
  .inl (2, [none, none, none, none]),
  .inl (2, [none, none, none, none]),
  .inl (2, [none, none, none, none]),
  .inr (.inl 6),
  .inl (1, [some 26, some 27, none]),
  .inr (.inl 6),
  .inr (.inl 6),
  .inl (3, [some 29, some 30, some 31, none]),
  .inr (.inl 6),
  .inr (.inl 64),
  .inr (.inl 6),
  .inl (5, [some 33, none, none, none]),
  .inr (.inl 60),
  .inl (5, [some 35, none, none, none]),
  .inr (.inl 60),
  .inl (5, [some 37, none, none, none]),
  .inr (.inl 60),
  .inl (5, [some 39, none, none, none]),
  .inr (.inl 60),
  .inl (8, [none, none, some 41, some 42, some 43, none, none, none, some 44, some 45, some 46, none, none, some 47, some 48, some 49, none, none, some 50, some 51, none, none, some 52, some 53, none, some 54, some 55, some 56, some 57]),
  .inr (.inl 4),
  .inr (.inl 4),
  .inr (.inl 240),
  .inr (.inl 6),
  .inr (.inl 6),
  .inr (.inl 6),
  .inr (.inl 18),
  .inr (.inl 6),
  .inr (.inl 6),
  .inr (.inl 6),
  .inr (.inl 6),
  .inr (.inl 6),
  .inr (.inl 6),
  .inr (.inl 8),
  .inr (.inl 8),
  .inr (.inl 8),
  .inr (.inl 8)]
def rl_ (z : Nat → Int32) (f : Nat → Nat → Int32) (i : Nat) : sp_T → hp_C
  | .inl o => .inl (o.1, o.2.mapIdx (fun k q => match q with
    | none => .int (z (32 * i + k))
    | some r => .ref r))
  | .inr (.inl n) => .inr (.inl (n, f i))
  | .inr (.inr q) => .inr (.inr q)
/-- THE MEMORY: scalars z, rows f -/
def HH (z : Nat → Int32) (f : Nat → Nat → Int32) : hp_H := SP_.mapIdx (fun i s => rl_ z f i s)
theorem HH_get (z : Nat → Int32) (f : Nat → Nat → Int32) (i : Nat) : (HH z f)[i]? = (SP_[i]?).map (rl_ z f i) := by simp [HH, List.getElem?_mapIdx]
theorem HH_hg {z : Nat → Int32} {f : Nat → Nat → Int32} {i ci : Nat} {os : List (Option Nat)} (h : SP_[i]? = some (.inl (ci, os))) : hg_o (HH z f) i ci = some (os.mapIdx (fun k q => match q with
    | none => Value.int (z (32 * i + k))
    | some r => Value.ref r)) := by
  simp [hg_o, HH_get, h, rl_]
theorem HH_gi {z : Nat → Int32} {f : Nat → Nat → Int32} {i ci k : Nat} {os : List (Option Nat)} (h : SP_[i]? = some (.inl (ci, os))) (hk : os[k]? = some none) : gi_ (HH z f) i ci k = some (z (32 * i + k)) := by
  simp [gi_, HH_hg h, List.getElem?_mapIdx, hk]
theorem HH_gq {z : Nat → Int32} {f : Nat → Nat → Int32} {i ci k r : Nat} {os : List (Option Nat)} (h : SP_[i]? = some (.inl (ci, os))) (hk : os[k]? = some (some r)) : gq_ (HH z f) i ci k = some r := by
  simp [gq_, HH_hg h, List.getElem?_mapIdx, hk]
theorem SP_len : ∀ s ∈ SP_, (match s with
    | .inl o => o.2.length ≤ 32
    | _ => True) := by
  intro s hs
  simp only [SP_, List.mem_cons, List.not_mem_nil, or_false] at hs
  rcases hs with rfl | rfl | rfl | rfl | rfl | rfl | rfl | rfl | rfl | rfl | rfl | rfl | rfl | rfl | rfl | rfl | rfl | rfl | rfl | rfl | rfl | rfl | rfl | rfl | rfl | rfl | rfl | rfl | rfl | rfl | rfl | rfl | rfl | rfl | rfl | rfl | rfl | rfl | rfl | rfl | rfl | rfl | rfl | rfl | rfl | rfl | rfl | rfl | rfl | rfl | rfl | rfl | rfl | rfl | rfl | rfl | rfl | rfl <;> simp
theorem HG_pv (SP : List sp_T) (hSP : ∀ (o : Nat × List (Option Nat)), Sum.inl o ∈ SP → o.2.length ≤ 32) {z : Nat → Int32} {f : Nat → Nat → Int32} {i ci k : Nat} {os : List (Option Nat)} {x : Int32} (h : SP[i]? = some (.inl (ci, os))) (hk : os[k]? = some none) : (SP.mapIdx (fun j s => rl_ z f j s)).set i (.inl (ci, (os.mapIdx (fun k q => match q with
    | none => Value.int (z (32 * i + k))
    | some r => Value.ref r)).set k (.int x))) = SP.mapIdx (fun j s => rl_ (upd z (32 * i + k) x) f j s) := by
  have hkl : k < os.length := (List.getElem?_eq_some_iff.mp hk).1
  have hol : os.length ≤ 32 := hSP _ (List.mem_of_getElem? h)
  have hil := (List.getElem?_eq_some_iff.mp h).1
  apply List.ext_getElem?
  intro j
  rw [List.getElem?_set, List.getElem?_mapIdx, List.getElem?_mapIdx]
  have hlen : (SP.mapIdx (fun j s => rl_ z f j s)).length = SP.length := by simp
  by_cases hj : i = j
  · subst hj
    rw [if_pos rfl, if_pos (by rw [hlen]; exact hil), h]
    simp only [Option.map_some, rl_]
    congr 3
    apply List.ext_getElem?
    intro q
    rw [List.getElem?_set, List.getElem?_mapIdx, List.getElem?_mapIdx]
    by_cases hq : k = q
    · subst hq
      rw [if_pos rfl, if_pos (by simpa using hkl), hk]
      simp [upd]
    · rw [if_neg hq]
      cases ho : os[q]? with
      | none => rfl
      | some o =>
        cases o with
        | none => simp [upd, show ¬ q = k from fun e => hq e.symm]
        | some r => rfl
  · rw [if_neg hj]
    cases hs : SP[j]? with
    | none => rfl
    | some s =>
      cases s with
      | inl o =>
        have hl2 : o.2.length ≤ 32 := hSP _ (List.mem_of_getElem? hs)
        simp only [Option.map_some, rl_]
        congr 3
        apply List.ext_getElem?
        intro q
        rw [List.getElem?_mapIdx, List.getElem?_mapIdx]
        cases ho : o.2[q]? with
        | none => rfl
        | some v =>
          have hq : q < o.2.length := (List.getElem?_eq_some_iff.mp ho).1
          cases v with
          | none => simp [upd, show ¬ 32 * j + q = 32 * i + k by omega]
          | some r => rfl
      | inr s2 =>
        cases s2 with
        | inl n => rfl
        | inr q => rfl
theorem HH_pv {z : Nat → Int32} {f : Nat → Nat → Int32} {i ci k : Nat} {os : List (Option Nat)} {x : Int32} (h : SP_[i]? = some (.inl (ci, os))) (hk : os[k]? = some none) : pv_ (HH z f) i ci k (.int x) = some (HH (upd z (32 * i + k) x) f) := by
  have hkl : k < os.length := (List.getElem?_eq_some_iff.mp hk).1
  simp only [pv_, HH_hg h, List.length_mapIdx, hkl, if_true]
  exact congrArg some (HG_pv SP_ (fun o ho => SP_len _ ho) h hk)
theorem HH_pi {z : Nat → Int32} {f : Nat → Nat → Int32} {i ci k : Nat} {os : List (Option Nat)} {x : Int32} (h : SP_[i]? = some (.inl (ci, os))) (hk : os[k]? = some none) : pi_ (HH z f) i ci k x = some (HH (upd z (32 * i + k) x) f) := HH_pv h hk
theorem HH_pz {z : Nat → Int32} {f : Nat → Nat → Int32} {i ci k : Nat} {os : List (Option Nat)} {x : Int32} (hx : x = 0 ∨ x = 1) (h : SP_[i]? = some (.inl (ci, os))) (hk : os[k]? = some none) : pz_ (HH z f) i ci k x = some (HH (upd z (32 * i + k) x) f) := by
  rw [pz_, if_pos hx]; exact HH_pv h hk
theorem HH_al {z : Nat → Int32} {f : Nat → Nat → Int32} {i n q : Nat} (h : SP_[i]? = some (.inr (.inl n))) (hq : q < n) (hn : n < 2 ^ 31) : al_ (HH z f) i (nI q) = some (f i q) := by
  have h1 := vp_in_nI hq hn
  simp only [al_, HH_get, h, Option.map_some, rl_]
  rw [if_neg h1, nI_clamp (by omega)]
def up2 (f : Nat → Nat → Int32) (i : Nat) (g : Nat → Int32) : Nat → Nat → Int32 := fun j => if j = i then g else f j
theorem HH_set (z : Nat → Int32) (f : Nat → Nat → Int32) {i n : Nat} (h : SP_[i]? = some (.inr (.inl n))) (g : Nat → Int32) : (HH z f).set i (.inr (.inl (n, g))) = HH z (up2 f i g) := by
  have hil := (List.getElem?_eq_some_iff.mp h).1
  apply List.ext_getElem?
  intro j
  rw [HH_get, List.getElem?_set]
  have hlen : (HH z f).length = SP_.length := by simp [HH]
  by_cases hj : i = j
  · subst hj
    rw [if_pos rfl, if_pos (by rw [hlen]; exact hil), h]
    simp [rl_, up2]
  · rw [if_neg hj, HH_get]
    cases hs : SP_[j]? with
    | none => rfl
    | some s =>
      cases s with
      | inl o => rfl
      | inr s2 =>
        cases s2 with
        | inl n => simp [rl_, up2, Ne.symm hj]
        | inr q => rfl
theorem HH_ax {z : Nat → Int32} {f : Nat → Nat → Int32} {i n q : Nat} {x : Int32} (h : SP_[i]? = some (.inr (.inl n))) (hq : q < n) (hn : n < 2 ^ 31) : ax_ (HH z f) i (nI q) x = some (HH z (up2 f i (upd (f i) q x))) := by
  have h1 := vp_in_nI hq hn
  simp only [ax_, HH_get, h, Option.map_some, rl_]
  rw [if_neg h1, nI_clamp (by omega), HH_set z f h]
theorem HH_ln {z : Nat → Int32} {f : Nat → Nat → Int32} {i n : Nat} (h : SP_[i]? = some (.inr (.inl n))) : ln_ (HH z f) i = some (Int32.ofNat n) := by
  simp only [ln_, HH_get, h, Option.map_some, rl_]
theorem HH_ql {z : Nat → Int32} {f : Nat → Nat → Int32} {i t n q r : Nat} {g : Nat → Option Nat} (h : SP_[i]? = some (.inr (.inr (t, n, g)))) (ht : t < 2) (hq : q < n) (hn : n < 2 ^ 31) (hr : g q = some r) : ql_ (HH z f) i (nI q) = some r := by
  have h1 := vp_in_nI hq hn
  simp only [ql_, HH_get, h, Option.map_some, rl_]
  rw [if_pos ht, if_neg h1, nI_clamp (by omega), hr]
theorem pe_at {b p : Nat} (h : p < 6) : pe_ b p = some (b + p) := by
  match p, h with
  | 0, _ => rfl
  | 1, _ => rfl
  | 2, _ => rfl
  | 3, _ => rfl
  | 4, _ => rfl
  | 5, _ => rfl
theorem se_at {k : Nat} (h : k < 4) : se_ k = some (32 + 2 * k) := by
  match k, h with
  | 0, _ => rfl
  | 1, _ => rfl
  | 2, _ => rfl
  | 3, _ => rfl
theorem SP_p {p : Nat} (h : p < 6) : SP_[3 + p]? = some (.inl (2, [none, none, none, none])) := by
  match p, h with
  | 0, _ => rfl
  | 1, _ => rfl
  | 2, _ => rfl
  | 3, _ => rfl
  | 4, _ => rfl
  | 5, _ => rfl
theorem SP_q {p : Nat} (h : p < 6) : SP_[18 + p]? = some (.inl (2, [none, none, none, none])) := by
  match p, h with
  | 0, _ => rfl
  | 1, _ => rfl
  | 2, _ => rfl
  | 3, _ => rfl
  | 4, _ => rfl
  | 5, _ => rfl
theorem SP_s {k : Nat} (h : k < 4) : SP_[32 + 2 * k]? = some (.inl (5, [some (33 + 2 * k), none, none, none])) := by
  match k, h with
  | 0, _ => rfl
  | 1, _ => rfl
  | 2, _ => rfl
  | 3, _ => rfl
theorem SP_c {k : Nat} (h : k < 4) : SP_[33 + 2 * k]? = some (.inr (.inl 60)) := by
  match k, h with
  | 0, _ => rfl
  | 1, _ => rfl
  | 2, _ => rfl
  | 3, _ => rfl
/-- a loop whose states are known -/
theorem it_run {S X : Type} {b : S → Option (S ⊕ X)} (st : Nat → S) (n : Nat) {x : X} (h1 : ∀ i, i < n → b (st i) = some (.inl (st (i + 1)))) (h2 : b (st n) = some (.inr x)) (m : Nat) (hm : n < m) : it_ b m (st 0) = some x := by
  have key : ∀ k, k ≤ n → ∀ m, k < m → it_ b m (st (n - k)) = some x := by
    intro k
    induction k with
    | zero =>
      intro _ m hm
      obtain ⟨m, rfl⟩ : ∃ q, m = q + 1 := ⟨m - 1, by omega⟩
      simp [it_, h2]
    | succ k ih =>
      intro hk m hm
      obtain ⟨m, rfl⟩ : ∃ q, m = q + 1 := ⟨m - 1, by omega⟩
      have e := h1 (n - (k + 1)) (by omega)
      rw [show n - (k + 1) + 1 = n - k by omega] at e
      simp only [it_, e, Option.bind_some]
      exact ih (by omega) m (by omega)
  have := key n (Nat.le_refl n) m hm
  rwa [Nat.sub_self] at this
theorem fu_gt {n : Nat} (h : n < 5000) : n < fu_ := h
theorem q_0_0 (z : Nat → Int32) (f : Nat → Nat → Int32) : gq_ (HH z f) 0 7 0 = some 1 := HH_gq (r := 1) rfl rfl
theorem q_0_1 (z : Nat → Int32) (f : Nat → Nat → Int32) : gq_ (HH z f) 0 7 1 = some 9 := HH_gq (r := 9) rfl rfl
theorem q_0_2 (z : Nat → Int32) (f : Nat → Nat → Int32) : gq_ (HH z f) 0 7 2 = some 10 := HH_gq (r := 10) rfl rfl
theorem q_0_3 (z : Nat → Int32) (f : Nat → Nat → Int32) : gq_ (HH z f) 0 7 3 = some 15 := HH_gq (r := 15) rfl rfl
theorem q_0_4 (z : Nat → Int32) (f : Nat → Nat → Int32) : gq_ (HH z f) 0 7 4 = some 25 := HH_gq (r := 25) rfl rfl
theorem q_0_5 (z : Nat → Int32) (f : Nat → Nat → Int32) : gq_ (HH z f) 0 7 5 = some 28 := HH_gq (r := 28) rfl rfl
theorem g_0_6 (z : Nat → Int32) (f : Nat → Nat → Int32) : gi_ (HH z f) 0 7 6 = some (z 6) := HH_gi rfl rfl
theorem p_0_6 (z : Nat → Int32) (f : Nat → Nat → Int32) (x : Int32) : pi_ (HH z f) 0 7 6 x = some (HH (upd z 6 x) f) := HH_pi rfl rfl
theorem g_0_7 (z : Nat → Int32) (f : Nat → Nat → Int32) : gi_ (HH z f) 0 7 7 = some (z 7) := HH_gi rfl rfl
theorem p_0_7 (z : Nat → Int32) (f : Nat → Nat → Int32) (x : Int32) : pi_ (HH z f) 0 7 7 x = some (HH (upd z 7 x) f) := HH_pi rfl rfl
theorem g_0_8 (z : Nat → Int32) (f : Nat → Nat → Int32) : gi_ (HH z f) 0 7 8 = some (z 8) := HH_gi rfl rfl
theorem p_0_8 (z : Nat → Int32) (f : Nat → Nat → Int32) (x : Int32) : pi_ (HH z f) 0 7 8 x = some (HH (upd z 8 x) f) := HH_pi rfl rfl
theorem o_0 (z : Nat → Int32) (f : Nat → Nat → Int32) : ∃ v, hg_o (HH z f) 0 7 = some v := ⟨_, HH_hg rfl⟩
theorem ob_0 {α : Type} (z : Nat → Int32) (f : Nat → Nat → Int32) (g : Option α) : ((hg_o (HH z f) 0 7).bind fun _ => g) = g := by obtain ⟨v, e⟩ := o_0 z f; rw [e]; rfl
theorem q_1_0 (z : Nat → Int32) (f : Nat → Nat → Int32) : gq_ (HH z f) 1 6 0 = some 2 := HH_gq (r := 2) rfl rfl
theorem g_1_1 (z : Nat → Int32) (f : Nat → Nat → Int32) : gi_ (HH z f) 1 6 1 = some (z 33) := HH_gi rfl rfl
theorem p_1_1 (z : Nat → Int32) (f : Nat → Nat → Int32) (x : Int32) : pi_ (HH z f) 1 6 1 x = some (HH (upd z 33 x) f) := HH_pi rfl rfl
theorem o_1 (z : Nat → Int32) (f : Nat → Nat → Int32) : ∃ v, hg_o (HH z f) 1 6 = some v := ⟨_, HH_hg rfl⟩
theorem ob_1 {α : Type} (z : Nat → Int32) (f : Nat → Nat → Int32) (g : Option α) : ((hg_o (HH z f) 1 6).bind fun _ => g) = g := by obtain ⟨v, e⟩ := o_1 z f; rw [e]; rfl
theorem q_10_0 (z : Nat → Int32) (f : Nat → Nat → Int32) : gq_ (HH z f) 10 0 0 = some 11 := HH_gq (r := 11) rfl rfl
theorem q_10_1 (z : Nat → Int32) (f : Nat → Nat → Int32) : gq_ (HH z f) 10 0 1 = some 12 := HH_gq (r := 12) rfl rfl
theorem q_10_2 (z : Nat → Int32) (f : Nat → Nat → Int32) : gq_ (HH z f) 10 0 2 = some 13 := HH_gq (r := 13) rfl rfl
theorem q_10_3 (z : Nat → Int32) (f : Nat → Nat → Int32) : gq_ (HH z f) 10 0 3 = some 14 := HH_gq (r := 14) rfl rfl
theorem g_10_4 (z : Nat → Int32) (f : Nat → Nat → Int32) : gi_ (HH z f) 10 0 4 = some (z 324) := HH_gi rfl rfl
theorem p_10_4 (z : Nat → Int32) (f : Nat → Nat → Int32) (x : Int32) : pi_ (HH z f) 10 0 4 x = some (HH (upd z 324 x) f) := HH_pi rfl rfl
theorem o_10 (z : Nat → Int32) (f : Nat → Nat → Int32) : ∃ v, hg_o (HH z f) 10 0 = some v := ⟨_, HH_hg rfl⟩
theorem ob_10 {α : Type} (z : Nat → Int32) (f : Nat → Nat → Int32) (g : Option α) : ((hg_o (HH z f) 10 0).bind fun _ => g) = g := by obtain ⟨v, e⟩ := o_10 z f; rw [e]; rfl
theorem q_15_0 (z : Nat → Int32) (f : Nat → Nat → Int32) : gq_ (HH z f) 15 4 0 = some 16 := HH_gq (r := 16) rfl rfl
theorem q_15_1 (z : Nat → Int32) (f : Nat → Nat → Int32) : gq_ (HH z f) 15 4 1 = some 24 := HH_gq (r := 24) rfl rfl
theorem g_15_2 (z : Nat → Int32) (f : Nat → Nat → Int32) : gi_ (HH z f) 15 4 2 = some (z 482) := HH_gi rfl rfl
theorem p_15_2 (z : Nat → Int32) (f : Nat → Nat → Int32) (x : Int32) : pi_ (HH z f) 15 4 2 x = some (HH (upd z 482 x) f) := HH_pi rfl rfl
theorem g_15_3 (z : Nat → Int32) (f : Nat → Nat → Int32) : gi_ (HH z f) 15 4 3 = some (z 483) := HH_gi rfl rfl
theorem p_15_3 (z : Nat → Int32) (f : Nat → Nat → Int32) (x : Int32) : pi_ (HH z f) 15 4 3 x = some (HH (upd z 483 x) f) := HH_pi rfl rfl
theorem g_15_4 (z : Nat → Int32) (f : Nat → Nat → Int32) : gi_ (HH z f) 15 4 4 = some (z 484) := HH_gi rfl rfl
theorem p_15_4 (z : Nat → Int32) (f : Nat → Nat → Int32) (x : Int32) : pi_ (HH z f) 15 4 4 x = some (HH (upd z 484 x) f) := HH_pi rfl rfl
theorem o_15 (z : Nat → Int32) (f : Nat → Nat → Int32) : ∃ v, hg_o (HH z f) 15 4 = some v := ⟨_, HH_hg rfl⟩
theorem ob_15 {α : Type} (z : Nat → Int32) (f : Nat → Nat → Int32) (g : Option α) : ((hg_o (HH z f) 15 4).bind fun _ => g) = g := by obtain ⟨v, e⟩ := o_15 z f; rw [e]; rfl
theorem q_16_0 (z : Nat → Int32) (f : Nat → Nat → Int32) : gq_ (HH z f) 16 6 0 = some 17 := HH_gq (r := 17) rfl rfl
theorem g_16_1 (z : Nat → Int32) (f : Nat → Nat → Int32) : gi_ (HH z f) 16 6 1 = some (z 513) := HH_gi rfl rfl
theorem p_16_1 (z : Nat → Int32) (f : Nat → Nat → Int32) (x : Int32) : pi_ (HH z f) 16 6 1 x = some (HH (upd z 513 x) f) := HH_pi rfl rfl
theorem o_16 (z : Nat → Int32) (f : Nat → Nat → Int32) : ∃ v, hg_o (HH z f) 16 6 = some v := ⟨_, HH_hg rfl⟩
theorem ob_16 {α : Type} (z : Nat → Int32) (f : Nat → Nat → Int32) (g : Option α) : ((hg_o (HH z f) 16 6).bind fun _ => g) = g := by obtain ⟨v, e⟩ := o_16 z f; rw [e]; rfl
theorem q_25_0 (z : Nat → Int32) (f : Nat → Nat → Int32) : gq_ (HH z f) 25 1 0 = some 26 := HH_gq (r := 26) rfl rfl
theorem q_25_1 (z : Nat → Int32) (f : Nat → Nat → Int32) : gq_ (HH z f) 25 1 1 = some 27 := HH_gq (r := 27) rfl rfl
theorem g_25_2 (z : Nat → Int32) (f : Nat → Nat → Int32) : gi_ (HH z f) 25 1 2 = some (z 802) := HH_gi rfl rfl
theorem p_25_2 (z : Nat → Int32) (f : Nat → Nat → Int32) (x : Int32) : pi_ (HH z f) 25 1 2 x = some (HH (upd z 802 x) f) := HH_pi rfl rfl
theorem o_25 (z : Nat → Int32) (f : Nat → Nat → Int32) : ∃ v, hg_o (HH z f) 25 1 = some v := ⟨_, HH_hg rfl⟩
theorem ob_25 {α : Type} (z : Nat → Int32) (f : Nat → Nat → Int32) (g : Option α) : ((hg_o (HH z f) 25 1).bind fun _ => g) = g := by obtain ⟨v, e⟩ := o_25 z f; rw [e]; rfl
theorem q_28_0 (z : Nat → Int32) (f : Nat → Nat → Int32) : gq_ (HH z f) 28 3 0 = some 29 := HH_gq (r := 29) rfl rfl
theorem q_28_1 (z : Nat → Int32) (f : Nat → Nat → Int32) : gq_ (HH z f) 28 3 1 = some 30 := HH_gq (r := 30) rfl rfl
theorem q_28_2 (z : Nat → Int32) (f : Nat → Nat → Int32) : gq_ (HH z f) 28 3 2 = some 31 := HH_gq (r := 31) rfl rfl
theorem g_28_3 (z : Nat → Int32) (f : Nat → Nat → Int32) : gi_ (HH z f) 28 3 3 = some (z 899) := HH_gi rfl rfl
theorem p_28_3 (z : Nat → Int32) (f : Nat → Nat → Int32) (x : Int32) : pi_ (HH z f) 28 3 3 x = some (HH (upd z 899 x) f) := HH_pi rfl rfl
theorem o_28 (z : Nat → Int32) (f : Nat → Nat → Int32) : ∃ v, hg_o (HH z f) 28 3 = some v := ⟨_, HH_hg rfl⟩
theorem ob_28 {α : Type} (z : Nat → Int32) (f : Nat → Nat → Int32) (g : Option α) : ((hg_o (HH z f) 28 3).bind fun _ => g) = g := by obtain ⟨v, e⟩ := o_28 z f; rw [e]; rfl
theorem g_40_0 (z : Nat → Int32) (f : Nat → Nat → Int32) : gi_ (HH z f) 40 8 0 = some (z 1280) := HH_gi rfl rfl
theorem p_40_0 (z : Nat → Int32) (f : Nat → Nat → Int32) (x : Int32) : pi_ (HH z f) 40 8 0 x = some (HH (upd z 1280 x) f) := HH_pi rfl rfl
theorem g_40_1 (z : Nat → Int32) (f : Nat → Nat → Int32) : gi_ (HH z f) 40 8 1 = some (z 1281) := HH_gi rfl rfl
theorem p_40_1 (z : Nat → Int32) (f : Nat → Nat → Int32) (x : Int32) : pi_ (HH z f) 40 8 1 x = some (HH (upd z 1281 x) f) := HH_pi rfl rfl
theorem q_40_2 (z : Nat → Int32) (f : Nat → Nat → Int32) : gq_ (HH z f) 40 8 2 = some 41 := HH_gq (r := 41) rfl rfl
theorem q_40_3 (z : Nat → Int32) (f : Nat → Nat → Int32) : gq_ (HH z f) 40 8 3 = some 42 := HH_gq (r := 42) rfl rfl
theorem q_40_4 (z : Nat → Int32) (f : Nat → Nat → Int32) : gq_ (HH z f) 40 8 4 = some 43 := HH_gq (r := 43) rfl rfl
theorem g_40_5 (z : Nat → Int32) (f : Nat → Nat → Int32) : gi_ (HH z f) 40 8 5 = some (z 1285) := HH_gi rfl rfl
theorem p_40_5 (z : Nat → Int32) (f : Nat → Nat → Int32) (x : Int32) : pi_ (HH z f) 40 8 5 x = some (HH (upd z 1285 x) f) := HH_pi rfl rfl
theorem g_40_6 (z : Nat → Int32) (f : Nat → Nat → Int32) : gi_ (HH z f) 40 8 6 = some (z 1286) := HH_gi rfl rfl
theorem p_40_6 (z : Nat → Int32) (f : Nat → Nat → Int32) (x : Int32) : pi_ (HH z f) 40 8 6 x = some (HH (upd z 1286 x) f) := HH_pi rfl rfl
theorem g_40_7 (z : Nat → Int32) (f : Nat → Nat → Int32) : gi_ (HH z f) 40 8 7 = some (z 1287) := HH_gi rfl rfl
theorem p_40_7 (z : Nat → Int32) (f : Nat → Nat → Int32) (x : Int32) : pi_ (HH z f) 40 8 7 x = some (HH (upd z 1287 x) f) := HH_pi rfl rfl
theorem q_40_8 (z : Nat → Int32) (f : Nat → Nat → Int32) : gq_ (HH z f) 40 8 8 = some 44 := HH_gq (r := 44) rfl rfl
theorem q_40_9 (z : Nat → Int32) (f : Nat → Nat → Int32) : gq_ (HH z f) 40 8 9 = some 45 := HH_gq (r := 45) rfl rfl
theorem q_40_10 (z : Nat → Int32) (f : Nat → Nat → Int32) : gq_ (HH z f) 40 8 10 = some 46 := HH_gq (r := 46) rfl rfl
theorem g_40_11 (z : Nat → Int32) (f : Nat → Nat → Int32) : gi_ (HH z f) 40 8 11 = some (z 1291) := HH_gi rfl rfl
theorem p_40_11 (z : Nat → Int32) (f : Nat → Nat → Int32) (x : Int32) : pi_ (HH z f) 40 8 11 x = some (HH (upd z 1291 x) f) := HH_pi rfl rfl
theorem g_40_12 (z : Nat → Int32) (f : Nat → Nat → Int32) : gi_ (HH z f) 40 8 12 = some (z 1292) := HH_gi rfl rfl
theorem p_40_12 (z : Nat → Int32) (f : Nat → Nat → Int32) (x : Int32) : pi_ (HH z f) 40 8 12 x = some (HH (upd z 1292 x) f) := HH_pi rfl rfl
theorem q_40_13 (z : Nat → Int32) (f : Nat → Nat → Int32) : gq_ (HH z f) 40 8 13 = some 47 := HH_gq (r := 47) rfl rfl
theorem q_40_14 (z : Nat → Int32) (f : Nat → Nat → Int32) : gq_ (HH z f) 40 8 14 = some 48 := HH_gq (r := 48) rfl rfl
theorem q_40_15 (z : Nat → Int32) (f : Nat → Nat → Int32) : gq_ (HH z f) 40 8 15 = some 49 := HH_gq (r := 49) rfl rfl
theorem g_40_16 (z : Nat → Int32) (f : Nat → Nat → Int32) : gi_ (HH z f) 40 8 16 = some (z 1296) := HH_gi rfl rfl
theorem p_40_16 (z : Nat → Int32) (f : Nat → Nat → Int32) (x : Int32) : pi_ (HH z f) 40 8 16 x = some (HH (upd z 1296 x) f) := HH_pi rfl rfl
theorem g_40_17 (z : Nat → Int32) (f : Nat → Nat → Int32) : gi_ (HH z f) 40 8 17 = some (z 1297) := HH_gi rfl rfl
theorem p_40_17 (z : Nat → Int32) (f : Nat → Nat → Int32) (x : Int32) : pi_ (HH z f) 40 8 17 x = some (HH (upd z 1297 x) f) := HH_pi rfl rfl
theorem q_40_18 (z : Nat → Int32) (f : Nat → Nat → Int32) : gq_ (HH z f) 40 8 18 = some 50 := HH_gq (r := 50) rfl rfl
theorem q_40_19 (z : Nat → Int32) (f : Nat → Nat → Int32) : gq_ (HH z f) 40 8 19 = some 51 := HH_gq (r := 51) rfl rfl
theorem g_40_20 (z : Nat → Int32) (f : Nat → Nat → Int32) : gi_ (HH z f) 40 8 20 = some (z 1300) := HH_gi rfl rfl
theorem p_40_20 (z : Nat → Int32) (f : Nat → Nat → Int32) (x : Int32) : pi_ (HH z f) 40 8 20 x = some (HH (upd z 1300 x) f) := HH_pi rfl rfl
theorem g_40_21 (z : Nat → Int32) (f : Nat → Nat → Int32) : gi_ (HH z f) 40 8 21 = some (z 1301) := HH_gi rfl rfl
theorem p_40_21 (z : Nat → Int32) (f : Nat → Nat → Int32) (x : Int32) : pi_ (HH z f) 40 8 21 x = some (HH (upd z 1301 x) f) := HH_pi rfl rfl
theorem q_40_22 (z : Nat → Int32) (f : Nat → Nat → Int32) : gq_ (HH z f) 40 8 22 = some 52 := HH_gq (r := 52) rfl rfl
theorem q_40_23 (z : Nat → Int32) (f : Nat → Nat → Int32) : gq_ (HH z f) 40 8 23 = some 53 := HH_gq (r := 53) rfl rfl
theorem g_40_24 (z : Nat → Int32) (f : Nat → Nat → Int32) : gi_ (HH z f) 40 8 24 = some (z 1304) := HH_gi rfl rfl
theorem p_40_24 (z : Nat → Int32) (f : Nat → Nat → Int32) (x : Int32) : pi_ (HH z f) 40 8 24 x = some (HH (upd z 1304 x) f) := HH_pi rfl rfl
theorem q_40_25 (z : Nat → Int32) (f : Nat → Nat → Int32) : gq_ (HH z f) 40 8 25 = some 54 := HH_gq (r := 54) rfl rfl
theorem q_40_26 (z : Nat → Int32) (f : Nat → Nat → Int32) : gq_ (HH z f) 40 8 26 = some 55 := HH_gq (r := 55) rfl rfl
theorem q_40_27 (z : Nat → Int32) (f : Nat → Nat → Int32) : gq_ (HH z f) 40 8 27 = some 56 := HH_gq (r := 56) rfl rfl
theorem q_40_28 (z : Nat → Int32) (f : Nat → Nat → Int32) : gq_ (HH z f) 40 8 28 = some 57 := HH_gq (r := 57) rfl rfl
theorem o_40 (z : Nat → Int32) (f : Nat → Nat → Int32) : ∃ v, hg_o (HH z f) 40 8 = some v := ⟨_, HH_hg rfl⟩
theorem ob_40 {α : Type} (z : Nat → Int32) (f : Nat → Nat → Int32) (g : Option α) : ((hg_o (HH z f) 40 8).bind fun _ => g) = g := by obtain ⟨v, e⟩ := o_40 z f; rw [e]; rfl
theorem obp_ {α : Type} {p : Nat} (hp : p < 6) (z : Nat → Int32) (f : Nat → Nat → Int32) (g : Option α) : ((hg_o (HH z f) (3 + p) 2).bind fun _ => g) = g := by rw [HH_hg (SP_p hp)]; rfl
theorem gp_ {p k : Nat} (hp : p < 6) (hk : k < 4) (z : Nat → Int32) (f : Nat → Nat → Int32) : gi_ (HH z f) (3 + p) 2 k = some (z (32 * (3 + p) + k)) := HH_gi (SP_p hp) (by match k, hk with | 0, _ => rfl | 1, _ => rfl | 2, _ => rfl | 3, _ => rfl)
theorem qp_ {p : Nat} (hp : p < 6) (z : Nat → Int32) (f : Nat → Nat → Int32) : ql_ (HH z f) 2 (nI p) = some (3 + p) := HH_ql (g := pe_ 3) (t := 0) (n := 6) rfl (by decide) hp (by decide) (pe_at hp)
theorem qs_ {k : Nat} (hk : k < 4) (z : Nat → Int32) (f : Nat → Nat → Int32) : ql_ (HH z f) 9 (nI k) = some (32 + 2 * k) := HH_ql (g := se_) (t := 1) (n := 4) rfl (by decide) hk (by decide) (se_at hk)
def z0_ : Nat → Int32 := fun _ => 0
def f0_ : Nat → Nat → Int32 := fun i => if i = 41 then upd (upd (upd (upd (fun _ => 0) 0 (-9)) 1 (-9)) 2 (-9)) 3 (-9) else fun _ => 0
