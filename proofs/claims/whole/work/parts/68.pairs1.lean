/-! pairs: rows of partners, both searches as lists -/
def cdn_ : Nat → Nat → (Nat → Nat) → Nat
  | 0, _, _ => 0
  | d + 1, p, g => g p * 16 ^ d + cdn_ d (p + 1) g
def gd_ (l : List Nat) (p : Nat) : Nat := l.getD p 9
abbrev el_T : Type := List Nat × List Nat
def put_ (n G : Nat) (T : List Nat) (x : Nat) : Option (List Nat) := if x / 6 < x % 6 ∧ x % 6 < n ∧ G.testBit (x / 6) = false ∧ G.testBit (x % 6) = false ∧ gd_ T (x / 6) = 9 ∧ gd_ T (x % 6) = 9 then some ((T.set (x / 6) (x % 6)).set (x % 6) (x / 6)) else none
def l3_ (n G : Nat) (T : List Nat) (x y : Nat) : Nat → Nat → List el_T
  | 0, _ => []
  | d + 1, q => match put_ n G T q with
    | none => l3_ n G T x y d (q + 1)
    | some T3 => (T3, [x, y, q]) :: l3_ n G T x y d (q + 1)
def l2_ (n G : Nat) (T : List Nat) (x : Nat) : Nat → Nat → List el_T
  | 0, _ => []
  | d + 1, q => match put_ n G T q with
    | none => l2_ n G T x d (q + 1)
    | some T2 => (T2, [x, q]) :: (l3_ n G T2 x q d (q + 1) ++ l2_ n G T x d (q + 1))
def l1_ (n G : Nat) (T : List Nat) : Nat → Nat → List el_T
  | 0, _ => []
  | d + 1, q => match put_ n G T q with
    | none => l1_ n G T d (q + 1)
    | some T1 => (T1, [q]) :: (l2_ n G T1 q d (q + 1) ++ l1_ n G T d (q + 1))
def T9_ : List Nat := [9, 9, 9, 9, 9, 9]
def LM_ (n G : Nat) : List el_T := l1_ n G T9_ 36 0
def fq_ (F : Nat → List el_T) : Nat → Nat → List el_T
  | 0, _ => []
  | d + 1, q => F q ++ fq_ F d (q + 1)
def lc_ (n : Nat) : Nat → Nat → Nat → List Nat → List Nat → List el_T
  | 0, _, _, _, _ => []
  | k + 1, p, rest, T, ps => if n ≤ p then [(T, ps)] else if gd_ T p = 10 then fq_ (fun q => if gd_ T q = 10 then lc_ n k (p + 1) rest ((T.set p q).set q p) (ps ++ [6 * p + q]) else []) (n - (p + 1)) (p + 1) ++ (if 0 < rest then lc_ n k (p + 1) (rest - 1) (T.set p 9) ps else []) else lc_ n k (p + 1) rest T ps
def hr_ (G : Nat) : Nat → Nat
  | 0 => 0
  | p + 1 => hr_ G p + (if G.testBit p then 0 else 1)
def TO_ (n G : Nat) : List Nat := (List.range 6).map (fun p => if p < n ∧ G.testBit p = false then 10 else 9)
def LC_ (n G : Nat) : List el_T := lc_ n 8 0 (hr_ G n % 2) (TO_ n G) []
def cd_ (n : Nat) (a : el_T) : Nat := cdn_ n 0 (gd_ a.1)
def srt_ (n : Nat) : List el_T → Prop
  | [] => True
  | a :: l => (∀ b ∈ l, cd_ n a < cd_ n b) ∧ srt_ n l
def srb_ (n : Nat) : List el_T → Bool
  | [] => true
  | a :: l => l.all (fun b => decide (cd_ n a < cd_ n b)) && srb_ n l
theorem srt_b {n : Nat} : ∀ {l : List el_T}, srb_ n l = true → srt_ n l
  | [], _ => trivial
  | a :: l, h => by
    simp only [srb_, Bool.and_eq_true, List.all_eq_true, decide_eq_true_eq] at h
    exact ⟨h.1, srt_b h.2⟩
def ckp_ (n m : Nat) (C M : List el_T) : Bool := srb_ n C && !C.isEmpty && C.all (fun a => decide (a.2.length = m) && decide (a ∈ M)) && M.all (fun b => decide (b.2.length ≤ m) && (decide (b.2.length < m) || decide (b ∈ C)) && b.1.all (fun x => decide (x < 10)))
set_option maxRecDepth 100000 in
theorem ck_all : ∀ n, n < 7 → ∀ G, G < 64 → G < 2 ^ n → (decide (hr_ G n / 2 ≤ 3) && ckp_ n (hr_ G n / 2) (LC_ n G) ((T9_, []) :: LM_ n G)) = true := by decide +kernel
/-! costs and keys -/
def ne_ (w : Nat → Nat) (x : Nat) : Nat := if w (x / 6) = w (x % 6) then 0 else 1
def cst_ (w : Nat → Nat) (ps : List Nat) : Nat := (ps.map (ne_ w)).sum
theorem cst_le {w : Nat → Nat} : ∀ ps : List Nat, cst_ w ps ≤ ps.length
  | [] => Nat.le_refl 0
  | x :: ps => by
    have h := cst_le (w := w) ps
    have e : cst_ w (x :: ps) = ne_ w x + cst_ w ps := rfl
    have e2 : ne_ w x ≤ 1 := by unfold ne_; split <;> omega
    rw [e, List.length_cons]
    omega
theorem cst_app {w : Nat → Nat} {ps : List Nat} {x : Nat} : cst_ w (ps ++ [x]) = cst_ w ps + ne_ w x := by
  simp [cst_]
def ky_ (n : Nat) (w : Nat → Nat) (a : el_T) : Nat := (3 - a.2.length) * 16 ^ 8 + cst_ w a.2 * 16 ^ 6 + cd_ n a
def bM_ (n : Nat) (w : Nat → Nat) (s a : el_T) : el_T := if ky_ n w a < ky_ n w s then a else s
theorem fold_M {n : Nat} {w : Nat → Nat} : ∀ (l : List el_T) (s : el_T), l.foldl (bM_ n w) s ∈ s :: l ∧ ∀ a ∈ s :: l, ky_ n w (l.foldl (bM_ n w) s) ≤ ky_ n w a
  | [], s => ⟨List.mem_cons_self, fun a ha => by
    rw [List.mem_singleton] at ha
    rw [ha]
    exact Nat.le_refl _⟩
  | b :: l, s => by
    obtain ⟨h1, h2⟩ := fold_M (n := n) (w := w) l (bM_ n w s b)
    rw [List.foldl_cons]
    have hs : bM_ n w s b = b ∧ ky_ n w b < ky_ n w s ∨ bM_ n w s b = s ∧ ky_ n w s ≤ ky_ n w b := by
      unfold bM_
      split
      · exact Or.inl ⟨rfl, by assumption⟩
      · exact Or.inr ⟨rfl, by omega⟩
    have h3 := h2 _ List.mem_cons_self
    constructor
    · rcases List.mem_cons.mp h1 with e | e
      · rw [e]
        rcases hs with ⟨e1, _⟩ | ⟨e1, _⟩
        · rw [e1]; exact List.mem_cons_of_mem _ List.mem_cons_self
        · rw [e1]; exact List.mem_cons_self
      · exact List.mem_cons_of_mem _ (List.mem_cons_of_mem _ e)
    · intro a ha
      rcases List.mem_cons.mp ha with e | e
      · rw [e]
        rcases hs with ⟨e1, e2⟩ | ⟨e1, e2⟩
        · have e9 := congrArg (ky_ n w) e1
          omega
        · have e9 := congrArg (ky_ n w) e1
          omega
      · rcases List.mem_cons.mp e with e | e
        · rw [e]
          rcases hs with ⟨e1, e2⟩ | ⟨e1, e2⟩
          · have e9 := congrArg (ky_ n w) e1
            omega
          · have e9 := congrArg (ky_ n w) e1
            omega
        · exact h2 a (List.mem_cons_of_mem _ e)
abbrev cs_T : Type := Nat × (Nat → Int32)
def tv_ (x : Nat) : Int32 := if x = 10 then -1 else nI x
def bC_ (w : Nat → Nat) (s : cs_T) (a : el_T) : cs_T := if cst_ w a.2 < s.1 then (cst_ w a.2, fun j => tv_ (gd_ a.1 j)) else s
theorem bC_le {w : Nat → Nat} : ∀ (l : List el_T) (s : cs_T), (l.foldl (bC_ w) s).1 ≤ s.1
  | [], s => Nat.le_refl _
  | b :: l, s => by
    rw [List.foldl_cons]
    refine Nat.le_trans (bC_le l _) ?_
    unfold bC_
    split
    · dsimp only
      omega
    · exact Nat.le_refl _
theorem fold_C {n : Nat} {w : Nat → Nat} : ∀ (l : List el_T) (s : cs_T), srt_ n l → (l.foldl (bC_ w) s = s ∧ ∀ b ∈ l, s.1 ≤ cst_ w b.2) ∨ ∃ a ∈ l, l.foldl (bC_ w) s = (cst_ w a.2, fun j => tv_ (gd_ a.1 j)) ∧ cst_ w a.2 < s.1 ∧ ∀ b ∈ l, cst_ w a.2 < cst_ w b.2 ∨ (cst_ w a.2 = cst_ w b.2 ∧ cd_ n a ≤ cd_ n b)
  | [], s, _ => Or.inl ⟨rfl, fun b hb => absurd hb List.not_mem_nil⟩
  | x :: l, s, hs => by
    rw [List.foldl_cons]
    by_cases c : cst_ w x.2 < s.1
    · have e : bC_ w s x = (cst_ w x.2, fun j => tv_ (gd_ x.1 j)) := by unfold bC_; rw [if_pos c]
      rw [e]
      rcases fold_C l (cst_ w x.2, fun j => tv_ (gd_ x.1 j)) hs.2 with ⟨h1, h2⟩ | ⟨a, h1, h2, h3, h4⟩
      · refine Or.inr ⟨x, List.mem_cons_self, h1, c, fun b hb => ?_⟩
        rcases List.mem_cons.mp hb with e | e
        · rw [e]; exact Or.inr ⟨rfl, Nat.le_refl _⟩
        · have h5 : cst_ w x.2 ≤ cst_ w b.2 := h2 b e
          have h6 := hs.1 b e
          omega
      · have h3' : cst_ w a.2 < cst_ w x.2 := h3
        refine Or.inr ⟨a, List.mem_cons_of_mem _ h1, h2, by omega, fun b hb => ?_⟩
        rcases List.mem_cons.mp hb with e | e
        · rw [e]; exact Or.inl h3'
        · exact h4 b e
    · have e : bC_ w s x = s := by unfold bC_; rw [if_neg c]
      rw [e]
      rcases fold_C l s hs.2 with ⟨h1, h2⟩ | ⟨a, h1, h2, h3, h4⟩
      · refine Or.inl ⟨h1, fun b hb => ?_⟩
        rcases List.mem_cons.mp hb with e | e
        · rw [e]; omega
        · exact h2 b e
      · refine Or.inr ⟨a, List.mem_cons_of_mem _ h1, h2, h3, fun b hb => ?_⟩
        rcases List.mem_cons.mp hb with e | e
        · rw [e]; exact Or.inl (by omega)
        · exact h4 b e
theorem cdn_lt {g : Nat → Nat} : ∀ (d p : Nat), (∀ j, g j < 16) → cdn_ d p g < 16 ^ d
  | 0, _, _ => Nat.one_pos
  | d + 1, p, h => by
    have h1 := cdn_lt d (p + 1) h
    have h2 : (g p + 1) * 16 ^ d ≤ 16 * 16 ^ d := Nat.mul_le_mul_right _ (h p)
    have e : (16 : Nat) ^ (d + 1) = 16 * 16 ^ d := by rw [Nat.pow_succ, Nat.mul_comm]
    rw [Nat.add_mul, Nat.one_mul] at h2
    unfold cdn_
    omega
theorem cdn_eq {g g' : Nat → Nat} : ∀ (d p : Nat), (∀ j, g j < 16) → (∀ j, g' j < 16) → (cdn_ (d + 1) p g < cdn_ (d + 1) p g' ↔ (g p < g' p ∨ (g p = g' p ∧ cdn_ d (p + 1) g < cdn_ d (p + 1) g'))) := by
  intro d p h h'
  have l1 := cdn_lt d (p + 1) h
  have l2 := cdn_lt d (p + 1) h'
  show g p * 16 ^ d + cdn_ d (p + 1) g < g' p * 16 ^ d + cdn_ d (p + 1) g' ↔ _
  constructor
  · intro hl
    by_cases c : g p < g' p
    · exact Or.inl c
    · by_cases c2 : g p = g' p
      · rw [c2] at hl
        exact Or.inr ⟨c2, by omega⟩
      · exfalso
        have h2 : (g' p + 1) * 16 ^ d ≤ g p * 16 ^ d := Nat.mul_le_mul_right _ (by omega)
        rw [Nat.add_mul, Nat.one_mul] at h2
        omega
  · rintro (c | ⟨c, c2⟩)
    · have h2 : (g p + 1) * 16 ^ d ≤ g' p * 16 ^ d := Nat.mul_le_mul_right _ (by omega)
      rw [Nat.add_mul, Nat.one_mul] at h2
      omega
    · rw [c]
      omega
theorem cdn_inj {g g' : Nat → Nat} : ∀ (d p : Nat), (∀ j, g j < 16) → (∀ j, g' j < 16) → cdn_ d p g = cdn_ d p g' → ∀ j, p ≤ j → j < p + d → g j = g' j := by
  intro d
  induction d with
  | zero => intro p _ _ _ j h1 h2; omega
  | succ d ih =>
    intro p h h' e j h1 h2
    have a1 : ¬ (g p < g' p ∨ (g p = g' p ∧ cdn_ d (p + 1) g < cdn_ d (p + 1) g')) := fun w => absurd ((cdn_eq d p h h').mpr w) (by omega)
    have a2 : ¬ (g' p < g p ∨ (g' p = g p ∧ cdn_ d (p + 1) g' < cdn_ d (p + 1) g)) := fun w => absurd ((cdn_eq d p h' h).mpr w) (by omega)
    have e1 : g p = g' p := by omega
    by_cases c : j = p
    · rw [c]; exact e1
    · exact ih (p + 1) h h' (by omega) j (by omega) (by omega)
theorem gd_lt {l : List Nat} (h : ∀ x ∈ l, x < 10) (j : Nat) : gd_ l j < 10 := by
  unfold gd_
  rw [List.getD_eq_getElem?_getD]
  cases e : l[j]? with
  | none => exact (by decide : 9 < 10)
  | some v => exact h v (List.mem_of_getElem? e)
/-- the two searches agree -/
theorem pairs_eq {n G : Nat} {w : Nat → Nat} {g0 : Nat → Int32} (hn : n ≤ 6) (hG : G < 2 ^ n) : ((LC_ n G).foldl (bC_ w) (6, g0)).1 = cst_ w ((LM_ n G).foldl (bM_ n w) (T9_, [])).2 ∧ ∀ p, p < n → ((LC_ n G).foldl (bC_ w) (6, g0)).2 p = nI (gd_ ((LM_ n G).foldl (bM_ n w) (T9_, [])).1 p) := by
  have h64 : G < 64 := Nat.lt_of_lt_of_le hG (pw6 hn)
  have hck := ck_all n (by omega) G h64 hG
  simp only [ckp_, Bool.and_eq_true, decide_eq_true_eq, List.all_eq_true, Bool.not_eq_true', Bool.or_eq_true] at hck
  obtain ⟨m3, ⟨⟨c1, c2⟩, c3⟩, c4⟩ := hck
  have hsrt := srt_b c1
  obtain ⟨hM1, hM2⟩ := fold_M (n := n) (w := w) (LM_ n G) (T9_, [])
  generalize hmm : (LM_ n G).foldl (bM_ n w) (T9_, []) = mm at hM1 hM2 ⊢
  rcases fold_C (n := n) (w := w) (LC_ n G) (6, g0) hsrt with ⟨h1, h2⟩ | ⟨a, h1, h2, h3, h4⟩
  · exfalso
    cases hl : LC_ n G with
    | nil => rw [hl] at c2; exact absurd c2 (by simp)
    | cons x l =>
      have h5 : 6 ≤ cst_ w x.2 := h2 x (by rw [hl]; exact List.mem_cons_self)
      have h6 := cst_le (w := w) x.2
      have h7 := (c3 x (by rw [hl]; exact List.mem_cons_self)).1
      omega
  · rw [h2]
    obtain ⟨a1, a2⟩ := c3 a h1
    have k1 := hM2 a a2
    obtain ⟨⟨b1, b2⟩, b3⟩ := c4 mm hM1
    obtain ⟨⟨_, _⟩, a5⟩ := c4 a a2
    have la : ∀ j, gd_ a.1 j < 16 := fun j => Nat.lt_trans (gd_lt (fun x hx => a5 x hx) j) (by decide)
    have lm : ∀ j, gd_ mm.1 j < 16 := fun j => Nat.lt_trans (gd_lt (fun x hx => b3 x hx) j) (by decide)
    have pw : 16 ^ n ≤ 16 ^ 6 := Nat.pow_le_pow_right (by decide) hn
    have d1 : cd_ n a < 16 ^ n := cdn_lt n 0 la
    have d2 : cd_ n mm < 16 ^ n := cdn_lt n 0 lm
    have e1 := cst_le (w := w) a.2
    have e2 := cst_le (w := w) mm.2
    unfold ky_ at k1
    have hlen : mm.2.length = a.2.length := by
      rcases b2 with b2 | b2
      · exfalso
        have : (3 - a.2.length + 1) * 16 ^ 8 ≤ (3 - mm.2.length) * 16 ^ 8 := Nat.mul_le_mul_right _ (by omega)
        rw [Nat.add_mul] at this
        omega
      · rw [(c3 mm b2).1, a1]
    rw [hlen] at k1
    have hmC : mm ∈ LC_ n G := by
      rcases b2 with b2 | b2
      · omega
      · exact b2
    have k2 := h4 mm hmC
    have k3 : cst_ w a.2 = cst_ w mm.2 ∧ cd_ n a = cd_ n mm := by
      rcases k2 with k2 | k2
      · exfalso; omega
      · omega
    refine ⟨k3.1, fun p hp => ?_⟩
    show tv_ (gd_ a.1 p) = _
    have h10 := gd_lt (fun x hx => b3 x hx) p
    rw [cdn_inj n 0 la lm k3.2 p (by omega) (by omega)]
    unfold tv_
    rw [if_neg (by omega)]
