/-! THE INVARIANT between the class's cells (below 40) and the reference's (40 and above) -/
/-- people: n of them; kind, strength, feint alike and in range -/
def IvP (z : Nat → Int32) (f : Nat → Nat → Int32) (n : Nat) (K S T : Nat → Nat) : Prop := (n = 0 ∨ 2 ≤ n) ∧ n ≤ 6 ∧ z 33 = nI n ∧ z 1285 = nI n ∧ ∀ p, p < n → K p < 3 ∧ S p < 10 ∧ T p < 10 ∧ z (32 * (3 + p) + 0) = nI (K p) ∧ f 44 p = nI (K p) ∧ z (32 * (3 + p) + 1) = nI (S p) ∧ f 45 p = nI (S p) ∧ z (32 * (3 + p) + 2) = nI (T p) ∧ f 46 p = nI (T p)
/-- who is gone: a flag each, and a set -/
def IvG (z : Nat → Int32) (n G : Nat) : Prop := G < 2 ^ n ∧ z 1286 = nI G ∧ ∀ p, p < n → z (32 * (3 + p) + 3) = if G.testBit p then 1 else 0
/-- games, trace, fault -/
def IvX (z : Nat → Int32) : Prop := z 6 = z 1287 ∧ z 7 = z 1281 ∧ z 8 = z 1280
/-- sheets -/
def IvS (z : Nat → Int32) (f : Nat → Nat → Int32) : Prop := ∀ k, k < 4 → ((z (32 * (32 + 2 * k) + 1) = 0 ∧ f 41 k = -9) ∨ (z (32 * (32 + 2 * k) + 1) = 1 ∧ ∃ a b : Nat, a < 3 ∧ b ≤ 60 ∧ z (32 * (32 + 2 * k) + 2) = nI a ∧ f 41 k = nI a ∧ z (32 * (32 + 2 * k) + 3) = nI b ∧ f 42 k = nI b)) ∧ ∀ i, i < 60 → f (33 + 2 * k) i = f 43 (60 * k + i)
/-- readings -/
def IvR (z : Nat → Int32) (f : Nat → Nat → Int32) (n r : Nat) (A B W U : Nat → Nat) : Prop := r ≤ 8 ∧ z 324 = nI r ∧ z 1304 = nI r ∧ ∀ q, q < r → A q < n ∧ B q < n ∧ A q ≠ B q ∧ W q < 2 ∧ U q < 3 ∧ f 11 q = nI (A q) ∧ f 54 q = nI (A q) ∧ f 12 q = nI (B q) ∧ f 55 q = nI (B q) ∧ f 13 q = nI (W q) ∧ f 56 q = nI (W q) ∧ f 14 q = nI (U q) ∧ f 57 q = nI (U q)
def Inv (z : Nat → Int32) (f : Nat → Nat → Int32) : Prop := ∃ (n : Nat) (K S T : Nat → Nat) (G r : Nat) (A B W U : Nat → Nat), IvP z f n K S T ∧ IvG z n G ∧ IvX z ∧ IvS z f ∧ IvR z f n r A B W U
theorem Inv_0 : Inv z0_ f0_ := by
  refine ⟨0, fun _ => 0, fun _ => 0, fun _ => 0, 0, 0, fun _ => 0, fun _ => 0, fun _ => 0, fun _ => 0, ⟨Or.inl rfl, by decide, rfl, rfl, fun p h => by omega⟩, ⟨by decide, rfl, fun p h => by omega⟩, ⟨rfl, rfl, rfl⟩, fun k hk => ⟨Or.inl ⟨rfl, ?_⟩, fun i hi => ?_⟩, by decide, rfl, rfl, fun q h => by omega⟩
  · match k, hk with
    | 0, _ => rfl
    | 1, _ => rfl
    | 2, _ => rfl
    | 3, _ => rfl
  · have h1 : ¬ 33 + 2 * k = 41 := by omega
    simp [f0_, h1]

def Op_harbour : Prop := ∀ (z : Nat → Int32) (f : Nat → Nat → Int32) (p q u v : Int32), Inv z f → ∃ (r : Int32) (z1 : Nat → Int32) (f1 : Nat → Nat → Int32) (z2 : Nat → Int32) (f2 : Nat → Nat → Int32), fX8_harbour (HH z f) 0 p q u v = some (r, HH z1 f1) ∧ fX9_harbour (HH z1 f1) 40 p q u v = some (r, HH z2 f2) ∧ Inv z2 f2
def Op_ofPerson : Prop := ∀ (z : Nat → Int32) (f : Nat → Nat → Int32) (p q : Int32), Inv z f → ∃ (r : Int32), fX8_ofPerson (HH z f) 0 p q = some r ∧ fX9_ofPerson (HH z f) 40 p q = some r
def Op_train : Prop := ∀ (z : Nat → Int32) (f : Nat → Nat → Int32) (p q : Int32), Inv z f → ∃ (r : Int32) (z1 : Nat → Int32) (f1 : Nat → Nat → Int32) (z2 : Nat → Int32) (f2 : Nat → Nat → Int32), fX8_train (HH z f) 0 p q = some (r, HH z1 f1) ∧ fX9_train (HH z1 f1) 40 p q = some (r, HH z2 f2) ∧ Inv z2 f2
def Op_learn : Prop := ∀ (z : Nat → Int32) (f : Nat → Nat → Int32) (p q : Int32), Inv z f → ∃ (r : Int32) (z1 : Nat → Int32) (f1 : Nat → Nat → Int32) (z2 : Nat → Int32) (f2 : Nat → Nat → Int32), fX8_learn (HH z f) 0 p q = some (r, HH z1 f1) ∧ fX9_learn (HH z1 f1) 40 p q = some (r, HH z2 f2) ∧ Inv z2 f2
def Op_game : Prop := ∀ (z : Nat → Int32) (f : Nat → Nat → Int32) (p q u v : Int32), Inv z f → ∃ (r : Int32) (z1 : Nat → Int32) (f1 : Nat → Nat → Int32) (z2 : Nat → Int32) (f2 : Nat → Nat → Int32), fX8_game (HH z f) 0 p q u v = some (r, HH z1 f1) ∧ fX9_game (HH z1 f1) 40 p q u v = some (r, HH z2 f2) ∧ Inv z2 f2
def Op_shy : Prop := ∀ (z : Nat → Int32) (f : Nat → Nat → Int32) (p q : Int32), Inv z f → ∃ (r : Int32) (z1 : Nat → Int32) (f1 : Nat → Nat → Int32) (z2 : Nat → Int32) (f2 : Nat → Nat → Int32), fX8_shy (HH z f) 0 p q = some (r, HH z1 f1) ∧ fX9_shy (HH z1 f1) 40 p q = some (r, HH z2 f2) ∧ Inv z2 f2
def Op_fetch : Prop := ∀ (z : Nat → Int32) (f : Nat → Nat → Int32) (p : Int32), Inv z f → ∃ (r : Int32) (z1 : Nat → Int32) (f1 : Nat → Nat → Int32) (z2 : Nat → Int32) (f2 : Nat → Nat → Int32), fX8_fetch (HH z f) 0 p = some (r, HH z1 f1) ∧ fX9_fetch (HH z1 f1) 40 p = some (r, HH z2 f2) ∧ Inv z2 f2
def Op_season : Prop := ∀ (z : Nat → Int32) (f : Nat → Nat → Int32) (p q u v w : Int32), Inv z f → ∃ (r : Int32) (z1 : Nat → Int32) (f1 : Nat → Nat → Int32) (z2 : Nat → Int32) (f2 : Nat → Nat → Int32), fX8_season (HH z f) 0 p q u v w = some (r, HH z1 f1) ∧ fX9_season (HH z1 f1) 40 p q u v w = some (r, HH z2 f2) ∧ Inv z2 f2
def Op_safe : Prop := ∀ (z : Nat → Int32) (f : Nat → Nat → Int32) (p q : Int32), Inv z f → ∃ (r : Int32), fX8_safe (HH z f) 0 p q = some r ∧ fX9_safe (HH z f) 40 p q = some r
def Op_sure : Prop := ∀ (z : Nat → Int32) (f : Nat → Nat → Int32) (p : Int32), Inv z f → ∃ (r : Int32), fX8_sure (HH z f) 0 p = some r ∧ fX9_sure (HH z f) 40 p = some r
def Op_common : Prop := ∀ (z : Nat → Int32) (f : Nat → Nat → Int32) (p q : Int32), Inv z f → ∃ (r : Int32), fX8_common (HH z f) 0 p q = some r ∧ fX9_common (HH z f) 40 p q = some r
def Op_pairs : Prop := ∀ (z : Nat → Int32) (f : Nat → Nat → Int32) (p : Int32), Inv z f → ∃ (r : Int32) (z1 : Nat → Int32) (f1 : Nat → Nat → Int32) (z2 : Nat → Int32) (f2 : Nat → Nat → Int32), fX8_pairs (HH z f) 0 p = some (r, HH z1 f1) ∧ fX9_pairs (HH z1 f1) 40 p = some (r, HH z2 f2) ∧ Inv z2 f2
def Op_orders : Prop := ∀ (z : Nat → Int32) (f : Nat → Nat → Int32) (p q u v w : Int32), Inv z f → ∃ (r : Int32) (z1 : Nat → Int32) (f1 : Nat → Nat → Int32) (z2 : Nat → Int32) (f2 : Nat → Nat → Int32), fX8_orders (HH z f) 0 p q u v w = some (r, HH z1 f1) ∧ fX9_orders (HH z1 f1) 40 p q u v w = some (r, HH z2 f2) ∧ Inv z2 f2
def Op_drops : Prop := ∀ (z : Nat → Int32) (f : Nat → Nat → Int32) (p q u v : Int32), Inv z f → ∃ (r : Int32) (z1 : Nat → Int32) (f1 : Nat → Nat → Int32) (z2 : Nat → Int32) (f2 : Nat → Nat → Int32), fX8_drops (HH z f) 0 p q u v = some (r, HH z1 f1) ∧ fX9_drops (HH z1 f1) 40 p q u v = some (r, HH z2 f2) ∧ Inv z2 f2
def Op_reading : Prop := ∀ (z : Nat → Int32) (f : Nat → Nat → Int32) (p q u v : Int32), Inv z f → ∃ (r : Int32) (z1 : Nat → Int32) (f1 : Nat → Nat → Int32) (z2 : Nat → Int32) (f2 : Nat → Nat → Int32), fX8_reading (HH z f) 0 p q u v = some (r, HH z1 f1) ∧ fX9_reading (HH z1 f1) 40 p q u v = some (r, HH z2 f2) ∧ Inv z2 f2
def Op_back : Prop := ∀ (z : Nat → Int32) (f : Nat → Nat → Int32) (p : Int32), Inv z f → ∃ (r : Int32) (z1 : Nat → Int32) (f1 : Nat → Nat → Int32) (z2 : Nat → Int32) (f2 : Nat → Nat → Int32), fX8_back (HH z f) 0 p = some (r, HH z1 f1) ∧ fX9_back (HH z1 f1) 40 p = some (r, HH z2 f2) ∧ Inv z2 f2
def Op_strengths : Prop := ∀ (z : Nat → Int32) (f : Nat → Nat → Int32) (p : Int32), Inv z f → ∃ (r : Int32) (z1 : Nat → Int32) (f1 : Nat → Nat → Int32) (z2 : Nat → Int32) (f2 : Nat → Nat → Int32), fX8_strengths (HH z f) 0 p = some (r, HH z1 f1) ∧ fX9_strengths (HH z1 f1) 40 p = some (r, HH z2 f2) ∧ Inv z2 f2
def Op_feints : Prop := ∀ (z : Nat → Int32) (f : Nat → Nat → Int32) (p : Int32), Inv z f → ∃ (r : Int32) (z1 : Nat → Int32) (f1 : Nat → Nat → Int32) (z2 : Nat → Int32) (f2 : Nat → Nat → Int32), fX8_feints (HH z f) 0 p = some (r, HH z1 f1) ∧ fX9_feints (HH z1 f1) 40 p = some (r, HH z2 f2) ∧ Inv z2 f2
def Op_kinds : Prop := ∀ (z : Nat → Int32) (f : Nat → Nat → Int32) (p : Int32), Inv z f → ∃ (r : Int32) (z1 : Nat → Int32) (f1 : Nat → Nat → Int32) (z2 : Nat → Int32) (f2 : Nat → Nat → Int32), fX8_kinds (HH z f) 0 p = some (r, HH z1 f1) ∧ fX9_kinds (HH z1 f1) 40 p = some (r, HH z2 f2) ∧ Inv z2 f2
def Op_odds : Prop := ∀ (z : Nat → Int32) (f : Nat → Nat → Int32) (p q u : Int32), Inv z f → ∃ (r : Int64), fX8_odds (HH z f) 0 p q u = some r ∧ fX9_odds (HH z f) 40 p q u = some r
def Op_sheet : Prop := ∀ (z : Nat → Int32) (f : Nat → Nat → Int32) (p q u : Int32), Inv z f → ∃ (r : Int32) (z1 : Nat → Int32) (f1 : Nat → Nat → Int32) (z2 : Nat → Int32) (f2 : Nat → Nat → Int32), fX8_sheet (HH z f) 0 p q u = some (r, HH z1 f1) ∧ fX9_sheet (HH z1 f1) 40 p q u = some (r, HH z2 f2) ∧ Inv z2 f2
def Op_lose : Prop := ∀ (z : Nat → Int32) (f : Nat → Nat → Int32) (p : Int32), Inv z f → ∃ (r : Int32) (z1 : Nat → Int32) (f1 : Nat → Nat → Int32) (z2 : Nat → Int32) (f2 : Nat → Nat → Int32), fX8_lose (HH z f) 0 p = some (r, HH z1 f1) ∧ fX9_lose (HH z1 f1) 40 p = some (r, HH z2 f2) ∧ Inv z2 f2
def Op_put : Prop := ∀ (z : Nat → Int32) (f : Nat → Nat → Int32) (p q u : Int32), Inv z f → ∃ (r : Int32) (z1 : Nat → Int32) (f1 : Nat → Nat → Int32) (z2 : Nat → Int32) (f2 : Nat → Nat → Int32), fX8_put (HH z f) 0 p q u = some (r, HH z1 f1) ∧ fX9_put (HH z1 f1) 40 p q u = some (r, HH z2 f2) ∧ Inv z2 f2
def Op_cell : Prop := ∀ (z : Nat → Int32) (f : Nat → Nat → Int32) (p q u : Int32), Inv z f → ∃ (r : Int64) (z1 : Nat → Int32) (f1 : Nat → Nat → Int32) (z2 : Nat → Int32) (f2 : Nat → Nat → Int32), fX8_cell (HH z f) 0 p q u = some (r, HH z1 f1) ∧ fX9_cell (HH z1 f1) 40 p q u = some (r, HH z2 f2) ∧ Inv z2 f2
def Op_copy : Prop := ∀ (z : Nat → Int32) (f : Nat → Nat → Int32) (p q u v w : Int32), Inv z f → ∃ (r : Int32) (z1 : Nat → Int32) (f1 : Nat → Nat → Int32) (z2 : Nat → Int32) (f2 : Nat → Nat → Int32), fX8_copy (HH z f) 0 p q u v w = some (r, HH z1 f1) ∧ fX9_copy (HH z1 f1) 40 p q u v w = some (r, HH z2 f2) ∧ Inv z2 f2
def Op_tell : Prop := ∀ (z : Nat → Int32) (f : Nat → Nat → Int32) (p : Int32), Inv z f → ∃ (r : Int32) (z1 : Nat → Int32) (f1 : Nat → Nat → Int32) (z2 : Nat → Int32) (f2 : Nat → Nat → Int32), fX8_tell (HH z f) 0 p = some (r, HH z1 f1) ∧ fX9_tell (HH z1 f1) 40 p = some (r, HH z2 f2) ∧ Inv z2 f2
def Op_wave : Prop := ∀ (z : Nat → Int32) (f : Nat → Nat → Int32) (p : Int32), Inv z f → ∃ (r : Int32) (z1 : Nat → Int32) (f1 : Nat → Nat → Int32) (z2 : Nat → Int32) (f2 : Nat → Nat → Int32), fX8_wave (HH z f) 0 p = some (r, HH z1 f1) ∧ fX9_wave (HH z1 f1) 40 p = some (r, HH z2 f2) ∧ Inv z2 f2
def Op_as : Prop := ∀ (z : Nat → Int32) (f : Nat → Nat → Int32) (p q : Int32), Inv z f → ∃ (r : Int32) (z1 : Nat → Int32) (f1 : Nat → Nat → Int32) (z2 : Nat → Int32) (f2 : Nat → Nat → Int32), fX8_as (HH z f) 0 p q = some (r, HH z1 f1) ∧ fX9_as (HH z1 f1) 40 p q = some (r, HH z2 f2) ∧ Inv z2 f2
def Op_trace : Prop := ∀ (z : Nat → Int32) (f : Nat → Nat → Int32), Inv z f → ∃ (r : Int32), fX8_trace (HH z f) 0  = some r ∧ fX9_trace (HH z f) 40  = some r
def Op_fault : Prop := ∀ (z : Nat → Int32) (f : Nat → Nat → Int32), Inv z f → ∃ (r : Int32), fX8_fault (HH z f) 0  = some r ∧ fX9_fault (HH z f) 40  = some r
def Op_many : Prop := ∀ (z : Nat → Int32) (f : Nat → Nat → Int32) (p : Int32), Inv z f → ∃ (r : Int32), fX8_many (HH z f) 0 p = some r ∧ fX9_many (HH z f) 40 p = some r
theorem sl_at {L i k : Nat} {xs : Nat → Int32} (h : i + k < L) (hL : L ≤ 3072) : sl_ L xs (nI i + nI k) = some (xs (i + k)) := by
  have h1 : ¬ (nI (i + k) < 0 ∨ L ≤ (nI (i + k)).toNatClampNeg) := nI_in (N := L) h (by omega)
  rw [nI_add, sl_, if_neg h1, nI_clamp (by omega)]
theorem sl_00 {L i : Nat} {xs : Nat → Int32} (h : i < L) (hL : L ≤ 3072) : sl_ L xs (nI i) = some (xs i) := by
  have h1 : ¬ (nI i < 0 ∨ L ≤ (nI i).toNatClampNeg) := nI_in (N := L) h (by omega)
  rw [sl_, if_neg h1, nI_clamp (by omega)]
theorem jl_ (L : Nat) (xs : Nat → Int32) (g : hp_H) (a b i : Nat) : jL_law_1257_18 L xs g a b (nI i) = some (.inl (nI (i + 6), g)) := by
  unfold jL_law_1257_18
  rw [Option.bind_some, show nI i + 6 = nI (i + 6) from nI_add i 6]
def Ops : Prop := Op_harbour ∧ Op_ofPerson ∧ Op_train ∧ Op_learn ∧ Op_game ∧ Op_shy ∧ Op_fetch ∧ Op_season ∧ Op_safe ∧ Op_sure ∧ Op_common ∧ Op_pairs ∧ Op_orders ∧ Op_drops ∧ Op_reading ∧ Op_back ∧ Op_strengths ∧ Op_feints ∧ Op_kinds ∧ Op_odds ∧ Op_sheet ∧ Op_lose ∧ Op_put ∧ Op_cell ∧ Op_copy ∧ Op_tell ∧ Op_wave ∧ Op_as ∧ Op_trace ∧ Op_fault ∧ Op_many
set_option maxHeartbeats 4000000 in
set_option maxRecDepth 20000 in
theorem lc_harbour {L i : Nat} {xs : Nat → Int32} {z : Nat → Int32} {f : Nat → Nat → Int32} (hL : L ≤ 3072) (hi : i + 6 ≤ L) (ho : xs i &&& 31 = nI 0) (op : Op_harbour) (iv : Inv z f) : ∃ z2 f2, bL_law_18 L xs 0 40 (nI i, HH z f) = some (.inl (nI (i + 6), HH z2 f2)) ∧ Inv z2 f2 := by
  obtain ⟨r, z1, f1, z2, f2, e1, e2, iv⟩ := op z f (xs (i + 1)) (xs (i + 2)) (xs (i + 3)) (xs (i + 4)) iv
  refine ⟨z2, f2, ?_, iv⟩
  have s1 : sl_ L xs (nI i + 1) = some (xs (i + 1)) := sl_at (k := 1) (by omega) hL
  have s2 : sl_ L xs (nI i + 2) = some (xs (i + 2)) := sl_at (k := 2) (by omega) hL
  have s3 : sl_ L xs (nI i + 3) = some (xs (i + 3)) := sl_at (k := 3) (by omega) hL
  have s4 : sl_ L xs (nI i + 4) = some (xs (i + 4)) := sl_at (k := 4) (by omega) hL
  unfold bL_law_18
  dsimp only
  rw [show Int32.ofNat L - 6 = nI (L - 6) from pk_sub (a := L) (b := 6) (by omega), if_neg (nI_nlt (by omega) (by omega)), sl_00 (by omega) hL, Option.bind_some, ho]
  rw [if_pos (show (nI 0 : Int32) = 0 by decide)]
  simp only [s1, s2, s3, s4, Option.bind_some, ob_0, ob_40, e1, e2]
  rw [if_pos trivial]
  exact jl_ L xs _ 0 40 i
set_option maxHeartbeats 4000000 in
set_option maxRecDepth 20000 in
theorem lc_ofPerson {L i : Nat} {xs : Nat → Int32} {z : Nat → Int32} {f : Nat → Nat → Int32} (hL : L ≤ 3072) (hi : i + 6 ≤ L) (ho : xs i &&& 31 = nI 1) (op : Op_ofPerson) (iv : Inv z f) : ∃ z2 f2, bL_law_18 L xs 0 40 (nI i, HH z f) = some (.inl (nI (i + 6), HH z2 f2)) ∧ Inv z2 f2 := by
  obtain ⟨r, e1, e2⟩ := op z f (xs (i + 1)) (xs (i + 2)) iv
  refine ⟨z, f, ?_, iv⟩
  have s1 : sl_ L xs (nI i + 1) = some (xs (i + 1)) := sl_at (k := 1) (by omega) hL
  have s2 : sl_ L xs (nI i + 2) = some (xs (i + 2)) := sl_at (k := 2) (by omega) hL
  unfold bL_law_18
  dsimp only
  rw [show Int32.ofNat L - 6 = nI (L - 6) from pk_sub (a := L) (b := 6) (by omega), if_neg (nI_nlt (by omega) (by omega)), sl_00 (by omega) hL, Option.bind_some, ho]
  rw [if_neg (show ¬ (nI 1 : Int32) = 0 by decide)]
  rw [if_pos (show (nI 1 : Int32) = 1 by decide)]
  simp only [s1, s2, Option.bind_some, ob_0, ob_40, e1, e2]
  rw [if_pos trivial]
  exact jl_ L xs _ 0 40 i
set_option maxHeartbeats 4000000 in
set_option maxRecDepth 20000 in
theorem lc_train {L i : Nat} {xs : Nat → Int32} {z : Nat → Int32} {f : Nat → Nat → Int32} (hL : L ≤ 3072) (hi : i + 6 ≤ L) (ho : xs i &&& 31 = nI 2) (op : Op_train) (iv : Inv z f) : ∃ z2 f2, bL_law_18 L xs 0 40 (nI i, HH z f) = some (.inl (nI (i + 6), HH z2 f2)) ∧ Inv z2 f2 := by
  obtain ⟨r, z1, f1, z2, f2, e1, e2, iv⟩ := op z f (xs (i + 1)) (xs (i + 2)) iv
  refine ⟨z2, f2, ?_, iv⟩
  have s1 : sl_ L xs (nI i + 1) = some (xs (i + 1)) := sl_at (k := 1) (by omega) hL
  have s2 : sl_ L xs (nI i + 2) = some (xs (i + 2)) := sl_at (k := 2) (by omega) hL
  unfold bL_law_18
  dsimp only
  rw [show Int32.ofNat L - 6 = nI (L - 6) from pk_sub (a := L) (b := 6) (by omega), if_neg (nI_nlt (by omega) (by omega)), sl_00 (by omega) hL, Option.bind_some, ho]
  rw [if_neg (show ¬ (nI 2 : Int32) = 0 by decide)]
  rw [if_neg (show ¬ (nI 2 : Int32) = 1 by decide)]
  rw [if_pos (show (nI 2 : Int32) = 2 by decide)]
  simp only [s1, s2, Option.bind_some, ob_0, ob_40, e1, e2]
  rw [if_pos trivial]
  exact jl_ L xs _ 0 40 i
set_option maxHeartbeats 4000000 in
set_option maxRecDepth 20000 in
theorem lc_learn {L i : Nat} {xs : Nat → Int32} {z : Nat → Int32} {f : Nat → Nat → Int32} (hL : L ≤ 3072) (hi : i + 6 ≤ L) (ho : xs i &&& 31 = nI 3) (op : Op_learn) (iv : Inv z f) : ∃ z2 f2, bL_law_18 L xs 0 40 (nI i, HH z f) = some (.inl (nI (i + 6), HH z2 f2)) ∧ Inv z2 f2 := by
  obtain ⟨r, z1, f1, z2, f2, e1, e2, iv⟩ := op z f (xs (i + 1)) (xs (i + 2)) iv
  refine ⟨z2, f2, ?_, iv⟩
  have s1 : sl_ L xs (nI i + 1) = some (xs (i + 1)) := sl_at (k := 1) (by omega) hL
  have s2 : sl_ L xs (nI i + 2) = some (xs (i + 2)) := sl_at (k := 2) (by omega) hL
  unfold bL_law_18
  dsimp only
  rw [show Int32.ofNat L - 6 = nI (L - 6) from pk_sub (a := L) (b := 6) (by omega), if_neg (nI_nlt (by omega) (by omega)), sl_00 (by omega) hL, Option.bind_some, ho]
  rw [if_neg (show ¬ (nI 3 : Int32) = 0 by decide)]
  rw [if_neg (show ¬ (nI 3 : Int32) = 1 by decide)]
  rw [if_neg (show ¬ (nI 3 : Int32) = 2 by decide)]
  rw [if_pos (show (nI 3 : Int32) = 3 by decide)]
  simp only [s1, s2, Option.bind_some, ob_0, ob_40, e1, e2]
  rw [if_pos trivial]
  exact jl_ L xs _ 0 40 i
set_option maxHeartbeats 4000000 in
set_option maxRecDepth 20000 in
theorem lc_game {L i : Nat} {xs : Nat → Int32} {z : Nat → Int32} {f : Nat → Nat → Int32} (hL : L ≤ 3072) (hi : i + 6 ≤ L) (ho : xs i &&& 31 = nI 4) (op : Op_game) (iv : Inv z f) : ∃ z2 f2, bL_law_18 L xs 0 40 (nI i, HH z f) = some (.inl (nI (i + 6), HH z2 f2)) ∧ Inv z2 f2 := by
  obtain ⟨r, z1, f1, z2, f2, e1, e2, iv⟩ := op z f (xs (i + 1)) (xs (i + 2)) (xs (i + 3)) (xs (i + 4)) iv
  refine ⟨z2, f2, ?_, iv⟩
  have s1 : sl_ L xs (nI i + 1) = some (xs (i + 1)) := sl_at (k := 1) (by omega) hL
  have s2 : sl_ L xs (nI i + 2) = some (xs (i + 2)) := sl_at (k := 2) (by omega) hL
  have s3 : sl_ L xs (nI i + 3) = some (xs (i + 3)) := sl_at (k := 3) (by omega) hL
  have s4 : sl_ L xs (nI i + 4) = some (xs (i + 4)) := sl_at (k := 4) (by omega) hL
  unfold bL_law_18
  dsimp only
  rw [show Int32.ofNat L - 6 = nI (L - 6) from pk_sub (a := L) (b := 6) (by omega), if_neg (nI_nlt (by omega) (by omega)), sl_00 (by omega) hL, Option.bind_some, ho]
  rw [if_neg (show ¬ (nI 4 : Int32) = 0 by decide)]
  rw [if_neg (show ¬ (nI 4 : Int32) = 1 by decide)]
  rw [if_neg (show ¬ (nI 4 : Int32) = 2 by decide)]
  rw [if_neg (show ¬ (nI 4 : Int32) = 3 by decide)]
  rw [if_pos (show (nI 4 : Int32) = 4 by decide)]
  simp only [s1, s2, s3, s4, Option.bind_some, ob_0, ob_40, e1, e2]
  rw [if_pos trivial]
  exact jl_ L xs _ 0 40 i
set_option maxHeartbeats 4000000 in
set_option maxRecDepth 20000 in
theorem lc_shy {L i : Nat} {xs : Nat → Int32} {z : Nat → Int32} {f : Nat → Nat → Int32} (hL : L ≤ 3072) (hi : i + 6 ≤ L) (ho : xs i &&& 31 = nI 5) (op : Op_shy) (iv : Inv z f) : ∃ z2 f2, bL_law_18 L xs 0 40 (nI i, HH z f) = some (.inl (nI (i + 6), HH z2 f2)) ∧ Inv z2 f2 := by
  obtain ⟨r, z1, f1, z2, f2, e1, e2, iv⟩ := op z f (xs (i + 1)) (xs (i + 2)) iv
  refine ⟨z2, f2, ?_, iv⟩
  have s1 : sl_ L xs (nI i + 1) = some (xs (i + 1)) := sl_at (k := 1) (by omega) hL
  have s2 : sl_ L xs (nI i + 2) = some (xs (i + 2)) := sl_at (k := 2) (by omega) hL
  unfold bL_law_18
  dsimp only
  rw [show Int32.ofNat L - 6 = nI (L - 6) from pk_sub (a := L) (b := 6) (by omega), if_neg (nI_nlt (by omega) (by omega)), sl_00 (by omega) hL, Option.bind_some, ho]
  rw [if_neg (show ¬ (nI 5 : Int32) = 0 by decide)]
  rw [if_neg (show ¬ (nI 5 : Int32) = 1 by decide)]
  rw [if_neg (show ¬ (nI 5 : Int32) = 2 by decide)]
  rw [if_neg (show ¬ (nI 5 : Int32) = 3 by decide)]
  rw [if_neg (show ¬ (nI 5 : Int32) = 4 by decide)]
  rw [if_pos (show (nI 5 : Int32) = 5 by decide)]
  simp only [s1, s2, Option.bind_some, ob_0, ob_40, e1, e2]
  rw [if_pos trivial]
  exact jl_ L xs _ 0 40 i
set_option maxHeartbeats 4000000 in
set_option maxRecDepth 20000 in
theorem lc_fetch {L i : Nat} {xs : Nat → Int32} {z : Nat → Int32} {f : Nat → Nat → Int32} (hL : L ≤ 3072) (hi : i + 6 ≤ L) (ho : xs i &&& 31 = nI 6) (op : Op_fetch) (iv : Inv z f) : ∃ z2 f2, bL_law_18 L xs 0 40 (nI i, HH z f) = some (.inl (nI (i + 6), HH z2 f2)) ∧ Inv z2 f2 := by
  obtain ⟨r, z1, f1, z2, f2, e1, e2, iv⟩ := op z f (xs (i + 1)) iv
  refine ⟨z2, f2, ?_, iv⟩
  have s1 : sl_ L xs (nI i + 1) = some (xs (i + 1)) := sl_at (k := 1) (by omega) hL
  unfold bL_law_18
  dsimp only
  rw [show Int32.ofNat L - 6 = nI (L - 6) from pk_sub (a := L) (b := 6) (by omega), if_neg (nI_nlt (by omega) (by omega)), sl_00 (by omega) hL, Option.bind_some, ho]
  rw [if_neg (show ¬ (nI 6 : Int32) = 0 by decide)]
  rw [if_neg (show ¬ (nI 6 : Int32) = 1 by decide)]
  rw [if_neg (show ¬ (nI 6 : Int32) = 2 by decide)]
  rw [if_neg (show ¬ (nI 6 : Int32) = 3 by decide)]
  rw [if_neg (show ¬ (nI 6 : Int32) = 4 by decide)]
  rw [if_neg (show ¬ (nI 6 : Int32) = 5 by decide)]
  rw [if_pos (show (nI 6 : Int32) = 6 by decide)]
  simp only [s1, Option.bind_some, ob_0, ob_40, e1, e2]
  rw [if_pos trivial]
  exact jl_ L xs _ 0 40 i
set_option maxHeartbeats 4000000 in
set_option maxRecDepth 20000 in
theorem lc_season {L i : Nat} {xs : Nat → Int32} {z : Nat → Int32} {f : Nat → Nat → Int32} (hL : L ≤ 3072) (hi : i + 6 ≤ L) (ho : xs i &&& 31 = nI 7) (op : Op_season) (iv : Inv z f) : ∃ z2 f2, bL_law_18 L xs 0 40 (nI i, HH z f) = some (.inl (nI (i + 6), HH z2 f2)) ∧ Inv z2 f2 := by
  obtain ⟨r, z1, f1, z2, f2, e1, e2, iv⟩ := op z f (xs (i + 1)) (xs (i + 2)) (xs (i + 3)) (xs (i + 4)) (xs (i + 5)) iv
  refine ⟨z2, f2, ?_, iv⟩
  have s1 : sl_ L xs (nI i + 1) = some (xs (i + 1)) := sl_at (k := 1) (by omega) hL
  have s2 : sl_ L xs (nI i + 2) = some (xs (i + 2)) := sl_at (k := 2) (by omega) hL
  have s3 : sl_ L xs (nI i + 3) = some (xs (i + 3)) := sl_at (k := 3) (by omega) hL
  have s4 : sl_ L xs (nI i + 4) = some (xs (i + 4)) := sl_at (k := 4) (by omega) hL
  have s5 : sl_ L xs (nI i + 5) = some (xs (i + 5)) := sl_at (k := 5) (by omega) hL
  unfold bL_law_18
  dsimp only
  rw [show Int32.ofNat L - 6 = nI (L - 6) from pk_sub (a := L) (b := 6) (by omega), if_neg (nI_nlt (by omega) (by omega)), sl_00 (by omega) hL, Option.bind_some, ho]
  rw [if_neg (show ¬ (nI 7 : Int32) = 0 by decide)]
  rw [if_neg (show ¬ (nI 7 : Int32) = 1 by decide)]
  rw [if_neg (show ¬ (nI 7 : Int32) = 2 by decide)]
  rw [if_neg (show ¬ (nI 7 : Int32) = 3 by decide)]
  rw [if_neg (show ¬ (nI 7 : Int32) = 4 by decide)]
  rw [if_neg (show ¬ (nI 7 : Int32) = 5 by decide)]
  rw [if_neg (show ¬ (nI 7 : Int32) = 6 by decide)]
  rw [if_pos (show (nI 7 : Int32) = 7 by decide)]
  simp only [s1, s2, s3, s4, s5, Option.bind_some, ob_0, ob_40, e1, e2]
  rw [if_pos trivial]
  exact jl_ L xs _ 0 40 i
set_option maxHeartbeats 4000000 in
set_option maxRecDepth 20000 in
theorem lc_safe {L i : Nat} {xs : Nat → Int32} {z : Nat → Int32} {f : Nat → Nat → Int32} (hL : L ≤ 3072) (hi : i + 6 ≤ L) (ho : xs i &&& 31 = nI 8) (op : Op_safe) (iv : Inv z f) : ∃ z2 f2, bL_law_18 L xs 0 40 (nI i, HH z f) = some (.inl (nI (i + 6), HH z2 f2)) ∧ Inv z2 f2 := by
  obtain ⟨r, e1, e2⟩ := op z f (xs (i + 1)) (xs (i + 2)) iv
  refine ⟨z, f, ?_, iv⟩
  have s1 : sl_ L xs (nI i + 1) = some (xs (i + 1)) := sl_at (k := 1) (by omega) hL
  have s2 : sl_ L xs (nI i + 2) = some (xs (i + 2)) := sl_at (k := 2) (by omega) hL
  unfold bL_law_18
  dsimp only
  rw [show Int32.ofNat L - 6 = nI (L - 6) from pk_sub (a := L) (b := 6) (by omega), if_neg (nI_nlt (by omega) (by omega)), sl_00 (by omega) hL, Option.bind_some, ho]
  rw [if_neg (show ¬ (nI 8 : Int32) = 0 by decide)]
  rw [if_neg (show ¬ (nI 8 : Int32) = 1 by decide)]
  rw [if_neg (show ¬ (nI 8 : Int32) = 2 by decide)]
  rw [if_neg (show ¬ (nI 8 : Int32) = 3 by decide)]
  rw [if_neg (show ¬ (nI 8 : Int32) = 4 by decide)]
  rw [if_neg (show ¬ (nI 8 : Int32) = 5 by decide)]
  rw [if_neg (show ¬ (nI 8 : Int32) = 6 by decide)]
  rw [if_neg (show ¬ (nI 8 : Int32) = 7 by decide)]
  rw [if_pos (show (nI 8 : Int32) = 8 by decide)]
  simp only [s1, s2, Option.bind_some, ob_0, ob_40, e1, e2]
  rw [if_pos trivial]
  exact jl_ L xs _ 0 40 i
set_option maxHeartbeats 4000000 in
set_option maxRecDepth 20000 in
theorem lc_sure {L i : Nat} {xs : Nat → Int32} {z : Nat → Int32} {f : Nat → Nat → Int32} (hL : L ≤ 3072) (hi : i + 6 ≤ L) (ho : xs i &&& 31 = nI 9) (op : Op_sure) (iv : Inv z f) : ∃ z2 f2, bL_law_18 L xs 0 40 (nI i, HH z f) = some (.inl (nI (i + 6), HH z2 f2)) ∧ Inv z2 f2 := by
  obtain ⟨r, e1, e2⟩ := op z f (xs (i + 1)) iv
  refine ⟨z, f, ?_, iv⟩
  have s1 : sl_ L xs (nI i + 1) = some (xs (i + 1)) := sl_at (k := 1) (by omega) hL
  unfold bL_law_18
  dsimp only
  rw [show Int32.ofNat L - 6 = nI (L - 6) from pk_sub (a := L) (b := 6) (by omega), if_neg (nI_nlt (by omega) (by omega)), sl_00 (by omega) hL, Option.bind_some, ho]
  rw [if_neg (show ¬ (nI 9 : Int32) = 0 by decide)]
  rw [if_neg (show ¬ (nI 9 : Int32) = 1 by decide)]
  rw [if_neg (show ¬ (nI 9 : Int32) = 2 by decide)]
  rw [if_neg (show ¬ (nI 9 : Int32) = 3 by decide)]
  rw [if_neg (show ¬ (nI 9 : Int32) = 4 by decide)]
  rw [if_neg (show ¬ (nI 9 : Int32) = 5 by decide)]
  rw [if_neg (show ¬ (nI 9 : Int32) = 6 by decide)]
  rw [if_neg (show ¬ (nI 9 : Int32) = 7 by decide)]
  rw [if_neg (show ¬ (nI 9 : Int32) = 8 by decide)]
  rw [if_pos (show (nI 9 : Int32) = 9 by decide)]
  simp only [s1, Option.bind_some, ob_0, ob_40, e1, e2]
  rw [if_pos trivial]
  exact jl_ L xs _ 0 40 i
set_option maxHeartbeats 4000000 in
set_option maxRecDepth 20000 in
theorem lc_common {L i : Nat} {xs : Nat → Int32} {z : Nat → Int32} {f : Nat → Nat → Int32} (hL : L ≤ 3072) (hi : i + 6 ≤ L) (ho : xs i &&& 31 = nI 10) (op : Op_common) (iv : Inv z f) : ∃ z2 f2, bL_law_18 L xs 0 40 (nI i, HH z f) = some (.inl (nI (i + 6), HH z2 f2)) ∧ Inv z2 f2 := by
  obtain ⟨r, e1, e2⟩ := op z f (xs (i + 1)) (xs (i + 2)) iv
  refine ⟨z, f, ?_, iv⟩
  have s1 : sl_ L xs (nI i + 1) = some (xs (i + 1)) := sl_at (k := 1) (by omega) hL
  have s2 : sl_ L xs (nI i + 2) = some (xs (i + 2)) := sl_at (k := 2) (by omega) hL
  unfold bL_law_18
  dsimp only
  rw [show Int32.ofNat L - 6 = nI (L - 6) from pk_sub (a := L) (b := 6) (by omega), if_neg (nI_nlt (by omega) (by omega)), sl_00 (by omega) hL, Option.bind_some, ho]
  rw [if_neg (show ¬ (nI 10 : Int32) = 0 by decide)]
  rw [if_neg (show ¬ (nI 10 : Int32) = 1 by decide)]
  rw [if_neg (show ¬ (nI 10 : Int32) = 2 by decide)]
  rw [if_neg (show ¬ (nI 10 : Int32) = 3 by decide)]
  rw [if_neg (show ¬ (nI 10 : Int32) = 4 by decide)]
  rw [if_neg (show ¬ (nI 10 : Int32) = 5 by decide)]
  rw [if_neg (show ¬ (nI 10 : Int32) = 6 by decide)]
  rw [if_neg (show ¬ (nI 10 : Int32) = 7 by decide)]
  rw [if_neg (show ¬ (nI 10 : Int32) = 8 by decide)]
  rw [if_neg (show ¬ (nI 10 : Int32) = 9 by decide)]
  rw [if_pos (show (nI 10 : Int32) = 10 by decide)]
  simp only [s1, s2, Option.bind_some, ob_0, ob_40, e1, e2]
  rw [if_pos trivial]
  exact jl_ L xs _ 0 40 i
set_option maxHeartbeats 4000000 in
set_option maxRecDepth 20000 in
theorem lc_pairs {L i : Nat} {xs : Nat → Int32} {z : Nat → Int32} {f : Nat → Nat → Int32} (hL : L ≤ 3072) (hi : i + 6 ≤ L) (ho : xs i &&& 31 = nI 11) (op : Op_pairs) (iv : Inv z f) : ∃ z2 f2, bL_law_18 L xs 0 40 (nI i, HH z f) = some (.inl (nI (i + 6), HH z2 f2)) ∧ Inv z2 f2 := by
  obtain ⟨r, z1, f1, z2, f2, e1, e2, iv⟩ := op z f (xs (i + 1)) iv
  refine ⟨z2, f2, ?_, iv⟩
  have s1 : sl_ L xs (nI i + 1) = some (xs (i + 1)) := sl_at (k := 1) (by omega) hL
  unfold bL_law_18
  dsimp only
  rw [show Int32.ofNat L - 6 = nI (L - 6) from pk_sub (a := L) (b := 6) (by omega), if_neg (nI_nlt (by omega) (by omega)), sl_00 (by omega) hL, Option.bind_some, ho]
  rw [if_neg (show ¬ (nI 11 : Int32) = 0 by decide)]
  rw [if_neg (show ¬ (nI 11 : Int32) = 1 by decide)]
  rw [if_neg (show ¬ (nI 11 : Int32) = 2 by decide)]
  rw [if_neg (show ¬ (nI 11 : Int32) = 3 by decide)]
  rw [if_neg (show ¬ (nI 11 : Int32) = 4 by decide)]
  rw [if_neg (show ¬ (nI 11 : Int32) = 5 by decide)]
  rw [if_neg (show ¬ (nI 11 : Int32) = 6 by decide)]
  rw [if_neg (show ¬ (nI 11 : Int32) = 7 by decide)]
  rw [if_neg (show ¬ (nI 11 : Int32) = 8 by decide)]
  rw [if_neg (show ¬ (nI 11 : Int32) = 9 by decide)]
  rw [if_neg (show ¬ (nI 11 : Int32) = 10 by decide)]
  rw [if_pos (show (nI 11 : Int32) = 11 by decide)]
  simp only [s1, Option.bind_some, ob_0, ob_40, e1, e2]
  rw [if_pos trivial]
  exact jl_ L xs _ 0 40 i
set_option maxHeartbeats 4000000 in
set_option maxRecDepth 20000 in
theorem lc_orders {L i : Nat} {xs : Nat → Int32} {z : Nat → Int32} {f : Nat → Nat → Int32} (hL : L ≤ 3072) (hi : i + 6 ≤ L) (ho : xs i &&& 31 = nI 12) (op : Op_orders) (iv : Inv z f) : ∃ z2 f2, bL_law_18 L xs 0 40 (nI i, HH z f) = some (.inl (nI (i + 6), HH z2 f2)) ∧ Inv z2 f2 := by
  obtain ⟨r, z1, f1, z2, f2, e1, e2, iv⟩ := op z f (xs (i + 1)) (xs (i + 2)) (xs (i + 3)) (xs (i + 4)) (xs (i + 5)) iv
  refine ⟨z2, f2, ?_, iv⟩
  have s1 : sl_ L xs (nI i + 1) = some (xs (i + 1)) := sl_at (k := 1) (by omega) hL
  have s2 : sl_ L xs (nI i + 2) = some (xs (i + 2)) := sl_at (k := 2) (by omega) hL
  have s3 : sl_ L xs (nI i + 3) = some (xs (i + 3)) := sl_at (k := 3) (by omega) hL
  have s4 : sl_ L xs (nI i + 4) = some (xs (i + 4)) := sl_at (k := 4) (by omega) hL
  have s5 : sl_ L xs (nI i + 5) = some (xs (i + 5)) := sl_at (k := 5) (by omega) hL
  unfold bL_law_18
  dsimp only
  rw [show Int32.ofNat L - 6 = nI (L - 6) from pk_sub (a := L) (b := 6) (by omega), if_neg (nI_nlt (by omega) (by omega)), sl_00 (by omega) hL, Option.bind_some, ho]
  rw [if_neg (show ¬ (nI 12 : Int32) = 0 by decide)]
  rw [if_neg (show ¬ (nI 12 : Int32) = 1 by decide)]
  rw [if_neg (show ¬ (nI 12 : Int32) = 2 by decide)]
  rw [if_neg (show ¬ (nI 12 : Int32) = 3 by decide)]
  rw [if_neg (show ¬ (nI 12 : Int32) = 4 by decide)]
  rw [if_neg (show ¬ (nI 12 : Int32) = 5 by decide)]
  rw [if_neg (show ¬ (nI 12 : Int32) = 6 by decide)]
  rw [if_neg (show ¬ (nI 12 : Int32) = 7 by decide)]
  rw [if_neg (show ¬ (nI 12 : Int32) = 8 by decide)]
  rw [if_neg (show ¬ (nI 12 : Int32) = 9 by decide)]
  rw [if_neg (show ¬ (nI 12 : Int32) = 10 by decide)]
  rw [if_neg (show ¬ (nI 12 : Int32) = 11 by decide)]
  rw [if_pos (show (nI 12 : Int32) = 12 by decide)]
  simp only [s1, s2, s3, s4, s5, Option.bind_some, ob_0, ob_40, e1, e2]
  rw [if_pos trivial]
  exact jl_ L xs _ 0 40 i
set_option maxHeartbeats 4000000 in
set_option maxRecDepth 20000 in
theorem lc_drops {L i : Nat} {xs : Nat → Int32} {z : Nat → Int32} {f : Nat → Nat → Int32} (hL : L ≤ 3072) (hi : i + 6 ≤ L) (ho : xs i &&& 31 = nI 13) (op : Op_drops) (iv : Inv z f) : ∃ z2 f2, bL_law_18 L xs 0 40 (nI i, HH z f) = some (.inl (nI (i + 6), HH z2 f2)) ∧ Inv z2 f2 := by
  obtain ⟨r, z1, f1, z2, f2, e1, e2, iv⟩ := op z f (xs (i + 1)) (xs (i + 2)) (xs (i + 3)) (xs (i + 4)) iv
  refine ⟨z2, f2, ?_, iv⟩
  have s1 : sl_ L xs (nI i + 1) = some (xs (i + 1)) := sl_at (k := 1) (by omega) hL
  have s2 : sl_ L xs (nI i + 2) = some (xs (i + 2)) := sl_at (k := 2) (by omega) hL
  have s3 : sl_ L xs (nI i + 3) = some (xs (i + 3)) := sl_at (k := 3) (by omega) hL
  have s4 : sl_ L xs (nI i + 4) = some (xs (i + 4)) := sl_at (k := 4) (by omega) hL
  unfold bL_law_18
  dsimp only
  rw [show Int32.ofNat L - 6 = nI (L - 6) from pk_sub (a := L) (b := 6) (by omega), if_neg (nI_nlt (by omega) (by omega)), sl_00 (by omega) hL, Option.bind_some, ho]
  rw [if_neg (show ¬ (nI 13 : Int32) = 0 by decide)]
  rw [if_neg (show ¬ (nI 13 : Int32) = 1 by decide)]
  rw [if_neg (show ¬ (nI 13 : Int32) = 2 by decide)]
  rw [if_neg (show ¬ (nI 13 : Int32) = 3 by decide)]
  rw [if_neg (show ¬ (nI 13 : Int32) = 4 by decide)]
  rw [if_neg (show ¬ (nI 13 : Int32) = 5 by decide)]
  rw [if_neg (show ¬ (nI 13 : Int32) = 6 by decide)]
  rw [if_neg (show ¬ (nI 13 : Int32) = 7 by decide)]
  rw [if_neg (show ¬ (nI 13 : Int32) = 8 by decide)]
  rw [if_neg (show ¬ (nI 13 : Int32) = 9 by decide)]
  rw [if_neg (show ¬ (nI 13 : Int32) = 10 by decide)]
  rw [if_neg (show ¬ (nI 13 : Int32) = 11 by decide)]
  rw [if_neg (show ¬ (nI 13 : Int32) = 12 by decide)]
  rw [if_pos (show (nI 13 : Int32) = 13 by decide)]
  simp only [s1, s2, s3, s4, Option.bind_some, ob_0, ob_40, e1, e2]
  rw [if_pos trivial]
  exact jl_ L xs _ 0 40 i
set_option maxHeartbeats 4000000 in
set_option maxRecDepth 20000 in
theorem lc_reading {L i : Nat} {xs : Nat → Int32} {z : Nat → Int32} {f : Nat → Nat → Int32} (hL : L ≤ 3072) (hi : i + 6 ≤ L) (ho : xs i &&& 31 = nI 14) (op : Op_reading) (iv : Inv z f) : ∃ z2 f2, bL_law_18 L xs 0 40 (nI i, HH z f) = some (.inl (nI (i + 6), HH z2 f2)) ∧ Inv z2 f2 := by
  obtain ⟨r, z1, f1, z2, f2, e1, e2, iv⟩ := op z f (xs (i + 1)) (xs (i + 2)) (xs (i + 3)) (xs (i + 4)) iv
  refine ⟨z2, f2, ?_, iv⟩
  have s1 : sl_ L xs (nI i + 1) = some (xs (i + 1)) := sl_at (k := 1) (by omega) hL
  have s2 : sl_ L xs (nI i + 2) = some (xs (i + 2)) := sl_at (k := 2) (by omega) hL
  have s3 : sl_ L xs (nI i + 3) = some (xs (i + 3)) := sl_at (k := 3) (by omega) hL
  have s4 : sl_ L xs (nI i + 4) = some (xs (i + 4)) := sl_at (k := 4) (by omega) hL
  unfold bL_law_18
  dsimp only
  rw [show Int32.ofNat L - 6 = nI (L - 6) from pk_sub (a := L) (b := 6) (by omega), if_neg (nI_nlt (by omega) (by omega)), sl_00 (by omega) hL, Option.bind_some, ho]
  rw [if_neg (show ¬ (nI 14 : Int32) = 0 by decide)]
  rw [if_neg (show ¬ (nI 14 : Int32) = 1 by decide)]
  rw [if_neg (show ¬ (nI 14 : Int32) = 2 by decide)]
  rw [if_neg (show ¬ (nI 14 : Int32) = 3 by decide)]
  rw [if_neg (show ¬ (nI 14 : Int32) = 4 by decide)]
  rw [if_neg (show ¬ (nI 14 : Int32) = 5 by decide)]
  rw [if_neg (show ¬ (nI 14 : Int32) = 6 by decide)]
  rw [if_neg (show ¬ (nI 14 : Int32) = 7 by decide)]
  rw [if_neg (show ¬ (nI 14 : Int32) = 8 by decide)]
  rw [if_neg (show ¬ (nI 14 : Int32) = 9 by decide)]
  rw [if_neg (show ¬ (nI 14 : Int32) = 10 by decide)]
  rw [if_neg (show ¬ (nI 14 : Int32) = 11 by decide)]
  rw [if_neg (show ¬ (nI 14 : Int32) = 12 by decide)]
  rw [if_neg (show ¬ (nI 14 : Int32) = 13 by decide)]
  rw [if_pos (show (nI 14 : Int32) = 14 by decide)]
  simp only [s1, s2, s3, s4, Option.bind_some, ob_0, ob_40, e1, e2]
  rw [if_pos trivial]
  exact jl_ L xs _ 0 40 i
set_option maxHeartbeats 4000000 in
set_option maxRecDepth 20000 in
theorem lc_back {L i : Nat} {xs : Nat → Int32} {z : Nat → Int32} {f : Nat → Nat → Int32} (hL : L ≤ 3072) (hi : i + 6 ≤ L) (ho : xs i &&& 31 = nI 15) (op : Op_back) (iv : Inv z f) : ∃ z2 f2, bL_law_18 L xs 0 40 (nI i, HH z f) = some (.inl (nI (i + 6), HH z2 f2)) ∧ Inv z2 f2 := by
  obtain ⟨r, z1, f1, z2, f2, e1, e2, iv⟩ := op z f (xs (i + 1)) iv
  refine ⟨z2, f2, ?_, iv⟩
  have s1 : sl_ L xs (nI i + 1) = some (xs (i + 1)) := sl_at (k := 1) (by omega) hL
  unfold bL_law_18
  dsimp only
  rw [show Int32.ofNat L - 6 = nI (L - 6) from pk_sub (a := L) (b := 6) (by omega), if_neg (nI_nlt (by omega) (by omega)), sl_00 (by omega) hL, Option.bind_some, ho]
  rw [if_neg (show ¬ (nI 15 : Int32) = 0 by decide)]
  rw [if_neg (show ¬ (nI 15 : Int32) = 1 by decide)]
  rw [if_neg (show ¬ (nI 15 : Int32) = 2 by decide)]
  rw [if_neg (show ¬ (nI 15 : Int32) = 3 by decide)]
  rw [if_neg (show ¬ (nI 15 : Int32) = 4 by decide)]
  rw [if_neg (show ¬ (nI 15 : Int32) = 5 by decide)]
  rw [if_neg (show ¬ (nI 15 : Int32) = 6 by decide)]
  rw [if_neg (show ¬ (nI 15 : Int32) = 7 by decide)]
  rw [if_neg (show ¬ (nI 15 : Int32) = 8 by decide)]
  rw [if_neg (show ¬ (nI 15 : Int32) = 9 by decide)]
  rw [if_neg (show ¬ (nI 15 : Int32) = 10 by decide)]
  rw [if_neg (show ¬ (nI 15 : Int32) = 11 by decide)]
  rw [if_neg (show ¬ (nI 15 : Int32) = 12 by decide)]
  rw [if_neg (show ¬ (nI 15 : Int32) = 13 by decide)]
  rw [if_neg (show ¬ (nI 15 : Int32) = 14 by decide)]
  rw [if_pos (show (nI 15 : Int32) = 15 by decide)]
  simp only [s1, Option.bind_some, ob_0, ob_40, e1, e2]
  rw [if_pos trivial]
  exact jl_ L xs _ 0 40 i
set_option maxHeartbeats 4000000 in
set_option maxRecDepth 20000 in
theorem lc_strengths {L i : Nat} {xs : Nat → Int32} {z : Nat → Int32} {f : Nat → Nat → Int32} (hL : L ≤ 3072) (hi : i + 6 ≤ L) (ho : xs i &&& 31 = nI 16) (op : Op_strengths) (iv : Inv z f) : ∃ z2 f2, bL_law_18 L xs 0 40 (nI i, HH z f) = some (.inl (nI (i + 6), HH z2 f2)) ∧ Inv z2 f2 := by
  obtain ⟨r, z1, f1, z2, f2, e1, e2, iv⟩ := op z f (xs (i + 1)) iv
  refine ⟨z2, f2, ?_, iv⟩
  have s1 : sl_ L xs (nI i + 1) = some (xs (i + 1)) := sl_at (k := 1) (by omega) hL
  unfold bL_law_18
  dsimp only
  rw [show Int32.ofNat L - 6 = nI (L - 6) from pk_sub (a := L) (b := 6) (by omega), if_neg (nI_nlt (by omega) (by omega)), sl_00 (by omega) hL, Option.bind_some, ho]
  rw [if_neg (show ¬ (nI 16 : Int32) = 0 by decide)]
  rw [if_neg (show ¬ (nI 16 : Int32) = 1 by decide)]
  rw [if_neg (show ¬ (nI 16 : Int32) = 2 by decide)]
  rw [if_neg (show ¬ (nI 16 : Int32) = 3 by decide)]
  rw [if_neg (show ¬ (nI 16 : Int32) = 4 by decide)]
  rw [if_neg (show ¬ (nI 16 : Int32) = 5 by decide)]
  rw [if_neg (show ¬ (nI 16 : Int32) = 6 by decide)]
  rw [if_neg (show ¬ (nI 16 : Int32) = 7 by decide)]
  rw [if_neg (show ¬ (nI 16 : Int32) = 8 by decide)]
  rw [if_neg (show ¬ (nI 16 : Int32) = 9 by decide)]
  rw [if_neg (show ¬ (nI 16 : Int32) = 10 by decide)]
  rw [if_neg (show ¬ (nI 16 : Int32) = 11 by decide)]
  rw [if_neg (show ¬ (nI 16 : Int32) = 12 by decide)]
  rw [if_neg (show ¬ (nI 16 : Int32) = 13 by decide)]
  rw [if_neg (show ¬ (nI 16 : Int32) = 14 by decide)]
  rw [if_neg (show ¬ (nI 16 : Int32) = 15 by decide)]
  rw [if_pos (show (nI 16 : Int32) = 16 by decide)]
  simp only [s1, Option.bind_some, ob_0, ob_40, e1, e2]
  rw [if_pos trivial]
  exact jl_ L xs _ 0 40 i
set_option maxHeartbeats 4000000 in
set_option maxRecDepth 20000 in
theorem lc_feints {L i : Nat} {xs : Nat → Int32} {z : Nat → Int32} {f : Nat → Nat → Int32} (hL : L ≤ 3072) (hi : i + 6 ≤ L) (ho : xs i &&& 31 = nI 17) (op : Op_feints) (iv : Inv z f) : ∃ z2 f2, bL_law_18 L xs 0 40 (nI i, HH z f) = some (.inl (nI (i + 6), HH z2 f2)) ∧ Inv z2 f2 := by
  obtain ⟨r, z1, f1, z2, f2, e1, e2, iv⟩ := op z f (xs (i + 1)) iv
  refine ⟨z2, f2, ?_, iv⟩
  have s1 : sl_ L xs (nI i + 1) = some (xs (i + 1)) := sl_at (k := 1) (by omega) hL
  unfold bL_law_18
  dsimp only
  rw [show Int32.ofNat L - 6 = nI (L - 6) from pk_sub (a := L) (b := 6) (by omega), if_neg (nI_nlt (by omega) (by omega)), sl_00 (by omega) hL, Option.bind_some, ho]
  rw [if_neg (show ¬ (nI 17 : Int32) = 0 by decide)]
  rw [if_neg (show ¬ (nI 17 : Int32) = 1 by decide)]
  rw [if_neg (show ¬ (nI 17 : Int32) = 2 by decide)]
  rw [if_neg (show ¬ (nI 17 : Int32) = 3 by decide)]
  rw [if_neg (show ¬ (nI 17 : Int32) = 4 by decide)]
  rw [if_neg (show ¬ (nI 17 : Int32) = 5 by decide)]
  rw [if_neg (show ¬ (nI 17 : Int32) = 6 by decide)]
  rw [if_neg (show ¬ (nI 17 : Int32) = 7 by decide)]
  rw [if_neg (show ¬ (nI 17 : Int32) = 8 by decide)]
  rw [if_neg (show ¬ (nI 17 : Int32) = 9 by decide)]
  rw [if_neg (show ¬ (nI 17 : Int32) = 10 by decide)]
  rw [if_neg (show ¬ (nI 17 : Int32) = 11 by decide)]
  rw [if_neg (show ¬ (nI 17 : Int32) = 12 by decide)]
  rw [if_neg (show ¬ (nI 17 : Int32) = 13 by decide)]
  rw [if_neg (show ¬ (nI 17 : Int32) = 14 by decide)]
  rw [if_neg (show ¬ (nI 17 : Int32) = 15 by decide)]
  rw [if_neg (show ¬ (nI 17 : Int32) = 16 by decide)]
  rw [if_pos (show (nI 17 : Int32) = 17 by decide)]
  simp only [s1, Option.bind_some, ob_0, ob_40, e1, e2]
  rw [if_pos trivial]
  exact jl_ L xs _ 0 40 i
set_option maxHeartbeats 4000000 in
set_option maxRecDepth 20000 in
theorem lc_kinds {L i : Nat} {xs : Nat → Int32} {z : Nat → Int32} {f : Nat → Nat → Int32} (hL : L ≤ 3072) (hi : i + 6 ≤ L) (ho : xs i &&& 31 = nI 18) (op : Op_kinds) (iv : Inv z f) : ∃ z2 f2, bL_law_18 L xs 0 40 (nI i, HH z f) = some (.inl (nI (i + 6), HH z2 f2)) ∧ Inv z2 f2 := by
  obtain ⟨r, z1, f1, z2, f2, e1, e2, iv⟩ := op z f (xs (i + 1)) iv
  refine ⟨z2, f2, ?_, iv⟩
  have s1 : sl_ L xs (nI i + 1) = some (xs (i + 1)) := sl_at (k := 1) (by omega) hL
  unfold bL_law_18
  dsimp only
  rw [show Int32.ofNat L - 6 = nI (L - 6) from pk_sub (a := L) (b := 6) (by omega), if_neg (nI_nlt (by omega) (by omega)), sl_00 (by omega) hL, Option.bind_some, ho]
  rw [if_neg (show ¬ (nI 18 : Int32) = 0 by decide)]
  rw [if_neg (show ¬ (nI 18 : Int32) = 1 by decide)]
  rw [if_neg (show ¬ (nI 18 : Int32) = 2 by decide)]
  rw [if_neg (show ¬ (nI 18 : Int32) = 3 by decide)]
  rw [if_neg (show ¬ (nI 18 : Int32) = 4 by decide)]
  rw [if_neg (show ¬ (nI 18 : Int32) = 5 by decide)]
  rw [if_neg (show ¬ (nI 18 : Int32) = 6 by decide)]
  rw [if_neg (show ¬ (nI 18 : Int32) = 7 by decide)]
  rw [if_neg (show ¬ (nI 18 : Int32) = 8 by decide)]
  rw [if_neg (show ¬ (nI 18 : Int32) = 9 by decide)]
  rw [if_neg (show ¬ (nI 18 : Int32) = 10 by decide)]
  rw [if_neg (show ¬ (nI 18 : Int32) = 11 by decide)]
  rw [if_neg (show ¬ (nI 18 : Int32) = 12 by decide)]
  rw [if_neg (show ¬ (nI 18 : Int32) = 13 by decide)]
  rw [if_neg (show ¬ (nI 18 : Int32) = 14 by decide)]
  rw [if_neg (show ¬ (nI 18 : Int32) = 15 by decide)]
  rw [if_neg (show ¬ (nI 18 : Int32) = 16 by decide)]
  rw [if_neg (show ¬ (nI 18 : Int32) = 17 by decide)]
  rw [if_pos (show (nI 18 : Int32) = 18 by decide)]
  simp only [s1, Option.bind_some, ob_0, ob_40, e1, e2]
  rw [if_pos trivial]
  exact jl_ L xs _ 0 40 i
set_option maxHeartbeats 4000000 in
set_option maxRecDepth 20000 in
theorem lc_odds {L i : Nat} {xs : Nat → Int32} {z : Nat → Int32} {f : Nat → Nat → Int32} (hL : L ≤ 3072) (hi : i + 6 ≤ L) (ho : xs i &&& 31 = nI 19) (op : Op_odds) (iv : Inv z f) : ∃ z2 f2, bL_law_18 L xs 0 40 (nI i, HH z f) = some (.inl (nI (i + 6), HH z2 f2)) ∧ Inv z2 f2 := by
  obtain ⟨r, e1, e2⟩ := op z f (xs (i + 1)) (xs (i + 2)) (xs (i + 3)) iv
  refine ⟨z, f, ?_, iv⟩
  have s1 : sl_ L xs (nI i + 1) = some (xs (i + 1)) := sl_at (k := 1) (by omega) hL
  have s2 : sl_ L xs (nI i + 2) = some (xs (i + 2)) := sl_at (k := 2) (by omega) hL
  have s3 : sl_ L xs (nI i + 3) = some (xs (i + 3)) := sl_at (k := 3) (by omega) hL
  unfold bL_law_18
  dsimp only
  rw [show Int32.ofNat L - 6 = nI (L - 6) from pk_sub (a := L) (b := 6) (by omega), if_neg (nI_nlt (by omega) (by omega)), sl_00 (by omega) hL, Option.bind_some, ho]
  rw [if_neg (show ¬ (nI 19 : Int32) = 0 by decide)]
  rw [if_neg (show ¬ (nI 19 : Int32) = 1 by decide)]
  rw [if_neg (show ¬ (nI 19 : Int32) = 2 by decide)]
  rw [if_neg (show ¬ (nI 19 : Int32) = 3 by decide)]
  rw [if_neg (show ¬ (nI 19 : Int32) = 4 by decide)]
  rw [if_neg (show ¬ (nI 19 : Int32) = 5 by decide)]
  rw [if_neg (show ¬ (nI 19 : Int32) = 6 by decide)]
  rw [if_neg (show ¬ (nI 19 : Int32) = 7 by decide)]
  rw [if_neg (show ¬ (nI 19 : Int32) = 8 by decide)]
  rw [if_neg (show ¬ (nI 19 : Int32) = 9 by decide)]
  rw [if_neg (show ¬ (nI 19 : Int32) = 10 by decide)]
  rw [if_neg (show ¬ (nI 19 : Int32) = 11 by decide)]
  rw [if_neg (show ¬ (nI 19 : Int32) = 12 by decide)]
  rw [if_neg (show ¬ (nI 19 : Int32) = 13 by decide)]
  rw [if_neg (show ¬ (nI 19 : Int32) = 14 by decide)]
  rw [if_neg (show ¬ (nI 19 : Int32) = 15 by decide)]
  rw [if_neg (show ¬ (nI 19 : Int32) = 16 by decide)]
  rw [if_neg (show ¬ (nI 19 : Int32) = 17 by decide)]
  rw [if_neg (show ¬ (nI 19 : Int32) = 18 by decide)]
  rw [if_pos (show (nI 19 : Int32) = 19 by decide)]
  simp only [s1, s2, s3, Option.bind_some, ob_0, ob_40, e1, e2]
  rw [show lg_cmp r r = 0 by simp [lg_cmp], if_pos rfl]
  exact jl_ L xs _ 0 40 i
set_option maxHeartbeats 4000000 in
set_option maxRecDepth 20000 in
theorem lc_sheet {L i : Nat} {xs : Nat → Int32} {z : Nat → Int32} {f : Nat → Nat → Int32} (hL : L ≤ 3072) (hi : i + 6 ≤ L) (ho : xs i &&& 31 = nI 20) (op : Op_sheet) (iv : Inv z f) : ∃ z2 f2, bL_law_18 L xs 0 40 (nI i, HH z f) = some (.inl (nI (i + 6), HH z2 f2)) ∧ Inv z2 f2 := by
  obtain ⟨r, z1, f1, z2, f2, e1, e2, iv⟩ := op z f (xs (i + 1)) (xs (i + 2)) (xs (i + 3)) iv
  refine ⟨z2, f2, ?_, iv⟩
  have s1 : sl_ L xs (nI i + 1) = some (xs (i + 1)) := sl_at (k := 1) (by omega) hL
  have s2 : sl_ L xs (nI i + 2) = some (xs (i + 2)) := sl_at (k := 2) (by omega) hL
  have s3 : sl_ L xs (nI i + 3) = some (xs (i + 3)) := sl_at (k := 3) (by omega) hL
  unfold bL_law_18
  dsimp only
  rw [show Int32.ofNat L - 6 = nI (L - 6) from pk_sub (a := L) (b := 6) (by omega), if_neg (nI_nlt (by omega) (by omega)), sl_00 (by omega) hL, Option.bind_some, ho]
  rw [if_neg (show ¬ (nI 20 : Int32) = 0 by decide)]
  rw [if_neg (show ¬ (nI 20 : Int32) = 1 by decide)]
  rw [if_neg (show ¬ (nI 20 : Int32) = 2 by decide)]
  rw [if_neg (show ¬ (nI 20 : Int32) = 3 by decide)]
  rw [if_neg (show ¬ (nI 20 : Int32) = 4 by decide)]
  rw [if_neg (show ¬ (nI 20 : Int32) = 5 by decide)]
  rw [if_neg (show ¬ (nI 20 : Int32) = 6 by decide)]
  rw [if_neg (show ¬ (nI 20 : Int32) = 7 by decide)]
  rw [if_neg (show ¬ (nI 20 : Int32) = 8 by decide)]
  rw [if_neg (show ¬ (nI 20 : Int32) = 9 by decide)]
  rw [if_neg (show ¬ (nI 20 : Int32) = 10 by decide)]
  rw [if_neg (show ¬ (nI 20 : Int32) = 11 by decide)]
  rw [if_neg (show ¬ (nI 20 : Int32) = 12 by decide)]
  rw [if_neg (show ¬ (nI 20 : Int32) = 13 by decide)]
  rw [if_neg (show ¬ (nI 20 : Int32) = 14 by decide)]
  rw [if_neg (show ¬ (nI 20 : Int32) = 15 by decide)]
  rw [if_neg (show ¬ (nI 20 : Int32) = 16 by decide)]
  rw [if_neg (show ¬ (nI 20 : Int32) = 17 by decide)]
  rw [if_neg (show ¬ (nI 20 : Int32) = 18 by decide)]
  rw [if_neg (show ¬ (nI 20 : Int32) = 19 by decide)]
  rw [if_pos (show (nI 20 : Int32) = 20 by decide)]
  simp only [s1, s2, s3, Option.bind_some, ob_0, ob_40, e1, e2]
  rw [if_pos trivial]
  exact jl_ L xs _ 0 40 i
set_option maxHeartbeats 4000000 in
set_option maxRecDepth 20000 in
theorem lc_lose {L i : Nat} {xs : Nat → Int32} {z : Nat → Int32} {f : Nat → Nat → Int32} (hL : L ≤ 3072) (hi : i + 6 ≤ L) (ho : xs i &&& 31 = nI 21) (op : Op_lose) (iv : Inv z f) : ∃ z2 f2, bL_law_18 L xs 0 40 (nI i, HH z f) = some (.inl (nI (i + 6), HH z2 f2)) ∧ Inv z2 f2 := by
  obtain ⟨r, z1, f1, z2, f2, e1, e2, iv⟩ := op z f (xs (i + 1)) iv
  refine ⟨z2, f2, ?_, iv⟩
  have s1 : sl_ L xs (nI i + 1) = some (xs (i + 1)) := sl_at (k := 1) (by omega) hL
  unfold bL_law_18
  dsimp only
  rw [show Int32.ofNat L - 6 = nI (L - 6) from pk_sub (a := L) (b := 6) (by omega), if_neg (nI_nlt (by omega) (by omega)), sl_00 (by omega) hL, Option.bind_some, ho]
  rw [if_neg (show ¬ (nI 21 : Int32) = 0 by decide)]
  rw [if_neg (show ¬ (nI 21 : Int32) = 1 by decide)]
  rw [if_neg (show ¬ (nI 21 : Int32) = 2 by decide)]
  rw [if_neg (show ¬ (nI 21 : Int32) = 3 by decide)]
  rw [if_neg (show ¬ (nI 21 : Int32) = 4 by decide)]
  rw [if_neg (show ¬ (nI 21 : Int32) = 5 by decide)]
  rw [if_neg (show ¬ (nI 21 : Int32) = 6 by decide)]
  rw [if_neg (show ¬ (nI 21 : Int32) = 7 by decide)]
  rw [if_neg (show ¬ (nI 21 : Int32) = 8 by decide)]
  rw [if_neg (show ¬ (nI 21 : Int32) = 9 by decide)]
  rw [if_neg (show ¬ (nI 21 : Int32) = 10 by decide)]
  rw [if_neg (show ¬ (nI 21 : Int32) = 11 by decide)]
  rw [if_neg (show ¬ (nI 21 : Int32) = 12 by decide)]
  rw [if_neg (show ¬ (nI 21 : Int32) = 13 by decide)]
  rw [if_neg (show ¬ (nI 21 : Int32) = 14 by decide)]
  rw [if_neg (show ¬ (nI 21 : Int32) = 15 by decide)]
  rw [if_neg (show ¬ (nI 21 : Int32) = 16 by decide)]
  rw [if_neg (show ¬ (nI 21 : Int32) = 17 by decide)]
  rw [if_neg (show ¬ (nI 21 : Int32) = 18 by decide)]
  rw [if_neg (show ¬ (nI 21 : Int32) = 19 by decide)]
  rw [if_neg (show ¬ (nI 21 : Int32) = 20 by decide)]
  rw [if_pos (show (nI 21 : Int32) = 21 by decide)]
  simp only [s1, Option.bind_some, ob_0, ob_40, e1, e2]
  rw [if_pos trivial]
  exact jl_ L xs _ 0 40 i
set_option maxHeartbeats 4000000 in
set_option maxRecDepth 20000 in
theorem lc_put {L i : Nat} {xs : Nat → Int32} {z : Nat → Int32} {f : Nat → Nat → Int32} (hL : L ≤ 3072) (hi : i + 6 ≤ L) (ho : xs i &&& 31 = nI 22) (op : Op_put) (iv : Inv z f) : ∃ z2 f2, bL_law_18 L xs 0 40 (nI i, HH z f) = some (.inl (nI (i + 6), HH z2 f2)) ∧ Inv z2 f2 := by
  obtain ⟨r, z1, f1, z2, f2, e1, e2, iv⟩ := op z f (xs (i + 1)) (xs (i + 2)) (xs (i + 3)) iv
  refine ⟨z2, f2, ?_, iv⟩
  have s1 : sl_ L xs (nI i + 1) = some (xs (i + 1)) := sl_at (k := 1) (by omega) hL
  have s2 : sl_ L xs (nI i + 2) = some (xs (i + 2)) := sl_at (k := 2) (by omega) hL
  have s3 : sl_ L xs (nI i + 3) = some (xs (i + 3)) := sl_at (k := 3) (by omega) hL
  unfold bL_law_18
  dsimp only
  rw [show Int32.ofNat L - 6 = nI (L - 6) from pk_sub (a := L) (b := 6) (by omega), if_neg (nI_nlt (by omega) (by omega)), sl_00 (by omega) hL, Option.bind_some, ho]
  rw [if_neg (show ¬ (nI 22 : Int32) = 0 by decide)]
  rw [if_neg (show ¬ (nI 22 : Int32) = 1 by decide)]
  rw [if_neg (show ¬ (nI 22 : Int32) = 2 by decide)]
  rw [if_neg (show ¬ (nI 22 : Int32) = 3 by decide)]
  rw [if_neg (show ¬ (nI 22 : Int32) = 4 by decide)]
  rw [if_neg (show ¬ (nI 22 : Int32) = 5 by decide)]
  rw [if_neg (show ¬ (nI 22 : Int32) = 6 by decide)]
  rw [if_neg (show ¬ (nI 22 : Int32) = 7 by decide)]
  rw [if_neg (show ¬ (nI 22 : Int32) = 8 by decide)]
  rw [if_neg (show ¬ (nI 22 : Int32) = 9 by decide)]
  rw [if_neg (show ¬ (nI 22 : Int32) = 10 by decide)]
  rw [if_neg (show ¬ (nI 22 : Int32) = 11 by decide)]
  rw [if_neg (show ¬ (nI 22 : Int32) = 12 by decide)]
  rw [if_neg (show ¬ (nI 22 : Int32) = 13 by decide)]
  rw [if_neg (show ¬ (nI 22 : Int32) = 14 by decide)]
  rw [if_neg (show ¬ (nI 22 : Int32) = 15 by decide)]
  rw [if_neg (show ¬ (nI 22 : Int32) = 16 by decide)]
  rw [if_neg (show ¬ (nI 22 : Int32) = 17 by decide)]
  rw [if_neg (show ¬ (nI 22 : Int32) = 18 by decide)]
  rw [if_neg (show ¬ (nI 22 : Int32) = 19 by decide)]
  rw [if_neg (show ¬ (nI 22 : Int32) = 20 by decide)]
  rw [if_neg (show ¬ (nI 22 : Int32) = 21 by decide)]
  rw [if_pos (show (nI 22 : Int32) = 22 by decide)]
  simp only [s1, s2, s3, Option.bind_some, ob_0, ob_40, e1, e2]
  rw [if_pos trivial]
  exact jl_ L xs _ 0 40 i
set_option maxHeartbeats 4000000 in
set_option maxRecDepth 20000 in
theorem lc_cell {L i : Nat} {xs : Nat → Int32} {z : Nat → Int32} {f : Nat → Nat → Int32} (hL : L ≤ 3072) (hi : i + 6 ≤ L) (ho : xs i &&& 31 = nI 23) (op : Op_cell) (iv : Inv z f) : ∃ z2 f2, bL_law_18 L xs 0 40 (nI i, HH z f) = some (.inl (nI (i + 6), HH z2 f2)) ∧ Inv z2 f2 := by
  obtain ⟨r, z1, f1, z2, f2, e1, e2, iv⟩ := op z f (xs (i + 1)) (xs (i + 2)) (xs (i + 3)) iv
  refine ⟨z2, f2, ?_, iv⟩
  have s1 : sl_ L xs (nI i + 1) = some (xs (i + 1)) := sl_at (k := 1) (by omega) hL
  have s2 : sl_ L xs (nI i + 2) = some (xs (i + 2)) := sl_at (k := 2) (by omega) hL
  have s3 : sl_ L xs (nI i + 3) = some (xs (i + 3)) := sl_at (k := 3) (by omega) hL
  unfold bL_law_18
  dsimp only
  rw [show Int32.ofNat L - 6 = nI (L - 6) from pk_sub (a := L) (b := 6) (by omega), if_neg (nI_nlt (by omega) (by omega)), sl_00 (by omega) hL, Option.bind_some, ho]
  rw [if_neg (show ¬ (nI 23 : Int32) = 0 by decide)]
  rw [if_neg (show ¬ (nI 23 : Int32) = 1 by decide)]
  rw [if_neg (show ¬ (nI 23 : Int32) = 2 by decide)]
  rw [if_neg (show ¬ (nI 23 : Int32) = 3 by decide)]
  rw [if_neg (show ¬ (nI 23 : Int32) = 4 by decide)]
  rw [if_neg (show ¬ (nI 23 : Int32) = 5 by decide)]
  rw [if_neg (show ¬ (nI 23 : Int32) = 6 by decide)]
  rw [if_neg (show ¬ (nI 23 : Int32) = 7 by decide)]
  rw [if_neg (show ¬ (nI 23 : Int32) = 8 by decide)]
  rw [if_neg (show ¬ (nI 23 : Int32) = 9 by decide)]
  rw [if_neg (show ¬ (nI 23 : Int32) = 10 by decide)]
  rw [if_neg (show ¬ (nI 23 : Int32) = 11 by decide)]
  rw [if_neg (show ¬ (nI 23 : Int32) = 12 by decide)]
  rw [if_neg (show ¬ (nI 23 : Int32) = 13 by decide)]
  rw [if_neg (show ¬ (nI 23 : Int32) = 14 by decide)]
  rw [if_neg (show ¬ (nI 23 : Int32) = 15 by decide)]
  rw [if_neg (show ¬ (nI 23 : Int32) = 16 by decide)]
  rw [if_neg (show ¬ (nI 23 : Int32) = 17 by decide)]
  rw [if_neg (show ¬ (nI 23 : Int32) = 18 by decide)]
  rw [if_neg (show ¬ (nI 23 : Int32) = 19 by decide)]
  rw [if_neg (show ¬ (nI 23 : Int32) = 20 by decide)]
  rw [if_neg (show ¬ (nI 23 : Int32) = 21 by decide)]
  rw [if_neg (show ¬ (nI 23 : Int32) = 22 by decide)]
  rw [if_pos (show (nI 23 : Int32) = 23 by decide)]
  simp only [s1, s2, s3, Option.bind_some, ob_0, ob_40, e1, e2]
  rw [show lg_cmp r r = 0 by simp [lg_cmp], if_pos rfl]
  exact jl_ L xs _ 0 40 i
set_option maxHeartbeats 4000000 in
set_option maxRecDepth 20000 in
theorem lc_copy {L i : Nat} {xs : Nat → Int32} {z : Nat → Int32} {f : Nat → Nat → Int32} (hL : L ≤ 3072) (hi : i + 6 ≤ L) (ho : xs i &&& 31 = nI 24) (op : Op_copy) (iv : Inv z f) : ∃ z2 f2, bL_law_18 L xs 0 40 (nI i, HH z f) = some (.inl (nI (i + 6), HH z2 f2)) ∧ Inv z2 f2 := by
  obtain ⟨r, z1, f1, z2, f2, e1, e2, iv⟩ := op z f (xs (i + 1)) (xs (i + 2)) (xs (i + 3)) (xs (i + 4)) (xs (i + 5)) iv
  refine ⟨z2, f2, ?_, iv⟩
  have s1 : sl_ L xs (nI i + 1) = some (xs (i + 1)) := sl_at (k := 1) (by omega) hL
  have s2 : sl_ L xs (nI i + 2) = some (xs (i + 2)) := sl_at (k := 2) (by omega) hL
  have s3 : sl_ L xs (nI i + 3) = some (xs (i + 3)) := sl_at (k := 3) (by omega) hL
  have s4 : sl_ L xs (nI i + 4) = some (xs (i + 4)) := sl_at (k := 4) (by omega) hL
  have s5 : sl_ L xs (nI i + 5) = some (xs (i + 5)) := sl_at (k := 5) (by omega) hL
  unfold bL_law_18
  dsimp only
  rw [show Int32.ofNat L - 6 = nI (L - 6) from pk_sub (a := L) (b := 6) (by omega), if_neg (nI_nlt (by omega) (by omega)), sl_00 (by omega) hL, Option.bind_some, ho]
  rw [if_neg (show ¬ (nI 24 : Int32) = 0 by decide)]
  rw [if_neg (show ¬ (nI 24 : Int32) = 1 by decide)]
  rw [if_neg (show ¬ (nI 24 : Int32) = 2 by decide)]
  rw [if_neg (show ¬ (nI 24 : Int32) = 3 by decide)]
  rw [if_neg (show ¬ (nI 24 : Int32) = 4 by decide)]
  rw [if_neg (show ¬ (nI 24 : Int32) = 5 by decide)]
  rw [if_neg (show ¬ (nI 24 : Int32) = 6 by decide)]
  rw [if_neg (show ¬ (nI 24 : Int32) = 7 by decide)]
  rw [if_neg (show ¬ (nI 24 : Int32) = 8 by decide)]
  rw [if_neg (show ¬ (nI 24 : Int32) = 9 by decide)]
  rw [if_neg (show ¬ (nI 24 : Int32) = 10 by decide)]
  rw [if_neg (show ¬ (nI 24 : Int32) = 11 by decide)]
  rw [if_neg (show ¬ (nI 24 : Int32) = 12 by decide)]
  rw [if_neg (show ¬ (nI 24 : Int32) = 13 by decide)]
  rw [if_neg (show ¬ (nI 24 : Int32) = 14 by decide)]
  rw [if_neg (show ¬ (nI 24 : Int32) = 15 by decide)]
  rw [if_neg (show ¬ (nI 24 : Int32) = 16 by decide)]
  rw [if_neg (show ¬ (nI 24 : Int32) = 17 by decide)]
  rw [if_neg (show ¬ (nI 24 : Int32) = 18 by decide)]
  rw [if_neg (show ¬ (nI 24 : Int32) = 19 by decide)]
  rw [if_neg (show ¬ (nI 24 : Int32) = 20 by decide)]
  rw [if_neg (show ¬ (nI 24 : Int32) = 21 by decide)]
  rw [if_neg (show ¬ (nI 24 : Int32) = 22 by decide)]
  rw [if_neg (show ¬ (nI 24 : Int32) = 23 by decide)]
  rw [if_pos (show (nI 24 : Int32) = 24 by decide)]
  simp only [s1, s2, s3, s4, s5, Option.bind_some, ob_0, ob_40, e1, e2]
  rw [if_pos trivial]
  exact jl_ L xs _ 0 40 i
set_option maxHeartbeats 4000000 in
set_option maxRecDepth 20000 in
theorem lc_tell {L i : Nat} {xs : Nat → Int32} {z : Nat → Int32} {f : Nat → Nat → Int32} (hL : L ≤ 3072) (hi : i + 6 ≤ L) (ho : xs i &&& 31 = nI 25) (op : Op_tell) (iv : Inv z f) : ∃ z2 f2, bL_law_18 L xs 0 40 (nI i, HH z f) = some (.inl (nI (i + 6), HH z2 f2)) ∧ Inv z2 f2 := by
  obtain ⟨r, z1, f1, z2, f2, e1, e2, iv⟩ := op z f (xs (i + 1)) iv
  refine ⟨z2, f2, ?_, iv⟩
  have s1 : sl_ L xs (nI i + 1) = some (xs (i + 1)) := sl_at (k := 1) (by omega) hL
  unfold bL_law_18
  dsimp only
  rw [show Int32.ofNat L - 6 = nI (L - 6) from pk_sub (a := L) (b := 6) (by omega), if_neg (nI_nlt (by omega) (by omega)), sl_00 (by omega) hL, Option.bind_some, ho]
  rw [if_neg (show ¬ (nI 25 : Int32) = 0 by decide)]
  rw [if_neg (show ¬ (nI 25 : Int32) = 1 by decide)]
  rw [if_neg (show ¬ (nI 25 : Int32) = 2 by decide)]
  rw [if_neg (show ¬ (nI 25 : Int32) = 3 by decide)]
  rw [if_neg (show ¬ (nI 25 : Int32) = 4 by decide)]
  rw [if_neg (show ¬ (nI 25 : Int32) = 5 by decide)]
  rw [if_neg (show ¬ (nI 25 : Int32) = 6 by decide)]
  rw [if_neg (show ¬ (nI 25 : Int32) = 7 by decide)]
  rw [if_neg (show ¬ (nI 25 : Int32) = 8 by decide)]
  rw [if_neg (show ¬ (nI 25 : Int32) = 9 by decide)]
  rw [if_neg (show ¬ (nI 25 : Int32) = 10 by decide)]
  rw [if_neg (show ¬ (nI 25 : Int32) = 11 by decide)]
  rw [if_neg (show ¬ (nI 25 : Int32) = 12 by decide)]
  rw [if_neg (show ¬ (nI 25 : Int32) = 13 by decide)]
  rw [if_neg (show ¬ (nI 25 : Int32) = 14 by decide)]
  rw [if_neg (show ¬ (nI 25 : Int32) = 15 by decide)]
  rw [if_neg (show ¬ (nI 25 : Int32) = 16 by decide)]
  rw [if_neg (show ¬ (nI 25 : Int32) = 17 by decide)]
  rw [if_neg (show ¬ (nI 25 : Int32) = 18 by decide)]
  rw [if_neg (show ¬ (nI 25 : Int32) = 19 by decide)]
  rw [if_neg (show ¬ (nI 25 : Int32) = 20 by decide)]
  rw [if_neg (show ¬ (nI 25 : Int32) = 21 by decide)]
  rw [if_neg (show ¬ (nI 25 : Int32) = 22 by decide)]
  rw [if_neg (show ¬ (nI 25 : Int32) = 23 by decide)]
  rw [if_neg (show ¬ (nI 25 : Int32) = 24 by decide)]
  rw [if_pos (show (nI 25 : Int32) = 25 by decide)]
  simp only [s1, Option.bind_some, ob_0, ob_40, e1, e2]
  rw [if_pos trivial]
  exact jl_ L xs _ 0 40 i
set_option maxHeartbeats 4000000 in
set_option maxRecDepth 20000 in
theorem lc_wave {L i : Nat} {xs : Nat → Int32} {z : Nat → Int32} {f : Nat → Nat → Int32} (hL : L ≤ 3072) (hi : i + 6 ≤ L) (ho : xs i &&& 31 = nI 26) (op : Op_wave) (iv : Inv z f) : ∃ z2 f2, bL_law_18 L xs 0 40 (nI i, HH z f) = some (.inl (nI (i + 6), HH z2 f2)) ∧ Inv z2 f2 := by
  obtain ⟨r, z1, f1, z2, f2, e1, e2, iv⟩ := op z f (xs (i + 1)) iv
  refine ⟨z2, f2, ?_, iv⟩
  have s1 : sl_ L xs (nI i + 1) = some (xs (i + 1)) := sl_at (k := 1) (by omega) hL
  unfold bL_law_18
  dsimp only
  rw [show Int32.ofNat L - 6 = nI (L - 6) from pk_sub (a := L) (b := 6) (by omega), if_neg (nI_nlt (by omega) (by omega)), sl_00 (by omega) hL, Option.bind_some, ho]
  rw [if_neg (show ¬ (nI 26 : Int32) = 0 by decide)]
  rw [if_neg (show ¬ (nI 26 : Int32) = 1 by decide)]
  rw [if_neg (show ¬ (nI 26 : Int32) = 2 by decide)]
  rw [if_neg (show ¬ (nI 26 : Int32) = 3 by decide)]
  rw [if_neg (show ¬ (nI 26 : Int32) = 4 by decide)]
  rw [if_neg (show ¬ (nI 26 : Int32) = 5 by decide)]
  rw [if_neg (show ¬ (nI 26 : Int32) = 6 by decide)]
  rw [if_neg (show ¬ (nI 26 : Int32) = 7 by decide)]
  rw [if_neg (show ¬ (nI 26 : Int32) = 8 by decide)]
  rw [if_neg (show ¬ (nI 26 : Int32) = 9 by decide)]
  rw [if_neg (show ¬ (nI 26 : Int32) = 10 by decide)]
  rw [if_neg (show ¬ (nI 26 : Int32) = 11 by decide)]
  rw [if_neg (show ¬ (nI 26 : Int32) = 12 by decide)]
  rw [if_neg (show ¬ (nI 26 : Int32) = 13 by decide)]
  rw [if_neg (show ¬ (nI 26 : Int32) = 14 by decide)]
  rw [if_neg (show ¬ (nI 26 : Int32) = 15 by decide)]
  rw [if_neg (show ¬ (nI 26 : Int32) = 16 by decide)]
  rw [if_neg (show ¬ (nI 26 : Int32) = 17 by decide)]
  rw [if_neg (show ¬ (nI 26 : Int32) = 18 by decide)]
  rw [if_neg (show ¬ (nI 26 : Int32) = 19 by decide)]
  rw [if_neg (show ¬ (nI 26 : Int32) = 20 by decide)]
  rw [if_neg (show ¬ (nI 26 : Int32) = 21 by decide)]
  rw [if_neg (show ¬ (nI 26 : Int32) = 22 by decide)]
  rw [if_neg (show ¬ (nI 26 : Int32) = 23 by decide)]
  rw [if_neg (show ¬ (nI 26 : Int32) = 24 by decide)]
  rw [if_neg (show ¬ (nI 26 : Int32) = 25 by decide)]
  rw [if_pos (show (nI 26 : Int32) = 26 by decide)]
  simp only [s1, Option.bind_some, ob_0, ob_40, e1, e2]
  rw [if_pos trivial]
  exact jl_ L xs _ 0 40 i
set_option maxHeartbeats 4000000 in
set_option maxRecDepth 20000 in
theorem lc_as {L i : Nat} {xs : Nat → Int32} {z : Nat → Int32} {f : Nat → Nat → Int32} (hL : L ≤ 3072) (hi : i + 6 ≤ L) (ho : xs i &&& 31 = nI 27) (op : Op_as) (iv : Inv z f) : ∃ z2 f2, bL_law_18 L xs 0 40 (nI i, HH z f) = some (.inl (nI (i + 6), HH z2 f2)) ∧ Inv z2 f2 := by
  obtain ⟨r, z1, f1, z2, f2, e1, e2, iv⟩ := op z f (xs (i + 1)) (xs (i + 2)) iv
  refine ⟨z2, f2, ?_, iv⟩
  have s1 : sl_ L xs (nI i + 1) = some (xs (i + 1)) := sl_at (k := 1) (by omega) hL
  have s2 : sl_ L xs (nI i + 2) = some (xs (i + 2)) := sl_at (k := 2) (by omega) hL
  unfold bL_law_18
  dsimp only
  rw [show Int32.ofNat L - 6 = nI (L - 6) from pk_sub (a := L) (b := 6) (by omega), if_neg (nI_nlt (by omega) (by omega)), sl_00 (by omega) hL, Option.bind_some, ho]
  rw [if_neg (show ¬ (nI 27 : Int32) = 0 by decide)]
  rw [if_neg (show ¬ (nI 27 : Int32) = 1 by decide)]
  rw [if_neg (show ¬ (nI 27 : Int32) = 2 by decide)]
  rw [if_neg (show ¬ (nI 27 : Int32) = 3 by decide)]
  rw [if_neg (show ¬ (nI 27 : Int32) = 4 by decide)]
  rw [if_neg (show ¬ (nI 27 : Int32) = 5 by decide)]
  rw [if_neg (show ¬ (nI 27 : Int32) = 6 by decide)]
  rw [if_neg (show ¬ (nI 27 : Int32) = 7 by decide)]
  rw [if_neg (show ¬ (nI 27 : Int32) = 8 by decide)]
  rw [if_neg (show ¬ (nI 27 : Int32) = 9 by decide)]
  rw [if_neg (show ¬ (nI 27 : Int32) = 10 by decide)]
  rw [if_neg (show ¬ (nI 27 : Int32) = 11 by decide)]
  rw [if_neg (show ¬ (nI 27 : Int32) = 12 by decide)]
  rw [if_neg (show ¬ (nI 27 : Int32) = 13 by decide)]
  rw [if_neg (show ¬ (nI 27 : Int32) = 14 by decide)]
  rw [if_neg (show ¬ (nI 27 : Int32) = 15 by decide)]
  rw [if_neg (show ¬ (nI 27 : Int32) = 16 by decide)]
  rw [if_neg (show ¬ (nI 27 : Int32) = 17 by decide)]
  rw [if_neg (show ¬ (nI 27 : Int32) = 18 by decide)]
  rw [if_neg (show ¬ (nI 27 : Int32) = 19 by decide)]
  rw [if_neg (show ¬ (nI 27 : Int32) = 20 by decide)]
  rw [if_neg (show ¬ (nI 27 : Int32) = 21 by decide)]
  rw [if_neg (show ¬ (nI 27 : Int32) = 22 by decide)]
  rw [if_neg (show ¬ (nI 27 : Int32) = 23 by decide)]
  rw [if_neg (show ¬ (nI 27 : Int32) = 24 by decide)]
  rw [if_neg (show ¬ (nI 27 : Int32) = 25 by decide)]
  rw [if_neg (show ¬ (nI 27 : Int32) = 26 by decide)]
  rw [if_pos (show (nI 27 : Int32) = 27 by decide)]
  simp only [s1, s2, Option.bind_some, ob_0, ob_40, e1, e2]
  rw [if_pos trivial]
  exact jl_ L xs _ 0 40 i
set_option maxHeartbeats 4000000 in
set_option maxRecDepth 20000 in
theorem lc_trace {L i : Nat} {xs : Nat → Int32} {z : Nat → Int32} {f : Nat → Nat → Int32} (hL : L ≤ 3072) (hi : i + 6 ≤ L) (ho : xs i &&& 31 = nI 28) (op : Op_trace) (iv : Inv z f) : ∃ z2 f2, bL_law_18 L xs 0 40 (nI i, HH z f) = some (.inl (nI (i + 6), HH z2 f2)) ∧ Inv z2 f2 := by
  obtain ⟨r, e1, e2⟩ := op z f  iv
  refine ⟨z, f, ?_, iv⟩

  unfold bL_law_18
  dsimp only
  rw [show Int32.ofNat L - 6 = nI (L - 6) from pk_sub (a := L) (b := 6) (by omega), if_neg (nI_nlt (by omega) (by omega)), sl_00 (by omega) hL, Option.bind_some, ho]
  rw [if_neg (show ¬ (nI 28 : Int32) = 0 by decide)]
  rw [if_neg (show ¬ (nI 28 : Int32) = 1 by decide)]
  rw [if_neg (show ¬ (nI 28 : Int32) = 2 by decide)]
  rw [if_neg (show ¬ (nI 28 : Int32) = 3 by decide)]
  rw [if_neg (show ¬ (nI 28 : Int32) = 4 by decide)]
  rw [if_neg (show ¬ (nI 28 : Int32) = 5 by decide)]
  rw [if_neg (show ¬ (nI 28 : Int32) = 6 by decide)]
  rw [if_neg (show ¬ (nI 28 : Int32) = 7 by decide)]
  rw [if_neg (show ¬ (nI 28 : Int32) = 8 by decide)]
  rw [if_neg (show ¬ (nI 28 : Int32) = 9 by decide)]
  rw [if_neg (show ¬ (nI 28 : Int32) = 10 by decide)]
  rw [if_neg (show ¬ (nI 28 : Int32) = 11 by decide)]
  rw [if_neg (show ¬ (nI 28 : Int32) = 12 by decide)]
  rw [if_neg (show ¬ (nI 28 : Int32) = 13 by decide)]
  rw [if_neg (show ¬ (nI 28 : Int32) = 14 by decide)]
  rw [if_neg (show ¬ (nI 28 : Int32) = 15 by decide)]
  rw [if_neg (show ¬ (nI 28 : Int32) = 16 by decide)]
  rw [if_neg (show ¬ (nI 28 : Int32) = 17 by decide)]
  rw [if_neg (show ¬ (nI 28 : Int32) = 18 by decide)]
  rw [if_neg (show ¬ (nI 28 : Int32) = 19 by decide)]
  rw [if_neg (show ¬ (nI 28 : Int32) = 20 by decide)]
  rw [if_neg (show ¬ (nI 28 : Int32) = 21 by decide)]
  rw [if_neg (show ¬ (nI 28 : Int32) = 22 by decide)]
  rw [if_neg (show ¬ (nI 28 : Int32) = 23 by decide)]
  rw [if_neg (show ¬ (nI 28 : Int32) = 24 by decide)]
  rw [if_neg (show ¬ (nI 28 : Int32) = 25 by decide)]
  rw [if_neg (show ¬ (nI 28 : Int32) = 26 by decide)]
  rw [if_neg (show ¬ (nI 28 : Int32) = 27 by decide)]
  rw [if_pos (show (nI 28 : Int32) = 28 by decide)]
  simp only [Option.bind_some, ob_0, ob_40, e1, e2]
  rw [if_pos trivial]
  exact jl_ L xs _ 0 40 i
set_option maxHeartbeats 4000000 in
set_option maxRecDepth 20000 in
theorem lc_fault {L i : Nat} {xs : Nat → Int32} {z : Nat → Int32} {f : Nat → Nat → Int32} (hL : L ≤ 3072) (hi : i + 6 ≤ L) (ho : xs i &&& 31 = nI 29) (op : Op_fault) (iv : Inv z f) : ∃ z2 f2, bL_law_18 L xs 0 40 (nI i, HH z f) = some (.inl (nI (i + 6), HH z2 f2)) ∧ Inv z2 f2 := by
  obtain ⟨r, e1, e2⟩ := op z f  iv
  refine ⟨z, f, ?_, iv⟩

  unfold bL_law_18
  dsimp only
  rw [show Int32.ofNat L - 6 = nI (L - 6) from pk_sub (a := L) (b := 6) (by omega), if_neg (nI_nlt (by omega) (by omega)), sl_00 (by omega) hL, Option.bind_some, ho]
  rw [if_neg (show ¬ (nI 29 : Int32) = 0 by decide)]
  rw [if_neg (show ¬ (nI 29 : Int32) = 1 by decide)]
  rw [if_neg (show ¬ (nI 29 : Int32) = 2 by decide)]
  rw [if_neg (show ¬ (nI 29 : Int32) = 3 by decide)]
  rw [if_neg (show ¬ (nI 29 : Int32) = 4 by decide)]
  rw [if_neg (show ¬ (nI 29 : Int32) = 5 by decide)]
  rw [if_neg (show ¬ (nI 29 : Int32) = 6 by decide)]
  rw [if_neg (show ¬ (nI 29 : Int32) = 7 by decide)]
  rw [if_neg (show ¬ (nI 29 : Int32) = 8 by decide)]
  rw [if_neg (show ¬ (nI 29 : Int32) = 9 by decide)]
  rw [if_neg (show ¬ (nI 29 : Int32) = 10 by decide)]
  rw [if_neg (show ¬ (nI 29 : Int32) = 11 by decide)]
  rw [if_neg (show ¬ (nI 29 : Int32) = 12 by decide)]
  rw [if_neg (show ¬ (nI 29 : Int32) = 13 by decide)]
  rw [if_neg (show ¬ (nI 29 : Int32) = 14 by decide)]
  rw [if_neg (show ¬ (nI 29 : Int32) = 15 by decide)]
  rw [if_neg (show ¬ (nI 29 : Int32) = 16 by decide)]
  rw [if_neg (show ¬ (nI 29 : Int32) = 17 by decide)]
  rw [if_neg (show ¬ (nI 29 : Int32) = 18 by decide)]
  rw [if_neg (show ¬ (nI 29 : Int32) = 19 by decide)]
  rw [if_neg (show ¬ (nI 29 : Int32) = 20 by decide)]
  rw [if_neg (show ¬ (nI 29 : Int32) = 21 by decide)]
  rw [if_neg (show ¬ (nI 29 : Int32) = 22 by decide)]
  rw [if_neg (show ¬ (nI 29 : Int32) = 23 by decide)]
  rw [if_neg (show ¬ (nI 29 : Int32) = 24 by decide)]
  rw [if_neg (show ¬ (nI 29 : Int32) = 25 by decide)]
  rw [if_neg (show ¬ (nI 29 : Int32) = 26 by decide)]
  rw [if_neg (show ¬ (nI 29 : Int32) = 27 by decide)]
  rw [if_neg (show ¬ (nI 29 : Int32) = 28 by decide)]
  rw [if_pos (show (nI 29 : Int32) = 29 by decide)]
  simp only [Option.bind_some, ob_0, ob_40, e1, e2]
  rw [if_pos trivial]
  exact jl_ L xs _ 0 40 i
set_option maxHeartbeats 4000000 in
set_option maxRecDepth 20000 in
theorem lc_many {L i : Nat} {xs : Nat → Int32} {z : Nat → Int32} {f : Nat → Nat → Int32} (hL : L ≤ 3072) (hi : i + 6 ≤ L) (ho : xs i &&& 31 = nI 30) (op : Op_many) (iv : Inv z f) : ∃ z2 f2, bL_law_18 L xs 0 40 (nI i, HH z f) = some (.inl (nI (i + 6), HH z2 f2)) ∧ Inv z2 f2 := by
  obtain ⟨r, e1, e2⟩ := op z f (xs (i + 1)) iv
  refine ⟨z, f, ?_, iv⟩
  have s1 : sl_ L xs (nI i + 1) = some (xs (i + 1)) := sl_at (k := 1) (by omega) hL
  unfold bL_law_18
  dsimp only
  rw [show Int32.ofNat L - 6 = nI (L - 6) from pk_sub (a := L) (b := 6) (by omega), if_neg (nI_nlt (by omega) (by omega)), sl_00 (by omega) hL, Option.bind_some, ho]
  rw [if_neg (show ¬ (nI 30 : Int32) = 0 by decide)]
  rw [if_neg (show ¬ (nI 30 : Int32) = 1 by decide)]
  rw [if_neg (show ¬ (nI 30 : Int32) = 2 by decide)]
  rw [if_neg (show ¬ (nI 30 : Int32) = 3 by decide)]
  rw [if_neg (show ¬ (nI 30 : Int32) = 4 by decide)]
  rw [if_neg (show ¬ (nI 30 : Int32) = 5 by decide)]
  rw [if_neg (show ¬ (nI 30 : Int32) = 6 by decide)]
  rw [if_neg (show ¬ (nI 30 : Int32) = 7 by decide)]
  rw [if_neg (show ¬ (nI 30 : Int32) = 8 by decide)]
  rw [if_neg (show ¬ (nI 30 : Int32) = 9 by decide)]
  rw [if_neg (show ¬ (nI 30 : Int32) = 10 by decide)]
  rw [if_neg (show ¬ (nI 30 : Int32) = 11 by decide)]
  rw [if_neg (show ¬ (nI 30 : Int32) = 12 by decide)]
  rw [if_neg (show ¬ (nI 30 : Int32) = 13 by decide)]
  rw [if_neg (show ¬ (nI 30 : Int32) = 14 by decide)]
  rw [if_neg (show ¬ (nI 30 : Int32) = 15 by decide)]
  rw [if_neg (show ¬ (nI 30 : Int32) = 16 by decide)]
  rw [if_neg (show ¬ (nI 30 : Int32) = 17 by decide)]
  rw [if_neg (show ¬ (nI 30 : Int32) = 18 by decide)]
  rw [if_neg (show ¬ (nI 30 : Int32) = 19 by decide)]
  rw [if_neg (show ¬ (nI 30 : Int32) = 20 by decide)]
  rw [if_neg (show ¬ (nI 30 : Int32) = 21 by decide)]
  rw [if_neg (show ¬ (nI 30 : Int32) = 22 by decide)]
  rw [if_neg (show ¬ (nI 30 : Int32) = 23 by decide)]
  rw [if_neg (show ¬ (nI 30 : Int32) = 24 by decide)]
  rw [if_neg (show ¬ (nI 30 : Int32) = 25 by decide)]
  rw [if_neg (show ¬ (nI 30 : Int32) = 26 by decide)]
  rw [if_neg (show ¬ (nI 30 : Int32) = 27 by decide)]
  rw [if_neg (show ¬ (nI 30 : Int32) = 28 by decide)]
  rw [if_neg (show ¬ (nI 30 : Int32) = 29 by decide)]
  rw [if_pos (show (nI 30 : Int32) = 30 by decide)]
  simp only [s1, Option.bind_some, ob_0, ob_40, e1, e2]
  rw [if_pos trivial]
  exact jl_ L xs _ 0 40 i
set_option maxHeartbeats 4000000 in
set_option maxRecDepth 20000 in
theorem lc_none {L i : Nat} {xs : Nat → Int32} {z : Nat → Int32} {f : Nat → Nat → Int32} (hL : L ≤ 3072) (hi : i + 6 ≤ L) (ho : xs i &&& 31 = nI 31) (iv : Inv z f) : ∃ z2 f2, bL_law_18 L xs 0 40 (nI i, HH z f) = some (.inl (nI (i + 6), HH z2 f2)) ∧ Inv z2 f2 := by
  refine ⟨z, f, ?_, iv⟩
  unfold bL_law_18
  dsimp only
  rw [show Int32.ofNat L - 6 = nI (L - 6) from pk_sub (a := L) (b := 6) (by omega), if_neg (nI_nlt (by omega) (by omega)), sl_00 (by omega) hL, Option.bind_some, ho]
  rw [if_neg (show ¬ (nI 31 : Int32) = 0 by decide)]
  rw [if_neg (show ¬ (nI 31 : Int32) = 1 by decide)]
  rw [if_neg (show ¬ (nI 31 : Int32) = 2 by decide)]
  rw [if_neg (show ¬ (nI 31 : Int32) = 3 by decide)]
  rw [if_neg (show ¬ (nI 31 : Int32) = 4 by decide)]
  rw [if_neg (show ¬ (nI 31 : Int32) = 5 by decide)]
  rw [if_neg (show ¬ (nI 31 : Int32) = 6 by decide)]
  rw [if_neg (show ¬ (nI 31 : Int32) = 7 by decide)]
  rw [if_neg (show ¬ (nI 31 : Int32) = 8 by decide)]
  rw [if_neg (show ¬ (nI 31 : Int32) = 9 by decide)]
  rw [if_neg (show ¬ (nI 31 : Int32) = 10 by decide)]
  rw [if_neg (show ¬ (nI 31 : Int32) = 11 by decide)]
  rw [if_neg (show ¬ (nI 31 : Int32) = 12 by decide)]
  rw [if_neg (show ¬ (nI 31 : Int32) = 13 by decide)]
  rw [if_neg (show ¬ (nI 31 : Int32) = 14 by decide)]
  rw [if_neg (show ¬ (nI 31 : Int32) = 15 by decide)]
  rw [if_neg (show ¬ (nI 31 : Int32) = 16 by decide)]
  rw [if_neg (show ¬ (nI 31 : Int32) = 17 by decide)]
  rw [if_neg (show ¬ (nI 31 : Int32) = 18 by decide)]
  rw [if_neg (show ¬ (nI 31 : Int32) = 19 by decide)]
  rw [if_neg (show ¬ (nI 31 : Int32) = 20 by decide)]
  rw [if_neg (show ¬ (nI 31 : Int32) = 21 by decide)]
  rw [if_neg (show ¬ (nI 31 : Int32) = 22 by decide)]
  rw [if_neg (show ¬ (nI 31 : Int32) = 23 by decide)]
  rw [if_neg (show ¬ (nI 31 : Int32) = 24 by decide)]
  rw [if_neg (show ¬ (nI 31 : Int32) = 25 by decide)]
  rw [if_neg (show ¬ (nI 31 : Int32) = 26 by decide)]
  rw [if_neg (show ¬ (nI 31 : Int32) = 27 by decide)]
  rw [if_neg (show ¬ (nI 31 : Int32) = 28 by decide)]
  rw [if_neg (show ¬ (nI 31 : Int32) = 29 by decide)]
  rw [if_neg (show ¬ (nI 31 : Int32) = 30 by decide)]
  exact jl_ L xs _ 0 40 i
theorem law_step {L i : Nat} {xs : Nat → Int32} {z : Nat → Int32} {f : Nat → Nat → Int32} (ops : Ops) (hL : L ≤ 3072) (hi : i + 6 ≤ L) (iv : Inv z f) : ∃ z2 f2, bL_law_18 L xs 0 40 (nI i, HH z f) = some (.inl (nI (i + 6), HH z2 f2)) ∧ Inv z2 f2 := by
  obtain ⟨j, hj, ho⟩ := pk_andE (xs i) (m := 31) 5 (by decide)
  obtain ⟨o0, o1, o2, o3, o4, o5, o6, o7, o8, o9, o10, o11, o12, o13, o14, o15, o16, o17, o18, o19, o20, o21, o22, o23, o24, o25, o26, o27, o28, o29, o30⟩ := ops
  match j, hj with
  | 0, _ => exact lc_harbour hL hi ho o0 iv
  | 1, _ => exact lc_ofPerson hL hi ho o1 iv
  | 2, _ => exact lc_train hL hi ho o2 iv
  | 3, _ => exact lc_learn hL hi ho o3 iv
  | 4, _ => exact lc_game hL hi ho o4 iv
  | 5, _ => exact lc_shy hL hi ho o5 iv
  | 6, _ => exact lc_fetch hL hi ho o6 iv
  | 7, _ => exact lc_season hL hi ho o7 iv
  | 8, _ => exact lc_safe hL hi ho o8 iv
  | 9, _ => exact lc_sure hL hi ho o9 iv
  | 10, _ => exact lc_common hL hi ho o10 iv
  | 11, _ => exact lc_pairs hL hi ho o11 iv
  | 12, _ => exact lc_orders hL hi ho o12 iv
  | 13, _ => exact lc_drops hL hi ho o13 iv
  | 14, _ => exact lc_reading hL hi ho o14 iv
  | 15, _ => exact lc_back hL hi ho o15 iv
  | 16, _ => exact lc_strengths hL hi ho o16 iv
  | 17, _ => exact lc_feints hL hi ho o17 iv
  | 18, _ => exact lc_kinds hL hi ho o18 iv
  | 19, _ => exact lc_odds hL hi ho o19 iv
  | 20, _ => exact lc_sheet hL hi ho o20 iv
  | 21, _ => exact lc_lose hL hi ho o21 iv
  | 22, _ => exact lc_put hL hi ho o22 iv
  | 23, _ => exact lc_cell hL hi ho o23 iv
  | 24, _ => exact lc_copy hL hi ho o24 iv
  | 25, _ => exact lc_tell hL hi ho o25 iv
  | 26, _ => exact lc_wave hL hi ho o26 iv
  | 27, _ => exact lc_as hL hi ho o27 iv
  | 28, _ => exact lc_trace hL hi ho o28 iv
  | 29, _ => exact lc_fault hL hi ho o29 iv
  | 30, _ => exact lc_many hL hi ho o30 iv
  | 31, _ => exact lc_none hL hi ho iv
  | k + 32, hk => omega
theorem law_end {L i : Nat} {xs : Nat → Int32} {z : Nat → Int32} {f : Nat → Nat → Int32} (hL : L ≤ 3072) (hi : ¬ i + 6 ≤ L) (hi2 : i ≤ L) : bL_law_18 L xs 0 40 (nI i, HH z f) = some (.inr (.inl (HH z f))) := by
  unfold bL_law_18
  dsimp only
  rw [if_pos]
  by_cases h6 : 6 ≤ L
  · rw [show Int32.ofNat L - 6 = nI (L - 6) from pk_sub (a := L) (b := 6) h6]
    exact nI_lt (by omega) (by omega)
  · have h1 : Int32.ofNat L - 6 < 0 := pk_sneg (a := L) (b := 6) (by omega) (by omega)
    have h2 : (0 : Int32) ≤ nI i := nI_pos' (by omega)
    rw [Int32.lt_iff_toInt_lt] at h1 ⊢
    rw [Int32.le_iff_toInt_le] at h2
    omega
theorem law_run {L : Nat} {xs : Nat → Int32} (ops : Ops) (hL : L ≤ 3072) : ∀ (n i : Nat) (z : Nat → Int32) (f : Nat → Nat → Int32), i ≤ L → L < i + n → Inv z f → ∃ g, it_ (bL_law_18 L xs 0 40) n (nI i, HH z f) = some (.inl g) := by
  intro n
  induction n with
  | zero => intro i z f h1 h2; omega
  | succ n ih =>
    intro i z f h1 h2 iv
    by_cases hi : i + 6 ≤ L
    · obtain ⟨z2, f2, e, iv2⟩ := law_step (xs := xs) ops hL hi iv
      obtain ⟨g, hg⟩ := ih (i + 6) z2 f2 hi (by omega) iv2
      refine ⟨g, ?_⟩
      simp only [it_, e, Option.bind_some]
      exact hg
    · refine ⟨HH z f, ?_⟩
      simp only [it_, law_end hL hi h1, Option.bind_some]
theorem pure_of (ops : Ops) (iv0 : Inv z0_ f0_) {L : Nat} {xs : Nat → Int32} (hL : L ≤ 3072) : ∃ g, fL_law L xs [] = some (1, g) := by
  obtain ⟨g, hg⟩ := law_run (xs := xs) ops hL fu_ 0 z0_ f0_ (Nat.zero_le _) (by show L < 0 + 5000; omega) iv0
  refine ⟨g, ?_⟩
  rw [law_init]
  have e : it_ (bL_law_18 L xs 0 40) fu_ (0, HH z0_ f0_) = some (.inl g) := hg
  rw [e]
  rfl
