/-! the memory that the constructors leave -/
def wl_ : hp_C := .inl (7, [.null, .null, .null, .null, .null, .null, .int 0, .int 0, .int 0])
def md_ : hp_C := .inl (8, [.int 0, .int 0, .null, .null, .null, .int 0, .int 0, .int 0, .null, .null, .null, .int 0, .int 0, .null, .null, .null, .int 0, .int 0, .null, .null, .int 0, .int 0, .null, .null, .int 0, .null, .null, .null, .null])
set_option maxRecDepth 100000 in
set_option maxHeartbeats 4000000 in
theorem init_C : fX8_init [wl_] 0 = some ((HH z0_ f0_).take 40) := by rfl
set_option maxRecDepth 100000 in
set_option maxHeartbeats 4000000 in
theorem init_M : fX9_init ((HH z0_ f0_).take 40 ++ [md_]) 40 = some (HH z0_ f0_) := by rfl
theorem law_init (L : Nat) (xs : Nat → Int32) : fL_law L xs [] = (it_ (bL_law_18 L xs 0 40) fu_ (0, HH z0_ f0_)).bind fun x => match x with
    | .inl y => some (1, y)
    | .inr q => some q := by
  have e1 : fX8_init ([] ++ [wl_]) 0 = some ((HH z0_ f0_).take 40) := init_C
  have e2 : List.length ((HH z0_ f0_).take 40) = 40 := rfl
  unfold fL_law
  simp only [Option.bind_some, List.length_nil]
  unfold wl_ at e1
  rw [e1]
  simp only [Option.bind_some, e2]
  have e3 := init_M
  unfold md_ at e3
  rw [e3]
  rfl
