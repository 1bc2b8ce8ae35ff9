/-- a row of cells, as both sides look at it -/
theorem row_two {z y : Nat → Int32} {f : Nat → Nat → Int32} {k : Nat} (hS : IvS z f) (hk : k < 4) (l i n : Int32) : ∃ e : Int32, fX5_faultOfRow (HH z f) (32 + 2 * k) l i n = some e ∧ fX9_against (HH y f) 40 (nI k) l i n = some e ∧ (e = 0 → ∃ a b q m : Nat, a < 3 ∧ b ≤ 60 ∧ z (32 * (32 + 2 * k) + 3) = nI b ∧ l = nI a ∧ i = nI q ∧ n = nI m ∧ q + m ≤ b) := by
  unfold fX5_faultOfRow fX9_against jX9_against_23
  simp only [gs_ hk (show 0 < 1 ∧ 1 < 4 by decide), gs_ hk (show 0 < 2 ∧ 2 < 4 by decide), obs_ hk, q_40_2, q_40_3, al41 hk, al42 hk, Option.bind_some]
  rcases (hS k hk).1 with ⟨s1, s2⟩ | ⟨s1, a, b, sa, sb, s3, s4, s5, s6⟩
  · refine ⟨1, by simp only [s1, if_true], by simp only [s2, if_true], fun e => absurd e n10_⟩
  · simp only [s1, s3, s4, s6, m9_ sa, n10_, if_false, C_rch hk s5, Option.bind_some]
    by_cases c1 : nI a = l
    · simp only [c1, if_true]
      have m9 : ¬ l = -9 := by rw [← c1]; exact m9_ sa
      (try simp only [m9, if_false])
      by_cases c2 : 0 ≤ n
      · simp only [c2, if_true]
        have c2n : ¬ n < 0 := fun w => i_lt.mp w c2
        cases c3 : rb_ i n b
        · refine ⟨3, by simp only [b_f, if_true], ?_, fun e => absurd e (by decide)⟩
          by_cases c4 : i < 0
          · rw [if_pos c4]
          rw [if_neg c4]
          obtain ⟨q0, hq0, rfl⟩ := nI_of c4
          obtain ⟨m0, hm0, rfl⟩ := nI_of c2n
          by_cases c5 : nI b < nI q0
          · rw [if_pos c5]
          rw [if_neg c5]
          have d5 : q0 ≤ b := Classical.byContradiction fun w => c5 (nI_lt (by omega) hq0)
          rw [pk_sub d5]
          by_cases c6 : nI m0 ≤ nI (b - q0)
          · exfalso
            have d6 : m0 ≤ b - q0 := Classical.byContradiction fun w => nI_ge (a := b - q0) (b := m0) (by omega) hm0 c6
            have := rb_of sb (show q0 + m0 ≤ b by omega)
            rw [c3] at this
            cases this
          · rw [if_neg c6]
        · obtain ⟨q0, m0, hqm, rfl, rfl⟩ := rb_at sb c3
          refine ⟨0, by simp only [b_t, n10_, if_false], ?_, fun _ => ⟨a, b, q0, m0, sa, sb, s5, c1.symm, rfl, rfl, hqm⟩⟩
          rw [if_neg (nI_pos (show q0 < 2 ^ 31 by omega)), if_neg (nI_nlt (show q0 ≤ b by omega) (by omega)), pk_sub (show q0 ≤ b by omega), if_pos (nI_le (show m0 ≤ b - q0 by omega) (by omega))]
      · refine ⟨4, by simp only [c2, if_false], by simp only [c2, if_false], fun e => absurd e (by decide)⟩
    · refine ⟨2, by simp only [c1, if_false], by simp only [c1, if_false], fun e => absurd e (by decide)⟩
