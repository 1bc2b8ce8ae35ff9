theorem sea_run {z : Nat → Int32} {f : Nat → Nat → Int32} {q : Int32} {k i m b t0 n G r : Nat} {K S T A B W U : Nat → Nat} (hP : IvP z f n K S T) (hG : IvG z n G) (hX : IvX z) (hS : IvS z f) (hR : IvR z f n r A B W U) (hk : k < 4) (hm : m ≤ 20) (hn0 : n ≠ 0) (hb60 : b ≤ 60) (him : i + 2 * m ≤ b) (hb : z (32 * (32 + 2 * k) + 3) = nI b) (h3 : ip_ 3 q = true) (h4 : (ask_ (nI t0) && !(decide ((20 : Int32) < nI m))) = true) (ht0 : t0 ≤ 4 ∨ (10 ≤ t0 ∧ t0 ≤ 15)) (hr : fX8_refusalOfRow (HH z f) 0 (nI k) q (nI i) (nI m) (bi_ (ask_ (nI t0) && !(decide ((20 : Int32) < nI m)))) = some (0, HH (upd z 8 0) f)) (hag : ∀ y, fX9_against (HH y f) 40 (nI k) q (nI i) (2 * nI m) = some 0) (hra : ra_ n (fun t => f (33 + 2 * k) (i + t)) 0 m = 0) : ∃ (rr : Int32) (z1 : Nat → Int32) (f1 : Nat → Nat → Int32) (z2 : Nat → Int32) (f2 : Nat → Nat → Int32), fX8_season (HH z f) 0 (nI k) q (nI i) (nI m) (nI t0) = some (rr, HH z1 f1) ∧ fX9_season (HH z1 f1) 40 (nI k) q (nI i) (nI m) (nI t0) = some (rr, HH z2 f2) ∧ Inv z2 f2 := by
  have hn := hP.2.1
  have hb' : (upd z 8 0) (32 * (32 + 2 * k) + 3) = nI b := by rw [upd_ne (by omega)]; exact hb
  have h33 : (upd z 8 0) 33 = nI n := by rw [upd_ne (by decide)]; exact hP.2.2.1
  have hcell : ∀ t, t < 2 * m → f (33 + 2 * k) (i + t) = f 43 (60 * k + i + t) := fun t ht => by
    rw [(hS k hk).2 (i + t) (by omega), Nat.add_assoc]
  have hac := C_acts1 (f := f) hk hn hm hb60 him h33 hb'
  rw [hra] at hac
  have hal := ra_all m 0 hra
  obtain ⟨aN, xN, hfa⟩ : ∃ aN xN : Nat → Nat, ∀ t, t < m → f (33 + 2 * k) (i + 2 * t) = nI (aN t) ∧ f (33 + 2 * k) (i + (2 * t + 1)) = nI (xN t) ∧ aN t < n ∧ ac_ (xN t) := by
    refine ⟨fun t => (f (33 + 2 * k) (i + 2 * t)).toNatClampNeg, fun t => (f (33 + 2 * k) (i + (2 * t + 1))).toNatClampNeg, fun t ht => ?_⟩
    have h9 := hal t ht
    rw [Nat.zero_add] at h9
    obtain ⟨a1, a2, a3, a4⟩ := pr_at hn h9
    exact ⟨a1, a3, a2, a4⟩
  have hP0 : IvP (upd z 8 0) f n K S T := IvP_z (by decide) hP
  have hG0 : IvG (upd z 8 0) n G := IvG_z hn (by decide) hG
  obtain ⟨z1, f1, r1, r2, r3, r4, r5⟩ := C_run (aN := aN) (xN := xN) hk hP0 hG0 hb60 him hm hb' (fun t ht => by
    rw [Nat.add_assoc i (2 * t) 1]
    exact hfa t ht)
  have hCans := C_ans hn r5 r3 r4 ht0
  have hF1 := FS_C r2
  have hP1 := FS_P hF1 hP0
  have hG1 := FS_G hn hF1 hG0
  have f43 : f1 43 = f 43 := r2.2 43 (by omega)
  have hre : ra_ n (fun t => f (33 + 2 * k) (i + t)) 0 m = ra_ n (fun t => f 43 (60 * k + i + t)) 0 m := ra_cg m 0 (fun t ht => hcell t (by omega))
  have hag1 : fX9_against (HH (upd z1 1280 0) f1) 40 (nI k) q (nI i) (2 * nI m) = some 0 := by
    rw [ag_same (y := z) (f := f) hk (r2.2 41 (by omega)) (r2.2 42 (by omega))]
    exact hag z
  obtain ⟨z2, f2, m1, m2, m3, m4⟩ := M_sea_y (z := z1) (f := f1) (aN := aN) (xN := xN) hk hm hn hn0 (by omega) h3 h4 ht0 hag1 hP1 hG1 (by rw [f43, ← hre]; exact hra) (fun t ht => by
    rw [f43, Nat.add_assoc (60 * k + i) (2 * t) 1, ← hcell (2 * t) (by omega), ← hcell (2 * t + 1) (by omega)]
    exact hfa t ht) r5
  refine ⟨_, z1, f1, z2, f2, C_sea_y hk hr hac r1 hCans, m1, ?_⟩
  have hz10 : ∀ k0, k0 ≠ 8 → k0 < 480 ∨ 1024 ≤ k0 → z1 k0 = z k0 := fun k0 a1 a2 => by rw [r2.1 k0 a2, upd_ne a1]
  have hI1 : IvX (upd z1 1280 0) := by
    obtain ⟨x1, x2, x3⟩ := hX
    refine ⟨?_, ?_, ?_⟩
    · rw [upd_ne (by decide), upd_ne (by decide), hz10 6 (by decide) (by omega), hz10 1287 (by decide) (by omega)]; exact x1
    · rw [upd_ne (by decide), upd_ne (by decide), hz10 7 (by decide) (by omega), hz10 1281 (by decide) (by omega)]; exact x2
    · rw [upd_ne (by decide), upd_eq, r2.1 8 (by omega), upd_eq]
  exact FX_I (z := upd z1 1280 0) (f := f1) (IvP_z (by decide) hP1) (IvG_z hn (by decide) hG1) hI1 (IvS_z (by decide) (FS_S hF1 (IvS_z (k := 8) (x := 0) (by decide) hS))) (IvR_z (by decide) (FS_R hF1 (IvR_z (k := 8) (x := 0) (by decide) hR))) m2 m3 m4
theorem op_season : Op_season := by
  intro z f p q u v w iv
  have iv0 := iv
  obtain ⟨n, K, S, T, G, r, A, B, W, U, hP, hG, hX, hS, hR⟩ := iv
  have hn := hP.2.1
  rcases row_pre hn hS hP.2.2.1 p q u v (ask_ w && !(decide ((20 : Int32) < v))) 20 (by decide) (fun e c => by
    simp only [Bool.and_eq_true, Bool.not_eq_true', decide_eq_false_iff_not] at e
    exact e.2 c) with ⟨h1, hr⟩ | ⟨h1, h2, hr⟩ | ⟨k, m, hk, hm, rfl, h3, rfl, h4, hh⟩
  · exact ⟨-1, upd z 8 0, f, upd (upd z 8 0) 1280 0, f, C_sea_r m10_ hr, by rw [M_sea0, if_pos h1], Inv_fl iv0⟩
  · exact ⟨-2, upd z 8 0, f, upd (upd z 8 0) 1280 0, f, C_sea_r m20_ hr, by rw [M_sea0, if_neg (by rw [h1]; decide), if_pos h2], Inv_fl iv0⟩
  · rcases hh with ⟨g, hg, hg0, hr, hag⟩ | ⟨hag, ⟨hn0, hr⟩ | ⟨hn0, hr, i, b, rfl, him, hb60, hb⟩⟩
    · exact ⟨-10 - g, upd z 8 g, f, upd (upd z 8 g) 1280 g, f, C_sea_r hg0 hr, M_sea_g hk hm h3 h4 hg (hag _), Inv_fl iv0⟩
    · refine ⟨-3, upd z 8 0, f, upd (upd z 8 0) 1280 0, f, C_sea_r m30_ hr, M_sea_n hk hm h3 h4 (hag _) ?_, Inv_fl iv0⟩
      rw [upd_ne (by decide), hP.2.2.2.1, hn0, nI_0]
    · by_cases hra : ra_ n (fun t => f (33 + 2 * k) (i + t)) 0 m = 0
      · obtain ⟨t0, ht0, rfl⟩ := ask_at (show ask_ w = true by
          rw [Bool.and_eq_true] at h4
          exact h4.1)
        exact sea_run hP hG hX hS hR hk hm hn0 hb60 him hb h3 h4 ht0 hr hag hra
      · have hb' : (upd z 8 0) (32 * (32 + 2 * k) + 3) = nI b := by rw [upd_ne (by omega)]; exact hb
        have h33 : (upd z 8 0) 33 = nI n := by rw [upd_ne (by decide)]; exact hP.2.2.1
        have hre : ra_ n (fun t => f (33 + 2 * k) (i + t)) 0 m = ra_ n (fun t => f 43 (60 * k + i + t)) 0 m := ra_cg m 0 (fun t ht => by
          rw [(hS k hk).2 (i + t) (by omega), Nat.add_assoc])
        refine ⟨ra_ n (fun t => f (33 + 2 * k) (i + t)) 0 m, upd z 8 0, f, upd (upd z 8 0) 1280 0, f, C_sea_x hk hra hr (C_acts1 hk hn hm hb60 him h33 hb'), ?_, Inv_fl iv0⟩
        rw [hre]
        rw [hre] at hra
        exact M_sea_x hk hm hn hn0 (by omega) h3 h4 (hag _) (by rw [upd_ne (by decide)]; exact hP.2.2.2.1) hra
