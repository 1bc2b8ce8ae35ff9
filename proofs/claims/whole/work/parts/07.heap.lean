def hg_o (h : hp_H) (i ci : Nat) : Option (List Value) := match h[i]? with
  | some (.inl o) => if o.1 = ci then some o.2 else none
  | _ => none
def gi_ (h : hp_H) (i ci k : Nat) : Option Int32 := match hg_o h i ci with
  | some fs => (match fs[k]? with
    | some (.int x) => some x
    | _ => none)
  | none => none
def gq_ (h : hp_H) (i ci k : Nat) : Option Nat := match hg_o h i ci with
  | some fs => (match fs[k]? with
    | some (.ref x) => some x
    | _ => none)
  | none => none
def pv_ (h : hp_H) (i ci k : Nat) (v : Value) : Option hp_H := match hg_o h i ci with
  | some fs => if k < fs.length then some (h.set i (.inl (ci, fs.set k v))) else none
  | none => none
def pi_ (h : hp_H) (i ci k : Nat) (x : Int32) : Option hp_H := pv_ h i ci k (.int x)
def bz_ (x : Int32) : Option Int32 := if x = 0 ∨ x = 1 then some x else none
def pz_ (h : hp_H) (i ci k : Nat) (x : Int32) : Option hp_H := if x = 0 ∨ x = 1 then pv_ h i ci k (.int x) else none
def pq_ (h : hp_H) (i ci k : Nat) (x : Nat) : Option hp_H := pv_ h i ci k (.ref x)
def al_ (h : hp_H) (i : Nat) (j : Int32) : Option Int32 := match h[i]? with
  | some (.inr (.inl a)) => if j < 0 ∨ a.1 ≤ j.toNatClampNeg then none else some (a.2 j.toNatClampNeg)
  | _ => none
def ax_ (h : hp_H) (i : Nat) (j x : Int32) : Option hp_H := match h[i]? with
  | some (.inr (.inl a)) => if j < 0 ∨ a.1 ≤ j.toNatClampNeg then none else some (h.set i (.inr (.inl (a.1, upd a.2 j.toNatClampNeg x))))
  | _ => none
def ln_ (h : hp_H) (i : Nat) : Option Int32 := match h[i]? with
  | some (.inr (.inl a)) => some (Int32.ofNat a.1)
  | _ => none
def ql_ (h : hp_H) (i : Nat) (j : Int32) : Option Nat := match h[i]? with
  | some (.inr (.inr a)) => if a.1 < 2 then (if j < 0 ∨ a.2.1 ≤ j.toNatClampNeg then none else a.2.2 j.toNatClampNeg) else none
  | _ => none
def qx_ (h : hp_H) (t ci i : Nat) (j : Int32) (v : Nat) : Option hp_H := match h[i]? with
  | some (.inr (.inr a)) => if a.1 = t ∧ ¬ (j < 0 ∨ a.2.1 ≤ j.toNatClampNeg) then (match hg_o h v ci with
    | some _ => some (h.set i (.inr (.inr (a.1, a.2.1, va_up a.2.2 j.toNatClampNeg (some v)))))
    | none => none) else none
  | _ => none
/-- System.arraycopy over rows of ints -/
def cp_ (h : hp_H) (i : Nat) (sp : Int32) (o : Nat) (dp m : Int32) : Option hp_H := match h[i]?, h[o]? with
  | some (.inr (.inl a)), some (.inr (.inl c)) => if ¬ sp < 0 ∧ ¬ dp < 0 ∧ ¬ m < 0 ∧ sp.toNatClampNeg + m.toNatClampNeg ≤ a.1 ∧ dp.toNatClampNeg + m.toNatClampNeg ≤ c.1 then some (h.set o (.inr (.inl (c.1, va_cpy a.2 c.2 sp.toNatClampNeg dp.toNatClampNeg m.toNatClampNeg)))) else none
  | _, _ => none
theorem hg_o_inv {h : hp_H} {i ci : Nat} {fs : List Value} (e : hg_o h i ci = some fs) : h[i]? = some (.inl (ci, fs)) := by
  unfold hg_o at e
  split at e
  · rename_i o ho
    split at e
    · rename_i hc
      cases e
      rw [ho, ← hc]
    · cases e
  · cases e
theorem gi_inv {h : hp_H} {i ci k : Nat} {x : Int32} (e : gi_ h i ci k = some x) : ∃ fs, h[i]? = some (.inl (ci, fs)) ∧ fs[k]? = some (.int x) := by
  unfold gi_ at e
  split at e
  · rename_i fs ho
    refine ⟨fs, hg_o_inv ho, ?_⟩
    split at e
    · rename_i y hy
      cases e
      exact hy
    · cases e
  · cases e
theorem gq_inv {h : hp_H} {i ci k : Nat} {x : Nat} (e : gq_ h i ci k = some x) : ∃ fs, h[i]? = some (.inl (ci, fs)) ∧ fs[k]? = some (.ref x) := by
  unfold gq_ at e
  split at e
  · rename_i fs ho
    refine ⟨fs, hg_o_inv ho, ?_⟩
    split at e
    · rename_i y hy
      cases e
      exact hy
    · cases e
  · cases e
theorem pv_inv {h h' : hp_H} {i ci k : Nat} {v : Value} (e : pv_ h i ci k v = some h') : ∃ fs, h[i]? = some (.inl (ci, fs)) ∧ k < fs.length ∧ h' = h.set i (.inl (ci, fs.set k v)) := by
  unfold pv_ at e
  split at e
  · rename_i fs ho
    split at e
    · rename_i hk
      cases e
      exact ⟨fs, hg_o_inv ho, hk, rfl⟩
    · cases e
  · cases e
theorem pz_inv {h h' : hp_H} {i ci k : Nat} {x : Int32} (e : pz_ h i ci k x = some h') : (x = 0 ∨ x = 1) ∧ pv_ h i ci k (.int x) = some h' := by
  unfold pz_ at e
  split at e
  · rename_i hx
    exact ⟨hx, e⟩
  · cases e
theorem bz_inv {x y : Int32} (e : bz_ x = some y) : x = y ∧ (x = 0 ∨ x = 1) := by
  unfold bz_ at e
  split at e
  · rename_i hx
    cases e
    exact ⟨rfl, hx⟩
  · cases e
theorem al_inv {h : hp_H} {i : Nat} {j x : Int32} (e : al_ h i j = some x) : ∃ m f, h[i]? = some (.inr (.inl (m, f))) ∧ vp_in j m ∧ x = f j.toNatClampNeg := by
  unfold al_ at e
  split at e
  · rename_i a ha
    split at e
    · cases e
    · rename_i hj
      cases e
      exact ⟨a.1, a.2, ha, hj, rfl⟩
  · cases e
theorem ax_inv {h h' : hp_H} {i : Nat} {j x : Int32} (e : ax_ h i j x = some h') : ∃ m f, h[i]? = some (.inr (.inl (m, f))) ∧ vp_in j m ∧ h' = h.set i (.inr (.inl (m, upd f j.toNatClampNeg x))) := by
  unfold ax_ at e
  split at e
  · rename_i a ha
    split at e
    · cases e
    · rename_i hj
      cases e
      exact ⟨a.1, a.2, ha, hj, rfl⟩
  · cases e
theorem ln_inv {h : hp_H} {i : Nat} {x : Int32} (e : ln_ h i = some x) : ∃ m f, h[i]? = some (.inr (.inl (m, f))) ∧ Int32.ofNat m = x := by
  unfold ln_ at e
  split at e
  · rename_i a ha
    cases e
    exact ⟨a.1, a.2, ha, rfl⟩
  · cases e
theorem ql_inv {h : hp_H} {i : Nat} {j : Int32} {x : Nat} (e : ql_ h i j = some x) : ∃ t m f, h[i]? = some (.inr (.inr (t, m, f))) ∧ t < 2 ∧ vp_in j m ∧ f j.toNatClampNeg = some x := by
  unfold ql_ at e
  split at e
  · rename_i a ha
    split at e
    · rename_i ht
      split at e
      · cases e
      · rename_i hj
        exact ⟨a.1, a.2.1, a.2.2, ha, ht, hj, e⟩
    · cases e
  · cases e
theorem qx_inv {h h' : hp_H} {t ci i : Nat} {j : Int32} {v : Nat} (e : qx_ h t ci i j v = some h') : ∃ m f vs, h[i]? = some (.inr (.inr (t, m, f))) ∧ vp_in j m ∧ h[v]? = some (.inl (ci, vs)) ∧ h' = h.set i (.inr (.inr (t, m, va_up f j.toNatClampNeg (some v)))) := by
  unfold qx_ at e
  split at e
  · rename_i a ha
    split at e
    · rename_i ht
      split at e
      · rename_i vs hv
        cases e
        obtain ⟨h1, h2⟩ := ht
        subst h1
        exact ⟨a.2.1, a.2.2, vs, ha, h2, hg_o_inv hv, rfl⟩
      · cases e
    · cases e
  · cases e
theorem cp_inv {h h' : hp_H} {i o : Nat} {sp dp m : Int32} (e : cp_ h i sp o dp m = some h') : ∃ n0 f n1 g, h[i]? = some (.inr (.inl (n0, f))) ∧ h[o]? = some (.inr (.inl (n1, g))) ∧ ¬ sp < 0 ∧ ¬ dp < 0 ∧ ¬ m < 0 ∧ sp.toNatClampNeg + m.toNatClampNeg ≤ n0 ∧ dp.toNatClampNeg + m.toNatClampNeg ≤ n1 ∧ h' = h.set o (.inr (.inl (n1, va_cpy f g sp.toNatClampNeg dp.toNatClampNeg m.toNatClampNeg))) := by
  unfold cp_ at e
  split at e
  · rename_i a c ha hc
    split at e
    · rename_i hq
      cases e
      exact ⟨a.1, a.2, c.1, c.2, ha, hc, hq.1, hq.2.1, hq.2.2.1, hq.2.2.2.1, hq.2.2.2.2, rfl⟩
    · cases e
  · cases e
theorem ob_ {α β : Type} {o : Option α} {f : α → Option β} {r : β} (e : o.bind f = some r) : ∃ x, o = some x ∧ f x = some r := Option.bind_eq_some_iff.mp e
theorem ot_ {α : Type} {c : Prop} {i : Decidable c} {x y : Option α} {r : α} (hc : c) (e : (if c then x else y) = some r) : x = some r := by rw [if_pos hc] at e; exact e
theorem of_ {α : Type} {c : Prop} {i : Decidable c} {x y : Option α} {r : α} (hc : ¬ c) (e : (if c then x else y) = some r) : y = some r := by rw [if_neg hc] at e; exact e
theorem hp_fset {b : Nat × Nat} (fs : List Value) (k : Nat) (v : Value) : (fs.map (hp_v b)).set k (hp_v b v) = (fs.set k v).map (hp_v b) := by
  rw [List.map_set]
theorem hp_good {ws : List Cond} (h : ∀ w ∈ ws, w ∈ tg_) : GoodIn tg_ ws := fun w hw => ⟨h w hw, good_of_word (List.mem_filter.mp (h w hw)).2⟩
theorem hp_wcat (b : Nat × Nat) (st : List Value) : ((st.map (hp_v b)).map fun v => v.category).sum = (st.map fun v => v.category).sum := by
  rw [List.map_map]
  congr 1
  apply List.map_congr_left
  intro v _
  exact hp_vcat b v

section HPH
variable {l : Launch} {own : String} {cc : ByteArray} {nL : Nat} {rt : Option FieldType} {ini : Bool} {X : Option (Nat × (Nat → Int32))} {d : Nat} {zr : Bool} {Q : Option Value → hp_H → Prop} {zz : Bool} {k n : Nat} {pc : Nat} {lv : List (Nat × Value)} {st : List Value} {h : hp_H}
theorem hp_geti {C : String} {T : u_T} {N ci idx : Nat} (hin : ∀ w ∈ u_ws C T N, w ∈ tg_) (hc : vwCl[ci]? = some (C, T, N)) (kf : Nat) (hkf : kf < N) (hw : Cond.fieldLink own idx (T kf).1 (T kf).2.1 (T kf).2.2.1 ∈ tg_) {i : Nat} {x : Int32} (hdg : decode cc pc = .ok (.getfield idx, 3)) (hx : gi_ h i ci kf = some x) (kk : hp_G l (own, cc, nL, rt, ini) X d zr Q zz k n (pc + 3) lv (.int x :: st) h) : hp_G l (own, cc, nL, rt, ini) X d zr Q zz k n pc lv (.ref i :: st) h := by
  intro p e R s m args below meth c Z D A b H locs ls cells slots mc ms F a1 a2 hP hS hl
  obtain ⟨fs, h1, h2⟩ := gi_inv hx
  exact va_get (D := D) (ci := ci) (v := hp_v b (.int x)) (C := C) (T := T) (N := N) F.1.1 F.1.2.1 F.1.2.2.2.2.2.2.1 hin F.1.2.2.2.2.1 F.2.1.1 hP.2 i (hp_w_at h1) hc kf hkf (F.1.2.2.2.2.2.2.1 _ hw) (fun _ h9 => h9) (by simp [h2]) hdg (kk p e R s m args below meth c Z D A b H locs ls cells slots mc ms F a1 a2 hP hS hl)
theorem hp_getiN {C : String} {T : u_T} {N ci idx : Nat} (hin : ∀ w ∈ u_ws C T N, w ∈ tg_) (hc : vwCl[ci]? = some (C, T, N)) (kf : Nat) (hkf : kf < N) {host : String} (hw : Cond.fieldLinkNest own idx (T kf).1 (T kf).2.1 (T kf).2.2.1 host ∈ nw_) {i : Nat} {x : Int32} (hdg : decode cc pc = .ok (.getfield idx, 3)) (hx : gi_ h i ci kf = some x) (kk : hp_G l (own, cc, nL, rt, ini) X d zr Q zz k n (pc + 3) lv (.int x :: st) h) : hp_G l (own, cc, nL, rt, ini) X d zr Q zz k n pc lv (.ref i :: st) h := by
  intro p e R s m args below meth c Z D A b H locs ls cells slots mc ms F a1 a2 hP hS hl
  obtain ⟨fs, h1, h2⟩ := gi_inv hx
  exact va_getN (D := D) (ci := ci) (v := hp_v b (.int x)) (C := C) (T := T) (N := N) F.1.1 F.1.2.1 F.1.2.2.2.2.2.2.1 hin F.1.2.2.2.2.1 F.2.1.1 hP.2 i (hp_w_at h1) hc kf hkf (va_Nw.use rfl (F.2.1.2.1 _ hw)) (fun _ h9 => h9) (by simp [h2]) hdg (kk p e R s m args below meth c Z D A b H locs ls cells slots mc ms F a1 a2 hP hS hl)
theorem hp_getq {C : String} {T : u_T} {N ci idx : Nat} (hin : ∀ w ∈ u_ws C T N, w ∈ tg_) (hc : vwCl[ci]? = some (C, T, N)) (kf : Nat) (hkf : kf < N) (hw : Cond.fieldLink own idx (T kf).1 (T kf).2.1 (T kf).2.2.1 ∈ tg_) {i : Nat} {x : Nat} (hdg : decode cc pc = .ok (.getfield idx, 3)) (hx : gq_ h i ci kf = some x) (kk : hp_G l (own, cc, nL, rt, ini) X d zr Q zz k n (pc + 3) lv (.ref x :: st) h) : hp_G l (own, cc, nL, rt, ini) X d zr Q zz k n pc lv (.ref i :: st) h := by
  intro p e R s m args below meth c Z D A b H locs ls cells slots mc ms F a1 a2 hP hS hl
  obtain ⟨fs, h1, h2⟩ := gq_inv hx
  exact va_get (D := D) (ci := ci) (v := hp_v b (.ref x)) (C := C) (T := T) (N := N) F.1.1 F.1.2.1 F.1.2.2.2.2.2.2.1 hin F.1.2.2.2.2.1 F.2.1.1 hP.2 i (hp_w_at h1) hc kf hkf (F.1.2.2.2.2.2.2.1 _ hw) (fun _ h9 => h9) (by simp [h2]) hdg (kk p e R s m args below meth c Z D A b H locs ls cells slots mc ms F a1 a2 hP hS hl)
theorem hp_getqN {C : String} {T : u_T} {N ci idx : Nat} (hin : ∀ w ∈ u_ws C T N, w ∈ tg_) (hc : vwCl[ci]? = some (C, T, N)) (kf : Nat) (hkf : kf < N) {host : String} (hw : Cond.fieldLinkNest own idx (T kf).1 (T kf).2.1 (T kf).2.2.1 host ∈ nw_) {i : Nat} {x : Nat} (hdg : decode cc pc = .ok (.getfield idx, 3)) (hx : gq_ h i ci kf = some x) (kk : hp_G l (own, cc, nL, rt, ini) X d zr Q zz k n (pc + 3) lv (.ref x :: st) h) : hp_G l (own, cc, nL, rt, ini) X d zr Q zz k n pc lv (.ref i :: st) h := by
  intro p e R s m args below meth c Z D A b H locs ls cells slots mc ms F a1 a2 hP hS hl
  obtain ⟨fs, h1, h2⟩ := gq_inv hx
  exact va_getN (D := D) (ci := ci) (v := hp_v b (.ref x)) (C := C) (T := T) (N := N) F.1.1 F.1.2.1 F.1.2.2.2.2.2.2.1 hin F.1.2.2.2.2.1 F.2.1.1 hP.2 i (hp_w_at h1) hc kf hkf (va_Nw.use rfl (F.2.1.2.1 _ hw)) (fun _ h9 => h9) (by simp [h2]) hdg (kk p e R s m args below meth c Z D A b H locs ls cells slots mc ms F a1 a2 hP hS hl)
theorem hp_putV {C : String} {T : u_T} {N ci idx : Nat} (hin : ∀ w ∈ u_ws C T N, w ∈ tg_) (hc : vwCl[ci]? = some (C, T, N)) (kf : Nat) (hkf : kf < N) (ty0 : Nat → FieldType) (hty : ∀ k, k < N → parseFieldDescriptor (T k).2.2.1 = some (ty0 k)) (hnm : ∀ a, a < N → ∀ b, b < N → a ≠ b → (T a).2.1 ≠ (T b).2.1) (hw : Cond.fieldLink own idx (T kf).1 (T kf).2.1 (T kf).2.2.1 ∈ tg_) (hfin : (T kf).2.2.2 = false) {ty : FieldType} {i : Nat} {v : Value} {h' : hp_H} (hd : parseFieldDescriptor (T kf).2.2.1 = some ty) (hn : ∀ b, narrow ty (hp_v b v) = hp_v b v) (hfit : ∀ b, fits ty (hp_v b v) = true) (hdg : decode cc pc = .ok (.putfield idx, 3)) (hx : pv_ h i ci kf v = some h') (kk : hp_G l (own, cc, nL, rt, ini) X d zr Q false k n (pc + 3) lv st h') : hp_G l (own, cc, nL, rt, ini) X d zr Q false k n pc lv (v :: .ref i :: st) h := by
  intro p e R s m args below meth c Z D A b H locs ls cells slots mc ms F a1 a2 hP hS hl
  obtain ⟨fs, h1, h2, h3⟩ := pv_inv hx
  subst h3
  exact va_put (D := D) (ci := ci) (v := hp_v b v) (ty := ty) (C := C) (T := T) (N := N) F.1.1 F.1.2.1 F.1.2.2.2.2.2.2.1 hin ty0 hty hnm F.1.2.2.2.2.1 F.2.1.1 hP.2 (hp_D A b h) hS i (hp_w_at h1) hc kf hkf (F.1.2.2.2.2.2.2.1 _ hw) (fun _ h9 => h9) hfin hd (hn b) (hfit b) (by rw [List.length_map]; exact h2) hdg (fun H1 locs1 hP1 _ hS1 => kk p e R s m args below meth c Z D A b H1 locs1 ls cells slots mc ms F a1 a2 ⟨fun z => (by cases z), by
    have e9 := hP1
    rw [hp_fset] at e9
    have e8 : (hp_w A b h).set i (b.1 + i, hp_e A b (.inl (ci, fs.set kf v))) = hp_w A b (h.set i (.inl (ci, fs.set kf v))) := hp_w_set h i _
    rw [← e8]
    exact e9⟩ hS1 hl)
theorem hp_puti {C : String} {T : u_T} {N ci idx : Nat} (hin : ∀ w ∈ u_ws C T N, w ∈ tg_) (hc : vwCl[ci]? = some (C, T, N)) (kf : Nat) (hkf : kf < N) (ty0 : Nat → FieldType) (hty : ∀ k, k < N → parseFieldDescriptor (T k).2.2.1 = some (ty0 k)) (hnm : ∀ a, a < N → ∀ b, b < N → a ≠ b → (T a).2.1 ≠ (T b).2.1) (hw : Cond.fieldLink own idx (T kf).1 (T kf).2.1 (T kf).2.2.1 ∈ tg_) (hfin : (T kf).2.2.2 = false) {i : Nat} {x : Int32} {h' : hp_H} (hd : parseFieldDescriptor (T kf).2.2.1 = some .int) (hdg : decode cc pc = .ok (.putfield idx, 3)) (hx : pi_ h i ci kf x = some h') (kk : hp_G l (own, cc, nL, rt, ini) X d zr Q false k n (pc + 3) lv st h') : hp_G l (own, cc, nL, rt, ini) X d zr Q false k n pc lv (.int x :: .ref i :: st) h :=
  hp_putV hin hc kf hkf ty0 hty hnm hw hfin hd (fun _ => rfl) (fun _ => rfl) hdg hx kk
theorem hp_putz {C : String} {T : u_T} {N ci idx : Nat} (hin : ∀ w ∈ u_ws C T N, w ∈ tg_) (hc : vwCl[ci]? = some (C, T, N)) (kf : Nat) (hkf : kf < N) (ty0 : Nat → FieldType) (hty : ∀ k, k < N → parseFieldDescriptor (T k).2.2.1 = some (ty0 k)) (hnm : ∀ a, a < N → ∀ b, b < N → a ≠ b → (T a).2.1 ≠ (T b).2.1) (hw : Cond.fieldLink own idx (T kf).1 (T kf).2.1 (T kf).2.2.1 ∈ tg_) (hfin : (T kf).2.2.2 = false) {i : Nat} {x : Int32} {h' : hp_H} (hd : parseFieldDescriptor (T kf).2.2.1 = some .boolean) (hdg : decode cc pc = .ok (.putfield idx, 3)) (hx : pz_ h i ci kf x = some h') (kk : hp_G l (own, cc, nL, rt, ini) X d zr Q false k n (pc + 3) lv st h') : hp_G l (own, cc, nL, rt, ini) X d zr Q false k n pc lv (.int x :: .ref i :: st) h := by
  obtain ⟨h1, h2⟩ := pz_inv hx
  refine hp_putV hin hc kf hkf ty0 hty hnm hw hfin hd (fun _ => ?_) (fun _ => ?_) hdg h2 kk
  · rcases h1 with rfl | rfl <;> rfl
  · rcases h1 with rfl | rfl <;> rfl
theorem hp_putVN {C : String} {T : u_T} {N ci idx : Nat} (hin : ∀ w ∈ u_ws C T N, w ∈ tg_) (hc : vwCl[ci]? = some (C, T, N)) (kf : Nat) (hkf : kf < N) (ty0 : Nat → FieldType) (hty : ∀ k, k < N → parseFieldDescriptor (T k).2.2.1 = some (ty0 k)) (hnm : ∀ a, a < N → ∀ b, b < N → a ≠ b → (T a).2.1 ≠ (T b).2.1) {host : String} (hw : Cond.fieldLinkNest own idx (T kf).1 (T kf).2.1 (T kf).2.2.1 host ∈ nw_) (hfin : (T kf).2.2.2 = false) {ty : FieldType} {i : Nat} {v : Value} {h' : hp_H} (hd : parseFieldDescriptor (T kf).2.2.1 = some ty) (hn : ∀ b, narrow ty (hp_v b v) = hp_v b v) (hfit : ∀ b, fits ty (hp_v b v) = true) (hdg : decode cc pc = .ok (.putfield idx, 3)) (hx : pv_ h i ci kf v = some h') (kk : hp_G l (own, cc, nL, rt, ini) X d zr Q false k n (pc + 3) lv st h') : hp_G l (own, cc, nL, rt, ini) X d zr Q false k n pc lv (v :: .ref i :: st) h := by
  intro p e R s m args below meth c Z D A b H locs ls cells slots mc ms F a1 a2 hP hS hl
  obtain ⟨fs, h1, h2, h3⟩ := pv_inv hx
  subst h3
  exact va_putN (D := D) (ci := ci) (v := hp_v b v) (ty := ty) (C := C) (T := T) (N := N) F.1.1 F.1.2.1 F.1.2.2.2.2.2.2.1 hin ty0 hty hnm F.1.2.2.2.2.1 F.2.1.1 hP.2 (hp_D A b h) hS i (hp_w_at h1) hc kf hkf (va_Nw.use rfl (F.2.1.2.1 _ hw)) (fun _ h9 => h9) hfin hd (hn b) (hfit b) (by rw [List.length_map]; exact h2) hdg (fun H1 locs1 hP1 _ hS1 => kk p e R s m args below meth c Z D A b H1 locs1 ls cells slots mc ms F a1 a2 ⟨fun z => (by cases z), by
    have e9 := hP1
    rw [hp_fset] at e9
    have e8 : (hp_w A b h).set i (b.1 + i, hp_e A b (.inl (ci, fs.set kf v))) = hp_w A b (h.set i (.inl (ci, fs.set kf v))) := hp_w_set h i _
    rw [← e8]
    exact e9⟩ hS1 hl)
theorem hp_putiN {C : String} {T : u_T} {N ci idx : Nat} (hin : ∀ w ∈ u_ws C T N, w ∈ tg_) (hc : vwCl[ci]? = some (C, T, N)) (kf : Nat) (hkf : kf < N) (ty0 : Nat → FieldType) (hty : ∀ k, k < N → parseFieldDescriptor (T k).2.2.1 = some (ty0 k)) (hnm : ∀ a, a < N → ∀ b, b < N → a ≠ b → (T a).2.1 ≠ (T b).2.1) {host : String} (hw : Cond.fieldLinkNest own idx (T kf).1 (T kf).2.1 (T kf).2.2.1 host ∈ nw_) (hfin : (T kf).2.2.2 = false) {i : Nat} {x : Int32} {h' : hp_H} (hd : parseFieldDescriptor (T kf).2.2.1 = some .int) (hdg : decode cc pc = .ok (.putfield idx, 3)) (hx : pi_ h i ci kf x = some h') (kk : hp_G l (own, cc, nL, rt, ini) X d zr Q false k n (pc + 3) lv st h') : hp_G l (own, cc, nL, rt, ini) X d zr Q false k n pc lv (.int x :: .ref i :: st) h :=
  hp_putVN hin hc kf hkf ty0 hty hnm hw hfin hd (fun _ => rfl) (fun _ => rfl) hdg hx kk
theorem hp_putzN {C : String} {T : u_T} {N ci idx : Nat} (hin : ∀ w ∈ u_ws C T N, w ∈ tg_) (hc : vwCl[ci]? = some (C, T, N)) (kf : Nat) (hkf : kf < N) (ty0 : Nat → FieldType) (hty : ∀ k, k < N → parseFieldDescriptor (T k).2.2.1 = some (ty0 k)) (hnm : ∀ a, a < N → ∀ b, b < N → a ≠ b → (T a).2.1 ≠ (T b).2.1) {host : String} (hw : Cond.fieldLinkNest own idx (T kf).1 (T kf).2.1 (T kf).2.2.1 host ∈ nw_) (hfin : (T kf).2.2.2 = false) {i : Nat} {x : Int32} {h' : hp_H} (hd : parseFieldDescriptor (T kf).2.2.1 = some .boolean) (hdg : decode cc pc = .ok (.putfield idx, 3)) (hx : pz_ h i ci kf x = some h') (kk : hp_G l (own, cc, nL, rt, ini) X d zr Q false k n (pc + 3) lv st h') : hp_G l (own, cc, nL, rt, ini) X d zr Q false k n pc lv (.int x :: .ref i :: st) h := by
  obtain ⟨h1, h2⟩ := pz_inv hx
  refine hp_putVN hin hc kf hkf ty0 hty hnm hw hfin hd (fun _ => ?_) (fun _ => ?_) hdg h2 kk
  · rcases h1 with rfl | rfl <;> rfl
  · rcases h1 with rfl | rfl <;> rfl
theorem hp_putq {C : String} {T : u_T} {N ci idx : Nat} (hin : ∀ w ∈ u_ws C T N, w ∈ tg_) (hc : vwCl[ci]? = some (C, T, N)) (kf : Nat) (hkf : kf < N) (ty0 : Nat → FieldType) (hty : ∀ k, k < N → parseFieldDescriptor (T k).2.2.1 = some (ty0 k)) (hnm : ∀ a, a < N → ∀ b, b < N → a ≠ b → (T a).2.1 ≠ (T b).2.1) (hw : Cond.fieldLink own idx (T kf).1 (T kf).2.1 (T kf).2.2.1 ∈ tg_) (hfin : (T kf).2.2.2 = true) (hdecl : (T kf).1 = own) (hini : ini = true) {ty : FieldType} {i x : Nat} {h' : hp_H} (hd : parseFieldDescriptor (T kf).2.2.1 = some ty) (hn : ∀ a, narrow ty (.ref a) = .ref a) (hfit : ∀ a, fits ty (.ref a) = true) (hdg : decode cc pc = .ok (.putfield idx, 3)) (hx : pq_ h i ci kf x = some h') (kk : hp_G l (own, cc, nL, rt, ini) X d zr Q zz k n (pc + 3) lv st h') : hp_G l (own, cc, nL, rt, ini) X d zr Q zz k n pc lv (.ref x :: .ref i :: st) h := by
  intro p e R s m args below meth c Z D A b H locs ls cells slots mc ms F a1 a2 hP hS hl
  obtain ⟨fs, h1, h2, h3⟩ := pv_inv hx
  subst h3
  have hts := F.1.2.2.2.2.2.2.1
  have hown := F.1.2.2.2.2.1
  have hK := F.2.1.1
  have hap := va_apart (own := own) hts hin ty0 hty hnm hK hc
  obtain ⟨r, g1, cell, q1, q2, q3, q4⟩ := hP.2 i _ (hp_w_at h1)
  have hr : r = (C, T, N) := Option.some.inj (g1.symm.trans hc)
  subst hr
  obtain ⟨hSl, hfc, kC, hkC, hkind⟩ := hK.1 ci _ hc
  obtain ⟨cf, kq, fi, f, hi, hsl⟩ := hSl kf hkf
  have hlay := hts _ (hin _ (u_in_lay hkf))
  unfold u_lay at hlay
  rw [if_pos hfin] at hlay
  have hst := (u_facts hfc hkC (u_lays hts hin hkf) hi).1
  have hcf : m.cls = cf := by
    obtain ⟨_, _, c', _, _, _, -, -, hf', -, -, -, hown2, -⟩ := Cond.laysFinal_spec hlay
    have e1 : c' = cf := by have := hi.symm.trans hf'; simp at this; exact this.1.symm
    rw [hdecl] at hown2
    rw [← e1]; exact Option.some.inj (hown.symm.trans hown2)
  have h6 := u_fits hfc hkC hkind (Or.inr hlay) hi hd (hn (b.1 + x)) (hfit (b.1 + x))
  refine W.putFinK F.1.1 F.1.2.1 hown (hts _ hw) hi hst hcf (F.1.2.2.2.2.2.2.2 hini) (by rw [q2]; exact h6) q1 q3 (by rw [hsl]; exact k2_hasslot (q4 kf hkf)) rfl rfl hdg fun H' e1 e2 e3 => ?_
  rw [hsl] at e1 ⊢
  have hP9 := hP.2.set (hp_D A b h) (hp_w_at h1) (e := .inr (ci, (fs.map (hp_v b)).set kf (hp_v b (.ref x)))) ⟨_, hc, t_OB.to (V := updV (vp_V (fs.map (hp_v b))) kf (.ref (b.1 + x))) ⟨_, e1, q2, q3, t_set q4 hap hkf (.ref (b.1 + x))⟩ (fun j _ => vp_updV_set (by rw [List.length_map]; exact h2) (.ref (b.1 + x)) j)⟩ e3
  rw [hp_fset] at hP9
  have e8 : (hp_w A b h).set i (b.1 + i, hp_e A b (.inl (ci, fs.set kf (.ref x)))) = hp_w A b (h.set i (.inl (ci, fs.set kf (.ref x)))) := hp_w_set h i _
  exact kk p e R s m args below meth c Z D A b H' _ ls cells slots mc ms F a1 a2 ⟨fun z => by rw [e2, List.length_set]; exact hP.1 z, by rw [← e8]; exact hP9⟩ (hS.put e2 e3 (Nat.le_add_right _ _)) hl
theorem hp_iaload {i : Nat} {j x : Int32} (hdg : decode cc pc = .ok (.iaload, 1)) (hx : al_ h i j = some x) (kk : hp_G l (own, cc, nL, rt, ini) X d zr Q zz k n (pc + 1) lv (.int x :: st) h) : hp_G l (own, cc, nL, rt, ini) X d zr Q zz k n pc lv (.int j :: .ref i :: st) h := by
  intro p e R s m args below meth c Z D A b H locs ls cells slots mc ms F a1 a2 hP hS hl
  obtain ⟨q, f, h1, h2, h3⟩ := al_inv hx
  subst h3
  exact va_iald (D := D) F.1.1 F.1.2.1 F.2.1.1 hP.2 i 0 (hp_w_at h1) rfl h2 hdg (kk p e R s m args below meth c Z D A b H locs ls cells slots mc ms F a1 a2 hP hS hl)
theorem hp_aaload {i : Nat} {j : Int32} {x : Nat} (hdg : decode cc pc = .ok (.aaload, 1)) (hx : ql_ h i j = some x) (kk : hp_G l (own, cc, nL, rt, ini) X d zr Q zz k n (pc + 1) lv (.ref x :: st) h) : hp_G l (own, cc, nL, rt, ini) X d zr Q zz k n pc lv (.int j :: .ref i :: st) h := by
  intro p e R s m args below meth c Z D A b H locs ls cells slots mc ms F a1 a2 hP hS hl
  obtain ⟨t, q, f, h1, ht, h2, h3⟩ := ql_inv hx
  have hgo := (kk p e R s m args below meth c Z D A b H locs ls cells slots mc ms F a1 a2 hP hS hl)
  have e1 : Option.map (fun i => b.1 + i) (f j.toNatClampNeg) = some (b.1 + x) := by simp [h3]
  rcases (show t = 0 ∨ t = 1 by omega) with rfl | rfl
  · refine va_aldq (D := D) F.1.1 F.1.2.1 F.2.1.1 hP.2 i 1 (C := RX2) (hp_w_at h1) rfl h2 hdg ?_
    dsimp only
    rw [e1]
    exact hgo
  · refine va_aldq (D := D) F.1.1 F.1.2.1 F.2.1.1 hP.2 i 2 (C := RX5) (hp_w_at h1) rfl h2 hdg ?_
    dsimp only
    rw [e1]
    exact hgo
theorem hp_alen {i : Nat} {x : Int32} (hdg : decode cc pc = .ok (.arraylength, 1)) (hx : ln_ h i = some x) (kk : hp_G l (own, cc, nL, rt, ini) X d zr Q zz k n (pc + 1) lv (.int x :: st) h) : hp_G l (own, cc, nL, rt, ini) X d zr Q zz k n pc lv (.ref i :: st) h := by
  intro p e R s m args below meth c Z D A b H locs ls cells slots mc ms F a1 a2 hP hS hl
  obtain ⟨q, f, h1, h2⟩ := ln_inv hx
  exact va_alen (D := D) F.1.1 F.1.2.1 F.2.1.1 hP.2 i 0 (hp_w_at h1) rfl h2 hdg (kk p e R s m args below meth c Z D A b H locs ls cells slots mc ms F a1 a2 hP hS hl)
theorem hp_iastore {i : Nat} {j x : Int32} {h' : hp_H} (hdg : decode cc pc = .ok (.iastore, 1)) (hx : ax_ h i j x = some h') (kk : hp_G l (own, cc, nL, rt, ini) X d zr Q zz k n (pc + 1) lv st h') : hp_G l (own, cc, nL, rt, ini) X d zr Q zz k n pc lv (.int x :: .int j :: .ref i :: st) h := by
  intro p e R s m args below meth c Z D A b H locs ls cells slots mc ms F a1 a2 hP hS hl
  obtain ⟨q, f, h1, h2, h3⟩ := ax_inv hx
  subst h3
  have ha := hp_w_at (A := A) (b := b) h1
  refine W.iast F.1.1 F.1.2.1 (hP.2 i _ ha) ((F.2.1.1.2 0 _ rfl).1 q (fun j => .int (f j))) (fun q => by cases q) (by show ¬ (j < 0 ∨ (arrV _ _ _).slots.size ≤ _); rw [arrV_size]; exact h2) rfl rfl hdg fun H1 e1 z oq => ?_
  have hP9 := hP.2.set (hp_D A b h) ha (e := hp_e A b (.inr (.inl (q, upd f j.toNatClampNeg x)))) (H1 := H1) (by
    show H1[b.1 + i]? = some (vp_cell _ _)
    rw [e1]
    show some (Cell.setSlot (vp_cell _ _) _ _) = some (vp_cell _ _)
    rw [vp_cell_i, vp_cell_i, arrV_store]
    congr 2
    funext r
    by_cases hq : r = j.toNatClampNeg
    · subst hq
      simp [updV, upd]
    · simp [updV, upd, hq]) oq
  rw [hp_w_set] at hP9
  exact kk p e R s m args below meth c Z D A b H1 _ ls cells slots mc ms F a1 a2 ⟨fun y => by rw [z, List.length_set]; exact hP.1 y, hP9⟩ (hS.put z oq (Nat.le_add_right _ _)) hl
theorem hp_aastore {t ci i : Nat} {j : Int32} {v : Nat} {r : vw_C} {h' : hp_H} (hci : vwCl[ci]? = some r) (ht : (t = 0 ∧ r.1 = RX2) ∨ (t = 1 ∧ r.1 = RX5)) (hdg : decode cc pc = .ok (.aastore, 1)) (hx : qx_ h t ci i j v = some h') (kk : hp_G l (own, cc, nL, rt, ini) X d zr Q zz k n (pc + 1) lv st h') : hp_G l (own, cc, nL, rt, ini) X d zr Q zz k n pc lv (.ref v :: .int j :: .ref i :: st) h := by
  intro p e R s m args below meth c Z D A b H locs ls cells slots mc ms F a1 a2 hP hS hl
  obtain ⟨q, f, vs, h1, h2, hv, h3⟩ := qx_inv hx
  subst h3
  have ha := hp_w_at (A := A) (b := b) h1
  have hvv := hp_w_at (A := A) (b := b) hv
  have hlt : j.toNatClampNeg < q := Nat.not_le.mp fun z => h2 (Or.inr z)
  have h0 : ¬ j < 0 := fun z => h2 (Or.inl z)
  have hK := F.2.1.1
  obtain ⟨r', hr', cellV, g1, g2, g3, -⟩ := hP.2 v _ hvv
  have hcls := (hK.1 ci r hci).2
  have hRA : va_RA s (A (t + 1)) (.object r.1) := by
    rcases ht with ⟨rfl, h9⟩ | ⟨rfl, h9⟩
    · rw [h9]; exact (hK.2 1 _ rfl).2
    · rw [h9]; exact (hK.2 2 _ rfl).2
  obtain ⟨kA, comp, k1, k2, k3, -⟩ := hRA
  have hcomp : comp = D.1 ci := Option.some.inj (k3.symm.trans hcls.1)
  subst hcomp
  obtain ⟨kC, hkC, -⟩ := hcls.2
  refine W.aast F.1.1 F.1.2.1 (hP.2 i _ ha) (fun q h => by cases h) (fun h => by cases h) k1 k2 rfl hkC ⟨h0, by show _ < (arrV _ _ _).slots.size; rw [arrV_size]; exact hlt⟩ g1 (fun q h => by rw [g3] at h; cases h) (by rw [g2]; exact hkC) (by rw [g2]; exact va_assign hcls) rfl rfl hdg fun H1 e1 z oq => ?_
  have hP9 := hP.2.set (hp_D A b h) ha (e := hp_e A b (.inr (.inr (t, q, va_up f j.toNatClampNeg (some v))))) (H1 := H1) (by
    show H1[b.1 + i]? = some (vp_cell _ _)
    rw [e1]
    show some (Cell.setSlot (vp_cell _ _) _ _) = some (vp_cell _ _)
    rw [vp_cell_q, vp_cell_q, arrV_store]
    congr 2
    funext r
    by_cases hq : r = j.toNatClampNeg
    · subst hq
      simp [updV, va_up, va_rf]
    · simp [updV, va_up, hq]) oq
  rw [hp_w_set] at hP9
  exact kk p e R s m args below meth c Z D A b H1 _ ls cells slots mc ms F a1 a2 ⟨fun y => by rw [z, List.length_set]; exact hP.1 y, hP9⟩ (hS.put z oq (Nat.le_add_right _ _)) hl
theorem hp_sload {q : Nat × (Nat → Int32)} {j : Int32} {u : UInt32} (hX : X = some q) (hj : vp_in j q.1) (hdg : decode cc pc = .ok (.iaload, 1)) (kk : hp_G l (own, cc, nL, rt, ini) X d zr Q zz k n (pc + 1) lv (.int (q.2 j.toNatClampNeg) :: st) h) : hp_G l (own, cc, nL, rt, ini) X d zr Q zz k n pc lv (.int j :: .float u :: st) h := by
  intro p e R s m args below meth c Z D A b H locs ls cells slots mc ms F a1 a2 hP hS hl
  obtain ⟨x1, x2, x3⟩ := F.2.2.2.1 q hX
  exact va_sld F.1.1 F.1.2.1 x1 x2 (by omega) hS hj hdg (kk p e R s m args below meth c Z D A b H locs ls cells slots mc ms F a1 a2 hP hS hl)
theorem hp_slen {q : Nat × (Nat → Int32)} {u : UInt32} (hX : X = some q) (hdg : decode cc pc = .ok (.arraylength, 1)) (kk : hp_G l (own, cc, nL, rt, ini) X d zr Q zz k n (pc + 1) lv (.int (Int32.ofNat q.1) :: st) h) : hp_G l (own, cc, nL, rt, ini) X d zr Q zz k n pc lv (.float u :: st) h := by
  intro p e R s m args below meth c Z D A b H locs ls cells slots mc ms F a1 a2 hP hS hl
  obtain ⟨x1, x2, x3⟩ := F.2.2.2.1 q hX
  exact va_slen F.1.1 F.1.2.1 x1 x2 (by omega) hS hdg (kk p e R s m args below meth c Z D A b H locs ls cells slots mc ms F a1 a2 hP hS hl)
theorem hp_copy {idx i o : Nat} {sp dp q : Int32} {h' : hp_H} (hw : ∀ w ∈ ([.methodLink own idx arraycopyName, .native arraycopyName, .static arraycopyName, .initialized "java/lang/System"] : List Cond), w ∈ tg_) (hd : 1 ≤ d ∧ (st.map fun v => v.category).sum + (nativeFrameWords "java/lang/System" "arraycopy" 5 + 11) ≤ 40 * d) (hdg : decode cc pc = .ok (.invokestatic idx, 3)) (hx : cp_ h i sp o dp q = some h') (kk : hp_G l (own, cc, nL, rt, ini) X d zr Q false k n (pc + 3) lv st h') : hp_G l (own, cc, nL, rt, ini) X d zr Q false k n pc lv (.int q :: .int dp :: .ref o :: .int sp :: .ref i :: st) h := by
  intro p e R s m args below meth c Z D A b H locs ls cells slots mc ms F a1 a2 hP hS hl
  obtain ⟨n0, f, n1, g, h1, h2, e1, e2, e3, e4, e5, h3⟩ := cp_inv hx
  subst h3
  have hts := F.1.2.2.2.2.2.2.1
  refine va_copyi (D := D) F.1.1 F.1.2.1 (F.1.2.2.1.trans hl.1.symm) F.1.2.2.2.2.1 (hts _ (hw _ (by simp))) (hts _ (hw _ (by simp))) (hts _ (hw _ (by simp))) (hts _ (hw _ (by simp))) F.2.1.1 hP.2 (hp_D A b h) hS i o 0 0 (hp_w_at h1) (hp_w_at h2) rfl rfl rfl e1 e2 e3 e4 e5 (fun _ _ => rfl) (Nat.le_trans hd.1 F.2.2.2.2.1.1) (by rw [hp_wcat]; exact Nat.le_trans hd.2 F.2.2.2.2.1.2.1) hdg (fun H1 locs1 hP1 _ hS1 => ?_)
  have e8 : (hp_w A b h).set o (b.1 + o, hp_e A b (.inr (.inl (n1, va_cpy f g sp.toNatClampNeg dp.toNatClampNeg q.toNatClampNeg)))) = hp_w A b (h.set o (.inr (.inl (n1, va_cpy f g sp.toNatClampNeg dp.toNatClampNeg q.toNatClampNeg)))) := hp_w_set h o _
  exact kk p e R s m args below meth c Z D A b H1 locs1 ls cells slots mc ms F a1 a2 ⟨fun z => (by cases z), by rw [← e8]; exact hP1⟩ hS1 hl
end HPH
